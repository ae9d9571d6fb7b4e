/-! call, led, told, lose, marks: class and reference -/
theorem XJ_call {K : Ca} {kd : Nat → Nat} {nt late : Nat} {n l : Int32} {f0 f1 f2 f3 f4 f5 f6 kinds : Nat → Int32} (h : CS K kd nt late n f0 f1 f2 f3 f4 f5 f6 kinds l) {st : Nat → Int32} (hK : RK K (ce K) st) {told : Bool} (h0 : told = false → cm K = 0) (v1 v2 : Int32) :
    ∃ rs tb, F_X9_call n f0 f1 f2 f3 f4 f5 f6 v1 v2 = some (rs, tb) ∧ F_X10_call (nI (if told = true then 1 else 0)) st v1 v2 = some (rs, nI 0, tb) := by
  have hm := h.2.1.1
  have hno1 : F_X10_no 1 = some (-1, nI 1) := rfl
  have hre1 : F_X9_refused 1 = some (-1, nI 1) := rfl
  unfold F_X9_call F_X10_call F_X10_good F_X9_call_b21 F_X10_call_b36
  rw [z_b2, h.1.1, X0_has hm, z_b1, X10_isCall (by omega) h0 hK.1, z_b1, hno1, hre1, z_b2, z_b2]
  rcases e : tin (cm K) v1 with _ | c
  · rw [ifn, if_pos n0_0, if_pos n0_0]
    exact ⟨_, _, rfl, rfl⟩
  · obtain ⟨rfl, hc⟩ := tin_lt hm e
    obtain ⟨g0, g1, g2, g3, g4, g5, g6⟩ := hK.2 c hc
    obtain ⟨w0, w1, w2, w3, w4, w5, w6⟩ := h.1.2 c hc
    obtain ⟨y1, y2, y3, y4, y5, y6, y7, y8⟩ := h.2.1.2 c hc
    have hnt := h.2.2.1
    have y3' := y3.1
    rw [ifs, if_neg n1_0, if_neg n1_0, X10_within, z_b1]
    by_cases d : 0 ≤ v2 ∧ v2 ≤ 6
    · obtain ⟨v, rfl, hv⟩ := nI_bnd (N := 6) (v := v2) (by omega) d.1 d.2
      have kv : (7 : Int32) * nI c + nI v = nI (7 * c + v) := by rw [zl_7, zq_mul, zq_add]
      have kv' : (nI (7 * c + v)).toNatClampNeg = 7 * c + v := zd_cl (by omega)
      have e5 : F_X9_answered (ce K c) = some (ce K c, nI 0) := by
        rcases y6 with q | ⟨en, e1, e2, e3⟩
        · rw [q]; exact X9_answered (by decide) (by decide)
        · rw [e1]; exact X9_answeredN (by omega)
      have e6 : F_X9_answered (cv K c) = some (cv K c, nI 0) := by
        by_cases o : ce K c = -2
        · rw [y7 o]; exact X9_answered (by decide) (by decide)
        · obtain ⟨u, hu, hu9⟩ := y8 o
          rw [hu]; exact X9_answeredN (by omega)
      rw [if_pos d, if_neg n1_0, if_neg (nlt_le.mpr d.1), if_pos d.2, kv, if_neg (nI_in (by omega) (by omega)), kv']
      unfold F_X0_seen
      have hc20 : c < 20 := by omega
      have hv7 : v = 0 ∨ v = 1 ∨ v = 2 ∨ v = 3 ∨ v = 4 ∨ v = 5 ∨ v = 6 := by omega
      rcases hv7 with rfl | rfl | rfl | rfl | rfl | rfl | rfl
      · rw [if_pos (by decide), X0_cashierOf hc20, z_b1, z_b1, w0, X9_answeredN (by omega), z_b2, Nat.add_zero, g0]; exact ⟨_, _, rfl, rfl⟩
      · rw [if_neg (by decide), if_pos (by decide), X0_tillOf hc20, z_b1, z_b1, w1, X9_answeredN (by omega), z_b2, g1]; exact ⟨_, _, rfl, rfl⟩
      · rw [if_neg (by decide), if_neg (by decide), if_pos (by decide), X0_actOf hc20, z_b1, z_b1, w2, X9_answeredN (by omega), z_b2, g2]; exact ⟨_, _, rfl, rfl⟩
      · rw [if_neg (by decide), if_neg (by decide), if_neg (by decide), if_pos (by decide), X0_wholeOf hc20, z_b1, z_b1, w3, X9_answeredN (by omega), z_b2, g3]; exact ⟨_, _, rfl, rfl⟩
      · rw [if_neg (by decide), if_neg (by decide), if_neg (by decide), if_neg (by decide), if_pos (by decide), X0_beginOf hc20, z_b1, z_b1, w4, X9_answeredN (by omega), z_b2, g4]; exact ⟨_, _, rfl, rfl⟩
      · rw [if_neg (by decide), if_neg (by decide), if_neg (by decide), if_neg (by decide), if_neg (by decide), if_pos (by decide), X0_endOf hc20, z_b1, z_b1, w5, e5, z_b2, g5]; exact ⟨_, _, rfl, rfl⟩
      · rw [if_neg (by decide), if_neg (by decide), if_neg (by decide), if_neg (by decide), if_neg (by decide), if_neg (by decide), X0_answerOf hc20, z_b1, z_b1, w6, e6, z_b2, g6]; exact ⟨_, _, rfl, rfl⟩
    · rw [if_neg d, if_pos n0_0]
      refine ⟨-1, nI 1, ?_, rfl⟩
      by_cases d1 : v2 < 0
      · rw [if_pos d1]
      · rw [if_neg d1, if_neg (fun g => d ⟨nlt_le.mp d1, g⟩)]
/-- the i-th open call from a on, of m -/
theorem XJ_led4 {K : Ca} {st : Nat → Int32} (hK : RK K (ce K) st) (hm : cm K ≤ 20) {f5 : Nat → Int32} (h5 : ∀ c, c < cm K → f5 c = ce K c) {hb : Int32} (hb0 : ¬ hb = 0) {v : Int32} : ∀ (j kc kr i o : Nat), j < kc → j < kr → i + j = cm K → o ≤ i →
    ∃ r : Option Nat, (∀ c, r = some c → c < 20) ∧ F_X0_openAt_b4 (nI (cm K)) f5 kc (v - nI o) (nI i) = some (o32 r) ∧ F_X10_led_b4 hb st v kr (nI o) (nI i) = some (match r with | none => (0, 1) | some c => (nI c, 0))
  | 0, kc, kr, i, o, hj, hj2, hi, ho => by
    obtain ⟨g, rfl⟩ : ∃ g, kc = g + 1 := ⟨kc - 1, by omega⟩
    obtain ⟨g2, rfl⟩ : ∃ g, kr = g + 1 := ⟨kr - 1, by omega⟩
    have : i = cm K := by omega
    subst this
    have h141 : (141 : Int32).toNatClampNeg = 141 := rfl
    have hle : nI (cm K) ≤ nI (cm K) := by rw [zd_le (by omega) (by omega)]; omega
    refine ⟨none, (fun c h => by cases h), ?_, ?_⟩
    · rw [F_X0_openAt_b4, if_pos hle]; rfl
    · rw [F_X10_led_b4, if_neg hb0, h141, hK.1, if_pos hle]; rfl
  | j + 1, kc, kr, i, o, hj, hj2, hi, ho => by
    obtain ⟨g, rfl⟩ : ∃ g, kc = g + 1 := ⟨kc - 1, by omega⟩
    obtain ⟨g2, rfl⟩ : ∃ g, kr = g + 1 := ⟨kr - 1, by omega⟩
    have h141 : (141 : Int32).toNatClampNeg = 141 := rfl
    have hlt : ¬ nI (cm K) ≤ nI i := by rw [zd_le (by omega) (by omega)]; omega
    have k5 : (7 : Int32) * nI i + 5 = nI (7 * i + 5) := by rw [zl_7, zl_5, zq_mul, zq_add]
    have k5' : (nI (7 * i + 5)).toNatClampNeg = 7 * i + 5 := zd_cl (by omega)
    have j1 : nI i + (1 : Int32) = nI (i + 1) := by rw [zl_1, zq_add]
    have j2 : nI o + (1 : Int32) = nI (o + 1) := by rw [zl_1, zq_add]
    have j3 : v - nI o + (-1 : Int32) = v - nI (o + 1) := by
      rw [← j2, Int32.sub_eq_add_neg, Int32.sub_eq_add_neg, Int32.neg_add, Int32.add_assoc, Int32.sub_eq_add_neg]
    have hz : (v - nI o = 0) = (nI o = v) := by
      apply propext
      constructor
      · intro h
        have h2 := Int32.sub_add_cancel v (nI o)
        rw [h, Int32.zero_add] at h2
        exact h2
      · intro h; rw [h]; exact Int32.sub_self v
    rw [F_X0_openAt_b4, if_neg hlt, X0_isOpen (by omega), z_b1, h5 i (by omega), F_X10_led_b4, if_neg hb0, h141, hK.1, if_neg hlt, k5, if_neg (nI_in (by omega) (by omega)), k5', (hK.2 i (by omega)).2.2.2.2.2.1]
    unfold F_X0_openAt_b29 F_X10_led_b57
    rw [j1, j2, j3]
    by_cases d : ce K i = -2
    · rw [if_pos d, if_neg n1_0, if_pos d]
      simp only [hz]
      by_cases q : nI o = v
      · rw [if_pos q, if_pos q]
        exact ⟨some i, (fun c h => by injection h with h; omega), rfl, rfl⟩
      · rw [if_neg q, if_neg q]
        exact XJ_led4 hK hm h5 hb0 j g g2 (i + 1) (o + 1) (by omega) (by omega) (by omega) (by omega)
    · rw [if_neg d, if_pos n0_0, if_neg d]
      exact XJ_led4 hK hm h5 hb0 j g g2 (i + 1) o (by omega) (by omega) (by omega) (by omega)
theorem XJ_led {fu : Nat} (hfu : 20000 ≤ fu) {K : Ca} {kd : Nat → Nat} {nt late : Nat} {n l : Int32} {f0 f1 f2 f3 f4 f5 f6 kinds : Nat → Int32} (h : CS K kd nt late n f0 f1 f2 f3 f4 f5 f6 kinds l) {st : Nat → Int32} (hK : RK K (ce K) st) {told : Bool} (h0 : told = false → cm K = 0) (v : Int32) :
    ∃ r : Option Nat, (∀ c, r = some c → c < 20) ∧ F_X0_openAt fu n f5 v = some (o32 r) ∧ F_X10_led fu (nI (if told = true then 1 else 0)) st v = some (match r with | none => (0, 1) | some c => (nI c, 0)) := by
  have hm := h.2.1.1
  unfold F_X0_openAt F_X10_led
  rw [h.1.1]
  rcases told
  · have hz := h0 rfl
    obtain ⟨g, rfl⟩ : ∃ g, fu = g + 1 := ⟨fu - 1, by omega⟩
    refine ⟨none, (fun c h => by cases h), ?_, ?_⟩
    · rw [hz, F_X0_openAt_b4, if_pos (by decide)]; rfl
    · rw [F_X10_led_b4, if_pos (show nI (if false = true then 1 else 0) = 0 by decide)]; rfl
  · have hv : v = v - nI 0 := by
      have := Int32.sub_zero v
      exact this.symm
    have := XJ_led4 hK hm (fun c hc => (h.1.2 c hc).2.2.2.2.2.1) (show ¬ nI (if true = true then 1 else 0) = 0 by decide) (v := v) (cm K) fu fu 0 0 (by omega) (by omega) (by omega) (by omega)
    rw [← hv] at this
    exact this
theorem XJ_told {fu : Nat} (hfu : 20000 ≤ fu) {K : Ca} {kd : Nat → Nat} {nt nq late s mk fed : Nat} {n l : Int32} {f0 f1 f2 f3 f4 f5 f6 kinds : Nat → Int32} (h : CS K kd nt late n f0 f1 f2 f3 f4 f5 f6 kinds l) {st r : Nat → Int32} (hK : RK K (ce K) st) (hr : RLy kd nt late r) (hr6 : r 6 = nI nq) (hst : st 140 = nI s) {told : Bool} (h0 : told = false → cm K = 0 ∧ nt = 0 ∧ nq = 0 ∧ late = 0 ∧ s = 0 ∧ mk = 0) (v : Int32) :
    ∃ rs, F_X9_told fu (nI mk) (nI s) (nI nt) (nI nq) l n f5 (nI fed) v = some rs ∧ F_X10_told fu (nI fed) (nI (if told = true then 1 else 0)) (nI mk) r st v = some (rs, nI 0) := by
  have hm := h.2.1.1
  have h141 : (141 : Int32).toNatClampNeg = 141 := rfl
  have h140 : (140 : Int32).toNatClampNeg = 140 := rfl
  have h2 : (2 : Int32).toNatClampNeg = 2 := rfl
  have h6 : (6 : Int32).toNatClampNeg = 6 := rfl
  have hz : (0 : Int32).toNatClampNeg = 0 := rfl
  have hE := Es_lt K hm
  have e1 : F_X0_endedOnes fu n f5 = some (nI (Es K)) := by
    rw [h.1.1, X0_endedOnes hfu hm]
    unfold Es
    have : msk (fun c => decide (f5 c ≠ -2)) (cm K) = msk (enb K) (cm K) := msk_cong (fun c hc => by
      unfold enb
      rw [(h.1.2 c hc).2.2.2.2.2.1]
      simp [hc])
    rw [this]
  unfold F_X9_told F_X10_told
  rw [e1, z_b1, J6_bits hE.2, z_b1, X10_endedCalls hfu hK hm, z_b1, X10_bits hfu hE.2, z_b1, h141, h140, h2, h6, hz, hr.2.1, hr6, hr.1, hK.1, hst, h.1.1, h.2.2.2.2.2.1]
  by_cases c7 : v = 7
  · subst c7
    refine ⟨nI fed, ?_, by rw [if_pos rfl]; rfl⟩
    rw [if_neg (by decide), if_neg (by decide), if_neg (by decide), if_neg (by decide), if_neg (by decide), if_neg (by decide), if_neg (by decide), if_pos rfl]
  · rw [if_neg c7, if_neg c7]
    rcases told
    · obtain ⟨a1, a2, a3, a4, a5, a6⟩ := h0 rfl
      have hE0 : Es K = 0 := by unfold Es; rw [a1]; rfl
      rw [if_pos (show nI (if false = true then 1 else 0) = 0 by decide), X10_within, z_b1, hE0, a1, a2, a3, a4, a5, a6]
      by_cases d : 0 ≤ v ∧ v ≤ 6
      · obtain ⟨k, rfl, hk⟩ := nI_bnd (N := 6) (v := v) (by omega) d.1 d.2
        rw [if_pos d, if_neg n1_0]
        refine ⟨0, ?_, rfl⟩
        have hk7 : k = 0 ∨ k = 1 ∨ k = 2 ∨ k = 3 ∨ k = 4 ∨ k = 5 ∨ k = 6 := by omega
        rcases hk7 with rfl | rfl | rfl | rfl | rfl | rfl | rfl <;> rfl
      · rw [if_neg d, if_pos n0_0]
        refine ⟨-1, ?_, rfl⟩
        rw [if_neg (fun g => d (by rw [g]; decide)), if_neg (fun g => d (by rw [g]; decide)), if_neg (fun g => d (by rw [g]; decide)), if_neg (fun g => d (by rw [g]; decide)), if_neg (fun g => d (by rw [g]; decide)), if_neg (fun g => d (by rw [g]; decide)), if_neg (fun g => d (by rw [g]; decide))]
    · rw [if_neg (show ¬ nI (if true = true then 1 else 0) = 0 by decide)]
      by_cases c0 : v = 0
      · rw [if_pos c0, if_pos c0]; exact ⟨_, rfl, rfl⟩
      rw [if_neg c0, if_neg c0]
      by_cases c1 : v = 1
      · rw [if_pos c1, if_pos c1]; exact ⟨_, rfl, rfl⟩
      rw [if_neg c1, if_neg c1]
      by_cases c2 : v = 2
      · rw [if_pos c2, if_pos c2]; exact ⟨_, rfl, rfl⟩
      rw [if_neg c2, if_neg c2]
      by_cases c3 : v = 3
      · rw [if_pos c3, if_pos c3]; exact ⟨_, rfl, rfl⟩
      rw [if_neg c3, if_neg c3]
      by_cases c4 : v = 4
      · rw [if_pos c4, if_pos c4]; exact ⟨_, rfl, rfl⟩
      rw [if_neg c4, if_neg c4]
      by_cases c5 : v = 5
      · rw [if_pos c5, if_pos c5]; exact ⟨_, rfl, rfl⟩
      rw [if_neg c5, if_neg c5]
      by_cases c6 : v = 6
      · rw [if_pos c6, if_pos c6]; exact ⟨_, rfl, rfl⟩
      rw [if_neg c6, if_neg c6]
      exact ⟨_, rfl, rfl⟩
/-! lose -/
def drf {α : Type} (f : Nat → α) (c : Nat) : Nat → α := fun i => if i < c then f i else f (i + 1)
def drpK (K : Ca) (c : Nat) : Ca := (cm K - 1, drf (cq K) c, drf (ct K) c, drf (cac K) c, drf (cw K) c, drf (cb K) c, drf (ce K) c, drf (cv K) c)
theorem okC_drop {K : Ca} {kd : Nat → Nat} {nt c : Nat} (h : okC 4 nt kd K) (hc : c < cm K) : okC 4 nt kd (drpK K c) := by
  have hm := h.1
  refine ⟨by show cm K - 1 ≤ 20; omega, fun a ha => ?_⟩
  have ha' : a < cm K - 1 := ha
  show drf (cq K) c a < 4 ∧ drf (ct K) c a < nt ∧ okA (kd (drf (ct K) c a)) (drf (cac K) c a) ∧ drf (cw K) c a ≤ 9 ∧ drf (cb K) c a ≤ 999 ∧ endAt (drf (ce K) c a) (drf (cb K) c a) ∧ (drf (ce K) c a = -2 → drf (cv K) c a = -2) ∧ (drf (ce K) c a ≠ -2 → ∃ v, drf (cv K) c a = nI v ∧ v ≤ 99)
  unfold drf
  by_cases d : a < c
  · simp only [d, ↓reduceIte]
    exact h.2 a (by omega)
  · simp only [d, ↓reduceIte]
    exact h.2 (a + 1) (by omega)
theorem X0_dropFrom2 {f0 : Nat → Int32} {c : Nat} : ∀ (j kf i : Nat) (f : Nat → Int32), j < kf → i + j = 19 → c ≤ i → (∀ p, f p = if c ≤ p ∧ p < i then f0 (p + 1) else f0 p) →
    ∃ f', F_X0_dropFrom_b2 20 kf f (nI i) = some f' ∧ ∀ p, p < 19 → f' p = drf f0 c p
  | 0, kf, i, f, hj, hi, hci, hf => by
    obtain ⟨g, rfl⟩ : ∃ g, kf = g + 1 := ⟨kf - 1, by omega⟩
    have : i = 19 := by omega
    subst this
    refine ⟨f, by rw [F_X0_dropFrom_b2, if_pos (by decide)], fun p hp => ?_⟩
    rw [hf]
    unfold drf
    by_cases d : p < c
    · rw [if_neg (by omega), if_pos d]
    · rw [if_pos (by omega), if_neg d]
  | j + 1, kf, i, f, hj, hi, hci, hf => by
    obtain ⟨g, rfl⟩ : ∃ g, kf = g + 1 := ⟨kf - 1, by omega⟩
    have e20 : Int32.ofNat 20 = nI 20 := rfl
    have j1 : nI i + (1 : Int32) = nI (i + 1) := by rw [zl_1, zq_add]
    have k1 : (nI (i + 1)).toNatClampNeg = i + 1 := zd_cl (by omega)
    have k0 : (nI i).toNatClampNeg = i := zd_cl (by omega)
    rw [F_X0_dropFrom_b2, j1, e20, if_neg (by rw [zd_le (by omega) (by omega)]; omega), if_neg (nI_in (by omega) (by omega)), if_neg (nI_in (by omega) (by omega)), k0, k1]
    refine X0_dropFrom2 j g (i + 1) _ (by omega) (by omega) (by omega) (fun p => ?_)
    rw [z_upd, hf, hf]
    by_cases d : p = i
    · subst d
      rw [if_pos rfl, if_neg (by omega), if_pos (by omega)]
    · rw [if_neg d]
      by_cases q : c ≤ p ∧ p < i
      · rw [if_pos q, if_pos (by omega)]
      · rw [if_neg q, if_neg (by omega)]
theorem X0_dropFrom {fu : Nat} (hfu : 20000 ≤ fu) {c : Nat} (hc : c < 20) (f : Nat → Int32) : ∃ f', F_X0_dropFrom fu 20 f (nI c) = some f' ∧ ∀ p, p < 19 → f' p = drf f c p :=
  X0_dropFrom2 (19 - c) fu c f (by omega) (by omega) (Nat.le_refl _) (fun p => by rw [if_neg (by omega)])
theorem X0_drop {fu : Nat} (hfu : 20000 ≤ fu) {K : Ca} {n : Int32} {f0 f1 f2 f3 f4 f5 f6 : Nat → Int32} (h : RC K n f0 f1 f2 f3 f4 f5 f6) (hm : cm K ≤ 20) {c : Nat} (hc : c < cm K) :
    ∃ n' f0' f1' f2' f3' f4' f5' f6', F_X0_drop fu n f0 f1 f2 f3 f4 f5 f6 (nI c) = some (n', f0', f1', f2', f3', f4', f5', f6') ∧ RC (drpK K c) n' f0' f1' f2' f3' f4' f5' f6' := by
  have ht : tin (cm K) (nI c) = some c := by
    rw [tin_if ⟨by rw [zl_0, zd_le (by omega) (by omega)]; omega, by rw [zd_lt (by omega) (by omega)]; exact hc⟩, zd_cl (by omega)]
  obtain ⟨f0', e0, h0⟩ := X0_dropFrom hfu (by omega : c < 20) f0
  obtain ⟨f1', e1, h1⟩ := X0_dropFrom hfu (by omega : c < 20) f1
  obtain ⟨f2', e2, h2⟩ := X0_dropFrom hfu (by omega : c < 20) f2
  obtain ⟨f3', e3, h3⟩ := X0_dropFrom hfu (by omega : c < 20) f3
  obtain ⟨f4', e4, h4⟩ := X0_dropFrom hfu (by omega : c < 20) f4
  obtain ⟨f5', e5, h5⟩ := X0_dropFrom hfu (by omega : c < 20) f5
  obtain ⟨f6', e6, h6⟩ := X0_dropFrom hfu (by omega : c < 20) f6
  refine ⟨nI (cm K - 1), f0', f1', f2', f3', f4', f5', f6', ?_, rfl, fun a ha => ?_⟩
  · unfold F_X0_drop
    have e : nI (cm K) - (1 : Int32) = nI (cm K - 1) := by rw [zl_1, zq_sub (by omega)]
    rw [h.1, X0_has hm, z_b1, ht, ifs, if_neg n1_0, e0, z_b1, e1, z_b1, e2, z_b1, e3, z_b1, e4, z_b1, e5, z_b1, e6, z_b1, e]
  · have ha' : a < cm K - 1 := ha
    rw [h0 _ (by omega), h1 _ (by omega), h2 _ (by omega), h3 _ (by omega), h4 _ (by omega), h5 _ (by omega), h6 _ (by omega)]
    show drf f0 c a = nI (drf (cq K) c a) ∧ drf f1 c a = nI (drf (ct K) c a) ∧ drf f2 c a = nI (drf (cac K) c a) ∧ drf f3 c a = nI (drf (cw K) c a) ∧ drf f4 c a = nI (drf (cb K) c a) ∧ drf f5 c a = drf (ce K) c a ∧ drf f6 c a = drf (cv K) c a
    unfold drf
    by_cases d : a < c
    · simp only [d, ↓reduceIte]
      exact h.2 a (by omega)
    · simp only [d, ↓reduceIte]
      exact h.2 (a + 1) (by omega)
theorem X10_lose75 {m : Nat} (hm : m < 20) {st0 : Nat → Int32} : ∀ (j kf i : Nat) (st : Nat → Int32), j < kf → i + j = 7 → st 141 = nI m → (∀ p, (p < 7 * m ∨ 7 * m + 7 ≤ p) → st p = st0 p) →
    ∃ st', F_X10_lose_b75 (nI 0) (nI 0) kf st (nI i) = some (1, nI 0, nI 0, st') ∧ ∀ p, (p < 7 * m ∨ 7 * m + 7 ≤ p) → st' p = st0 p
  | 0, kf, i, st, hj, hi, h1, hf => by
    obtain ⟨g, rfl⟩ : ∃ g, kf = g + 1 := ⟨kf - 1, by omega⟩
    have : i = 7 := by omega
    subst this
    exact ⟨st, by rw [F_X10_lose_b75, if_pos (by decide)], hf⟩
  | j + 1, kf, i, st, hj, hi, h1, hf => by
    obtain ⟨g, rfl⟩ : ∃ g, kf = g + 1 := ⟨kf - 1, by omega⟩
    have h141 : (141 : Int32).toNatClampNeg = 141 := rfl
    have j1 : nI i + (1 : Int32) = nI (i + 1) := by rw [zl_1, zq_add]
    have k1 : (7 : Int32) * nI m + nI i = nI (7 * m + i) := by rw [zl_7, zq_mul, zq_add]
    have k1' : (nI (7 * m + i)).toNatClampNeg = 7 * m + i := zd_cl (by omega)
    rw [F_X10_lose_b75, if_neg (by rw [zl_7, zd_le (by omega) (by omega)]; omega), h141, h1, k1, if_neg (nI_in (by omega) (by omega)), k1', j1]
    exact X10_lose75 hm j g (i + 1) _ (by omega) (by omega) (by rw [z_upd, if_neg (by omega)]; exact h1) (fun p hp => by rw [z_upd, if_neg (by omega)]; exact hf p hp)
theorem X10_lose23 {fu : Nat} (hfu : 20000 ≤ fu) {m c : Nat} (hm : m < 20) (hc : c ≤ m) {st0 : Nat → Int32} : ∀ (j kf i : Nat) (st : Nat → Int32), j < kf → i + j = 7 * m → 7 * c ≤ i → st0 141 = nI (m + 1) → (∀ p, st p = if 7 * c ≤ p ∧ p < i then st0 (p + 7) else st0 p) →
    ∃ st', F_X10_lose_b23 fu (nI 0) (nI 0) kf st (nI i) = some (1, nI 0, nI 0, st') ∧ st' 141 = nI m ∧ st' 140 = st0 140 ∧ ∀ p, p < 7 * m → st' p = if 7 * c ≤ p then st0 (p + 7) else st0 p
  | 0, kf, i, st, hj, hi, hci, h1, hf => by
    obtain ⟨g, rfl⟩ : ∃ g, kf = g + 1 := ⟨kf - 1, by omega⟩
    have : i = 7 * m := by omega
    subst this
    have h141 : (141 : Int32).toNatClampNeg = 141 := rfl
    have e1 : st 141 = nI (m + 1) := by rw [hf, if_neg (by omega)]; exact h1
    have e2 : nI (m + 1) - (1 : Int32) = nI m := by rw [zl_1, zq_sub (by omega)]; rfl
    have e3 : (7 : Int32) * nI m = nI (7 * m) := by rw [zl_7, zq_mul]
    obtain ⟨st', e4, e5⟩ := X10_lose75 hm (st0 := upd st 141 (nI m)) 7 fu 0 (upd st 141 (nI m)) (by omega) (by omega) (by rw [z_upd, if_pos rfl]) (fun p hp => rfl)
    have e4' : F_X10_lose_b75 (nI 0) (nI 0) fu (upd st 141 (nI m)) 0 = _ := e4
    refine ⟨st', ?_, ?_, ?_, fun p hp => ?_⟩
    · rw [F_X10_lose_b23, h141, e1, e2, e3, if_pos (by rw [zd_le (by omega) (by omega)]; omega), e4']
    · rw [e5 _ (by omega), z_upd, if_pos rfl]
    · rw [e5 _ (by omega), z_upd, if_neg (by omega), hf, if_neg (by omega)]
    · rw [e5 _ (by omega), z_upd, if_neg (by omega), hf]
      by_cases d : 7 * c ≤ p
      · rw [if_pos (by omega), if_pos d]
      · rw [if_neg (by omega), if_neg d]
  | j + 1, kf, i, st, hj, hi, hci, h1, hf => by
    obtain ⟨g, rfl⟩ : ∃ g, kf = g + 1 := ⟨kf - 1, by omega⟩
    have h141 : (141 : Int32).toNatClampNeg = 141 := rfl
    have e1 : st 141 = nI (m + 1) := by rw [hf, if_neg (by omega)]; exact h1
    have e2 : nI (m + 1) - (1 : Int32) = nI m := by rw [zl_1, zq_sub (by omega)]; rfl
    have e3 : (7 : Int32) * nI m = nI (7 * m) := by rw [zl_7, zq_mul]
    have j1 : nI i + (1 : Int32) = nI (i + 1) := by rw [zl_1, zq_add]
    have j7 : nI i + (7 : Int32) = nI (i + 7) := by rw [zl_7, zq_add]
    have k7 : (nI (i + 7)).toNatClampNeg = i + 7 := zd_cl (by omega)
    have k0 : (nI i).toNatClampNeg = i := zd_cl (by omega)
    rw [F_X10_lose_b23, h141, e1, e2, e3, if_neg (by rw [zd_le (by omega) (by omega)]; omega), j7, if_neg (nI_in (by omega) (by omega)), if_neg (nI_in (by omega) (by omega)), k0, k7, j1]
    refine X10_lose23 hfu hm hc j g (i + 1) _ (by omega) (by omega) (by omega) h1 (fun p => ?_)
    rw [z_upd, hf, hf]
    by_cases d : p = i
    · subst d
      rw [if_pos rfl, if_neg (by omega), if_pos (by omega)]
    · rw [if_neg d]
      by_cases q : 7 * c ≤ p ∧ p < i
      · rw [if_pos q, if_pos (by omega)]
      · rw [if_neg q, if_neg (by omega)]
theorem XJ_lose {fu : Nat} (hfu : 20000 ≤ fu) {K : Ca} {kd : Nat → Nat} {nt late s : Nat} {n l : Int32} {f0 f1 f2 f3 f4 f5 f6 kinds : Nat → Int32} (h : CS K kd nt late n f0 f1 f2 f3 f4 f5 f6 kinds l) {st : Nat → Int32} (hK : RK K (ce K) st) {told : Bool} (h0 : told = false → cm K = 0) (hst : st 140 = nI s) (v1 : Int32) :
    ∃ K' rs tb n' f0' f1' f2' f3' f4' f5' f6' st', okC 4 nt kd K' ∧ cm K' ≤ cm K ∧ (rs = nI 0 ∨ rs = nI 1) ∧ F_X9_lose fu n f0 f1 f2 f3 f4 f5 f6 v1 = some (rs, tb, n', f0', f1', f2', f3', f4', f5', f6') ∧ RC K' n' f0' f1' f2' f3' f4' f5' f6' ∧ F_X10_lose fu (nI (if told = true then 1 else 0)) st v1 = some (rs, nI 0, tb, st') ∧ RK K' (ce K') st' ∧ st' 140 = nI s := by
  have hm := h.2.1.1
  have hno1 : F_X10_isNot 1 = some (0, nI 1) := rfl
  have hal1 : F_X9_allowed 1 = some (0, nI 1) := rfl
  have hal0 : F_X9_allowed 0 = some (1, nI 0) := rfl
  unfold F_X9_lose F_X10_lose F_X10_good
  rw [z_b2, h.1.1, X0_has hm, z_b1, X10_isCall (by omega) h0 hK.1, z_b1, hno1, hal1, hal0, z_b2, z_b2]
  rcases e : tin (cm K) v1 with _ | c
  · rw [ifn, if_pos n0_0, if_pos n0_0, if_neg (fun g => g (Or.inl rfl)), if_neg (fun g => g (Or.inl rfl))]
    exact ⟨K, _, _, _, f0, f1, f2, f3, f4, f5, f6, st, h.2.1, Nat.le_refl _, Or.inl rfl, rfl, ⟨rfl, h.1.2⟩, rfl, hK, hst⟩
  · obtain ⟨rfl, hc⟩ := tin_lt hm e
    obtain ⟨n', f0', f1', f2', f3', f4', f5', f6', e1, e2⟩ := X0_drop hfu (n := nI (cm K)) (f0 := f0) (f1 := f1) (f2 := f2) (f3 := f3) (f4 := f4) (f5 := f5) (f6 := f6) ⟨rfl, h.1.2⟩ hm hc
    obtain ⟨m, hmm⟩ : ∃ m, cm K = m + 1 := ⟨cm K - 1, by omega⟩
    obtain ⟨st', e3, e4, e5, e6⟩ := X10_lose23 hfu (m := m) (c := c) (by omega) (by omega) (st0 := st) (7 * m - 7 * c) fu (7 * c) st (by omega) (by omega) (Nat.le_refl _) (by rw [← hmm]; exact hK.1) (fun p => by rw [if_neg (by omega)])
    have k7 : (7 : Int32) * nI c = nI (7 * c) := by rw [zl_7, zq_mul]
    have e3' : F_X10_lose_b23 fu 0 0 fu st (nI (7 * c)) = _ := e3
    rw [ifs, if_neg n1_0, if_neg n1_0, e1, z_b8, z_b2, if_neg (fun g => g (Or.inr rfl)), k7, e3']
    refine ⟨drpK K c, _, _, _, _, _, _, _, _, _, _, st', okC_drop h.2.1 hc, by show cm K - 1 ≤ cm K; omega, Or.inr rfl, rfl, e2, rfl, ⟨?_, fun a ha => ?_⟩, by rw [e5]; exact hst⟩
    · show st' 141 = nI (cm K - 1)
      rw [e4, hmm]; rfl
    · have ha' : a < cm K - 1 := ha
      show st' (7 * a) = nI (drf (cq K) c a) ∧ st' (7 * a + 1) = nI (drf (ct K) c a) ∧ st' (7 * a + 2) = nI (drf (cac K) c a) ∧ st' (7 * a + 3) = nI (drf (cw K) c a) ∧ st' (7 * a + 4) = nI (drf (cb K) c a) ∧ st' (7 * a + 5) = drf (ce K) c a ∧ st' (7 * a + 6) = drf (cv K) c a
      have key : ∀ k, k < 7 → st' (7 * a + k) = if a < c then st (7 * a + k) else st (7 * (a + 1) + k) := by
        intro k hk
        rw [e6 _ (by omega)]
        by_cases d : a < c
        · rw [if_neg (by omega), if_pos d]
        · rw [if_pos (by omega), if_neg d]
          congr 1
          omega
      have y0 := key 0 (by omega)
      rw [Nat.add_zero, Nat.add_zero, Nat.add_zero] at y0
      rw [y0, key 1 (by omega), key 2 (by omega), key 3 (by omega), key 4 (by omega), key 5 (by omega), key 6 (by omega)]
      unfold drf
      by_cases d : a < c
      · simp only [d, ↓reduceIte]
        exact hK.2 a (by omega)
      · simp only [d, ↓reduceIte]
        exact hK.2 (a + 1) (by omega)
