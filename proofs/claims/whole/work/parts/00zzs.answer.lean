/-! answer, opens, late: class and reference -/
theorem RK_cls {K : Ca} {st st' : Nat → Int32} (h : RK K (ce K) st) {c : Nat} (hc : c < cm K) (hm : cm K ≤ 20) {e v : Int32} (h5 : st' (7 * c + 5) = e) (h6 : st' (7 * c + 6) = v) (ho : ∀ p, p ≠ 7 * c + 5 → p ≠ 7 * c + 6 → st' p = st p) : RK (clsK K c e v) (ce (clsK K c e v)) st' := by
  refine ⟨by rw [ho _ (by omega) (by omega)]; exact h.1, fun a ha => ?_⟩
  have ha' : a < cm K := ha
  obtain ⟨g0, g1, g2, g3, g4, g5, g6⟩ := h.2 a ha'
  refine ⟨by rw [ho _ (by omega) (by omega)]; exact g0, by rw [ho _ (by omega) (by omega)]; exact g1, by rw [ho _ (by omega) (by omega)]; exact g2, by rw [ho _ (by omega) (by omega)]; exact g3, by rw [ho _ (by omega) (by omega)]; exact g4, ?_, ?_⟩
  · show _ = (if a = c then e else ce K a)
    by_cases d : a = c
    · rw [if_pos d, d]; exact h5
    · rw [if_neg d, ho _ (by omega) (by omega)]; exact g5
  · show _ = (if a = c then v else cv K a)
    by_cases d : a = c
    · rw [if_pos d, d]; exact h6
    · rw [if_neg d, ho _ (by omega) (by omega)]; exact g6
theorem okC_open {K : Ca} {kd : Nat → Nat} {nt c : Nat} (h : okC 4 nt kd K) : okC 4 nt kd (clsK K c (-2) (-2)) := by
  refine ⟨h.1, fun a ha => ?_⟩
  have ha' : a < cm K := ha
  obtain ⟨g1, g2, g3, g4, g5, g6, g7, g8⟩ := h.2 a ha'
  refine ⟨g1, g2, g3, g4, g5, ?_, ?_, ?_⟩
  · show endAt (if a = c then -2 else ce K a) (cb K a)
    by_cases d : a = c
    · rw [if_pos d]; exact Or.inl rfl
    · rw [if_neg d]; exact g6
  · show (if a = c then -2 else ce K a) = -2 → (if a = c then -2 else cv K a) = -2
    by_cases d : a = c
    · rw [if_pos d, if_pos d]; exact fun _ => rfl
    · rw [if_neg d, if_neg d]; exact g7
  · show (if a = c then -2 else ce K a) ≠ -2 → ∃ v', (if a = c then -2 else cv K a) = nI v' ∧ v' ≤ 99
    by_cases d : a = c
    · rw [if_pos d]; exact fun q => absurd rfl q
    · rw [if_neg d, if_neg d]; exact g8
theorem tin_lt {m : Nat} {v : Int32} {c : Nat} (hm : m ≤ 20) (h : tin m v = some c) : v = nI c ∧ c < m := tin_some (by omega) h
theorem XJ_answer {K : Ca} {kd : Nat → Nat} {nt late s : Nat} {n l : Int32} {f0 f1 f2 f3 f4 f5 f6 kinds : Nat → Int32} (h : CS K kd nt late n f0 f1 f2 f3 f4 f5 f6 kinds l) {st : Nat → Int32} (hK : RK K (ce K) st) {told : Bool} (h0 : told = false → cm K = 0) (hst : st 140 = nI s) (v1 v2 : Int32) :
    ∃ K' rs tb f5' f6' st', okC 4 nt kd K' ∧ cm K' = cm K ∧ F_X9_answer n f5 f6 v1 v2 = some (rs, tb, f5', f6') ∧ RC K' n f0 f1 f2 f3 f4 f5' f6' ∧ F_X10_answer (nI (if told = true then 1 else 0)) st v1 v2 = some (rs, nI 0, tb, st') ∧ RK K' (ce K') st' ∧ st' 140 = nI s := by
  have hm := h.2.1.1
  have hno1 : F_X10_no 1 = some (-1, nI 1) := rfl
  have hno2 : F_X10_no 2 = some (-1, nI 2) := rfl
  have hno5 : F_X10_no 5 = some (-1, nI 5) := rfl
  have hre1 : F_X9_refused 1 = some (-1, nI 1) := rfl
  have hre2 : F_X9_refused 2 = some (-1, nI 2) := rfl
  have hre5 : F_X9_refused 5 = some (-1, nI 5) := rfl
  unfold F_X9_answer F_X10_answer F_X10_good F_X9_answer_b27
  rw [z_b2, h.1.1, X0_has hm, z_b1, X10_isCall (by omega) h0 hK.1, z_b1, hno1, hno2, hno5, hre1, hre2, hre5, z_b2, z_b2]
  rcases e : tin (cm K) v1 with _ | c
  · rw [ifn, if_pos n0_0, if_pos n0_0]
    exact ⟨K, _, _, f5, f6, st, h.2.1, rfl, rfl, ⟨rfl, h.1.2⟩, rfl, hK, hst⟩
  · obtain ⟨rfl, hc⟩ := tin_lt hm e
    obtain ⟨g0, g1, g2, g3, g4, g5, g6⟩ := hK.2 c hc
    obtain ⟨w0, w1, w2, w3, w4, w5, w6⟩ := h.1.2 c hc
    obtain ⟨y1, y2, y3, y4, y5, y6, y7, y8⟩ := h.2.1.2 c hc
    have k5 : (7 : Int32) * nI c + 5 = nI (7 * c + 5) := by rw [zl_7, zl_5, zq_mul, zq_add]
    have k6 : (7 : Int32) * nI c + 6 = nI (7 * c + 6) := by rw [zl_7, zl_6, zq_mul, zq_add]
    have k5' : (nI (7 * c + 5)).toNatClampNeg = 7 * c + 5 := zd_cl (by omega)
    have k6' : (nI (7 * c + 6)).toNatClampNeg = 7 * c + 6 := zd_cl (by omega)
    rw [ifs, if_neg n1_0, if_neg n1_0, X10_within, z_b1]
    by_cases d : 0 ≤ v2 ∧ v2 ≤ 99
    · obtain ⟨v, rfl, hv⟩ := nI_bnd (N := 99) (v := v2) (by omega) d.1 d.2
      rw [if_pos d, if_neg n1_0, if_neg (nlt_le.mpr d.1), if_pos d.2, X0_isOpen (by omega), z_b1, w5, k5, k6, if_neg (nI_in (by omega) (by omega)), k5', g5]
      by_cases o : ce K c = -2
      · rw [if_pos o, if_neg n1_0, if_pos o]
        exact ⟨K, _, _, f5, f6, st, h.2.1, rfl, rfl, ⟨rfl, h.1.2⟩, rfl, hK, hst⟩
      · obtain ⟨u, hu, hu9⟩ := y8 o
        have y6' : ∃ e, ce K c = nI e ∧ cb K c ≤ e ∧ e ≤ 999 := by
          rcases y6 with q | q
          · exact absurd q o
          · exact q
        obtain ⟨en, e1, e2, e3⟩ := y6'
        obtain ⟨f5', f6', e4, e5⟩ := X0_close (f0 := f0) (f1 := f1) (f2 := f2) (f3 := f3) (f4 := f4) (n := nI (cm K)) ⟨rfl, h.1.2⟩ hm hc (nI en) (nI v)
        rw [if_neg o, if_pos n0_0, if_neg o, if_neg (nI_in (by omega) (by omega)), if_neg (nI_in (by omega) (by omega)), k6', g6]
        unfold F_X0_tellAnother
        rw [X0_answerOf (by omega), z_b1, X0_endOf (by omega), z_b1, w5, w6, e1, e4, z_b2, z_b3, hu, X9_answeredN (by omega), z_b2]
        refine ⟨clsK K c (nI en) (nI v), _, _, f5', f6', _, okC_cls h.2.1 hc e2 e3 hv, rfl, rfl, e5, rfl, ?_, ?_⟩
        · exact RK_cls hK hc hm (by rw [z_upd, if_neg (by omega), g5, e1]) (by rw [z_upd, if_pos rfl]) (fun p hp hq => by rw [z_upd, if_neg hq])
        · rw [z_upd, if_neg (by omega)]; exact hst
    · rw [if_neg d, if_pos n0_0]
      refine ⟨K, -1, nI 2, f5, f6, st, h.2.1, rfl, ?_, ⟨rfl, h.1.2⟩, rfl, hK, hst⟩
      by_cases d1 : v2 < 0
      · rw [if_pos d1]
      · rw [if_neg d1, if_neg (fun g => d ⟨nlt_le.mp d1, g⟩)]
/-- the last of a cashier's calls below i -/
def lst (q : Nat → Nat) (k : Nat) : Nat → Option Nat
  | 0 => none
  | i + 1 => if q i = k then some i else lst q k i
theorem lst_some {q : Nat → Nat} {k : Nat} : ∀ {i c : Nat}, lst q k i = some c → c < i ∧ q c = k
  | 0, c, h => by cases h
  | i + 1, c, h => by
    unfold lst at h
    by_cases d : q i = k
    · rw [if_pos d] at h; injection h with h; subst h; exact ⟨by omega, d⟩
    · rw [if_neg d] at h
      have := lst_some h
      exact ⟨by omega, this.2⟩
def o32 (o : Option Nat) : Int32 := match o with
  | none => -1
  | some c => nI c
theorem X0_lastOf7 {q : Nat → Nat} {f : Nat → Int32} {k : Nat} (hk : k < 100) : ∀ (i kf : Nat), i < kf → i ≤ 20 → (∀ c, c < i → f c = nI (q c) ∧ q c < 100) → F_X0_lastOf_b7 f (nI k) kf (nI i - nI 1) = some (o32 (lst q k i))
  | 0, kf, hj, hi, hf => by
    obtain ⟨g, rfl⟩ : ∃ g, kf = g + 1 := ⟨kf - 1, by omega⟩
    rw [F_X0_lastOf_b7, if_pos (by decide)]
    rfl
  | i + 1, kf, hj, hi, hf => by
    obtain ⟨g, rfl⟩ : ∃ g, kf = g + 1 := ⟨kf - 1, by omega⟩
    have e1 : nI (i + 1) - nI 1 = nI i := by rw [zq_sub (by omega)]; rfl
    obtain ⟨h1, h2⟩ := hf i (by omega)
    have e2 : (nI (q i) = nI k) = (q i = k) := zd_eq (by omega) (by omega)
    rw [e1, F_X0_lastOf_b7, if_neg (nI_pos (by omega)), X0_cashierOf (by omega), z_b1, h1, zpm]
    simp only [e2]
    by_cases d : q i = k
    · rw [if_pos d]; unfold lst; rw [if_pos d]; rfl
    · rw [if_neg d]
      have e3 : lst q k (i + 1) = lst q k i := by
        show (if q i = k then some i else lst q k i) = _
        rw [if_neg d]
      rw [e3]
      exact X0_lastOf7 hk i g (by omega) (by omega) (fun c hc => hf c (by omega))
theorem X10_opens38 {K : Ca} {st : Nat → Int32} (hK : RK K (ce K) st) (hm : cm K ≤ 20) (hq : ∀ c, c < cm K → cq K c < 4) {k : Nat} (hk : k < 4) : ∀ (j kf i : Nat), j < kf → i + j = cm K →
    F_X10_opens_b38 (nI 0) (nI 0) st (nI k) kf (o32 (lst (cq K) k i)) (nI i) = (match lst (cq K) k (cm K) with
      | none => some (-1, nI 0, nI 6, st)
      | some c => if ce K c = -2 then some (-1, nI 0, nI 5, st) else some (nI c, nI 0, nI 0, upd (upd st (7 * c + 5) (-2)) (7 * c + 6) (-2)))
  | 0, kf, i, hj, hi => by
    obtain ⟨g, rfl⟩ : ∃ g, kf = g + 1 := ⟨kf - 1, by omega⟩
    have : i = cm K := by omega
    subst this
    have h141 : (141 : Int32).toNatClampNeg = 141 := rfl
    rw [F_X10_opens_b38, h141, hK.1, if_pos (by rw [zd_le (by omega) (by omega)]; omega)]
    rcases e : lst (cq K) k (cm K) with _ | c
    · have : ¬ (0 : Int32) ≤ o32 none := by decide
      rw [if_neg this]
      rfl
    · have hc := (lst_some e).1
      have k5 : (7 : Int32) * nI c + 5 = nI (7 * c + 5) := by rw [zl_7, zl_5, zq_mul, zq_add]
      have k6 : (7 : Int32) * nI c + 6 = nI (7 * c + 6) := by rw [zl_7, zl_6, zq_mul, zq_add]
      have k5' : (nI (7 * c + 5)).toNatClampNeg = 7 * c + 5 := zd_cl (by omega)
      have k6' : (nI (7 * c + 6)).toNatClampNeg = 7 * c + 6 := zd_cl (by omega)
      have e1 : o32 (some c) = nI c := rfl
      rw [e1, if_pos (by rw [zl_0, zd_le (by omega) (by omega)]; omega), k5, k6, if_neg (nI_in (by omega) (by omega)), k5', (hK.2 c hc).2.2.2.2.2.1]
      by_cases d : ce K c = -2
      · rw [if_pos d]
        show _ = (if ce K c = -2 then _ else _)
        rw [if_pos d]
        rfl
      · rw [if_neg d, if_neg (zin (by omega) (by omega)), if_neg (nI_in (by omega) (by omega)), k6']
        show _ = (if ce K c = -2 then _ else _)
        rw [if_neg d]
  | j + 1, kf, i, hj, hi => by
    obtain ⟨g, rfl⟩ : ∃ g, kf = g + 1 := ⟨kf - 1, by omega⟩
    have h141 : (141 : Int32).toNatClampNeg = 141 := rfl
    have k0 : (7 : Int32) * nI i + 0 = nI (7 * i) := by rw [zl_7, zl_0, zq_mul, zq_add]; rfl
    have k0' : (nI (7 * i)).toNatClampNeg = 7 * i := zd_cl (by omega)
    have j1 : nI i + (1 : Int32) = nI (i + 1) := by rw [zl_1, zq_add]
    have hqi := hq i (by omega)
    have e2 : (nI (cq K i) = nI k) = (cq K i = k) := zd_eq (by omega) (by omega)
    rw [F_X10_opens_b38, h141, hK.1, if_neg (by rw [zd_le (by omega) (by omega)]; omega), k0, if_neg (nI_in (by omega) (by omega)), k0', (hK.2 i (by omega)).1]
    unfold F_X10_opens_b67
    rw [j1, ← X10_opens38 hK hm hq hk j g (i + 1) (by omega) (by omega)]
    simp only [e2]
    by_cases d : cq K i = k
    · rw [if_pos d]
      have : lst (cq K) k (i + 1) = some i := by show (if cq K i = k then some i else _) = _; rw [if_pos d]
      rw [this]; rfl
    · rw [if_neg d]
      have : lst (cq K) k (i + 1) = lst (cq K) k i := by show (if cq K i = k then some i else _) = _; rw [if_neg d]
      rw [this]
theorem X5_hasCashier {nq : Nat} {v : Int32} : F_X5_hasCashier (nI nq) v = some (nI (if tin nq v = none then 0 else 1)) := by
  unfold F_X5_hasCashier
  by_cases c : v < 0
  · rw [if_pos c, tin_no (fun h => (nlt_le.mpr h.1) c)]; rfl
  · rw [if_neg c]
    by_cases d : nI nq ≤ v
    · rw [if_pos d, tin_no (fun h => (nlt_le2.mpr d) h.2)]; rfl
    · rw [if_neg d, tin_if ⟨nlt_le.mp c, Decidable.byContradiction (fun h => d (nlt_le2.mp h))⟩]; rfl
theorem within_tin {nq : Nat} (hq : nq < 100) {v : Int32} : (0 ≤ v ∧ v ≤ nI nq - 1) ↔ tin nq v ≠ none := by
  have hs : (nI nq - (1 : Int32)).toInt = (nq : Int) - 1 := by
    rw [fb_subI (by rw [nI_toInt (by omega)]; have : (1 : Int32).toInt = 1 := by decide
                    omega) (by rw [nI_toInt (by omega)]; have : (1 : Int32).toInt = 1 := by decide
                               omega), nI_toInt (by omega)]
    rfl
  constructor
  · intro h
    rw [tin_if ⟨h.1, by
      have := h.2
      rw [Int32.le_iff_toInt_le, hs] at this
      rw [Int32.lt_iff_toInt_lt, nI_toInt (by omega)]
      omega⟩]
    simp
  · intro h
    by_cases c : 0 ≤ v ∧ v < nI nq
    · refine ⟨c.1, ?_⟩
      have := c.2
      rw [Int32.lt_iff_toInt_lt, nI_toInt (by omega)] at this
      rw [Int32.le_iff_toInt_le, hs]
      omega
    · exact absurd (tin_no c) h
theorem XJ_opens {fu : Nat} (hfu : 20000 ≤ fu) {K : Ca} {kd : Nat → Nat} {nt nq late s : Nat} {n l : Int32} {f0 f1 f2 f3 f4 f5 f6 kinds : Nat → Int32} (h : CS K kd nt late n f0 f1 f2 f3 f4 f5 f6 kinds l) {st r : Nat → Int32} (hK : RK K (ce K) st) {told : Bool} (hnq : nq ≤ 4) (h0 : told = false → nq = 0) (hr6 : r 6 = nI nq) (hst : st 140 = nI s) (v1 : Int32) :
    ∃ K' rs tb f5' f6' st', okC 4 nt kd K' ∧ cm K' = cm K ∧ F_X9_opens fu (nI nq) n f0 f5 f6 v1 = some (rs, tb, f5', f6') ∧ RC K' n f0 f1 f2 f3 f4 f5' f6' ∧ F_X10_opens fu (nI (if told = true then 1 else 0)) r st v1 = some (rs, nI 0, tb, st') ∧ RK K' (ce K') st' ∧ st' 140 = nI s := by
  have hm := h.2.1.1
  have hno1 : F_X10_no 1 = some (-1, nI 1) := rfl
  have hre1 : F_X9_refused 1 = some (-1, nI 1) := rfl
  have hre5 : F_X9_refused 5 = some (-1, nI 5) := rfl
  have hre6 : F_X9_refused 6 = some (-1, nI 6) := rfl
  have h6 : (6 : Int32).toNatClampNeg = 6 := rfl
  unfold F_X9_opens F_X10_opens F_X10_good F_X10_opens_b28
  rw [z_b2, X5_hasCashier, z_b1, hno1, hre1, hre5, hre6, z_b2, z_b2, h6, hr6]
  rcases e : tin nq v1 with _ | k
  · rw [ifn, if_pos n0_0]
    refine ⟨K, _, _, f5, f6, st, h.2.1, rfl, rfl, h.1, ?_, hK, hst⟩
    rcases told
    · rw [if_pos (show nI (if false = true then 1 else 0) = 0 by decide)]; rfl
    · rw [if_neg (show ¬ nI (if true = true then 1 else 0) = 0 by decide), X10_within, z_b1, if_neg (fun g => (within_tin (by omega)).mp g e), if_pos n0_0]; rfl
  · obtain ⟨rfl, hk⟩ := tin_some (by omega) e
    have ht : told = true := by
      rcases told
      · have := h0 rfl; omega
      · rfl
    subst ht
    have hin : 0 ≤ nI k ∧ nI k ≤ nI nq - 1 := (within_tin (by omega)).mpr (by rw [e]; simp)
    have e0 := X10_opens38 hK hm (fun c hc => (h.2.1.2 c hc).1) (by omega : k < 4) (cm K) fu 0 (by omega) (by omega)
    have e0' : F_X10_opens_b38 0 0 st (nI k) fu (-1) 0 = _ := e0
    rw [ifs, if_neg n1_0, if_neg (show ¬ nI (if true = true then 1 else 0) = 0 by decide), X10_within, z_b1, if_pos hin, if_neg n1_0, e0']
    unfold F_X0_lastOf
    have e1 := X0_lastOf7 (q := cq K) (f := f0) (by omega : k < 100) (cm K) fu (by omega) hm (fun c hc => ⟨(h.1.2 c hc).1, by have := (h.2.1.2 c hc).1; omega⟩)
    have e1' : F_X0_lastOf_b7 f0 (nI k) fu (nI (cm K) - 1) = _ := e1
    rw [h.1.1, e1', z_b1]
    rcases e2 : lst (cq K) k (cm K) with _ | c
    · rw [if_neg (show ¬ (0 : Int32) ≤ o32 none by decide), z_b2]
      exact ⟨K, _, _, f5, f6, st, h.2.1, rfl, rfl, ⟨rfl, h.1.2⟩, rfl, hK, hst⟩
    · have hc := (lst_some e2).1
      have e3 : o32 (some c) = nI c := rfl
      obtain ⟨w0, w1, w2, w3, w4, w5, w6⟩ := h.1.2 c hc
      rw [e3, if_pos (by rw [zl_0, zd_le (by omega) (by omega)]; omega), X0_isOpen (by omega), z_b1, w5]
      show ∃ K' rs tb f5' f6' st', _ ∧ _ ∧ _ ∧ _ ∧ (if ce K c = -2 then _ else _) = _ ∧ _ ∧ _
      by_cases d : ce K c = -2
      · rw [if_pos d, if_neg n1_0, if_pos d]
        exact ⟨K, _, _, f5, f6, st, h.2.1, rfl, rfl, ⟨rfl, h.1.2⟩, rfl, hK, hst⟩
      · obtain ⟨f5', f6', e4, e5⟩ := X0_close (f0 := f0) (f1 := f1) (f2 := f2) (f3 := f3) (f4 := f4) (n := nI (cm K)) ⟨rfl, h.1.2⟩ hm hc (-2) (-2)
        rw [if_neg d, if_pos n0_0, if_neg d]
        unfold F_X0_reopen
        rw [e4, z_b2, z_b2, X9_answeredN (by omega), z_b2]
        refine ⟨clsK K c (-2) (-2), _, _, f5', f6', _, okC_open h.2.1, rfl, rfl, e5, rfl, ?_, ?_⟩
        · exact RK_cls hK hc hm (by rw [z_upd, if_neg (by omega), z_upd, if_pos rfl]) (by rw [z_upd, if_pos rfl]) (fun p hp hq => by rw [z_upd, if_neg hq, z_upd, if_neg hp])
        · rw [z_upd, if_neg (by omega), z_upd, if_neg (by omega)]; exact hst
theorem XJ_late {kd : Nat → Nat} {nt late : Nat} (hl : late ≤ 99) {r : Nat → Int32} (hr : RLy kd nt late r) (told : Bool) (v1 : Int32) :
    ∃ rs tb late' r', late' ≤ 99 ∧ (told = false → late' = late) ∧ F_X9_late (nI (if told = true then 1 else 0)) (nI late) v1 = some (rs, tb, nI late') ∧ F_X10_late (nI (if told = true then 1 else 0)) r v1 = some (rs, nI 0, tb, r') ∧ RLy kd nt late' r' ∧ ∀ p, p ≠ 0 → r' p = r p := by
  have hno1 : F_X10_no 1 = some (-1, nI 1) := rfl
  have hno2 : F_X10_no 2 = some (-1, nI 2) := rfl
  have hre1 : F_X9_refused 1 = some (-1, nI 1) := rfl
  have hre2 : F_X9_refused 2 = some (-1, nI 2) := rfl
  have h0 : (0 : Int32).toNatClampNeg = 0 := rfl
  unfold F_X9_late F_X10_late F_X10_good F_X9_late_b26
  rw [z_b2, hno1, hno2, hre1, hre2, z_b2, z_b2, z_b2]
  rcases told
  · rw [if_pos (show nI (if false = true then 1 else 0) = 0 by decide), if_pos (show nI (if false = true then 1 else 0) = 0 by decide)]
    exact ⟨-1, nI 1, late, r, hl, fun _ => rfl, rfl, rfl, hr, fun _ _ => rfl⟩
  · rw [if_neg (show ¬ nI (if true = true then 1 else 0) = 0 by decide), if_neg (show ¬ nI (if true = true then 1 else 0) = 0 by decide), X10_within, z_b1]
    by_cases d : 0 ≤ v1 ∧ v1 ≤ 99
    · obtain ⟨v, rfl, hv⟩ := nI_bnd (N := 99) (v := v1) (by omega) d.1 d.2
      rw [if_pos d, if_neg n1_0, if_neg (nlt_le.mpr d.1), if_pos d.2, X9_answeredN (by omega), z_b2, h0, hr.1]
      exact ⟨_, _, v, _, hv, (fun h => by cases h), rfl, rfl, ⟨by rw [z_upd, if_pos rfl], by rw [z_upd, if_neg (by omega)]; exact hr.2.1, fun t ht => by rw [z_upd, if_neg (by omega)]; exact hr.2.2 t ht⟩, fun p hp => by rw [z_upd, if_neg hp]⟩
    · rw [if_neg d, if_pos n0_0]
      refine ⟨-1, nI 2, late, r, hl, fun _ => rfl, ?_, rfl, hr, fun _ _ => rfl⟩
      by_cases d1 : v1 < 0
      · rw [if_pos d1]
      · rw [if_neg d1, if_neg (fun g => d ⟨nlt_le.mp d1, g⟩)]
