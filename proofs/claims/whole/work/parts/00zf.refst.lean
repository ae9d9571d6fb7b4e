/-! the reference's calls, tills and law -/
theorem X10_copy3 {n0 n2 a b m : Nat} (h0 : a + m ≤ n0) (h2 : b + m ≤ n2) (hn : n0 < 30000) (hn2 : n2 < 30000) {f0 : Nat → Int32} : ∀ (j kf i : Nat) (f2 : Nat → Int32), j < kf → i + j = m →
    ∃ f', F_X10_copy_b3 n0 n2 f0 (nI a) (nI b) (nI m) kf f2 (nI i) = some f' ∧ (∀ k, i ≤ k → k < m → f' (b + k) = f0 (a + k)) ∧ ∀ p, (p < b + i ∨ b + m ≤ p) → f' p = f2 p
  | 0, kf, i, f2, hj, hi => by
    obtain ⟨q, rfl⟩ : ∃ q, kf = q + 1 := ⟨kf - 1, by omega⟩
    have : i = m := by omega
    subst this
    refine ⟨f2, ?_, fun k h1 h2 => by omega, fun p _ => rfl⟩
    rw [F_X10_copy_b3, if_pos (by rw [zd_le (by omega) (by omega)]; omega)]
  | j + 1, kf, i, f2, hj, hi => by
    obtain ⟨q, rfl⟩ : ∃ q, kf = q + 1 := ⟨kf - 1, by omega⟩
    obtain ⟨f', e, h3, h4⟩ := X10_copy3 h0 h2 hn hn2 (f0 := f0) j q (i + 1) (upd f2 (b + i) (f0 (a + i))) (by omega) (by omega)
    refine ⟨f', ?_, fun k h1 h2 => ?_, fun p hp => ?_⟩
    · rw [F_X10_copy_b3, if_neg (by rw [zd_le (by omega) (by omega)]; omega), zq_add, zq_add, if_neg (nI_in (by omega) (by omega)), if_neg (nI_in (by omega) (by omega)), zd_cl (by omega), zd_cl (by omega), zl_1, zq_add, e]
    · by_cases c : k = i
      · subst c; rw [h4 _ (by omega), z_upd, if_pos rfl]
      · exact h3 k (by omega) h2
    · rw [h4 p (by omega), z_upd, if_neg (by omega)]
theorem X10_copy {fu n0 n2 a b m : Nat} (hfu : 20000 ≤ fu) (h0 : a + m ≤ n0) (h2 : b + m ≤ n2) (hn : n0 < 20000) (hn2 : n2 < 20000) {f0 f2 : Nat → Int32} :
    ∃ f', F_X10_copy fu n0 n2 f0 f2 (nI a) (nI b) (nI m) = some f' ∧ (∀ k, k < m → f' (b + k) = f0 (a + k)) ∧ ∀ p, (p < b ∨ b + m ≤ p) → f' p = f2 p := by
  obtain ⟨f', e, h3, h4⟩ := X10_copy3 h0 h2 (by omega) (by omega) (f0 := f0) m fu 0 f2 (by omega) (by omega)
  exact ⟨f', e, fun k hk => h3 k (Nat.zero_le _) hk, fun p hp => h4 p (by omega)⟩
/-- calls in a row of 142, with the ends e' -/
def RK (K : Ca) (e' : Nat → Int32) (w : Nat → Int32) : Prop := w 141 = nI (cm K) ∧ ∀ c, c < cm K →
  w (7 * c) = nI (cq K c) ∧ w (7 * c + 1) = nI (ct K c) ∧ w (7 * c + 2) = nI (cac K c) ∧ w (7 * c + 3) = nI (cw K c) ∧ w (7 * c + 4) = nI (cb K c) ∧ w (7 * c + 5) = e' c ∧ w (7 * c + 6) = cv K c
def RLy (kd : Nat → Nat) (nt late : Nat) (r : Nat → Int32) : Prop := r 0 = nI late ∧ r 2 = nI nt ∧ ∀ t, t < nt → r (3 + t) = nI (kd t)
theorem RK_RW {K : Ca} {e' w : Nat → Int32} {kd : Nat → Nat} {nt : Nat} {inn mst str tim : Nat → Bool} {gap : Int} (h : RK K e' w) : RW (sysK K kd nt inn mst str tim gap) w :=
  ⟨h.1, fun c hc => ⟨(h.2 c hc).1, (h.2 c hc).2.1, (h.2 c hc).2.2.1, (h.2 c hc).2.2.2.1, (h.2 c hc).2.2.2.2.2.2⟩⟩
theorem RL_kinds {K : Ca} {r : Nat → Int32} {kd : Nat → Nat} {nt late : Nat} {inn mst str tim : Nat → Bool} {gap : Int} (h : RLy kd nt late r) : kinds_r (sysK K kd nt inn mst str tim gap) r := ⟨h.2.1, h.2.2⟩
theorem RK_RE {K : Ca} {e' w : Nat → Int32} {kd : Nat → Nat} {nt late L kind : Nat} {inn mst str tim : Nat → Bool} {gap : Int} (hK : okC 4 nt kd K) (h : RK K e' w) (hl : late ≤ 99) (hL : L < 2 ^ 20) (hk : kind < 4)
    (he : ∀ c, c < cm K → e' c = -2 ∨ ∃ e, e' c = nI e ∧ e ≤ 1998) (hm : ∀ c, c < cm K → mst c = (inn c && decide (e' c ≠ -2))) (hs : ∀ c, c < cm K → inn c = true → str c = (decide (e' c ≠ -2) && !L.testBit c))
    (hb : ∀ a c, a < cm K → c < cm K → inn a = true → inn c = true → gapped K tim gap a c = (decide (kind ≠ 1) && (decide (e' a ≠ -2) && decide ((e' a).toInt + (if kind = 2 then (late : Int) else 0) < cb K c)))) :
    RE (sysK K kd nt inn mst str tim gap) w (nI L) (nI late) (nI kind) := by
  have hbe : ∀ x : Int32, (x == -2) = !decide (x ≠ -2) := by
    intro x
    by_cases c : x = -2
    · rw [c]; rfl
    · simp [c]
  refine ⟨fun c hc => ?_, fun c hc => ?_, ⟨L, rfl, hL, fun c hc hi => ?_⟩, by rw [nI_toInt (by omega)]; omega, fun a c ha hc hia hic => ?_⟩
  · obtain ⟨_, _, _, _, g4, g5, _⟩ := h.2 c hc
    refine ⟨⟨cb K c, g4, (hK.2 c hc).2.2.2.2.1⟩, ?_⟩
    rw [g5]
    exact he c hc
  · have := hm c hc
    rw [(h.2 c hc).2.2.2.2.2.1, hbe, Bool.not_not]
    exact this
  · have := hs c hc hi
    rw [(h.2 c hc).2.2.2.2.2.1, hbe, Bool.not_not]
    exact this
  · have := hb a c ha hc hia hic
    have h2 := (hK.2 c hc).2.2.2.2.1
    rw [(h.2 a ha).2.2.2.2.2.1, (h.2 c hc).2.2.2.2.1, hbe, Bool.not_not, nI_toInt (by omega), nI_toInt (by omega)]
    have e1 : (nI kind == (1 : Int32)) = !decide (kind ≠ 1) := by
      by_cases c : kind = 1
      · rw [c]; rfl
      · have : ¬ nI kind = 1 := by rw [zl_1, zd_eq (by omega) (by omega)]; exact c
        simp [c, this]
    have e2 : (nI kind = (2 : Int32)) = (kind = 2) := by rw [zl_2]; exact zd_eq (by omega) (by omega)
    simp only [e1, e2, Bool.not_not]
    exact this
theorem X10_isIn_all {m c : Nat} (hm : m ≤ 20) (hc : c < m) {w : Nat → Int32} {t : Int32} {Th : Nat} (hT : Th < 2 ^ 20) :
    F_X10_isIn (nI Th) (-1) w (nI c) = some (nI (if Th.testBit c = true then 1 else 0)) := by
  unfold F_X10_isIn F_X10_isIn_b36
  rw [X10_has hT (by omega), z_b1]
  by_cases g : Th.testBit c = true
  · rw [if_pos g, if_neg (by decide), if_pos (by decide)]; rfl
  · rw [if_neg g, if_pos (by decide)]; rfl
theorem X10_isIn_till {m c t : Nat} (hm : m ≤ 20) (hc : c < m) (ht : t < 3) {w : Nat → Int32} {u Th : Nat} (hu : u < 3) (hw : w (7 * c + 1) = nI u) (hT : Th < 2 ^ 20) :
    F_X10_isIn (nI Th) (nI t) w (nI c) = some (nI (if (Th.testBit c && decide (u = t)) = true then 1 else 0)) := by
  unfold F_X10_isIn F_X10_isIn_b36
  rw [X10_has hT (by omega), z_b1]
  by_cases g : Th.testBit c = true
  · rw [if_pos g, if_neg (by decide), if_neg (nI_pos (by omega)), zl_7, zq_mul, zl_1, zq_add, if_neg (nI_in (by omega) (by omega)), zd_cl (by omega), hw, g]
    have e := zd_eq (a := u) (b := t) (by omega) (by omega)
    by_cases q : u = t
    · rw [if_pos (by rw [e]; exact q), if_pos (by simp [q])]
    · rw [if_neg (by rw [e]; exact q), if_neg (by simp [q])]; rfl
  · have g' : Th.testBit c = false := by simpa using g
    rw [if_neg g, if_pos (by decide), g', if_neg (by simp)]; rfl
theorem layCalls {fu : Nat} (hfu : 20000 ≤ fu) {K : Ca} {kd : Nat → Nat} {nt late : Nat} {st w r : Nat → Int32} (hm : cm K ≤ 20) (h : RK K (ce K) st) (hr : RLy kd nt late r) :
    ∃ w', F_X10_layCalls fu st w r = some (nI (msk (fun _ => true) (cm K)), nI 0, -1, nI late, w') ∧ RK K (ce K) w' ∧ ∀ k, k < 142 → w' k = st k := by
  obtain ⟨w', e, h1, h2⟩ := X10_copy (n0 := 142) (n2 := 142) (a := 0) (b := 0) (m := 142) (f0 := st) (f2 := w) hfu (by omega) (by omega) (by omega) (by omega)
  have hc : ∀ k, k < 142 → w' k = st k := by
    intro k hk
    have := h1 k hk
    rwa [Nat.zero_add] at this
  refine ⟨w', ?_, ⟨(hc 141 (by omega)).trans h.1, fun c hc' => ?_⟩, hc⟩
  · unfold F_X10_layCalls
    rw [zl_0, zl_142, e, z_b1]
    have h141 : st (141 : Int32).toNatClampNeg = nI (cm K) := h.1
    have h0 : r (nI 0).toNatClampNeg = nI late := hr.1
    have ha := X0_allOnes hm
    unfold F_X0_allOnes at ha
    injection ha with ha
    rw [h141, h0, ha]
  · obtain ⟨g0, g1, g2, g3, g4, g5, g6⟩ := h.2 c hc'
    rw [hc _ (by omega), hc _ (by omega), hc _ (by omega), hc _ (by omega), hc _ (by omega), hc _ (by omega), hc _ (by omega)]
    exact ⟨g0, g1, g2, g3, g4, g5, g6⟩
theorem gapped_k {K : Ca} {kd : Nat → Nat} {nt late kind a c : Nat} (hK : okC 4 nt kd K) (ha : a < cm K) (hc : c < cm K) {tim : Nat → Bool} (ht : tim a = decide (ce K a ≠ -2)) :
    gapped K tim (gapk kind late : Nat) a c = (decide (kind ≠ 1) && (decide (ce K a ≠ -2) && decide ((ce K a).toInt + (if kind = 2 then (late : Int) else 0) < cb K c))) := by
  unfold gapped
  rw [ht]
  by_cases ho : ce K a = -2
  · simp [ho]
  · have he := endAt_ti (hK.2 a ha).2.2.2.2.2.1 ho
    have hb := (hK.2 c hc).2.2.2.2.1
    have d1 : decide (ce K a ≠ -2) = true := decide_eq_true ho
    rw [d1, Bool.true_and, Bool.true_and]
    unfold gapk
    by_cases c1 : kind = 1
    · have : ¬ (((1000 : Nat) : Int) < (cb K c : Int) - (ce K a).toInt) := by omega
      simp only [c1, ↓reduceIte, this, decide_false]
      rfl
    · by_cases c2 : kind = 2
      · have d2 : decide (kind ≠ 1) = true := decide_eq_true c1
        rw [d2, Bool.true_and, if_neg c1, if_pos c2, if_pos c2]
        exact decide_eq_decide.mpr ⟨fun h => by omega, fun h => by omega⟩
      · have d2 : decide (kind ≠ 1) = true := decide_eq_true c1
        rw [d2, Bool.true_and, if_neg c1, if_neg c2, if_neg c2]
        exact decide_eq_decide.mpr ⟨fun h => by omega, fun h => by omega⟩
theorem okC_e {K : Ca} {kd : Nat → Nat} {nt : Nat} (hK : okC 4 nt kd K) {c : Nat} (hc : c < cm K) : ce K c = -2 ∨ ∃ e, ce K c = nI e ∧ e ≤ 1998 := by
  rcases (hK.2 c hc).2.2.2.2.2.1 with h | ⟨e, h1, _, h3⟩
  · exact Or.inl h
  · exact Or.inr ⟨e, h1, by omega⟩
theorem RE_k {K : Ca} {kd : Nat → Nat} {nt late kind : Nat} {w : Nat → Int32} (hK : okC 4 nt kd K) (h : RK K (ce K) w) (hl : late ≤ 99) (hk : kind < 4) : RE (Yk K kd nt late kind) w (nI 0) (nI late) (nI kind) := by
  refine RK_RE hK h hl (by omega) hk (fun c hc => okC_e hK hc) (fun c hc => ?_) (fun c hc hi => ?_) (fun a c ha hc _ _ => gapped_k (kd := kd) hK ha hc ?_)
  · unfold enb alb; rfl
  · unfold enb; simp [hc]
  · unfold enb; simp [ha]
theorem RI_k {K : Ca} {kd : Nat → Nat} {nt late kind : Nat} {w : Nat → Int32} (hm : cm K ≤ 20) : RI (Yk K kd nt late kind) (nI (msk (fun _ => true) (cm K))) (-1) w := by
  intro c hc
  have hc' : c < cm K := hc
  rw [X10_isIn_all (t := 0) hm hc' (msk_lt20 _ hm), msk_bit]
  have : yinn (Yk K kd nt late kind) c = true := decide_eq_true hc'
  rw [this]
  simp [hc']
theorem RE_t {K : Ca} {kd : Nat → Nat} {nt late t : Nat} {w : Nat → Int32} (hK : okC 4 nt kd K) (h : RK K (ce K) w) (hl : late ≤ 99) : RE (Yt K kd nt t) w (nI 0) (nI late) (nI 3) := by
  refine RK_RE hK h hl (by omega) (by omega) (fun c hc => okC_e hK hc) (fun c hc => ?_) (fun c hc hi => ?_) (fun a c ha hc hia hic => ?_)
  · unfold enb; simp [hc]
  · unfold enb; simp [hc, hi]
  · have := gapped_k (kd := kd) (late := late) (kind := 3) hK ha hc (tim := fun c => tlb K t c && enb K c) (by unfold enb; simp [ha, hia])
    exact this
theorem RI_t {K : Ca} {kd : Nat → Nat} {nt late t : Nat} {w : Nat → Int32} (hK : okC 4 nt kd K) (h : RK K (ce K) w) (hnt : nt ≤ 3) (ht : t < 3) : RI (Yt K kd nt t) (nI (msk (fun _ => true) (cm K))) (nI t) w := by
  intro c hc
  have hc' : c < cm K := hc
  have hb := (hK.2 c hc').2.1
  rw [X10_isIn_till hK.1 hc' ht (by omega : ct K c < 3) (h.2 c hc').2.1 (msk_lt20 _ hK.1), msk_bit]
  have : yinn (Yt K kd nt t) c = decide (ct K c = t) := by
    show tlb K t c = _
    unfold tlb; simp [hc']
  rw [this]
  simp [hc']
