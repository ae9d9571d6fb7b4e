/-! the reference's bad -/
def SO (K : Ca) (j n : Nat) (arr : Nat → Int32) (s : Nat → Nat) : Prop := n ≤ j ∧ (∀ i, i < n → arr i = nI (s i) ∧ s i < j ∧ enb K (s i) = true) ∧ (∀ i k, i < k → k < n → lte K (s i) (s k)) ∧ (∀ c, c < j → enb K c = true → ∃ i, i < n ∧ s i = c)
theorem X10_le40 {fu : Nat} {K : Ca} {st : Nat → Int32} (hst : RK K (ce K) st) (hm : cm K ≤ 20) {n j : Nat} (hn : n ≤ j) (hj : j < cm K) {s : Nat → Nat} (hs : ∀ i, i < n → s i < cm K) (k4 : (Nat → Int32) → Int32 → Int32 → Option (Int32 × (Nat → Int32))) :
    ∀ (p kf : Nat) (arr : Nat → Int32), p < kf → p ≤ n → (∀ i, i < p → arr i = nI (s i)) → (∀ i, p < i → i ≤ n → arr i = nI (s (i - 1))) → (∀ i, p ≤ i → i < n → ¬ ce K (s i) ≤ ce K j) →
    ∃ arr' q, F_X10_layEnds_b40 k4 fu st (nI n) (nI j) (ce K j) kf arr (nI p) = k4 arr' (nI (n + 1)) (nI (j + 1)) ∧ q ≤ n ∧ (∀ i, i < q → arr' i = nI (s i)) ∧ arr' q = nI j ∧ (∀ i, q < i → i ≤ n → arr' i = nI (s (i - 1))) ∧ (∀ i, q ≤ i → i < n → ¬ ce K (s i) ≤ ce K j) ∧ (0 < q → ce K (s (q - 1)) ≤ ce K j)
  | 0, kf, arr, hk, hp, h1, h2, h3 => by
    obtain ⟨g, rfl⟩ : ∃ g, kf = g + 1 := ⟨kf - 1, by omega⟩
    refine ⟨upd arr 0 (nI j), 0, ?_, by omega, fun i hi => by omega, ?_, fun i hi hi2 => ?_, h3, fun h => absurd h (by omega)⟩
    · rw [F_X10_layEnds_b40, if_pos (by decide)]
      unfold F_X10_layEnds_b90 F_X10_layEnds_b101
      rw [if_neg (nI_in (by omega) (by omega)), zd_cl (by omega), zl_1, zq_add, zq_add]
    · rw [z_upd, if_pos rfl]
    · rw [z_upd, if_neg (by omega)]; exact h2 i hi hi2
  | p + 1, kf, arr, hk, hp, h1, h2, h3 => by
    obtain ⟨g, rfl⟩ : ∃ g, kf = g + 1 := ⟨kf - 1, by omega⟩
    have i1 : nI (p + 1) - (1 : Int32) = nI p := by rw [zl_1, zq_sub (by omega)]; rfl
    have i2 : nI (p + 1) + (-1 : Int32) = nI p := by rw [← i1, Int32.sub_eq_add_neg]
    have hsp := hs p (by omega)
    have i7 : (7 : Int32) * nI (s p) + 5 = nI (7 * s p + 5) := by rw [zl_7, zl_5, zq_mul, zq_add]
    rw [F_X10_layEnds_b40, if_neg (by rw [zl_0, zd_le (by omega) (by omega)]; omega), i1, i2, if_neg (nI_in (by omega) (by omega)), zd_cl (by omega), h1 p (by omega), i7, if_neg (nI_in (by omega) (by omega)), zd_cl (by omega), (hst.2 _ hsp).2.2.2.2.2.1]
    by_cases c : ce K (s p) ≤ ce K j
    · rw [if_pos c]
      refine ⟨upd arr (p + 1) (nI j), p + 1, ?_, by omega, fun i hi => ?_, ?_, fun i hi hi2 => ?_, h3, fun _ => c⟩
      · unfold F_X10_layEnds_b90 F_X10_layEnds_b101
        rw [if_neg (nI_in (by omega) (by omega)), zd_cl (by omega), zl_1, zq_add, zq_add]
      · rw [z_upd, if_neg (by omega)]; exact h1 i hi
      · rw [z_upd, if_pos rfl]
      · rw [z_upd, if_neg (by omega)]; exact h2 i hi hi2
    · rw [if_neg c, if_neg (zin (by omega) (by omega)), if_neg (nI_in (by omega) (by omega)), zd_cl (by omega)]
      refine X10_le40 hst hm hn hj hs k4 p g _ (by omega) (by omega) (fun i hi => ?_) (fun i hi hi2 => ?_) (fun i hi hi2 => ?_)
      · rw [z_upd, if_neg (by omega)]; exact h1 i (by omega)
      · rw [z_upd]
        by_cases q : i = p + 1
        · rw [if_pos q, q]; rfl
        · rw [if_neg q]; exact h2 i (by omega) hi2
      · by_cases q : i = p
        · rw [q]; exact c
        · exact h3 i (by omega) hi2
theorem lte_trans {K : Ca} {a b c : Nat} (h : lte K a b) (g : lte K b c) : lte K a c := by
  unfold lte at *
  omega
theorem SO_step {K : Ca} {j n : Nat} {arr arr' : Nat → Int32} {s : Nat → Nat} (h : SO K j n arr s) (he : enb K j = true) {q : Nat} (hq : q ≤ n) (h1 : ∀ i, i < q → arr' i = nI (s i)) (h2 : arr' q = nI j) (h3 : ∀ i, q < i → i ≤ n → arr' i = nI (s (i - 1)))
    (h4 : ∀ i, q ≤ i → i < n → ¬ ce K (s i) ≤ ce K j) (h5 : 0 < q → ce K (s (q - 1)) ≤ ce K j) : SO K (j + 1) (n + 1) arr' (fun i => if i < q then s i else if i = q then j else s (i - 1)) := by
  obtain ⟨a1, a2, a3, a4⟩ := h
  have hlo : ∀ i, i < q → lte K (s i) j := by
    intro i hi
    have hs := (a2 i (by omega)).2.1
    have h6 := h5 (by omega)
    rw [Int32.le_iff_toInt_le] at h6
    by_cases d : i = q - 1
    · rw [← d] at h6
      unfold lte; omega
    · have := a3 i (q - 1) (by omega) (by omega)
      unfold lte at this ⊢; omega
  have hhi : ∀ i, q ≤ i → i < n → lte K j (s i) := by
    intro i hi hi2
    have h6 := h4 i hi hi2
    rw [Int32.le_iff_toInt_le] at h6
    unfold lte; omega
  refine ⟨by omega, fun i hi => ?_, fun i k hi hk => ?_, fun c hc hce => ?_⟩
  · by_cases c : i < q
    · have := a2 i (by omega)
      simp only [c, ↓reduceIte]
      exact ⟨h1 i c, by omega, this.2.2⟩
    · by_cases d : i = q
      · subst d
        simp only [Nat.lt_irrefl, ↓reduceIte]
        exact ⟨h2, by omega, he⟩
      · have := a2 (i - 1) (by omega)
        simp only [c, d, ↓reduceIte]
        exact ⟨h3 i (by omega) (by omega), by omega, this.2.2⟩
  · by_cases c : i < q
    · by_cases d : k < q
      · simp only [c, d, ↓reduceIte]; exact a3 i k hi (by omega)
      · by_cases e : k = q
        · simp only [c, d, e, Nat.lt_irrefl, ↓reduceIte]; exact hlo i c
        · simp only [c, d, e, ↓reduceIte]; exact a3 i (k - 1) (by omega) (by omega)
    · have d : ¬ k < q := by omega
      have e : ¬ k = q := by omega
      by_cases f : i = q
      · simp only [c, d, e, f, Nat.lt_irrefl, ↓reduceIte]; exact hhi (k - 1) (by omega) (by omega)
      · simp only [c, d, e, f, ↓reduceIte]; exact a3 (i - 1) (k - 1) (by omega) (by omega)
  · by_cases d : c = j
    · refine ⟨q, by omega, ?_⟩
      simp only [Nat.lt_irrefl, ↓reduceIte]; exact d.symm
    · obtain ⟨i, hi, hsi⟩ := a4 c (by omega) hce
      by_cases e : i < q
      · exact ⟨i, by omega, by simp only [e, ↓reduceIte]; exact hsi⟩
      · refine ⟨i + 1, by omega, ?_⟩
        have e1 : ¬ i + 1 < q := by omega
        have e2 : ¬ i + 1 = q := by omega
        simp only [e1, e2, ↓reduceIte, Nat.add_sub_cancel]
        exact hsi
theorem enb_iff {K : Ca} {c : Nat} (hc : c < cm K) : enb K c = true ↔ ¬ ce K c = -2 := by
  unfold enb
  simp
  omega
theorem X10_le4 {fu : Nat} (hfu : 20000 ≤ fu) {K : Ca} {st : Nat → Int32} (hst : RK K (ce K) st) (hm : cm K ≤ 20) :
    ∀ (f kf j n : Nat) (arr : Nat → Int32) (s : Nat → Nat), f < kf → j + f = cm K → SO K j n arr s →
    ∃ n' arr' s', F_X10_layEnds_b4 fu st kf arr (nI n) (nI j) = some (nI n', arr') ∧ SO K (cm K) n' arr' s'
  | 0, kf, j, n, arr, s, hf, hj, h => by
    obtain ⟨g, rfl⟩ : ∃ g, kf = g + 1 := ⟨kf - 1, by omega⟩
    have h1 : st (141 : Int32).toNatClampNeg = nI (cm K) := hst.1
    have : j = cm K := by omega
    subst this
    rw [F_X10_layEnds_b4, h1, if_pos (by rw [zd_le (by omega) (by omega)]; omega)]
    exact ⟨n, arr, s, rfl, h⟩
  | f + 1, kf, j, n, arr, s, hf, hj, h => by
    obtain ⟨g, rfl⟩ : ∃ g, kf = g + 1 := ⟨kf - 1, by omega⟩
    have h1 : st (141 : Int32).toNatClampNeg = nI (cm K) := hst.1
    have hj' : j < cm K := by omega
    have i7 : (7 : Int32) * nI j + 5 = nI (7 * j + 5) := by rw [zl_7, zl_5, zq_mul, zq_add]
    rw [F_X10_layEnds_b4, h1, if_neg (by rw [zd_le (by omega) (by omega)]; omega), i7, if_neg (nI_in (by omega) (by omega)), zd_cl (by omega), (hst.2 _ hj').2.2.2.2.2.1]
    by_cases c : ce K j = -2
    · rw [if_pos c]
      unfold F_X10_layEnds_b101
      rw [zl_1, zq_add]
      refine X10_le4 hfu hst hm f g (j + 1) n arr s (by omega) (by omega) ⟨by have := h.1; omega, fun i hi => ?_, h.2.2.1, fun c' hc' he => ?_⟩
      · have := h.2.1 i hi
        exact ⟨this.1, by omega, this.2.2⟩
      · by_cases d : c' = j
        · subst d; exact absurd c ((enb_iff hj').mp he)
        · exact h.2.2.2 c' (by omega) he
    · rw [if_neg c]
      obtain ⟨arr', q, e, h2, h3, h4, h5, h6, h7⟩ := X10_le40 (fu := fu) hst hm h.1 hj' (s := s) (fun i hi => by have := (h.2.1 i hi).2.1; omega) (F_X10_layEnds_b4 fu st g) n fu arr (by have := h.1; omega) (by omega) (fun i hi => (h.2.1 i hi).1) (fun i hi hi2 => by omega) (fun i hi hi2 => by omega)
      rw [e]
      exact X10_le4 hfu hst hm f g (j + 1) (n + 1) arr' _ (by omega) (by omega) (SO_step h ((enb_iff hj').mpr c) h2 h3 h4 h5 h6 h7)
theorem X10_layEnds {fu : Nat} (hfu : 20000 ≤ fu) {K : Ca} {st arr : Nat → Int32} (hst : RK K (ce K) st) (hm : cm K ≤ 20) :
    ∃ n' arr' s', F_X10_layEnds fu st arr = some (nI n', arr') ∧ SO K (cm K) n' arr' s' :=
  X10_le4 hfu hst hm (cm K) fu 0 0 arr (fun _ => 0) (by omega) (by omega) ⟨by omega, fun i hi => by omega, fun i k _ hk => by omega, fun c hc => by omega⟩
theorem SO_nx1 {K : Ca} {n : Nat} {arr : Nat → Int32} {s : Nat → Nat} (h : SO K (cm K) n arr s) {i : Nat} (h1 : ∀ c, psE K i c = true ↔ ∃ u, u < i ∧ s u = c) : i < n → nxe K (psE K i) (cm K) = some (s i) := by
    intro hi
    obtain ⟨a1, a2, a3, a4⟩ := h
    refine nxe_uni (a2 i hi).2.1 (a2 i hi).2.2 ?_ (fun c hc he hp => ?_)
    · rcases e : psE K i (s i) with _ | _
      · rfl
      · obtain ⟨u, hu, hsu⟩ := (h1 (s i)).mp e
        have := a3 u i hu hi
        rw [hsu] at this
        unfold lte at this; omega
    · obtain ⟨k, hk, rfl⟩ := a4 c hc he
      rcases Nat.lt_trichotomy k i with g | g | g
      · have := (h1 (s k)).mpr ⟨k, g, rfl⟩
        rw [hp] at this; cases this
      · left; rw [g]
      · right; exact a3 i k g hk
theorem SO_nx {K : Ca} {n : Nat} {arr : Nat → Int32} {s : Nat → Nat} (h : SO K (cm K) n arr s) : ∀ i, i ≤ n → (∀ c, psE K i c = true ↔ ∃ u, u < i ∧ s u = c) ∧ (i < n → nxe K (psE K i) (cm K) = some (s i))
  | 0, hi => by
    have h1 : ∀ c, psE K 0 c = true ↔ ∃ u, u < 0 ∧ s u = c := fun c => ⟨fun h => Bool.noConfusion h, fun ⟨u, hu, _⟩ => absurd hu (Nat.not_lt_zero u)⟩
    exact ⟨h1, SO_nx1 h h1⟩
  | i + 1, hi => by
    obtain ⟨g1, g2⟩ := SO_nx h i (by omega)
    have h1 : ∀ c, psE K (i + 1) c = true ↔ ∃ u, u < i + 1 ∧ s u = c := by
      intro c
      rw [psE_succ (g2 (by omega))]
      simp only [Bool.or_eq_true, decide_eq_true_eq, g1]
      constructor
      · rintro (⟨u, h1, h2⟩ | h1)
        · exact ⟨u, by omega, h2⟩
        · exact ⟨i, by omega, h1.symm⟩
      · rintro ⟨u, h1, h2⟩
        by_cases d : u = i
        · right; rw [← h2, d]
        · left; exact ⟨u, by omega, h2⟩
    exact ⟨h1, SO_nx1 h h1⟩
theorem SO_end {K : Ca} {n : Nat} {arr : Nat → Int32} {s : Nat → Nat} (h : SO K (cm K) n arr s) : nxe K (psE K n) (cm K) = none := by
  rcases e : nxe K (psE K n) (cm K) with _ | b
  · rfl
  · obtain ⟨g1, g2, g3, _⟩ := nxe_some e
    obtain ⟨u, hu, hs⟩ := h.2.2.2 b g1 g2
    have := ((SO_nx h n (by omega)).1 b).mpr ⟨u, hu, hs⟩
    rw [g3] at this; cases this
theorem X10_bad56 {fu : Nat} {K : Ca} {st : Nat → Int32} (hst : RK K (ce K) st) (hm : cm K ≤ 20) {k26 : Int32 → Int32 → Int32 → Int32 → Int32 → Int32 → Int32 → Int32 → (Nat → Int32) → (Nat → Int32) → (Nat → Int32) → (Nat → Int32) → (Nat → Int32) → (Nat → Int64) → (Nat → Int32) → (Nat → Int32) → (Nat → Int32) → Int32 → Option (Int32 × Int32 × Int32 × Int32 × Int32 × Int32 × Int32 × Int32 × Int32 × Int32 × Int32 × (Nat → Int32) × (Nat → Int32) × (Nat → Int32) × (Nat → Int32) × (Nat → Int32) × (Nat → Int32) × (Nat → Int64) × (Nat → Int32) × (Nat → Int32) × (Nat → Int32))}
    {a1 a2 a3 a4 a5 a6 v1 v2 v3 : Int32} {byEnd w r long row' slot doneOf next heard leads : Nat → Int32} {tills : Nat → Int64} {c0 : Nat} :
    ∀ (f kf i Th : Nat), f < kf → i + f = cm K → Th < 2 ^ 20 → (∀ c, Th.testBit c = (decide (c < cm K) && (decide (i ≤ c) || bgn K c0 c))) →
    F_X10_bad_b56 k26 fu a1 a2 a3 a4 a5 a6 st byEnd w r long row' slot doneOf tills next heard leads v1 v2 v3 (ce K c0) kf (nI Th) (nI i) = F_X10_bad_b112 k26 fu a1 a2 a3 (nI (msk (bgn K c0) (cm K))) a4 a5 a6 st byEnd r long row' slot doneOf tills next heard leads v1 v2 v3 fu w (v3 + 1)
  | 0, kf, i, Th, hf, hi, hT, hb => by
    obtain ⟨g, rfl⟩ : ∃ g, kf = g + 1 := ⟨kf - 1, by omega⟩
    have h1 : st (141 : Int32).toNatClampNeg = nI (cm K) := hst.1
    have e : Th = msk (bgn K c0) (cm K) := msk_eq (fun c => by
      rw [hb]
      by_cases d : c < cm K
      · have : ¬ i ≤ c := by omega
        simp [d, this]
      · simp [d])
    rw [F_X10_bad_b56, h1, if_pos (by rw [zd_le (by omega) (by omega)]; omega), e]
  | f + 1, kf, i, Th, hf, hi, hT, hb => by
    obtain ⟨g, rfl⟩ : ∃ g, kf = g + 1 := ⟨kf - 1, by omega⟩
    have h1 : st (141 : Int32).toNatClampNeg = nI (cm K) := hst.1
    have hi' : i < cm K := by omega
    have i7 : (7 : Int32) * nI i + 4 = nI (7 * i + 4) := by rw [zl_7, zl_4, zq_mul, zq_add]
    have i1 : nI i + (1 : Int32) = nI (i + 1) := by rw [zl_1, zq_add]
    have hbi : bgn K c0 i = true ↔ nI (cb K i) ≤ ce K c0 := by
      unfold bgn
      rw [Bool.and_eq_true, decide_eq_true_eq, decide_eq_true_eq, Int32.not_lt]
      exact ⟨fun h => h.2, fun h => ⟨hi', h⟩⟩
    rw [F_X10_bad_b56, h1, if_neg (by rw [zd_le (by omega) (by omega)]; omega), i7, if_neg (nI_in (by omega) (by omega)), zd_cl (by omega), (hst.2 _ hi').2.2.2.2.1]
    unfold F_X10_bad_b101
    rw [i1]
    by_cases c : nI (cb K i) ≤ ce K c0
    · rw [if_pos c]
      refine X10_bad56 hst hm f g (i + 1) Th (by omega) (by omega) hT (fun x => ?_)
      rw [hb]
      by_cases d : x = i
      · subst d; rw [hbi.mpr c]; simp
      · have : (i ≤ x) = (i + 1 ≤ x) := by apply propext; omega
        simp only [this]
    · rw [if_neg c]
      obtain ⟨L, e1, e2, e3⟩ := zs_andn (O := Th) (D := 2 ^ i) hT
      have e4 : (1 : Int32) <<< (nI i &&& 31) = nI (2 ^ i) := zs_one (by omega)
      rw [e4, e1]
      refine X10_bad56 hst hm f g (i + 1) L (by omega) (by omega) e2 (fun x => ?_)
      rw [e3, hb, Nat.testBit_two_pow]
      by_cases d : x = i
      · subst d
        have : bgn K c0 x = false := by
          rcases e : bgn K c0 x with _ | _
          · rfl
          · exact absurd (hbi.mp e) c
        rw [this]; simp
      · have h2 : ¬ i = x := fun h => d h.symm
        have : (i ≤ x) = (i + 1 ≤ x) := by apply propext; omega
        simp only [this, h2, decide_false, Bool.not_false, Bool.and_true]
/-- the calls with only those that have come so far as ended -/
def epo (K : Ca) (i c : Nat) : Int32 := if psE K (i + 1) c = true then ce K c else -2
theorem RK_epo {K : Ca} {n : Nat} {arr st w : Nat → Int32} {s : Nat → Nat} (h : SO K (cm K) n arr s) (hst : RK K (ce K) st) (hm : cm K ≤ 20) {i : Nat} (hi : i < n) (h1 : ∀ p, p < 142 → p % 7 ≠ 5 → w p = st p) (h2 : ∀ u, i < u → u < n → w (7 * s u + 5) = -2) (h3 : ∀ c, c < cm K → (∀ u, i < u → u < n → s u ≠ c) → w (7 * c + 5) = ce K c) :
    RK K (epo K i) w := by
  refine ⟨?_, fun c hc => ?_⟩
  · rw [h1 141 (by omega) (by omega)]; exact hst.1
  · obtain ⟨q0, q1, q2, q3, q4, q5, q6⟩ := hst.2 c hc
    refine ⟨by rw [h1 _ (by omega) (by omega)]; exact q0, by rw [h1 _ (by omega) (by omega)]; exact q1, by rw [h1 _ (by omega) (by omega)]; exact q2, by rw [h1 _ (by omega) (by omega)]; exact q3, by rw [h1 _ (by omega) (by omega)]; exact q4, ?_, by rw [h1 _ (by omega) (by omega)]; exact q6⟩
    have hp := (SO_nx h (i + 1) (by omega)).1 c
    unfold epo
    by_cases e : psE K (i + 1) c = true
    · rw [if_pos e]
      obtain ⟨u, hu, hsu⟩ := hp.mp e
      refine h3 c hc (fun u' g1 g2 g3 => ?_)
      have := h.2.2.1 u u' (by omega) g2
      rw [hsu, g3] at this
      unfold lte at this; omega
    · rw [if_neg e]
      by_cases d : ce K c = -2
      · rw [h3 c hc (fun u' g1 g2 g3 => ?_), d]
        have := (h.2.1 u' g2).2.2
        rw [g3] at this
        exact (enb_iff hc).mp this d
      · obtain ⟨u, hu, hsu⟩ := h.2.2.2 c hc ((enb_iff hc).mpr d)
        have : ¬ u < i + 1 := fun g => e (hp.mpr ⟨u, g, hsu⟩)
        have := h2 u (by omega) hu
        rw [hsu] at this
        exact this
theorem RE_b {K : Ca} {kd : Nat → Nat} {nt late k i c0 : Nat} {w : Nat → Int32} (hK : okC 4 nt kd K) (h : RK K (epo K i) w) (hl : late ≤ 99) (hk : k < 4) : RE (Yb K kd nt late k i c0) w (nI 0) (nI late) (nI k) := by
  have hep : ∀ c, c < cm K → (epo K i c ≠ -2) = (psE K (i + 1) c = true) := by
    intro c hc
    apply propext
    unfold epo
    by_cases e : psE K (i + 1) c = true
    · rw [if_pos e]
      have := (enb_iff hc).mp (psE_enb e).2
      exact ⟨fun _ => e, fun _ => this⟩
    · rw [if_neg e]
      exact ⟨fun g => absurd rfl g, fun g => absurd g e⟩
  refine RK_RE hK h hl (by omega) hk (fun c hc => ?_) (fun c hc => ?_) (fun c hc hi => ?_) (fun a c ha hc hia _ => ?_)
  · unfold epo
    split
    · exact okC_e hK hc
    · exact Or.inl rfl
  · simp only [hep c hc]
    unfold bps
    simp
  · simp only [hep c hc]
    unfold bps
    rw [hi]
    simp
  · by_cases e : psE K (i + 1) a = true
    · have ht : bps K i c0 a = decide (ce K a ≠ -2) := by
        unfold bps
        rw [hia, e]
        have := (enb_iff ha).mp (psE_enb e).2
        simp [this]
      have he : epo K i a = ce K a := by unfold epo; rw [if_pos e]
      rw [he]
      exact gapped_k (kd := kd) hK ha hc ht
    · have ht : bps K i c0 a = false := by
        unfold bps
        rw [Bool.and_eq_false_iff]; right; simpa using e
      have he : epo K i a = -2 := by unfold epo; rw [if_neg e]
      unfold gapped
      rw [he, ht]
      simp
theorem RI_b {K : Ca} {kd : Nat → Nat} {nt late k i c0 : Nat} {w : Nat → Int32} (hm : cm K ≤ 20) : RI (Yb K kd nt late k i c0) (nI (msk (bgn K c0) (cm K))) (-1) w := by
  intro c hc
  have hc' : c < cm K := hc
  rw [X10_isIn_all (t := 0) hm hc' (msk_lt20 _ hm), msk_bit]
  have : yinn (Yb K kd nt late k i c0) c = bgn K c0 c := rfl
  rw [this]
  simp [hc']
theorem MS_Yb {K : Ca} {kd : Nat → Nat} {nt late : Nat} {st r : Nat → Int32} (h : MS K kd nt late st r) (k i c0 : Nat) : WF (Yb K kd nt late k i c0) :=
  WF_sysK h.1 h.2.1 h.2.2.1 (Int.natCast_nonneg _) (fun a ha => ⟨((okI_b K i c0).1 a ha).1, ((okI_b K i c0).1 a ha).2.1⟩) (fun a ha => ((okI_b K i c0).2 a ha).2)
