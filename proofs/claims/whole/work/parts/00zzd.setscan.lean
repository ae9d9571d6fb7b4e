/-- an edge of the loose graph that a set of calls allows -/
def edg (y : Sy) (G : Gr) (S j k i : Nat) : Prop := nst y k (G.2 j) = some (G.2 i) ∧ ¬ (S.testBit (cl y (G.2 j) k) = true ∧ ¬ nI (say y (G.2 j) (cl y (G.2 j) k)) = yans y (cl y (G.2 j) k))
def rcn (y : Sy) (G : Gr) (S : Nat) : Nat → Nat → Prop
  | 0 => fun i => i = 0
  | n + 1 => fun i => ∃ j k, j < i ∧ k < 4 ∧ edg y G S j k i ∧ rcn y G S n j
def rch (y : Sy) (G : Gr) (S i : Nat) : Prop := ∃ n, rcn y G S n i
theorem rch_iff {y : Sy} {G : Gr} {S i : Nat} : rch y G S i ↔ i = 0 ∨ ∃ j k, j < i ∧ k < 4 ∧ edg y G S j k i ∧ rch y G S j := by
  constructor
  · rintro ⟨n, h⟩
    cases n with
    | zero => exact Or.inl h
    | succ n =>
      obtain ⟨j, k, h1, h2, h3, h4⟩ := h
      exact Or.inr ⟨j, k, h1, h2, h3, n, h4⟩
  · rintro (h | ⟨j, k, h1, h2, h3, n, h4⟩)
    · exact ⟨0, h⟩
    · exact ⟨n + 1, j, k, h1, h2, h3, h4⟩
def PI (y : Sy) (G : Gr) (Sf : Nat → Nat) (s k : Nat) (ways : Nat → Int64) : Prop := ∀ i, i < G.1 → ∀ b, b < 64 →
  (gb (ways i) b = true ↔ (i = 0 ∨ ∃ j k', j < i ∧ k' < 4 ∧ (j < s ∨ (j = s ∧ k' < k)) ∧ edg y G (Sf b) j k' i ∧ rch y G (Sf b) j))
theorem PI_done {y : Sy} {G : Gr} {Sf : Nat → Nat} {s k : Nat} {ways : Nat → Int64} (h : PI y G Sf s k ways) {i b : Nat} (hi : i < G.1) (his : i ≤ s) (hb : b < 64) : gb (ways i) b = true ↔ rch y G (Sf b) i := by
  rw [h i hi b hb, rch_iff]
  constructor
  · rintro (h | ⟨j, k', h1, h2, _, h4, h5⟩)
    · exact Or.inl h
    · exact Or.inr ⟨j, k', h1, h2, h4, h5⟩
  · rintro (h | ⟨j, k', h1, h2, h4, h5⟩)
    · exact Or.inl h
    · exact Or.inr ⟨j, k', h1, h2, Or.inl (by omega), h4, h5⟩
theorem PI_next {y : Sy} {G : Gr} {Sf : Nat → Nat} {s : Nat} {ways : Nat → Int64} (h : PI y G Sf s 4 ways) : PI y G Sf (s + 1) 0 ways := by
  intro i hi b hb
  rw [h i hi b hb]
  constructor
  · rintro (h | ⟨j, k', h1, h2, h3, h4, h5⟩)
    · exact Or.inl h
    · exact Or.inr ⟨j, k', h1, h2, Or.inl (by omega), h4, h5⟩
  · rintro (h | ⟨j, k', h1, h2, h3, h4, h5⟩)
    · exact Or.inl h
    · exact Or.inr ⟨j, k', h1, h2, by omega, h4, h5⟩
theorem PI_skip {y : Sy} {G : Gr} {Sf : Nat → Nat} {s k : Nat} {ways : Nat → Int64} (h : PI y G Sf s k ways) (hn : nst y k (G.2 s) = none) : PI y G Sf s (k + 1) ways := by
  intro i hi b hb
  rw [h i hi b hb]
  constructor
  · rintro (h | ⟨j, k', h1, h2, h3, h4, h5⟩)
    · exact Or.inl h
    · exact Or.inr ⟨j, k', h1, h2, by omega, h4, h5⟩
  · rintro (h | ⟨j, k', h1, h2, h3, h4, h5⟩)
    · exact Or.inl h
    · refine Or.inr ⟨j, k', h1, h2, ?_, h4, h5⟩
      by_cases d : j = s ∧ k' = k
      · obtain ⟨rfl, rfl⟩ := d
        have := h4.1
        rw [hn] at this; cases this
      · omega
theorem PI_lead {y : Sy} {G : Gr} (hG : GO y G) {Sf : Nat → Nat} {s k : Nat} {ways : Nat → Int64} (h : PI y G Sf s k ways) (hs : s < G.1) (hk : k < 4) {z : St} (hn : nst y k (G.2 s) = some z) {M : Int64}
    (hM : ∀ b, b < 64 → gb M b = (gb (ways s) b && !((Sf b).testBit (cl y (G.2 s) k) && !(nI (say y (G.2 s) (cl y (G.2 s) k)) == yans y (cl y (G.2 s) k))))) :
    PI y G Sf s (k + 1) (vp_updL ways (fnd G z) (ways (fnd G z) ||| M)) := by
  obtain ⟨f1, f2⟩ := hG.2.2.2.2.2.1 s k z hs hk hn
  have hz := fnd_lt f1
  intro i hi b hb
  rw [z_updL]
  by_cases d : i = fnd G z
  · subst d
    have h1 := h (fnd G z) hi b hb
    have h2 := PI_done h hs (Nat.le_refl s) hb
    rw [if_pos rfl, gb_or, hM b hb, Bool.or_eq_true, Bool.and_eq_true, h1, h2]
    constructor
    · rintro ((h | ⟨j, k', h1, h2, h3, h4, h5⟩) | ⟨h3, h4⟩)
      · exact Or.inl h
      · exact Or.inr ⟨j, k', h1, h2, by omega, h4, h5⟩
      · refine Or.inr ⟨s, k, f2, hk, Or.inr ⟨rfl, by omega⟩, ⟨by rw [hn, hz], ?_⟩, h3⟩
        rintro ⟨q1, q2⟩
        simp [q1, q2] at h4
    · rintro (h | ⟨j, k', h1, h2, h3, h4, h5⟩)
      · exact Or.inl (Or.inl h)
      · by_cases e : j = s ∧ k' = k
        · obtain ⟨rfl, rfl⟩ := e
          refine Or.inr ⟨h5, ?_⟩
          have := h4.2
          by_cases q1 : (Sf b).testBit (cl y (G.2 j) k') = true
          · by_cases q2 : nI (say y (G.2 j) (cl y (G.2 j) k')) = yans y (cl y (G.2 j) k')
            · simp [q2]
            · exact absurd ⟨q1, q2⟩ this
          · simp at q1
            simp [q1]
        · exact Or.inl (Or.inr ⟨j, k', h1, h2, by omega, h4, h5⟩)
  · rw [if_neg d, h i hi b hb]
    constructor
    · rintro (h | ⟨j, k', h1, h2, h3, h4, h5⟩)
      · exact Or.inl h
      · exact Or.inr ⟨j, k', h1, h2, by omega, h4, h5⟩
    · rintro (h | ⟨j, k', h1, h2, h3, h4, h5⟩)
      · exact Or.inl h
      · refine Or.inr ⟨j, k', h1, h2, ?_, h4, h5⟩
        by_cases e : j = s ∧ k' = k
        · obtain ⟨rfl, rfl⟩ := e
          exfalso
          have h6 := h4.1
          rw [hn] at h6
          injection h6 with h6
          rcases Nat.lt_trichotomy i (fnd G z) with q | q | q
          · exact hG.2.2.1 i (fnd G z) q f1 (by rw [← h6]; exact hz.symm)
          · exact d q
          · exact hG.2.2.1 (fnd G z) i q hi (by rw [← h6]; exact hz)
        · omega
theorem X6_sc61 {fu : Nat} {y : Sy} (hw : WF y) {G : Gr} (hG : GO y G) {own ahd done tills leads kinds f1 f2 f3 f6 : Nat → Int32} (hR : ROW y own ahd) (hC : CR y G done tills) (hn : NC y G leads) {strict : Int32} (hL : CL y strict kinds f1 f2 f3 f6)
    {Sf : Nat → Nat} {setsOf : Nat → Int64} (hS : ∀ c, c < 20 → ∀ b, b < 64 → gb (setsOf c) b = (Sf b).testBit c) {E : Nat → Bool} {Em : Nat} (hE2 : Em < 2 ^ 20) (hE : ∀ c, c < ym y → Em.testBit c = E c) (hSE : ∀ b c, (Sf b).testBit c = true → E c = true)
    {must : Int32} {v3 : Int64} (k22 : (Nat → Int64) → Int64 → Int32 → Option (Int64 × (Nat → Int64))) {s : Nat} (hs : s < G.1) :
    ∀ (j kf k : Nat) (ways : Nat → Int64), j < kf → k + j = 4 → PI y G Sf s k ways →
    ∃ ways', F_X6_setsThatCan_b61 k22 fu 20 (nI G.1) done must leads own ahd setsOf f1 tills kinds f2 f3 f6 (nI Em) v3 (nI s) kf ways (nI k) = k22 ways' v3 (nI (s + 1)) ∧ PI y G Sf (s + 1) 0 ways'
  | 0, kf, k, ways, hj, hk, hP => by
    obtain ⟨g, rfl⟩ : ∃ g, kf = g + 1 := ⟨kf - 1, by omega⟩
    have : k = 4 := by omega
    subst this
    rw [F_X6_setsThatCan_b61, if_pos (by decide), zl_1, zq_add]
    exact ⟨ways, rfl, PI_next hP⟩
  | j + 1, kf, k, ways, hj, hk, hP => by
    obtain ⟨g, rfl⟩ : ∃ g, kf = g + 1 := ⟨kf - 1, by omega⟩
    have h6 := hG.2.1
    have hm := hw.1
    have hk4 : k < 4 := by omega
    have i1 : nI k + (1 : Int32) = nI (k + 1) := by rw [zl_1, zq_add]
    have i4 : nI s * (4 : Int32) + nI k = nI (s * 4 + k) := by rw [zl_4, zq_mul, zq_add]
    have ih := fun ways hP => X6_sc61 (fu := fu) hw hG hR hC hn hL hS hE2 hE hSE (must := must) (v3 := v3) k22 hs j g (k + 1) ways (by omega) (by omega) hP
    rw [F_X6_setsThatCan_b61, if_neg (by rw [zl_4, zd_le (by omega) (by omega)]; omega), i4, if_neg (nI_in (by omega) (by omega)), if_neg (nI_in (by omega) (by omega)), zd_cl (by omega), zd_cl (by omega), (hC s hs).1, X4_nextOf hw hR hk4, z_b1, hn s k hs hk4]
    unfold F_X6_setsThatCan_b171 F_X6_setsThatCan_b173
    rw [i1]
    rcases e : nst y k (G.2 s) with _ | z
    · have hcd : cd G none = -1 := rfl
      rw [hcd, if_pos (by decide)]
      exact ih ways (PI_skip hP e)
    · have hcd : cd G (some z) = nI (fnd G z) := rfl
      obtain ⟨f1', f2'⟩ := hG.2.2.2.2.2.1 s k z hs hk4 e
      have hx := hG.2.2.2.2.1 s hs
      have hcl := cl_lt hw e
      have hclm := (nx_some.mp (nst_nx e)).1
      have hcn : cn (some (cl y (G.2 s) k)) = nI (cl y (G.2 s) k) := rfl
      have ho := X6_isOtherwise hw hL hx (s := s) (by omega) (hC s hs).2 hclm hE2 (hE _ hclm)
      rw [hcd, nst_nx e, hcn, if_neg (nI_pos (by omega)), if_neg (by rw [zd_le (by omega) (by omega)]; omega), if_neg (nI_pos (by omega)), if_neg (by rw [show Int32.ofNat 20 = nI 20 from rfl, zd_le (by omega) (by omega)]; omega), if_neg (nI_in (by omega : fnd G z < 6001) (by omega)), ho, z_b1]
      by_cases c : (E (cl y (G.2 s) k) && !(nI (say y (G.2 s) (cl y (G.2 s) k)) == yans y (cl y (G.2 s) k))) = true
      · rw [if_pos c, if_neg n1_0, if_neg (zin (by omega) (by omega)), if_neg (nI_in (by omega) (by omega)), if_neg (nI_in (by omega : fnd G z < 6001) (by omega)), zd_cl (by omega), zd_cl (by omega)]
        refine ih _ (PI_lead hG hP hs hk4 e (fun b hb => ?_))
        rw [gb_and, gb_not _ hb, hS _ hcl b hb]
        rw [Bool.and_eq_true] at c
        rw [c.2]
        simp
      · rw [if_neg c, if_pos n0_0, if_neg (zin (by omega) (by omega)), if_neg (nI_in (by omega : fnd G z < 6001) (by omega)), zd_cl (by omega)]
        refine ih _ (PI_lead hG hP hs hk4 e (fun b hb => ?_))
        have : ((Sf b).testBit (cl y (G.2 s) k) && !(nI (say y (G.2 s) (cl y (G.2 s) k)) == yans y (cl y (G.2 s) k))) = false := by
          rcases q : (Sf b).testBit (cl y (G.2 s) k) with _ | _
          · rfl
          · have := hSE b _ q
            rw [this] at c
            simpa using c
        rw [this]
        simp
theorem X6_sc22 {fu : Nat} (hfu : 20000 ≤ fu) {y : Sy} (hw : WF y) {G : Gr} (hG : GO y G) {own ahd done tills leads kinds f1 f2 f3 f6 : Nat → Int32} (hR : ROW y own ahd) (hC : CR y G done tills) (hn : NC y G leads) {strict : Int32} (hL : CL y strict kinds f1 f2 f3 f6)
    {Sf : Nat → Nat} {setsOf : Nat → Int64} (hS : ∀ c, c < 20 → ∀ b, b < 64 → gb (setsOf c) b = (Sf b).testBit c) {E : Nat → Bool} {Em : Nat} (hE2 : Em < 2 ^ 20) (hE : ∀ c, c < ym y → Em.testBit c = E c) (hSE : ∀ b c, (Sf b).testBit c = true → E c = true)
    {must : Int32} (he : ∀ i, i < G.1 → (must &&& (done i ^^^ (-1 : Int32)) = 0 ↔ whole y (G.2 i) = true)) :
    ∀ (j kf s : Nat) (v3 : Int64) (ways : Nat → Int64), j < kf → s + j = G.1 → PI y G Sf s 0 ways → (∀ b, b < 64 → (gb v3 b = true ↔ ∃ i, i < s ∧ whole y (G.2 i) = true ∧ rch y G (Sf b) i)) →
    ∃ v3' ways', F_X6_setsThatCan_b22 fu 20 (nI G.1) done must leads own ahd setsOf f1 tills kinds f2 f3 f6 (nI Em) kf ways v3 (nI s) = some (v3', ways') ∧ ∀ b, b < 64 → (gb v3' b = true ↔ ∃ i, i < G.1 ∧ whole y (G.2 i) = true ∧ rch y G (Sf b) i)
  | 0, kf, s, v3, ways, hj, hs, hP, hv => by
    obtain ⟨g, rfl⟩ : ∃ g, kf = g + 1 := ⟨kf - 1, by omega⟩
    have h6 := hG.2.1
    have : s = G.1 := by omega
    subst this
    rw [F_X6_setsThatCan_b22, if_pos (by rw [zd_le (by omega) (by omega)]; omega)]
    exact ⟨v3, ways, rfl, hv⟩
  | j + 1, kf, s, v3, ways, hj, hs, hP, hv => by
    obtain ⟨g, rfl⟩ : ∃ g, kf = g + 1 := ⟨kf - 1, by omega⟩
    have h6 := hG.2.1
    have hs' : s < G.1 := by omega
    have ih := fun v3 ways hP hv => X6_sc22 hfu hw hG hR hC hn hL hS hE2 hE hSE he j g (s + 1) v3 ways (by omega) (by omega) hP hv
    rw [F_X6_setsThatCan_b22, if_neg (by rw [zd_le (by omega) (by omega)]; omega), if_neg (nI_in (by omega) (by omega)), zd_cl (by omega), X4_isEnd, z_b1]
    unfold F_X6_setsThatCan_b58
    by_cases c : whole y (G.2 s) = true
    · rw [if_pos ((he s hs').mpr c), if_neg (by decide), if_neg (zin (by omega) (by omega))]
      obtain ⟨ways', e1, hP'⟩ := X6_sc61 (fu := fu) hw hG hR hC hn hL hS hE2 hE hSE (must := must) (v3 := v3 ||| ways s) (F_X6_setsThatCan_b22 fu 20 (nI G.1) done must leads own ahd setsOf f1 tills kinds f2 f3 f6 (nI Em) g) hs' 4 fu 0 ways (by omega) (by omega) hP
      have e1' : F_X6_setsThatCan_b61 (F_X6_setsThatCan_b22 fu 20 (nI G.1) done must leads own ahd setsOf f1 tills kinds f2 f3 f6 (nI Em) g) fu 20 (nI G.1) done must leads own ahd setsOf f1 tills kinds f2 f3 f6 (nI Em) (v3 ||| ways s) (nI s) fu ways 0 = _ := e1
      rw [e1']
      refine ih _ _ hP' (fun b hb => ?_)
      rw [gb_or, Bool.or_eq_true, hv b hb, PI_done hP hs' (Nat.le_refl s) hb]
      constructor
      · rintro (⟨i, h1, h2⟩ | h)
        · exact ⟨i, by omega, h2⟩
        · exact ⟨s, by omega, c, h⟩
      · rintro ⟨i, h1, h2, h3⟩
        by_cases d : i = s
        · subst d; exact Or.inr h3
        · exact Or.inl ⟨i, by omega, h2, h3⟩
    · rw [if_neg (fun h => c ((he s hs').mp h)), if_pos (by decide)]
      obtain ⟨ways', e1, hP'⟩ := X6_sc61 (fu := fu) hw hG hR hC hn hL hS hE2 hE hSE (must := must) (v3 := v3) (F_X6_setsThatCan_b22 fu 20 (nI G.1) done must leads own ahd setsOf f1 tills kinds f2 f3 f6 (nI Em) g) hs' 4 fu 0 ways (by omega) (by omega) hP
      have e1' : F_X6_setsThatCan_b61 (F_X6_setsThatCan_b22 fu 20 (nI G.1) done must leads own ahd setsOf f1 tills kinds f2 f3 f6 (nI Em) g) fu 20 (nI G.1) done must leads own ahd setsOf f1 tills kinds f2 f3 f6 (nI Em) v3 (nI s) fu ways 0 = _ := e1
      rw [e1']
      refine ih _ _ hP' (fun b hb => ?_)
      rw [hv b hb]
      constructor
      · rintro ⟨i, h1, h2⟩
        exact ⟨i, by omega, h2⟩
      · rintro ⟨i, h1, h2, h3⟩
        by_cases d : i = s
        · subst d; exact absurd h2 c
        · exact ⟨i, by omega, h2, h3⟩
theorem X6_setsThatCan {fu : Nat} (hfu : 20000 ≤ fu) {y : Sy} (hw : WF y) {G : Gr} (hG : GO y G) {own ahd done tills leads kinds f1 f2 f3 f6 : Nat → Int32} (hR : ROW y own ahd) (hC : CR y G done tills) (hn : NC y G leads) {strict : Int32} (hL : CL y strict kinds f1 f2 f3 f6)
    {Sf : Nat → Nat} {setsOf : Nat → Int64} (hS : ∀ c, c < 20 → ∀ b, b < 64 → gb (setsOf c) b = (Sf b).testBit c) {E : Nat → Bool} {Em : Nat} (hE2 : Em < 2 ^ 20) (hE : ∀ c, c < ym y → Em.testBit c = E c) (hSE : ∀ b c, (Sf b).testBit c = true → E c = true)
    {must : Int32} (he : ∀ i, i < G.1 → (must &&& (done i ^^^ (-1 : Int32)) = 0 ↔ whole y (G.2 i) = true)) {ways : Nat → Int64} :
    ∃ v3' ways', F_X6_setsThatCan fu 20 (nI G.1) ways done must leads own ahd setsOf f1 tills kinds f2 f3 f6 (nI Em) = some (v3', ways') ∧ ∀ b, b < 64 → (gb v3' b = true ↔ ∃ i, i < G.1 ∧ whole y (G.2 i) = true ∧ rch y G (Sf b) i) := by
  have h6 := hG.2.1
  unfold F_X6_setsThatCan
  rw [J7_fillL (by omega) (by omega), z_b1]
  have hz : (0 : Int32).toNatClampNeg = 0 := rfl
  rw [hz]
  refine X6_sc22 hfu hw hG hR hC hn hL hS hE2 hE hSE he G.1 fu 0 0 _ (by omega) (by omega) (fun i hi b hb => ?_) (fun b hb => ?_)
  · rw [z_updL]
    by_cases d : i = 0
    · rw [if_pos d, gb_m1 b hb]
      exact ⟨fun _ => Or.inl d, fun _ => rfl⟩
    · rw [if_neg d, if_pos (by omega), gb_0]
      constructor
      · intro h; cases h
      · rintro (h | ⟨j, k', h1, h2, h3, _⟩)
        · exact absurd h d
        · omega
  · rw [gb_0]
    constructor
    · intro h; cases h
    · rintro ⟨i, h1, _⟩
      omega
