section
/-! names told: class and reference -/
def usd (nt nc j : Nat) : Prop := j < nt ∨ (3 ≤ j ∧ j < 3 + nc)
def NS (U : Nat → Nat) (nt nc : Nat) (tn cn : Nat → Int64) (fr : Nat → Int32) : Prop :=
  (∀ j, j < 7 → usd nt nc j → NM fr j (U j)) ∧ (∀ j, j < 7 → ¬ usd nt nc j → fr (7 + j) = 0) ∧ (∀ j, j < nt → tn j = lN (U j)) ∧ (∀ j, j < nc → cn j = lN (U (3 + j))) ∧
  (∀ i j, i < 7 → j < 7 → usd nt nc i → usd nt nc j → U i = U j → i = j)
theorem X10_find40 {fu : Nat} (hfu : 20000 ≤ fu) {k2 : Int32 → Option Int32} {ns : Int32} {fr le : Nat → Int32} {v : Int32} : F_X10_find_b40 k2 fu ns fr le v = k2 (v + 1) := by
  obtain ⟨u, rfl⟩ : ∃ u, fu = u + 1 := ⟨fu - 1, by omega⟩
  unfold F_X10_find_b40 F_X10_find_b41
  rw [F_X10_find_b44]
  unfold F_X10_find_b91
  rw [if_pos (rfl : (0 : Int32) = 0)]
  by_cases d : ns ≤ 0
  · rw [if_pos d]
  · rw [if_neg d, if_pos rfl]
theorem X10_find2 {fu : Nat} (hfu : 20000 ≤ fu) {U : Nat → Nat} {nt nc : Nat} {tn cn : Nat → Int64} {fr : Nat → Int32} (hN : NS U nt nc tn cn fr) {W : Nat} {ns : Int32} {le : Nat → Int32} (hT : TW W ns le) {m : Nat} (hm : m ≤ 7) (h1 : ∀ q, q < m → ¬ (usd nt nc q ∧ U q = W)) (h2 : m < 7 → usd nt nc m ∧ U m = W) : ∀ (j kf i : Nat), j < kf → i + j = m →
    F_X10_find_b2 fu ns fr le kf (nI i) = some (if m < 7 then nI m else -1)
  | 0, kf, i, hj, hi => by
    obtain ⟨g, rfl⟩ : ∃ g, kf = g + 1 := ⟨kf - 1, by omega⟩
    have : i = m := by omega
    subst this
    rw [F_X10_find_b2]
    have e7 : (7 : Int32) + nI i = nI (7 + i) := by rw [zl_7, zq_add]
    by_cases d : i < 7
    · obtain ⟨u1, u2⟩ := h2 d
      have hnm := hN.1 i d u1
      obtain ⟨s, gg, s1, s8, es, _, _⟩ := id hnm
      have hs0 : ¬ nI s ≤ 0 := by rw [zl_0, zd_le (by omega) (by omega)]; omega
      rw [if_neg (by rw [zl_7, zd_le (by omega) (by omega)]; omega), e7, if_neg (nI_in (by omega) (by omega)), zd_cl (by omega), if_neg (by rw [es]; exact hs0), if_neg (in9 (by omega) (by omega)), X10_find_cmp hfu d hnm hT, if_pos u2, if_pos d]
    · rw [if_pos (by rw [zl_7, zd_le (by omega) (by omega)]; omega), if_neg d]
  | j + 1, kf, i, hj, hi => by
    obtain ⟨g, rfl⟩ : ∃ g, kf = g + 1 := ⟨kf - 1, by omega⟩
    have e7 : (7 : Int32) + nI i = nI (7 + i) := by rw [zl_7, zq_add]
    have j1 : nI i + (1 : Int32) = nI (i + 1) := by rw [zl_1, zq_add]
    have ih := X10_find2 hfu hN hT hm h1 h2 j g (i + 1) (by omega) (by omega)
    rw [F_X10_find_b2, if_neg (by rw [zl_7, zd_le (by omega) (by omega)]; omega), e7, if_neg (nI_in (by omega) (by omega)), zd_cl (by omega)]
    by_cases u : usd nt nc i
    · have hnm := hN.1 i (by omega) u
      obtain ⟨s, gg, s1, s8, es, _, _⟩ := id hnm
      have hs0 : ¬ nI s ≤ 0 := by rw [zl_0, zd_le (by omega) (by omega)]; omega
      rw [if_neg (by rw [es]; exact hs0), if_neg (in9 (by omega) (by omega)), X10_find_cmp hfu (by omega) hnm hT, if_neg (fun h => h1 i (by omega) ⟨u, h⟩)]
      exact ih
    · rw [if_pos (by rw [hN.2.1 i (by omega) u]; decide), X10_find40 hfu, j1]
      exact ih
theorem X3_find2 {n1 cnt : Nat} {f : Nat → Int64} {V : Nat → Nat} {W : Nat} (hn1 : n1 ≤ 4) (hc : cnt ≤ n1) (hf : ∀ i, i < cnt → f i = lN (V i) ∧ V i < 1099511627776) (hW : W < 1099511627776) {m : Nat} (hm : m ≤ cnt) (h1 : ∀ q, q < m → ¬ V q = W) (h2 : m < cnt → V m = W) : ∀ (j kf i : Nat), j < kf → i + j = m →
    F_X3_find_b2 n1 f (lN W) (nI cnt) kf (nI i) = some (if m < cnt then nI m else -1)
  | 0, kf, i, hj, hi => by
    obtain ⟨g, rfl⟩ : ∃ g, kf = g + 1 := ⟨kf - 1, by omega⟩
    have : i = m := by omega
    subst this
    rw [F_X3_find_b2]
    by_cases d : i < cnt
    · have e1 : Int32.ofNat n1 = nI n1 := rfl
      obtain ⟨q1, q2⟩ := hf i d
      have e0 : lg_cmp (f i) (lN W) = 0 := by
        rw [q1, zc_eq0 (by omega) (by omega)]; exact h2 d
      rw [if_neg (by rw [zd_le (by omega) (by omega)]; omega), e1, if_neg (by rw [zd_le (by omega) (by omega)]; omega), if_neg (nI_in (by omega) (by omega)), zd_cl (by omega), if_pos e0, if_pos d]
    · rw [if_pos (by rw [zd_le (by omega) (by omega)]; omega), if_neg d]
  | j + 1, kf, i, hj, hi => by
    obtain ⟨g, rfl⟩ : ∃ g, kf = g + 1 := ⟨kf - 1, by omega⟩
    have e1 : Int32.ofNat n1 = nI n1 := rfl
    obtain ⟨q1, q2⟩ := hf i (by omega)
    have j1 : nI i + (1 : Int32) = nI (i + 1) := by rw [zl_1, zq_add]
    have e0 : ¬ lg_cmp (f i) (lN W) = 0 := by
      rw [q1, zc_eq0 (by omega) (by omega)]; exact h1 i (by omega)
    rw [F_X3_find_b2, if_neg (by rw [zd_le (by omega) (by omega)]; omega), e1, if_neg (by rw [zd_le (by omega) (by omega)]; omega), if_neg (nI_in (by omega) (by omega)), zd_cl (by omega), if_neg e0, j1]
    exact X3_find2 hn1 hc hf hW hm h1 h2 j g (i + 1) (by omega) (by omega)
theorem find_all {fu : Nat} (hfu : 20000 ≤ fu) {U : Nat → Nat} {nt nc : Nat} (hnt : nt ≤ 3) (hnc : nc ≤ 4) {tn cn : Nat → Int64} {fr : Nat → Int32} (hN : NS U nt nc tn cn fr) {W : Nat} {ns : Int32} {le : Nat → Int32} (hT : TW W ns le) :
    (∃ j, j < 7 ∧ usd nt nc j ∧ U j = W ∧ F_X10_find fu ns fr le = some (nI j) ∧ F_X3_find fu 3 tn (lN W) (nI nt) = some (if j < 3 then nI j else -1) ∧ F_X3_find fu 4 cn (lN W) (nI nc) = some (if j < 3 then -1 else nI (j - 3))) ∨
    ((∀ j, j < 7 → usd nt nc j → ¬ U j = W) ∧ F_X10_find fu ns fr le = some (-1) ∧ F_X3_find fu 3 tn (lN W) (nI nt) = some (-1) ∧ F_X3_find fu 4 cn (lN W) (nI nc) = some (-1)) := by
  have hW := TW_lt hT
  obtain ⟨m, m1, m2, m3, m4⟩ := run_ex (fun q => ¬ (usd nt nc q ∧ U q = W)) 7 7 0 (by omega)
  obtain ⟨a, a1, a2, a3, a4⟩ := run_ex (fun q => ¬ U q = W) nt nt 0 (by omega)
  obtain ⟨b, b1, b2, b3, b4⟩ := run_ex (fun q => ¬ U (3 + q) = W) nc nc 0 (by omega)
  have r1 : F_X10_find fu ns fr le = _ := X10_find2 hfu hN hT m2 (fun q hq => m3 q (by omega) hq) (fun hq => Classical.not_not.mp (m4 hq)) m fu 0 (by omega) (by omega)
  have r2 : F_X3_find fu 3 tn (lN W) (nI nt) = _ := X3_find2 (n1 := 3) (V := U) (by omega) hnt (fun i hi => ⟨hN.2.2.1 i hi, NM_lt (hN.1 i (by omega) (Or.inl hi))⟩) hW a2 (fun q hq => a3 q (by omega) hq) (fun hq => Classical.not_not.mp (a4 hq)) a fu 0 (by omega) (by omega)
  have r3 : F_X3_find fu 4 cn (lN W) (nI nc) = _ := X3_find2 (n1 := 4) (V := fun q => U (3 + q)) (by omega) hnc (fun i hi => ⟨hN.2.2.2.1 i hi, NM_lt (hN.1 (3 + i) (by omega) (Or.inr ⟨by omega, by omega⟩))⟩) hW b2 (fun q hq => b3 q (by omega) hq) (fun hq => Classical.not_not.mp (b4 hq)) b fu 0 (by omega) (by omega)
  rw [r1, r2, r3]
  by_cases d : m < 7
  · obtain ⟨u1, u2⟩ := Classical.not_not.mp (m4 d)
    have huniq : ∀ j, j < 7 → usd nt nc j → U j = W → j = m := fun j hj hu he => hN.2.2.2.2 j m hj d hu u1 (Eq.trans he (Eq.symm u2))
    refine Or.inl ⟨m, d, u1, u2, by rw [if_pos d], ?_, ?_⟩
    · by_cases c : m < 3
      · have ha : a = m := by
          have hmt : m < nt := by unfold usd at u1; omega
          have han : a < nt := by
            rcases Nat.lt_or_ge a nt with h | h
            · exact h
            · exact absurd u2 (a3 m (by omega) (by omega))
          exact huniq a (by omega) (Or.inl han) (Classical.not_not.mp (a4 han))
        subst ha
        rw [if_pos (by unfold usd at u1; omega), if_pos c]
      · rw [if_neg c, if_neg]
        intro han
        have := huniq a (by omega) (Or.inl han) (Classical.not_not.mp (a4 han))
        omega
    · by_cases c : m < 3
      · rw [if_pos c, if_neg]
        intro hbn
        have := huniq (3 + b) (by omega) (Or.inr ⟨by omega, by omega⟩) (Classical.not_not.mp (b4 hbn))
        omega
      · have hmc : m < 3 + nc := by unfold usd at u1; omega
        have hbn : b < nc := by
          rcases Nat.lt_or_ge b nc with h | h
          · exact h
          · exact absurd (by rw [show 3 + (m - 3) = m by omega]; exact u2) (b3 (m - 3) (by omega) (by omega))
        have := huniq (3 + b) (by omega) (Or.inr ⟨by omega, by omega⟩) (Classical.not_not.mp (b4 hbn))
        rw [if_pos hbn, if_neg c]
        congr 2
        omega
  · have hno : ∀ j, j < 7 → usd nt nc j → ¬ U j = W := fun j hj hu he => m3 j (by omega) (by omega) ⟨hu, he⟩
    refine Or.inr ⟨hno, by rw [if_neg d], ?_, ?_⟩
    · rw [if_neg]
      intro h
      exact hno a (by omega) (Or.inl h) (Classical.not_not.mp (a4 h))
    · rw [if_neg]
      intro h
      exact hno (3 + b) (by omega) (Or.inr ⟨by omega, by omega⟩) (Classical.not_not.mp (b4 h))
/-! a name is kept -/
theorem X10_keep2 {j s : Nat} {g : Nat → Nat} {fr0 le : Nat → Int32} (hj : j < 7) (hs : s ≤ 8) (hle : ∀ q, q < s → le q = nI (g q + 96)) : ∀ (x kf i : Nat) (fr : Nat → Int32), x < kf → i + x = s → (∀ q, q < i → fr (14 + 8 * j + q) = nI (g q + 96)) → (∀ y, y ≠ 7 + j → (y < 14 + 8 * j ∨ 14 + 8 * j + 8 ≤ y) → fr y = fr0 y) →
    ∃ fr', F_X10_keepName_b2 (nI s) le (nI j) kf fr (nI i) = some fr' ∧ fr' (7 + j) = nI s ∧ (∀ q, q < s → fr' (14 + 8 * j + q) = nI (g q + 96)) ∧ (∀ y, y ≠ 7 + j → (y < 14 + 8 * j ∨ 14 + 8 * j + 8 ≤ y) → fr' y = fr0 y)
  | 0, kf, i, fr, hx, hi, h1, h2 => by
    obtain ⟨u, rfl⟩ : ∃ u, kf = u + 1 := ⟨kf - 1, by omega⟩
    have : i = s := by omega
    subst this
    have e7 : (7 : Int32) + nI j = nI (7 + j) := by rw [zl_7, zq_add]
    rw [F_X10_keepName_b2, if_pos (by rw [zd_le (by omega) (by omega)]; omega), e7, if_neg (nI_in (by omega) (by omega)), zd_cl (by omega)]
    refine ⟨_, rfl, by rw [z_upd, if_pos rfl], fun q hq => ?_, fun y hy1 hy2 => ?_⟩
    · rw [z_upd, if_neg (by omega)]; exact h1 q hq
    · rw [z_upd, if_neg hy1]; exact h2 y hy1 hy2
  | x + 1, kf, i, fr, hx, hi, h1, h2 => by
    obtain ⟨u, rfl⟩ : ∃ u, kf = u + 1 := ⟨kf - 1, by omega⟩
    have e14 : (14 : Int32) + (8 : Int32) * nI j + nI i = nI (14 + 8 * j + i) := by rw [zl_14, zl_8, zq_mul, zq_add, zq_add]
    have j1 : nI i + (1 : Int32) = nI (i + 1) := by rw [zl_1, zq_add]
    rw [F_X10_keepName_b2, if_neg (by rw [zd_le (by omega) (by omega)]; omega), if_neg (nI_in (by omega) (by omega)), e14, if_neg (nI_in (by omega) (by omega)), zd_cl (by omega), zd_cl (by omega), j1]
    refine X10_keep2 hj hs hle x u (i + 1) _ (by omega) (by omega) (fun q hq => ?_) (fun y hy1 hy2 => ?_)
    · rw [z_upd]
      by_cases d : q = i
      · subst d; rw [if_pos rfl]; exact hle q (by omega)
      · rw [if_neg (by omega)]; exact h1 q (by omega)
    · rw [z_upd, if_neg (by omega)]; exact h2 y hy1 hy2
theorem X10_keepName {fu : Nat} (hfu : 20000 ≤ fu) {j W : Nat} (hj : j < 7) {ns : Int32} {le : Nat → Int32} (hT : TW W ns le) (fr : Nat → Int32) :
    ∃ fr', F_X10_keepName fu ns fr le (nI j) = some fr' ∧ NM fr' j W ∧ (∀ y, y ≠ 7 + j → (y < 14 + 8 * j ∨ 14 + 8 * j + 8 ≤ y) → fr' y = fr y) := by
  obtain ⟨s, g, h1, h2, rfl, h4, rfl⟩ := hT
  obtain ⟨fr', r1, r2, r3, r4⟩ := X10_keep2 (fr0 := fr) hj h2 (fun q hq => (h4 q hq).1) s fu 0 fr (by omega) (by omega) (fun q hq => by omega) (fun y _ _ => rfl)
  exact ⟨fr', r1, ⟨s, g, h1, h2, r2, fun q hq => ⟨r3 q hq, (h4 q hq).2⟩, rfl⟩, r4⟩
theorem NM_of {fr fr' : Nat → Int32} {j W : Nat} (h : NM fr j W) (h1 : fr' (7 + j) = fr (7 + j)) (h2 : ∀ q, q < 8 → fr' (14 + 8 * j + q) = fr (14 + 8 * j + q)) : NM fr' j W := by
  obtain ⟨s, g, s1, s8, es, hg, hw⟩ := h
  exact ⟨s, g, s1, s8, by rw [h1]; exact es, fun q hq => by rw [h2 q (by omega)]; exact hg q hq, hw⟩
theorem NS_frame {U : Nat → Nat} {nt nc : Nat} {tn cn : Nat → Int64} {fr fr' : Nat → Int32} (h : NS U nt nc tn cn fr) (he : ∀ y, 7 ≤ y → fr' y = fr y) : NS U nt nc tn cn fr' :=
  ⟨fun j hj hu => NM_of (h.1 j hj hu) (he _ (by omega)) (fun q hq => he _ (by omega)), fun j hj hu => by rw [he _ (by omega)]; exact h.2.1 j hj hu, h.2.2⟩
def uU (U : Nat → Nat) (a W : Nat) : Nat → Nat := fun j => if j = a then W else U j
theorem NS_add {U : Nat → Nat} {nt nc nt' nc' a W : Nat} {tn cn tn' cn' : Nat → Int64} {fr fr' : Nat → Int32} (h : NS U nt nc tn cn fr) (ha : a < 7) (hua : ¬ usd nt nc a) (hu : ∀ j, j < 7 → (usd nt' nc' j ↔ usd nt nc j ∨ j = a)) (hW : ∀ j, j < 7 → usd nt nc j → ¬ U j = W)
    (hN : NM fr' a W) (he : ∀ y, 7 ≤ y → y ≠ 7 + a → (y < 14 + 8 * a ∨ 14 + 8 * a + 8 ≤ y) → fr' y = fr y) (ht : ∀ j, j < nt' → tn' j = lN (uU U a W j)) (hc : ∀ j, j < nc' → cn' j = lN (uU U a W (3 + j))) : NS (uU U a W) nt' nc' tn' cn' fr' := by
  refine ⟨fun j hj huj => ?_, fun j hj huj => ?_, ht, hc, fun i j hi hj hui huj hij => ?_⟩
  · unfold uU
    by_cases d : j = a
    · subst d; rw [if_pos rfl]; exact hN
    · rw [if_neg d]
      have hu' : usd nt nc j := by
        rcases (hu j hj).mp huj with q | q
        · exact q
        · exact absurd q d
      exact NM_of (h.1 j hj hu') (he _ (by omega) (by omega) (by omega)) (fun q hq => he _ (by omega) (by omega) (by omega))
  · have hno : ¬ usd nt nc j := fun q => huj ((hu j hj).mpr (Or.inl q))
    have hja : j ≠ a := fun q => huj ((hu j hj).mpr (Or.inr q))
    rw [he _ (by omega) (by omega) (by omega)]
    exact h.2.1 j hj hno
  · unfold uU at hij
    by_cases d : i = a
    · by_cases q : j = a
      · omega
      · rw [if_pos d, if_neg q] at hij
        have hu' : usd nt nc j := by
          rcases (hu j hj).mp huj with z | z
          · exact z
          · exact absurd z q
        exact absurd hij.symm (hW j hj hu')
    · have hui' : usd nt nc i := by
        rcases (hu i hi).mp hui with z | z
        · exact z
        · exact absurd z d
      by_cases q : j = a
      · rw [if_neg d, if_pos q] at hij
        exact absurd hij (hW i hi hui')
      · have hu' : usd nt nc j := by
          rcases (hu j hj).mp huj with z | z
          · exact z
          · exact absurd z q
        rw [if_neg d, if_neg q] at hij
        exact h.2.2.2.2 i j hi hj hui' hu' hij
/-- a name that isn't told yet must stand here -/
theorem new_both {fu : Nat} (hfu : 20000 ≤ fu) {n : Nat} (hn : n ≤ 900) {f : Nat → Int32} {T : Nat → Nat} (ht : tx f T) {k p e w : Nat} {bh so pl wh : Int32} {wo : Int64} {at' en tok wr ns : Int32} {le : Nat → Int32} (h : TK n f T k p e w bh so pl wh wo at' en tok wr ns le) (fa pc fa' pc' : Int32)
    {U : Nat → Nat} {nt nc : Nat} (hnt : nt ≤ 3) (hnc : nc ≤ 4) {tn cn : Nat → Int64} {fr : Nat → Int32} (hN : NS U nt nc tn cn fr) :
    (∃ W, F_X3_mustBeNew fu fa pc bh so pl wo f (nI nt) (nI nc) tn cn = some (1, fa, pc) ∧ F_X10_mustName fu at' tok ns fa' pc' 0 le = some (fa', pc', 0) ∧ F_X10_find fu ns fr le = some (-1) ∧ TW W ns le ∧ wo = lN W ∧ ∀ j, j < 7 → usd nt nc j → ¬ U j = W) ∨
    (F_X3_mustBeNew fu fa pc bh so pl wo f (nI nt) (nI nc) tn cn = some (0, 1, pl) ∧ F_X10_mustName fu at' tok ns fa' pc' 0 le = some (1, pl, 1)) ∨
    (∃ j, j < 7 ∧ F_X3_mustBeNew fu fa pc bh so pl wo f (nI nt) (nI nc) tn cn = some (0, 3, pl) ∧ F_X10_mustName fu at' tok ns fa' pc' 0 le = some (fa', pc', 0) ∧ F_X10_find fu ns fr le = some (nI j)) := by
  have hpl : pl = at' := by rw [h.2.2.2.2.1.2.2, h.2.2.2.2.2.1.1]
  unfold F_X3_mustBeNew
  rcases name_both hfu hn h fa' pc' with ⟨c1, c2, c3⟩ | ⟨c1, c2⟩
  · subst c3
    obtain ⟨W, hT, hwo⟩ := TK_TW ht h
    rw [c1, z_b1, if_neg (by decide)]
    rcases find_all hfu hnt hnc hN hT with ⟨j, j7, u1, u2, q1, q2, q3⟩ | ⟨u1, q1, q2, q3⟩
    · refine Or.inr (Or.inr ⟨j, j7, ?_, c2, q1⟩)
      rw [hwo, q2, q3, z_b1]
      by_cases d : j < 3
      · rw [if_pos d, if_pos (by rw [zl_0, zd_le (by omega) (by omega)]; omega)]; rfl
      · rw [if_neg d, if_neg (by decide), z_b1, if_neg d, if_neg (by rw [zl_0, zd_lt (by omega) (by omega)]; omega)]; rfl
    · refine Or.inl ⟨W, ?_, c2, q1, hT, hwo, u1⟩
      rw [hwo, q2, q3, z_b1, if_neg (by decide), z_b1, if_pos (by decide)]; rfl
  · refine Or.inr (Or.inl ⟨?_, by rw [c2, hpl]⟩)
    rw [c1, z_b1, if_pos rfl]; rfl
end
