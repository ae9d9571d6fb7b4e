theorem zs_subn {e b : Nat} (h : e < b) (hb : b < 2147483648) : (nI e - nI b < nI 0) = True := by
  rw [Int32.lt_iff_toInt_lt, fb_subI (by rw [nI_toInt (by omega), nI_toInt hb]; omega) (by rw [nI_toInt (by omega), nI_toInt hb]; omega), nI_toInt (by omega), nI_toInt hb, nI_toInt (by omega)]
  exact eq_true (by omega)
/-- one look at the table -/
theorem X6_find_stop {fu b : Nat} {done tills tab : Nat → Int32} {tb : Nat → Nat} {s kf p w : Nat} {look : Int32} (hp : p < 16384) (hw : w < 16384) (hb : b < 2100000000)
    (ht : tab p = nI (tb p)) (hl : tb p < 2100000000) (e : Tc tb b p = none) :
    F_X6_find_b72 fu (nI b) done tills tab (nI s) look (kf + 1) (nI p) (nI w) = some (nI s, upd tab p (nI (b + s))) := by
  rw [F_X6_find_b72]
  simp (disch := omega) only [ht, zl_0, zl_1, zl_2, zl_3, zl_4, zl_5, zl_6, zl_7, zl_8, zl_9, zl_10, zl_12, zl_14, zl_15, zl_16, zl_17, zl_18, zl_20, zl_24, zl_31, zl_32, zl_44, zl_48, zl_57, zl_59, zl_63, zl_64, zl_70, zl_74, zl_75, zl_97, zl_99, zl_100, zl_122, zl_140, zl_141, zl_142, zl_255, zl_900, zl_999, zl_1000, zl_1998, zl_6000, zl_6001, zl_16383, zl_16384, zl_65536, zl_65537, zq_add, zq_mul, zq_sub, zd_lt, zd_le, zd_eq, zd_cl, zm_lt, zm_le, zm_gt, zm_ge, zm_eq, zm_qe, zm_mm, zt_lt, zf_lt, zt_le, zf_le, zt_eq, zf_eq, z_upd, z_updL, z_b1, z_b2, z_b3, z_b4, z_b5, z_b6, z_b7, z_b8, z_b9, z_b10, z_b11, z_b12, z_b13, z_b14, z_b15, z_b16, z_b17, z_b18, z_b19, z_b20, ↓reduceIte, or_false, false_or, or_self, true_or, or_true, and_true, true_and, and_false, false_and, not_true_eq_false, not_false_eq_true, ite_self, reduceCtorEq, Nat.reduceAdd, Nat.reduceMul, Nat.reduceSub, Nat.reducePow, Nat.reduceDiv, Nat.reduceMod, Nat.reduceLT, Nat.reduceLeDiff, Nat.reduceEqDiff, Nat.add_zero, Nat.zero_add, Nat.mul_one, Nat.one_mul, Nat.mul_zero, Nat.zero_mul, Nat.sub_zero, Nat.not_lt_zero, Nat.zero_le]
  unfold F_X6_find_b107
  simp (disch := omega) only [zl_0, zl_1, zl_2, zl_3, zl_4, zl_5, zl_6, zl_7, zl_8, zl_9, zl_10, zl_12, zl_14, zl_15, zl_16, zl_17, zl_18, zl_20, zl_24, zl_31, zl_32, zl_44, zl_48, zl_57, zl_59, zl_63, zl_64, zl_70, zl_74, zl_75, zl_97, zl_99, zl_100, zl_122, zl_140, zl_141, zl_142, zl_255, zl_900, zl_999, zl_1000, zl_1998, zl_6000, zl_6001, zl_16383, zl_16384, zl_65536, zl_65537, zq_add, zq_mul, zq_sub, zd_lt, zd_le, zd_eq, zd_cl, zm_lt, zm_le, zm_gt, zm_ge, zm_eq, zm_qe, zm_mm, zt_lt, zf_lt, zt_le, zf_le, zt_eq, zf_eq, z_upd, z_updL, z_b1, z_b2, z_b3, z_b4, z_b5, z_b6, z_b7, z_b8, z_b9, z_b10, z_b11, z_b12, z_b13, z_b14, z_b15, z_b16, z_b17, z_b18, z_b19, z_b20, ↓reduceIte, or_false, false_or, or_self, true_or, or_true, and_true, true_and, and_false, false_and, not_true_eq_false, not_false_eq_true, ite_self, reduceCtorEq, Nat.reduceAdd, Nat.reduceMul, Nat.reduceSub, Nat.reducePow, Nat.reduceDiv, Nat.reduceMod, Nat.reduceLT, Nat.reduceLeDiff, Nat.reduceEqDiff, Nat.add_zero, Nat.zero_add, Nat.mul_one, Nat.one_mul, Nat.mul_zero, Nat.zero_mul, Nat.sub_zero, Nat.not_lt_zero, Nat.zero_le]
  unfold Tc at e
  by_cases h : tb p < b
  · simp only [zs_subn h (show b < 2147483648 by omega), ↓reduceIte]
  · have h2 : ¬ tb p < b + 6001 := by
      intro g; rw [if_pos ⟨by omega, g⟩] at e; cases e
    simp (disch := omega) only [zl_0, zl_1, zl_2, zl_3, zl_4, zl_5, zl_6, zl_7, zl_8, zl_9, zl_10, zl_12, zl_14, zl_15, zl_16, zl_17, zl_18, zl_20, zl_24, zl_31, zl_32, zl_44, zl_48, zl_57, zl_59, zl_63, zl_64, zl_70, zl_74, zl_75, zl_97, zl_99, zl_100, zl_122, zl_140, zl_141, zl_142, zl_255, zl_900, zl_999, zl_1000, zl_1998, zl_6000, zl_6001, zl_16383, zl_16384, zl_65536, zl_65537, zq_add, zq_mul, zq_sub, zd_lt, zd_le, zd_eq, zd_cl, zm_lt, zm_le, zm_gt, zm_ge, zm_eq, zm_qe, zm_mm, zt_lt, zf_lt, zt_le, zf_le, zt_eq, zf_eq, z_upd, z_updL, z_b1, z_b2, z_b3, z_b4, z_b5, z_b6, z_b7, z_b8, z_b9, z_b10, z_b11, z_b12, z_b13, z_b14, z_b15, z_b16, z_b17, z_b18, z_b19, z_b20, ↓reduceIte, or_false, false_or, or_self, true_or, or_true, and_true, true_and, and_false, false_and, not_true_eq_false, not_false_eq_true, ite_self, reduceCtorEq, Nat.reduceAdd, Nat.reduceMul, Nat.reduceSub, Nat.reducePow, Nat.reduceDiv, Nat.reduceMod, Nat.reduceLT, Nat.reduceLeDiff, Nat.reduceEqDiff, Nat.add_zero, Nat.zero_add, Nat.mul_one, Nat.one_mul, Nat.mul_zero, Nat.zero_mul, Nat.sub_zero, Nat.not_lt_zero, Nat.zero_le]
theorem X6_find_hit {fu b : Nat} {done tills tab : Nat → Int32} {tb : Nat → Nat} {s kf p w r : Nat} {look : Int32} (hfu : 20000 ≤ fu) (hp : p < 16384) (hw : w < 16384) (hb : b < 2100000000)
    (ht : tab p = nI (tb p)) (hl : tb p < 2100000000) (hs : s < 6001) (e : Tc tb b p = some r) (ha : alk done tills look r s = true) :
    F_X6_find_b72 fu (nI b) done tills tab (nI s) look (kf + 1) (nI p) (nI w) = some (nI r, tab) := by
  unfold Tc at e
  split at e
  · rename_i h
    injection e with e
    rw [F_X6_find_b72]
    simp (disch := omega) only [ht, e, zl_0, zl_1, zl_2, zl_3, zl_4, zl_5, zl_6, zl_7, zl_8, zl_9, zl_10, zl_12, zl_14, zl_15, zl_16, zl_17, zl_18, zl_20, zl_24, zl_31, zl_32, zl_44, zl_48, zl_57, zl_59, zl_63, zl_64, zl_70, zl_74, zl_75, zl_97, zl_99, zl_100, zl_122, zl_140, zl_141, zl_142, zl_255, zl_900, zl_999, zl_1000, zl_1998, zl_6000, zl_6001, zl_16383, zl_16384, zl_65536, zl_65537, zq_add, zq_mul, zq_sub, zd_lt, zd_le, zd_eq, zd_cl, zm_lt, zm_le, zm_gt, zm_ge, zm_eq, zm_qe, zm_mm, zt_lt, zf_lt, zt_le, zf_le, zt_eq, zf_eq, z_upd, z_updL, z_b1, z_b2, z_b3, z_b4, z_b5, z_b6, z_b7, z_b8, z_b9, z_b10, z_b11, z_b12, z_b13, z_b14, z_b15, z_b16, z_b17, z_b18, z_b19, z_b20, ↓reduceIte, or_false, false_or, or_self, true_or, or_true, and_true, true_and, and_false, false_and, not_true_eq_false, not_false_eq_true, ite_self, reduceCtorEq, Nat.reduceAdd, Nat.reduceMul, Nat.reduceSub, Nat.reducePow, Nat.reduceDiv, Nat.reduceMod, Nat.reduceLT, Nat.reduceLeDiff, Nat.reduceEqDiff, Nat.add_zero, Nat.zero_add, Nat.mul_one, Nat.one_mul, Nat.mul_zero, Nat.zero_mul, Nat.sub_zero, Nat.not_lt_zero, Nat.zero_le]
    rw [X6_alike fu hfu (by omega) hs, if_pos ha]
    simp (disch := omega) only [zl_0, zl_1, zl_2, zl_3, zl_4, zl_5, zl_6, zl_7, zl_8, zl_9, zl_10, zl_12, zl_14, zl_15, zl_16, zl_17, zl_18, zl_20, zl_24, zl_31, zl_32, zl_44, zl_48, zl_57, zl_59, zl_63, zl_64, zl_70, zl_74, zl_75, zl_97, zl_99, zl_100, zl_122, zl_140, zl_141, zl_142, zl_255, zl_900, zl_999, zl_1000, zl_1998, zl_6000, zl_6001, zl_16383, zl_16384, zl_65536, zl_65537, zq_add, zq_mul, zq_sub, zd_lt, zd_le, zd_eq, zd_cl, zm_lt, zm_le, zm_gt, zm_ge, zm_eq, zm_qe, zm_mm, zt_lt, zf_lt, zt_le, zf_le, zt_eq, zf_eq, z_upd, z_updL, z_b1, z_b2, z_b3, z_b4, z_b5, z_b6, z_b7, z_b8, z_b9, z_b10, z_b11, z_b12, z_b13, z_b14, z_b15, z_b16, z_b17, z_b18, z_b19, z_b20, ↓reduceIte, or_false, false_or, or_self, true_or, or_true, and_true, true_and, and_false, false_and, not_true_eq_false, not_false_eq_true, ite_self, reduceCtorEq, Nat.reduceAdd, Nat.reduceMul, Nat.reduceSub, Nat.reducePow, Nat.reduceDiv, Nat.reduceMod, Nat.reduceLT, Nat.reduceLeDiff, Nat.reduceEqDiff, Nat.add_zero, Nat.zero_add, Nat.mul_one, Nat.one_mul, Nat.mul_zero, Nat.zero_mul, Nat.sub_zero, Nat.not_lt_zero, Nat.zero_le]
  · cases e
theorem X6_find_next {fu b : Nat} {done tills tab : Nat → Int32} {tb : Nat → Nat} {s kf p w r : Nat} {look : Int32} (hfu : 20000 ≤ fu) (hp : p < 16384) (hw : w < 16384) (hb : b < 2100000000)
    (ht : tab p = nI (tb p)) (hl : tb p < 2100000000) (hs : s < 6001) (e : Tc tb b p = some r) (ha : alk done tills look r s = false) :
    F_X6_find_b72 fu (nI b) done tills tab (nI s) look (kf + 1) (nI p) (nI w) = F_X6_find_b72 fu (nI b) done tills tab (nI s) look kf (nI ((p + 1) % 16384)) (nI (w + 1)) := by
  unfold Tc at e
  split at e
  · rename_i h
    injection e with e
    rw [F_X6_find_b72]
    simp (disch := omega) only [ht, e, zl_0, zl_1, zl_2, zl_3, zl_4, zl_5, zl_6, zl_7, zl_8, zl_9, zl_10, zl_12, zl_14, zl_15, zl_16, zl_17, zl_18, zl_20, zl_24, zl_31, zl_32, zl_44, zl_48, zl_57, zl_59, zl_63, zl_64, zl_70, zl_74, zl_75, zl_97, zl_99, zl_100, zl_122, zl_140, zl_141, zl_142, zl_255, zl_900, zl_999, zl_1000, zl_1998, zl_6000, zl_6001, zl_16383, zl_16384, zl_65536, zl_65537, zq_add, zq_mul, zq_sub, zd_lt, zd_le, zd_eq, zd_cl, zm_lt, zm_le, zm_gt, zm_ge, zm_eq, zm_qe, zm_mm, zt_lt, zf_lt, zt_le, zf_le, zt_eq, zf_eq, z_upd, z_updL, z_b1, z_b2, z_b3, z_b4, z_b5, z_b6, z_b7, z_b8, z_b9, z_b10, z_b11, z_b12, z_b13, z_b14, z_b15, z_b16, z_b17, z_b18, z_b19, z_b20, ↓reduceIte, or_false, false_or, or_self, true_or, or_true, and_true, true_and, and_false, false_and, not_true_eq_false, not_false_eq_true, ite_self, reduceCtorEq, Nat.reduceAdd, Nat.reduceMul, Nat.reduceSub, Nat.reducePow, Nat.reduceDiv, Nat.reduceMod, Nat.reduceLT, Nat.reduceLeDiff, Nat.reduceEqDiff, Nat.add_zero, Nat.zero_add, Nat.mul_one, Nat.one_mul, Nat.mul_zero, Nat.zero_mul, Nat.sub_zero, Nat.not_lt_zero, Nat.zero_le]
    rw [X6_alike fu hfu (by omega) hs, if_neg (by simp [ha])]
    simp (disch := omega) only [zl_0, zl_1, zl_2, zl_3, zl_4, zl_5, zl_6, zl_7, zl_8, zl_9, zl_10, zl_12, zl_14, zl_15, zl_16, zl_17, zl_18, zl_20, zl_24, zl_31, zl_32, zl_44, zl_48, zl_57, zl_59, zl_63, zl_64, zl_70, zl_74, zl_75, zl_97, zl_99, zl_100, zl_122, zl_140, zl_141, zl_142, zl_255, zl_900, zl_999, zl_1000, zl_1998, zl_6000, zl_6001, zl_16383, zl_16384, zl_65536, zl_65537, zq_add, zq_mul, zq_sub, zd_lt, zd_le, zd_eq, zd_cl, zm_lt, zm_le, zm_gt, zm_ge, zm_eq, zm_qe, zm_mm, zt_lt, zf_lt, zt_le, zf_le, zt_eq, zf_eq, z_upd, z_updL, z_b1, z_b2, z_b3, z_b4, z_b5, z_b6, z_b7, z_b8, z_b9, z_b10, z_b11, z_b12, z_b13, z_b14, z_b15, z_b16, z_b17, z_b18, z_b19, z_b20, ↓reduceIte, or_false, false_or, or_self, true_or, or_true, and_true, true_and, and_false, false_and, not_true_eq_false, not_false_eq_true, ite_self, reduceCtorEq, Nat.reduceAdd, Nat.reduceMul, Nat.reduceSub, Nat.reducePow, Nat.reduceDiv, Nat.reduceMod, Nat.reduceLT, Nat.reduceLeDiff, Nat.reduceEqDiff, Nat.add_zero, Nat.zero_add, Nat.mul_one, Nat.one_mul, Nat.mul_zero, Nat.zero_mul, Nat.sub_zero, Nat.not_lt_zero, Nat.zero_le]
    rw [show (16383 : Nat) = 2 ^ 14 - 1 from rfl, fa_mask]
  · cases e
theorem X6_find_skip {fu b : Nat} {done tills tab : Nat → Int32} {tb : Nat → Nat} {s a : Nat} {look : Int32} (hfu : 20000 ≤ fu) (hb : b < 2100000000)
    (ht : ∀ p, p < 16384 → tab p = nI (tb p) ∧ tb p < 2100000000) (hs : s < 6001) :
    ∀ (t K w : Nat), t ≤ K → t + w ≤ 16383 → (∀ u, u < t → ∃ r, Tc tb b ((a + w + u) % 16384) = some r ∧ alk done tills look r s = false) →
    F_X6_find_b72 fu (nI b) done tills tab (nI s) look K (nI ((a + w) % 16384)) (nI w) = F_X6_find_b72 fu (nI b) done tills tab (nI s) look (K - t) (nI ((a + w + t) % 16384)) (nI (w + t))
  | 0, K, w, _, _, _ => rfl
  | t + 1, K, w, hK, hw, h => by
    have hp : (a + w) % 16384 < 16384 := Nat.mod_lt _ (by omega)
    obtain ⟨q, rfl⟩ : ∃ q, K = q + 1 := ⟨K - 1, by omega⟩
    obtain ⟨r, e1, e2⟩ := h 0 (by omega)
    rw [X6_find_next hfu hp (by omega) hb (ht _ hp).1 (ht _ hp).2 hs e1 e2, show ((a + w) % 16384 + 1) % 16384 = (a + (w + 1)) % 16384 by omega,
      X6_find_skip hfu hb ht hs t q (w + 1) (by omega) (by omega) (fun u hu => by
        have := h (u + 1) (by omega)
        rwa [show a + w + (u + 1) = a + (w + 1) + u by omega] at this)]
    rw [show a + (w + 1) + t = a + w + (t + 1) by omega, show w + 1 + t = w + (t + 1) by omega, show q + 1 - (t + 1) = q - t by omega]
theorem X6_find_b20 {fu b : Nat} {done tills tab : Nat → Int32} {s kf : Nat} {look v3 h : Int32} (hs : s < 6001) (h3 : v3 = nI (s * 3)) :
    F_X6_find_b20 fu (nI b) done tills tab (nI s) look v3 (kf + 1 + 1 + 1 + 1) h (0 : Int32) =
    F_X6_find_b72 fu (nI b) done tills tab (nI s) look fu ((hst (hst (hst h (tills (s * 3 + 0))) (tills (s * 3 + 1))) (tills (s * 3 + 2)) ^^^ kushr (hst (hst (hst h (tills (s * 3 + 0))) (tills (s * 3 + 1))) (tills (s * 3 + 2))) (14 : Int32)) &&& (16383 : Int32)) (0 : Int32) := by
  subst h3
  have g0 : ¬ (3 : Int32) ≤ 0 := by decide
  have g1 : ¬ (3 : Int32) ≤ 0 + 1 := by decide
  have g2 : ¬ (3 : Int32) ≤ 0 + 1 + 1 := by decide
  have g3 : (3 : Int32) ≤ 0 + 1 + 1 + 1 := by decide
  have i0 : nI (s * 3) + 0 = nI (s * 3 + 0) := by rw [zl_0, zq_add]
  have i1 : nI (s * 3) + (0 + 1) = nI (s * 3 + 1) := by rw [zl_0, zl_1, zq_add, zq_add]
  have i2 : nI (s * 3) + (0 + 1 + 1) = nI (s * 3 + 2) := by rw [zl_0, zl_1, zq_add, zq_add, zq_add]
  rw [F_X6_find_b20, if_neg g0, i0, if_neg (nI_in (by omega) (by omega)), zd_cl (by omega), F_X6_find_b20, if_neg g1, i1, if_neg (nI_in (by omega) (by omega)), zd_cl (by omega),
    F_X6_find_b20, if_neg g2, i2, if_neg (nI_in (by omega) (by omega)), zd_cl (by omega), F_X6_find_b20, if_pos g3]
  rfl
theorem X6_find_e0 {fu b s : Nat} (hfu : 20000 ≤ fu) {done tills tab : Nat → Int32} {look : Int32} (hs : s < 6001) :
    F_X6_find fu (nI b) done tills tab (nI s) look = F_X6_find_b72 fu (nI b) done tills tab (nI s) look fu (nI (HC done tills look s)) (nI 0) := by
  obtain ⟨f, hf⟩ : ∃ f, fu = f + 1 + 1 + 1 + 1 := ⟨fu - 4, by omega⟩
  have q := X6_find_b20 (fu := fu) (b := b) (done := done) (tills := tills) (tab := tab) (kf := f) (look := look) (h := (done s &&& look) * (739982445 : Int32)) (v3 := nI s * (3 : Int32)) hs (by rw [zl_3, zq_mul])
  rw [← hf, hsh_eq, HC_eq] at q
  rw [F_X6_find, if_neg (nI_in hs (by omega)), zd_cl (by omega), q, zl_0]
/-- find: what is alike, or the place of the new one -/
theorem X6_find (fu : Nat) (hfu : 20000 ≤ fu) {b s : Nat} {done tills tab : Nat → Int32} {tb : Nat → Nat} {look : Int32} {ins : Nat → Prop} (hb : b < 2100000000)
    (ht : ∀ p, p < 16384 → tab p = nI (tb p) ∧ tb p < 2100000000) (hs : s < 6001) (hT : TI (Tc tb b) (HC done tills look) ins) :
    (∃ r, ins r ∧ alk done tills look r s = true ∧ F_X6_find fu (nI b) done tills tab (nI s) look = some (nI r, tab)) ∨
    ((∀ i, ins i → alk done tills look i s = false) ∧ (¬ ins s → ∃ tab' tb', F_X6_find fu (nI b) done tills tab (nI s) look = some (nI s, tab') ∧
      (∀ p, p < 16384 → tab' p = nI (tb' p) ∧ (tb' p = tb p ∨ tb' p = b + s)) ∧ TI (Tc tb' b) (HC done tills look) (fun i => ins i ∨ i = s))) := by
  have hC := HC_lt done tills look s
  rw [X6_find_e0 hfu hs]
  obtain ⟨t, h1, h2, h3⟩ := TI_seek hT (HC done tills look s) (fun r => alk done tills look r s)
  have e1 := X6_find_skip (a := HC done tills look s) hfu hb ht hs t fu 0 (by omega) (by omega) (fun u hu => by rw [Nat.add_zero]; exact h3 u hu)
  rw [Nat.add_zero, Nat.mod_eq_of_lt hC, Nat.zero_add] at e1
  rw [e1]
  have hp : (HC done tills look s + t) % 16384 < 16384 := Nat.mod_lt _ (by omega)
  obtain ⟨q, hq⟩ : ∃ q, fu - t = q + 1 := ⟨fu - t - 1, by omega⟩
  rw [hq]
  rcases h2 with h2 | ⟨r, h2, h4⟩
  · right
    refine ⟨fun i hi => ?_, fun hns => ?_⟩
    · rcases hx : alk done tills look i s
      · rfl
      · have := TI_none hT h2 h3 hi (HC_alk hx)
        exact this.symm.trans hx |>.symm ▸ rfl
    · refine ⟨_, fun p => if p = (HC done tills look s + t) % 16384 then b + s else tb p, X6_find_stop hp (by omega) hb (ht _ hp).1 (ht _ hp).2 h2, ?_, ?_⟩
      · intro p hp'
        rw [z_upd]
        by_cases c : p = (HC done tills look s + t) % 16384
        · simp only [c, ↓reduceIte]
          exact ⟨trivial, Or.inr trivial⟩
        · simp only [c, ↓reduceIte]
          exact ⟨(ht p hp').1, Or.inl trivial⟩
      · refine TI_ins hT h1 h2 (fun u hu e => ?_) hs hns ?_ ?_
        · obtain ⟨r, q, _⟩ := h3 u hu
          rw [e] at q; cases q
        · unfold Tc
          simp only [↓reduceIte]
          rw [if_pos ⟨by omega, by omega⟩, Nat.add_sub_cancel_left]
        · intro j hj hne
          unfold Tc
          simp only [hne, ↓reduceIte]
  · left
    exact ⟨r, hT.1 _ _ hp h2, h4, X6_find_hit hfu hp (by omega) hb (ht _ hp).1 (ht _ hp).2 hs h2 h4⟩
