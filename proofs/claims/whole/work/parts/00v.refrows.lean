/-! the reference: its rows, mayCome, isWhole -/
def RW (y : Sy) (w : Nat → Int32) : Prop := w 141 = nI (ym y) ∧ ∀ c, c < ym y →
  w (7 * c) = nI (ycsh y c) ∧ w (7 * c + 1) = nI (ytil y c) ∧ w (7 * c + 2) = nI (yact y c) ∧ w (7 * c + 3) = nI (ywhl y c) ∧ w (7 * c + 6) = yans y c
def RI (y : Sy) (there onTill : Int32) (w : Nat → Int32) : Prop := ∀ c, c < ym y → F_X10_isIn there onTill w (nI c) = some (nI (if yinn y c = true then 1 else 0))
def rows_ok (y : Sy) (long row' : Nat → Int32) : Prop := (∀ q, q < 4 → long q = nI (lng y q)) ∧ ∀ q c, q < 4 → c < ym y → row y q c = true → row' (20 * q + rnk y q c) = nI c
def rows_at (y : Sy) (i : Nat) (long row' : Nat → Int32) : Prop := (∀ q, q < 4 → long q = nI (rnk y q i)) ∧ ∀ q c, q < 4 → c < i → row y q c = true → row' (20 * q + rnk y q c) = nI c
theorem X10_layRows22 {y : Sy} (hw : WF y) {there onTill : Int32} {w : Nat → Int32} (hW : RW y w) (hI : RI y there onTill w) :
    ∀ (j kf i : Nat) (long row' : Nat → Int32), j < kf → i + j = ym y → rows_at y i long row' →
    ∃ long2 row2, F_X10_layRows_b22 there onTill w kf long row' (nI i) = some (long2, row2) ∧ rows_ok y long2 row2
  | 0, kf, i, long, row', hj, hi, hr => by
    obtain ⟨q, rfl⟩ : ∃ q, kf = q + 1 := ⟨kf - 1, by omega⟩
    have : i = ym y := by omega
    subst this
    refine ⟨long, row', ?_, hr⟩
    have := hw.1
    have h141 : w 141 = nI (ym y) := hW.1
    rw [F_X10_layRows_b22]
    simp (disch := omega) only [h141, zl_0, zl_1, zl_2, zl_3, zl_4, zl_5, zl_6, zl_7, zl_8, zl_9, zl_10, zl_12, zl_14, zl_15, zl_16, zl_17, zl_18, zl_20, zl_24, zl_31, zl_32, zl_44, zl_48, zl_57, zl_59, zl_63, zl_64, zl_70, zl_74, zl_75, zl_97, zl_99, zl_100, zl_122, zl_140, zl_141, zl_142, zl_255, zl_900, zl_999, zl_1000, zl_1998, zl_6000, zl_6001, zl_16383, zl_16384, zl_65536, zl_65537, zq_add, zq_mul, zq_sub, zd_lt, zd_le, zd_eq, zd_cl, zm_lt, zm_le, zm_gt, zm_ge, zm_eq, zm_qe, zm_mm, zt_lt, zf_lt, zt_le, zf_le, zt_eq, zf_eq, z_upd, z_updL, z_b1, z_b2, z_b3, z_b4, z_b5, z_b6, z_b7, z_b8, z_b9, z_b10, z_b11, z_b12, z_b13, z_b14, z_b15, z_b16, z_b17, z_b18, z_b19, z_b20, ↓reduceIte, or_false, false_or, or_self, true_or, or_true, and_true, true_and, and_false, false_and, not_true_eq_false, not_false_eq_true, ite_self, reduceCtorEq, Nat.reduceAdd, Nat.reduceMul, Nat.reduceSub, Nat.reducePow, Nat.reduceDiv, Nat.reduceMod, Nat.reduceLT, Nat.reduceLeDiff, Nat.reduceEqDiff, Nat.add_zero, Nat.zero_add, Nat.mul_one, Nat.one_mul, Nat.mul_zero, Nat.zero_mul, Nat.sub_zero, Nat.not_lt_zero, Nat.zero_le]
  | j + 1, kf, i, long, row', hj, hi, hr => by
    obtain ⟨q, rfl⟩ : ∃ q, kf = q + 1 := ⟨kf - 1, by omega⟩
    have hm := hw.1
    have hi' : i < ym y := by omega
    have h141 : w 141 = nI (ym y) := hW.1
    have hc4 := (hw.2.2.2.1 i hi').1
    have h0 := (hW.2 i hi').1
    have hin := hI i hi'
    rw [F_X10_layRows_b22]
    unfold F_X10_layRows_b84
    by_cases hti : yinn y i = true
    · rw [if_pos hti] at hin
      have hrow : row y (ycsh y i) i = true := row_iff.mpr ⟨hti, rfl⟩
      have hlen := hr.1 _ hc4
      have hrk : rnk y (ycsh y i) i < 20 := Nat.lt_of_lt_of_le (rnk_lt hi' hrow) (lng_le hw)
      simp (disch := omega) only [h141, hin, h0, hlen, zl_0, zl_1, zl_2, zl_3, zl_4, zl_5, zl_6, zl_7, zl_8, zl_9, zl_10, zl_12, zl_14, zl_15, zl_16, zl_17, zl_18, zl_20, zl_24, zl_31, zl_32, zl_44, zl_48, zl_57, zl_59, zl_63, zl_64, zl_70, zl_74, zl_75, zl_97, zl_99, zl_100, zl_122, zl_140, zl_141, zl_142, zl_255, zl_900, zl_999, zl_1000, zl_1998, zl_6000, zl_6001, zl_16383, zl_16384, zl_65536, zl_65537, zq_add, zq_mul, zq_sub, zd_lt, zd_le, zd_eq, zd_cl, zm_lt, zm_le, zm_gt, zm_ge, zm_eq, zm_qe, zm_mm, zt_lt, zf_lt, zt_le, zf_le, zt_eq, zf_eq, z_upd, z_updL, z_b1, z_b2, z_b3, z_b4, z_b5, z_b6, z_b7, z_b8, z_b9, z_b10, z_b11, z_b12, z_b13, z_b14, z_b15, z_b16, z_b17, z_b18, z_b19, z_b20, ↓reduceIte, or_false, false_or, or_self, true_or, or_true, and_true, true_and, and_false, false_and, not_true_eq_false, not_false_eq_true, ite_self, reduceCtorEq, Nat.reduceAdd, Nat.reduceMul, Nat.reduceSub, Nat.reducePow, Nat.reduceDiv, Nat.reduceMod, Nat.reduceLT, Nat.reduceLeDiff, Nat.reduceEqDiff, Nat.add_zero, Nat.zero_add, Nat.mul_one, Nat.one_mul, Nat.mul_zero, Nat.zero_mul, Nat.sub_zero, Nat.not_lt_zero, Nat.zero_le]
      refine X10_layRows22 hw hW hI j q (i + 1) _ _ (by omega) (by omega) ⟨fun k hk => ?_, fun k c hk hc hrc => ?_⟩
      · rw [z_upd]
        unfold rnk
        rw [fb_ct_succ]
        by_cases g : k = ycsh y i
        · rw [if_pos g, g, if_pos hrow]
        · have : row y k i = false := by
            rcases e : row y k i
            · rfl
            · exact absurd (row_iff.mp e).2.symm g
          rw [if_neg g, this, hr.1 k hk]; rfl
      · rw [z_upd]
        by_cases g : c = i
        · subst g
          have hk' := (row_iff.mp hrc).2
          subst hk'
          rw [if_pos rfl]
        · have hlt : rnk y k c < 20 := Nat.lt_of_lt_of_le (rnk_lt (by omega) hrc) (lng_le hw)
          rw [if_neg, hr.2 k c hk (by omega) hrc]
          intro e
          have e1 : k = ycsh y i := by omega
          subst e1
          have e2 : rnk y (ycsh y i) c = rnk y (ycsh y i) i := by omega
          exact g (rnk_inj hrc hrow e2)
    · rw [if_neg hti] at hin
      simp (disch := omega) only [h141, hin, zl_0, zl_1, zl_2, zl_3, zl_4, zl_5, zl_6, zl_7, zl_8, zl_9, zl_10, zl_12, zl_14, zl_15, zl_16, zl_17, zl_18, zl_20, zl_24, zl_31, zl_32, zl_44, zl_48, zl_57, zl_59, zl_63, zl_64, zl_70, zl_74, zl_75, zl_97, zl_99, zl_100, zl_122, zl_140, zl_141, zl_142, zl_255, zl_900, zl_999, zl_1000, zl_1998, zl_6000, zl_6001, zl_16383, zl_16384, zl_65536, zl_65537, zq_add, zq_mul, zq_sub, zd_lt, zd_le, zd_eq, zd_cl, zm_lt, zm_le, zm_gt, zm_ge, zm_eq, zm_qe, zm_mm, zt_lt, zf_lt, zt_le, zf_le, zt_eq, zf_eq, z_upd, z_updL, z_b1, z_b2, z_b3, z_b4, z_b5, z_b6, z_b7, z_b8, z_b9, z_b10, z_b11, z_b12, z_b13, z_b14, z_b15, z_b16, z_b17, z_b18, z_b19, z_b20, ↓reduceIte, or_false, false_or, or_self, true_or, or_true, and_true, true_and, and_false, false_and, not_true_eq_false, not_false_eq_true, ite_self, reduceCtorEq, Nat.reduceAdd, Nat.reduceMul, Nat.reduceSub, Nat.reducePow, Nat.reduceDiv, Nat.reduceMod, Nat.reduceLT, Nat.reduceLeDiff, Nat.reduceEqDiff, Nat.add_zero, Nat.zero_add, Nat.mul_one, Nat.one_mul, Nat.mul_zero, Nat.zero_mul, Nat.sub_zero, Nat.not_lt_zero, Nat.zero_le]
      refine X10_layRows22 hw hW hI j q (i + 1) _ _ (by omega) (by omega) ⟨fun k hk => ?_, fun k c hk hc hrc => ?_⟩
      · unfold rnk
        rw [fb_ct_succ]
        have : row y k i = false := by
          rcases e : row y k i
          · rfl
          · exact absurd (row_iff.mp e).1 hti
        rw [this, hr.1 k hk]; rfl
      · by_cases g : c = i
        · subst g; exact absurd (row_iff.mp hrc).1 hti
        · exact hr.2 k c hk (by omega) hrc
theorem X10_layRows {fu : Nat} (hfu : 20000 ≤ fu) {y : Sy} (hw : WF y) {there onTill : Int32} {w long row' : Nat → Int32} (hW : RW y w) (hI : RI y there onTill w) :
    ∃ long2 row2, F_X10_layRows fu there onTill long w row' = some (long2, row2) ∧ rows_ok y long2 row2 := by
  obtain ⟨f, hf⟩ : ∃ f, fu = f + 1 + 1 + 1 + 1 + 1 := ⟨fu - 5, by omega⟩
  have e : F_X10_layRows fu there onTill long w row' = F_X10_layRows_b22 there onTill w fu (upd (upd (upd (upd long 0 (nI 0)) 1 (nI 0)) 2 (nI 0)) 3 (nI 0)) row' (nI 0) := by
    unfold F_X10_layRows
    rw [show F_X10_layRows_b2 fu there onTill w row' fu long (0 : Int32) = F_X10_layRows_b2 fu there onTill w row' (f + 1 + 1 + 1 + 1 + 1) long (0 : Int32) by rw [← hf]]
    rw [F_X10_layRows_b2]
    simp (disch := omega) only [zl_0, zl_1, zl_2, zl_3, zl_4, zl_5, zl_6, zl_7, zl_8, zl_9, zl_10, zl_12, zl_14, zl_15, zl_16, zl_17, zl_18, zl_20, zl_24, zl_31, zl_32, zl_44, zl_48, zl_57, zl_59, zl_63, zl_64, zl_70, zl_74, zl_75, zl_97, zl_99, zl_100, zl_122, zl_140, zl_141, zl_142, zl_255, zl_900, zl_999, zl_1000, zl_1998, zl_6000, zl_6001, zl_16383, zl_16384, zl_65536, zl_65537, zq_add, zq_mul, zq_sub, zd_lt, zd_le, zd_eq, zd_cl, zm_lt, zm_le, zm_gt, zm_ge, zm_eq, zm_qe, zm_mm, zt_lt, zf_lt, zt_le, zf_le, zt_eq, zf_eq, z_upd, z_updL, z_b1, z_b2, z_b3, z_b4, z_b5, z_b6, z_b7, z_b8, z_b9, z_b10, z_b11, z_b12, z_b13, z_b14, z_b15, z_b16, z_b17, z_b18, z_b19, z_b20, ↓reduceIte, or_false, false_or, or_self, true_or, or_true, and_true, true_and, and_false, false_and, not_true_eq_false, not_false_eq_true, ite_self, reduceCtorEq, Nat.reduceAdd, Nat.reduceMul, Nat.reduceSub, Nat.reducePow, Nat.reduceDiv, Nat.reduceMod, Nat.reduceLT, Nat.reduceLeDiff, Nat.reduceEqDiff, Nat.add_zero, Nat.zero_add, Nat.mul_one, Nat.one_mul, Nat.mul_zero, Nat.zero_mul, Nat.sub_zero, Nat.not_lt_zero, Nat.zero_le]
    rw [F_X10_layRows_b2]
    simp (disch := omega) only [zl_0, zl_1, zl_2, zl_3, zl_4, zl_5, zl_6, zl_7, zl_8, zl_9, zl_10, zl_12, zl_14, zl_15, zl_16, zl_17, zl_18, zl_20, zl_24, zl_31, zl_32, zl_44, zl_48, zl_57, zl_59, zl_63, zl_64, zl_70, zl_74, zl_75, zl_97, zl_99, zl_100, zl_122, zl_140, zl_141, zl_142, zl_255, zl_900, zl_999, zl_1000, zl_1998, zl_6000, zl_6001, zl_16383, zl_16384, zl_65536, zl_65537, zq_add, zq_mul, zq_sub, zd_lt, zd_le, zd_eq, zd_cl, zm_lt, zm_le, zm_gt, zm_ge, zm_eq, zm_qe, zm_mm, zt_lt, zf_lt, zt_le, zf_le, zt_eq, zf_eq, z_upd, z_updL, z_b1, z_b2, z_b3, z_b4, z_b5, z_b6, z_b7, z_b8, z_b9, z_b10, z_b11, z_b12, z_b13, z_b14, z_b15, z_b16, z_b17, z_b18, z_b19, z_b20, ↓reduceIte, or_false, false_or, or_self, true_or, or_true, and_true, true_and, and_false, false_and, not_true_eq_false, not_false_eq_true, ite_self, reduceCtorEq, Nat.reduceAdd, Nat.reduceMul, Nat.reduceSub, Nat.reducePow, Nat.reduceDiv, Nat.reduceMod, Nat.reduceLT, Nat.reduceLeDiff, Nat.reduceEqDiff, Nat.add_zero, Nat.zero_add, Nat.mul_one, Nat.one_mul, Nat.mul_zero, Nat.zero_mul, Nat.sub_zero, Nat.not_lt_zero, Nat.zero_le]
    rw [F_X10_layRows_b2]
    simp (disch := omega) only [zl_0, zl_1, zl_2, zl_3, zl_4, zl_5, zl_6, zl_7, zl_8, zl_9, zl_10, zl_12, zl_14, zl_15, zl_16, zl_17, zl_18, zl_20, zl_24, zl_31, zl_32, zl_44, zl_48, zl_57, zl_59, zl_63, zl_64, zl_70, zl_74, zl_75, zl_97, zl_99, zl_100, zl_122, zl_140, zl_141, zl_142, zl_255, zl_900, zl_999, zl_1000, zl_1998, zl_6000, zl_6001, zl_16383, zl_16384, zl_65536, zl_65537, zq_add, zq_mul, zq_sub, zd_lt, zd_le, zd_eq, zd_cl, zm_lt, zm_le, zm_gt, zm_ge, zm_eq, zm_qe, zm_mm, zt_lt, zf_lt, zt_le, zf_le, zt_eq, zf_eq, z_upd, z_updL, z_b1, z_b2, z_b3, z_b4, z_b5, z_b6, z_b7, z_b8, z_b9, z_b10, z_b11, z_b12, z_b13, z_b14, z_b15, z_b16, z_b17, z_b18, z_b19, z_b20, ↓reduceIte, or_false, false_or, or_self, true_or, or_true, and_true, true_and, and_false, false_and, not_true_eq_false, not_false_eq_true, ite_self, reduceCtorEq, Nat.reduceAdd, Nat.reduceMul, Nat.reduceSub, Nat.reducePow, Nat.reduceDiv, Nat.reduceMod, Nat.reduceLT, Nat.reduceLeDiff, Nat.reduceEqDiff, Nat.add_zero, Nat.zero_add, Nat.mul_one, Nat.one_mul, Nat.mul_zero, Nat.zero_mul, Nat.sub_zero, Nat.not_lt_zero, Nat.zero_le]
    rw [F_X10_layRows_b2]
    simp (disch := omega) only [zl_0, zl_1, zl_2, zl_3, zl_4, zl_5, zl_6, zl_7, zl_8, zl_9, zl_10, zl_12, zl_14, zl_15, zl_16, zl_17, zl_18, zl_20, zl_24, zl_31, zl_32, zl_44, zl_48, zl_57, zl_59, zl_63, zl_64, zl_70, zl_74, zl_75, zl_97, zl_99, zl_100, zl_122, zl_140, zl_141, zl_142, zl_255, zl_900, zl_999, zl_1000, zl_1998, zl_6000, zl_6001, zl_16383, zl_16384, zl_65536, zl_65537, zq_add, zq_mul, zq_sub, zd_lt, zd_le, zd_eq, zd_cl, zm_lt, zm_le, zm_gt, zm_ge, zm_eq, zm_qe, zm_mm, zt_lt, zf_lt, zt_le, zf_le, zt_eq, zf_eq, z_upd, z_updL, z_b1, z_b2, z_b3, z_b4, z_b5, z_b6, z_b7, z_b8, z_b9, z_b10, z_b11, z_b12, z_b13, z_b14, z_b15, z_b16, z_b17, z_b18, z_b19, z_b20, ↓reduceIte, or_false, false_or, or_self, true_or, or_true, and_true, true_and, and_false, false_and, not_true_eq_false, not_false_eq_true, ite_self, reduceCtorEq, Nat.reduceAdd, Nat.reduceMul, Nat.reduceSub, Nat.reducePow, Nat.reduceDiv, Nat.reduceMod, Nat.reduceLT, Nat.reduceLeDiff, Nat.reduceEqDiff, Nat.add_zero, Nat.zero_add, Nat.mul_one, Nat.one_mul, Nat.mul_zero, Nat.zero_mul, Nat.sub_zero, Nat.not_lt_zero, Nat.zero_le]
    rw [F_X10_layRows_b2]
    simp (disch := omega) only [zl_0, zl_1, zl_2, zl_3, zl_4, zl_5, zl_6, zl_7, zl_8, zl_9, zl_10, zl_12, zl_14, zl_15, zl_16, zl_17, zl_18, zl_20, zl_24, zl_31, zl_32, zl_44, zl_48, zl_57, zl_59, zl_63, zl_64, zl_70, zl_74, zl_75, zl_97, zl_99, zl_100, zl_122, zl_140, zl_141, zl_142, zl_255, zl_900, zl_999, zl_1000, zl_1998, zl_6000, zl_6001, zl_16383, zl_16384, zl_65536, zl_65537, zq_add, zq_mul, zq_sub, zd_lt, zd_le, zd_eq, zd_cl, zm_lt, zm_le, zm_gt, zm_ge, zm_eq, zm_qe, zm_mm, zt_lt, zf_lt, zt_le, zf_le, zt_eq, zf_eq, z_upd, z_updL, z_b1, z_b2, z_b3, z_b4, z_b5, z_b6, z_b7, z_b8, z_b9, z_b10, z_b11, z_b12, z_b13, z_b14, z_b15, z_b16, z_b17, z_b18, z_b19, z_b20, ↓reduceIte, or_false, false_or, or_self, true_or, or_true, and_true, true_and, and_false, false_and, not_true_eq_false, not_false_eq_true, ite_self, reduceCtorEq, Nat.reduceAdd, Nat.reduceMul, Nat.reduceSub, Nat.reducePow, Nat.reduceDiv, Nat.reduceMod, Nat.reduceLT, Nat.reduceLeDiff, Nat.reduceEqDiff, Nat.add_zero, Nat.zero_add, Nat.mul_one, Nat.one_mul, Nat.mul_zero, Nat.zero_mul, Nat.sub_zero, Nat.not_lt_zero, Nat.zero_le]
  rw [e]
  refine X10_layRows22 hw hW hI (ym y) fu 0 _ _ (by have := hw.1; omega) (by omega) ⟨fun q hq => ?_, fun q c _ hc => absurd hc (Nat.not_lt_zero c)⟩
  have c' : q = 0 ∨ q = 1 ∨ q = 2 ∨ q = 3 := by omega
  rcases c' with rfl | rfl | rfl | rfl <;> rfl
/-- what is not done of a cashier, from the k-th on -/
theorem rows_get {y : Sy} (hw : WF y) {long row' : Nat → Int32} (h : rows_ok y long row') {q k : Nat} (hq : q < 4) (hk : k < lng y q) :
    ∃ c, c < ym y ∧ row y q c = true ∧ rnk y q c = k ∧ row' (20 * q + k) = nI c := by
  obtain ⟨c, h1, h2, h3⟩ := fb_ct_kth (p := row y q) (n := ym y) hk
  refine ⟨c, h1, h2, h3, ?_⟩
  have := h.2 q c hq h1 h2
  rwa [show rnk y q c = k from h3] at this
/-- ends, answers, who is bound, as the reference has them -/
def RE (y : Sy) (w : Nat → Int32) (loose minutes byKind : Int32) : Prop :=
  (∀ c, c < ym y → (∃ b, w (7 * c + 4) = nI b ∧ b ≤ 999) ∧ (w (7 * c + 5) = -2 ∨ ∃ e, w (7 * c + 5) = nI e ∧ e ≤ 1998)) ∧
  (∀ c, c < ym y → ymst y c = (yinn y c && !(w (7 * c + 5) == -2))) ∧
  (∃ L, loose = nI L ∧ L < 2 ^ 20 ∧ ∀ c, c < ym y → yinn y c = true → ystr y c = (!(w (7 * c + 5) == -2) && !L.testBit c)) ∧
  (0 ≤ minutes.toInt ∧ minutes.toInt ≤ 99) ∧
  (∀ a c, a < ym y → c < ym y → yinn y a = true → yinn y c = true → yblk y a c = (!(byKind == 1) && (!(w (7 * a + 5) == -2) && decide ((w (7 * a + 5)).toInt + (if byKind = 2 then minutes.toInt else 0) < (w (7 * c + 4)).toInt))))
/-- row of counts of a stand -/
def RD (y : Sy) (doneOf : Nat → Int32) (s : Nat) (x : St) : Prop := ∀ q, q < 4 → doneOf (4 * s + q) = nI (cnt y q x.1)
def gd (w : Nat → Int32) (late : Int) (c a : Nat) : Bool := w (7 * a + 5) == -2 || decide (¬ (w (7 * a + 5)).toInt + late < (w (7 * c + 4)).toInt)
theorem X10_may57 {fu : Nat} {y : Sy} (hw : WF y) {w long row' doneOf : Nat → Int32} {loose minutes byKind v3 : Int32} (hE : RE y w loose minutes byKind) (hR : rows_ok y long row') {q c : Nat} (hq : q < 4) (hc : c < ym y)
    (h3 : 0 ≤ v3.toInt ∧ v3.toInt ≤ 99) (k33 : Int32 → Int32 → Option Int32) (v1 : Int32) :
    ∀ (j kf k : Nat), j + 2 ≤ kf → k + j = lng y q →
    F_X10_mayCome_b57 k33 fu doneOf long row' w v1 (nI c) v3 (nI q) kf (nI 1) (nI k) = k33 (nI (if ∀ a, a < ym y → row y q a = true → k ≤ rnk y q a → gd w v3.toInt c a = true then 1 else 0)) (nI (q + 1))
  | 0, kf, k, hj, hk => by
    obtain ⟨g, rfl⟩ : ∃ g, kf = g + 1 := ⟨kf - 1, by omega⟩
    have hl := lng_le hw (q := q)
    have e : (∀ a, a < ym y → row y q a = true → k ≤ rnk y q a → gd w v3.toInt c a = true) := by
      intro a ha hr hk'
      have := rnk_lt ha hr
      omega
    rw [if_pos e, F_X10_mayCome_b57]
    unfold F_X10_mayCome_b137
    simp (disch := omega) only [hR.1 q hq, zl_0, zl_1, zl_2, zl_3, zl_4, zl_5, zl_6, zl_7, zl_8, zl_9, zl_10, zl_12, zl_14, zl_15, zl_16, zl_17, zl_18, zl_20, zl_24, zl_31, zl_32, zl_44, zl_48, zl_57, zl_59, zl_63, zl_64, zl_70, zl_74, zl_75, zl_97, zl_99, zl_100, zl_122, zl_140, zl_141, zl_142, zl_255, zl_900, zl_999, zl_1000, zl_1998, zl_6000, zl_6001, zl_16383, zl_16384, zl_65536, zl_65537, zq_add, zq_mul, zq_sub, zd_lt, zd_le, zd_eq, zd_cl, zm_lt, zm_le, zm_gt, zm_ge, zm_eq, zm_qe, zm_mm, zt_lt, zf_lt, zt_le, zf_le, zt_eq, zf_eq, z_upd, z_updL, z_b1, z_b2, z_b3, z_b4, z_b5, z_b6, z_b7, z_b8, z_b9, z_b10, z_b11, z_b12, z_b13, z_b14, z_b15, z_b16, z_b17, z_b18, z_b19, z_b20, ↓reduceIte, or_false, false_or, or_self, true_or, or_true, and_true, true_and, and_false, false_and, not_true_eq_false, not_false_eq_true, ite_self, reduceCtorEq, Nat.reduceAdd, Nat.reduceMul, Nat.reduceSub, Nat.reducePow, Nat.reduceDiv, Nat.reduceMod, Nat.reduceLT, Nat.reduceLeDiff, Nat.reduceEqDiff, Nat.add_zero, Nat.zero_add, Nat.mul_one, Nat.one_mul, Nat.mul_zero, Nat.zero_mul, Nat.sub_zero, Nat.not_lt_zero, Nat.zero_le]
  | j + 1, kf, k, hj, hk => by
    obtain ⟨g, rfl⟩ : ∃ g, kf = g + 1 := ⟨kf - 1, by omega⟩
    have hl := lng_le hw (q := q)
    have hm := hw.1
    obtain ⟨a, h1, h2, h5, h4⟩ := rows_get hw hR hq (k := k) (by omega)
    obtain ⟨⟨b, hb1, hb2⟩, _⟩ := hE.1 c hc
    have he := (hE.1 a h1).2
    rw [F_X10_mayCome_b57]
    unfold F_X10_mayCome_b124 F_X10_mayCome_b129
    simp (disch := omega) only [hR.1 q hq, h4, zl_0, zl_1, zl_2, zl_3, zl_4, zl_5, zl_6, zl_7, zl_8, zl_9, zl_10, zl_12, zl_14, zl_15, zl_16, zl_17, zl_18, zl_20, zl_24, zl_31, zl_32, zl_44, zl_48, zl_57, zl_59, zl_63, zl_64, zl_70, zl_74, zl_75, zl_97, zl_99, zl_100, zl_122, zl_140, zl_141, zl_142, zl_255, zl_900, zl_999, zl_1000, zl_1998, zl_6000, zl_6001, zl_16383, zl_16384, zl_65536, zl_65537, zq_add, zq_mul, zq_sub, zd_lt, zd_le, zd_eq, zd_cl, zm_lt, zm_le, zm_gt, zm_ge, zm_eq, zm_qe, zm_mm, zt_lt, zf_lt, zt_le, zf_le, zt_eq, zf_eq, z_upd, z_updL, z_b1, z_b2, z_b3, z_b4, z_b5, z_b6, z_b7, z_b8, z_b9, z_b10, z_b11, z_b12, z_b13, z_b14, z_b15, z_b16, z_b17, z_b18, z_b19, z_b20, ↓reduceIte, or_false, false_or, or_self, true_or, or_true, and_true, true_and, and_false, false_and, not_true_eq_false, not_false_eq_true, ite_self, reduceCtorEq, Nat.reduceAdd, Nat.reduceMul, Nat.reduceSub, Nat.reducePow, Nat.reduceDiv, Nat.reduceMod, Nat.reduceLT, Nat.reduceLeDiff, Nat.reduceEqDiff, Nat.add_zero, Nat.zero_add, Nat.mul_one, Nat.one_mul, Nat.mul_zero, Nat.zero_mul, Nat.sub_zero, Nat.not_lt_zero, Nat.zero_le]
    have hm2 : (-nI 2 : Int32) = -2 := rfl
    rw [hm2]
    have step : ∀ (P : Prop) [Decidable P], (gd w v3.toInt c a = true → (P ↔ ∀ a, a < ym y → row y q a = true → k + 1 ≤ rnk y q a → gd w v3.toInt c a = true)) → gd w v3.toInt c a = true →
        (nI (if P then 1 else 0)) = nI (if ∀ a, a < ym y → row y q a = true → k ≤ rnk y q a → gd w v3.toInt c a = true then 1 else 0) := by
      intro P _ hP hg
      have : P ↔ ∀ a, a < ym y → row y q a = true → k ≤ rnk y q a → gd w v3.toInt c a = true := by
        rw [hP hg]
        constructor
        · intro h d hd hr hk'
          rcases Nat.lt_or_ge k (rnk y q d) with g1 | g1
          · exact h d hd hr g1
          · have : d = a := rnk_inj hr h2 (by omega)
            rw [this]; exact hg
        · intro h d hd hr hk'
          exact h d hd hr (by omega)
      congr 1
      split
      · rw [if_pos (this.mp ‹_›)]
      · rw [if_neg (fun h => ‹¬ P› (this.mpr h))]
    by_cases ho : w (7 * a + 5) = -2
    · have hg : gd w v3.toInt c a = true := by unfold gd; rw [ho]; rfl
      rw [if_pos ho, X10_may57 hw hE hR hq hc h3 k33 v1 j g (k + 1) (by omega) (by omega)]
      congr 1
      exact step _ (fun _ => Iff.rfl) hg
    · rw [if_neg ho]
      obtain ⟨e, he1, he2⟩ := he.resolve_left ho
      have hs : (nI e + v3).toInt = (e : Int) + v3.toInt := by
        rw [fb_addI (by rw [nI_toInt (by omega)]; omega) (by rw [nI_toInt (by omega)]; omega), nI_toInt (by omega)]
      have hlt : (nI e + v3 < nI b) = ((e : Int) + v3.toInt < b) := by
        rw [Int32.lt_iff_toInt_lt, hs, nI_toInt (by omega)]
      have hne : (nI e == -2) = false := by
        rw [beq_eq_false_iff_ne]; rw [← he1]; exact ho
      by_cases hx : (e : Int) + v3.toInt < b
      · have hg : gd w v3.toInt c a = false := by
          unfold gd
          rw [he1, hb1, hne, nI_toInt (by omega), nI_toInt (by omega)]
          simp [hx]
        have e2 : ¬ (∀ a, a < ym y → row y q a = true → k ≤ rnk y q a → gd w v3.toInt c a = true) := by
          intro h
          have := h a h1 h2 (by omega)
          rw [hg] at this; cases this
        rw [if_neg e2, hb1, he1, if_pos (by rw [hlt]; exact hx)]
        obtain ⟨g', rfl⟩ : ∃ g', g = g' + 1 := ⟨g - 1, by omega⟩
        rw [F_X10_mayCome_b57]
        unfold F_X10_mayCome_b137
        simp (disch := omega) only [hR.1 q hq, zl_0, zl_1, zl_2, zl_3, zl_4, zl_5, zl_6, zl_7, zl_8, zl_9, zl_10, zl_12, zl_14, zl_15, zl_16, zl_17, zl_18, zl_20, zl_24, zl_31, zl_32, zl_44, zl_48, zl_57, zl_59, zl_63, zl_64, zl_70, zl_74, zl_75, zl_97, zl_99, zl_100, zl_122, zl_140, zl_141, zl_142, zl_255, zl_900, zl_999, zl_1000, zl_1998, zl_6000, zl_6001, zl_16383, zl_16384, zl_65536, zl_65537, zq_add, zq_mul, zq_sub, zd_lt, zd_le, zd_eq, zd_cl, zm_lt, zm_le, zm_gt, zm_ge, zm_eq, zm_qe, zm_mm, zt_lt, zf_lt, zt_le, zf_le, zt_eq, zf_eq, z_upd, z_updL, z_b1, z_b2, z_b3, z_b4, z_b5, z_b6, z_b7, z_b8, z_b9, z_b10, z_b11, z_b12, z_b13, z_b14, z_b15, z_b16, z_b17, z_b18, z_b19, z_b20, ↓reduceIte, or_false, false_or, or_self, true_or, or_true, and_true, true_and, and_false, false_and, not_true_eq_false, not_false_eq_true, ite_self, reduceCtorEq, Nat.reduceAdd, Nat.reduceMul, Nat.reduceSub, Nat.reducePow, Nat.reduceDiv, Nat.reduceMod, Nat.reduceLT, Nat.reduceLeDiff, Nat.reduceEqDiff, Nat.add_zero, Nat.zero_add, Nat.mul_one, Nat.one_mul, Nat.mul_zero, Nat.zero_mul, Nat.sub_zero, Nat.not_lt_zero, Nat.zero_le]
      · have hg : gd w v3.toInt c a = true := by
          unfold gd
          rw [he1, hb1, hne, nI_toInt (by omega), nI_toInt (by omega)]
          simp; omega
        rw [hb1, he1, if_neg (by rw [hlt]; exact hx), X10_may57 hw hE hR hq hc h3 k33 v1 j g (k + 1) (by omega) (by omega)]
        congr 1
        exact step _ (fun _ => Iff.rfl) hg
