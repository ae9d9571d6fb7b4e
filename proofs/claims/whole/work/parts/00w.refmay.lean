theorem X10_may33 {fu : Nat} (hfu : 20000 ≤ fu) {y : Sy} (hw : WF y) {w long row' doneOf : Nat → Int32} {loose minutes byKind v3 : Int32} (hE : RE y w loose minutes byKind) (hR : rows_ok y long row') {s c : Nat} {x : St} (hx : okS y x) (hD : RD y doneOf s x)
    (hs : s ≤ 6000) (hc : c < ym y) (h3 : 0 ≤ v3.toInt ∧ v3.toInt ≤ 99) :
    ∀ (j kf q : Nat), j < kf → q + j = 4 →
    F_X10_mayCome_b33 fu doneOf long row' w (nI s) (nI c) v3 kf (nI 1) (nI q) = some (nI (if ∀ a, a < ym y → yinn y a = true → q ≤ ycsh y a → x.1.testBit a = false → gd w v3.toInt c a = true then 1 else 0))
  | 0, kf, q, hj, hq => by
    obtain ⟨g, rfl⟩ : ∃ g, kf = g + 1 := ⟨kf - 1, by omega⟩
    have : q = 4 := by omega
    subst this
    have e : (∀ a, a < ym y → yinn y a = true → 4 ≤ ycsh y a → x.1.testBit a = false → gd w v3.toInt c a = true) := by
      intro a ha _ h4
      have := (hw.2.2.2.1 a ha).1
      omega
    rw [if_pos e, F_X10_mayCome_b33]
    simp (disch := omega) only [zl_0, zl_1, zl_2, zl_3, zl_4, zl_5, zl_6, zl_7, zl_8, zl_9, zl_10, zl_12, zl_14, zl_15, zl_16, zl_17, zl_18, zl_20, zl_24, zl_31, zl_32, zl_44, zl_48, zl_57, zl_59, zl_63, zl_64, zl_70, zl_74, zl_75, zl_97, zl_99, zl_100, zl_122, zl_140, zl_141, zl_142, zl_255, zl_900, zl_999, zl_1000, zl_1998, zl_6000, zl_6001, zl_16383, zl_16384, zl_65536, zl_65537, zq_add, zq_mul, zq_sub, zd_lt, zd_le, zd_eq, zd_cl, zm_lt, zm_le, zm_gt, zm_ge, zm_eq, zm_qe, zm_mm, zt_lt, zf_lt, zt_le, zf_le, zt_eq, zf_eq, z_upd, z_updL, z_b1, z_b2, z_b3, z_b4, z_b5, z_b6, z_b7, z_b8, z_b9, z_b10, z_b11, z_b12, z_b13, z_b14, z_b15, z_b16, z_b17, z_b18, z_b19, z_b20, ↓reduceIte, or_false, false_or, or_self, true_or, or_true, and_true, true_and, and_false, false_and, not_true_eq_false, not_false_eq_true, ite_self, reduceCtorEq, Nat.reduceAdd, Nat.reduceMul, Nat.reduceSub, Nat.reducePow, Nat.reduceDiv, Nat.reduceMod, Nat.reduceLT, Nat.reduceLeDiff, Nat.reduceEqDiff, Nat.add_zero, Nat.zero_add, Nat.mul_one, Nat.one_mul, Nat.mul_zero, Nat.zero_mul, Nat.sub_zero, Nat.not_lt_zero, Nat.zero_le]
  | j + 1, kf, q, hj, hq => by
    obtain ⟨g, rfl⟩ : ∃ g, kf = g + 1 := ⟨kf - 1, by omega⟩
    have hq4 : q < 4 := by omega
    have hl := lng_le hw (q := q)
    have hcl := cnt_le (y := y) (q := q) (D := x.1)
    rw [F_X10_mayCome_b33]
    simp (disch := omega) only [hD q hq4, zl_0, zl_1, zl_2, zl_3, zl_4, zl_5, zl_6, zl_7, zl_8, zl_9, zl_10, zl_12, zl_14, zl_15, zl_16, zl_17, zl_18, zl_20, zl_24, zl_31, zl_32, zl_44, zl_48, zl_57, zl_59, zl_63, zl_64, zl_70, zl_74, zl_75, zl_97, zl_99, zl_100, zl_122, zl_140, zl_141, zl_142, zl_255, zl_900, zl_999, zl_1000, zl_1998, zl_6000, zl_6001, zl_16383, zl_16384, zl_65536, zl_65537, zq_add, zq_mul, zq_sub, zd_lt, zd_le, zd_eq, zd_cl, zm_lt, zm_le, zm_gt, zm_ge, zm_eq, zm_qe, zm_mm, zt_lt, zf_lt, zt_le, zf_le, zt_eq, zf_eq, z_upd, z_updL, z_b1, z_b2, z_b3, z_b4, z_b5, z_b6, z_b7, z_b8, z_b9, z_b10, z_b11, z_b12, z_b13, z_b14, z_b15, z_b16, z_b17, z_b18, z_b19, z_b20, ↓reduceIte, or_false, false_or, or_self, true_or, or_true, and_true, true_and, and_false, false_and, not_true_eq_false, not_false_eq_true, ite_self, reduceCtorEq, Nat.reduceAdd, Nat.reduceMul, Nat.reduceSub, Nat.reducePow, Nat.reduceDiv, Nat.reduceMod, Nat.reduceLT, Nat.reduceLeDiff, Nat.reduceEqDiff, Nat.add_zero, Nat.zero_add, Nat.mul_one, Nat.one_mul, Nat.mul_zero, Nat.zero_mul, Nat.sub_zero, Nat.not_lt_zero, Nat.zero_le]
    have h57 := X10_may57 (fu := fu) (doneOf := doneOf) hw hE hR hq4 hc h3 (F_X10_mayCome_b33 fu doneOf long row' w (nI s) (nI c) v3 g) (nI s) (lng y q - cnt y q x.1) fu (cnt y q x.1) (by omega) (by omega)
    rw [h57]
    have hsplit : (∀ a, a < ym y → yinn y a = true → q ≤ ycsh y a → x.1.testBit a = false → gd w v3.toInt c a = true) ↔
        ((∀ a, a < ym y → row y q a = true → cnt y q x.1 ≤ rnk y q a → gd w v3.toInt c a = true) ∧ (∀ a, a < ym y → yinn y a = true → q + 1 ≤ ycsh y a → x.1.testBit a = false → gd w v3.toInt c a = true)) := by
      constructor
      · intro h
        refine ⟨fun a ha hr hk => ?_, fun a ha hi hk hb => h a ha hi (by omega) hb⟩
        have hr' := row_iff.mp hr
        refine h a ha hr'.1 (by omega) ?_
        rcases e : x.1.testBit a
        · rfl
        · have := (cnt_bit hx ha hr).mp e
          omega
      · rintro ⟨h1, h2⟩ a ha hi hk hb
        rcases Nat.lt_or_ge q (ycsh y a) with g1 | g1
        · exact h2 a ha hi g1 hb
        · have hr : row y q a = true := row_iff.mpr ⟨hi, by omega⟩
          refine h1 a ha hr ?_
          rcases Nat.lt_or_ge (rnk y q a) (cnt y q x.1) with g2 | g2
          · rw [(cnt_bit hx ha hr).mpr g2] at hb; cases hb
          · exact g2
    by_cases hA : ∀ a, a < ym y → row y q a = true → cnt y q x.1 ≤ rnk y q a → gd w v3.toInt c a = true
    · rw [if_pos hA, X10_may33 hfu hw hE hR hx hD hs hc h3 j g (q + 1) (by omega) (by omega)]
      congr 2
      by_cases hB : ∀ a, a < ym y → yinn y a = true → q + 1 ≤ ycsh y a → x.1.testBit a = false → gd w v3.toInt c a = true
      · rw [if_pos hB, if_pos (hsplit.mpr ⟨hA, hB⟩)]
      · rw [if_neg hB, if_neg (fun h => hB (hsplit.mp h).2)]
    · rw [if_neg hA, if_neg (fun h => hA (hsplit.mp h).1)]
      obtain ⟨g', rfl⟩ : ∃ g', g = g' + 1 := ⟨g - 1, by omega⟩
      rw [F_X10_mayCome_b33]
      by_cases h4 : 4 ≤ q + 1
      · simp (disch := omega) only [zl_0, zl_1, zl_2, zl_3, zl_4, zl_5, zl_6, zl_7, zl_8, zl_9, zl_10, zl_12, zl_14, zl_15, zl_16, zl_17, zl_18, zl_20, zl_24, zl_31, zl_32, zl_44, zl_48, zl_57, zl_59, zl_63, zl_64, zl_70, zl_74, zl_75, zl_97, zl_99, zl_100, zl_122, zl_140, zl_141, zl_142, zl_255, zl_900, zl_999, zl_1000, zl_1998, zl_6000, zl_6001, zl_16383, zl_16384, zl_65536, zl_65537, zq_add, zq_mul, zq_sub, zd_lt, zd_le, zd_eq, zd_cl, zm_lt, zm_le, zm_gt, zm_ge, zm_eq, zm_qe, zm_mm, zt_lt, zf_lt, zt_le, zf_le, zt_eq, zf_eq, z_upd, z_updL, z_b1, z_b2, z_b3, z_b4, z_b5, z_b6, z_b7, z_b8, z_b9, z_b10, z_b11, z_b12, z_b13, z_b14, z_b15, z_b16, z_b17, z_b18, z_b19, z_b20, ↓reduceIte, or_false, false_or, or_self, true_or, or_true, and_true, true_and, and_false, false_and, not_true_eq_false, not_false_eq_true, ite_self, reduceCtorEq, Nat.reduceAdd, Nat.reduceMul, Nat.reduceSub, Nat.reducePow, Nat.reduceDiv, Nat.reduceMod, Nat.reduceLT, Nat.reduceLeDiff, Nat.reduceEqDiff, Nat.add_zero, Nat.zero_add, Nat.mul_one, Nat.one_mul, Nat.mul_zero, Nat.zero_mul, Nat.sub_zero, Nat.not_lt_zero, Nat.zero_le]
      · simp (disch := omega) only [zl_0, zl_1, zl_2, zl_3, zl_4, zl_5, zl_6, zl_7, zl_8, zl_9, zl_10, zl_12, zl_14, zl_15, zl_16, zl_17, zl_18, zl_20, zl_24, zl_31, zl_32, zl_44, zl_48, zl_57, zl_59, zl_63, zl_64, zl_70, zl_74, zl_75, zl_97, zl_99, zl_100, zl_122, zl_140, zl_141, zl_142, zl_255, zl_900, zl_999, zl_1000, zl_1998, zl_6000, zl_6001, zl_16383, zl_16384, zl_65536, zl_65537, zq_add, zq_mul, zq_sub, zd_lt, zd_le, zd_eq, zd_cl, zm_lt, zm_le, zm_gt, zm_ge, zm_eq, zm_qe, zm_mm, zt_lt, zf_lt, zt_le, zf_le, zt_eq, zf_eq, z_upd, z_updL, z_b1, z_b2, z_b3, z_b4, z_b5, z_b6, z_b7, z_b8, z_b9, z_b10, z_b11, z_b12, z_b13, z_b14, z_b15, z_b16, z_b17, z_b18, z_b19, z_b20, ↓reduceIte, or_false, false_or, or_self, true_or, or_true, and_true, true_and, and_false, false_and, not_true_eq_false, not_false_eq_true, ite_self, reduceCtorEq, Nat.reduceAdd, Nat.reduceMul, Nat.reduceSub, Nat.reducePow, Nat.reduceDiv, Nat.reduceMod, Nat.reduceLT, Nat.reduceLeDiff, Nat.reduceEqDiff, Nat.add_zero, Nat.zero_add, Nat.mul_one, Nat.one_mul, Nat.mul_zero, Nat.zero_mul, Nat.sub_zero, Nat.not_lt_zero, Nat.zero_le]
theorem X10_mayCome {fu : Nat} (hfu : 20000 ≤ fu) {y : Sy} (hw : WF y) {w long row' doneOf : Nat → Int32} {loose minutes byKind : Int32} (hE : RE y w loose minutes byKind) (hR : rows_ok y long row') {s c : Nat} {x : St} (hx : okS y x) (hD : RD y doneOf s x)
    (hs : s ≤ 6000) (hc : c < ym y) (hin : yinn y c = true) :
    F_X10_mayCome fu minutes byKind doneOf long row' w (nI s) (nI c) = some (nI (if nxo y x.1 c = true then 1 else 0)) := by
  have hnx : ∀ v : Int, (byKind ≠ 1) → v = (if byKind = 2 then minutes.toInt else 0) → ((∀ a, a < ym y → yinn y a = true → 0 ≤ ycsh y a → x.1.testBit a = false → gd w v c a = true) ↔ nxo y x.1 c = true) := by
    intro v hb hv
    have hb' : (byKind == 1) = false := by rw [beq_eq_false_iff_ne]; exact hb
    unfold nxo
    rw [List.all_eq_true]
    constructor
    · intro h a ha
      have ha' := List.mem_range.mp ha
      rcases hbit : x.1.testBit a
      · rcases hi : yinn y a
        · rfl
        · have := h a ha' hi (Nat.zero_le _) hbit
          rw [hE.2.2.2.2 a c ha' hc hi hin, hb', ← hv]
          unfold gd at this
          revert this
          cases (w (7 * a + 5) == -2) <;> simp
      · simp
    · intro h a ha hi _ hbit
      have := h a (List.mem_range.mpr ha)
      rw [hi, hbit, hE.2.2.2.2 a c ha hc hi hin, hb', ← hv] at this
      unfold gd
      revert this
      cases (w (7 * a + 5) == -2) <;> simp
  unfold F_X10_mayCome F_X10_mayCome_b26
  by_cases h1 : byKind = 1
  · have e : nxo y x.1 c = true := by
      unfold nxo
      rw [List.all_eq_true]
      intro a ha
      rcases hi : yinn y a
      · rfl
      · rw [hE.2.2.2.2 a c (List.mem_range.mp ha) hc hi hin, h1]
        simp
    rw [if_pos h1, if_pos e]
    rfl
  · rw [if_neg h1]
    have hm := hE.2.2.2.1
    by_cases h2 : byKind = 2
    · rw [if_pos h2]
      have q := X10_may33 hfu hw hE hR hx hD hs hc hm 4 fu 0 (by omega) (by omega)
      rw [zl_1, zl_0, q]
      have := hnx minutes.toInt h1 (by rw [if_pos h2])
      congr 2
      by_cases hA : nxo y x.1 c = true
      · rw [if_pos hA, if_pos (this.mpr hA)]
      · rw [if_neg hA, if_neg (fun h => hA (this.mp h))]
    · rw [if_neg h2]
      have hz : (0 : Int32).toInt = 0 := by decide
      have q := X10_may33 (v3 := 0) hfu hw hE hR hx hD hs hc (by rw [hz]; omega) 4 fu 0 (by omega) (by omega)
      have := hnx 0 h1 (by rw [if_neg h2])
      rw [hz] at q
      rw [show F_X10_mayCome_b33 fu doneOf long row' w (nI s) (nI c) 0 fu 1 0 = F_X10_mayCome_b33 fu doneOf long row' w (nI s) (nI c) 0 fu (nI 1) (nI 0) from rfl, q]
      congr 2
      by_cases hA : nxo y x.1 c = true
      · rw [if_pos hA, if_pos (this.mpr hA)]
      · rw [if_neg hA, if_neg (fun h => hA (this.mp h))]
/-! isWhole -/
theorem X10_wh21 {fu : Nat} {y : Sy} (hw : WF y) {w long row' doneOf : Nat → Int32} (hR : rows_ok y long row') {q : Nat} (hq : q < 4) (k4 : Int32 → Int32 → Option Int32) (v1 : Int32) :
    ∀ (j kf k : Nat) (b : Bool), j < kf → k + j = lng y q →
    F_X10_isWhole_b21 k4 fu doneOf long row' w v1 (nI q) kf (nI (if b = true then 1 else 0)) (nI k) = k4 (nI (if b = true ∧ ∀ a, a < ym y → row y q a = true → k ≤ rnk y q a → w (7 * a + 5) = -2 then 1 else 0)) (nI (q + 1))
  | 0, kf, k, b, hj, hk => by
    obtain ⟨g, rfl⟩ : ∃ g, kf = g + 1 := ⟨kf - 1, by omega⟩
    have hl := lng_le hw (q := q)
    have e : (∀ a, a < ym y → row y q a = true → k ≤ rnk y q a → w (7 * a + 5) = -2) := by
      intro a ha hr hk'
      have := rnk_lt ha hr
      omega
    have e2 : (b = true ∧ ∀ a, a < ym y → row y q a = true → k ≤ rnk y q a → w (7 * a + 5) = -2) = (b = true) := propext ⟨fun h => h.1, fun h => ⟨h, e⟩⟩
    simp only [e2]
    rw [F_X10_isWhole_b21]
    simp (disch := omega) only [hR.1 q hq, zl_0, zl_1, zl_2, zl_3, zl_4, zl_5, zl_6, zl_7, zl_8, zl_9, zl_10, zl_12, zl_14, zl_15, zl_16, zl_17, zl_18, zl_20, zl_24, zl_31, zl_32, zl_44, zl_48, zl_57, zl_59, zl_63, zl_64, zl_70, zl_74, zl_75, zl_97, zl_99, zl_100, zl_122, zl_140, zl_141, zl_142, zl_255, zl_900, zl_999, zl_1000, zl_1998, zl_6000, zl_6001, zl_16383, zl_16384, zl_65536, zl_65537, zq_add, zq_mul, zq_sub, zd_lt, zd_le, zd_eq, zd_cl, zm_lt, zm_le, zm_gt, zm_ge, zm_eq, zm_qe, zm_mm, zt_lt, zf_lt, zt_le, zf_le, zt_eq, zf_eq, z_upd, z_updL, z_b1, z_b2, z_b3, z_b4, z_b5, z_b6, z_b7, z_b8, z_b9, z_b10, z_b11, z_b12, z_b13, z_b14, z_b15, z_b16, z_b17, z_b18, z_b19, z_b20, ↓reduceIte, or_false, false_or, or_self, true_or, or_true, and_true, true_and, and_false, false_and, not_true_eq_false, not_false_eq_true, ite_self, reduceCtorEq, Nat.reduceAdd, Nat.reduceMul, Nat.reduceSub, Nat.reducePow, Nat.reduceDiv, Nat.reduceMod, Nat.reduceLT, Nat.reduceLeDiff, Nat.reduceEqDiff, Nat.add_zero, Nat.zero_add, Nat.mul_one, Nat.one_mul, Nat.mul_zero, Nat.zero_mul, Nat.sub_zero, Nat.not_lt_zero, Nat.zero_le]
  | j + 1, kf, k, b, hj, hk => by
    obtain ⟨g, rfl⟩ : ∃ g, kf = g + 1 := ⟨kf - 1, by omega⟩
    have hl := lng_le hw (q := q)
    have hm := hw.1
    obtain ⟨a, h1, h2, h5, h4⟩ := rows_get hw hR hq (k := k) (by omega)
    have key : (∀ d, d < ym y → row y q d = true → k ≤ rnk y q d → w (7 * d + 5) = -2) ↔ (w (7 * a + 5) = -2 ∧ ∀ d, d < ym y → row y q d = true → k + 1 ≤ rnk y q d → w (7 * d + 5) = -2) := by
      constructor
      · intro h; exact ⟨h a h1 h2 (by omega), fun d hd hr hk' => h d hd hr (by omega)⟩
      · rintro ⟨h, h'⟩ d hd hr hk'
        rcases Nat.lt_or_ge k (rnk y q d) with g1 | g1
        · exact h' d hd hr g1
        · have : d = a := rnk_inj hr h2 (by omega)
          rw [this]; exact h
    rw [F_X10_isWhole_b21]
    unfold F_X10_isWhole_b67 F_X10_isWhole_b68
    rcases b
    · have e : ¬ (false = true ∧ ∀ a, a < ym y → row y q a = true → k ≤ rnk y q a → w (7 * a + 5) = -2) := fun h => by cases h.1
      rw [if_neg e]
      have ih := X10_wh21 (fu := fu) (w := w) (doneOf := doneOf) hw hR hq k4 v1 j g (k + 1) false (by omega) (by omega)
      rw [if_neg (by simp), if_neg (fun h => by cases h.1)] at ih
      simp (disch := omega) only [hR.1 q hq, Bool.false_eq_true, zl_0, zl_1, zl_2, zl_3, zl_4, zl_5, zl_6, zl_7, zl_8, zl_9, zl_10, zl_12, zl_14, zl_15, zl_16, zl_17, zl_18, zl_20, zl_24, zl_31, zl_32, zl_44, zl_48, zl_57, zl_59, zl_63, zl_64, zl_70, zl_74, zl_75, zl_97, zl_99, zl_100, zl_122, zl_140, zl_141, zl_142, zl_255, zl_900, zl_999, zl_1000, zl_1998, zl_6000, zl_6001, zl_16383, zl_16384, zl_65536, zl_65537, zq_add, zq_mul, zq_sub, zd_lt, zd_le, zd_eq, zd_cl, zm_lt, zm_le, zm_gt, zm_ge, zm_eq, zm_qe, zm_mm, zt_lt, zf_lt, zt_le, zf_le, zt_eq, zf_eq, z_upd, z_updL, z_b1, z_b2, z_b3, z_b4, z_b5, z_b6, z_b7, z_b8, z_b9, z_b10, z_b11, z_b12, z_b13, z_b14, z_b15, z_b16, z_b17, z_b18, z_b19, z_b20, ↓reduceIte, or_false, false_or, or_self, true_or, or_true, and_true, true_and, and_false, false_and, not_true_eq_false, not_false_eq_true, ite_self, reduceCtorEq, Nat.reduceAdd, Nat.reduceMul, Nat.reduceSub, Nat.reducePow, Nat.reduceDiv, Nat.reduceMod, Nat.reduceLT, Nat.reduceLeDiff, Nat.reduceEqDiff, Nat.add_zero, Nat.zero_add, Nat.mul_one, Nat.one_mul, Nat.mul_zero, Nat.zero_mul, Nat.sub_zero, Nat.not_lt_zero, Nat.zero_le]
      exact ih
    · have hm2 : (-nI 2 : Int32) = -2 := rfl
      by_cases ho : w (7 * a + 5) = -2
      · have ih := X10_wh21 (fu := fu) (w := w) (doneOf := doneOf) hw hR hq k4 v1 j g (k + 1) true (by omega) (by omega)
        rw [if_pos rfl] at ih
        simp (disch := omega) only [hR.1 q hq, h4, ho, zl_0, zl_1, zl_2, zl_3, zl_4, zl_5, zl_6, zl_7, zl_8, zl_9, zl_10, zl_12, zl_14, zl_15, zl_16, zl_17, zl_18, zl_20, zl_24, zl_31, zl_32, zl_44, zl_48, zl_57, zl_59, zl_63, zl_64, zl_70, zl_74, zl_75, zl_97, zl_99, zl_100, zl_122, zl_140, zl_141, zl_142, zl_255, zl_900, zl_999, zl_1000, zl_1998, zl_6000, zl_6001, zl_16383, zl_16384, zl_65536, zl_65537, zq_add, zq_mul, zq_sub, zd_lt, zd_le, zd_eq, zd_cl, zm_lt, zm_le, zm_gt, zm_ge, zm_eq, zm_qe, zm_mm, zt_lt, zf_lt, zt_le, zf_le, zt_eq, zf_eq, z_upd, z_updL, z_b1, z_b2, z_b3, z_b4, z_b5, z_b6, z_b7, z_b8, z_b9, z_b10, z_b11, z_b12, z_b13, z_b14, z_b15, z_b16, z_b17, z_b18, z_b19, z_b20, ↓reduceIte, or_false, false_or, or_self, true_or, or_true, and_true, true_and, and_false, false_and, not_true_eq_false, not_false_eq_true, ite_self, reduceCtorEq, Nat.reduceAdd, Nat.reduceMul, Nat.reduceSub, Nat.reducePow, Nat.reduceDiv, Nat.reduceMod, Nat.reduceLT, Nat.reduceLeDiff, Nat.reduceEqDiff, Nat.add_zero, Nat.zero_add, Nat.mul_one, Nat.one_mul, Nat.mul_zero, Nat.zero_mul, Nat.sub_zero, Nat.not_lt_zero, Nat.zero_le]
        rw [ih]
        congr 2
        by_cases hB : ∀ d, d < ym y → row y q d = true → k + 1 ≤ rnk y q d → w (7 * d + 5) = -2
        · rw [if_pos ⟨rfl, hB⟩]; exact (if_pos (key.mpr ⟨ho, hB⟩)).symm
        · rw [if_neg (fun h => hB h.2)]; exact (if_neg (fun h => hB (key.mp h).2)).symm
      · have ho' : ¬ w (7 * a + 5) = -nI 2 := ho
        have ih := X10_wh21 (fu := fu) (w := w) (doneOf := doneOf) hw hR hq k4 v1 j g (k + 1) false (by omega) (by omega)
        rw [if_neg (by simp), if_neg (fun h => by cases h.1)] at ih
        have e : ¬ (true = true ∧ ∀ a, a < ym y → row y q a = true → k ≤ rnk y q a → w (7 * a + 5) = -2) := fun h => ho (key.mp h.2).1
        rw [if_neg e]
        simp (disch := omega) only [hR.1 q hq, h4, ho', zl_0, zl_1, zl_2, zl_3, zl_4, zl_5, zl_6, zl_7, zl_8, zl_9, zl_10, zl_12, zl_14, zl_15, zl_16, zl_17, zl_18, zl_20, zl_24, zl_31, zl_32, zl_44, zl_48, zl_57, zl_59, zl_63, zl_64, zl_70, zl_74, zl_75, zl_97, zl_99, zl_100, zl_122, zl_140, zl_141, zl_142, zl_255, zl_900, zl_999, zl_1000, zl_1998, zl_6000, zl_6001, zl_16383, zl_16384, zl_65536, zl_65537, zq_add, zq_mul, zq_sub, zd_lt, zd_le, zd_eq, zd_cl, zm_lt, zm_le, zm_gt, zm_ge, zm_eq, zm_qe, zm_mm, zt_lt, zf_lt, zt_le, zf_le, zt_eq, zf_eq, z_upd, z_updL, z_b1, z_b2, z_b3, z_b4, z_b5, z_b6, z_b7, z_b8, z_b9, z_b10, z_b11, z_b12, z_b13, z_b14, z_b15, z_b16, z_b17, z_b18, z_b19, z_b20, ↓reduceIte, or_false, false_or, or_self, true_or, or_true, and_true, true_and, and_false, false_and, not_true_eq_false, not_false_eq_true, ite_self, reduceCtorEq, Nat.reduceAdd, Nat.reduceMul, Nat.reduceSub, Nat.reducePow, Nat.reduceDiv, Nat.reduceMod, Nat.reduceLT, Nat.reduceLeDiff, Nat.reduceEqDiff, Nat.add_zero, Nat.zero_add, Nat.mul_one, Nat.one_mul, Nat.mul_zero, Nat.zero_mul, Nat.sub_zero, Nat.not_lt_zero, Nat.zero_le]
        exact ih
theorem X10_wh4 {fu : Nat} (hfu : 20000 ≤ fu) {y : Sy} (hw : WF y) {w long row' doneOf : Nat → Int32} (hR : rows_ok y long row') {s : Nat} {x : St} (hx : okS y x) (hD : RD y doneOf s x) (hs : s ≤ 6000) :
    ∀ (j kf q : Nat) (b : Bool), j < kf → q + j = 4 →
    F_X10_isWhole_b4 fu doneOf long row' w (nI s) kf (nI (if b = true then 1 else 0)) (nI q) = some (nI (if b = true ∧ ∀ a, a < ym y → yinn y a = true → q ≤ ycsh y a → x.1.testBit a = false → w (7 * a + 5) = -2 then 1 else 0))
  | 0, kf, q, b, hj, hq => by
    obtain ⟨g, rfl⟩ : ∃ g, kf = g + 1 := ⟨kf - 1, by omega⟩
    have : q = 4 := by omega
    subst this
    have e : (∀ a, a < ym y → yinn y a = true → 4 ≤ ycsh y a → x.1.testBit a = false → w (7 * a + 5) = -2) := by
      intro a ha _ h4
      have := (hw.2.2.2.1 a ha).1
      omega
    have e2 : (b = true ∧ ∀ a, a < ym y → yinn y a = true → 4 ≤ ycsh y a → x.1.testBit a = false → w (7 * a + 5) = -2) = (b = true) := propext ⟨fun h => h.1, fun h => ⟨h, e⟩⟩
    simp only [e2]
    rw [F_X10_isWhole_b4]
    rcases b
    · simp (disch := omega) only [Bool.false_eq_true, zl_0, zl_1, zl_2, zl_3, zl_4, zl_5, zl_6, zl_7, zl_8, zl_9, zl_10, zl_12, zl_14, zl_15, zl_16, zl_17, zl_18, zl_20, zl_24, zl_31, zl_32, zl_44, zl_48, zl_57, zl_59, zl_63, zl_64, zl_70, zl_74, zl_75, zl_97, zl_99, zl_100, zl_122, zl_140, zl_141, zl_142, zl_255, zl_900, zl_999, zl_1000, zl_1998, zl_6000, zl_6001, zl_16383, zl_16384, zl_65536, zl_65537, zq_add, zq_mul, zq_sub, zd_lt, zd_le, zd_eq, zd_cl, zm_lt, zm_le, zm_gt, zm_ge, zm_eq, zm_qe, zm_mm, zt_lt, zf_lt, zt_le, zf_le, zt_eq, zf_eq, z_upd, z_updL, z_b1, z_b2, z_b3, z_b4, z_b5, z_b6, z_b7, z_b8, z_b9, z_b10, z_b11, z_b12, z_b13, z_b14, z_b15, z_b16, z_b17, z_b18, z_b19, z_b20, ↓reduceIte, or_false, false_or, or_self, true_or, or_true, and_true, true_and, and_false, false_and, not_true_eq_false, not_false_eq_true, ite_self, reduceCtorEq, Nat.reduceAdd, Nat.reduceMul, Nat.reduceSub, Nat.reducePow, Nat.reduceDiv, Nat.reduceMod, Nat.reduceLT, Nat.reduceLeDiff, Nat.reduceEqDiff, Nat.add_zero, Nat.zero_add, Nat.mul_one, Nat.one_mul, Nat.mul_zero, Nat.zero_mul, Nat.sub_zero, Nat.not_lt_zero, Nat.zero_le]
    · simp (disch := omega) only [zl_0, zl_1, zl_2, zl_3, zl_4, zl_5, zl_6, zl_7, zl_8, zl_9, zl_10, zl_12, zl_14, zl_15, zl_16, zl_17, zl_18, zl_20, zl_24, zl_31, zl_32, zl_44, zl_48, zl_57, zl_59, zl_63, zl_64, zl_70, zl_74, zl_75, zl_97, zl_99, zl_100, zl_122, zl_140, zl_141, zl_142, zl_255, zl_900, zl_999, zl_1000, zl_1998, zl_6000, zl_6001, zl_16383, zl_16384, zl_65536, zl_65537, zq_add, zq_mul, zq_sub, zd_lt, zd_le, zd_eq, zd_cl, zm_lt, zm_le, zm_gt, zm_ge, zm_eq, zm_qe, zm_mm, zt_lt, zf_lt, zt_le, zf_le, zt_eq, zf_eq, z_upd, z_updL, z_b1, z_b2, z_b3, z_b4, z_b5, z_b6, z_b7, z_b8, z_b9, z_b10, z_b11, z_b12, z_b13, z_b14, z_b15, z_b16, z_b17, z_b18, z_b19, z_b20, ↓reduceIte, or_false, false_or, or_self, true_or, or_true, and_true, true_and, and_false, false_and, not_true_eq_false, not_false_eq_true, ite_self, reduceCtorEq, Nat.reduceAdd, Nat.reduceMul, Nat.reduceSub, Nat.reducePow, Nat.reduceDiv, Nat.reduceMod, Nat.reduceLT, Nat.reduceLeDiff, Nat.reduceEqDiff, Nat.add_zero, Nat.zero_add, Nat.mul_one, Nat.one_mul, Nat.mul_zero, Nat.zero_mul, Nat.sub_zero, Nat.not_lt_zero, Nat.zero_le]
  | j + 1, kf, q, b, hj, hq => by
    obtain ⟨g, rfl⟩ : ∃ g, kf = g + 1 := ⟨kf - 1, by omega⟩
    have hq4 : q < 4 := by omega
    have hl := lng_le hw (q := q)
    have hcl := cnt_le (y := y) (q := q) (D := x.1)
    rw [F_X10_isWhole_b4]
    simp (disch := omega) only [hD q hq4, zl_0, zl_1, zl_2, zl_3, zl_4, zl_5, zl_6, zl_7, zl_8, zl_9, zl_10, zl_12, zl_14, zl_15, zl_16, zl_17, zl_18, zl_20, zl_24, zl_31, zl_32, zl_44, zl_48, zl_57, zl_59, zl_63, zl_64, zl_70, zl_74, zl_75, zl_97, zl_99, zl_100, zl_122, zl_140, zl_141, zl_142, zl_255, zl_900, zl_999, zl_1000, zl_1998, zl_6000, zl_6001, zl_16383, zl_16384, zl_65536, zl_65537, zq_add, zq_mul, zq_sub, zd_lt, zd_le, zd_eq, zd_cl, zm_lt, zm_le, zm_gt, zm_ge, zm_eq, zm_qe, zm_mm, zt_lt, zf_lt, zt_le, zf_le, zt_eq, zf_eq, z_upd, z_updL, z_b1, z_b2, z_b3, z_b4, z_b5, z_b6, z_b7, z_b8, z_b9, z_b10, z_b11, z_b12, z_b13, z_b14, z_b15, z_b16, z_b17, z_b18, z_b19, z_b20, ↓reduceIte, or_false, false_or, or_self, true_or, or_true, and_true, true_and, and_false, false_and, not_true_eq_false, not_false_eq_true, ite_self, reduceCtorEq, Nat.reduceAdd, Nat.reduceMul, Nat.reduceSub, Nat.reducePow, Nat.reduceDiv, Nat.reduceMod, Nat.reduceLT, Nat.reduceLeDiff, Nat.reduceEqDiff, Nat.add_zero, Nat.zero_add, Nat.mul_one, Nat.one_mul, Nat.mul_zero, Nat.zero_mul, Nat.sub_zero, Nat.not_lt_zero, Nat.zero_le]
    have h21 := X10_wh21 (fu := fu) (w := w) (doneOf := doneOf) hw hR hq4 (F_X10_isWhole_b4 fu doneOf long row' w (nI s) g) (nI s) (lng y q - cnt y q x.1) fu (cnt y q x.1) b (by omega) (by omega)
    rw [h21]
    have ih := X10_wh4 hfu hw (w := w) hR hx hD hs j g (q + 1) (b && decide (∀ a, a < ym y → row y q a = true → cnt y q x.1 ≤ rnk y q a → w (7 * a + 5) = -2)) (by omega) (by omega)
    simp only [Bool.and_eq_true, decide_eq_true_eq] at ih
    rw [ih]
    congr 3
    apply propext
    constructor
    · rintro ⟨⟨h0, h1⟩, h2⟩
      refine ⟨h0, fun a ha hi hk hb => ?_⟩
      rcases Nat.lt_or_ge q (ycsh y a) with g1 | g1
      · exact h2 a ha hi g1 hb
      · have hr : row y q a = true := row_iff.mpr ⟨hi, by omega⟩
        refine h1 a ha hr ?_
        rcases Nat.lt_or_ge (rnk y q a) (cnt y q x.1) with g2 | g2
        · rw [(cnt_bit hx ha hr).mpr g2] at hb; cases hb
        · exact g2
    · rintro ⟨h0, h⟩
      refine ⟨⟨h0, fun a ha hr hk => ?_⟩, fun a ha hi hk hb => h a ha hi (by omega) hb⟩
      have hr' := row_iff.mp hr
      refine h a ha hr'.1 (by omega) ?_
      rcases e : x.1.testBit a
      · rfl
      · have := (cnt_bit hx ha hr).mp e
        omega
theorem X10_isWhole {fu : Nat} (hfu : 20000 ≤ fu) {y : Sy} (hw : WF y) {w long row' doneOf : Nat → Int32} {loose minutes byKind : Int32} (hE : RE y w loose minutes byKind) (hR : rows_ok y long row') {s : Nat} {x : St} (hx : okS y x) (hD : RD y doneOf s x) (hs : s ≤ 6000) :
    F_X10_isWhole fu doneOf long row' w (nI s) = some (nI (if whole y x = true then 1 else 0)) := by
  unfold F_X10_isWhole
  have q := X10_wh4 hfu hw (w := w) hR hx hD hs 4 fu 0 true (by omega) (by omega)
  rw [if_pos rfl] at q
  rw [zl_1, zl_0, q]
  congr 3
  apply propext
  rw [whole_iff]
  constructor
  · rintro ⟨_, h⟩ c hc hmst
    rw [hE.2.1 c hc] at hmst
    simp only [Bool.and_eq_true, Bool.not_eq_true', beq_eq_false_iff_ne, ne_eq] at hmst
    rcases e : x.1.testBit c
    · exact absurd (h c hc hmst.1 (Nat.zero_le _) e) hmst.2
    · rfl
  · intro h
    refine ⟨rfl, fun a ha hi _ hb => ?_⟩
    rcases Classical.em (w (7 * a + 5) = -2) with g | g
    · exact g
    · have := h a ha (by rw [hE.2.1 a ha, hi]; simp [g])
      rw [hb] at this; cases this
