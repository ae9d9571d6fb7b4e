theorem zs_setput : ∀ T, T < 1024 → ∀ w, w < 10 → nI T ||| (nI 1 <<< (nI w &&& nI 31)) = nI (if T / 2 ^ w % 2 = 1 then T else T + 2 ^ w) := by decide +kernel
theorem zs_settake : ∀ T, T < 1024 → ∀ w, w < 10 → nI T &&& ((nI 1 <<< (nI w &&& nI 31)) ^^^ (-nI 1)) = nI (if T / 2 ^ w % 2 = 1 then T - 2 ^ w else T) := by decide +kernel
theorem X8_after {kd T a w : Nat} (hk : kd < 5) (hT : okT kd T) (ha : a < 3) (hw : w ≤ 9) : F_X8_after (nI kd) (nI T) (nI a) (nI w) = some (nI (af kd T a w)) := by
  have hl := okT_lt hT
  have h6 : kd = 4 → T ≤ 18 := by
    intro e; subst e; unfold okT at hT; simpa using hT
  have h7 : kd = 2 → T < 1024 := by
    intro e; subst e; unfold okT at hT; simpa using hT
  unfold F_X8_after af
  simp (disch := omega) only [X8_queued, X8_counted hl ha, zl_0, zl_1, zl_2, zl_3, zl_4, zl_5, zl_6, zl_7, zl_8, zl_9, zl_10, zl_12, zl_14, zl_15, zl_16, zl_17, zl_18, zl_20, zl_24, zl_31, zl_32, zl_44, zl_48, zl_57, zl_59, zl_63, zl_64, zl_70, zl_74, zl_75, zl_97, zl_99, zl_100, zl_122, zl_140, zl_141, zl_142, zl_255, zl_900, zl_999, zl_1000, zl_1998, zl_6000, zl_6001, zl_16383, zl_16384, zl_65536, zl_65537, zq_add, zq_mul, zq_sub, zd_lt, zd_le, zd_eq, zd_cl, zm_lt, zm_le, zm_gt, zm_ge, zm_eq, zm_qe, zm_mm, zt_lt, zf_lt, zt_le, zf_le, zt_eq, zf_eq, z_upd, z_updL, z_b1, z_b2, z_b3, z_b4, z_b5, z_b6, z_b7, z_b8, z_b9, z_b10, z_b11, z_b12, z_b13, z_b14, z_b15, z_b16, z_b17, z_b18, z_b19, z_b20, ↓reduceIte, or_false, false_or, or_self, true_or, or_true, and_true, true_and, and_false, false_and, not_true_eq_false, not_false_eq_true, ite_self, reduceCtorEq, Nat.reduceAdd, Nat.reduceMul, Nat.reduceSub, Nat.reducePow, Nat.reduceDiv, Nat.reduceMod, Nat.reduceLT, Nat.reduceLeDiff, Nat.reduceEqDiff, Nat.add_zero, Nat.zero_add, Nat.mul_one, Nat.one_mul, Nat.mul_zero, Nat.zero_mul, Nat.sub_zero, Nat.not_lt_zero, Nat.zero_le]
  by_cases h2 : a = 2
  · simp only [h2, ↓reduceIte]
  simp only [h2, ↓reduceIte]
  by_cases k0 : kd = 0
  · simp only [k0, ↓reduceIte]
  simp only [k0, ↓reduceIte]
  by_cases k1 : kd = 1
  · simp only [k1, ↓reduceIte]
    by_cases a0 : a = 0
    · simp only [a0, ↓reduceIte]
      by_cases h8 : T % 8 < 6
      · rw [if_neg (by omega), if_pos h8, zs_and31 (by omega), zs_shl _ (by omega), zq_add]
      · rw [if_pos (by omega), if_neg h8]
    · simp only [a0, ↓reduceIte]
      by_cases h8 : 0 < T % 8
      · rw [if_neg (by omega), if_pos h8, zs_and31 (by omega), zs_and31 (by omega), zs_shr (by omega) (by omega), zs_shl _ (by omega), Nat.mul_comm, fa_or_sum _ (by omega)]
      · rw [if_pos (by omega), if_neg h8]
  simp only [k1, ↓reduceIte]
  by_cases k2 : kd = 2
  · simp only [k2, ↓reduceIte]
    have h8 := h7 k2
    by_cases a0 : a = 0
    · simp only [a0, ↓reduceIte]
      rw [zs_setput T h8 w (by omega)]
    · simp only [a0, ↓reduceIte]
      rw [zs_settake T h8 w (by omega)]
  simp only [k2, ↓reduceIte]
  by_cases k3 : kd = 3
  · simp only [k3, ↓reduceIte]
  simp only [k3, ↓reduceIte]
  have h8 := h6 (by omega)
  rw [X8_purse h8 ha]
  by_cases a0 : a = 0
  · simp only [a0, ↓reduceIte]
    by_cases h9 : w ≤ T
    · simp (disch := omega) only [h9, zl_0, zl_1, zl_2, zl_3, zl_4, zl_5, zl_6, zl_7, zl_8, zl_9, zl_10, zl_12, zl_14, zl_15, zl_16, zl_17, zl_18, zl_20, zl_24, zl_31, zl_32, zl_44, zl_48, zl_57, zl_59, zl_63, zl_64, zl_70, zl_74, zl_75, zl_97, zl_99, zl_100, zl_122, zl_140, zl_141, zl_142, zl_255, zl_900, zl_999, zl_1000, zl_1998, zl_6000, zl_6001, zl_16383, zl_16384, zl_65536, zl_65537, zq_add, zq_mul, zq_sub, zd_lt, zd_le, zd_eq, zd_cl, zm_lt, zm_le, zm_gt, zm_ge, zm_eq, zm_qe, zm_mm, zt_lt, zf_lt, zt_le, zf_le, zt_eq, zf_eq, z_upd, z_updL, z_b1, z_b2, z_b3, z_b4, z_b5, z_b6, z_b7, z_b8, z_b9, z_b10, z_b11, z_b12, z_b13, z_b14, z_b15, z_b16, z_b17, z_b18, z_b19, z_b20, ↓reduceIte, or_false, false_or, or_self, true_or, or_true, and_true, true_and, and_false, false_and, not_true_eq_false, not_false_eq_true, ite_self, reduceCtorEq, Nat.reduceAdd, Nat.reduceMul, Nat.reduceSub, Nat.reducePow, Nat.reduceDiv, Nat.reduceMod, Nat.reduceLT, Nat.reduceLeDiff, Nat.reduceEqDiff, Nat.add_zero, Nat.zero_add, Nat.mul_one, Nat.one_mul, Nat.mul_zero, Nat.zero_mul, Nat.sub_zero, Nat.not_lt_zero, Nat.zero_le]
    · simp (disch := omega) only [h9, zl_0, zl_1, zl_2, zl_3, zl_4, zl_5, zl_6, zl_7, zl_8, zl_9, zl_10, zl_12, zl_14, zl_15, zl_16, zl_17, zl_18, zl_20, zl_24, zl_31, zl_32, zl_44, zl_48, zl_57, zl_59, zl_63, zl_64, zl_70, zl_74, zl_75, zl_97, zl_99, zl_100, zl_122, zl_140, zl_141, zl_142, zl_255, zl_900, zl_999, zl_1000, zl_1998, zl_6000, zl_6001, zl_16383, zl_16384, zl_65536, zl_65537, zq_add, zq_mul, zq_sub, zd_lt, zd_le, zd_eq, zd_cl, zm_lt, zm_le, zm_gt, zm_ge, zm_eq, zm_qe, zm_mm, zt_lt, zf_lt, zt_le, zf_le, zt_eq, zf_eq, z_upd, z_updL, z_b1, z_b2, z_b3, z_b4, z_b5, z_b6, z_b7, z_b8, z_b9, z_b10, z_b11, z_b12, z_b13, z_b14, z_b15, z_b16, z_b17, z_b18, z_b19, z_b20, ↓reduceIte, or_false, false_or, or_self, true_or, or_true, and_true, true_and, and_false, false_and, not_true_eq_false, not_false_eq_true, ite_self, reduceCtorEq, Nat.reduceAdd, Nat.reduceMul, Nat.reduceSub, Nat.reducePow, Nat.reduceDiv, Nat.reduceMod, Nat.reduceLT, Nat.reduceLeDiff, Nat.reduceEqDiff, Nat.add_zero, Nat.zero_add, Nat.mul_one, Nat.one_mul, Nat.mul_zero, Nat.zero_mul, Nat.sub_zero, Nat.not_lt_zero, Nat.zero_le]
  · simp only [a0, ↓reduceIte]
    by_cases h9 : w ≤ 18 - T
    · simp (disch := omega) only [h9, zl_0, zl_1, zl_2, zl_3, zl_4, zl_5, zl_6, zl_7, zl_8, zl_9, zl_10, zl_12, zl_14, zl_15, zl_16, zl_17, zl_18, zl_20, zl_24, zl_31, zl_32, zl_44, zl_48, zl_57, zl_59, zl_63, zl_64, zl_70, zl_74, zl_75, zl_97, zl_99, zl_100, zl_122, zl_140, zl_141, zl_142, zl_255, zl_900, zl_999, zl_1000, zl_1998, zl_6000, zl_6001, zl_16383, zl_16384, zl_65536, zl_65537, zq_add, zq_mul, zq_sub, zd_lt, zd_le, zd_eq, zd_cl, zm_lt, zm_le, zm_gt, zm_ge, zm_eq, zm_qe, zm_mm, zt_lt, zf_lt, zt_le, zf_le, zt_eq, zf_eq, z_upd, z_updL, z_b1, z_b2, z_b3, z_b4, z_b5, z_b6, z_b7, z_b8, z_b9, z_b10, z_b11, z_b12, z_b13, z_b14, z_b15, z_b16, z_b17, z_b18, z_b19, z_b20, ↓reduceIte, or_false, false_or, or_self, true_or, or_true, and_true, true_and, and_false, false_and, not_true_eq_false, not_false_eq_true, ite_self, reduceCtorEq, Nat.reduceAdd, Nat.reduceMul, Nat.reduceSub, Nat.reducePow, Nat.reduceDiv, Nat.reduceMod, Nat.reduceLT, Nat.reduceLeDiff, Nat.reduceEqDiff, Nat.add_zero, Nat.zero_add, Nat.mul_one, Nat.one_mul, Nat.mul_zero, Nat.zero_mul, Nat.sub_zero, Nat.not_lt_zero, Nat.zero_le]
    · simp (disch := omega) only [h9, zl_0, zl_1, zl_2, zl_3, zl_4, zl_5, zl_6, zl_7, zl_8, zl_9, zl_10, zl_12, zl_14, zl_15, zl_16, zl_17, zl_18, zl_20, zl_24, zl_31, zl_32, zl_44, zl_48, zl_57, zl_59, zl_63, zl_64, zl_70, zl_74, zl_75, zl_97, zl_99, zl_100, zl_122, zl_140, zl_141, zl_142, zl_255, zl_900, zl_999, zl_1000, zl_1998, zl_6000, zl_6001, zl_16383, zl_16384, zl_65536, zl_65537, zq_add, zq_mul, zq_sub, zd_lt, zd_le, zd_eq, zd_cl, zm_lt, zm_le, zm_gt, zm_ge, zm_eq, zm_qe, zm_mm, zt_lt, zf_lt, zt_le, zf_le, zt_eq, zf_eq, z_upd, z_updL, z_b1, z_b2, z_b3, z_b4, z_b5, z_b6, z_b7, z_b8, z_b9, z_b10, z_b11, z_b12, z_b13, z_b14, z_b15, z_b16, z_b17, z_b18, z_b19, z_b20, ↓reduceIte, or_false, false_or, or_self, true_or, or_true, and_true, true_and, and_false, false_and, not_true_eq_false, not_false_eq_true, ite_self, reduceCtorEq, Nat.reduceAdd, Nat.reduceMul, Nat.reduceSub, Nat.reducePow, Nat.reduceDiv, Nat.reduceMod, Nat.reduceLT, Nat.reduceLeDiff, Nat.reduceEqDiff, Nat.add_zero, Nat.zero_add, Nat.mul_one, Nat.one_mul, Nat.mul_zero, Nat.zero_mul, Nat.sub_zero, Nat.not_lt_zero, Nat.zero_le]
theorem okT_init {kd : Nat} (hk : kd < 5) : okT kd (if kd = 4 then 9 else 0) := by
  unfold okT
  by_cases k1 : kd = 1
  · simp only [k1, ↓reduceIte]
    exact ⟨[], by simp, by simp, by simp [encC]⟩
  · simp only [k1, ↓reduceIte]
    repeat' split
    all_goals omega
/-- an act that a kind has -/
def okA (kd a : Nat) : Prop := a < 3 ∧ (kd = 0 → a ≠ 1) ∧ (kd = 1 → a ≠ 2)
theorem encC_mod {l : List Nat} (h : l.length ≤ 6) : (l.length + 8 * encC l) % 8 = l.length := by omega
theorem encC_div {l : List Nat} (h : l.length ≤ 6) : (l.length + 8 * encC l) / 8 = encC l := by omega
theorem af_q_put {l : List Nat} (h : l.length < 6) (w : Nat) : af 1 (l.length + 8 * encC l) 0 w = (l ++ [w]).length + 8 * encC (l ++ [w]) := by
  unfold af
  rw [if_neg (by omega), if_neg (by omega), if_pos rfl, if_pos rfl, encC_mod (by omega), if_pos h, encC_app, List.length_append, Nat.pow_add, Nat.pow_mul]
  simp only [List.length_cons, List.length_nil]
  have e : (2 : Nat) ^ 4 = 16 := by decide
  rw [e]
  have e2 : w * (2 ^ 3 * 16 ^ l.length) = 8 * (w * 16 ^ l.length) := by
    have : (2 : Nat) ^ 3 = 8 := by decide
    rw [this, ← Nat.mul_assoc, Nat.mul_comm w 8, Nat.mul_assoc]
  rw [e2]
  omega
theorem af_q_full {l : List Nat} (h : l.length = 6) (w : Nat) : af 1 (l.length + 8 * encC l) 0 w = l.length + 8 * encC l := by
  unfold af
  rw [if_neg (by omega), if_neg (by omega), if_pos rfl, if_pos rfl, encC_mod (by omega), if_neg (by omega)]
theorem af_q_take {d : Nat} {l : List Nat} (h : l.length < 6) (hd : d ≤ 9) (w : Nat) : af 1 ((d :: l).length + 8 * encC (d :: l)) 1 w = l.length + 8 * encC l := by
  have e : encC (d :: l) = d + 16 * encC l := rfl
  unfold af
  rw [if_neg (by omega), if_neg (by omega), if_pos rfl, if_neg (by omega), List.length_cons, e, if_pos (by omega)]
  omega
theorem af_q_none (w : Nat) : af 1 (([] : List Nat).length + 8 * encC []) 1 w = ([] : List Nat).length + 8 * encC [] := by
  unfold af
  simp [encC]
theorem okT_af {kd T a w : Nat} (hk : kd < 5) (hT : okT kd T) (ha : okA kd a) (hw : w ≤ 9) : okT kd (af kd T a w) := by
  by_cases h2 : a = 2
  · have : af kd T a w = T := by unfold af; rw [if_pos h2]
    rw [this]; exact hT
  by_cases k1 : kd = 1
  · subst k1
    have hT' := hT
    unfold okT at hT ⊢
    rw [if_pos rfl] at hT ⊢
    obtain ⟨l, h1, h3, rfl⟩ := hT
    by_cases a0 : a = 0
    · subst a0
      by_cases h6 : l.length = 6
      · exact ⟨l, h1, h3, af_q_full h6 w⟩
      · refine ⟨l ++ [w], by simp; omega, ?_, af_q_put (by omega) w⟩
        intro d hd
        rcases List.mem_append.mp hd with h | h
        · exact h3 d h
        · rw [List.mem_singleton.mp h]; exact hw
    · have a1 : a = 1 := by have := ha.1; omega
      subst a1
      cases l with
      | nil => exact ⟨[], by simp, by simp, af_q_none w⟩
      | cons d l => exact ⟨l, by simp at h1; omega, fun x hx => h3 x (List.mem_cons_of_mem _ hx), af_q_take (by simp at h1; omega) (h3 d List.mem_cons_self) w⟩
  · unfold okT at hT ⊢
    rw [if_neg k1] at hT ⊢
    unfold af
    rw [if_neg h2, if_neg k1]
    by_cases k0 : kd = 0
    · rw [if_pos k0]; simp [k0]; omega
    rw [if_neg k0]
    by_cases k2 : kd = 2
    · simp only [k2, ↓reduceIte] at hT ⊢
      exact (by decide +kernel : ∀ T, T < 1024 → ∀ w, w < 10 → ∀ a, a < 3 → (if a = 0 then (if T / 2 ^ w % 2 = 1 then T else T + 2 ^ w) else (if T / 2 ^ w % 2 = 1 then T - 2 ^ w else T)) < 1024) T hT w (by omega) a ha.1
    simp only [k2, ↓reduceIte] at hT ⊢
    by_cases k3 : kd = 3
    · simp only [k3] at hT ⊢
      simp at hT ⊢
      unfold ctn
      repeat' split
      all_goals omega
    · have k4 : kd = 4 := by omega
      simp only [k4] at hT ⊢
      simp at hT ⊢
      repeat' split
      all_goals omega
theorem sy_lt {kd T a w : Nat} (hk : kd < 5) (hT : okT kd T) : sy kd T a w ≤ 99 := by
  have h6 : kd = 4 → T ≤ 18 := by
    intro e; subst e; unfold okT at hT; simpa using hT
  have h7 : kd = 0 ∨ kd = 3 → T ≤ 99 := by
    intro e; unfold okT at hT
    rw [if_neg (by omega), if_neg (by omega), if_neg (by omega)] at hT
    exact hT
  unfold sy ctn
  repeat' split
  all_goals omega
