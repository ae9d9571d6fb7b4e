/-! the tills: what an act answers (sy) and leaves (af), by numbers; the class's code of a till is its number -/
def ctn (T a : Nat) : Nat := if a = 0 then (if T < 99 then T + 1 else T) else if a = 1 then (if 0 < T then T - 1 else T) else T
def sy (kd T a w : Nat) : Nat :=
  if kd = 0 then (if a = 0 then 0 else T)
  else if kd = 1 then (if a = 0 then (if T % 8 < 6 then 1 else 0) else (if 0 < T % 8 then 1 + T / 8 % 16 else 0))
  else if kd = 2 then (if a = 0 then 1 - T / 2 ^ w % 2 else T / 2 ^ w % 2)
  else if kd = 3 then ctn T a
  else if a = 2 then T else if a = 0 then (if w ≤ T then 1 else 0) else (if w ≤ 18 - T then 1 else 0)
def af (kd T a w : Nat) : Nat :=
  if a = 2 then T
  else if kd = 0 then w
  else if kd = 1 then (if a = 0 then (if T % 8 < 6 then T + 1 + w * 2 ^ (3 + 4 * (T % 8)) else T) else (if 0 < T % 8 then T / 128 * 8 + (T % 8 - 1) else T))
  else if kd = 2 then (if a = 0 then (if T / 2 ^ w % 2 = 1 then T else T + 2 ^ w) else (if T / 2 ^ w % 2 = 1 then T - 2 ^ w else T))
  else if kd = 3 then ctn T a
  else if a = 0 then (if w ≤ T then T - w else T) else (if w ≤ 18 - T then T + w else T)
/-- a till that can be: of a queue a list of digits -/
def encC : List Nat → Nat := fun l => l.foldr (fun d s => d + 16 * s) 0
def okT (kd T : Nat) : Prop :=
  if kd = 1 then ∃ l : List Nat, l.length ≤ 6 ∧ (∀ d ∈ l, d ≤ 9) ∧ T = l.length + 8 * encC l
  else if kd = 2 then T < 1024 else if kd = 4 then T ≤ 18 else T ≤ 99
theorem encC_lt : ∀ l : List Nat, (∀ d ∈ l, d ≤ 9) → encC l < 16 ^ l.length
  | [], _ => by simp [encC]
  | a :: l, h => by
    have h1 := encC_lt l (fun d hd => h d (List.mem_cons_of_mem _ hd))
    have h2 := h a (List.mem_cons_self)
    have e : encC (a :: l) = a + 16 * encC l := rfl
    rw [e, List.length_cons, Nat.pow_succ]
    omega
theorem okT_lt {kd T : Nat} (h : okT kd T) : T < 134217728 := by
  unfold okT at h
  split at h
  · obtain ⟨l, h1, h2, rfl⟩ := h
    have h3 := encC_lt l h2
    have h4 : 16 ^ l.length ≤ 16 ^ 6 := Nat.pow_le_pow_right (by omega) h1
    have h5 : (16 : Nat) ^ 6 = 16777216 := by decide
    omega
  · split at h
    · omega
    · split at h <;> omega
theorem encC_app : ∀ (l : List Nat) (w : Nat), encC (l ++ [w]) = encC l + w * 16 ^ l.length
  | [], w => by simp [encC]
  | a :: l, w => by
    have h1 := encC_app l w
    have e : encC (a :: l) = a + 16 * encC l := rfl
    have e2 : encC (a :: l ++ [w]) = a + 16 * encC (l ++ [w]) := rfl
    rw [e2, h1, e, List.length_cons, Nat.pow_succ, Nat.mul_add, Nat.add_assoc]
    congr 2
    rw [← Nat.mul_assoc, Nat.mul_comm 16 w, Nat.mul_assoc, Nat.mul_comm 16]
theorem X8_atFirst {kd : Nat} (hk : kd < 5) : F_X8_atFirst (nI kd) = some (nI (if kd = 4 then 9 else 0)) := by
  unfold F_X8_atFirst
  simp (disch := omega) only [zl_0, zl_1, zl_2, zl_3, zl_4, zl_5, zl_6, zl_7, zl_8, zl_9, zl_10, zl_12, zl_14, zl_15, zl_16, zl_17, zl_18, zl_20, zl_24, zl_31, zl_32, zl_44, zl_48, zl_57, zl_59, zl_63, zl_64, zl_70, zl_74, zl_75, zl_97, zl_99, zl_100, zl_122, zl_140, zl_141, zl_142, zl_255, zl_900, zl_999, zl_1000, zl_1998, zl_6000, zl_6001, zl_16383, zl_16384, zl_65536, zl_65537, zq_add, zq_mul, zq_sub, zd_lt, zd_le, zd_eq, zd_cl, zm_lt, zm_le, zm_gt, zm_ge, zm_eq, zm_qe, zm_mm, zt_lt, zf_lt, zt_le, zf_le, zt_eq, zf_eq, z_upd, z_updL, z_b1, z_b2, z_b3, z_b4, z_b5, z_b6, z_b7, z_b8, z_b9, z_b10, z_b11, z_b12, z_b13, z_b14, z_b15, z_b16, z_b17, z_b18, z_b19, z_b20, ↓reduceIte, or_false, false_or, or_self, true_or, or_true, and_true, true_and, and_false, false_and, not_true_eq_false, not_false_eq_true, ite_self, reduceCtorEq, Nat.reduceAdd, Nat.reduceMul, Nat.reduceSub, Nat.reducePow, Nat.reduceDiv, Nat.reduceMod, Nat.reduceLT, Nat.reduceLeDiff, Nat.reduceEqDiff, Nat.add_zero, Nat.zero_add, Nat.mul_one, Nat.one_mul, Nat.mul_zero, Nat.zero_mul, Nat.sub_zero, Nat.not_lt_zero, Nat.zero_le]
  split <;> rfl
theorem X8_counted {T a : Nat} (hT : T < 134217728) (ha : a < 3) : F_X8_counted (nI T) (nI a) = some (nI (ctn T a)) := by
  unfold F_X8_counted ctn
  simp (disch := omega) only [zl_0, zl_1, zl_2, zl_3, zl_4, zl_5, zl_6, zl_7, zl_8, zl_9, zl_10, zl_12, zl_14, zl_15, zl_16, zl_17, zl_18, zl_20, zl_24, zl_31, zl_32, zl_44, zl_48, zl_57, zl_59, zl_63, zl_64, zl_70, zl_74, zl_75, zl_97, zl_99, zl_100, zl_122, zl_140, zl_141, zl_142, zl_255, zl_900, zl_999, zl_1000, zl_1998, zl_6000, zl_6001, zl_16383, zl_16384, zl_65536, zl_65537, zq_add, zq_mul, zq_sub, zd_lt, zd_le, zd_eq, zd_cl, zm_lt, zm_le, zm_gt, zm_ge, zm_eq, zm_qe, zm_mm, zt_lt, zf_lt, zt_le, zf_le, zt_eq, zf_eq, z_upd, z_updL, z_b1, z_b2, z_b3, z_b4, z_b5, z_b6, z_b7, z_b8, z_b9, z_b10, z_b11, z_b12, z_b13, z_b14, z_b15, z_b16, z_b17, z_b18, z_b19, z_b20, ↓reduceIte, or_false, false_or, or_self, true_or, or_true, and_true, true_and, and_false, false_and, not_true_eq_false, not_false_eq_true, ite_self, reduceCtorEq, Nat.reduceAdd, Nat.reduceMul, Nat.reduceSub, Nat.reducePow, Nat.reduceDiv, Nat.reduceMod, Nat.reduceLT, Nat.reduceLeDiff, Nat.reduceEqDiff, Nat.add_zero, Nat.zero_add, Nat.mul_one, Nat.one_mul, Nat.mul_zero, Nat.zero_mul, Nat.sub_zero, Nat.not_lt_zero, Nat.zero_le]
  repeat' split
  all_goals first | rfl | omega
theorem X8_queued {T : Nat} : F_X8_queued (nI T) = some (nI (T % 8)) := by
  unfold F_X8_queued
  rw [zl_7, show (7 : Nat) = 2 ^ 3 - 1 from rfl, fa_mask]
theorem X8_purse {T a : Nat} (hT : T ≤ 18) (ha : a < 3) : F_X8_purse (nI T) (nI a) = some (nI (if a = 0 then T else 18 - T)) := by
  unfold F_X8_purse
  simp (disch := omega) only [zl_0, zl_1, zl_2, zl_3, zl_4, zl_5, zl_6, zl_7, zl_8, zl_9, zl_10, zl_12, zl_14, zl_15, zl_16, zl_17, zl_18, zl_20, zl_24, zl_31, zl_32, zl_44, zl_48, zl_57, zl_59, zl_63, zl_64, zl_70, zl_74, zl_75, zl_97, zl_99, zl_100, zl_122, zl_140, zl_141, zl_142, zl_255, zl_900, zl_999, zl_1000, zl_1998, zl_6000, zl_6001, zl_16383, zl_16384, zl_65536, zl_65537, zq_add, zq_mul, zq_sub, zd_lt, zd_le, zd_eq, zd_cl, zm_lt, zm_le, zm_gt, zm_ge, zm_eq, zm_qe, zm_mm, zt_lt, zf_lt, zt_le, zf_le, zt_eq, zf_eq, z_upd, z_updL, z_b1, z_b2, z_b3, z_b4, z_b5, z_b6, z_b7, z_b8, z_b9, z_b10, z_b11, z_b12, z_b13, z_b14, z_b15, z_b16, z_b17, z_b18, z_b19, z_b20, ↓reduceIte, or_false, false_or, or_self, true_or, or_true, and_true, true_and, and_false, false_and, not_true_eq_false, not_false_eq_true, ite_self, reduceCtorEq, Nat.reduceAdd, Nat.reduceMul, Nat.reduceSub, Nat.reducePow, Nat.reduceDiv, Nat.reduceMod, Nat.reduceLT, Nat.reduceLeDiff, Nat.reduceEqDiff, Nat.add_zero, Nat.zero_add, Nat.mul_one, Nat.one_mul, Nat.mul_zero, Nat.zero_mul, Nat.sub_zero, Nat.not_lt_zero, Nat.zero_le]
  split <;> rfl
theorem zs_bit {T w : Nat} (hT : T < 2147483648) (hw : w < 32) : (nI T >>> (nI w &&& nI 31)) &&& nI 1 = nI (T / 2 ^ w % 2) := by
  rw [zs_and31 hw, zs_shr hT hw, show (1 : Nat) = 2 ^ 1 - 1 from rfl, fa_mask]
theorem X8_says {kd T a w : Nat} (hk : kd < 5) (hT : okT kd T) (ha : a < 3) (hw : w ≤ 9) : F_X8_says (nI kd) (nI T) (nI a) (nI w) = some (nI (sy kd T a w)) := by
  have hl := okT_lt hT
  have h3 : nI T >>> (nI 3 &&& nI 31) = nI (T / 2 ^ 3) := by rw [zs_and31 (by omega), zs_shr (by omega) (by omega)]
  have h4 : nI (T / 2 ^ 3) &&& nI 15 = nI (T / 8 % 16) := by rw [show (15 : Nat) = 2 ^ 4 - 1 from rfl, fa_mask]
  have h5 : T / 2 ^ w % 2 < 2 := Nat.mod_lt _ (by omega)
  have h6 : kd = 4 → T ≤ 18 := by
    intro e; subst e; unfold okT at hT; simpa using hT
  unfold F_X8_says sy
  simp (disch := omega) only [X8_queued, X8_counted hl ha, zl_0, zl_1, zl_2, zl_3, zl_4, zl_5, zl_6, zl_7, zl_8, zl_9, zl_10, zl_12, zl_14, zl_15, zl_16, zl_17, zl_18, zl_20, zl_24, zl_31, zl_32, zl_44, zl_48, zl_57, zl_59, zl_63, zl_64, zl_70, zl_74, zl_75, zl_97, zl_99, zl_100, zl_122, zl_140, zl_141, zl_142, zl_255, zl_900, zl_999, zl_1000, zl_1998, zl_6000, zl_6001, zl_16383, zl_16384, zl_65536, zl_65537, zq_add, zq_mul, zq_sub, zd_lt, zd_le, zd_eq, zd_cl, zm_lt, zm_le, zm_gt, zm_ge, zm_eq, zm_qe, zm_mm, zt_lt, zf_lt, zt_le, zf_le, zt_eq, zf_eq, z_upd, z_updL, z_b1, z_b2, z_b3, z_b4, z_b5, z_b6, z_b7, z_b8, z_b9, z_b10, z_b11, z_b12, z_b13, z_b14, z_b15, z_b16, z_b17, z_b18, z_b19, z_b20, ↓reduceIte, or_false, false_or, or_self, true_or, or_true, and_true, true_and, and_false, false_and, not_true_eq_false, not_false_eq_true, ite_self, reduceCtorEq, Nat.reduceAdd, Nat.reduceMul, Nat.reduceSub, Nat.reducePow, Nat.reduceDiv, Nat.reduceMod, Nat.reduceLT, Nat.reduceLeDiff, Nat.reduceEqDiff, Nat.add_zero, Nat.zero_add, Nat.mul_one, Nat.one_mul, Nat.mul_zero, Nat.zero_mul, Nat.sub_zero, Nat.not_lt_zero, Nat.zero_le]
  rw [h3, h4, zs_bit (by omega) (by omega)]
  simp (disch := omega) only [zl_0, zl_1, zl_2, zl_3, zl_4, zl_5, zl_6, zl_7, zl_8, zl_9, zl_10, zl_12, zl_14, zl_15, zl_16, zl_17, zl_18, zl_20, zl_24, zl_31, zl_32, zl_44, zl_48, zl_57, zl_59, zl_63, zl_64, zl_70, zl_74, zl_75, zl_97, zl_99, zl_100, zl_122, zl_140, zl_141, zl_142, zl_255, zl_900, zl_999, zl_1000, zl_1998, zl_6000, zl_6001, zl_16383, zl_16384, zl_65536, zl_65537, zq_add, zq_mul, zq_sub, zd_lt, zd_le, zd_eq, zd_cl, zm_lt, zm_le, zm_gt, zm_ge, zm_eq, zm_qe, zm_mm, zt_lt, zf_lt, zt_le, zf_le, zt_eq, zf_eq, z_upd, z_updL, z_b1, z_b2, z_b3, z_b4, z_b5, z_b6, z_b7, z_b8, z_b9, z_b10, z_b11, z_b12, z_b13, z_b14, z_b15, z_b16, z_b17, z_b18, z_b19, z_b20, ↓reduceIte, or_false, false_or, or_self, true_or, or_true, and_true, true_and, and_false, false_and, not_true_eq_false, not_false_eq_true, ite_self, reduceCtorEq, Nat.reduceAdd, Nat.reduceMul, Nat.reduceSub, Nat.reducePow, Nat.reduceDiv, Nat.reduceMod, Nat.reduceLT, Nat.reduceLeDiff, Nat.reduceEqDiff, Nat.add_zero, Nat.zero_add, Nat.mul_one, Nat.one_mul, Nat.mul_zero, Nat.zero_mul, Nat.sub_zero, Nat.not_lt_zero, Nat.zero_le]
  repeat' split
  all_goals first | rfl | omega | skip
  all_goals (rw [X8_purse (h6 (by omega)) ha]; simp (disch := omega) only [zl_0, zl_1, zl_2, zl_3, zl_4, zl_5, zl_6, zl_7, zl_8, zl_9, zl_10, zl_12, zl_14, zl_15, zl_16, zl_17, zl_18, zl_20, zl_24, zl_31, zl_32, zl_44, zl_48, zl_57, zl_59, zl_63, zl_64, zl_70, zl_74, zl_75, zl_97, zl_99, zl_100, zl_122, zl_140, zl_141, zl_142, zl_255, zl_900, zl_999, zl_1000, zl_1998, zl_6000, zl_6001, zl_16383, zl_16384, zl_65536, zl_65537, zq_add, zq_mul, zq_sub, zd_lt, zd_le, zd_eq, zd_cl, zm_lt, zm_le, zm_gt, zm_ge, zm_eq, zm_qe, zm_mm, zt_lt, zf_lt, zt_le, zf_le, zt_eq, zf_eq, z_upd, z_updL, z_b1, z_b2, z_b3, z_b4, z_b5, z_b6, z_b7, z_b8, z_b9, z_b10, z_b11, z_b12, z_b13, z_b14, z_b15, z_b16, z_b17, z_b18, z_b19, z_b20, ↓reduceIte, or_false, false_or, or_self, true_or, or_true, and_true, true_and, and_false, false_and, not_true_eq_false, not_false_eq_true, ite_self, reduceCtorEq, Nat.reduceAdd, Nat.reduceMul, Nat.reduceSub, Nat.reducePow, Nat.reduceDiv, Nat.reduceMod, Nat.reduceLT, Nat.reduceLeDiff, Nat.reduceEqDiff, Nat.add_zero, Nat.zero_add, Nat.mul_one, Nat.one_mul, Nat.mul_zero, Nat.zero_mul, Nat.sub_zero, Nat.not_lt_zero, Nat.zero_le]; repeat' split) 
  all_goals first | rfl | omega | skip
