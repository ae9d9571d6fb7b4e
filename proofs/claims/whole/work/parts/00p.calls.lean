/-! calls: how many; cashier, till, act, whole, begin by numbers; end, answer as they stand (-2: open) -/
abbrev Ca := Nat × (Nat → Nat) × (Nat → Nat) × (Nat → Nat) × (Nat → Nat) × (Nat → Nat) × (Nat → Int32) × (Nat → Int32)
def cm (K : Ca) : Nat := K.1
def cq (K : Ca) : Nat → Nat := K.2.1
def ct (K : Ca) : Nat → Nat := K.2.2.1
def cac (K : Ca) : Nat → Nat := K.2.2.2.1
def cw (K : Ca) : Nat → Nat := K.2.2.2.2.1
def cb (K : Ca) : Nat → Nat := K.2.2.2.2.2.1
def ce (K : Ca) : Nat → Int32 := K.2.2.2.2.2.2.1
def cv (K : Ca) : Nat → Int32 := K.2.2.2.2.2.2.2
/-- one that is open, or an end at e -/
def endAt (x : Int32) (b : Nat) : Prop := x = -2 ∨ ∃ e, x = nI e ∧ b ≤ e ∧ e ≤ 999
def okC (nq nt : Nat) (kd : Nat → Nat) (K : Ca) : Prop := cm K ≤ 20 ∧ ∀ c, c < cm K →
  cq K c < nq ∧ ct K c < nt ∧ okA (kd (ct K c)) (cac K c) ∧ cw K c ≤ 9 ∧ cb K c ≤ 999 ∧ endAt (ce K c) (cb K c) ∧ (ce K c = -2 → cv K c = -2) ∧ (ce K c ≠ -2 → ∃ v, cv K c = nI v ∧ v ≤ 99)
/-- the class's rows hold them -/
def RC (K : Ca) (n : Int32) (f0 f1 f2 f3 f4 f5 f6 : Nat → Int32) : Prop := n = nI (cm K) ∧ ∀ c, c < cm K →
  f0 c = nI (cq K c) ∧ f1 c = nI (ct K c) ∧ f2 c = nI (cac K c) ∧ f3 c = nI (cw K c) ∧ f4 c = nI (cb K c) ∧ f5 c = ce K c ∧ f6 c = cv K c
theorem X0_at {f : Nat → Int32} {c : Nat} (h : c < 20) : F_X0_at 20 f (nI c) = some (f c) := by
  unfold F_X0_at
  have e : Int32.ofNat 20 = nI 20 := rfl
  rw [e]
  simp (disch := omega) only [zl_0, zl_1, zl_2, zl_3, zl_4, zl_5, zl_6, zl_7, zl_8, zl_9, zl_10, zl_12, zl_14, zl_15, zl_16, zl_17, zl_18, zl_20, zl_24, zl_31, zl_32, zl_44, zl_48, zl_57, zl_59, zl_63, zl_64, zl_70, zl_74, zl_75, zl_97, zl_99, zl_100, zl_122, zl_140, zl_141, zl_142, zl_255, zl_900, zl_999, zl_1000, zl_1998, zl_6000, zl_6001, zl_16383, zl_16384, zl_65536, zl_65537, zq_add, zq_mul, zq_sub, zd_lt, zd_le, zd_eq, zd_cl, zm_lt, zm_le, zm_gt, zm_ge, zm_eq, zm_qe, zm_mm, zt_lt, zf_lt, zt_le, zf_le, zt_eq, zf_eq, z_upd, z_updL, z_b1, z_b2, z_b3, z_b4, z_b5, z_b6, z_b7, z_b8, z_b9, z_b10, z_b11, z_b12, z_b13, z_b14, z_b15, z_b16, z_b17, z_b18, z_b19, z_b20, ↓reduceIte, or_false, false_or, or_self, true_or, or_true, and_true, true_and, and_false, false_and, not_true_eq_false, not_false_eq_true, ite_self, reduceCtorEq, Nat.reduceAdd, Nat.reduceMul, Nat.reduceSub, Nat.reducePow, Nat.reduceDiv, Nat.reduceMod, Nat.reduceLT, Nat.reduceLeDiff, Nat.reduceEqDiff, Nat.add_zero, Nat.zero_add, Nat.mul_one, Nat.one_mul, Nat.mul_zero, Nat.zero_mul, Nat.sub_zero, Nat.not_lt_zero, Nat.zero_le]
theorem X0_cashierOf {f : Nat → Int32} {c : Nat} (h : c < 20) : F_X0_cashierOf f (nI c) = some (f c) := by unfold F_X0_cashierOf; rw [X0_at h]; rfl
theorem X0_tillOf {f : Nat → Int32} {c : Nat} (h : c < 20) : F_X0_tillOf f (nI c) = some (f c) := by unfold F_X0_tillOf; rw [X0_at h]; rfl
theorem X0_actOf {f : Nat → Int32} {c : Nat} (h : c < 20) : F_X0_actOf f (nI c) = some (f c) := by unfold F_X0_actOf; rw [X0_at h]; rfl
theorem X0_wholeOf {f : Nat → Int32} {c : Nat} (h : c < 20) : F_X0_wholeOf f (nI c) = some (f c) := by unfold F_X0_wholeOf; rw [X0_at h]; rfl
theorem X0_beginOf {f : Nat → Int32} {c : Nat} (h : c < 20) : F_X0_beginOf f (nI c) = some (f c) := by unfold F_X0_beginOf; rw [X0_at h]; rfl
theorem X0_endOf {f : Nat → Int32} {c : Nat} (h : c < 20) : F_X0_endOf f (nI c) = some (f c) := by unfold F_X0_endOf; rw [X0_at h]; rfl
theorem X0_answerOf {f : Nat → Int32} {c : Nat} (h : c < 20) : F_X0_answerOf f (nI c) = some (f c) := by unfold F_X0_answerOf; rw [X0_at h]; rfl
theorem X0_isOpen {f : Nat → Int32} {c : Nat} (h : c < 20) : F_X0_isOpen f (nI c) = some (nI (if f c = -2 then 1 else 0)) := by
  unfold F_X0_isOpen
  rw [X0_endOf h, z_b1]
  by_cases g : f c = -2
  · rw [if_pos g, if_pos g]; rfl
  · rw [if_neg g, if_neg g]; rfl
/-- sets as bits -/
def msk (p : Nat → Bool) : Nat → Nat
  | 0 => 0
  | i + 1 => if p i = true then msk p i ||| 2 ^ i else msk p i
theorem msk_bit (p : Nat → Bool) : ∀ (i c : Nat), (msk p i).testBit c = (decide (c < i) && p c)
  | 0, c => by simp [msk]
  | i + 1, c => by
    unfold msk
    rcases Nat.lt_trichotomy c i with g | g | g
    · have h1 : c < i + 1 := by omega
      have h2 : i ≠ c := by omega
      split
      · rw [bit_or, msk_bit p i c]; simp [g, h1, h2]
      · rw [msk_bit p i c]; simp [g, h1]
    · subst g
      by_cases hp : p c = true
      · rw [if_pos hp, bit_or]; simp [hp]
      · rw [if_neg hp, msk_bit p c c]; simp [hp]
    · have h1 : ¬ c < i := by omega
      have h2 : ¬ c < i + 1 := by omega
      have h3 : i ≠ c := by omega
      split
      · rw [bit_or, msk_bit p i c]; simp [h1, h2, h3]
      · rw [msk_bit p i c]; simp [h1, h2]
theorem msk_lt (p : Nat → Bool) (i : Nat) : msk p i < 2 ^ i := by
  apply Nat.lt_pow_two_of_testBit
  intro c hc
  rw [msk_bit]
  simp; omega
theorem msk_lt20 (p : Nat → Bool) {i : Nat} (h : i ≤ 20) : msk p i < 2 ^ 20 := Nat.lt_of_lt_of_le (msk_lt p i) (Nat.pow_le_pow_right (by omega) h)
theorem msk_eq {X m : Nat} {p : Nat → Bool} (h : ∀ c, X.testBit c = (decide (c < m) && p c)) : X = msk p m := by
  apply Nat.eq_of_testBit_eq
  intro i
  rw [h, msk_bit]
theorem msk_cong {p q : Nat → Bool} {m : Nat} (h : ∀ c, c < m → p c = q c) : msk p m = msk q m := by
  apply msk_eq
  intro c
  rw [msk_bit]
  by_cases g : c < m
  · simp [g, h c g]
  · simp [g]
theorem tbit {X c : Nat} (hX : X < 2147483648) (hc : c < 32) : (((nI X >>> (nI c &&& nI 31)) &&& nI 1) = nI 1) = (X.testBit c = true) := by
  rw [zs_bit hX hc, zd_eq (Nat.lt_of_lt_of_le (Nat.mod_lt _ (by omega)) (by omega)) (by omega), Nat.testBit_eq_decide_div_mod_eq]
  simp
theorem tbit0 {X c : Nat} (hX : X < 2147483648) (hc : c < 32) : (((nI X >>> (nI c &&& nI 31)) &&& nI 1) = nI 0) = (X.testBit c = false) := by
  rw [zs_bit hX hc, zd_eq (Nat.lt_of_lt_of_le (Nat.mod_lt _ (by omega)) (by omega)) (by omega), Nat.testBit_eq_decide_div_mod_eq]
  simp
theorem zs_one {c : Nat} (h : c < 32) : nI 1 <<< (nI c &&& nI 31) = nI (2 ^ c) := by
  rw [zs_and31 h, zs_shl 1 h, Nat.one_mul]
theorem X0_endedOnes4 {m : Nat} (hm : m ≤ 20) {f : Nat → Int32} : ∀ (j kf i : Nat), j < kf → i + j = m →
    F_X0_endedOnes_b4 (nI m) f kf (nI (msk (fun c => decide (f c ≠ -2)) i)) (nI i) = some (nI (msk (fun c => decide (f c ≠ -2)) m))
  | 0, kf, i, hj, hi => by
    obtain ⟨q, rfl⟩ : ∃ q, kf = q + 1 := ⟨kf - 1, by omega⟩
    have : i = m := by omega
    subst this
    rw [F_X0_endedOnes_b4]
    simp (disch := omega) only [zl_0, zl_1, zl_2, zl_3, zl_4, zl_5, zl_6, zl_7, zl_8, zl_9, zl_10, zl_12, zl_14, zl_15, zl_16, zl_17, zl_18, zl_20, zl_24, zl_31, zl_32, zl_44, zl_48, zl_57, zl_59, zl_63, zl_64, zl_70, zl_74, zl_75, zl_97, zl_99, zl_100, zl_122, zl_140, zl_141, zl_142, zl_255, zl_900, zl_999, zl_1000, zl_1998, zl_6000, zl_6001, zl_16383, zl_16384, zl_65536, zl_65537, zq_add, zq_mul, zq_sub, zd_lt, zd_le, zd_eq, zd_cl, zm_lt, zm_le, zm_gt, zm_ge, zm_eq, zm_qe, zm_mm, zt_lt, zf_lt, zt_le, zf_le, zt_eq, zf_eq, z_upd, z_updL, z_b1, z_b2, z_b3, z_b4, z_b5, z_b6, z_b7, z_b8, z_b9, z_b10, z_b11, z_b12, z_b13, z_b14, z_b15, z_b16, z_b17, z_b18, z_b19, z_b20, ↓reduceIte, or_false, false_or, or_self, true_or, or_true, and_true, true_and, and_false, false_and, not_true_eq_false, not_false_eq_true, ite_self, reduceCtorEq, Nat.reduceAdd, Nat.reduceMul, Nat.reduceSub, Nat.reducePow, Nat.reduceDiv, Nat.reduceMod, Nat.reduceLT, Nat.reduceLeDiff, Nat.reduceEqDiff, Nat.add_zero, Nat.zero_add, Nat.mul_one, Nat.one_mul, Nat.mul_zero, Nat.zero_mul, Nat.sub_zero, Nat.not_lt_zero, Nat.zero_le]
  | j + 1, kf, i, hj, hi => by
    obtain ⟨q, rfl⟩ : ∃ q, kf = q + 1 := ⟨kf - 1, by omega⟩
    rw [F_X0_endedOnes_b4, X0_isOpen (by omega), ← X0_endedOnes4 hm j q (i + 1) (by omega) (by omega)]
    unfold F_X0_endedOnes_b26
    by_cases g : f i = -2
    · simp (disch := omega) only [g, msk, ne_eq, decide_false, Bool.false_eq_true, zl_0, zl_1, zl_2, zl_3, zl_4, zl_5, zl_6, zl_7, zl_8, zl_9, zl_10, zl_12, zl_14, zl_15, zl_16, zl_17, zl_18, zl_20, zl_24, zl_31, zl_32, zl_44, zl_48, zl_57, zl_59, zl_63, zl_64, zl_70, zl_74, zl_75, zl_97, zl_99, zl_100, zl_122, zl_140, zl_141, zl_142, zl_255, zl_900, zl_999, zl_1000, zl_1998, zl_6000, zl_6001, zl_16383, zl_16384, zl_65536, zl_65537, zq_add, zq_mul, zq_sub, zd_lt, zd_le, zd_eq, zd_cl, zm_lt, zm_le, zm_gt, zm_ge, zm_eq, zm_qe, zm_mm, zt_lt, zf_lt, zt_le, zf_le, zt_eq, zf_eq, z_upd, z_updL, z_b1, z_b2, z_b3, z_b4, z_b5, z_b6, z_b7, z_b8, z_b9, z_b10, z_b11, z_b12, z_b13, z_b14, z_b15, z_b16, z_b17, z_b18, z_b19, z_b20, ↓reduceIte, or_false, false_or, or_self, true_or, or_true, and_true, true_and, and_false, false_and, not_true_eq_false, not_false_eq_true, ite_self, reduceCtorEq, Nat.reduceAdd, Nat.reduceMul, Nat.reduceSub, Nat.reducePow, Nat.reduceDiv, Nat.reduceMod, Nat.reduceLT, Nat.reduceLeDiff, Nat.reduceEqDiff, Nat.add_zero, Nat.zero_add, Nat.mul_one, Nat.one_mul, Nat.mul_zero, Nat.zero_mul, Nat.sub_zero, Nat.not_lt_zero, Nat.zero_le]
    · have g' : ¬ f i = -nI 2 := g
      simp (disch := omega) only [g', msk, ne_eq, decide_true, zs_one, zq_or, zl_0, zl_1, zl_2, zl_3, zl_4, zl_5, zl_6, zl_7, zl_8, zl_9, zl_10, zl_12, zl_14, zl_15, zl_16, zl_17, zl_18, zl_20, zl_24, zl_31, zl_32, zl_44, zl_48, zl_57, zl_59, zl_63, zl_64, zl_70, zl_74, zl_75, zl_97, zl_99, zl_100, zl_122, zl_140, zl_141, zl_142, zl_255, zl_900, zl_999, zl_1000, zl_1998, zl_6000, zl_6001, zl_16383, zl_16384, zl_65536, zl_65537, zq_add, zq_mul, zq_sub, zd_lt, zd_le, zd_eq, zd_cl, zm_lt, zm_le, zm_gt, zm_ge, zm_eq, zm_qe, zm_mm, zt_lt, zf_lt, zt_le, zf_le, zt_eq, zf_eq, z_upd, z_updL, z_b1, z_b2, z_b3, z_b4, z_b5, z_b6, z_b7, z_b8, z_b9, z_b10, z_b11, z_b12, z_b13, z_b14, z_b15, z_b16, z_b17, z_b18, z_b19, z_b20, ↓reduceIte, or_false, false_or, or_self, true_or, or_true, and_true, true_and, and_false, false_and, not_true_eq_false, not_false_eq_true, ite_self, reduceCtorEq, Nat.reduceAdd, Nat.reduceMul, Nat.reduceSub, Nat.reducePow, Nat.reduceDiv, Nat.reduceMod, Nat.reduceLT, Nat.reduceLeDiff, Nat.reduceEqDiff, Nat.add_zero, Nat.zero_add, Nat.mul_one, Nat.one_mul, Nat.mul_zero, Nat.zero_mul, Nat.sub_zero, Nat.not_lt_zero, Nat.zero_le]
theorem X0_endedOnes {fu m : Nat} (hfu : 20000 ≤ fu) (hm : m ≤ 20) {f : Nat → Int32} : F_X0_endedOnes fu (nI m) f = some (nI (msk (fun c => decide (f c ≠ -2)) m)) :=
  X0_endedOnes4 hm m fu 0 (by omega) (by omega)
theorem X0_onesOfTill4 {m : Nat} (hm : m ≤ 20) {f : Nat → Int32} {t : Int32} : ∀ (j kf i : Nat), j < kf → i + j = m →
    F_X0_onesOfTill_b4 (nI m) f t kf (nI (msk (fun c => decide (f c = t)) i)) (nI i) = some (nI (msk (fun c => decide (f c = t)) m))
  | 0, kf, i, hj, hi => by
    obtain ⟨q, rfl⟩ : ∃ q, kf = q + 1 := ⟨kf - 1, by omega⟩
    have : i = m := by omega
    subst this
    rw [F_X0_onesOfTill_b4]
    simp (disch := omega) only [zl_0, zl_1, zl_2, zl_3, zl_4, zl_5, zl_6, zl_7, zl_8, zl_9, zl_10, zl_12, zl_14, zl_15, zl_16, zl_17, zl_18, zl_20, zl_24, zl_31, zl_32, zl_44, zl_48, zl_57, zl_59, zl_63, zl_64, zl_70, zl_74, zl_75, zl_97, zl_99, zl_100, zl_122, zl_140, zl_141, zl_142, zl_255, zl_900, zl_999, zl_1000, zl_1998, zl_6000, zl_6001, zl_16383, zl_16384, zl_65536, zl_65537, zq_add, zq_mul, zq_sub, zd_lt, zd_le, zd_eq, zd_cl, zm_lt, zm_le, zm_gt, zm_ge, zm_eq, zm_qe, zm_mm, zt_lt, zf_lt, zt_le, zf_le, zt_eq, zf_eq, z_upd, z_updL, z_b1, z_b2, z_b3, z_b4, z_b5, z_b6, z_b7, z_b8, z_b9, z_b10, z_b11, z_b12, z_b13, z_b14, z_b15, z_b16, z_b17, z_b18, z_b19, z_b20, ↓reduceIte, or_false, false_or, or_self, true_or, or_true, and_true, true_and, and_false, false_and, not_true_eq_false, not_false_eq_true, ite_self, reduceCtorEq, Nat.reduceAdd, Nat.reduceMul, Nat.reduceSub, Nat.reducePow, Nat.reduceDiv, Nat.reduceMod, Nat.reduceLT, Nat.reduceLeDiff, Nat.reduceEqDiff, Nat.add_zero, Nat.zero_add, Nat.mul_one, Nat.one_mul, Nat.mul_zero, Nat.zero_mul, Nat.sub_zero, Nat.not_lt_zero, Nat.zero_le]
  | j + 1, kf, i, hj, hi => by
    obtain ⟨q, rfl⟩ : ∃ q, kf = q + 1 := ⟨kf - 1, by omega⟩
    rw [F_X0_onesOfTill_b4, X0_tillOf (by omega), ← X0_onesOfTill4 hm j q (i + 1) (by omega) (by omega)]
    unfold F_X0_onesOfTill_b27
    by_cases g : f i = t
    · simp (disch := omega) only [g, msk, decide_true, zs_one, zq_or, zl_0, zl_1, zl_2, zl_3, zl_4, zl_5, zl_6, zl_7, zl_8, zl_9, zl_10, zl_12, zl_14, zl_15, zl_16, zl_17, zl_18, zl_20, zl_24, zl_31, zl_32, zl_44, zl_48, zl_57, zl_59, zl_63, zl_64, zl_70, zl_74, zl_75, zl_97, zl_99, zl_100, zl_122, zl_140, zl_141, zl_142, zl_255, zl_900, zl_999, zl_1000, zl_1998, zl_6000, zl_6001, zl_16383, zl_16384, zl_65536, zl_65537, zq_add, zq_mul, zq_sub, zd_lt, zd_le, zd_eq, zd_cl, zm_lt, zm_le, zm_gt, zm_ge, zm_eq, zm_qe, zm_mm, zt_lt, zf_lt, zt_le, zf_le, zt_eq, zf_eq, z_upd, z_updL, z_b1, z_b2, z_b3, z_b4, z_b5, z_b6, z_b7, z_b8, z_b9, z_b10, z_b11, z_b12, z_b13, z_b14, z_b15, z_b16, z_b17, z_b18, z_b19, z_b20, ↓reduceIte, or_false, false_or, or_self, true_or, or_true, and_true, true_and, and_false, false_and, not_true_eq_false, not_false_eq_true, ite_self, reduceCtorEq, Nat.reduceAdd, Nat.reduceMul, Nat.reduceSub, Nat.reducePow, Nat.reduceDiv, Nat.reduceMod, Nat.reduceLT, Nat.reduceLeDiff, Nat.reduceEqDiff, Nat.add_zero, Nat.zero_add, Nat.mul_one, Nat.one_mul, Nat.mul_zero, Nat.zero_mul, Nat.sub_zero, Nat.not_lt_zero, Nat.zero_le]
    · simp (disch := omega) only [g, msk, decide_false, Bool.false_eq_true, zl_0, zl_1, zl_2, zl_3, zl_4, zl_5, zl_6, zl_7, zl_8, zl_9, zl_10, zl_12, zl_14, zl_15, zl_16, zl_17, zl_18, zl_20, zl_24, zl_31, zl_32, zl_44, zl_48, zl_57, zl_59, zl_63, zl_64, zl_70, zl_74, zl_75, zl_97, zl_99, zl_100, zl_122, zl_140, zl_141, zl_142, zl_255, zl_900, zl_999, zl_1000, zl_1998, zl_6000, zl_6001, zl_16383, zl_16384, zl_65536, zl_65537, zq_add, zq_mul, zq_sub, zd_lt, zd_le, zd_eq, zd_cl, zm_lt, zm_le, zm_gt, zm_ge, zm_eq, zm_qe, zm_mm, zt_lt, zf_lt, zt_le, zf_le, zt_eq, zf_eq, z_upd, z_updL, z_b1, z_b2, z_b3, z_b4, z_b5, z_b6, z_b7, z_b8, z_b9, z_b10, z_b11, z_b12, z_b13, z_b14, z_b15, z_b16, z_b17, z_b18, z_b19, z_b20, ↓reduceIte, or_false, false_or, or_self, true_or, or_true, and_true, true_and, and_false, false_and, not_true_eq_false, not_false_eq_true, ite_self, reduceCtorEq, Nat.reduceAdd, Nat.reduceMul, Nat.reduceSub, Nat.reducePow, Nat.reduceDiv, Nat.reduceMod, Nat.reduceLT, Nat.reduceLeDiff, Nat.reduceEqDiff, Nat.add_zero, Nat.zero_add, Nat.mul_one, Nat.one_mul, Nat.mul_zero, Nat.zero_mul, Nat.sub_zero, Nat.not_lt_zero, Nat.zero_le]
theorem X0_onesOfTill {fu m : Nat} (hfu : 20000 ≤ fu) (hm : m ≤ 20) {f : Nat → Int32} {t : Int32} : F_X0_onesOfTill fu (nI m) f t = some (nI (msk (fun c => decide (f c = t)) m)) :=
  X0_onesOfTill4 hm m fu 0 (by omega) (by omega)
theorem X0_onesBegunBy4 {m : Nat} (hm : m ≤ 20) {f : Nat → Int32} {t : Int32} : ∀ (j kf i : Nat), j < kf → i + j = m →
    F_X0_onesBegunBy_b4 (nI m) f t kf (nI (msk (fun c => decide (¬ t < f c)) i)) (nI i) = some (nI (msk (fun c => decide (¬ t < f c)) m))
  | 0, kf, i, hj, hi => by
    obtain ⟨q, rfl⟩ : ∃ q, kf = q + 1 := ⟨kf - 1, by omega⟩
    have : i = m := by omega
    subst this
    rw [F_X0_onesBegunBy_b4]
    simp (disch := omega) only [zl_0, zl_1, zl_2, zl_3, zl_4, zl_5, zl_6, zl_7, zl_8, zl_9, zl_10, zl_12, zl_14, zl_15, zl_16, zl_17, zl_18, zl_20, zl_24, zl_31, zl_32, zl_44, zl_48, zl_57, zl_59, zl_63, zl_64, zl_70, zl_74, zl_75, zl_97, zl_99, zl_100, zl_122, zl_140, zl_141, zl_142, zl_255, zl_900, zl_999, zl_1000, zl_1998, zl_6000, zl_6001, zl_16383, zl_16384, zl_65536, zl_65537, zq_add, zq_mul, zq_sub, zd_lt, zd_le, zd_eq, zd_cl, zm_lt, zm_le, zm_gt, zm_ge, zm_eq, zm_qe, zm_mm, zt_lt, zf_lt, zt_le, zf_le, zt_eq, zf_eq, z_upd, z_updL, z_b1, z_b2, z_b3, z_b4, z_b5, z_b6, z_b7, z_b8, z_b9, z_b10, z_b11, z_b12, z_b13, z_b14, z_b15, z_b16, z_b17, z_b18, z_b19, z_b20, ↓reduceIte, or_false, false_or, or_self, true_or, or_true, and_true, true_and, and_false, false_and, not_true_eq_false, not_false_eq_true, ite_self, reduceCtorEq, Nat.reduceAdd, Nat.reduceMul, Nat.reduceSub, Nat.reducePow, Nat.reduceDiv, Nat.reduceMod, Nat.reduceLT, Nat.reduceLeDiff, Nat.reduceEqDiff, Nat.add_zero, Nat.zero_add, Nat.mul_one, Nat.one_mul, Nat.mul_zero, Nat.zero_mul, Nat.sub_zero, Nat.not_lt_zero, Nat.zero_le]
  | j + 1, kf, i, hj, hi => by
    obtain ⟨q, rfl⟩ : ∃ q, kf = q + 1 := ⟨kf - 1, by omega⟩
    rw [F_X0_onesBegunBy_b4, X0_beginOf (by omega), ← X0_onesBegunBy4 hm j q (i + 1) (by omega) (by omega)]
    unfold F_X0_onesBegunBy_b27
    by_cases g : t < f i
    · simp (disch := omega) only [g, msk, decide_false, Bool.false_eq_true, zl_0, zl_1, zl_2, zl_3, zl_4, zl_5, zl_6, zl_7, zl_8, zl_9, zl_10, zl_12, zl_14, zl_15, zl_16, zl_17, zl_18, zl_20, zl_24, zl_31, zl_32, zl_44, zl_48, zl_57, zl_59, zl_63, zl_64, zl_70, zl_74, zl_75, zl_97, zl_99, zl_100, zl_122, zl_140, zl_141, zl_142, zl_255, zl_900, zl_999, zl_1000, zl_1998, zl_6000, zl_6001, zl_16383, zl_16384, zl_65536, zl_65537, zq_add, zq_mul, zq_sub, zd_lt, zd_le, zd_eq, zd_cl, zm_lt, zm_le, zm_gt, zm_ge, zm_eq, zm_qe, zm_mm, zt_lt, zf_lt, zt_le, zf_le, zt_eq, zf_eq, z_upd, z_updL, z_b1, z_b2, z_b3, z_b4, z_b5, z_b6, z_b7, z_b8, z_b9, z_b10, z_b11, z_b12, z_b13, z_b14, z_b15, z_b16, z_b17, z_b18, z_b19, z_b20, ↓reduceIte, or_false, false_or, or_self, true_or, or_true, and_true, true_and, and_false, false_and, not_true_eq_false, not_false_eq_true, ite_self, reduceCtorEq, Nat.reduceAdd, Nat.reduceMul, Nat.reduceSub, Nat.reducePow, Nat.reduceDiv, Nat.reduceMod, Nat.reduceLT, Nat.reduceLeDiff, Nat.reduceEqDiff, Nat.add_zero, Nat.zero_add, Nat.mul_one, Nat.one_mul, Nat.mul_zero, Nat.zero_mul, Nat.sub_zero, Nat.not_lt_zero, Nat.zero_le]
    · simp (disch := omega) only [g, msk, decide_true, zs_one, zq_or, zl_0, zl_1, zl_2, zl_3, zl_4, zl_5, zl_6, zl_7, zl_8, zl_9, zl_10, zl_12, zl_14, zl_15, zl_16, zl_17, zl_18, zl_20, zl_24, zl_31, zl_32, zl_44, zl_48, zl_57, zl_59, zl_63, zl_64, zl_70, zl_74, zl_75, zl_97, zl_99, zl_100, zl_122, zl_140, zl_141, zl_142, zl_255, zl_900, zl_999, zl_1000, zl_1998, zl_6000, zl_6001, zl_16383, zl_16384, zl_65536, zl_65537, zq_add, zq_mul, zq_sub, zd_lt, zd_le, zd_eq, zd_cl, zm_lt, zm_le, zm_gt, zm_ge, zm_eq, zm_qe, zm_mm, zt_lt, zf_lt, zt_le, zf_le, zt_eq, zf_eq, z_upd, z_updL, z_b1, z_b2, z_b3, z_b4, z_b5, z_b6, z_b7, z_b8, z_b9, z_b10, z_b11, z_b12, z_b13, z_b14, z_b15, z_b16, z_b17, z_b18, z_b19, z_b20, ↓reduceIte, or_false, false_or, or_self, true_or, or_true, and_true, true_and, and_false, false_and, not_true_eq_false, not_false_eq_true, ite_self, reduceCtorEq, Nat.reduceAdd, Nat.reduceMul, Nat.reduceSub, Nat.reducePow, Nat.reduceDiv, Nat.reduceMod, Nat.reduceLT, Nat.reduceLeDiff, Nat.reduceEqDiff, Nat.add_zero, Nat.zero_add, Nat.mul_one, Nat.one_mul, Nat.mul_zero, Nat.zero_mul, Nat.sub_zero, Nat.not_lt_zero, Nat.zero_le]
theorem X0_onesBegunBy {fu m : Nat} (hfu : 20000 ≤ fu) (hm : m ≤ 20) {f : Nat → Int32} {t : Int32} : F_X0_onesBegunBy fu (nI m) f t = some (nI (msk (fun c => decide (¬ t < f c)) m)) :=
  X0_onesBegunBy4 hm m fu 0 (by omega) (by omega)
theorem X0_allOnes {m : Nat} (hm : m ≤ 20) : F_X0_allOnes (nI m) = some (nI (msk (fun _ => true) m)) := by
  unfold F_X0_allOnes
  rw [zl_1, show (31 : Int32) = nI 31 from rfl, zs_one (by omega), zq_sub (Nat.pow_pos (by omega))]
  congr 2
  apply msk_eq
  intro c
  rw [Nat.testBit_two_pow_sub_one]
  simp
/-! who is bound: endedAhead, bind -/
/-- a ended so far ahead of c's begin -/
def gapped (K : Ca) (tim : Nat → Bool) (gap : Int) (a c : Nat) : Bool := tim a && decide (gap < (cb K c : Int) - (ce K a).toInt)
def sysK (K : Ca) (kd : Nat → Nat) (nt : Nat) (inn mst str tim : Nat → Bool) (gap : Int) : Sy := (cm K, inn, cq K, gapped K tim gap, str, mst, ct K, cac K, cw K, cv K, kd, nt)
theorem endAt_ti {x : Int32} {b : Nat} (h : endAt x b) (h2 : x ≠ -2) : 0 ≤ x.toInt ∧ x.toInt ≤ 999 ∧ (b : Int) ≤ x.toInt := by
  rcases h with h | ⟨e, rfl, h3, h4⟩
  · exact absurd h h2
  · rw [nI_toInt (by omega)]; omega
theorem X4_endedAhead6 {K : Ca} {nq nt : Nat} {kd : Nat → Nat} (hK : okC nq nt kd K) {tim : Nat → Bool} {X c : Nat} {gap : Int32} {f4 f5 : Nat → Int32} (hX : X = msk tim (cm K)) (hg : 0 ≤ gap.toInt)
    (htim : ∀ a, a < cm K → tim a = true → ce K a ≠ -2) (hc : c < cm K) (h4 : f4 c = nI (cb K c)) (h5 : ∀ a, a < cm K → f5 a = ce K a) : ∀ (j kf i : Nat), j < kf → i + j = cm K →
    F_X4_endedAhead_b6 (nI (cm K)) (nI X) f4 f5 (nI c) gap kf (nI (msk (fun a => gapped K tim gap.toInt a c) i)) (nI i) = some (nI (msk (fun a => gapped K tim gap.toInt a c) (cm K)))
  | 0, kf, i, hj, hi => by
    obtain ⟨q, rfl⟩ : ∃ q, kf = q + 1 := ⟨kf - 1, by omega⟩
    have : i = cm K := by omega
    subst this
    have := hK.1
    rw [F_X4_endedAhead_b6]
    simp (disch := omega) only [zl_0, zl_1, zl_2, zl_3, zl_4, zl_5, zl_6, zl_7, zl_8, zl_9, zl_10, zl_12, zl_14, zl_15, zl_16, zl_17, zl_18, zl_20, zl_24, zl_31, zl_32, zl_44, zl_48, zl_57, zl_59, zl_63, zl_64, zl_70, zl_74, zl_75, zl_97, zl_99, zl_100, zl_122, zl_140, zl_141, zl_142, zl_255, zl_900, zl_999, zl_1000, zl_1998, zl_6000, zl_6001, zl_16383, zl_16384, zl_65536, zl_65537, zq_add, zq_mul, zq_sub, zd_lt, zd_le, zd_eq, zd_cl, zm_lt, zm_le, zm_gt, zm_ge, zm_eq, zm_qe, zm_mm, zt_lt, zf_lt, zt_le, zf_le, zt_eq, zf_eq, z_upd, z_updL, z_b1, z_b2, z_b3, z_b4, z_b5, z_b6, z_b7, z_b8, z_b9, z_b10, z_b11, z_b12, z_b13, z_b14, z_b15, z_b16, z_b17, z_b18, z_b19, z_b20, ↓reduceIte, or_false, false_or, or_self, true_or, or_true, and_true, true_and, and_false, false_and, not_true_eq_false, not_false_eq_true, ite_self, reduceCtorEq, Nat.reduceAdd, Nat.reduceMul, Nat.reduceSub, Nat.reducePow, Nat.reduceDiv, Nat.reduceMod, Nat.reduceLT, Nat.reduceLeDiff, Nat.reduceEqDiff, Nat.add_zero, Nat.zero_add, Nat.mul_one, Nat.one_mul, Nat.mul_zero, Nat.zero_mul, Nat.sub_zero, Nat.not_lt_zero, Nat.zero_le]
  | j + 1, kf, i, hj, hi => by
    obtain ⟨q, rfl⟩ : ∃ q, kf = q + 1 := ⟨kf - 1, by omega⟩
    have hm := hK.1
    have hi' : i < cm K := by omega
    have hX2 : X < 2 ^ 20 := by rw [hX]; exact msk_lt20 _ hm
    have ht : X.testBit i = tim i := by rw [hX, msk_bit]; simp [hi']
    rw [F_X4_endedAhead_b6, X0_beginOf (by omega), X0_endOf (by omega), h5 i hi', h4, ← X4_endedAhead6 hK hX hg htim hc h4 h5 j q (i + 1) (by omega) (by omega)]
    unfold F_X4_endedAhead_b53
    have e31 : (31 : Int32) = nI 31 := rfl
    by_cases hti : tim i = true
    · have he := endAt_ti (hK.2 i hi').2.2.2.2.2.1 (htim i hi' hti)
      have hbc := (hK.2 c hc).2.2.2.2.1
      have hs : (nI (cb K c) - ce K i).toInt = (cb K c : Int) - (ce K i).toInt := by
        rw [fb_subI (by rw [nI_toInt (by omega)]; omega) (by rw [nI_toInt (by omega)]; omega), nI_toInt (by omega)]
      have hle : (nI (cb K c) - ce K i ≤ gap) = ¬ (gap.toInt < (cb K c : Int) - (ce K i).toInt) := by
        rw [Int32.le_iff_toInt_le, hs]; exact propext ⟨fun h => by omega, fun h => by omega⟩
      by_cases hgp : gap.toInt < (cb K c : Int) - (ce K i).toInt
      · simp (disch := omega) only [tbit, ht, hti, hle, hgp, msk, gapped, decide_true, Bool.and_self, zs_one, zq_or, zl_0, zl_1, zl_2, zl_3, zl_4, zl_5, zl_6, zl_7, zl_8, zl_9, zl_10, zl_12, zl_14, zl_15, zl_16, zl_17, zl_18, zl_20, zl_24, zl_31, zl_32, zl_44, zl_48, zl_57, zl_59, zl_63, zl_64, zl_70, zl_74, zl_75, zl_97, zl_99, zl_100, zl_122, zl_140, zl_141, zl_142, zl_255, zl_900, zl_999, zl_1000, zl_1998, zl_6000, zl_6001, zl_16383, zl_16384, zl_65536, zl_65537, zq_add, zq_mul, zq_sub, zd_lt, zd_le, zd_eq, zd_cl, zm_lt, zm_le, zm_gt, zm_ge, zm_eq, zm_qe, zm_mm, zt_lt, zf_lt, zt_le, zf_le, zt_eq, zf_eq, z_upd, z_updL, z_b1, z_b2, z_b3, z_b4, z_b5, z_b6, z_b7, z_b8, z_b9, z_b10, z_b11, z_b12, z_b13, z_b14, z_b15, z_b16, z_b17, z_b18, z_b19, z_b20, ↓reduceIte, or_false, false_or, or_self, true_or, or_true, and_true, true_and, and_false, false_and, not_true_eq_false, not_false_eq_true, ite_self, reduceCtorEq, Nat.reduceAdd, Nat.reduceMul, Nat.reduceSub, Nat.reducePow, Nat.reduceDiv, Nat.reduceMod, Nat.reduceLT, Nat.reduceLeDiff, Nat.reduceEqDiff, Nat.add_zero, Nat.zero_add, Nat.mul_one, Nat.one_mul, Nat.mul_zero, Nat.zero_mul, Nat.sub_zero, Nat.not_lt_zero, Nat.zero_le]
      · simp (disch := omega) only [tbit, ht, hti, hle, hgp, msk, gapped, decide_false, Bool.and_false, Bool.false_eq_true, zl_0, zl_1, zl_2, zl_3, zl_4, zl_5, zl_6, zl_7, zl_8, zl_9, zl_10, zl_12, zl_14, zl_15, zl_16, zl_17, zl_18, zl_20, zl_24, zl_31, zl_32, zl_44, zl_48, zl_57, zl_59, zl_63, zl_64, zl_70, zl_74, zl_75, zl_97, zl_99, zl_100, zl_122, zl_140, zl_141, zl_142, zl_255, zl_900, zl_999, zl_1000, zl_1998, zl_6000, zl_6001, zl_16383, zl_16384, zl_65536, zl_65537, zq_add, zq_mul, zq_sub, zd_lt, zd_le, zd_eq, zd_cl, zm_lt, zm_le, zm_gt, zm_ge, zm_eq, zm_qe, zm_mm, zt_lt, zf_lt, zt_le, zf_le, zt_eq, zf_eq, z_upd, z_updL, z_b1, z_b2, z_b3, z_b4, z_b5, z_b6, z_b7, z_b8, z_b9, z_b10, z_b11, z_b12, z_b13, z_b14, z_b15, z_b16, z_b17, z_b18, z_b19, z_b20, ↓reduceIte, or_false, false_or, or_self, true_or, or_true, and_true, true_and, and_false, false_and, not_true_eq_false, not_false_eq_true, ite_self, reduceCtorEq, Nat.reduceAdd, Nat.reduceMul, Nat.reduceSub, Nat.reducePow, Nat.reduceDiv, Nat.reduceMod, Nat.reduceLT, Nat.reduceLeDiff, Nat.reduceEqDiff, Nat.add_zero, Nat.zero_add, Nat.mul_one, Nat.one_mul, Nat.mul_zero, Nat.zero_mul, Nat.sub_zero, Nat.not_lt_zero, Nat.zero_le]
    · simp (disch := omega) only [tbit, ht, hti, msk, gapped, Bool.false_and, Bool.false_eq_true, zl_0, zl_1, zl_2, zl_3, zl_4, zl_5, zl_6, zl_7, zl_8, zl_9, zl_10, zl_12, zl_14, zl_15, zl_16, zl_17, zl_18, zl_20, zl_24, zl_31, zl_32, zl_44, zl_48, zl_57, zl_59, zl_63, zl_64, zl_70, zl_74, zl_75, zl_97, zl_99, zl_100, zl_122, zl_140, zl_141, zl_142, zl_255, zl_900, zl_999, zl_1000, zl_1998, zl_6000, zl_6001, zl_16383, zl_16384, zl_65536, zl_65537, zq_add, zq_mul, zq_sub, zd_lt, zd_le, zd_eq, zd_cl, zm_lt, zm_le, zm_gt, zm_ge, zm_eq, zm_qe, zm_mm, zt_lt, zf_lt, zt_le, zf_le, zt_eq, zf_eq, z_upd, z_updL, z_b1, z_b2, z_b3, z_b4, z_b5, z_b6, z_b7, z_b8, z_b9, z_b10, z_b11, z_b12, z_b13, z_b14, z_b15, z_b16, z_b17, z_b18, z_b19, z_b20, ↓reduceIte, or_false, false_or, or_self, true_or, or_true, and_true, true_and, and_false, false_and, not_true_eq_false, not_false_eq_true, ite_self, reduceCtorEq, Nat.reduceAdd, Nat.reduceMul, Nat.reduceSub, Nat.reducePow, Nat.reduceDiv, Nat.reduceMod, Nat.reduceLT, Nat.reduceLeDiff, Nat.reduceEqDiff, Nat.add_zero, Nat.zero_add, Nat.mul_one, Nat.one_mul, Nat.mul_zero, Nat.zero_mul, Nat.sub_zero, Nat.not_lt_zero, Nat.zero_le]
theorem gapOf (kind late : Nat) (h : late ≤ 99) : F_X4_gapOf (nI kind) (nI late) = some (if nI kind = 1 then 1000 else if nI kind = 2 then nI late else 0) := by
  unfold F_X4_gapOf
  split
  · rfl
  · split <;> rfl
