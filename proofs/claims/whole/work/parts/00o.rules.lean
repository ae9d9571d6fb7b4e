/-! the class's rules: the next call of a cashier -/
def cn (o : Option Nat) : Int32 := match o with
  | none => -1
  | some c => nI c
def ROW (y : Sy) (own ahd : Nat → Int32) : Prop :=
  (∀ k, k < 4 → ∃ O, own k = nI O ∧ O < 2 ^ 20 ∧ ∀ c, O.testBit c = (decide (c < ym y) && (yinn y c && ycsh y c == k))) ∧
  (∀ c, c < ym y → yinn y c = true → ∃ A, ahd c = nI A ∧ A < 2 ^ 20 ∧ ∀ a, A.testBit a = true ↔ (a < ym y ∧ yinn y a = true ∧ ((ycsh y a = ycsh y c ∧ a < c) ∨ yblk y a c = true)))
theorem bt_nI {n i : Nat} (hi : i < 32) : bt (nI n) i = n.testBit i := by
  unfold bt
  show (BitVec.ofNat 32 n).getLsbD i = n.testBit i
  rw [BitVec.getLsbD_ofNat]
  simp [hi]
theorem bt_not {x : Int32} {i : Nat} (hi : i < 32) : bt (x ^^^ (-1 : Int32)) i = !bt x i := by
  rw [b_xor, b_m1 i hi, Bool.xor_true]
theorem nz_bit {L : Nat} (h : L ≠ 0) : ∃ i, L.testBit i = true := Nat.exists_testBit_of_ne_zero h
theorem bit_lt {L i n : Nat} (h : L < 2 ^ n) (hb : L.testBit i = true) : i < n := by
  rcases Nat.lt_or_ge i n with g | g
  · exact g
  · have : L < 2 ^ i := Nat.lt_of_lt_of_le h (Nat.pow_le_pow_right (by omega) g)
    rw [Nat.testBit_lt_two_pow this] at hb
    cases hb
theorem zs_neg {L : Nat} (h0 : 0 < L) (h : L < 2 ^ 20) : -(nI L) = nI (L - 1) ^^^ (-1 : Int32) := by
  have e : nI (L - 1) ^^^ (-1 : Int32) = ~~~ nI (L - 1) := Int32.xor_neg_one
  rw [e]
  apply Int32.toBitVec_inj.1
  show -(BitVec.ofNat 32 L) = ~~~ (BitVec.ofNat 32 (L - 1))
  apply BitVec.eq_of_toNat_eq
  rw [BitVec.toNat_neg, BitVec.toNat_not, BitVec.toNat_ofNat, BitVec.toNat_ofNat, Nat.mod_eq_of_lt (by omega : L < 2 ^ 32), Nat.mod_eq_of_lt (by omega : L - 1 < 2 ^ 32)]
  omega
theorem low_bit {L j : Nat} (hL : L < 2 ^ 20) (h1 : L.testBit j = true) (h2 : ∀ i, i < j → L.testBit i = false) : nI L &&& -(nI L) = nI (2 ^ j) := by
  have h0 : 0 < L := by
    rcases Nat.eq_zero_or_pos L with g | g
    · rw [g] at h1; simp at h1
    · exact g
  rw [zs_neg h0 hL]
  have hr : L % 2 ^ (j + 1) = 2 ^ j := by
    apply Nat.eq_of_testBit_eq
    intro i
    rw [Nat.testBit_mod_two_pow, Nat.testBit_two_pow]
    rcases Nat.lt_trichotomy i j with g | g | g
    · rw [h2 i g]; simp; omega
    · subst g; simp [h1]
    · have : ¬ i < j + 1 := by omega
      simp [this]; omega
  have hd := Nat.div_add_mod L (2 ^ (j + 1))
  rw [hr] at hd
  have hp : 0 < 2 ^ j := Nat.pow_pos (by omega)
  have hp2 : 2 ^ (j + 1) = 2 ^ j * 2 := Nat.pow_succ ..
  have e1 : L - 1 = 2 ^ (j + 1) * (L / 2 ^ (j + 1)) + (2 ^ j - 1) := by omega
  apply b_ext
  intro i hi
  rw [b_and, bt_nI hi, bt_not hi, bt_nI hi, bt_nI hi, Nat.testBit_two_pow, e1, Nat.testBit_two_pow_mul_add _ (by omega), Nat.testBit_two_pow_sub_one]
  rcases Nat.lt_trichotomy i j with g | g | g
  · rw [h2 i g]; simp; omega
  · subst g; simp [h1]
  · have e2 : L.testBit i = (L / 2 ^ (j + 1)).testBit (i - (j + 1)) := by
      rw [Nat.testBit_div_two_pow]
      congr 1
      omega
    rw [if_neg (by omega), e2]
    simp
    omega
theorem J6_pow : ∀ j, j < 20 → F_J6_bitCount_0f7a4 (nI (2 ^ j) - (1 : Int32)) = some (nI j) := by decide +kernel
theorem zs_andn {O D : Nat} (hO : O < 2 ^ 20) : ∃ L, nI O &&& (nI D ^^^ (-1 : Int32)) = nI L ∧ L < 2 ^ 20 ∧ ∀ i, L.testBit i = (O.testBit i && !D.testBit i) := by
  have hb : ∀ i, (O ^^^ (O &&& D)).testBit i = (O.testBit i && !D.testBit i) := by
    intro i
    rw [Nat.testBit_xor, Nat.testBit_and]
    cases O.testBit i <;> cases D.testBit i <;> rfl
  refine ⟨O ^^^ (O &&& D), ?_, ?_, hb⟩
  · apply b_ext
    intro i hi
    rw [b_and, bt_nI hi, bt_not hi, bt_nI hi, bt_nI hi, hb]
  · apply Nat.lt_pow_two_of_testBit
    intro i hi
    rw [hb]
    have : O.testBit i = false := Nat.testBit_lt_two_pow (Nat.lt_of_lt_of_le hO (Nat.pow_le_pow_right (by omega) hi))
    rw [this]; rfl
theorem zs_zero {L : Nat} (h : L < 2 ^ 20) : (nI L = 0) = (L = 0) := by
  rw [zl_0, zd_eq (by omega) (by omega)]
theorem X4_nextOf {y : Sy} {own ahd : Nat → Int32} {k D : Nat} (hw : WF y) (hR : ROW y own ahd) (hk : k < 4) :
    F_X4_nextOf own ahd (nI k) (nI D) = some (cn (nx y k D)) := by
  obtain ⟨O, hO, hO2, hO3⟩ := hR.1 k hk
  obtain ⟨L, hL, hL2, hL3⟩ := zs_andn (D := D) hO2
  unfold F_X4_nextOf
  simp (disch := omega) only [zl_0, zl_1, zl_2, zl_3, zl_4, zl_5, zl_6, zl_7, zl_8, zl_9, zl_10, zl_12, zl_14, zl_15, zl_16, zl_17, zl_18, zl_20, zl_24, zl_31, zl_32, zl_44, zl_48, zl_57, zl_59, zl_63, zl_64, zl_70, zl_74, zl_75, zl_97, zl_99, zl_100, zl_122, zl_140, zl_141, zl_142, zl_255, zl_900, zl_999, zl_1000, zl_1998, zl_6000, zl_6001, zl_16383, zl_16384, zl_65536, zl_65537, zq_add, zq_mul, zq_sub, zd_lt, zd_le, zd_eq, zd_cl, zm_lt, zm_le, zm_gt, zm_ge, zm_eq, zm_qe, zm_mm, zt_lt, zf_lt, zt_le, zf_le, zt_eq, zf_eq, z_upd, z_updL, z_b1, z_b2, z_b3, z_b4, z_b5, z_b6, z_b7, z_b8, z_b9, z_b10, z_b11, z_b12, z_b13, z_b14, z_b15, z_b16, z_b17, z_b18, z_b19, z_b20, ↓reduceIte, or_false, false_or, or_self, true_or, or_true, and_true, true_and, and_false, false_and, not_true_eq_false, not_false_eq_true, ite_self, reduceCtorEq, Nat.reduceAdd, Nat.reduceMul, Nat.reduceSub, Nat.reducePow, Nat.reduceDiv, Nat.reduceMod, Nat.reduceLT, Nat.reduceLeDiff, Nat.reduceEqDiff, Nat.add_zero, Nat.zero_add, Nat.mul_one, Nat.one_mul, Nat.mul_zero, Nat.zero_mul, Nat.sub_zero, Nat.not_lt_zero, Nat.zero_le]
  rw [hO]
  have hm1 : (-nI 1 : Int32) = -1 := rfl
  rw [hm1, hL]
  have hfy : ∀ c, L.testBit c = true ↔ (c < ym y ∧ yinn y c = true ∧ ycsh y c = k ∧ D.testBit c = false) := by
    intro c
    rw [hL3, hO3]
    simp [and_assoc]
  by_cases h0 : L = 0
  · rw [if_pos (by rw [h0])]
    have e : nx y k D = none := by
      rcases e : nx y k D with _ | c
      · rfl
      · have q := nx_some.mp e
        have := (hfy c).mpr ⟨q.1, q.2.1, q.2.2.1, q.2.2.2.1⟩
        rw [h0] at this
        simp at this
    rw [e]
    unfold F_X4_nextOf_b39
    simp (disch := omega) only [zl_0, zl_1, zl_2, zl_3, zl_4, zl_5, zl_6, zl_7, zl_8, zl_9, zl_10, zl_12, zl_14, zl_15, zl_16, zl_17, zl_18, zl_20, zl_24, zl_31, zl_32, zl_44, zl_48, zl_57, zl_59, zl_63, zl_64, zl_70, zl_74, zl_75, zl_97, zl_99, zl_100, zl_122, zl_140, zl_141, zl_142, zl_255, zl_900, zl_999, zl_1000, zl_1998, zl_6000, zl_6001, zl_16383, zl_16384, zl_65536, zl_65537, zq_add, zq_mul, zq_sub, zd_lt, zd_le, zd_eq, zd_cl, zm_lt, zm_le, zm_gt, zm_ge, zm_eq, zm_qe, zm_mm, zt_lt, zf_lt, zt_le, zf_le, zt_eq, zf_eq, z_upd, z_updL, z_b1, z_b2, z_b3, z_b4, z_b5, z_b6, z_b7, z_b8, z_b9, z_b10, z_b11, z_b12, z_b13, z_b14, z_b15, z_b16, z_b17, z_b18, z_b19, z_b20, ↓reduceIte, or_false, false_or, or_self, true_or, or_true, and_true, true_and, and_false, false_and, not_true_eq_false, not_false_eq_true, ite_self, reduceCtorEq, Nat.reduceAdd, Nat.reduceMul, Nat.reduceSub, Nat.reducePow, Nat.reduceDiv, Nat.reduceMod, Nat.reduceLT, Nat.reduceLeDiff, Nat.reduceEqDiff, Nat.add_zero, Nat.zero_add, Nat.mul_one, Nat.one_mul, Nat.mul_zero, Nat.zero_mul, Nat.sub_zero, Nat.not_lt_zero, Nat.zero_le]
    rfl
  · rw [if_neg (by rw [zd_eq (by omega) (by omega)]; exact h0)]
    obtain ⟨i0, hi0⟩ := nz_bit h0
    obtain ⟨j, hj, hj1, hj2⟩ := fb_first (p := fun i => L.testBit i = true) (n := 20) ⟨i0, bit_lt hL2 hi0, hi0⟩
    have hj3 : ∀ i, i < j → L.testBit i = false := fun i hi => by simpa using hj2 i hi
    have hc := (hfy j).mp hj1
    rw [low_bit hL2 hj1 hj3, ← zl_1, J6_pow j hj, z_b1]
    unfold F_X4_nextOf_b39
    obtain ⟨A, hA, hA2, hA3⟩ := hR.2 j hc.1 hc.2.1
    obtain ⟨M, hM, hM2, hM3⟩ := zs_andn (D := D) hA2
    simp (disch := omega) only [zl_0, zl_1, zl_2, zl_3, zl_4, zl_5, zl_6, zl_7, zl_8, zl_9, zl_10, zl_12, zl_14, zl_15, zl_16, zl_17, zl_18, zl_20, zl_24, zl_31, zl_32, zl_44, zl_48, zl_57, zl_59, zl_63, zl_64, zl_70, zl_74, zl_75, zl_97, zl_99, zl_100, zl_122, zl_140, zl_141, zl_142, zl_255, zl_900, zl_999, zl_1000, zl_1998, zl_6000, zl_6001, zl_16383, zl_16384, zl_65536, zl_65537, zq_add, zq_mul, zq_sub, zd_lt, zd_le, zd_eq, zd_cl, zm_lt, zm_le, zm_gt, zm_ge, zm_eq, zm_qe, zm_mm, zt_lt, zf_lt, zt_le, zf_le, zt_eq, zf_eq, z_upd, z_updL, z_b1, z_b2, z_b3, z_b4, z_b5, z_b6, z_b7, z_b8, z_b9, z_b10, z_b11, z_b12, z_b13, z_b14, z_b15, z_b16, z_b17, z_b18, z_b19, z_b20, ↓reduceIte, or_false, false_or, or_self, true_or, or_true, and_true, true_and, and_false, false_and, not_true_eq_false, not_false_eq_true, ite_self, reduceCtorEq, Nat.reduceAdd, Nat.reduceMul, Nat.reduceSub, Nat.reducePow, Nat.reduceDiv, Nat.reduceMod, Nat.reduceLT, Nat.reduceLeDiff, Nat.reduceEqDiff, Nat.add_zero, Nat.zero_add, Nat.mul_one, Nat.one_mul, Nat.mul_zero, Nat.zero_mul, Nat.sub_zero, Nat.not_lt_zero, Nat.zero_le]
    rw [hA, hm1, hM]
    by_cases hz : M = 0
    · rw [if_pos (by rw [hz])]
      have e : nx y k D = some j := by
        rw [nx_some]
        refine ⟨hc.1, hc.2.1, hc.2.2.1, hc.2.2.2, ?_, ?_⟩
        · intro b hb hi hcs
          have := hj3 b hb
          rcases hx : D.testBit b
          · exact absurd ((hfy b).mpr ⟨by omega, hi, hcs, hx⟩) (by simp [this])
          · rfl
        · intro a ha hi hb
          have := hM3 a
          rw [hz, Nat.zero_testBit, (hA3 a).mpr ⟨ha, hi, Or.inr hb⟩] at this
          simpa using this.symm
      rw [e]; rfl
    · rw [if_neg (by rw [zd_eq (by omega) (by omega)]; exact hz)]
      obtain ⟨a, ha⟩ := nz_bit hz
      rw [hM3] at ha
      simp only [Bool.and_eq_true, Bool.not_eq_true'] at ha
      have hAa := (hA3 a).mp ha.1
      have e : nx y k D = none := by
        rcases e : nx y k D with _ | c
        · rfl
        · exfalso
          have q := nx_some.mp e
          have hcj : c = j := by
            rcases Nat.lt_trichotomy c j with g | g | g
            · have := hj3 c g
              rw [(hfy c).mpr ⟨q.1, q.2.1, q.2.2.1, q.2.2.2.1⟩] at this
              cases this
            · exact g
            · have := q.2.2.2.2.1 j g hc.2.1 hc.2.2.1
              rw [hc.2.2.2] at this
              cases this
          subst hcj
          rcases hAa.2.2 with g | g
          · have := q.2.2.2.2.1 a g.2 hAa.2.1 (g.1.trans hc.2.2.1)
            rw [ha.2] at this; cases this
          · have := q.2.2.2.2.2 a hAa.1 hAa.2.1 g
            rw [ha.2] at this; cases this
      rw [e]
      rfl
