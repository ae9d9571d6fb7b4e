theorem J7_fill5 {n : Nat} (hn : n < 30000) {f0 : Nat → Int32} {v : Int32} : ∀ (j kf i : Nat), j < kf → i + j = n →
    F_J7_fill_53178_b5 n v (nI n) kf (fun k => if k < i then v else f0 k) (nI i) = some (fun k => if k < n then v else f0 k)
  | 0, kf, i, hj, hi => by
    obtain ⟨q, rfl⟩ : ∃ q, kf = q + 1 := ⟨kf - 1, by omega⟩
    have : i = n := by omega
    subst this
    rw [F_J7_fill_53178_b5]
    simp (disch := omega) only [zl_0, zl_1, zl_2, zl_3, zl_4, zl_5, zl_6, zl_7, zl_8, zl_9, zl_10, zl_12, zl_14, zl_15, zl_16, zl_17, zl_18, zl_20, zl_24, zl_31, zl_32, zl_44, zl_48, zl_57, zl_59, zl_63, zl_64, zl_70, zl_74, zl_75, zl_97, zl_99, zl_100, zl_122, zl_140, zl_141, zl_142, zl_255, zl_900, zl_999, zl_1000, zl_1998, zl_6000, zl_6001, zl_16383, zl_16384, zl_65536, zl_65537, zq_add, zq_mul, zq_sub, zd_lt, zd_le, zd_eq, zd_cl, zm_lt, zm_le, zm_gt, zm_ge, zm_eq, zm_qe, zm_mm, zt_lt, zf_lt, zt_le, zf_le, zt_eq, zf_eq, z_upd, z_updL, z_b1, z_b2, z_b3, z_b4, z_b5, z_b6, z_b7, z_b8, z_b9, z_b10, z_b11, z_b12, z_b13, z_b14, z_b15, z_b16, z_b17, z_b18, z_b19, z_b20, ↓reduceIte, or_false, false_or, or_self, true_or, or_true, and_true, true_and, and_false, false_and, not_true_eq_false, not_false_eq_true, ite_self, reduceCtorEq, Nat.reduceAdd, Nat.reduceMul, Nat.reduceSub, Nat.reducePow, Nat.reduceDiv, Nat.reduceMod, Nat.reduceLT, Nat.reduceLeDiff, Nat.reduceEqDiff, Nat.add_zero, Nat.zero_add, Nat.mul_one, Nat.one_mul, Nat.mul_zero, Nat.zero_mul, Nat.sub_zero, Nat.not_lt_zero, Nat.zero_le]
  | j + 1, kf, i, hj, hi => by
    obtain ⟨q, rfl⟩ : ∃ q, kf = q + 1 := ⟨kf - 1, by omega⟩
    rw [F_J7_fill_53178_b5, ← J7_fill5 hn (f0 := f0) (v := v) j q (i + 1) (by omega) (by omega)]
    simp (disch := omega) only [zl_0, zl_1, zl_2, zl_3, zl_4, zl_5, zl_6, zl_7, zl_8, zl_9, zl_10, zl_12, zl_14, zl_15, zl_16, zl_17, zl_18, zl_20, zl_24, zl_31, zl_32, zl_44, zl_48, zl_57, zl_59, zl_63, zl_64, zl_70, zl_74, zl_75, zl_97, zl_99, zl_100, zl_122, zl_140, zl_141, zl_142, zl_255, zl_900, zl_999, zl_1000, zl_1998, zl_6000, zl_6001, zl_16383, zl_16384, zl_65536, zl_65537, zq_add, zq_mul, zq_sub, zd_lt, zd_le, zd_eq, zd_cl, zm_lt, zm_le, zm_gt, zm_ge, zm_eq, zm_qe, zm_mm, zt_lt, zf_lt, zt_le, zf_le, zt_eq, zf_eq, z_upd, z_updL, z_b1, z_b2, z_b3, z_b4, z_b5, z_b6, z_b7, z_b8, z_b9, z_b10, z_b11, z_b12, z_b13, z_b14, z_b15, z_b16, z_b17, z_b18, z_b19, z_b20, ↓reduceIte, or_false, false_or, or_self, true_or, or_true, and_true, true_and, and_false, false_and, not_true_eq_false, not_false_eq_true, ite_self, reduceCtorEq, Nat.reduceAdd, Nat.reduceMul, Nat.reduceSub, Nat.reducePow, Nat.reduceDiv, Nat.reduceMod, Nat.reduceLT, Nat.reduceLeDiff, Nat.reduceEqDiff, Nat.add_zero, Nat.zero_add, Nat.mul_one, Nat.one_mul, Nat.mul_zero, Nat.zero_mul, Nat.sub_zero, Nat.not_lt_zero, Nat.zero_le]
    have e : upd (fun k => if k < i then v else f0 k) i v = (fun k => if k < i + 1 then v else f0 k) := by
      funext k
      rw [z_upd]
      rcases Nat.lt_trichotomy k i with g | g | g
      · rw [if_neg (by omega), if_pos g, if_pos (by omega)]
      · rw [if_pos g, if_pos (by omega)]
      · rw [if_neg (by omega), if_neg (by omega), if_neg (by omega)]
    rw [e]
theorem J7_fill {fu n : Nat} (hfu : n < fu) (hn : n < 30000) {f0 : Nat → Int32} {v : Int32} : F_J7_fill_53178 fu n f0 v = some (fun k => if k < n then v else f0 k) := by
  unfold F_J7_fill_53178
  have q := J7_fill5 hn (f0 := f0) (v := v) n fu 0 hfu (by omega)
  have e : (fun k => if k < 0 then v else f0 k) = f0 := by funext k; rw [if_neg (by omega)]
  rw [e] at q
  exact q
theorem J7_fillL6 {n : Nat} (hn : n < 30000) {f0 : Nat → Int64} {v : Int64} : ∀ (j kf i : Nat), j < kf → i + j = n →
    F_J7_fill_d0a16_b6 n v (nI n) kf (fun k => if k < i then v else f0 k) (nI i) = some (fun k => if k < n then v else f0 k)
  | 0, kf, i, hj, hi => by
    obtain ⟨q, rfl⟩ : ∃ q, kf = q + 1 := ⟨kf - 1, by omega⟩
    have : i = n := by omega
    subst this
    rw [F_J7_fill_d0a16_b6]
    simp (disch := omega) only [zl_0, zl_1, zl_2, zl_3, zl_4, zl_5, zl_6, zl_7, zl_8, zl_9, zl_10, zl_12, zl_14, zl_15, zl_16, zl_17, zl_18, zl_20, zl_24, zl_31, zl_32, zl_44, zl_48, zl_57, zl_59, zl_63, zl_64, zl_70, zl_74, zl_75, zl_97, zl_99, zl_100, zl_122, zl_140, zl_141, zl_142, zl_255, zl_900, zl_999, zl_1000, zl_1998, zl_6000, zl_6001, zl_16383, zl_16384, zl_65536, zl_65537, zq_add, zq_mul, zq_sub, zd_lt, zd_le, zd_eq, zd_cl, zm_lt, zm_le, zm_gt, zm_ge, zm_eq, zm_qe, zm_mm, zt_lt, zf_lt, zt_le, zf_le, zt_eq, zf_eq, z_upd, z_updL, z_b1, z_b2, z_b3, z_b4, z_b5, z_b6, z_b7, z_b8, z_b9, z_b10, z_b11, z_b12, z_b13, z_b14, z_b15, z_b16, z_b17, z_b18, z_b19, z_b20, ↓reduceIte, or_false, false_or, or_self, true_or, or_true, and_true, true_and, and_false, false_and, not_true_eq_false, not_false_eq_true, ite_self, reduceCtorEq, Nat.reduceAdd, Nat.reduceMul, Nat.reduceSub, Nat.reducePow, Nat.reduceDiv, Nat.reduceMod, Nat.reduceLT, Nat.reduceLeDiff, Nat.reduceEqDiff, Nat.add_zero, Nat.zero_add, Nat.mul_one, Nat.one_mul, Nat.mul_zero, Nat.zero_mul, Nat.sub_zero, Nat.not_lt_zero, Nat.zero_le]
  | j + 1, kf, i, hj, hi => by
    obtain ⟨q, rfl⟩ : ∃ q, kf = q + 1 := ⟨kf - 1, by omega⟩
    rw [F_J7_fill_d0a16_b6, ← J7_fillL6 hn (f0 := f0) (v := v) j q (i + 1) (by omega) (by omega)]
    simp (disch := omega) only [zl_0, zl_1, zl_2, zl_3, zl_4, zl_5, zl_6, zl_7, zl_8, zl_9, zl_10, zl_12, zl_14, zl_15, zl_16, zl_17, zl_18, zl_20, zl_24, zl_31, zl_32, zl_44, zl_48, zl_57, zl_59, zl_63, zl_64, zl_70, zl_74, zl_75, zl_97, zl_99, zl_100, zl_122, zl_140, zl_141, zl_142, zl_255, zl_900, zl_999, zl_1000, zl_1998, zl_6000, zl_6001, zl_16383, zl_16384, zl_65536, zl_65537, zq_add, zq_mul, zq_sub, zd_lt, zd_le, zd_eq, zd_cl, zm_lt, zm_le, zm_gt, zm_ge, zm_eq, zm_qe, zm_mm, zt_lt, zf_lt, zt_le, zf_le, zt_eq, zf_eq, z_upd, z_updL, z_b1, z_b2, z_b3, z_b4, z_b5, z_b6, z_b7, z_b8, z_b9, z_b10, z_b11, z_b12, z_b13, z_b14, z_b15, z_b16, z_b17, z_b18, z_b19, z_b20, ↓reduceIte, or_false, false_or, or_self, true_or, or_true, and_true, true_and, and_false, false_and, not_true_eq_false, not_false_eq_true, ite_self, reduceCtorEq, Nat.reduceAdd, Nat.reduceMul, Nat.reduceSub, Nat.reducePow, Nat.reduceDiv, Nat.reduceMod, Nat.reduceLT, Nat.reduceLeDiff, Nat.reduceEqDiff, Nat.add_zero, Nat.zero_add, Nat.mul_one, Nat.one_mul, Nat.mul_zero, Nat.zero_mul, Nat.sub_zero, Nat.not_lt_zero, Nat.zero_le]
    have e : vp_updL (fun k => if k < i then v else f0 k) i v = (fun k => if k < i + 1 then v else f0 k) := by
      funext k
      rw [z_updL]
      rcases Nat.lt_trichotomy k i with g | g | g
      · rw [if_neg (by omega), if_pos g, if_pos (by omega)]
      · rw [if_pos g, if_pos (by omega)]
      · rw [if_neg (by omega), if_neg (by omega), if_neg (by omega)]
    rw [e]
theorem J7_fillL {fu n : Nat} (hfu : n < fu) (hn : n < 30000) {f0 : Nat → Int64} {v : Int64} : F_J7_fill_d0a16 fu n f0 v = some (fun k => if k < n then v else f0 k) := by
  unfold F_J7_fill_d0a16
  have q := J7_fillL6 hn (f0 := f0) (v := v) n fu 0 hfu (by omega)
  have e : (fun k => if k < 0 then v else f0 k) = f0 := by funext k; rw [if_neg (by omega)]
  rw [e] at q
  exact q
/-- what bind has laid for the calls below i -/
def BI (K : Ca) (inn tim : Nat → Bool) (gap : Int) (i : Nat) (own ahd : Nat → Int32) : Prop :=
  (∀ k, k < 4 → own k = nI (msk (fun c => inn c && cq K c == k) i)) ∧
  (∀ c, c < i → inn c = true → ahd c = nI (msk (fun a => inn a && cq K a == cq K c) c ||| msk (fun a => gapped K tim gap a c) (cm K)))
theorem X4_bind10 {fu : Nat} (hfu : 20000 ≤ fu) {K : Ca} {nt : Nat} {kd : Nat → Nat} (hK : okC 4 nt kd K) {inn tim : Nat → Bool} {X Y : Nat} {gap : Int32} {f0 f4 f5 : Nat → Int32} (hX : X = msk inn (cm K)) (hY : Y = msk tim (cm K)) (hg : 0 ≤ gap.toInt)
    (htim : ∀ a, a < cm K → tim a = true → ce K a ≠ -2) (h0 : ∀ c, c < cm K → f0 c = nI (cq K c)) (h4 : ∀ c, c < cm K → f4 c = nI (cb K c)) (h5 : ∀ a, a < cm K → f5 a = ce K a) :
    ∀ (j kf i : Nat) (own ahd : Nat → Int32), j < kf → i + j = cm K → BI K inn tim gap.toInt i own ahd →
    ∃ own' ahd', F_X4_bind_b10 fu (nI X) (nI Y) (nI (cm K)) f0 f4 f5 gap kf own ahd (nI i) = some (own', ahd') ∧ BI K inn tim gap.toInt (cm K) own' ahd'
  | 0, kf, i, own, ahd, hj, hi, hB => by
    obtain ⟨q, rfl⟩ : ∃ q, kf = q + 1 := ⟨kf - 1, by omega⟩
    have : i = cm K := by omega
    subst this
    have := hK.1
    refine ⟨own, ahd, ?_, hB⟩
    rw [F_X4_bind_b10]
    simp (disch := omega) only [zl_0, zl_1, zl_2, zl_3, zl_4, zl_5, zl_6, zl_7, zl_8, zl_9, zl_10, zl_12, zl_14, zl_15, zl_16, zl_17, zl_18, zl_20, zl_24, zl_31, zl_32, zl_44, zl_48, zl_57, zl_59, zl_63, zl_64, zl_70, zl_74, zl_75, zl_97, zl_99, zl_100, zl_122, zl_140, zl_141, zl_142, zl_255, zl_900, zl_999, zl_1000, zl_1998, zl_6000, zl_6001, zl_16383, zl_16384, zl_65536, zl_65537, zq_add, zq_mul, zq_sub, zd_lt, zd_le, zd_eq, zd_cl, zm_lt, zm_le, zm_gt, zm_ge, zm_eq, zm_qe, zm_mm, zt_lt, zf_lt, zt_le, zf_le, zt_eq, zf_eq, z_upd, z_updL, z_b1, z_b2, z_b3, z_b4, z_b5, z_b6, z_b7, z_b8, z_b9, z_b10, z_b11, z_b12, z_b13, z_b14, z_b15, z_b16, z_b17, z_b18, z_b19, z_b20, ↓reduceIte, or_false, false_or, or_self, true_or, or_true, and_true, true_and, and_false, false_and, not_true_eq_false, not_false_eq_true, ite_self, reduceCtorEq, Nat.reduceAdd, Nat.reduceMul, Nat.reduceSub, Nat.reducePow, Nat.reduceDiv, Nat.reduceMod, Nat.reduceLT, Nat.reduceLeDiff, Nat.reduceEqDiff, Nat.add_zero, Nat.zero_add, Nat.mul_one, Nat.one_mul, Nat.mul_zero, Nat.zero_mul, Nat.sub_zero, Nat.not_lt_zero, Nat.zero_le]
  | j + 1, kf, i, own, ahd, hj, hi, hB => by
    obtain ⟨q, rfl⟩ : ∃ q, kf = q + 1 := ⟨kf - 1, by omega⟩
    have hm := hK.1
    have hi' : i < cm K := by omega
    have hX2 : X < 2 ^ 20 := by rw [hX]; exact msk_lt20 _ hm
    have ht : X.testBit i = inn i := by rw [hX, msk_bit]; simp [hi']
    have hq4 : cq K i < 4 := (hK.2 i hi').1
    have e31 : (31 : Int32) = nI 31 := rfl
    rw [F_X4_bind_b10, X0_cashierOf (by omega), h0 i hi']
    unfold F_X4_bind_b88
    by_cases hti : inn i = true
    · have hea : F_X4_endedAhead fu (nI (cm K)) (nI Y) f4 f5 (nI i) gap = some (nI (msk (fun a => gapped K tim gap.toInt a i) (cm K))) :=
        X4_endedAhead6 hK hY hg htim hi' (h4 i hi') h5 (cm K) fu 0 (by omega) (by omega)
      have ho := hB.1 _ hq4
      simp (disch := omega) only [tbit, ht, hti, hea, ho, zs_one, zq_or, zl_0, zl_1, zl_2, zl_3, zl_4, zl_5, zl_6, zl_7, zl_8, zl_9, zl_10, zl_12, zl_14, zl_15, zl_16, zl_17, zl_18, zl_20, zl_24, zl_31, zl_32, zl_44, zl_48, zl_57, zl_59, zl_63, zl_64, zl_70, zl_74, zl_75, zl_97, zl_99, zl_100, zl_122, zl_140, zl_141, zl_142, zl_255, zl_900, zl_999, zl_1000, zl_1998, zl_6000, zl_6001, zl_16383, zl_16384, zl_65536, zl_65537, zq_add, zq_mul, zq_sub, zd_lt, zd_le, zd_eq, zd_cl, zm_lt, zm_le, zm_gt, zm_ge, zm_eq, zm_qe, zm_mm, zt_lt, zf_lt, zt_le, zf_le, zt_eq, zf_eq, z_upd, z_updL, z_b1, z_b2, z_b3, z_b4, z_b5, z_b6, z_b7, z_b8, z_b9, z_b10, z_b11, z_b12, z_b13, z_b14, z_b15, z_b16, z_b17, z_b18, z_b19, z_b20, ↓reduceIte, or_false, false_or, or_self, true_or, or_true, and_true, true_and, and_false, false_and, not_true_eq_false, not_false_eq_true, ite_self, reduceCtorEq, Nat.reduceAdd, Nat.reduceMul, Nat.reduceSub, Nat.reducePow, Nat.reduceDiv, Nat.reduceMod, Nat.reduceLT, Nat.reduceLeDiff, Nat.reduceEqDiff, Nat.add_zero, Nat.zero_add, Nat.mul_one, Nat.one_mul, Nat.mul_zero, Nat.zero_mul, Nat.sub_zero, Nat.not_lt_zero, Nat.zero_le]
      refine X4_bind10 hfu hK hX hY hg htim h0 h4 h5 j q (i + 1) _ _ (by omega) (by omega) ⟨?_, ?_⟩
      · intro k hk
        rw [z_upd]
        by_cases c : k = cq K i
        · rw [if_pos c, c]
          congr 1
          simp [msk, hti]
        · rw [if_neg c, hB.1 k hk]
          congr 1
          have : (cq K i == k) = false := by simpa using (Ne.symm c)
          simp [msk, this]
      · intro c hc hcin
        rw [z_upd]
        by_cases g : c = i
        · rw [if_pos g, g]
        · rw [if_neg g]
          exact hB.2 c (by omega) hcin
    · simp (disch := omega) only [tbit, ht, hti, Bool.false_eq_true, zl_0, zl_1, zl_2, zl_3, zl_4, zl_5, zl_6, zl_7, zl_8, zl_9, zl_10, zl_12, zl_14, zl_15, zl_16, zl_17, zl_18, zl_20, zl_24, zl_31, zl_32, zl_44, zl_48, zl_57, zl_59, zl_63, zl_64, zl_70, zl_74, zl_75, zl_97, zl_99, zl_100, zl_122, zl_140, zl_141, zl_142, zl_255, zl_900, zl_999, zl_1000, zl_1998, zl_6000, zl_6001, zl_16383, zl_16384, zl_65536, zl_65537, zq_add, zq_mul, zq_sub, zd_lt, zd_le, zd_eq, zd_cl, zm_lt, zm_le, zm_gt, zm_ge, zm_eq, zm_qe, zm_mm, zt_lt, zf_lt, zt_le, zf_le, zt_eq, zf_eq, z_upd, z_updL, z_b1, z_b2, z_b3, z_b4, z_b5, z_b6, z_b7, z_b8, z_b9, z_b10, z_b11, z_b12, z_b13, z_b14, z_b15, z_b16, z_b17, z_b18, z_b19, z_b20, ↓reduceIte, or_false, false_or, or_self, true_or, or_true, and_true, true_and, and_false, false_and, not_true_eq_false, not_false_eq_true, ite_self, reduceCtorEq, Nat.reduceAdd, Nat.reduceMul, Nat.reduceSub, Nat.reducePow, Nat.reduceDiv, Nat.reduceMod, Nat.reduceLT, Nat.reduceLeDiff, Nat.reduceEqDiff, Nat.add_zero, Nat.zero_add, Nat.mul_one, Nat.one_mul, Nat.mul_zero, Nat.zero_mul, Nat.sub_zero, Nat.not_lt_zero, Nat.zero_le]
      refine X4_bind10 hfu hK hX hY hg htim h0 h4 h5 j q (i + 1) _ _ (by omega) (by omega) ⟨?_, ?_⟩
      · intro k hk
        rw [hB.1 k hk]
        congr 1
        simp [msk, hti]
      · intro c hc hcin
        by_cases g : c = i
        · rw [g] at hcin; exact absurd hcin hti
        · exact hB.2 c (by omega) hcin
theorem X4_bind {fu : Nat} (hfu : 20000 ≤ fu) {K : Ca} {nt : Nat} {kd : Nat → Nat} (hK : okC 4 nt kd K) {inn mst str tim : Nat → Bool} {X Y : Nat} {gap : Int32} {own ahd f0 f4 f5 : Nat → Int32} (hX : X = msk inn (cm K)) (hY : Y = msk tim (cm K)) (hg : 0 ≤ gap.toInt)
    (htim : ∀ a, a < cm K → tim a = true → ce K a ≠ -2 ∧ inn a = true) (h0 : ∀ c, c < cm K → f0 c = nI (cq K c)) (h4 : ∀ c, c < cm K → f4 c = nI (cb K c)) (h5 : ∀ a, a < cm K → f5 a = ce K a) :
    ∃ own' ahd', F_X4_bind fu (nI X) (nI Y) own (nI (cm K)) f0 f4 f5 ahd gap = some (own', ahd') ∧ ROW (sysK K kd nt inn mst str tim gap.toInt) own' ahd' := by
  unfold F_X4_bind
  rw [J7_fill (by omega) (by omega), z_b1]
  obtain ⟨own', ahd', e, hB⟩ := X4_bind10 (fu := fu) hfu hK hX hY hg (fun a h1 h2 => (htim a h1 h2).1) h0 h4 h5 (cm K) fu 0 (fun k => if k < 4 then (0 : Int32) else own k) ahd (by have := hK.1; omega) (by omega)
    ⟨fun k hk => by (show (if k < 4 then (0 : Int32) else own k) = _); rw [if_pos hk]; rfl, fun c hc => absurd hc (Nat.not_lt_zero c)⟩
  refine ⟨own', ahd', e, ?_, ?_⟩
  · intro k hk
    refine ⟨_, hB.1 k hk, msk_lt20 _ hK.1, fun c => ?_⟩
    rw [msk_bit]; rfl
  · intro c hc hin
    refine ⟨_, hB.2 c hc hin, Nat.or_lt_two_pow (msk_lt20 _ (by have := hK.1; have h' : c < cm K := hc; omega)) (msk_lt20 _ hK.1), fun a => ?_⟩
    have hc' : c < cm K := hc
    rw [Nat.testBit_or, msk_bit, msk_bit]
    show _ ↔ (a < cm K ∧ inn a = true ∧ ((cq K a = cq K c ∧ a < c) ∨ gapped K tim gap.toInt a c = true))
    simp only [Bool.or_eq_true, Bool.and_eq_true, decide_eq_true_eq, beq_iff_eq]
    constructor
    · rintro (⟨h1, h2, h3⟩ | ⟨h1, h2⟩)
      · exact ⟨by omega, h2, Or.inl ⟨h3, h1⟩⟩
      · refine ⟨h1, ?_, Or.inr h2⟩
        unfold gapped at h2
        simp only [Bool.and_eq_true] at h2
        exact (htim a h1 h2.1).2
    · rintro ⟨h1, h2, ⟨h3, h4⟩ | h3⟩
      · exact Or.inl ⟨h4, h2, h3⟩
      · exact Or.inr ⟨h1, h3⟩
theorem WF_sysK {K : Ca} {nt : Nat} {kd : Nat → Nat} (hK : okC 4 nt kd K) (hnt : nt ≤ 3) (hkd : ∀ t, t < 3 → kd t < 5) {inn mst str tim : Nat → Bool} {gap : Int} (hg : 0 ≤ gap)
    (htim : ∀ a, tim a = true → a < cm K ∧ ce K a ≠ -2) (hmst : ∀ a, mst a = true → inn a = true) : WF (sysK K kd nt inn mst str tim gap) := by
  refine ⟨hK.1, hnt, hkd, ?_, ?_, hmst⟩
  · intro c hc
    obtain ⟨h1, h2, h3, h4, _⟩ := hK.2 c hc
    exact ⟨h1, h2, h3, h4⟩
  · intro c
    show gapped K tim gap c c = false
    unfold gapped
    rcases ht : tim c
    · rfl
    · obtain ⟨h1, h2⟩ := htim c ht
      have := endAt_ti (hK.2 c h1).2.2.2.2.2.1 h2
      simp
      omega
