theorem X6_forget {fu b : Nat} (hfu : 20000 ≤ fu) {tab : Nat → Int32} (h : TB b tab) :
    ∃ b' tab', F_X6_forget fu (nI b) tab = some (nI b', tab') ∧ 1 ≤ b' ∧ b' ≤ 2000006001 ∧ ∃ tb : Nat → Nat, ∀ p, p < 16384 → tab' p = nI (tb p) ∧ tb p < b' := by
  obtain ⟨h1, h2, tb, h3⟩ := h
  unfold F_X6_forget
  have hle : (nI b ≤ nI 2000000000) = (b ≤ 2000000000) := zd_le (by omega) (by omega)
  rw [show (2000000000 : Int32) = nI 2000000000 from rfl]
  by_cases g : b ≤ 2000000000
  · rw [if_pos (by rw [hle]; exact g), zl_6001, zq_add]
    exact ⟨b + 6001, tab, rfl, by omega, by omega, tb, h3⟩
  · rw [if_neg (by rw [hle]; exact g), J7_fill (by omega) (by omega), z_b1]
    refine ⟨1, _, rfl, by omega, by omega, fun _ => 0, fun p hp => ⟨?_, Nat.zero_lt_one⟩⟩
    show (if p < 16384 then (0 : Int32) else tab p) = nI 0
    rw [if_pos hp]; rfl
theorem X6_begin {fu b : Nat} (hfu : 20000 ≤ fu) {y : Sy} (hw : WF y) {done tills tab kinds : Nat → Int32} (hk : ∀ t, t < 3 → kinds t = nI (ykd y t)) (hb1 : 1 ≤ b) (hb2 : b ≤ 2000006001)
    (ht : ∃ tb : Nat → Nat, ∀ p, p < 16384 → tab p = nI (tb p) ∧ tb p < b) :
    ∃ done' tills' tab', F_X6_begin fu (nI b) done tills tab kinds = some (nI 1, done', tills', tab') ∧ CR y (1, fun _ => ini y) done' tills' ∧ CT b tab' done' tills' 1 := by
  obtain ⟨tb, h1⟩ := ht
  obtain ⟨f, hf⟩ : ∃ f, fu = f + 1 + 1 + 1 + 1 := ⟨fu - 4, by omega⟩
  generalize hT2 : upd (upd (upd tills 0 (nI (i0 y 0))) 1 (nI (i0 y 1))) 2 (nI (i0 y 2)) = T2
  have hT : ∀ t, t < 3 → T2 t = nI (tl (ini y) t) := by
    intro t ht
    rw [← hT2, z_upd, z_upd, z_upd]
    have c' : t = 0 ∨ t = 1 ∨ t = 2 := by omega
    rcases c' with rfl | rfl | rfl
    · rfl
    · rfl
    · rfl
  have hD : ∀ z : Nat, upd done 0 (nI 0) 0 = nI 0 := fun _ => by rw [z_upd, if_pos rfl]
  have hTI : TI (Tc tb b) (HC (upd done 0 (nI 0)) T2 (-1)) (fun _ => False) := by
    refine TI_nil (fun j hj => ?_)
    unfold Tc
    rw [if_neg]
    have := (h1 j hj).2
    omega
  have e0 : F_X6_begin fu (nI b) done tills tab kinds = bnd2 (F_X6_find fu (nI b) (upd done 0 (nI 0)) T2 tab (nI 0) (-1)) fun r40 u40_0 => some (nI 1, upd done 0 (nI 0), T2, u40_0) := by
    unfold F_X6_begin
    have a0 := X8_atFirst (hw.2.2.1 0 (by omega))
    have a1 := X8_atFirst (hw.2.2.1 1 (by omega))
    have a2 := X8_atFirst (hw.2.2.1 2 (by omega))
    rw [show F_X6_begin_b9 fu (nI b) (upd done (0 : Int32).toNatClampNeg (0 : Int32)) tab kinds fu tills (0 : Int32) = F_X6_begin_b9 fu (nI b) (upd done 0 (nI 0)) tab kinds (f + 1 + 1 + 1 + 1) tills (0 : Int32) by rw [← hf]; rfl]
    rw [F_X6_begin_b9]
    simp (disch := omega) only [X5_kindOf hk, a0, zl_0, zl_1, zl_2, zl_3, zl_4, zl_5, zl_6, zl_7, zl_8, zl_9, zl_10, zl_12, zl_14, zl_15, zl_16, zl_17, zl_18, zl_20, zl_24, zl_31, zl_32, zl_44, zl_48, zl_57, zl_59, zl_63, zl_64, zl_70, zl_74, zl_75, zl_97, zl_99, zl_100, zl_122, zl_140, zl_141, zl_142, zl_255, zl_900, zl_999, zl_1000, zl_1998, zl_6000, zl_6001, zl_16383, zl_16384, zl_65536, zl_65537, zq_add, zq_mul, zq_sub, zd_lt, zd_le, zd_eq, zd_cl, zm_lt, zm_le, zm_gt, zm_ge, zm_eq, zm_qe, zm_mm, zt_lt, zf_lt, zt_le, zf_le, zt_eq, zf_eq, z_upd, z_updL, z_b1, z_b2, z_b3, z_b4, z_b5, z_b6, z_b7, z_b8, z_b9, z_b10, z_b11, z_b12, z_b13, z_b14, z_b15, z_b16, z_b17, z_b18, z_b19, z_b20, ↓reduceIte, or_false, false_or, or_self, true_or, or_true, and_true, true_and, and_false, false_and, not_true_eq_false, not_false_eq_true, ite_self, reduceCtorEq, Nat.reduceAdd, Nat.reduceMul, Nat.reduceSub, Nat.reducePow, Nat.reduceDiv, Nat.reduceMod, Nat.reduceLT, Nat.reduceLeDiff, Nat.reduceEqDiff, Nat.add_zero, Nat.zero_add, Nat.mul_one, Nat.one_mul, Nat.mul_zero, Nat.zero_mul, Nat.sub_zero, Nat.not_lt_zero, Nat.zero_le]
    rw [F_X6_begin_b9]
    simp (disch := omega) only [X5_kindOf hk, a1, zl_0, zl_1, zl_2, zl_3, zl_4, zl_5, zl_6, zl_7, zl_8, zl_9, zl_10, zl_12, zl_14, zl_15, zl_16, zl_17, zl_18, zl_20, zl_24, zl_31, zl_32, zl_44, zl_48, zl_57, zl_59, zl_63, zl_64, zl_70, zl_74, zl_75, zl_97, zl_99, zl_100, zl_122, zl_140, zl_141, zl_142, zl_255, zl_900, zl_999, zl_1000, zl_1998, zl_6000, zl_6001, zl_16383, zl_16384, zl_65536, zl_65537, zq_add, zq_mul, zq_sub, zd_lt, zd_le, zd_eq, zd_cl, zm_lt, zm_le, zm_gt, zm_ge, zm_eq, zm_qe, zm_mm, zt_lt, zf_lt, zt_le, zf_le, zt_eq, zf_eq, z_upd, z_updL, z_b1, z_b2, z_b3, z_b4, z_b5, z_b6, z_b7, z_b8, z_b9, z_b10, z_b11, z_b12, z_b13, z_b14, z_b15, z_b16, z_b17, z_b18, z_b19, z_b20, ↓reduceIte, or_false, false_or, or_self, true_or, or_true, and_true, true_and, and_false, false_and, not_true_eq_false, not_false_eq_true, ite_self, reduceCtorEq, Nat.reduceAdd, Nat.reduceMul, Nat.reduceSub, Nat.reducePow, Nat.reduceDiv, Nat.reduceMod, Nat.reduceLT, Nat.reduceLeDiff, Nat.reduceEqDiff, Nat.add_zero, Nat.zero_add, Nat.mul_one, Nat.one_mul, Nat.mul_zero, Nat.zero_mul, Nat.sub_zero, Nat.not_lt_zero, Nat.zero_le]
    rw [F_X6_begin_b9]
    simp (disch := omega) only [X5_kindOf hk, a2, zl_0, zl_1, zl_2, zl_3, zl_4, zl_5, zl_6, zl_7, zl_8, zl_9, zl_10, zl_12, zl_14, zl_15, zl_16, zl_17, zl_18, zl_20, zl_24, zl_31, zl_32, zl_44, zl_48, zl_57, zl_59, zl_63, zl_64, zl_70, zl_74, zl_75, zl_97, zl_99, zl_100, zl_122, zl_140, zl_141, zl_142, zl_255, zl_900, zl_999, zl_1000, zl_1998, zl_6000, zl_6001, zl_16383, zl_16384, zl_65536, zl_65537, zq_add, zq_mul, zq_sub, zd_lt, zd_le, zd_eq, zd_cl, zm_lt, zm_le, zm_gt, zm_ge, zm_eq, zm_qe, zm_mm, zt_lt, zf_lt, zt_le, zf_le, zt_eq, zf_eq, z_upd, z_updL, z_b1, z_b2, z_b3, z_b4, z_b5, z_b6, z_b7, z_b8, z_b9, z_b10, z_b11, z_b12, z_b13, z_b14, z_b15, z_b16, z_b17, z_b18, z_b19, z_b20, ↓reduceIte, or_false, false_or, or_self, true_or, or_true, and_true, true_and, and_false, false_and, not_true_eq_false, not_false_eq_true, ite_self, reduceCtorEq, Nat.reduceAdd, Nat.reduceMul, Nat.reduceSub, Nat.reducePow, Nat.reduceDiv, Nat.reduceMod, Nat.reduceLT, Nat.reduceLeDiff, Nat.reduceEqDiff, Nat.add_zero, Nat.zero_add, Nat.mul_one, Nat.one_mul, Nat.mul_zero, Nat.zero_mul, Nat.sub_zero, Nat.not_lt_zero, Nat.zero_le]
    rw [F_X6_begin_b9]
    rw [show (if ykd y 0 = 4 then 9 else 0) = i0 y 0 from rfl, show (if ykd y 1 = 4 then 9 else 0) = i0 y 1 from rfl, show (if ykd y 2 = 4 then 9 else 0) = i0 y 2 from rfl, hT2]
    simp (disch := omega) only [zl_0, zl_1, zl_2, zl_3, zl_4, zl_5, zl_6, zl_7, zl_8, zl_9, zl_10, zl_12, zl_14, zl_15, zl_16, zl_17, zl_18, zl_20, zl_24, zl_31, zl_32, zl_44, zl_48, zl_57, zl_59, zl_63, zl_64, zl_70, zl_74, zl_75, zl_97, zl_99, zl_100, zl_122, zl_140, zl_141, zl_142, zl_255, zl_900, zl_999, zl_1000, zl_1998, zl_6000, zl_6001, zl_16383, zl_16384, zl_65536, zl_65537, zq_add, zq_mul, zq_sub, zd_lt, zd_le, zd_eq, zd_cl, zm_lt, zm_le, zm_gt, zm_ge, zm_eq, zm_qe, zm_mm, zt_lt, zf_lt, zt_le, zf_le, zt_eq, zf_eq, z_upd, z_updL, z_b1, z_b2, z_b3, z_b4, z_b5, z_b6, z_b7, z_b8, z_b9, z_b10, z_b11, z_b12, z_b13, z_b14, z_b15, z_b16, z_b17, z_b18, z_b19, z_b20, ↓reduceIte, or_false, false_or, or_self, true_or, or_true, and_true, true_and, and_false, false_and, not_true_eq_false, not_false_eq_true, ite_self, reduceCtorEq, Nat.reduceAdd, Nat.reduceMul, Nat.reduceSub, Nat.reducePow, Nat.reduceDiv, Nat.reduceMod, Nat.reduceLT, Nat.reduceLeDiff, Nat.reduceEqDiff, Nat.add_zero, Nat.zero_add, Nat.mul_one, Nat.one_mul, Nat.mul_zero, Nat.zero_mul, Nat.sub_zero, Nat.not_lt_zero, Nat.zero_le]
  rw [e0]
  rcases X6_find fu hfu (look := -1) (s := 0) (by omega) (fun p hp => ⟨(h1 p hp).1, by have := (h1 p hp).2; omega⟩) (by omega) hTI with ⟨r, hr, _⟩ | ⟨_, hyes⟩
  · exact hr.elim
  · obtain ⟨tab', tb', e, h4, h5⟩ := hyes (fun h => h)
    rw [e]
    refine ⟨_, _, tab', rfl, ?_, hb1, hb2, tb', fun p hp => ⟨(h4 p hp).1, ?_⟩, TI_congr h5 (fun i _ => rfl) (fun i => ?_)⟩
    · intro i hi
      have : i = 0 := by have h' : i < 1 := hi; omega
      subst this
      exact ⟨hD 0, fun t ht => by rw [Nat.zero_mul, Nat.zero_add]; exact hT t ht⟩
    · rcases (h4 p hp).2 with g | g
      · rw [g]; have := (h1 p hp).2; omega
      · rw [g]; omega
    · show (False ∨ i = 0) ↔ i < 1
      constructor
      · rintro (h | h)
        · exact h.elim
        · omega
      · intro h; right; omega
theorem cd_ext {G G' : Gr} (h : ext G G') {o : Option St} (ho : ∀ z, o = some z → fnd G z < G.1) : cd G' o = cd G o := by
  unfold cd
  split
  · rfl
  · rw [fnd_ext h (ho _ rfl)]
/-- too many: the rest of a stand's row -/
theorem X6_exp32F {fu b s : Nat} {y : Sy} (hw : WF y) {strict : Int32} {kinds f1 f2 f3 f6 own ahd : Nat → Int32} (hRW : ROW y own ahd) (hs : s ≤ 6000)
    (k15 : Int32 → (Nat → Int32) → (Nat → Int32) → (Nat → Int32) → (Nat → Int32) → Int32 → Option (Int32 × Int32 × Int32 × (Nat → Int32) × (Nat → Int32) × (Nat → Int32) × (Nat → Int32)))
    {D : Nat} : ∀ (j k kf : Nat) (tab done tills leads : Nat → Int32), k + j = 4 → j < kf → TB b tab → done s = nI D →
    ∃ cnt tab' done' tills' leads', F_X6_explore_b32 k15 fu (nI b) kinds strict own ahd f1 f2 f3 f6 (nI s) kf (nI 6001) tab done tills leads (nI k) = some (nI 0, nI b, cnt, tab', done', tills', leads') ∧ TB b tab'
  | 0, k, kf, tab, done, tills, leads, hk, hkf, ht, hd => by
    obtain ⟨q, rfl⟩ : ∃ q, kf = q + 1 := ⟨kf - 1, by omega⟩
    have : k = 4 := by omega
    subst this
    refine ⟨nI 6001, tab, done, tills, leads, ?_, ht⟩
    rw [F_X6_explore_b32]
    simp (disch := omega) only [zl_0, zl_1, zl_2, zl_3, zl_4, zl_5, zl_6, zl_7, zl_8, zl_9, zl_10, zl_12, zl_14, zl_15, zl_16, zl_17, zl_18, zl_20, zl_24, zl_31, zl_32, zl_44, zl_48, zl_57, zl_59, zl_63, zl_64, zl_70, zl_74, zl_75, zl_97, zl_99, zl_100, zl_122, zl_140, zl_141, zl_142, zl_255, zl_900, zl_999, zl_1000, zl_1998, zl_6000, zl_6001, zl_16383, zl_16384, zl_65536, zl_65537, zq_add, zq_mul, zq_sub, zd_lt, zd_le, zd_eq, zd_cl, zm_lt, zm_le, zm_gt, zm_ge, zm_eq, zm_qe, zm_mm, zt_lt, zf_lt, zt_le, zf_le, zt_eq, zf_eq, z_upd, z_updL, z_b1, z_b2, z_b3, z_b4, z_b5, z_b6, z_b7, z_b8, z_b9, z_b10, z_b11, z_b12, z_b13, z_b14, z_b15, z_b16, z_b17, z_b18, z_b19, z_b20, ↓reduceIte, or_false, false_or, or_self, true_or, or_true, and_true, true_and, and_false, false_and, not_true_eq_false, not_false_eq_true, ite_self, reduceCtorEq, Nat.reduceAdd, Nat.reduceMul, Nat.reduceSub, Nat.reducePow, Nat.reduceDiv, Nat.reduceMod, Nat.reduceLT, Nat.reduceLeDiff, Nat.reduceEqDiff, Nat.add_zero, Nat.zero_add, Nat.mul_one, Nat.one_mul, Nat.mul_zero, Nat.zero_mul, Nat.sub_zero, Nat.not_lt_zero, Nat.zero_le]
  | j + 1, k, kf, tab, done, tills, leads, hk, hkf, ht, hd => by
    obtain ⟨q, rfl⟩ : ∃ q, kf = q + 1 := ⟨kf - 1, by omega⟩
    have hl : F_X6_leadOn fu (nI b) (nI 6001) strict f1 tills kinds f2 f3 f6 done tab (nI s) (cn (nx y k D)) = some (-1, nI 6001, tills, done, tab) := by
      unfold F_X6_leadOn
      split
      · rfl
      · rw [if_pos (by decide)]
    rw [F_X6_explore_b32]
    simp (disch := omega) only [hd, zl_0, zl_1, zl_2, zl_3, zl_4, zl_5, zl_6, zl_7, zl_8, zl_9, zl_10, zl_12, zl_14, zl_15, zl_16, zl_17, zl_18, zl_20, zl_24, zl_31, zl_32, zl_44, zl_48, zl_57, zl_59, zl_63, zl_64, zl_70, zl_74, zl_75, zl_97, zl_99, zl_100, zl_122, zl_140, zl_141, zl_142, zl_255, zl_900, zl_999, zl_1000, zl_1998, zl_6000, zl_6001, zl_16383, zl_16384, zl_65536, zl_65537, zq_add, zq_mul, zq_sub, zd_lt, zd_le, zd_eq, zd_cl, zm_lt, zm_le, zm_gt, zm_ge, zm_eq, zm_qe, zm_mm, zt_lt, zf_lt, zt_le, zf_le, zt_eq, zf_eq, z_upd, z_updL, z_b1, z_b2, z_b3, z_b4, z_b5, z_b6, z_b7, z_b8, z_b9, z_b10, z_b11, z_b12, z_b13, z_b14, z_b15, z_b16, z_b17, z_b18, z_b19, z_b20, ↓reduceIte, or_false, false_or, or_self, true_or, or_true, and_true, true_and, and_false, false_and, not_true_eq_false, not_false_eq_true, ite_self, reduceCtorEq, Nat.reduceAdd, Nat.reduceMul, Nat.reduceSub, Nat.reducePow, Nat.reduceDiv, Nat.reduceMod, Nat.reduceLT, Nat.reduceLeDiff, Nat.reduceEqDiff, Nat.add_zero, Nat.zero_add, Nat.mul_one, Nat.one_mul, Nat.mul_zero, Nat.zero_mul, Nat.sub_zero, Nat.not_lt_zero, Nat.zero_le]
    rw [X4_nextOf hw hRW (by omega), z_b1, hl]
    simp (disch := omega) only [zl_0, zl_1, zl_2, zl_3, zl_4, zl_5, zl_6, zl_7, zl_8, zl_9, zl_10, zl_12, zl_14, zl_15, zl_16, zl_17, zl_18, zl_20, zl_24, zl_31, zl_32, zl_44, zl_48, zl_57, zl_59, zl_63, zl_64, zl_70, zl_74, zl_75, zl_97, zl_99, zl_100, zl_122, zl_140, zl_141, zl_142, zl_255, zl_900, zl_999, zl_1000, zl_1998, zl_6000, zl_6001, zl_16383, zl_16384, zl_65536, zl_65537, zq_add, zq_mul, zq_sub, zd_lt, zd_le, zd_eq, zd_cl, zm_lt, zm_le, zm_gt, zm_ge, zm_eq, zm_qe, zm_mm, zt_lt, zf_lt, zt_le, zf_le, zt_eq, zf_eq, z_upd, z_updL, z_b1, z_b2, z_b3, z_b4, z_b5, z_b6, z_b7, z_b8, z_b9, z_b10, z_b11, z_b12, z_b13, z_b14, z_b15, z_b16, z_b17, z_b18, z_b19, z_b20, ↓reduceIte, or_false, false_or, or_self, true_or, or_true, and_true, true_and, and_false, false_and, not_true_eq_false, not_false_eq_true, ite_self, reduceCtorEq, Nat.reduceAdd, Nat.reduceMul, Nat.reduceSub, Nat.reducePow, Nat.reduceDiv, Nat.reduceMod, Nat.reduceLT, Nat.reduceLeDiff, Nat.reduceEqDiff, Nat.add_zero, Nat.zero_add, Nat.mul_one, Nat.one_mul, Nat.mul_zero, Nat.zero_mul, Nat.sub_zero, Nat.not_lt_zero, Nat.zero_le]
    exact X6_exp32F hw hRW hs k15 j (k + 1) q tab done tills _ (by omega) (by omega) ht hd
theorem X6_exp32 {fu b s : Nat} (hfu : 20000 ≤ fu) {y : Sy} (hw : WF y) {strict : Int32} {kinds f1 f2 f3 f6 own ahd : Nat → Int32} (hL : CL y strict kinds f1 f2 f3 f6) (hRW : ROW y own ahd)
    (k15 : Int32 → (Nat → Int32) → (Nat → Int32) → (Nat → Int32) → (Nat → Int32) → Int32 → Option (Int32 × Int32 × Int32 × (Nat → Int32) × (Nat → Int32) × (Nat → Int32) × (Nat → Int32)))
    {G : Gr} (hB : bi y s G) (hs : s < G.1) : ∀ (j k kf : Nat) (tab done tills leads : Nat → Int32), k + j = 4 → j < kf → (pk y (G.2 s) k G).1 ≤ 6000 →
    CR y (pk y (G.2 s) k G) done tills → CT b tab done tills (pk y (G.2 s) k G).1 →
    (6000 < (pk y (G.2 s) 4 G).1 ∧ ∃ cnt tab' done' tills' leads', F_X6_explore_b32 k15 fu (nI b) kinds strict own ahd f1 f2 f3 f6 (nI s) kf (nI (pk y (G.2 s) k G).1) tab done tills leads (nI k) = some (nI 0, nI b, cnt, tab', done', tills', leads') ∧ TB b tab') ∨
    ((pk y (G.2 s) 4 G).1 ≤ 6000 ∧ ∃ tab' done' tills' leads', F_X6_explore_b32 k15 fu (nI b) kinds strict own ahd f1 f2 f3 f6 (nI s) kf (nI (pk y (G.2 s) k G).1) tab done tills leads (nI k) = k15 (nI (pk y (G.2 s) 4 G).1) tab' done' tills' leads' (nI (s + 1)) ∧
      CR y (pk y (G.2 s) 4 G) done' tills' ∧ CT b tab' done' tills' (pk y (G.2 s) 4 G).1 ∧ (∀ i, i < s * 4 + k → leads' i = leads i) ∧ ∀ i, k ≤ i → i < 4 → leads' (s * 4 + i) = cd (pk y (G.2 s) 4 G) (nst y i (G.2 s)))
  | 0, k, kf, tab, done, tills, leads, hk, hkf, hG, hR, hT => by
    obtain ⟨q, rfl⟩ : ∃ q, kf = q + 1 := ⟨kf - 1, by omega⟩
    have : k = 4 := by omega
    subst this
    right
    have hsG := (pk_ext (y := y) (x := G.2 s) (G := G) 4).1
    refine ⟨hG, tab, done, tills, leads, ?_, hR, hT, fun _ _ => rfl, fun i h1 h2 => absurd h2 (by omega)⟩
    rw [F_X6_explore_b32]
    simp (disch := omega) only [zl_0, zl_1, zl_2, zl_3, zl_4, zl_5, zl_6, zl_7, zl_8, zl_9, zl_10, zl_12, zl_14, zl_15, zl_16, zl_17, zl_18, zl_20, zl_24, zl_31, zl_32, zl_44, zl_48, zl_57, zl_59, zl_63, zl_64, zl_70, zl_74, zl_75, zl_97, zl_99, zl_100, zl_122, zl_140, zl_141, zl_142, zl_255, zl_900, zl_999, zl_1000, zl_1998, zl_6000, zl_6001, zl_16383, zl_16384, zl_65536, zl_65537, zq_add, zq_mul, zq_sub, zd_lt, zd_le, zd_eq, zd_cl, zm_lt, zm_le, zm_gt, zm_ge, zm_eq, zm_qe, zm_mm, zt_lt, zf_lt, zt_le, zf_le, zt_eq, zf_eq, z_upd, z_updL, z_b1, z_b2, z_b3, z_b4, z_b5, z_b6, z_b7, z_b8, z_b9, z_b10, z_b11, z_b12, z_b13, z_b14, z_b15, z_b16, z_b17, z_b18, z_b19, z_b20, ↓reduceIte, or_false, false_or, or_self, true_or, or_true, and_true, true_and, and_false, false_and, not_true_eq_false, not_false_eq_true, ite_self, reduceCtorEq, Nat.reduceAdd, Nat.reduceMul, Nat.reduceSub, Nat.reducePow, Nat.reduceDiv, Nat.reduceMod, Nat.reduceLT, Nat.reduceLeDiff, Nat.reduceEqDiff, Nat.add_zero, Nat.zero_add, Nat.mul_one, Nat.one_mul, Nat.mul_zero, Nat.zero_mul, Nat.sub_zero, Nat.not_lt_zero, Nat.zero_le]
  | j + 1, k, kf, tab, done, tills, leads, hk, hkf, hG, hR, hT => by
    obtain ⟨q, rfl⟩ : ∃ q, kf = q + 1 := ⟨kf - 1, by omega⟩
    have hx := pk_ext (y := y) (x := G.2 s) (G := G) k
    have hsk : s < (pk y (G.2 s) k G).1 := Nat.lt_of_lt_of_le hs hx.1
    have hGs : (pk y (G.2 s) k G).2 s = G.2 s := hx.2 s hs
    have hnod := pk_nod (y := y) (x := G.2 s) hB.2.2.1 k
    have hok : ∀ i, i < (pk y (G.2 s) k G).1 → okS y ((pk y (G.2 s) k G).2 i) := by
      intro i hi
      rcases Nat.lt_or_ge i G.1 with g | g
      · rw [hx.2 i g]; exact hB.2.2.2.2.1 i g
      · obtain ⟨k', _, e⟩ := pk_new k i g hi
        exact (nst_okS hw (hB.2.2.2.2.1 s hs) e).1
    have hds : done s = nI (G.2 s).1 := by rw [(hR s hsk).1, hGs]
    obtain ⟨tills', done', tab', e, hR', hT'⟩ := X6_leadOn (k := k) hfu hw hG hnod hok hL hR hT hsk
    rw [hGs] at e hR' hT'
    have hpk : ad (pk y (G.2 s) k G) (nst y k (G.2 s)) = pk y (G.2 s) (k + 1) G := rfl
    rw [hpk] at e hR' hT'
    have hds' : done' s = nI (G.2 s).1 := by
      have h1 := pk_ext (y := y) (x := G.2 s) (G := G) (k + 1)
      rw [(hR' s (Nat.lt_of_lt_of_le hs h1.1)).1, h1.2 s hs]
    have hs6 : s < 6000 := by omega
    have step : F_X6_explore_b32 k15 fu (nI b) kinds strict own ahd f1 f2 f3 f6 (nI s) (q + 1) (nI (pk y (G.2 s) k G).1) tab done tills leads (nI k) =
        F_X6_explore_b32 k15 fu (nI b) kinds strict own ahd f1 f2 f3 f6 (nI s) q (nI (pk y (G.2 s) (k + 1) G).1) tab' done' tills' (upd leads (s * 4 + k) (cd (pk y (G.2 s) (k + 1) G) (nst y k (G.2 s)))) (nI (k + 1)) := by
      rw [F_X6_explore_b32]
      simp (disch := omega) only [hds, zl_0, zl_1, zl_2, zl_3, zl_4, zl_5, zl_6, zl_7, zl_8, zl_9, zl_10, zl_12, zl_14, zl_15, zl_16, zl_17, zl_18, zl_20, zl_24, zl_31, zl_32, zl_44, zl_48, zl_57, zl_59, zl_63, zl_64, zl_70, zl_74, zl_75, zl_97, zl_99, zl_100, zl_122, zl_140, zl_141, zl_142, zl_255, zl_900, zl_999, zl_1000, zl_1998, zl_6000, zl_6001, zl_16383, zl_16384, zl_65536, zl_65537, zq_add, zq_mul, zq_sub, zd_lt, zd_le, zd_eq, zd_cl, zm_lt, zm_le, zm_gt, zm_ge, zm_eq, zm_qe, zm_mm, zt_lt, zf_lt, zt_le, zf_le, zt_eq, zf_eq, z_upd, z_updL, z_b1, z_b2, z_b3, z_b4, z_b5, z_b6, z_b7, z_b8, z_b9, z_b10, z_b11, z_b12, z_b13, z_b14, z_b15, z_b16, z_b17, z_b18, z_b19, z_b20, ↓reduceIte, or_false, false_or, or_self, true_or, or_true, and_true, true_and, and_false, false_and, not_true_eq_false, not_false_eq_true, ite_self, reduceCtorEq, Nat.reduceAdd, Nat.reduceMul, Nat.reduceSub, Nat.reducePow, Nat.reduceDiv, Nat.reduceMod, Nat.reduceLT, Nat.reduceLeDiff, Nat.reduceEqDiff, Nat.add_zero, Nat.zero_add, Nat.mul_one, Nat.one_mul, Nat.mul_zero, Nat.zero_mul, Nat.sub_zero, Nat.not_lt_zero, Nat.zero_le]
      rw [X4_nextOf hw hRW (by omega), z_b1, e]
      simp (disch := omega) only [zl_0, zl_1, zl_2, zl_3, zl_4, zl_5, zl_6, zl_7, zl_8, zl_9, zl_10, zl_12, zl_14, zl_15, zl_16, zl_17, zl_18, zl_20, zl_24, zl_31, zl_32, zl_44, zl_48, zl_57, zl_59, zl_63, zl_64, zl_70, zl_74, zl_75, zl_97, zl_99, zl_100, zl_122, zl_140, zl_141, zl_142, zl_255, zl_900, zl_999, zl_1000, zl_1998, zl_6000, zl_6001, zl_16383, zl_16384, zl_65536, zl_65537, zq_add, zq_mul, zq_sub, zd_lt, zd_le, zd_eq, zd_cl, zm_lt, zm_le, zm_gt, zm_ge, zm_eq, zm_qe, zm_mm, zt_lt, zf_lt, zt_le, zf_le, zt_eq, zf_eq, z_upd, z_updL, z_b1, z_b2, z_b3, z_b4, z_b5, z_b6, z_b7, z_b8, z_b9, z_b10, z_b11, z_b12, z_b13, z_b14, z_b15, z_b16, z_b17, z_b18, z_b19, z_b20, ↓reduceIte, or_false, false_or, or_self, true_or, or_true, and_true, true_and, and_false, false_and, not_true_eq_false, not_false_eq_true, ite_self, reduceCtorEq, Nat.reduceAdd, Nat.reduceMul, Nat.reduceSub, Nat.reducePow, Nat.reduceDiv, Nat.reduceMod, Nat.reduceLT, Nat.reduceLeDiff, Nat.reduceEqDiff, Nat.add_zero, Nat.zero_add, Nat.mul_one, Nat.one_mul, Nat.mul_zero, Nat.zero_mul, Nat.sub_zero, Nat.not_lt_zero, Nat.zero_le]
    rw [step]
    rcases Nat.lt_or_ge 6000 (pk y (G.2 s) (k + 1) G).1 with g | g
    · left
      have h4 := (pk_ext2 (y := y) (x := G.2 s) (G := G) (k + 1) j).1
      rw [show k + 1 + j = 4 by omega] at h4
      have h5 : (pk y (G.2 s) (k + 1) G).1 = 6001 := by
        have : (ad (pk y (G.2 s) k G) (nst y k (G.2 s))).1 ≤ (pk y (G.2 s) k G).1 + 1 := by
          unfold ad
          split
          · exact Nat.le_succ _
          · split
            · exact Nat.le_succ _
            · exact Nat.le_refl _
        rw [hpk] at this
        omega
      refine ⟨by omega, ?_⟩
      rw [h5]
      exact X6_exp32F hw hRW (by omega) k15 j (k + 1) q tab' done' tills' _ (by omega) (by omega) (CT_TB hT') hds'
    · rcases X6_exp32 hfu hw hL hRW k15 hB hs j (k + 1) q tab' done' tills' (upd leads (s * 4 + k) (cd (pk y (G.2 s) (k + 1) G) (nst y k (G.2 s)))) (by omega) (by omega) g hR' hT' with h | h
      · exact Or.inl h
      · right
        obtain ⟨h0, t', d', l', le', h1, h2, h3, h4, h5⟩ := h
        refine ⟨h0, t', d', l', le', h1, h2, h3, fun i hi => ?_, fun i hi1 hi2 => ?_⟩
        · rw [h4 i (by omega), z_upd, if_neg (by omega)]
        · by_cases c : i = k
          · subst c
            rw [h4 _ (by omega), z_upd, if_pos rfl]
            have h6 := pk_ext2 (y := y) (x := G.2 s) (G := G) (i + 1) j
            rw [show i + 1 + j = 4 by omega] at h6
            exact (cd_ext h6 (fun z hz => pk_has (Nat.lt_succ_self i) hz)).symm
          · exact h5 i (by omega) hi2
theorem X6_exp15 {fu b : Nat} (hfu : 20000 ≤ fu) {y : Sy} (hw : WF y) {strict : Int32} {kinds f1 f2 f3 f6 own ahd : Nat → Int32} (hL : CL y strict kinds f1 f2 f3 f6) (hRW : ROW y own ahd) :
    ∀ (f kf s : Nat) (G : Gr) (tab done tills leads : Nat → Int32), bi y s G → G.1 ≤ 6000 → 6001 ≤ f + s → f < kf → CR y G done tills → CT b tab done tills G.1 →
    (∀ i k, i < s → k < 4 → leads (i * 4 + k) = cd G (nst y k (G.2 i))) →
    ∃ cnt tab' done' tills' leads', F_X6_explore_b15 fu (nI b) kinds strict own ahd f1 f2 f3 f6 kf (nI G.1) tab done tills leads (nI s) =
      some (nI (if 6000 < (bf y f s G).1 then 0 else 1), nI b, cnt, tab', done', tills', leads') ∧ TB b tab' ∧
      (¬ 6000 < (bf y f s G).1 → cnt = nI (bf y f s G).1 ∧ CR y (bf y f s G) done' tills' ∧ ∀ i k, i < (bf y f s G).1 → k < 4 → leads' (i * 4 + k) = cd (bf y f s G) (nst y k ((bf y f s G).2 i)))
  | 0, kf, s, G, tab, done, tills, leads, hB, hG, hf, hkf, hR, hT, hl => by
    have := hB.2.2.2.1
    omega
  | f + 1, kf, s, G, tab, done, tills, leads, hB, hG, hf, hkf, hR, hT, hl => by
    obtain ⟨q, rfl⟩ : ∃ q, kf = q + 1 := ⟨kf - 1, by omega⟩
    have hsG := hB.2.2.2.1
    have hle : (nI G.1 ≤ nI s) = (G.1 ≤ s) := zd_le (by omega) (by omega)
    rw [F_X6_explore_b15]
    by_cases hs : s < G.1
    · rw [if_neg (by rw [hle]; omega), if_neg (by rw [zl_6000, zd_le (by omega) (by omega)]; omega)]
      have h32 := X6_exp32 hfu hw hL hRW (F_X6_explore_b15 fu (nI b) kinds strict own ahd f1 f2 f3 f6 q) hB hs 4 0 fu tab done tills leads (by omega) (by omega) hG hR hT
      rw [← zl_0] at h32
      have h32' : (pk y (G.2 s) 0 G) = G := rfl
      rw [h32'] at h32
      rcases h32 with ⟨h0, cnt, t', d', l', le', e, htb⟩ | ⟨h0, t', d', l', le', e, h2, h3, h4, h5⟩
      · have hbf : bf y (f + 1) s G = pk y (G.2 s) 4 G := by rw [bf, if_pos hs, if_pos h0]
        rw [e, hbf]
        refine ⟨cnt, t', d', l', le', ?_, htb, fun h => absurd h0 h⟩
        rw [if_pos h0]
        rfl
      · have hbf : bf y (f + 1) s G = bf y f (s + 1) (pk y (G.2 s) 4 G) := by rw [bf, if_pos hs, if_neg (by omega)]
        rw [e, hbf]
        refine X6_exp15 hfu hw hL hRW f q (s + 1) _ t' d' l' le' (bi_step hw hB hs) h0 (by omega) (by omega) h2 h3 (fun i k hi hk => ?_)
        have hx := pk_ext (y := y) (x := G.2 s) (G := G) 4
        by_cases c : i = s
        · subst c
          rw [h5 k (by omega) hk, hx.2 i hs]
        · rw [h4 _ (by omega), hl i k (by omega) hk, hx.2 i (by omega)]
          exact (cd_ext hx (fun z hz => hB.2.2.2.2.2.1 i k z (by omega) hk hz)).symm
    · have hbf : bf y (f + 1) s G = G := by rw [bf, if_neg hs]
      rw [if_pos (by rw [hle]; omega), hbf]
      have : s = G.1 := by omega
      subst this
      refine ⟨_, tab, done, tills, leads, ?_, CT_TB hT, fun _ => ⟨rfl, hR, hl⟩⟩
      rw [if_neg (by omega)]
      rfl
/-- explore: all stands, or too many -/
theorem X6_explore {fu b : Nat} (hfu : 20000 ≤ fu) {y : Sy} (hw : WF y) {strict : Int32} {kinds f1 f2 f3 f6 own ahd tab done tills leads : Nat → Int32} (hL : CL y strict kinds f1 f2 f3 f6) (hRW : ROW y own ahd) (hT : TB b tab) :
    ∃ b' cnt tab' done' tills' leads', F_X6_explore fu (nI b) tab done tills kinds strict own ahd f1 f2 f3 f6 leads = some (nI (if full y = true then 0 else 1), nI b', cnt, tab', done', tills', leads') ∧ TB b' tab' ∧
      (full y = false → cnt = nI (gr y).1 ∧ CR y (gr y) done' tills' ∧ ∀ i k, i < (gr y).1 → k < 4 → leads' (i * 4 + k) = cd (gr y) (nst y k ((gr y).2 i))) := by
  obtain ⟨b', tab1, e1, h1, h2, h3⟩ := X6_forget hfu hT
  obtain ⟨done2, tills2, tab2, e2, hR, hT2⟩ := X6_begin (done := done) (tills := tills) hfu hw hL.2.1 h1 h2 h3
  obtain ⟨cnt, t', d', l', le', e3, h4, h5⟩ := X6_exp15 hfu hw hL hRW 6001 fu 0 (1, fun _ => ini y) tab2 done2 tills2 leads (bi_0 hw) (by show 1 ≤ 6000; omega) (by omega) (by omega) hR hT2 (fun i k hi => absurd hi (Nat.not_lt_zero i))
  refine ⟨b', cnt, t', d', l', le', ?_, h4, fun hf => ?_⟩
  · unfold F_X6_explore
    rw [e1, z_b2, e2, z_b4, zl_0]
    have e4 : F_X6_explore_b15 fu (nI b') kinds strict own ahd f1 f2 f3 f6 fu (nI 1) tab2 done2 tills2 leads (nI 0) = some (nI (if 6000 < (bf y 6001 0 (1, fun _ => ini y)).1 then 0 else 1), nI b', cnt, t', d', l', le') := e3
    rw [e4]
    have : (full y = true) = (6000 < (bf y 6001 0 (1, fun _ => ini y)).1) := by unfold full gr; simp
    simp only [this]
  · refine h5 ?_
    intro h
    have : full y = true := by unfold full; exact decide_eq_true h
    rw [hf] at this
    cases this
