theorem go_fst {y : Sy} {x : St} {c : Nat} : (go y x c).1 = x.1 ||| 2 ^ c := rfl
theorem go_tl {y : Sy} {x : St} {c t : Nat} (ht : t < 3) : tl (go y x c) t = if t = ytil y c then af (ykd y (ytil y c)) (tl x (ytil y c)) (yact y c) (ywhl y c) else tl x t := by
  unfold go
  rw [tl_stl ht]
  rfl
theorem X6_leadOn {fu b s k : Nat} (hfu : 20000 ≤ fu) {y : Sy} (hw : WF y) {G : Gr} (hG : G.1 ≤ 6000) (hnod : nod G) (hok : ∀ i, i < G.1 → okS y (G.2 i)) {strict : Int32} {kinds f1 f2 f3 f6 done tills tab : Nat → Int32}
    (hL : CL y strict kinds f1 f2 f3 f6) (hR : CR y G done tills) (hT : CT b tab done tills G.1) (hs : s < G.1) :
    ∃ tills' done' tab', F_X6_leadOn fu (nI b) (nI G.1) strict f1 tills kinds f2 f3 f6 done tab (nI s) (cn (nx y k (G.2 s).1)) =
      some (cd (ad G (nst y k (G.2 s))) (nst y k (G.2 s)), nI (ad G (nst y k (G.2 s))).1, tills', done', tab') ∧
      CR y (ad G (nst y k (G.2 s))) done' tills' ∧ CT b tab' done' tills' (ad G (nst y k (G.2 s))).1 := by
  unfold F_X6_leadOn
  rcases hn : nx y k (G.2 s).1 with _ | c
  · have e : nst y k (G.2 s) = none := by unfold nst; rw [hn]
    rw [e]
    refine ⟨tills, done, tab, ?_, hR, hT⟩
    rw [if_pos (by unfold cn; decide)]
    rfl
  · obtain ⟨S, hS1, hS2, hS3⟩ := hL.1
    have hq := nx_some.mp hn
    have hc := hq.1
    have hm := hw.1
    obtain ⟨w1, w2, w3, w4⟩ := hw.2.2.2.1 c hc
    have hnt := hw.2.1
    have ht3 : ytil y c < 3 := by omega
    obtain ⟨g1, g2, g3, g4⟩ := hL.2.2 c hc
    have hxs := hok s hs
    have ho := X6_isOtherwise hw hL hxs (s := s) (by omega) (hR s hs).2 hc (str := ystr y) hS2 (hS3 c hc)
    have hcn : cn (some c) = nI c := rfl
    rw [hcn, hS1, if_neg (by rw [zl_0, zd_lt (by omega) (by omega)]; omega), if_neg (by rw [zl_6000, zd_lt (by omega) (by omega)]; omega), ho, z_b1]
    have hotr : (ystr y c && !(nI (say y (G.2 s) c) == yans y c)) = otr y (G.2 s) c := rfl
    rw [hotr]
    by_cases hot : otr y (G.2 s) c = true
    · have e : nst y k (G.2 s) = none := by unfold nst; rw [hn]; simp only [hot, ↓reduceIte]
      rw [e, if_pos hot, if_neg (by decide)]
      exact ⟨tills, done, tab, rfl, hR, hT⟩
    · have e : nst y k (G.2 s) = some (go y (G.2 s) c) := by
        unfold nst; rw [hn]; simp only [hot, Bool.false_eq_true, ↓reduceIte]
      rw [e, if_neg hot, if_pos (by rfl)]
      obtain ⟨f, hf⟩ : ∃ f, fu = f + 1 + 1 + 1 + 1 := ⟨fu - 4, by omega⟩
      have hcd : cd (ad G (some (go y (G.2 s) c))) (some (go y (G.2 s) c)) = nI (fnd (ad G (some (go y (G.2 s) c))) (go y (G.2 s) c)) := rfl
      rw [hcd]
      generalize hT2 : upd (upd (upd tills (G.1 * 3) (tills (s * 3))) (G.1 * 3 + 1) (tills (s * 3 + 1))) (G.1 * 3 + 2) (tills (s * 3 + 2)) = T2
      have hT20 : ∀ p, p < G.1 * 3 → T2 p = tills p := by
        intro p hp
        rw [← hT2, z_upd, z_upd, z_upd, if_neg (by omega), if_neg (by omega), if_neg (by omega)]
      have hT21 : ∀ t, t < 3 → T2 (G.1 * 3 + t) = nI (tl (G.2 s) t) := by
        intro t ht
        rw [← (hR s hs).2 t ht, ← hT2, z_upd, z_upd, z_upd]
        have c' : t = 0 ∨ t = 1 ∨ t = 2 := by omega
        rcases c' with rfl | rfl | rfl
        · rw [if_neg (by omega), if_neg (by omega), if_pos (by omega)]; rfl
        · rw [if_neg (by omega), if_pos (by omega)]
        · rw [if_pos (by omega)]
      have hloop : F_X6_leadOn_b47 fu (nI b) (nI G.1) f1 kinds f2 f3 done tab (nI s) (nI c) (nI s * (3 : Int32)) (nI G.1 * (3 : Int32)) fu tills (0 : Int32) =
          F_X6_leadOn_b146 fu (nI b) (nI G.1) (upd T2 (G.1 * 3 + ytil y c) (nI (af (ykd y (ytil y c)) (tl (G.2 s) (ytil y c)) (yact y c) (ywhl y c)))) done tab (nI s) (nI c) := by
        have hv : T2 (s * 3 + ytil y c) = nI (tl (G.2 s) (ytil y c)) := by rw [hT20 _ (by omega)]; exact (hR s hs).2 _ ht3
        have q := X8_after (hw.2.2.1 _ ht3) (hxs.2.2 _ ht3) w3.1 w4
        rw [show F_X6_leadOn_b47 fu (nI b) (nI G.1) f1 kinds f2 f3 done tab (nI s) (nI c) (nI s * (3 : Int32)) (nI G.1 * (3 : Int32)) fu tills (0 : Int32) =
          F_X6_leadOn_b47 fu (nI b) (nI G.1) f1 kinds f2 f3 done tab (nI s) (nI c) (nI s * (3 : Int32)) (nI G.1 * (3 : Int32)) (f + 1 + 1 + 1 + 1) tills (0 : Int32) by rw [← hf]]
        rw [F_X6_leadOn_b47]
        simp (disch := omega) only [zl_0, zl_1, zl_2, zl_3, zl_4, zl_5, zl_6, zl_7, zl_8, zl_9, zl_10, zl_12, zl_14, zl_15, zl_16, zl_17, zl_18, zl_20, zl_24, zl_31, zl_32, zl_44, zl_48, zl_57, zl_59, zl_63, zl_64, zl_70, zl_74, zl_75, zl_97, zl_99, zl_100, zl_122, zl_140, zl_141, zl_142, zl_255, zl_900, zl_999, zl_1000, zl_1998, zl_6000, zl_6001, zl_16383, zl_16384, zl_65536, zl_65537, zq_add, zq_mul, zq_sub, zd_lt, zd_le, zd_eq, zd_cl, zm_lt, zm_le, zm_gt, zm_ge, zm_eq, zm_qe, zm_mm, zt_lt, zf_lt, zt_le, zf_le, zt_eq, zf_eq, z_upd, z_updL, z_b1, z_b2, z_b3, z_b4, z_b5, z_b6, z_b7, z_b8, z_b9, z_b10, z_b11, z_b12, z_b13, z_b14, z_b15, z_b16, z_b17, z_b18, z_b19, z_b20, ↓reduceIte, or_false, false_or, or_self, true_or, or_true, and_true, true_and, and_false, false_and, not_true_eq_false, not_false_eq_true, ite_self, reduceCtorEq, Nat.reduceAdd, Nat.reduceMul, Nat.reduceSub, Nat.reducePow, Nat.reduceDiv, Nat.reduceMod, Nat.reduceLT, Nat.reduceLeDiff, Nat.reduceEqDiff, Nat.add_zero, Nat.zero_add, Nat.mul_one, Nat.one_mul, Nat.mul_zero, Nat.zero_mul, Nat.sub_zero, Nat.not_lt_zero, Nat.zero_le]
        rw [F_X6_leadOn_b47]
        simp (disch := omega) only [zl_0, zl_1, zl_2, zl_3, zl_4, zl_5, zl_6, zl_7, zl_8, zl_9, zl_10, zl_12, zl_14, zl_15, zl_16, zl_17, zl_18, zl_20, zl_24, zl_31, zl_32, zl_44, zl_48, zl_57, zl_59, zl_63, zl_64, zl_70, zl_74, zl_75, zl_97, zl_99, zl_100, zl_122, zl_140, zl_141, zl_142, zl_255, zl_900, zl_999, zl_1000, zl_1998, zl_6000, zl_6001, zl_16383, zl_16384, zl_65536, zl_65537, zq_add, zq_mul, zq_sub, zd_lt, zd_le, zd_eq, zd_cl, zm_lt, zm_le, zm_gt, zm_ge, zm_eq, zm_qe, zm_mm, zt_lt, zf_lt, zt_le, zf_le, zt_eq, zf_eq, z_upd, z_updL, z_b1, z_b2, z_b3, z_b4, z_b5, z_b6, z_b7, z_b8, z_b9, z_b10, z_b11, z_b12, z_b13, z_b14, z_b15, z_b16, z_b17, z_b18, z_b19, z_b20, ↓reduceIte, or_false, false_or, or_self, true_or, or_true, and_true, true_and, and_false, false_and, not_true_eq_false, not_false_eq_true, ite_self, reduceCtorEq, Nat.reduceAdd, Nat.reduceMul, Nat.reduceSub, Nat.reducePow, Nat.reduceDiv, Nat.reduceMod, Nat.reduceLT, Nat.reduceLeDiff, Nat.reduceEqDiff, Nat.add_zero, Nat.zero_add, Nat.mul_one, Nat.one_mul, Nat.mul_zero, Nat.zero_mul, Nat.sub_zero, Nat.not_lt_zero, Nat.zero_le]
        rw [F_X6_leadOn_b47]
        simp (disch := omega) only [zl_0, zl_1, zl_2, zl_3, zl_4, zl_5, zl_6, zl_7, zl_8, zl_9, zl_10, zl_12, zl_14, zl_15, zl_16, zl_17, zl_18, zl_20, zl_24, zl_31, zl_32, zl_44, zl_48, zl_57, zl_59, zl_63, zl_64, zl_70, zl_74, zl_75, zl_97, zl_99, zl_100, zl_122, zl_140, zl_141, zl_142, zl_255, zl_900, zl_999, zl_1000, zl_1998, zl_6000, zl_6001, zl_16383, zl_16384, zl_65536, zl_65537, zq_add, zq_mul, zq_sub, zd_lt, zd_le, zd_eq, zd_cl, zm_lt, zm_le, zm_gt, zm_ge, zm_eq, zm_qe, zm_mm, zt_lt, zf_lt, zt_le, zf_le, zt_eq, zf_eq, z_upd, z_updL, z_b1, z_b2, z_b3, z_b4, z_b5, z_b6, z_b7, z_b8, z_b9, z_b10, z_b11, z_b12, z_b13, z_b14, z_b15, z_b16, z_b17, z_b18, z_b19, z_b20, ↓reduceIte, or_false, false_or, or_self, true_or, or_true, and_true, true_and, and_false, false_and, not_true_eq_false, not_false_eq_true, ite_self, reduceCtorEq, Nat.reduceAdd, Nat.reduceMul, Nat.reduceSub, Nat.reducePow, Nat.reduceDiv, Nat.reduceMod, Nat.reduceLT, Nat.reduceLeDiff, Nat.reduceEqDiff, Nat.add_zero, Nat.zero_add, Nat.mul_one, Nat.one_mul, Nat.mul_zero, Nat.zero_mul, Nat.sub_zero, Nat.not_lt_zero, Nat.zero_le]
        rw [F_X6_leadOn_b47]
        rw [hT2]
        simp (disch := omega) only [X0_tillOf, X0_actOf, X0_wholeOf, X5_kindOf hL.2.1, g1, g2, g3, hv, q, zl_0, zl_1, zl_2, zl_3, zl_4, zl_5, zl_6, zl_7, zl_8, zl_9, zl_10, zl_12, zl_14, zl_15, zl_16, zl_17, zl_18, zl_20, zl_24, zl_31, zl_32, zl_44, zl_48, zl_57, zl_59, zl_63, zl_64, zl_70, zl_74, zl_75, zl_97, zl_99, zl_100, zl_122, zl_140, zl_141, zl_142, zl_255, zl_900, zl_999, zl_1000, zl_1998, zl_6000, zl_6001, zl_16383, zl_16384, zl_65536, zl_65537, zq_add, zq_mul, zq_sub, zd_lt, zd_le, zd_eq, zd_cl, zm_lt, zm_le, zm_gt, zm_ge, zm_eq, zm_qe, zm_mm, zt_lt, zf_lt, zt_le, zf_le, zt_eq, zf_eq, z_upd, z_updL, z_b1, z_b2, z_b3, z_b4, z_b5, z_b6, z_b7, z_b8, z_b9, z_b10, z_b11, z_b12, z_b13, z_b14, z_b15, z_b16, z_b17, z_b18, z_b19, z_b20, ↓reduceIte, or_false, false_or, or_self, true_or, or_true, and_true, true_and, and_false, false_and, not_true_eq_false, not_false_eq_true, ite_self, reduceCtorEq, Nat.reduceAdd, Nat.reduceMul, Nat.reduceSub, Nat.reducePow, Nat.reduceDiv, Nat.reduceMod, Nat.reduceLT, Nat.reduceLeDiff, Nat.reduceEqDiff, Nat.add_zero, Nat.zero_add, Nat.mul_one, Nat.one_mul, Nat.mul_zero, Nat.zero_mul, Nat.sub_zero, Nat.not_lt_zero, Nat.zero_le]
      rw [hloop]
      refine (X6_lead146 (c := c) (z := go y (G.2 s) c) hfu hw hG hnod hok hR hT hs (by omega) (go_okS hw hxs hn).1 rfl ?_ ?_).elim fun d' h => h.elim fun t' h => ⟨_, d', t', h.1, h.2.1, h.2.2⟩
      · intro p hp
        rw [z_upd, if_neg (by omega)]
        exact hT20 p hp
      · intro t ht
        rw [z_upd, go_tl ht]
        by_cases g : t = ytil y c
        · rw [if_pos (by omega), if_pos g]
        · rw [if_neg (by omega), if_neg g]
          exact hT21 t ht
