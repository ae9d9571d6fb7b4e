theorem X10_leadsOn {fu : Nat} (hfu : 20000 ≤ fu) {y : Sy} (hw : WF y) {G : Gr} (hG : G.1 ≤ 6000) (hnod : nod G) (hok : ∀ i, i < G.1 → okS y (G.2 i)) {nextOf doneOf heard slot w r long row' : Nat → Int32} {tills : Nat → Int64} {loose minutes byKind ans : Int32}
    (hW : RW y w) (hE : RE y w loose minutes byKind) (hRw : rows_ok y long row') (hK : kinds_r y r) (hR : RR y G doneOf tills) (hT : RT slot doneOf tills G.1) {s k : Nat} (hs : s < G.1) (hk : k < 4) :
    ∃ ans' n' full' next' doneOf' tills' heard' slot', F_X10_leadsOn fu ans loose minutes byKind (nI G.1) (nI 0) nextOf doneOf long row' w r tills heard slot (nI s) (nI k) = some (ans', n', full', next', doneOf', tills', heard', slot') ∧
      ((6000 < (ad G (nst y k (G.2 s))).1 ∧ full' = nI 1) ∨ ((ad G (nst y k (G.2 s))).1 ≤ 6000 ∧ full' = nI 0 ∧ n' = nI (ad G (nst y k (G.2 s))).1 ∧ next' = upd nextOf (4 * s + k) (cd (ad G (nst y k (G.2 s))) (nst y k (G.2 s))) ∧
        RR y (ad G (nst y k (G.2 s))) doneOf' tills' ∧ RT slot' doneOf' tills' (ad G (nst y k (G.2 s))).1 ∧ (∀ i, i ≠ 4 * s + k → heard' i = heard i) ∧
        (∀ c, nx y k (G.2 s).1 = some c → otr y (G.2 s) c = false → heard' (4 * s + k) = nI (say y (G.2 s) c)))) := by
  have hxs := hok s hs
  have hD := (hR s hs).1
  have hdk := hD k hk
  have hcl := cnt_le (y := y) (q := k) (D := (G.2 s).1)
  have hll := lng_le hw (q := k)
  have hlk := hRw.1 k hk
  have i4 : (4 : Int32) * nI s + nI k = nI (4 * s + k) := by rw [zl_4, zq_mul, zq_add]
  have none_case : ∀ a, nst y k (G.2 s) = none → (nx y k (G.2 s).1 = none ∨ ∃ c, nx y k (G.2 s).1 = some c ∧ otr y (G.2 s) c = true) →
      F_X10_leadsOn fu ans loose minutes byKind (nI G.1) (nI 0) nextOf doneOf long row' w r tills heard slot (nI s) (nI k) = some (a, nI G.1, nI 0, upd nextOf (4 * s + k) (-1), doneOf, tills, heard, slot) →
      ∃ ans' n' full' next' doneOf' tills' heard' slot', F_X10_leadsOn fu ans loose minutes byKind (nI G.1) (nI 0) nextOf doneOf long row' w r tills heard slot (nI s) (nI k) = some (ans', n', full', next', doneOf', tills', heard', slot') ∧
      ((6000 < (ad G (nst y k (G.2 s))).1 ∧ full' = nI 1) ∨ ((ad G (nst y k (G.2 s))).1 ≤ 6000 ∧ full' = nI 0 ∧ n' = nI (ad G (nst y k (G.2 s))).1 ∧ next' = upd nextOf (4 * s + k) (cd (ad G (nst y k (G.2 s))) (nst y k (G.2 s))) ∧
        RR y (ad G (nst y k (G.2 s))) doneOf' tills' ∧ RT slot' doneOf' tills' (ad G (nst y k (G.2 s))).1 ∧ (∀ i, i ≠ 4 * s + k → heard' i = heard i) ∧
        (∀ c, nx y k (G.2 s).1 = some c → otr y (G.2 s) c = false → heard' (4 * s + k) = nI (say y (G.2 s) c)))) := by
    intro a hno hor e
    rw [e, hno]
    refine ⟨_, _, _, _, _, _, _, _, rfl, Or.inr ⟨hG, rfl, rfl, rfl, hR, hT, fun _ _ => rfl, fun c h1 h2 => ?_⟩⟩
    rcases hor with h | ⟨c', h, h'⟩
    · rw [h] at h1; cases h1
    · rw [h] at h1; injection h1 with h1; subst h1; rw [h2] at h'; cases h'
  by_cases hfull : cnt y k (G.2 s).1 = lng y k
  · have hn := nx_full hxs hfull
    refine none_case ans (by unfold nst; rw [hn]) (Or.inl hn) ?_
    unfold F_X10_leadsOn
    simp (disch := omega) only [hdk, hlk, hfull, zl_0, zl_1, zl_2, zl_3, zl_4, zl_5, zl_6, zl_7, zl_8, zl_9, zl_10, zl_12, zl_14, zl_15, zl_16, zl_17, zl_18, zl_20, zl_24, zl_31, zl_32, zl_44, zl_48, zl_57, zl_59, zl_63, zl_64, zl_70, zl_74, zl_75, zl_97, zl_99, zl_100, zl_122, zl_140, zl_141, zl_142, zl_255, zl_900, zl_999, zl_1000, zl_1998, zl_6000, zl_6001, zl_16383, zl_16384, zl_65536, zl_65537, zq_add, zq_mul, zq_sub, zd_lt, zd_le, zd_eq, zd_cl, zm_lt, zm_le, zm_gt, zm_ge, zm_eq, zm_qe, zm_mm, zt_lt, zf_lt, zt_le, zf_le, zt_eq, zf_eq, z_upd, z_updL, z_b1, z_b2, z_b3, z_b4, z_b5, z_b6, z_b7, z_b8, z_b9, z_b10, z_b11, z_b12, z_b13, z_b14, z_b15, z_b16, z_b17, z_b18, z_b19, z_b20, ↓reduceIte, or_false, false_or, or_self, true_or, or_true, and_true, true_and, and_false, false_and, not_true_eq_false, not_false_eq_true, ite_self, reduceCtorEq, Nat.reduceAdd, Nat.reduceMul, Nat.reduceSub, Nat.reducePow, Nat.reduceDiv, Nat.reduceMod, Nat.reduceLT, Nat.reduceLeDiff, Nat.reduceEqDiff, Nat.add_zero, Nat.zero_add, Nat.mul_one, Nat.one_mul, Nat.mul_zero, Nat.zero_mul, Nat.sub_zero, Nat.not_lt_zero, Nat.zero_le]
  · obtain ⟨c, hc, hrc, hrk, hrow⟩ := rows_get hw hRw hk (k := cnt y k (G.2 s).1) (by omega)
    have hin := (row_iff.mp hrc).1
    have hnx := nx_at hxs hc hrc hrk
    have hmay := X10_mayCome (byKind := byKind) hfu hw hE hRw hxs hD (by omega : s ≤ 6000) hc hin
    have hm := hw.1
    obtain ⟨w1, w2, w3, w4⟩ := hw.2.2.2.1 c hc
    have hnt := hw.2.1
    have ht3 : ytil y c < 3 := by omega
    obtain ⟨g0, g1, g2, g3, g6⟩ := hW.2 c hc
    have hkd := hK.2 _ w2
    have htl := (hR s hs).2 _ ht3
    unfold trt at htl
    rw [if_pos w2] at htl
    obtain ⟨v', hdone, htr'⟩ := X10_done fu (by omega) (hw.2.2.1 _ ht3) htl w3 w4
    have hsay : sy (ykd y (ytil y c)) (tl (G.2 s) (ytil y c)) (yact y c) (ywhl y c) = say y (G.2 s) c := rfl
    obtain ⟨L, hL1, hL2, hL3⟩ := hE.2.2.1
    have hhas := X10_has (L := L) (c := c) hL2 (by omega)
    have hstr := hL3 c hc hin
    have hm2 : (-nI 2 : Int32) = -2 := rfl
    by_cases hnxo : nxo y (G.2 s).1 c = true
    · rw [if_pos hnxo] at hnx hmay
      have some_case : otr y (G.2 s) c = false → F_X10_leadsOn fu ans loose minutes byKind (nI G.1) (nI 0) nextOf doneOf long row' w r tills heard slot (nI s) (nI k) =
          F_X10_leadsOn_b164 fu (nI (say y (G.2 s) c)) (nI G.1) (nI 0) (upd nextOf (4 * s + k) (-1)) doneOf tills heard slot (nI s) (nI k) (nI (4 * s + k)) (nI (ytil y c)) v' →
          ∃ ans' n' full' next' doneOf' tills' heard' slot', F_X10_leadsOn fu ans loose minutes byKind (nI G.1) (nI 0) nextOf doneOf long row' w r tills heard slot (nI s) (nI k) = some (ans', n', full', next', doneOf', tills', heard', slot') ∧
          ((6000 < (ad G (nst y k (G.2 s))).1 ∧ full' = nI 1) ∨ ((ad G (nst y k (G.2 s))).1 ≤ 6000 ∧ full' = nI 0 ∧ n' = nI (ad G (nst y k (G.2 s))).1 ∧ next' = upd nextOf (4 * s + k) (cd (ad G (nst y k (G.2 s))) (nst y k (G.2 s))) ∧
            RR y (ad G (nst y k (G.2 s))) doneOf' tills' ∧ RT slot' doneOf' tills' (ad G (nst y k (G.2 s))).1 ∧ (∀ i, i ≠ 4 * s + k → heard' i = heard i) ∧
            (∀ c, nx y k (G.2 s).1 = some c → otr y (G.2 s) c = false → heard' (4 * s + k) = nI (say y (G.2 s) c)))) := by
        intro ho e
        have hst : nst y k (G.2 s) = some (go y (G.2 s) c) := by unfold nst; rw [hnx]; simp only [ho, Bool.false_eq_true, ↓reduceIte]
        obtain ⟨n', full', next', doneOf', tills', slot', e2, h⟩ := X10_lead164 (nextOf := upd nextOf (4 * s + k) (-1)) (heard := heard) (answer := nI (say y (G.2 s) c)) hfu hw hG hnod hok hR hT hs hk hnx htr'
        rw [e, e2, hst]
        refine ⟨_, _, _, _, _, _, _, _, rfl, ?_⟩
        rcases h with h | ⟨h0, h1, h2, h3, h4, h5⟩
        · exact Or.inl h
        · refine Or.inr ⟨h0, h1, h2, ?_, h4, h5, fun i hi => by rw [z_upd, if_neg hi], fun c' h6 _ => ?_⟩
          · rw [h3, fa_upd_twice]; rfl
          · rw [hnx] at h6
            injection h6 with h6
            subst h6
            rw [z_upd, if_pos rfl]
      by_cases ho : w (7 * c + 5) = -2
      · have hst : ystr y c = false := by rw [hstr, ho]; rfl
        have hot : otr y (G.2 s) c = false := by unfold otr; rw [hst]; rfl
        refine some_case hot ?_
        unfold F_X10_leadsOn
        rw [hL1]
        simp (disch := omega) only [hdk, hlk, hfull, hrow, hmay, g1, g2, g3, g6, hkd, hdone, hsay, hhas, ho, zl_0, zl_1, zl_2, zl_3, zl_4, zl_5, zl_6, zl_7, zl_8, zl_9, zl_10, zl_12, zl_14, zl_15, zl_16, zl_17, zl_18, zl_20, zl_24, zl_31, zl_32, zl_44, zl_48, zl_57, zl_59, zl_63, zl_64, zl_70, zl_74, zl_75, zl_97, zl_99, zl_100, zl_122, zl_140, zl_141, zl_142, zl_255, zl_900, zl_999, zl_1000, zl_1998, zl_6000, zl_6001, zl_16383, zl_16384, zl_65536, zl_65537, zq_add, zq_mul, zq_sub, zd_lt, zd_le, zd_eq, zd_cl, zm_lt, zm_le, zm_gt, zm_ge, zm_eq, zm_qe, zm_mm, zt_lt, zf_lt, zt_le, zf_le, zt_eq, zf_eq, z_upd, z_updL, z_b1, z_b2, z_b3, z_b4, z_b5, z_b6, z_b7, z_b8, z_b9, z_b10, z_b11, z_b12, z_b13, z_b14, z_b15, z_b16, z_b17, z_b18, z_b19, z_b20, ↓reduceIte, or_false, false_or, or_self, true_or, or_true, and_true, true_and, and_false, false_and, not_true_eq_false, not_false_eq_true, ite_self, reduceCtorEq, Nat.reduceAdd, Nat.reduceMul, Nat.reduceSub, Nat.reducePow, Nat.reduceDiv, Nat.reduceMod, Nat.reduceLT, Nat.reduceLeDiff, Nat.reduceEqDiff, Nat.add_zero, Nat.zero_add, Nat.mul_one, Nat.one_mul, Nat.mul_zero, Nat.zero_mul, Nat.sub_zero, Nat.not_lt_zero, Nat.zero_le]
      · have ho' : ¬ w (7 * c + 5) = -nI 2 := ho
        by_cases hlo : L.testBit c = true
        · have hst : ystr y c = false := by rw [hstr, hlo]; simp
          have hot : otr y (G.2 s) c = false := by unfold otr; rw [hst]; rfl
          refine some_case hot ?_
          unfold F_X10_leadsOn
          rw [hL1]
          simp (disch := omega) only [hdk, hlk, hfull, hrow, hmay, g1, g2, g3, g6, hkd, hdone, hsay, hhas, ho', hlo, zl_0, zl_1, zl_2, zl_3, zl_4, zl_5, zl_6, zl_7, zl_8, zl_9, zl_10, zl_12, zl_14, zl_15, zl_16, zl_17, zl_18, zl_20, zl_24, zl_31, zl_32, zl_44, zl_48, zl_57, zl_59, zl_63, zl_64, zl_70, zl_74, zl_75, zl_97, zl_99, zl_100, zl_122, zl_140, zl_141, zl_142, zl_255, zl_900, zl_999, zl_1000, zl_1998, zl_6000, zl_6001, zl_16383, zl_16384, zl_65536, zl_65537, zq_add, zq_mul, zq_sub, zd_lt, zd_le, zd_eq, zd_cl, zm_lt, zm_le, zm_gt, zm_ge, zm_eq, zm_qe, zm_mm, zt_lt, zf_lt, zt_le, zf_le, zt_eq, zf_eq, z_upd, z_updL, z_b1, z_b2, z_b3, z_b4, z_b5, z_b6, z_b7, z_b8, z_b9, z_b10, z_b11, z_b12, z_b13, z_b14, z_b15, z_b16, z_b17, z_b18, z_b19, z_b20, ↓reduceIte, or_false, false_or, or_self, true_or, or_true, and_true, true_and, and_false, false_and, not_true_eq_false, not_false_eq_true, ite_self, reduceCtorEq, Nat.reduceAdd, Nat.reduceMul, Nat.reduceSub, Nat.reducePow, Nat.reduceDiv, Nat.reduceMod, Nat.reduceLT, Nat.reduceLeDiff, Nat.reduceEqDiff, Nat.add_zero, Nat.zero_add, Nat.mul_one, Nat.one_mul, Nat.mul_zero, Nat.zero_mul, Nat.sub_zero, Nat.not_lt_zero, Nat.zero_le]
        · have hst : ystr y c = true := by rw [hstr]; simp [ho, hlo]
          by_cases hans : nI (say y (G.2 s) c) = yans y c
          · have hot : otr y (G.2 s) c = false := by unfold otr; rw [hst, hans]; simp
            refine some_case hot ?_
            unfold F_X10_leadsOn
            rw [hL1]
            simp (disch := omega) only [hdk, hlk, hfull, hrow, hmay, g1, g2, g3, g6, hkd, hdone, hsay, hhas, ho', hlo, hans, Bool.false_eq_true, zl_0, zl_1, zl_2, zl_3, zl_4, zl_5, zl_6, zl_7, zl_8, zl_9, zl_10, zl_12, zl_14, zl_15, zl_16, zl_17, zl_18, zl_20, zl_24, zl_31, zl_32, zl_44, zl_48, zl_57, zl_59, zl_63, zl_64, zl_70, zl_74, zl_75, zl_97, zl_99, zl_100, zl_122, zl_140, zl_141, zl_142, zl_255, zl_900, zl_999, zl_1000, zl_1998, zl_6000, zl_6001, zl_16383, zl_16384, zl_65536, zl_65537, zq_add, zq_mul, zq_sub, zd_lt, zd_le, zd_eq, zd_cl, zm_lt, zm_le, zm_gt, zm_ge, zm_eq, zm_qe, zm_mm, zt_lt, zf_lt, zt_le, zf_le, zt_eq, zf_eq, z_upd, z_updL, z_b1, z_b2, z_b3, z_b4, z_b5, z_b6, z_b7, z_b8, z_b9, z_b10, z_b11, z_b12, z_b13, z_b14, z_b15, z_b16, z_b17, z_b18, z_b19, z_b20, ↓reduceIte, or_false, false_or, or_self, true_or, or_true, and_true, true_and, and_false, false_and, not_true_eq_false, not_false_eq_true, ite_self, reduceCtorEq, Nat.reduceAdd, Nat.reduceMul, Nat.reduceSub, Nat.reducePow, Nat.reduceDiv, Nat.reduceMod, Nat.reduceLT, Nat.reduceLeDiff, Nat.reduceEqDiff, Nat.add_zero, Nat.zero_add, Nat.mul_one, Nat.one_mul, Nat.mul_zero, Nat.zero_mul, Nat.sub_zero, Nat.not_lt_zero, Nat.zero_le]
          · have hot : otr y (G.2 s) c = true := by unfold otr; rw [hst]; simp [hans]
            refine none_case (nI (say y (G.2 s) c)) (by unfold nst; rw [hnx]; simp only [hot, ↓reduceIte]) (Or.inr ⟨c, hnx, hot⟩) ?_
            unfold F_X10_leadsOn
            rw [hL1]
            simp (disch := omega) only [hdk, hlk, hfull, hrow, hmay, g1, g2, g3, g6, hkd, hdone, hsay, hhas, ho', hlo, hans, Bool.false_eq_true, zl_0, zl_1, zl_2, zl_3, zl_4, zl_5, zl_6, zl_7, zl_8, zl_9, zl_10, zl_12, zl_14, zl_15, zl_16, zl_17, zl_18, zl_20, zl_24, zl_31, zl_32, zl_44, zl_48, zl_57, zl_59, zl_63, zl_64, zl_70, zl_74, zl_75, zl_97, zl_99, zl_100, zl_122, zl_140, zl_141, zl_142, zl_255, zl_900, zl_999, zl_1000, zl_1998, zl_6000, zl_6001, zl_16383, zl_16384, zl_65536, zl_65537, zq_add, zq_mul, zq_sub, zd_lt, zd_le, zd_eq, zd_cl, zm_lt, zm_le, zm_gt, zm_ge, zm_eq, zm_qe, zm_mm, zt_lt, zf_lt, zt_le, zf_le, zt_eq, zf_eq, z_upd, z_updL, z_b1, z_b2, z_b3, z_b4, z_b5, z_b6, z_b7, z_b8, z_b9, z_b10, z_b11, z_b12, z_b13, z_b14, z_b15, z_b16, z_b17, z_b18, z_b19, z_b20, ↓reduceIte, or_false, false_or, or_self, true_or, or_true, and_true, true_and, and_false, false_and, not_true_eq_false, not_false_eq_true, ite_self, reduceCtorEq, Nat.reduceAdd, Nat.reduceMul, Nat.reduceSub, Nat.reducePow, Nat.reduceDiv, Nat.reduceMod, Nat.reduceLT, Nat.reduceLeDiff, Nat.reduceEqDiff, Nat.add_zero, Nat.zero_add, Nat.mul_one, Nat.one_mul, Nat.mul_zero, Nat.zero_mul, Nat.sub_zero, Nat.not_lt_zero, Nat.zero_le]
    · rw [if_neg hnxo] at hnx hmay
      refine none_case ans (by unfold nst; rw [hnx]) (Or.inl hnx) ?_
      unfold F_X10_leadsOn
      simp (disch := omega) only [hdk, hlk, hfull, hrow, hmay, zl_0, zl_1, zl_2, zl_3, zl_4, zl_5, zl_6, zl_7, zl_8, zl_9, zl_10, zl_12, zl_14, zl_15, zl_16, zl_17, zl_18, zl_20, zl_24, zl_31, zl_32, zl_44, zl_48, zl_57, zl_59, zl_63, zl_64, zl_70, zl_74, zl_75, zl_97, zl_99, zl_100, zl_122, zl_140, zl_141, zl_142, zl_255, zl_900, zl_999, zl_1000, zl_1998, zl_6000, zl_6001, zl_16383, zl_16384, zl_65536, zl_65537, zq_add, zq_mul, zq_sub, zd_lt, zd_le, zd_eq, zd_cl, zm_lt, zm_le, zm_gt, zm_ge, zm_eq, zm_qe, zm_mm, zt_lt, zf_lt, zt_le, zf_le, zt_eq, zf_eq, z_upd, z_updL, z_b1, z_b2, z_b3, z_b4, z_b5, z_b6, z_b7, z_b8, z_b9, z_b10, z_b11, z_b12, z_b13, z_b14, z_b15, z_b16, z_b17, z_b18, z_b19, z_b20, ↓reduceIte, or_false, false_or, or_self, true_or, or_true, and_true, true_and, and_false, false_and, not_true_eq_false, not_false_eq_true, ite_self, reduceCtorEq, Nat.reduceAdd, Nat.reduceMul, Nat.reduceSub, Nat.reducePow, Nat.reduceDiv, Nat.reduceMod, Nat.reduceLT, Nat.reduceLeDiff, Nat.reduceEqDiff, Nat.add_zero, Nat.zero_add, Nat.mul_one, Nat.one_mul, Nat.mul_zero, Nat.zero_mul, Nat.sub_zero, Nat.not_lt_zero, Nat.zero_le]
