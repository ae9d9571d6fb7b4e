/-! the reference's could -/
theorem X10_lc145 {p : Nat → Bool} {could : Nat → Int32} (hp : ∀ v, v < 100 → could v = nI (if p v = true then 1 else 0)) {a1 a2 a3 a4 a5 a6 a7 a8 : Int32} {w long row' slot doneOf next heard leads : Nat → Int32} {tills : Nat → Int64} :
    ∀ (j kf i : Nat), j < kf → i + j = 100 → F_X10_layCould_b145 a1 a2 a3 a4 a5 a6 a7 a8 w long row' slot doneOf tills next heard leads could kf (nI (fb_ct p i)) (nI i) = some (nI (fb_ct p 100), a1, a2, a3, a4, a5, a6, a7, a8, w, long, row', slot, doneOf, tills, next, heard, leads, could)
  | 0, kf, i, hj, hi => by
    obtain ⟨g, rfl⟩ : ∃ g, kf = g + 1 := ⟨kf - 1, by omega⟩
    have : i = 100 := by omega
    subst this
    rw [F_X10_layCould_b145, if_pos (by decide)]
  | j + 1, kf, i, hj, hi => by
    obtain ⟨g, rfl⟩ : ∃ g, kf = g + 1 := ⟨kf - 1, by omega⟩
    have ih := X10_lc145 hp (a1 := a1) (a2 := a2) (a3 := a3) (a4 := a4) (a5 := a5) (a6 := a6) (a7 := a7) (a8 := a8) (w := w) (long := long) (row' := row') (slot := slot) (doneOf := doneOf) (next := next) (heard := heard) (leads := leads) (tills := tills) j g (i + 1) (by omega) (by omega)
    have hle := fb_ct_le p i
    have i1 : nI i + (1 : Int32) = nI (i + 1) := by rw [zl_1, zq_add]
    rw [F_X10_layCould_b145, if_neg (by rw [zl_99, zd_lt (by omega) (by omega)]; omega), if_neg (nI_in (by omega) (by omega)), zd_cl (by omega), hp i (by omega)]
    unfold F_X10_layCould_b169
    rw [i1]
    rw [fb_ct_succ] at ih
    by_cases c : p i = true
    · rw [if_pos c] at ih
      rw [if_pos c, if_neg n1_0, zl_1, zq_add]
      exact ih
    · rw [if_neg c] at ih
      rw [if_neg c, if_pos n0_0, zl_0, zq_add]
      exact ih
theorem X10_lc57 {fu : Nat} (hfu : 20000 ≤ fu) {y : Sy} (hw : WF y) {G : Gr} (hG : GO y G) {long row' w doneOf slot next heard leads : Nat → Int32} {tills : Nat → Int64} (hRw : rows_ok y long row') (hRR : RR y G doneOf tills) (hn : NX y G next) (hH : HE y G (4 * G.1) heard) (hl : ∀ i, i < G.1 → isB (leads i) (CE y (G.2 i)))
    {c0 : Nat} (hc : c0 < ym y) {a1 a2 a3 a4 a5 a6 a7 a8 : Int32} (ha7 : a7 = nI G.1) :
    ∀ (j kf s : Nat) (could : Nat → Int32), j < kf → s + j = G.1 → (∀ v, v < 100 → could v = nI (if cset y c0 G.2 s v = true then 1 else 0)) →
    ∃ could', F_X10_layCould_b57 fu a1 a2 a3 a4 a5 a6 a7 a8 w long row' slot doneOf tills next heard leads (nI c0) (nI (ycsh y c0)) kf could (nI s) = some (nI (fb_ct (cset y c0 G.2 G.1) 100), a1, a2, a3, a4, a5, a6, a7, a8, w, long, row', slot, doneOf, tills, next, heard, leads, could') ∧
      ∀ v, v < 100 → could' v = nI (if cset y c0 G.2 G.1 v = true then 1 else 0)
  | 0, kf, s, could, hj, hk, hcd => by
    obtain ⟨g, rfl⟩ : ∃ g, kf = g + 1 := ⟨kf - 1, by omega⟩
    have h6 := hG.2.1
    have : s = G.1 := by omega
    rw [F_X10_layCould_b57, if_pos (by rw [ha7, zd_le (by omega) (by omega)]; omega)]
    rw [this] at hcd
    exact ⟨could, X10_lc145 hcd 100 fu 0 (by omega) (by omega), hcd⟩
  | j + 1, kf, s, could, hj, hk, hcd => by
    obtain ⟨g, rfl⟩ : ∃ g, kf = g + 1 := ⟨kf - 1, by omega⟩
    have h6 := hG.2.1
    have hs : s < G.1 := by omega
    have hx := hG.2.2.2.2.1 s hs
    have hq4 := (hw.2.2.2.1 c0 hc).1
    have hm := hw.1
    have i1 : nI s + (1 : Int32) = nI (s + 1) := by rw [zl_1, zq_add]
    have i4 : (4 : Int32) * nI s + nI (ycsh y c0) = nI (4 * s + ycsh y c0) := by rw [zl_4, zq_mul, zq_add]
    have ih := fun could h => X10_lc57 hfu hw hG (w := w) (slot := slot) (a1 := a1) (a2 := a2) (a3 := a3) (a4 := a4) (a5 := a5) (a6 := a6) (a7 := a7) (a8 := a8) hRw hRR hn hH hl hc ha7 j g (s + 1) could (by omega) (by omega) h
    rw [F_X10_layCould_b57, if_neg (by rw [ha7, zd_le (by omega) (by omega)]; omega), i4, if_neg (nI_in (by omega) (by omega)), zd_cl (by omega), hn s _ hs hq4]
    unfold F_X10_layCould_b133
    rw [i1]
    rcases e : nst y (ycsh y c0) (G.2 s) with _ | z
    · have hcd0 : cd G none = -1 := rfl
      have ho : oa y c0 (G.2 s) = none := by
        unfold oa lds lde
        rw [e, if_neg]
        rintro ⟨h1, _⟩
        exact Bool.noConfusion h1
      rw [cset_none ho] at ih
      rw [hcd0, if_pos (by decide)]
      exact ih could hcd
    · have hcd0 : cd G (some z) = nI (fnd G z) := rfl
      obtain ⟨f1, f2⟩ := hG.2.2.2.2.2.1 s _ z hs hq4 e
      have hld := hl _ f1
      rw [fnd_lt f1] at hld
      have hokz := (nst_okS hw hx e).1
      rw [hcd0, if_neg (nI_pos (by omega)), if_neg (zin (by omega) (by omega)), if_neg (nI_in (by omega : fnd G z < 6001) (by omega)), zd_cl (by omega)]
      rcases hld with ⟨q1, q2⟩ | ⟨q1, q2⟩
      · have hpz := (PW_CE hw hokz).mpr q2
        have hl1 : lds y (G.2 s) (ycsh y c0) = true := by unfold lds lde; rw [e]; exact decide_eq_true hpz
        obtain ⟨hrw, hrk⟩ := rnk_nx hx (nst_nx e)
        have hdk := (hRR s hs).1 _ hq4
        have hle := Nat.le_trans (cnt_le (y := y) (q := ycsh y c0) (D := (G.2 s).1)) (lng_le hw)
        have hclt := rnk_lt (nx_some.mp (nst_nx e)).1 hrw
        have hll := lng_le hw (q := ycsh y c0)
        have hrow := hRw.2 _ _ hq4 (nx_some.mp (nst_nx e)).1 hrw
        have hcl := cl_lt hw e
        rw [hrk] at hrow
        rw [q1, if_neg n1_0, if_neg (zin (by omega) (by omega)), hdk, zl_20, zq_mul, zq_add, if_neg (nI_in (by omega) (by omega)), zd_cl (by omega), hrow]
        by_cases d : cl y (G.2 s) (ycsh y c0) = c0
        · have ho : oa y c0 (G.2 s) = some (say y (G.2 s) c0) := by unfold oa; rw [if_pos ⟨hl1, d⟩]
          have ha := oa_lt hw hx hc ho
          have hnx := nst_nx e
          rw [d] at hnx
          have hot : otr y (G.2 s) c0 = false := by
            obtain ⟨c, h1, h2, _⟩ := nst_some e
            rw [h1] at hnx
            injection hnx with hnx
            rw [← hnx]; exact h2
          have hhe := hH s _ c0 (by omega) hq4 hnx hot
          rw [d, if_pos rfl, if_neg (zin (by omega) (by omega)), hhe, if_neg (nI_in (by omega) (by omega)), zd_cl (by omega), zl_1, nar_nI1]
          refine ih _ (fun v hv => ?_)
          rw [cset_some ho, z_upd]
          by_cases q : v = say y (G.2 s) c0
          · rw [if_pos q]; simp only [q, ↓reduceIte]
          · rw [if_neg q, hcd v hv]; simp only [q, ↓reduceIte]
        · have ho : oa y c0 (G.2 s) = none := by unfold oa; rw [if_neg (fun h => d h.2)]
          rw [cset_none ho] at ih
          rw [if_neg (by rw [zd_eq (by omega) (by omega)]; exact d)]
          exact ih could hcd
      · have hl0 : ¬ lds y (G.2 s) (ycsh y c0) = true := by
          unfold lds lde; rw [e]
          intro h
          exact q2 ((PW_CE hw hokz).mp (of_decide_eq_true h))
        have ho : oa y c0 (G.2 s) = none := by unfold oa; rw [if_neg (fun h => hl0 h.1)]
        rw [cset_none ho] at ih
        rw [q1, if_pos n0_0]
        exact ih could hcd
theorem X10_lc23 {fu : Nat} {a1 a2 a3 a4 a5 a6 a7 a8 v2 : Int32} {w long row' slot doneOf next heard leads : Nat → Int32} {tills : Nat → Int64} (R : Nat → Nat → (Nat → Int32) → Option (Int32 × Int32 × Int32 × Int32 × Int32 × Int32 × Int32 × Int32 × Int32 × (Nat → Int32) × (Nat → Int32) × (Nat → Int32) × (Nat → Int32) × (Nat → Int32) × (Nat → Int64) × (Nat → Int32) × (Nat → Int32) × (Nat → Int32) × (Nat → Int32))) :
    ∀ (j kf i : Nat) (could : Nat → Int32), j < kf → i + j = 100 → (∀ v, v < i → could v = nI 0) → ∃ could', F_X10_layCould_b23 fu a1 a2 a3 a4 a5 a6 a7 a8 w long row' slot doneOf tills next heard leads v2 kf could (nI i) =
      (if ((7 : Int32) * v2 + 0) < 0 ∨ 142 ≤ ((7 : Int32) * v2 + 0).toNatClampNeg then none else F_X10_layCould_b57 fu a1 a2 a3 a4 a5 a6 a7 a8 w long row' slot doneOf tills next heard leads v2 (w ((7 : Int32) * v2 + 0).toNatClampNeg) fu could' 0) ∧ ∀ v, v < 100 → could' v = nI 0
  | 0, kf, i, could, hj, hi, hcd => by
    obtain ⟨g, rfl⟩ : ∃ g, kf = g + 1 := ⟨kf - 1, by omega⟩
    have : i = 100 := by omega
    subst this
    rw [F_X10_layCould_b23, if_pos (by decide)]
    exact ⟨could, rfl, hcd⟩
  | j + 1, kf, i, could, hj, hi, hcd => by
    obtain ⟨g, rfl⟩ : ∃ g, kf = g + 1 := ⟨kf - 1, by omega⟩
    have i1 : nI i + (1 : Int32) = nI (i + 1) := by rw [zl_1, zq_add]
    rw [F_X10_layCould_b23, if_neg (by rw [zl_99, zd_lt (by omega) (by omega)]; omega), if_neg (nI_in (by omega) (by omega)), i1, zd_cl (by omega)]
    refine X10_lc23 R j g (i + 1) _ (by omega) (by omega) (fun v hv => ?_)
    rw [z_upd]
    by_cases q : v = i
    · rw [if_pos q]; exact nar_nI0
    · rw [if_neg q]; exact hcd v (by omega)
theorem MS_Yc {K : Ca} {kd : Nat → Nat} {nt late : Nat} {st r : Nat → Int32} (h : MS K kd nt late st r) (k c0 : Nat) : WF (Yc K kd nt late k c0) :=
  WF_sysK h.1 h.2.1 h.2.2.1 (Int.natCast_nonneg _) (fun a ha => ⟨((okI_k K).1 a ha).1, ((okI_k K).1 a ha).2.1⟩) (fun a ha => ((okI_k K).2 a ha).2)
theorem X10_layCould {fu : Nat} (hfu : 20000 ≤ fu) {K : Ca} {kd : Nat → Nat} {nt late : Nat} {st w r : Nat → Int32} (hM : MS K kd nt late st r) {k c0 : Nat} (hk : k ≤ 2) (hc : c0 < cm K)
    {ans : Int32} {long row' slot doneOf next heard leads could : Nat → Int32} {tills : Nat → Int64} :
    ∃ v ans' th' lo' on' mi' bk' sn' isF' w' long' row2 slot' doneOf' tills' next' heard' leads' could', F_X10_layCould fu ans st w r long row' slot doneOf tills next heard leads could (nI k) (nI c0) =
      some (v, ans', th', lo', on', mi', bk', sn', isF', w', long', row2, slot', doneOf', tills', next', heard', leads', could') ∧ (full (Yc K kd nt late k c0) = true → v = -1) ∧
      (full (Yc K kd nt late k c0) = false → v = nI (fb_ct (cdp K kd nt late k c0) 100) ∧ ∀ v, v < 100 → could' v = nI (if cdp K kd nt late k c0 v = true then 1 else 0)) := by
  obtain ⟨hK, hnt, hkd, hl, h, hr⟩ := hM
  have hw := MS_Yc ⟨hK, hnt, hkd, hl, h, hr⟩ k c0
  have hm := hK.1
  obtain ⟨w', e1, h1, _⟩ := layCalls (w := w) hfu hK.1 h hr
  have hE : RE (Yc K kd nt late k c0) w' (nI (2 ^ c0)) (nI late) (nI k) := by
    refine RK_RE hK h1 hl (Nat.pow_lt_pow_right (by omega) (by omega)) (by omega) (fun c hc => okC_e hK hc) (fun c hc => ?_) (fun c hc hi => ?_) (fun a c ha hc _ _ => gapped_k (kd := kd) hK ha hc ?_)
    · unfold enb alb; rfl
    · unfold colb enb
      rw [Nat.testBit_two_pow]
      by_cases q : c0 = c
      · subst q; simp
      · have : ¬ c = c0 := fun h => q h.symm
        simp [q, this, hc]
    · unfold enb; simp [ha]
  have hI : RI (Yc K kd nt late k c0) (nI (msk (fun _ => true) (cm K))) (-1) w' := RI_k (kd := kd) (nt := nt) (late := late) (kind := k) hm
  obtain ⟨ans', n', full', long', row2, slot', doneOf', tills', next', heard', leads', e2, h2⟩ := X10_comes (ans := ans) (long := long) (row' := row') (slot := slot) (doneOf := doneOf) (next := next) (heard := heard) (leads := leads) (tills := tills) hfu hw (RK_RW h1) hI hE (RL_kinds hr)
  have i1 : (1 : Int32) <<< (nI c0 &&& 31) = nI (2 ^ c0) := by
    have := zs_one (show c0 < 32 by omega)
    exact this
  unfold F_X10_layCould
  rw [e1, z_b5, i1]
  rw [e2, z_b13]
  by_cases c : full (Yc K kd nt late k c0) = true
  · rw [if_pos c, if_pos n0_0]
    exact ⟨_, _, _, _, _, _, _, _, _, _, _, _, _, _, _, _, _, _, _, rfl, fun _ => rfl, fun h => by rw [c] at h; cases h⟩
  · have c' : full (Yc K kd nt late k c0) = false := by simpa using c
    obtain ⟨b1, b2, b3, b4, b5, b6⟩ := h2 c'
    have hG := GO_gr hw c'
    rw [if_neg c, if_neg n1_0]
    obtain ⟨could1, e3, h3⟩ := X10_lc23 (fu := fu) (a1 := ans') (a2 := nI (msk (fun _ => true) (cm K))) (a3 := nI (2 ^ c0)) (a4 := -1) (a5 := nI late) (a6 := nI k) (a7 := n') (a8 := full') (v2 := nI c0) (w := w') (long := long') (row' := row2) (slot := slot') (doneOf := doneOf') (tills := tills') (next := next') (heard := heard') (leads := leads') (fun _ _ _ => none) 100 fu 0 could (by omega) (by omega) (fun v hv => by omega)
    have e3' : F_X10_layCould_b23 fu ans' (nI (msk (fun _ => true) (cm K))) (nI (2 ^ c0)) (-1) (nI late) (nI k) n' full' w' long' row2 slot' doneOf' tills' next' heard' leads' (nI c0) fu could 0 = _ := e3
    have i7 : ((7 : Int32) * nI c0 + 0) = nI (7 * c0) := by rw [zl_7, zl_0, zq_mul, zq_add]; rfl
    rw [e3', i7, if_neg (nI_in (by omega) (by omega)), zd_cl (by omega), (h1.2 c0 hc).1]
    obtain ⟨could', e4, h4⟩ := X10_lc57 (a1 := ans') (a2 := nI (msk (fun _ => true) (cm K))) (a3 := nI (2 ^ c0)) (a4 := -1) (a5 := nI late) (a6 := nI k) (a7 := n') (a8 := full') (w := w') (slot := slot') hfu hw hG b2 b3 b4 b5 b6 hc b1 (gr (Yc K kd nt late k c0)).1 fu 0 could1 (by have := hG.2.1; omega) (by omega) (fun v hv => h3 v hv)
    have e4' : F_X10_layCould_b57 fu ans' (nI (msk (fun _ => true) (cm K))) (nI (2 ^ c0)) (-1) (nI late) (nI k) n' full' w' long' row2 slot' doneOf' tills' next' heard' leads' (nI c0) (nI (cq K c0)) fu could1 0 = _ := e4
    rw [e4']
    exact ⟨_, _, _, _, _, _, _, _, _, _, _, _, _, _, _, _, _, _, _, rfl, fun h => absurd h c, fun _ => ⟨rfl, h4⟩⟩
