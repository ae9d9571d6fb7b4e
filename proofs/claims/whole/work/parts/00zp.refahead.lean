theorem X10_lb29 {fu : Nat} {y : Sy} (hw : WF y) {G : Gr} (hG : GO y G) {long row' doneOf next leads brings : Nat → Int32} {tills : Nat → Int64} (hRw : rows_ok y long row') (hRR : RR y G doneOf tills) (hn : NX y G next) (hl : ∀ i, i < G.1 → isB (leads i) (CE y (G.2 i)))
    {c : Nat} (hc : c < 20) (hcq : ycsh y c < 4) (k19 : (Nat → Int32) → Int32 → Option (Nat → Int32)) {s : Nat} (hs : s < G.1) (hbr : ∀ i, s < i → i < G.1 → isB (brings i) (BR y c (G.2 i))) :
    ∀ (j kf k : Nat) (b : Int32) (P : Prop), isB b P → j < kf → k + j = 4 →
    ∃ b', isB b' (P ∨ ∃ k' z, k ≤ k' ∧ k' < 4 ∧ nst y k' (G.2 s) = some z ∧ ((cl y (G.2 s) k' = c ∧ CE y z) ∨ (cl y (G.2 s) k' ≠ c ∧ BR y c z))) ∧
      F_X10_layBrings_b29 k19 fu brings next doneOf row' leads (nI c) (nI (ycsh y c)) (nI s) kf b (nI k) = k19 (upd brings s b') (nI s - nI 1)
  | 0, kf, k, b, P, hb, hj, hk => by
    obtain ⟨g, rfl⟩ : ∃ g, kf = g + 1 := ⟨kf - 1, by omega⟩
    have : k = 4 := by omega
    subst this
    have h6 := hG.2.1
    refine ⟨b, isB_iff hb ⟨Or.inl, fun h => ?_⟩, ?_⟩
    · rcases h with h | ⟨k, z, h1, h2, _⟩
      · exact h
      · omega
    · rw [F_X10_layBrings_b29, if_pos (by decide), if_neg (nI_in (by omega) (by omega)), zd_cl (by omega), zpm]
      rcases hb with ⟨rfl, _⟩ | ⟨rfl, _⟩
      · rw [nar_nI1]
      · rw [nar_nI0]
  | j + 1, kf, k, b, P, hb, hj, hk => by
    obtain ⟨g, rfl⟩ : ∃ g, kf = g + 1 := ⟨kf - 1, by omega⟩
    have h6 := hG.2.1
    have hx := hG.2.2.2.2.1 s hs
    have ih := fun b P hb => X10_lb29 (fu := fu) hw hG hRw hRR hn hl hc hcq k19 hs hbr j g (k + 1) b P hb (by omega) (by omega)
    have i4 : (4 : Int32) * nI s + nI k = nI (4 * s + k) := by rw [zl_4, zq_mul, zq_add]
    have i1 : nI k + (1 : Int32) = nI (k + 1) := by rw [zl_1, zq_add]
    rw [F_X10_layBrings_b29, if_neg (by rw [zl_4, zd_le (by omega) (by omega)]; omega)]
    unfold F_X10_layBrings_b90 F_X10_layBrings_b91 F_X10_layBrings_b126 F_X10_layBrings_b130 F_X10_layBrings_b131 F_X10_layBrings_b133
    rw [i4, i1, if_neg (nI_in (by omega) (by omega)), zd_cl (by omega), hn s k hs (by omega)]
    rcases e : nst y k (G.2 s) with _ | z
    · have hcd : cd G none = -1 := rfl
      rw [hcd, if_neg (by decide)]
      obtain ⟨b', h1, h2⟩ := ih b P hb
      refine ⟨b', isB_iff h1 ?_, h2⟩
      constructor
      · rintro (h | ⟨k', z, h1, h2⟩)
        · exact Or.inl h
        · exact Or.inr ⟨k', z, by omega, h2⟩
      · rintro (h | ⟨k', z, h1, h2, h3, h4⟩)
        · exact Or.inl h
        · by_cases q : k' = k
          · subst q; rw [e] at h3; cases h3
          · exact Or.inr ⟨k', z, by omega, h2, h3, h4⟩
    · have hcd : cd G (some z) = nI (fnd G z) := rfl
      obtain ⟨f1, f2⟩ := hG.2.2.2.2.2.1 s k z hs (by omega) e
      have hld := hl _ f1
      have hbd := hbr _ f2 f1
      rw [fnd_lt f1] at hld hbd
      -- this call's part
      have fin : ∀ (b1 : Int32), isB b1 (P ∨ ((cl y (G.2 s) k = c ∧ CE y z) ∨ (cl y (G.2 s) k ≠ c ∧ BR y c z))) →
          ∃ b', isB b' (P ∨ ∃ k' z, k ≤ k' ∧ k' < 4 ∧ nst y k' (G.2 s) = some z ∧ ((cl y (G.2 s) k' = c ∧ CE y z) ∨ (cl y (G.2 s) k' ≠ c ∧ BR y c z))) ∧
            F_X10_layBrings_b29 k19 fu brings next doneOf row' leads (nI c) (nI (ycsh y c)) (nI s) g b1 (nI (k + 1)) = k19 (upd brings s b') (nI s - nI 1) := by
        intro b1 hb1
        obtain ⟨b', h1, h2⟩ := ih b1 _ hb1
        refine ⟨b', isB_iff h1 ?_, h2⟩
        constructor
        · rintro ((h | h) | ⟨k', z', h1, h2⟩)
          · exact Or.inl h
          · exact Or.inr ⟨k, z, Nat.le_refl _, by omega, e, h⟩
          · exact Or.inr ⟨k', z', by omega, h2⟩
        · rintro (h | ⟨k', z', h1, h2, h3, h4⟩)
          · exact Or.inl (Or.inl h)
          · by_cases q : k' = k
            · subst q
              rw [e] at h3
              injection h3 with h3
              subst h3
              exact Or.inl (Or.inr h4)
            · exact Or.inr ⟨k', z', by omega, h2, h3, h4⟩
      have hcsh := cl_csh e
      have hcl := cl_lt hw e
      -- either way of the look
      have look : ∀ (t0 : Int32), (t0 = nI 1 ∧ cl y (G.2 s) k = c) ∨ (t0 = nI 0 ∧ cl y (G.2 s) k ≠ c) →
          ∃ b', isB b' (P ∨ ∃ k' z, k ≤ k' ∧ k' < 4 ∧ nst y k' (G.2 s) = some z ∧ ((cl y (G.2 s) k' = c ∧ CE y z) ∨ (cl y (G.2 s) k' ≠ c ∧ BR y c z))) ∧
            (if b = 0 then
              if t0 = 0 then
                if nI (fnd G z) < 0 ∨ 6001 ≤ (nI (fnd G z)).toNatClampNeg then none else
                if (brings (nI (fnd G z)).toNatClampNeg) = 0 then
                  F_X10_layBrings_b29 k19 fu brings next doneOf row' leads (nI c) (nI (ycsh y c)) (nI s) g (0 : Int32) (nI (k + 1))
                else
                  F_X10_layBrings_b29 k19 fu brings next doneOf row' leads (nI c) (nI (ycsh y c)) (nI s) g (1 : Int32) (nI (k + 1))
              else
              if nI (fnd G z) < 0 ∨ 6001 ≤ (nI (fnd G z)).toNatClampNeg then none else
              if (leads (nI (fnd G z)).toNatClampNeg) = 0 then
                F_X10_layBrings_b29 k19 fu brings next doneOf row' leads (nI c) (nI (ycsh y c)) (nI s) g (0 : Int32) (nI (k + 1))
              else
                F_X10_layBrings_b29 k19 fu brings next doneOf row' leads (nI c) (nI (ycsh y c)) (nI s) g (1 : Int32) (nI (k + 1))
            else
              F_X10_layBrings_b29 k19 fu brings next doneOf row' leads (nI c) (nI (ycsh y c)) (nI s) g (1 : Int32) (nI (k + 1))) = k19 (upd brings s b') (nI s - nI 1) := by
        intro t0 ht
        have hG6 : fnd G z < 6001 := by omega
        rcases hb with ⟨rfl, hP⟩ | ⟨rfl, hP⟩
        · rw [if_neg n1_0]
          exact fin 1 (Or.inl ⟨rfl, Or.inl hP⟩)
        · rw [if_pos n0_0]
          rcases ht with ⟨rfl, ht⟩ | ⟨rfl, ht⟩
          · rw [if_neg n1_0, if_neg (nI_in hG6 (by omega)), zd_cl (by omega)]
            rcases hld with ⟨q1, q2⟩ | ⟨q1, q2⟩
            · rw [q1, if_neg n1_0]; exact fin 1 (Or.inl ⟨rfl, Or.inr (Or.inl ⟨ht, q2⟩)⟩)
            · rw [q1, if_pos n0_0]
              refine fin 0 (Or.inr ⟨rfl, ?_⟩)
              rintro (h | h | h)
              · exact hP h
              · exact q2 h.2
              · exact h.1 ht
          · rw [if_pos n0_0, if_neg (nI_in hG6 (by omega)), zd_cl (by omega)]
            rcases hbd with ⟨q1, q2⟩ | ⟨q1, q2⟩
            · rw [q1, if_neg n1_0]; exact fin 1 (Or.inl ⟨rfl, Or.inr (Or.inr ⟨ht, q2⟩)⟩)
            · rw [q1, if_pos n0_0]
              refine fin 0 (Or.inr ⟨rfl, ?_⟩)
              rintro (h | h | h)
              · exact hP h
              · exact ht h.1
              · exact q2 h.2
      rw [hcd, if_pos (nI_pos' (by omega))]
      by_cases ck : k = ycsh y c
      · obtain ⟨hrw, hrk⟩ := rnk_nx hx (nst_nx e)
        have hdk := (hRR s hs).1 k (by omega)
        have hclt := rnk_lt (nx_some.mp (nst_nx e)).1 hrw
        have hll := lng_le hw (q := k)
        have hrow := hRw.2 k _ (by omega) (nx_some.mp (nst_nx e)).1 hrw
        rw [hrk] at hrow
        have i4' : (4 : Int32) * nI s + nI (ycsh y c) = nI (4 * s + ycsh y c) := by rw [zl_4, zq_mul, zq_add]
        rw [if_pos (by rw [ck]), i4', ← ck, if_neg (nI_in (by omega : 4 * s + k < 24004) (by omega)), zd_cl (by omega), hdk, zl_20, zq_mul, zq_add, if_neg (nI_in (by omega) (by omega)), zd_cl (by omega), hrow]
        have hq : (nI (cl y (G.2 s) k) = nI c) = (cl y (G.2 s) k = c) := zd_eq (by omega) (by omega)
        rw [ck] at look ⊢
        rw [ck] at hq
        by_cases cc : cl y (G.2 s) (ycsh y c) = c
        · rw [if_pos (by rw [hq]; exact cc)]
          exact look 1 (Or.inl ⟨rfl, cc⟩)
        · rw [if_neg (by rw [hq]; exact cc)]
          exact look 0 (Or.inr ⟨rfl, cc⟩)
      · rw [if_neg (by rw [zd_eq (by omega) (by omega)]; exact ck)]
        have hne : cl y (G.2 s) k ≠ c := by
          intro q
          rw [q] at hcsh
          exact ck hcsh.symm
        exact look 0 (Or.inr ⟨rfl, hne⟩)
theorem X10_lb19 {fu : Nat} (hfu : 20000 ≤ fu) {y : Sy} (hw : WF y) {G : Gr} (hG : GO y G) {long row' doneOf next leads : Nat → Int32} {tills : Nat → Int64} (hRw : rows_ok y long row') (hRR : RR y G doneOf tills) (hn : NX y G next) (hl : ∀ i, i < G.1 → isB (leads i) (CE y (G.2 i)))
    {c : Nat} (hc : c < 20) (hcq : ycsh y c < 4) : ∀ (n kf : Nat) (brings : Nat → Int32), n < kf → n ≤ G.1 → (∀ i, n ≤ i → i < G.1 → isB (brings i) (BR y c (G.2 i))) →
    ∃ brings', F_X10_layBrings_b19 fu next doneOf row' leads (nI c) (nI (ycsh y c)) kf brings (nI n - nI 1) = some brings' ∧ ∀ i, i < G.1 → isB (brings' i) (BR y c (G.2 i))
  | 0, kf, brings, hkf, hle, hb => by
    obtain ⟨g, rfl⟩ : ∃ g, kf = g + 1 := ⟨kf - 1, by omega⟩
    refine ⟨brings, ?_, fun i hi => hb i (Nat.zero_le _) hi⟩
    rw [F_X10_layBrings_b19, if_pos (by decide)]
  | n + 1, kf, brings, hkf, hle, hb => by
    obtain ⟨g, rfl⟩ : ∃ g, kf = g + 1 := ⟨kf - 1, by omega⟩
    have h6 := hG.2.1
    have e1 : nI (n + 1) - nI 1 = nI n := by rw [zq_sub (by omega)]; rfl
    obtain ⟨b', h1, h2⟩ := X10_lb29 (fu := fu) hw hG hRw hRR hn hl hc hcq (F_X10_layBrings_b19 fu next doneOf row' leads (nI c) (nI (ycsh y c)) g) (by omega : n < G.1) (fun i h1 h2 => hb i h1 h2) 4 fu 0 (nI 0) False (Or.inr ⟨rfl, fun h => h⟩) (by omega) (by omega)
    have h2' : F_X10_layBrings_b29 (F_X10_layBrings_b19 fu next doneOf row' leads (nI c) (nI (ycsh y c)) g) fu brings next doneOf row' leads (nI c) (nI (ycsh y c)) (nI n) fu 0 0 = F_X10_layBrings_b19 fu next doneOf row' leads (nI c) (nI (ycsh y c)) g (upd brings n b') (nI n - nI 1) := h2
    rw [e1, F_X10_layBrings_b19, if_neg (nI_pos (by omega)), h2']
    refine X10_lb19 hfu hw hG hRw hRR hn hl hc hcq n g (upd brings n b') (by omega) (by omega) (fun i hi1 hi2 => ?_)
    rw [z_upd]
    by_cases q : i = n
    · rw [if_pos q, q]
      refine isB_iff h1 ?_
      rw [BR_iff]
      constructor
      · rintro (h | ⟨k, z, _, h⟩)
        · exact h.elim
        · exact ⟨k, z, h⟩
      · rintro ⟨k, z, h⟩
        exact Or.inr ⟨k, z, Nat.zero_le _, h⟩
    · rw [if_neg q]
      exact hb i (by omega) hi2
theorem X10_ah75 {y : Sy} (hw : WF y) {G : Gr} (hG : GO y G) {long row' w slot doneOf next heard leads brings : Nat → Int32} {tills : Nat → Int64} (hRw : rows_ok y long row') (hRR : RR y G doneOf tills) (hn : NX y G next)
    {a c : Nat} (ha : a < 20) (haq : ycsh y a < 4) (hbr : ∀ i, i < G.1 → isB (brings i) (BR y c (G.2 i))) {a1 a2 a3 a4 a5 a6 a7 a8 a10 a11 : Int32} :
    ∀ (j kf s : Nat), j < kf → s + j = G.1 → (∀ i k z, i < s → k < 4 → nst y k (G.2 i) = some z → cl y (G.2 i) k = a → ¬ BR y c z) →
    ∃ v, F_X10_ahead_b75 a1 a2 a3 a4 a5 a6 a7 a8 (nI G.1) a10 a11 w long row' slot doneOf tills next heard leads brings (nI a) (nI (ycsh y a)) kf (nI s) = some (v, a1, a2, a3, a4, a5, a6, a7, a8, nI G.1, a10, a11, w, long, row', slot, doneOf, tills, next, heard, leads, brings) ∧ isB v (AHr y G a c)
  | 0, kf, s, hj, hs, hno => by
    obtain ⟨g, rfl⟩ : ∃ g, kf = g + 1 := ⟨kf - 1, by omega⟩
    have : s = G.1 := by omega
    subst this
    have h6 := hG.2.1
    refine ⟨nI 0, ?_, Or.inr ⟨rfl, fun ⟨i, k, z, h1, h2, h3, h4, h5⟩ => hno i k z h1 h2 h3 h4 h5⟩⟩
    rw [F_X10_ahead_b75, if_pos (by rw [zd_le (by omega) (by omega)]; omega)]
    rfl
  | j + 1, kf, s, hj, hs, hno => by
    obtain ⟨g, rfl⟩ : ∃ g, kf = g + 1 := ⟨kf - 1, by omega⟩
    have h6 := hG.2.1
    have hs' : s < G.1 := by omega
    have hx := hG.2.2.2.2.1 s hs'
    have i1 : nI s + (1 : Int32) = nI (s + 1) := by rw [zl_1, zq_add]
    have i4 : (4 : Int32) * nI s + nI (ycsh y a) = nI (4 * s + ycsh y a) := by rw [zl_4, zq_mul, zq_add]
    have ih := fun h => X10_ah75 hw hG (w := w) (slot := slot) (heard := heard) (leads := leads) (a1 := a1) (a2 := a2) (a3 := a3) (a4 := a4) (a5 := a5) (a6 := a6) (a7 := a7) (a8 := a8) (a10 := a10) (a11 := a11) hRw hRR hn ha haq hbr j g (s + 1) (by omega) (by omega) h
    have go_on : (∀ z, nst y (ycsh y a) (G.2 s) = some z → cl y (G.2 s) (ycsh y a) = a → ¬ BR y c z) → ∀ i k z, i < s + 1 → k < 4 → nst y k (G.2 i) = some z → cl y (G.2 i) k = a → ¬ BR y c z := by
      intro h i k z hi hk hz hcl
      by_cases q : i = s
      · subst q
        have := cl_csh hz
        rw [hcl] at this
        subst this
        exact h z hz hcl
      · exact hno i k z (by omega) hk hz hcl
    rw [F_X10_ahead_b75, if_neg (by rw [zd_le (by omega) (by omega)]; omega)]
    unfold F_X10_ahead_b146
    rw [i4, i1, if_neg (nI_in (by omega) (by omega)), if_neg (nI_in (by omega) (by omega)), zd_cl (by omega), hn s _ hs' haq]
    rcases e : nst y (ycsh y a) (G.2 s) with _ | z
    · have hcd : cd G none = -1 := rfl
      rw [hcd, if_pos (by decide)]
      exact ih (go_on (fun z hz => by rw [e] at hz; cases hz))
    · have hcd : cd G (some z) = nI (fnd G z) := rfl
      obtain ⟨f1, f2⟩ := hG.2.2.2.2.2.1 s _ z hs' haq e
      have hbd := hbr _ f1
      rw [fnd_lt f1] at hbd
      obtain ⟨hrw, hrk⟩ := rnk_nx hx (nst_nx e)
      have hdk := (hRR s hs').1 _ haq
      have hclt := rnk_lt (nx_some.mp (nst_nx e)).1 hrw
      have hll := lng_le hw (q := ycsh y a)
      have hrow := hRw.2 _ _ haq (nx_some.mp (nst_nx e)).1 hrw
      rw [hrk] at hrow
      have hcl := cl_lt hw e
      have hq : (nI (cl y (G.2 s) (ycsh y a)) = nI a) = (cl y (G.2 s) (ycsh y a) = a) := zd_eq (by omega) (by omega)
      rw [hcd, if_neg (nI_pos (by omega)), hdk, zl_20, zq_mul, zq_add, if_neg (nI_in (by omega) (by omega)), zd_cl (by omega), hrow]
      by_cases cc : cl y (G.2 s) (ycsh y a) = a
      · rw [if_pos (by rw [hq]; exact cc), if_neg (nI_in (by omega : fnd G z < 6001) (by omega)), zd_cl (by omega)]
        rcases hbd with ⟨q1, q2⟩ | ⟨q1, q2⟩
        · rw [q1, if_neg n1_0]
          exact ⟨nI 1, rfl, Or.inl ⟨rfl, s, _, z, hs', haq, e, cc, q2⟩⟩
        · rw [q1, if_pos n0_0]
          exact ih (go_on (fun z' hz' _ => by rw [e] at hz'; injection hz' with hz'; subst hz'; exact q2))
      · rw [if_neg (by rw [hq]; exact cc)]
        exact ih (go_on (fun z' _ h => absurd h cc))
theorem X10_ahead {fu : Nat} (hfu : 20000 ≤ fu) {K : Ca} {kd : Nat → Nat} {nt late : Nat} {st w r : Nat → Int32} (hM : MS K kd nt late st r) (told : Bool) (h0 : told = false → cm K = 0) (v a c : Int32)
    {ans th lo on mi bk sn isF cb : Int32} {long row' slot doneOf next heard leads brings : Nat → Int32} {tills : Nat → Int64} :
    ∃ ans' th' lo' on' mi' bk' sn' isF' cb' w' long' row2 slot' doneOf' tills' next' heard' leads' brings', F_X10_ahead fu (nI (if told = true then 1 else 0)) ans th lo on mi bk sn isF cb st w r long row' slot doneOf tills next heard leads brings v a c =
      some ((rs_ahead K kd nt late told v a c).1, nI 0, (rs_ahead K kd nt late told v a c).2, ans', th', lo', on', mi', bk', sn', isF', cb', w', long', row2, slot', doneOf', tills', next', heard', leads', brings') := by
  have hm := hM.1.1
  have hst : st 141 = nI (cm K) := hM.2.2.2.2.1.1
  unfold F_X10_ahead F_X10_ahead_b34 F_X10_good
  rw [zl_2, X10_isKind, z_b2, z_b1]
  rcases e : kin told v 2 with _ | k
  · have hrs : rs_ahead K kd nt late told v a c = (-1, nI 1) := by unfold rs_ahead; rw [e]
    rw [ifn, if_pos n0_0, hrs]
    exact ⟨ans, th, lo, on, mi, bk, sn, isF, cb, w, long, row', slot, doneOf, tills, next, heard, leads, brings, rfl⟩
  obtain ⟨_, rfl, hk⟩ := kin_some (by omega) e
  rw [ifs, if_neg n1_0, X10_isCall (by omega) h0 hst, z_b1]
  rcases ea : tin (cm K) a with _ | i
  · have hrs : rs_ahead K kd nt late told (nI k) a c = (-1, nI 1) := by unfold rs_ahead; rw [e]; simp only [ea]
    rw [ifn, if_pos n0_0, hrs]
    exact ⟨ans, th, lo, on, mi, bk, sn, isF, cb, w, long, row', slot, doneOf, tills, next, heard, leads, brings, rfl⟩
  rw [ifs, if_neg n1_0, X10_isCall (by omega) h0 hst, z_b1]
  rcases ec : tin (cm K) c with _ | j
  · have hrs : rs_ahead K kd nt late told (nI k) a c = (-1, nI 1) := by unfold rs_ahead; rw [e]; simp only [ea, ec]
    rw [ifn, if_pos n0_0, hrs]
    exact ⟨ans, th, lo, on, mi, bk, sn, isF, cb, w, long, row', slot, doneOf, tills, next, heard, leads, brings, rfl⟩
  rw [ifs, if_neg n1_0]
  obtain ⟨rfl, hi⟩ := tin_some (by omega) ea
  obtain ⟨rfl, hj⟩ := tin_some (by omega) ec
  by_cases hac : nI i = nI j
  · have hrs : rs_ahead K kd nt late told (nI k) (nI i) (nI j) = (-1, nI 1) := by unfold rs_ahead; rw [e]; simp only [ea, ec, hac, ↓reduceIte]
    rw [if_pos hac, hrs]
    exact ⟨ans, th, lo, on, mi, bk, sn, isF, cb, w, long, row', slot, doneOf, tills, next, heard, leads, brings, rfl⟩
  rw [if_neg hac]
  obtain ⟨ans', th', lo', on', mi', bk', sn', isF', cb', w', long', row2, slot', doneOf', tills', next', heard', leads', e2, h2⟩ := X10_goesk (kind := k) (w := w) (ans := ans) (bk := bk) (sn := sn) (isF := isF) (cb := cb) (long := long) (row' := row') (slot := slot) (doneOf := doneOf) (next := next) (heard := heard) (leads := leads) (tills := tills) hfu hM hk
  rw [e2, z_b19]
  by_cases cf : full (Yk K kd nt late k) = true
  · have hrs : rs_ahead K kd nt late told (nI k) (nI i) (nI j) = (-1, nI 3) := by unfold rs_ahead; rw [e]; simp only [ea, ec, hac, cf, ↓reduceIte]
    rw [if_pos cf, if_pos n0_0, hrs]
    exact ⟨_, _, _, _, _, _, _, _, _, _, _, _, _, _, _, _, _, _, _, rfl⟩
  · have c' : full (Yk K kd nt late k) = false := by simpa using cf
    obtain ⟨b1, b2, _, _, b5⟩ := h2 c'
    have hw := MS_Yk hM k
    have hG := GO_gr hw c'
    have h6 := hG.2.1
    obtain ⟨q1, q2, q3, q4, _, q6⟩ := b5
    have hci := (hM.1.2 i hi).1
    have hcj := (hM.1.2 j hj).1
    have i7j : (7 : Int32) * nI j + (0 : Int32) = nI (7 * j) := by rw [zl_7, zl_0, zq_mul, zq_add]; rfl
    have i7i : (7 : Int32) * nI i + (0 : Int32) = nI (7 * i) := by rw [zl_7, zl_0, zq_mul, zq_add]; rfl
    obtain ⟨brings', e3, h3⟩ := X10_lb19 (c := j) hfu hw hG q2 q3 q4 q6 (by omega) hcj (gr (Yk K kd nt late k)).1 fu brings (by omega) (Nat.le_refl _) (fun i h1 h2 => absurd h2 (by omega))
    have elb : F_X10_layBrings fu sn' w' brings next' doneOf' row2 leads' (nI j) = some brings' := by
      unfold F_X10_layBrings
      rw [i7j, if_neg (nI_in (by omega) (by omega)), zd_cl (by omega), (b1.2 j hj).1, q1, zl_1]
      exact e3
    rw [if_neg cf, if_neg n1_0, elb, z_b1, i7i, if_neg (nI_in (by omega) (by omega)), zd_cl (by omega), (b1.2 i hi).1, q1]
    obtain ⟨vv, e4, hB⟩ := X10_ah75 (w := w') (slot := slot') (heard := heard') (leads := leads') (a1 := (0 : Int32)) (a2 := (0 : Int32)) (a3 := ans') (a4 := th') (a5 := lo') (a6 := on') (a7 := mi') (a8 := bk') (a10 := isF') (a11 := cb') hw hG q2 q3 q4 (by omega : i < 20) hci h3 (gr (Yk K kd nt late k)).1 fu 0 (by omega) (by omega) (fun i k z hi => absurd hi (Nat.not_lt_zero i))
    have hB' := isB_iff hB (AH_iff hG)
    have hrs : rs_ahead K kd nt late told (nI k) (nI i) (nI j) = (vv, nI 0) := by
      unfold rs_ahead; rw [e]; simp only [ea, ec, hac, c', Bool.false_eq_true, ↓reduceIte]
      rw [isB_ite hB']
    rw [hrs]
    exact ⟨_, _, _, _, _, _, _, _, _, _, _, _, _, _, _, _, _, _, _, e4⟩
