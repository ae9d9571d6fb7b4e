/-! machines: the run, of class and reference together -/
theorem X10_b274 {K : Ca} {kd : Nat → Nat} {nt : Nat} (hK : okC 4 nt kd K) {ra v2 v4 v5 : Int32} {m : Nat → Int64} {busy isD : Nat → Int32} : ∀ (j kf i : Nat) (st : Nat → Int32), j < kf → i + j = cm K → RKm K st → (∀ c, c < i → ce K c = -2 → st (7 * c + 6) = -2) →
    ∃ st', F_X10_makes_b274 ra m busy isD v2 v4 v5 kf st (nI i) = some ((if v2 ≤ v4 then v5 else 999), ra, st', m, busy, isD) ∧ RK K (ce K) st' ∧ st' 140 = st 140
  | 0, kf, i, st, hj, hi, hR, ho => by
    obtain ⟨g, rfl⟩ : ∃ g, kf = g + 1 := ⟨kf - 1, by omega⟩
    have : i = cm K := by omega
    subst this
    have hm := hK.1
    have h141 : (141 : Int32).toNatClampNeg = 141 := rfl
    refine ⟨st, ?_, ⟨hR.1, fun c hc => ?_⟩, rfl⟩
    · rw [F_X10_makes_b274, h141, hR.1, if_pos (by rw [zd_le (by omega) (by omega)]; omega)]
      split <;> rfl
    · obtain ⟨g1, g2, g3, g4, g5, g6, g7⟩ := hR.2 c hc
      refine ⟨g1, g2, g3, g4, g5, g6, ?_⟩
      by_cases d : ce K c = -2
      · rw [ho c hc d, (hK.2 c hc).2.2.2.2.2.2.1 d]
      · exact g7 d
  | j + 1, kf, i, st, hj, hi, hR, ho => by
    obtain ⟨g, rfl⟩ : ∃ g, kf = g + 1 := ⟨kf - 1, by omega⟩
    have hm := hK.1
    have h141 : (141 : Int32).toNatClampNeg = 141 := rfl
    have k5 : (7 : Int32) * nI i + 5 = nI (7 * i + 5) := by rw [zl_7, zl_5, zq_mul, zq_add]
    have k6 : (7 : Int32) * nI i + 6 = nI (7 * i + 6) := by rw [zl_7, zl_6, zq_mul, zq_add]
    have k5' : (nI (7 * i + 5)).toNatClampNeg = 7 * i + 5 := zd_cl (by omega)
    have k6' : (nI (7 * i + 6)).toNatClampNeg = 7 * i + 6 := zd_cl (by omega)
    have j1 : nI i + (1 : Int32) = nI (i + 1) := by rw [zl_1, zq_add]
    obtain ⟨u1, u2, u3, u4, u5, u6, u7⟩ := hR.2 i (by omega)
    rw [F_X10_makes_b274, h141, hR.1, if_neg (by rw [zd_le (by omega) (by omega)]; omega), k5, k6, if_neg (nI_in (by omega) (by omega)), k5', u6]
    unfold F_X10_makes_b319
    rw [j1]
    by_cases d : ce K i = -2
    · rw [if_pos d, if_neg (nI_in (by omega) (by omega)), k6']
      obtain ⟨st', e, e1, e2⟩ := X10_b274 hK (ra := ra) (v2 := v2) (v4 := v4) (v5 := v5) (m := m) (busy := busy) (isD := isD) j g (i + 1) (upd st (7 * i + 6) (-2)) (by omega) (by omega) ⟨by rw [z_upd, if_neg (by omega)]; exact hR.1, fun c hc => by
          rw [z_upd, z_upd, z_upd, z_upd, z_upd, z_upd, z_upd, if_neg (by omega), if_neg (by omega), if_neg (by omega), if_neg (by omega), if_neg (by omega), if_neg (by omega)]
          obtain ⟨w1, w2, w3, w4, w5, w6, w7⟩ := hR.2 c hc
          refine ⟨w1, w2, w3, w4, w5, w6, fun h => ?_⟩
          rw [if_neg (by intro e; have : c = i := by omega
                         subst this; exact h d)]
          exact w7 h⟩ (fun c hc h => by
            rw [z_upd]
            by_cases q : c = i
            · rw [if_pos (by omega)]
            · rw [if_neg (by omega)]; exact ho c (by omega) h)
      exact ⟨st', e, e1, by rw [e2, z_upd, if_neg (by omega)]⟩
    · rw [if_neg d]
      exact X10_b274 hK j g (i + 1) st (by omega) (by omega) hR (fun c hc h => by
        by_cases q : c = i
        · subst q; exact absurd h d
        · exact ho c (by omega) h)
theorem X10_b274v {ra v2 v4 v5 : Int32} {m : Nat → Int64} {busy isD : Nat → Int32} (h : ¬ v2 ≤ v4) : ∀ (kf : Nat) (st : Nat → Int32) (i : Int32), F_X10_makes_b274 ra m busy isD v2 v4 v5 kf st i = F_X10_makes_b274 ra m busy isD v2 v4 0 kf st i
  | 0, st, i => rfl
  | kf + 1, st, i => by
    rw [F_X10_makes_b274, F_X10_makes_b274, if_neg h, if_neg h]
    unfold F_X10_makes_b319
    simp only [X10_b274v h kf]
theorem MJ_loop {fu : Nat} (hfu : 20000 ≤ fu) {kd : Nat → Nat} {nt nq late n mk : Nat} (hnt : 0 < nt) (hnt3 : nt ≤ 3) (hnq : 0 < nq) (hnq4 : nq ≤ 4) (hkd : ∀ t, t < 3 → kd t < 5) (hmk : mk ≤ 2) (hn : n ≤ 20)
    {r kinds : Nat → Int32} (hkk : ∀ t, t < 3 → kinds t = nI (kd t)) (hr : RLy kd nt late r) (hr6 : r 6 = nI nq) : ∀ (j kc kr mn en : Nat) {K : Ca} {ph dg an cp : Nat → Nat} {s : Nat}
    {nn : Int32} {phs tills f0 f1 f2 f3 f4 f5 f6 dng ans : Nat → Int32} {st busy isD : Nat → Int32} {m : Nat → Int64} {ra : Int32}, j < kc → j + 1 < kr → mn + j = 999 → en < n → MI K kd nt n mn ph dg an cp s →
    MC K ph dg an cp nn phs tills f0 f1 f2 f3 f4 f5 f6 dng ans → MR K kd nt ph dg an cp s st m busy isD →
    ∃ K' s' M nn' phs' tills' f0' f1' f2' f3' f4' f5' f6' dng' ans' st' busy' isD' m' ra', okC 4 nt kd K' ∧ s' < 65537 ∧ M ≤ 999 ∧
      F_X2_run_b64 (nI nt) (nI nq) kinds (nI mk) (nI n) kc (nI s) nn phs tills f0 f1 f2 f3 f4 f5 f6 dng ans (nI en) (nI (mn + 1)) = some (nI M, nI s', nn', phs', tills', f0', f1', f2', f3', f4', f5', f6', dng', ans') ∧ RC K' nn' f0' f1' f2' f3' f4' f5' f6' ∧
      (∀ v5, F_X10_makes_b129 fu r (nI mk) (nI n) kr ra st m busy isD (nI en) v5 (nI (mn + 1)) = some (nI M, ra', st', m', busy', isD')) ∧ RK K' (ce K') st' ∧ st' 140 = nI s'
  | 0, kc, kr, mn, en, K, ph, dg, an, cp, s, nn, phs, tills, f0, f1, f2, f3, f4, f5, f6, dng, ans, st, busy, isD, m, ra, hkc, hkr, hmn, hen, hI, hC, hR => by
    obtain ⟨g, rfl⟩ : ∃ g, kc = g + 1 := ⟨kc - 1, by omega⟩
    obtain ⟨g2, rfl⟩ : ∃ g, kr = g + 1 := ⟨kr - 1, by omega⟩
    have : mn = 999 := by omega
    subst this
    have hlt : (999 : Int32) < nI (999 + 1) := by decide
    have hm := hI.1.1
    have hnle : ¬ nI n ≤ nI en := by rw [zd_le (by omega) (by omega)]; omega
    obtain ⟨st', e, e1, e2⟩ := X10_b274 hI.1 (ra := ra) (v2 := nI n) (v4 := nI en) (v5 := 0) (m := m) (busy := busy) (isD := isD) (cm K) fu 0 st (by omega) (by omega) hR.1 (fun c hc => by omega)
    refine ⟨K, s, 999, nn, phs, tills, f0, f1, f2, f3, f4, f5, f6, dng, ans, st', busy, isD, m, ra, hI.1, hI.2.2.1, by omega, ?_, hC.1, fun v5 => ?_, e1, by rw [e2]; exact hR.2.1⟩
    · rw [F_X2_run_b64, if_pos hlt]; rfl
    · rw [F_X10_makes_b129, if_pos hlt]
      unfold F_X10_makes_b271
      obtain ⟨st2, e3, e4, e5⟩ := X10_b274 hI.1 (ra := ra) (v2 := nI n) (v4 := nI en) (v5 := v5) (m := m) (busy := busy) (isD := isD) (cm K) fu 0 st (by omega) (by omega) hR.1 (fun c hc => by omega)
      have e' : F_X10_makes_b274 ra m busy isD (nI n) (nI en) v5 fu st 0 = F_X10_makes_b274 ra m busy isD (nI n) (nI en) 0 fu st 0 := X10_b274v hnle fu st 0
      have e6 : F_X10_makes_b274 ra m busy isD (nI n) (nI en) 0 fu st 0 = _ := e
      rw [e', e6, if_neg hnle]; rfl
  | j + 1, kc, kr, mn, en, K, ph, dg, an, cp, s, nn, phs, tills, f0, f1, f2, f3, f4, f5, f6, dng, ans, st, busy, isD, m, ra, hkc, hkr, hmn, hen, hI, hC, hR => by
    obtain ⟨g, rfl⟩ : ∃ g, kc = g + 1 := ⟨kc - 1, by omega⟩
    obtain ⟨g2, rfl⟩ : ∃ g, kr = g + 1 := ⟨kr - 1, by omega⟩
    have hs := hI.2.2.1
    have hq : nxt s % nq < 4 := by have := Nat.mod_lt (nxt s) hnq; omega
    have ed : F_X2_draw (nI s) (nI nq) = some (nI (nxt s % nq), nI (nxt s)) := X2_draw hs hnq (by omega)
    obtain ⟨K', ph', dg', an', cp', s', fl, nn', phs', tills', f0', f1', f2', f3', f4', f5', f6', dng', ans', st', busy', isD', m', ra', hI', hfl, e1, hC', e2, hR'⟩ := MJ_step (mk := mk) hfu hnt hnt3 hnq hnq4 hkd hmk hn (by omega : mn < 999) hen hkk hr hr6 hI hC (ra := ra) hR
    have hcls : F_X2_run_b64 (nI nt) (nI nq) kinds (nI mk) (nI n) (g + 1) (nI s) nn phs tills f0 f1 f2 f3 f4 f5 f6 dng ans (nI en) (nI (mn + 1)) =
        if en + fl = n then some (nI (mn + 1), nI s', nn', phs', tills', f0', f1', f2', f3', f4', f5', f6', dng', ans') else F_X2_run_b64 (nI nt) (nI nq) kinds (nI mk) (nI n) g (nI s') nn' phs' tills' f0' f1' f2' f3' f4' f5' f6' dng' ans' (nI (en + fl)) (nI (mn + 1 + 1)) := by
      have j1 : nI (mn + 1) + (1 : Int32) = nI (mn + 1 + 1) := by rw [zl_1, zq_add]
      have j2 : nI en + (1 : Int32) = nI (en + 1) := by rw [zl_1, zq_add]
      rw [F_X2_run_b64, if_neg (by rw [show (999 : Int32) = nI 999 from rfl, zd_lt (by omega) (by omega)]; omega), ed, z_b2, if_neg (nI_pos (by omega)), if_neg (by rw [zl_4, zd_le (by omega) (by omega)]; omega), e1, z_b14]
      unfold F_X2_run_b113
      have hfl2 : fl = 0 ∨ fl = 1 := by omega
      rcases hfl2 with rfl | rfl
      · rw [if_pos n0_0, j1]
        simp only [zd_eq (show en < 2147483648 by omega) (show n < 2147483648 by omega)]
        rfl
      · rw [if_neg n1_0, j1, j2]
        simp only [zd_eq (show en + 1 < 2147483648 by omega) (show n < 2147483648 by omega)]
    rw [hcls]
    by_cases c : en + fl = n
    · have hf1 : ¬ fl = 0 := by omega
      have hm := hI'.1.1
      have hle : nI n ≤ nI (en + fl) := by rw [zd_le (by omega) (by omega)]; omega
      obtain ⟨g3, rfl⟩ : ∃ g, g2 = g + 1 := ⟨g2 - 1, by omega⟩
      obtain ⟨st2, e3, e4, e5⟩ := X10_b274 hI'.1 (ra := ra') (v2 := nI n) (v4 := nI (en + fl)) (v5 := nI (mn + 1)) (m := m') (busy := busy') (isD := isD') (cm K') fu 0 st' (by omega) (by omega) hR'.1 (fun c hc => by omega)
      refine ⟨K', s', mn + 1, nn', phs', tills', f0', f1', f2', f3', f4', f5', f6', dng', ans', st2, busy', isD', m', ra', hI'.1, hI'.2.2.1, by omega, by rw [if_pos c], hC'.1, fun v5 => ?_, e4, by rw [e5]; exact hR'.2.1⟩
      have e3' : F_X10_makes_b274 ra' m' busy' isD' (nI n) (nI (en + fl)) (nI (mn + 1)) fu st' 0 = _ := e3
      rw [e2, if_neg hf1, F_X10_makes_b129]
      unfold F_X10_makes_b271
      rw [e3', if_pos hle, if_pos hle]
      split <;> rfl
    · rw [if_neg c]
      obtain ⟨K2, s2, M, nn2, phs2, tills2, h0, h1, h2, h3, h4, h5, h6, dng2, ans2, st2, busy2, isD2, m2, ra2, q1, q2, q3, q4, q5, q6, q7, q8⟩ := MJ_loop hfu hnt hnt3 hnq hnq4 hkd hmk hn hkk hr hr6 j g g2 (mn + 1) (en + fl) (ra := ra') (by omega) (by omega) (by omega) (by omega) hI' hC' hR'
      exact ⟨K2, s2, M, nn2, phs2, tills2, h0, h1, h2, h3, h4, h5, h6, dng2, ans2, st2, busy2, isD2, m2, ra2, q1, q2, q3, q4, q5, fun v5 => by rw [e2]; exact q6 _, q7, q8⟩
