/-! breaks: class and reference -/
theorem X10_br143 {fu : Nat} (hfu : 20000 ≤ fu) (ans th lo on mi bk sn isF cb : Int32) (st aside busy isD w long row' slot doneOf next heard leads : Nat → Int32) (m tills : Nat → Int64) :
    ∃ st', (∀ p, p < 142 → st' p = aside p) ∧ (∀ v4, F_X10_breaks_b143 fu (nI 0) (nI 0) ans th lo on mi bk sn isF cb st aside m busy isD w long row' slot doneOf tills next heard leads v4 0 = some (v4, nI 0, nI 0, ans, th, lo, on, mi, bk, sn, isF, cb, st', aside, m, busy, isD, w, long, row', slot, doneOf, tills, next, heard, leads)) ∧
      F_X10_breaks_b143 fu (nI 0) (nI 0) ans th lo on mi bk sn isF cb st aside m busy isD w long row' slot doneOf tills next heard leads (-2) 3 = some (-1, nI 0, nI 3, ans, th, lo, on, mi, bk, sn, isF, cb, st', aside, m, busy, isD, w, long, row', slot, doneOf, tills, next, heard, leads) := by
  obtain ⟨st', e, h1, _⟩ := X10_copy (n0 := 142) (n2 := 142) (a := 0) (b := 0) (m := 142) (f0 := aside) (f2 := st) hfu (by omega) (by omega) (by omega) (by omega)
  have e' : F_X10_copy fu 142 142 aside st 0 0 142 = some st' := e
  refine ⟨st', fun p hp => ?_, fun v4 => ?_, ?_⟩
  · have := h1 p hp
    rw [Nat.zero_add] at this
    exact this
  · unfold F_X10_breaks_b143
    rw [e', z_b1, if_pos rfl]
  · unfold F_X10_breaks_b143
    rw [e', z_b1, if_neg (by decide)]
    rfl
theorem X10_br70e {fu kf : Nat} {thr tro : Int32} {aside r : Nat → Int32} {v1 v2 v3 v4 v5 v6 : Int32} (h : v4 ≠ -2 ∨ v5 ≠ 0) {ans th lo on mi bk sn isF cb : Int32} {st busy isD w long row' slot doneOf next heard leads : Nat → Int32} {m tills : Nat → Int64} :
    F_X10_breaks_b70 fu thr tro aside r v1 v2 v3 (kf + 1) ans th lo on mi bk sn isF cb st m busy isD w long row' slot doneOf tills next heard leads v4 v5 v6 = F_X10_breaks_b143 fu thr tro ans th lo on mi bk sn isF cb st aside m busy isD w long row' slot doneOf tills next heard leads v4 v5 := by
  rw [F_X10_breaks_b70]
  by_cases c : 99 < v6
  · rw [if_pos c]
  · rw [if_neg c]
    by_cases d : v4 = -2
    · have d5 : v5 ≠ 0 := by
        rcases h with h | h
        · exact absurd d h
        · exact h
      rw [if_pos d, if_neg d5]
    · rw [if_neg d]
set_option maxRecDepth 8000 in
theorem XJ_break42 {fu : Nat} (hfu : 20000 ≤ fu) {kd : Nat → Nat} {nt nq late n mk kind : Nat} (hnt : 0 < nt) (hnt3 : nt ≤ 3) (hnq : 0 < nq) (hnq4 : nq ≤ 4) (hkd : ∀ t, t < 3 → kd t < 5) (hmk : mk ≤ 2) (hn0 : 0 < n) (hn : n ≤ 20) (hkind : kind < 4) (hl : late ≤ 99)
    {r kinds : Nat → Int32} (hkk : ∀ t, t < 3 → kinds t = nI (kd t)) (hr : RLy kd nt late r) (hr6 : r 6 = nI nq) (md : Nat) (aside : Nat → Int32) : ∀ (j kc kr s sc b : Nat) (ms nn : Int32) (phs tl0 f0 f1 f2 f3 f4 f5 f6 dng ana : Nat → Int32) (r1 r2 r3 r4 cnt : Int32) (own ahd tab done tls lds : Nat → Int32) (ways : Nat → Int64)
    (ans th lo on mi bk sn isF cb : Int32) (st busy isD w long row' slot doneOf next heard leads : Nat → Int32) (m tills : Nat → Int64), j < kc → j + 1 < kr → s + j = 100 → TB b tab →
    ∃ rs tb sc' b' ms' nn' phs' tl0' f0' f1' f2' f3' f4' f5' f6' dng' ana' r1' r2' r3' r4' cnt' own' ahd' tab' done' tls' lds' ways' ans' th' lo' on' mi' bk' sn' isF' cb' st' busy' isD' w' long' row2 slot' doneOf' next' heard' leads' m' tills',
      F_X9_breaks_b42 fu md (nI nt) (nI nq) (nI late) kinds (nI kind) (nI mk) (nI n) kc sc ms nn phs tl0 f0 f1 f2 f3 f4 f5 f6 dng ana r1 r2 r3 r4 own ahd (nI b) cnt tab done tls lds ways (nI s) = some (rs, tb, ms', nn', phs', tl0', f0', f1', f2', f3', f4', f5', f6', dng', ana', r1', r2', r3', r4', own', ahd', sc', nI b', cnt', tab', done', tls', lds', ways') ∧ TB b' tab' ∧
      F_X10_breaks_b70 fu (nI 0) (nI 0) aside r (nI kind) (nI mk) (nI n) kr ans th lo on mi bk sn isF cb st m busy isD w long row' slot doneOf tills next heard leads (-2) 0 (nI s) = some (rs, nI 0, tb, ans', th', lo', on', mi', bk', sn', isF', cb', st', aside, m', busy', isD', w', long', row2, slot', doneOf', tills', next', heard', leads') ∧ ∀ p, p < 142 → st' p = aside p
  | 0, kc, kr, s, sc, b, ms, nn, phs, tl0, f0, f1, f2, f3, f4, f5, f6, dng, ana, r1, r2, r3, r4, cnt, own, ahd, tab, done, tls, lds, ways, ans, th, lo, on, mi, bk, sn, isF, cb, st, busy, isD, w, long, row', slot, doneOf, next, heard, leads, m, tills, hkc, hkr, hs, hT => by
    obtain ⟨g, rfl⟩ : ∃ g, kc = g + 1 := ⟨kc - 1, by omega⟩
    obtain ⟨g2, rfl⟩ : ∃ g, kr = g + 1 := ⟨kr - 1, by omega⟩
    have : s = 100 := by omega
    subst this
    obtain ⟨st', h1, h2, _⟩ := X10_br143 hfu ans th lo on mi bk sn isF cb st aside busy isD w long row' slot doneOf next heard leads m tills
    refine ⟨-2, nI 0, sc, b, ms, nn, phs, tl0, f0, f1, f2, f3, f4, f5, f6, dng, ana, r1, r2, r3, r4, cnt, own, ahd, tab, done, tls, lds, ways, ans, th, lo, on, mi, bk, sn, isF, cb, st', busy, isD, w, long, row', slot, doneOf, next, heard, leads, m, tills, ?_, hT, ?_, h1⟩
    · rw [F_X9_breaks_b42, if_pos (by decide), X9_answered (by decide) (by decide), z_b2]
    · rw [F_X10_breaks_b70, if_pos (by decide), h2]
  | j + 1, kc, kr, s, sc, b, ms, nn, phs, tl0, f0, f1, f2, f3, f4, f5, f6, dng, ana, r1, r2, r3, r4, cnt, own, ahd, tab, done, tls, lds, ways, ans, th, lo, on, mi, bk, sn, isF, cb, st, busy, isD, w, long, row', slot, doneOf, next, heard, leads, m, tills, hkc, hkr, hs, hT => by
    obtain ⟨g, rfl⟩ : ∃ g, kc = g + 1 := ⟨kc - 1, by omega⟩
    obtain ⟨g2, rfl⟩ : ∃ g, kr = g + 1 + 1 := ⟨kr - 2, by omega⟩
    have h140 : (140 : Int32).toNatClampNeg = 140 := rfl
    have j1 : nI s + (1 : Int32) = nI (s + 1) := by rw [zl_1, zq_add]
    have hgt : ¬ (99 : Int32) < nI s := by rw [zl_99, zd_lt (by omega) (by omega)]; omega
    obtain ⟨K', s', M, nn1, phs1, tl1, h0, h1, h2, h3, h4, h5, h6, dng1, ana1, st1, busy1, isD1, m1, ra1, q1, q2, q3, q4, q5, q6, q7, q8⟩ := MJ_make (s := s) hfu hnt hnt3 hnq hnq4 hkd hmk hn0 hn (by omega) hkk hr hr6 phs tl0 f0 f1 f2 f3 f4 f5 f6 dng ana (st := upd st 140 (nI s)) (by rw [z_upd, if_pos rfl]) busy isD m ans
    have hCS : CS K' kd nt late nn1 h0 h1 h2 h3 h4 h5 h6 kinds (nI late) := ⟨q5, q1, hnt3, hkd, hkk, rfl, hl⟩
    obtain ⟨r1', r2', r3', r4', own', ahd', sc', b', cnt', tab', done', tls', lds', ways', e1, hT'⟩ := X1_countOrders (kind := kind) (r1 := r1) (r2 := r2) (r3 := r3) (r4 := r4) (cnt := cnt) (own := own) (ahd := ahd) (done := done) (tills := tls) (leads := lds) (ways := ways) hfu hCS md sc hkind hT
    obtain ⟨ans', th', lo', on', mi', bk', sn', isF', cb', w', long', row2, slot', doneOf', tills', next', heard', leads', e2, e3⟩ := X10_goes (kind := kind) (w := w) (ans := ra1) (bk := bk) (sn := sn) (isF := isF) (cb := cb) (long := long) (row' := row') (slot := slot) (doneOf := doneOf) (next := next) (heard := heard) (leads := leads) (tills := tills) hfu q1 hnt3 hkd hl hkind q7 hr
    rw [F_X9_breaks_b42, if_neg hgt, q4, z_b14, e1, z_b15, F_X10_breaks_b70, if_neg hgt, if_pos rfl, if_pos rfl, h140, q6, z_b6, if_neg (nI_pos (by omega)), e2, z_b19]
    unfold F_X10_breaks_b120 F_X10_breaks_b137
    rw [j1]
    rcases ho : ordn K' kd nt late kind with _ | q
    · obtain ⟨st', k1, _, k3⟩ := X10_br143 hfu ans' th' lo' on' mi' bk' sn' isF' cb' st1 aside busy1 isD1 w' long' row2 slot' doneOf' next' heard' leads' m1 tills'
      have c1 : ¬ 0 < lg_cmp (o64 none) (0 : Int64) := by show ¬ 0 < lg_cmp (-10) 0; decide
      have c2 : ¬ 0 ≤ lg_cmp (o64 none) (0 : Int64) := by show ¬ 0 ≤ lg_cmp (-10) 0; decide
      have e143 : F_X10_breaks_b143 fu (nI 0) (nI 0) ans' th' lo' on' mi' bk' sn' isF' cb' st1 aside m1 busy1 isD1 w' long' row2 slot' doneOf' tills' next' heard' leads' (-2) 3 = _ := k3
      rw [if_neg c1, if_neg c2, ifn, if_pos n0_0]
      unfold F_X9_breaks_b101
      rw [X9_answered10, z_b2, X10_br70e (Or.inr (by decide)), e143]
      exact ⟨-1, nI 3, _, _, _, _, _, _, _, _, _, _, _, _, _, _, _, _, _, _, _, _, _, _, _, _, _, _, _, _, _, _, _, _, _, _, _, _, _, _, _, _, _, _, _, _, _, _, _, _, _, rfl, hT', rfl, k1⟩
    · have hq := ordn_le ho
      rw [MW_eq] at hq
      rw [ifs, if_neg n1_0]
      by_cases hq0 : q = 0
      · subst hq0
        obtain ⟨st', k1, k2, _⟩ := X10_br143 hfu ans' th' lo' on' mi' bk' sn' isF' cb' st1 aside busy1 isD1 w' long' row2 slot' doneOf' next' heard' leads' m1 tills'
        have c1 : ¬ 0 < lg_cmp (o64 (some 0)) (0 : Int64) := by show ¬ 0 < lg_cmp (lN 0) 0; decide
        have c2 : 0 ≤ lg_cmp (o64 (some 0)) (0 : Int64) := by show 0 ≤ lg_cmp (lN 0) 0; decide
        have hcb : cb' = nI 0 := by
          rcases (e3 0 ho).1 with ⟨c, d⟩ | ⟨c, d⟩
          · exact absurd d (by omega)
          · exact c
        have hsne : nI s ≠ -2 := nI_ne (by omega) (k := 2) (by omega) (by omega)
        subst hcb
        rw [if_neg c1, if_pos c2, if_pos n0_0]
        unfold F_X9_breaks_b101
        rw [X9_answeredN (by omega), z_b2, X10_br70e (Or.inl hsne), k2]
        exact ⟨nI s, nI 0, _, _, _, _, _, _, _, _, _, _, _, _, _, _, _, _, _, _, _, _, _, _, _, _, _, _, _, _, _, _, _, _, _, _, _, _, _, _, _, _, _, _, _, _, _, _, _, _, _, rfl, hT', rfl, k1⟩
      · have c1 : 0 < lg_cmp (o64 (some q)) (0 : Int64) := by
          show 0 < lg_cmp (lN q) 0
          have := zc_le0 (a := q) (b := 0) (by omega) (by omega)
          rw [zL_0]
          refine Decidable.byContradiction (fun h => ?_)
          have h2 := nlt_le2.mp h
          rw [this] at h2
          omega
        have hcb : ¬ cb' = 0 := by
          rcases (e3 q ho).1 with ⟨c, d⟩ | ⟨c, d⟩
          · rw [c]; exact n1_0
          · exact absurd (by omega) d
        rw [if_pos c1, if_neg hcb]
        exact XJ_break42 hfu hnt hnt3 hnq hnq4 hkd hmk hn0 hn hkind hl hkk hr hr6 md aside j g (g2 + 1) (s + 1) _ _ _ _ _ _ _ _ _ _ _ _ _ _ _ _ _ _ _ _ _ _ _ _ _ _ _ _ _ _ _ _ _ _ _ _ _ _ _ _ _ _ _ _ _ _ _ _ _ (by omega) (by omega) (by omega) hT'
theorem XJ_breaks {fu : Nat} (hfu : 20000 ≤ fu) {K : Ca} {kd : Nat → Nat} {nt nq late s : Nat} {n : Int32} {f0 f1 f2 f3 f4 f5 f6 kinds : Nat → Int32} (h : CS K kd nt late n f0 f1 f2 f3 f4 f5 f6 kinds (nI late)) {st r : Nat → Int32} (hK : RK K (ce K) st) (hr : RLy kd nt late r) (told : Bool)
    (ht : told = true → 0 < nt ∧ 0 < nq ∧ nq ≤ 4 ∧ r 6 = nI nq) (hst : st 140 = nI s) (v1 v2 v3 : Int32) (a1 : Int32) (ha1 : told = true → a1 = nI nq) (md sc b : Nat) (ms nn : Int32) (phs tl0 g0 g1 g2 g3 g4 g5 g6 dng ana : Nat → Int32) (r1 r2 r3 r4 cnt : Int32) (own ahd tab done tls lds : Nat → Int32) (ways : Nat → Int64)
    (ans th lo on mi bk sn isF cb : Int32) (busy isD w long row' slot doneOf next heard leads aside : Nat → Int32) (m tills : Nat → Int64) (hT : TB b tab) :
    ∃ rs tb sc' b' ms' nn' phs' tl0' f0' f1' f2' f3' f4' f5' f6' dng' ana' r1' r2' r3' r4' cnt' own' ahd' tab' done' tls' lds' ways' ans' th' lo' on' mi' bk' sn' isF' cb' st' aside' busy' isD' w' long' row2 slot' doneOf' next' heard' leads' m' tills',
      F_X9_breaks fu md sc (nI (if told = true then 1 else 0)) (nI nt) a1 (nI late) ms nn phs tl0 kinds g0 g1 g2 g3 g4 g5 g6 dng ana r1 r2 r3 r4 own ahd (nI b) cnt tab done tls lds ways v1 v2 v3 = some (rs, tb, ms', nn', phs', tl0', f0', f1', f2', f3', f4', f5', f6', dng', ana', r1', r2', r3', r4', own', ahd', sc', nI b', cnt', tab', done', tls', lds', ways') ∧ TB b' tab' ∧
      F_X10_breaks fu (nI (if told = true then 1 else 0)) ans th lo on mi bk sn isF cb st aside r m busy isD w long row' slot doneOf tills next heard leads v1 v2 v3 = some (rs, nI 0, tb, ans', th', lo', on', mi', bk', sn', isF', cb', st', aside', m', busy', isD', w', long', row2, slot', doneOf', tills', next', heard', leads') ∧ RK K (ce K) st' ∧ st' 140 = nI s := by
  have hno1 : F_X10_no 1 = some (-1, nI 1) := rfl
  have hno2 : F_X10_no 2 = some (-1, nI 2) := rfl
  have hre1 : F_X9_refused 1 = some (-1, nI 1) := rfl
  have hre2 : F_X9_refused 2 = some (-1, nI 2) := rfl
  unfold F_X9_breaks F_X10_breaks F_X10_good F_X9_breaks_b16 F_X9_breaks_b33 F_X10_breaks_b22
  rw [z_b2, hno1, hno2, hre1, hre2, z_b2, z_b2, z_b2, zl_3, X9_hasKind, z_b1, X10_isKind, z_b1]
  rcases e : kin told v1 3 with _ | k
  · rw [ifn, if_pos n0_0, if_pos n0_0]
    exact ⟨-1, nI 1, sc, b, ms, nn, phs, tl0, g0, g1, g2, g3, g4, g5, g6, dng, ana, r1, r2, r3, r4, cnt, own, ahd, tab, done, tls, lds, ways, ans, th, lo, on, mi, bk, sn, isF, cb, st, aside, busy, isD, w, long, row', slot, doneOf, next, heard, leads, m, tills, rfl, hT, rfl, hK, hst⟩
  · obtain ⟨htold, rfl, hk⟩ := kin_some (by omega) e
    obtain ⟨hnt, hnq, hnq4, hr6⟩ := ht htold
    rw [ifs, if_neg n1_0, if_neg n1_0, X2_isOne, z_b1, X10_within, z_b1, ha1 htold]
    by_cases c : 0 ≤ v2 ∧ v2 ≤ 2
    · rw [if_pos c, if_neg n1_0, if_neg n1_0, X10_within, z_b1]
      by_cases d : 1 ≤ v3 ∧ v3 ≤ 8
      · obtain ⟨mk, rfl, hmk⟩ := nI_bnd (N := 2) (by omega) c.1 c.2
        obtain ⟨n3, rfl, hn3⟩ := nI_bnd (N := 8) (v := v3) (by omega) (Int32.le_trans (by decide) d.1) d.2
        have hk0 : 0 < n3 := by
          have := d.1
          rw [zl_1, zd_le (by omega) (by omega)] at this
          omega
        obtain ⟨asd, e1, h1, _⟩ := X10_copy (n0 := 142) (n2 := 142) (a := 0) (b := 0) (m := 142) (f0 := st) (f2 := aside) hfu (by omega) (by omega) (by omega) (by omega)
        have e1' : F_X10_copy fu 142 142 st aside 0 0 142 = some asd := e1
        rw [if_pos d, if_neg n1_0, if_neg (nlt_le2.mpr d.1), if_pos d.2, e1', z_b1]
        obtain ⟨rs, tb, sc', b', ms', nn', phs', tl0', f0', f1', f2', f3', f4', f5', f6', dng', ana', r1', r2', r3', r4', cnt', own', ahd', tab', done', tls', lds', ways', ans', th', lo', on', mi', bk', sn', isF', cb', st', busy', isD', w', long', row2, slot', doneOf', next', heard', leads', m', tills', q1, q2, q3, q4⟩ :=
          XJ_break42 hfu hnt h.2.2.1 hnq hnq4 h.2.2.2.1 hmk hk0 (by omega : n3 ≤ 20) (by omega : k < 4) h.2.2.2.2.2.2 h.2.2.2.2.1 hr hr6 md asd 100 fu fu 0 sc b ms nn phs tl0 g0 g1 g2 g3 g4 g5 g6 dng ana r1 r2 r3 r4 cnt own ahd tab done tls lds ways ans th lo on mi bk sn isF cb st busy isD w long row' slot doneOf next heard leads m tills (by omega) (by omega) (by omega) hT
        have hst' : ∀ p, p < 142 → st' p = st p := fun p hp => by
          have := h1 p hp
          rw [Nat.zero_add] at this
          rw [q4 p hp, this]
        have hm := h.2.1.1
        refine ⟨rs, tb, sc', b', ms', nn', phs', tl0', f0', f1', f2', f3', f4', f5', f6', dng', ana', r1', r2', r3', r4', cnt', own', ahd', tab', done', tls', lds', ways', ans', th', lo', on', mi', bk', sn', isF', cb', st', asd, busy', isD', w', long', row2, slot', doneOf', next', heard', leads', m', tills', q1, q2, q3, ⟨?_, fun c hc => ?_⟩, ?_⟩
        · rw [hst' _ (by omega)]; exact hK.1
        · rw [hst' _ (by omega), hst' _ (by omega), hst' _ (by omega), hst' _ (by omega), hst' _ (by omega), hst' _ (by omega), hst' _ (by omega)]
          exact hK.2 c hc
        · rw [hst' _ (by omega)]; exact hst
      · rw [if_neg d, if_pos n0_0]
        refine ⟨-1, nI 2, sc, b, ms, nn, phs, tl0, g0, g1, g2, g3, g4, g5, g6, dng, ana, r1, r2, r3, r4, cnt, own, ahd, tab, done, tls, lds, ways, ans, th, lo, on, mi, bk, sn, isF, cb, st, aside, busy, isD, w, long, row', slot, doneOf, next, heard, leads, m, tills, ?_, hT, rfl, hK, hst⟩
        by_cases d1 : v3 < 1
        · rw [if_pos d1]
        · rw [if_neg d1, if_neg (fun g => d ⟨nlt_le2.mp d1, g⟩)]
    · rw [if_neg c, if_pos n0_0, if_pos n0_0]
      exact ⟨-1, nI 1, sc, b, ms, nn, phs, tl0, g0, g1, g2, g3, g4, g5, g6, dng, ana, r1, r2, r3, r4, cnt, own, ahd, tab, done, tls, lds, ways, ans, th, lo, on, mi, bk, sn, isF, cb, st, aside, busy, isD, w, long, row', slot, doneOf, next, heard, leads, m, tills, rfl, hT, rfl, hK, hst⟩
