/-! make: class and reference -/
def cp0 (kd : Nat → Nat) : Nat → Nat := fun i => if kd (i % 3) = 4 then 9 else 0
def K0 : Ca := (0, fun _ => 0, fun _ => 0, fun _ => 0, fun _ => 0, fun _ => 0, fun _ => -2, fun _ => -2)
theorem X2_run21 {fu : Nat} {kd : Nat → Nat} (hkd : ∀ t, t < 3 → kd t < 5) {kinds : Nat → Int32} (hkk : ∀ t, t < 3 → kinds t = nI (kd t)) {sd n a1 a2 v2 v3 : Int32} {phs f0 f1 f2 f3 f4 f5 f6 dng ans : Nat → Int32} : ∀ (j kf i : Nat) (f : Nat → Int32), j < kf → i + j = 15 → (∀ p, p < i → f p = nI (cp0 kd p)) →
    ∃ f', F_X2_run_b21 fu sd n phs a1 a2 kinds f0 f1 f2 f3 f4 f5 f6 dng ans v2 v3 kf f (nI i) = F_X2_run_b64 a1 a2 kinds v2 v3 fu sd n phs f' f0 f1 f2 f3 f4 f5 f6 dng ans (nI 0) (nI 1) ∧ CM (cp0 kd) f'
  | 0, kf, i, f, hj, hi, hf => by
    obtain ⟨g, rfl⟩ : ∃ g, kf = g + 1 := ⟨kf - 1, by omega⟩
    have : i = 15 := by omega
    subst this
    refine ⟨f, ?_, hf⟩
    rw [F_X2_run_b21, if_pos (by decide)]
    rfl
  | j + 1, kf, i, f, hj, hi, hf => by
    obtain ⟨g, rfl⟩ : ∃ g, kf = g + 1 := ⟨kf - 1, by omega⟩
    have e3 : nI i - nI i / (3 : Int32) * (3 : Int32) = nI (i % 3) := mod_e (m := 3) (by omega) (by omega)
    have j1 : nI i + (1 : Int32) = nI (i + 1) := by rw [zl_1, zq_add]
    have hk := hkd (i % 3) (by omega)
    rw [F_X2_run_b21, if_neg (by rw [zl_15, zd_le (by omega) (by omega)]; omega), e3, X5_kindOf hkk (by omega), z_b1, X8_atFirst hk, z_b1, if_neg (nI_in (by omega) (by omega)), zd_cl (by omega), j1]
    exact X2_run21 hkd hkk j g (i + 1) _ (by omega) (by omega) (fun p hp => by
      rw [z_upd]
      by_cases c : p = i
      · rw [if_pos c, c]; rfl
      · rw [if_neg c]; exact hf p (by omega))
theorem X10_mk12 {fu : Nat} {ra v1 v2 v3 : Int32} {r busy isD : Nat → Int32} {m : Nat → Int64} : ∀ (j kf i : Nat) (st : Nat → Int32), j < kf → i + j = 142 → (∀ p, p < i → st p = 0) →
    ∃ st', F_X10_makes_b12 fu ra r m busy isD v1 v2 v3 kf st (nI i) = F_X10_makes_b46 fu ra (upd st' 140 v3) r busy isD v1 v2 fu m (nI 0) ∧ ∀ p, p < 142 → st' p = 0
  | 0, kf, i, st, hj, hi, hf => by
    obtain ⟨g, rfl⟩ : ∃ g, kf = g + 1 := ⟨kf - 1, by omega⟩
    have : i = 142 := by omega
    subst this
    refine ⟨st, ?_, hf⟩
    rw [F_X10_makes_b12, if_pos (by decide)]
    rfl
  | j + 1, kf, i, st, hj, hi, hf => by
    obtain ⟨g, rfl⟩ : ∃ g, kf = g + 1 := ⟨kf - 1, by omega⟩
    have j1 : nI i + (1 : Int32) = nI (i + 1) := by rw [zl_1, zq_add]
    rw [F_X10_makes_b12, if_neg (by rw [zl_142, zd_le (by omega) (by omega)]; omega), if_neg (nI_in (by omega) (by omega)), zd_cl (by omega), j1]
    exact X10_mk12 j g (i + 1) _ (by omega) (by omega) (fun p hp => by
      rw [z_upd]
      by_cases c : p = i
      · rw [if_pos c]
      · rw [if_neg c]; exact hf p (by omega))
theorem X10_mk46 {fu : Nat} {kd : Nat → Nat} {nt late : Nat} (hnt3 : nt ≤ 3) (hkd : ∀ t, t < 3 → kd t < 5) {ra v1 v2 : Int32} {st r busy isD : Nat → Int32} (hr : RLy kd nt late r) : ∀ (j kf i : Nat) (m : Nat → Int64), j < kf → i + j = 15 → (∀ p, p < i → p % 3 < nt → tr (kd (p % 3)) (cp0 kd p) (m p)) →
    ∃ m', F_X10_makes_b46 fu ra st r busy isD v1 v2 kf m (nI i) = F_X10_makes_b100 fu ra st r m' isD v1 v2 fu busy (nI 0) ∧ RM kd nt (cp0 kd) m'
  | 0, kf, i, m, hj, hi, hf => by
    obtain ⟨g, rfl⟩ : ∃ g, kf = g + 1 := ⟨kf - 1, by omega⟩
    have : i = 15 := by omega
    subst this
    refine ⟨m, ?_, hf⟩
    rw [F_X10_makes_b46, if_pos (by decide)]
    rfl
  | j + 1, kf, i, m, hj, hi, hf => by
    obtain ⟨g, rfl⟩ : ∃ g, kf = g + 1 := ⟨kf - 1, by omega⟩
    have e3 : nI i - nI i / (3 : Int32) * (3 : Int32) = nI (i % 3) := mod_e (m := 3) (by omega) (by omega)
    have j1 : nI i + (1 : Int32) = nI (i + 1) := by rw [zl_1, zq_add]
    have h2 : (2 : Int32).toNatClampNeg = 2 := rfl
    have hi3 := Nat.mod_lt i (by omega : 3 > 0)
    have i3 : (3 : Int32) + nI (i % 3) = nI (3 + i % 3) := by rw [zl_3, zq_add]
    rw [F_X10_makes_b46, if_neg (by rw [zl_15, zd_le (by omega) (by omega)]; omega), e3, h2, hr.2.1]
    unfold F_X10_makes_b90
    rw [j1, if_neg (nI_in (by omega) (by omega)), zd_cl (show i < 2147483648 by omega)]
    by_cases c : nt ≤ i % 3
    · rw [if_pos (by rw [zd_le (by omega) (by omega)]; exact c)]
      exact X10_mk46 hnt3 hkd hr j g (i + 1) _ (by omega) (by omega) (fun p hp hp3 => by
        rw [z_updL]
        by_cases q : p = i
        · subst q; omega
        · rw [if_neg q]; exact hf p (by omega) hp3)
    · have k3 : (nI (3 + i % 3)).toNatClampNeg = 3 + i % 3 := zd_cl (by omega)
      rw [if_neg (by rw [zd_le (by omega) (by omega)]; exact c), i3, if_neg (nI_in (by omega) (by omega)), k3, hr.2.2 _ (by omega), X10_atFirst (hkd _ hi3), z_b1, if_neg (zin (by omega) (by omega))]
      exact X10_mk46 hnt3 hkd hr j g (i + 1) _ (by omega) (by omega) (fun p hp hp3 => by
        rw [z_updL]
        by_cases q : p = i
        · rw [if_pos q, q]; exact tr_init (hkd _ hi3)
        · rw [if_neg q]; exact hf p (by omega) hp3)
theorem X10_mk100 {fu : Nat} {ra v1 v2 : Int32} {st r isD : Nat → Int32} {m : Nat → Int64} : ∀ (j kf i : Nat) (busy : Nat → Int32), j < kf → i + j = 4 → (∀ p, p < i → busy p = -1) →
    ∃ busy', F_X10_makes_b100 fu ra st r m isD v1 v2 kf busy (nI i) = F_X10_makes_b129 fu r v1 v2 fu ra st m busy' isD (nI 0) (nI 0) (nI 1) ∧ ∀ p, p < 4 → busy' p = -1
  | 0, kf, i, busy, hj, hi, hf => by
    obtain ⟨g, rfl⟩ : ∃ g, kf = g + 1 := ⟨kf - 1, by omega⟩
    have : i = 4 := by omega
    subst this
    refine ⟨busy, ?_, hf⟩
    rw [F_X10_makes_b100, if_pos (by decide)]
    rfl
  | j + 1, kf, i, busy, hj, hi, hf => by
    obtain ⟨g, rfl⟩ : ∃ g, kf = g + 1 := ⟨kf - 1, by omega⟩
    have j1 : nI i + (1 : Int32) = nI (i + 1) := by rw [zl_1, zq_add]
    rw [F_X10_makes_b100, if_neg (by rw [zl_4, zd_le (by omega) (by omega)]; omega), if_neg (nI_in (by omega) (by omega)), zd_cl (by omega), j1]
    exact X10_mk100 j g (i + 1) _ (by omega) (by omega) (fun p hp => by
      rw [z_upd]
      by_cases c : p = i
      · rw [if_pos c]
      · rw [if_neg c]; exact hf p (by omega))
theorem MJ_make {fu : Nat} (hfu : 20000 ≤ fu) {kd : Nat → Nat} {nt nq late n mk s : Nat} (hnt : 0 < nt) (hnt3 : nt ≤ 3) (hnq : 0 < nq) (hnq4 : nq ≤ 4) (hkd : ∀ t, t < 3 → kd t < 5) (hmk : mk ≤ 2) (hn0 : 0 < n) (hn : n ≤ 20) (hs : s < 65537)
    {r kinds : Nat → Int32} (hkk : ∀ t, t < 3 → kinds t = nI (kd t)) (hr : RLy kd nt late r) (hr6 : r 6 = nI nq) (phs tills f0 f1 f2 f3 f4 f5 f6 dng ans : Nat → Int32) {st : Nat → Int32} (hst : st 140 = nI s) (busy isD : Nat → Int32) (m : Nat → Int64) (ra : Int32) :
    ∃ K' s' M nn' phs' tills' f0' f1' f2' f3' f4' f5' f6' dng' ans' st' busy' isD' m' ra', okC 4 nt kd K' ∧ s' < 65537 ∧ M ≤ 999 ∧
      F_X2_run fu phs tills (nI nt) (nI nq) kinds f0 f1 f2 f3 f4 f5 f6 dng ans (nI mk) (nI n) (nI s) = some (nI M, nI s', nn', phs', tills', f0', f1', f2', f3', f4', f5', f6', dng', ans') ∧ RC K' nn' f0' f1' f2' f3' f4' f5' f6' ∧
      F_X10_makes fu ra st r m busy isD (nI mk) (nI n) = some (nI M, ra', st', m', busy', isD') ∧ RK K' (ce K') st' ∧ st' 140 = nI s' := by
  obtain ⟨tills1, e1, h1⟩ := X2_run21 (fu := fu) hkd hkk (sd := nI s) (n := 0) (a1 := nI nt) (a2 := nI nq) (v2 := nI mk) (v3 := nI n) (phs := fun k => if k < 4 then 0 else phs k) (f0 := f0) (f1 := f1) (f2 := f2) (f3 := f3) (f4 := f4) (f5 := f5) (f6 := f6) (dng := dng) (ans := ans) 15 fu 0 tills (by omega) (by omega) (fun p hp => by omega)
  obtain ⟨st1, e2, h2⟩ := X10_mk12 (fu := fu) (ra := ra) (v1 := nI mk) (v2 := nI n) (v3 := nI s) (r := r) (busy := busy) (isD := isD) (m := m) 142 fu 0 st (by omega) (by omega) (fun p hp => by omega)
  obtain ⟨m1, e3, h3⟩ := X10_mk46 (fu := fu) hnt3 hkd (ra := ra) (v1 := nI mk) (v2 := nI n) (st := upd st1 140 (nI s)) (busy := busy) (isD := isD) hr 15 fu 0 m (by omega) (by omega) (fun p hp => by omega)
  obtain ⟨busy1, e4, h4⟩ := X10_mk100 (fu := fu) (ra := ra) (v1 := nI mk) (v2 := nI n) (st := upd st1 140 (nI s)) (r := r) (isD := isD) (m := m1) 4 fu 0 busy (by omega) (by omega) (fun p hp => by omega)
  have hI : MI K0 kd nt n 0 (fun _ => 0) (fun _ => 0) (fun _ => 0) (cp0 kd) s := by
    refine ⟨⟨by show 0 ≤ 20; omega, fun c hc => ?_⟩, fun i hi => okT_init (hkd _ (by omega)), hs, by show 0 ≤ n; omega, fun c hc => ?_, fun k hk => ⟨Nat.zero_le _, fun h => absurd rfl h, fun h => absurd (show (0 : Nat) = 2 from h) (by omega)⟩⟩
    · exact absurd hc (Nat.not_lt_zero _)
    · exact absurd hc (Nat.not_lt_zero _)
  have hC : MC K0 (fun _ => 0) (fun _ => 0) (fun _ => 0) (cp0 kd) 0 (fun k => if k < 4 then 0 else phs k) tills1 f0 f1 f2 f3 f4 f5 f6 dng ans := by
    refine ⟨⟨rfl, fun c hc => absurd hc (Nat.not_lt_zero _)⟩, h1, fun k hk => ⟨?_, fun h => absurd rfl h, fun h => absurd (show (0 : Nat) = 2 from h) (by omega)⟩⟩
    show (if k < 4 then (0 : Int32) else phs k) = nI 0
    rw [if_pos hk]; rfl
  have hR : MR K0 kd nt (fun _ => 0) (fun _ => 0) (fun _ => 0) (cp0 kd) s (upd st1 140 (nI s)) m1 busy1 isD := by
    refine ⟨⟨?_, fun c hc => absurd hc (Nat.not_lt_zero _)⟩, by rw [z_upd, if_pos rfl], h3, fun k hk => ⟨fun _ => h4 k hk, fun h => absurd rfl h, fun h => absurd (show (0 : Nat) = 2 from h) (by omega)⟩⟩
    rw [z_upd, if_neg (by omega), h2 _ (by omega)]; rfl
  obtain ⟨K', s', M, nn', phs', tills', f0', f1', f2', f3', f4', f5', f6', dng', ans', st', busy', isD', m', ra', q1, q2, q3, q4, q5, q6, q7, q8⟩ := MJ_loop hfu hnt hnt3 hnq hnq4 hkd hmk hn hkk hr hr6 999 fu fu 0 0 (ra := ra) (by omega) (by omega) (by omega) hn0 hI hC hR
  refine ⟨K', s', M, nn', phs', tills', f0', f1', f2', f3', f4', f5', f6', dng', ans', st', busy', isD', m', ra', q1, q2, q3, ?_, q5, ?_, q7, q8⟩
  · unfold F_X2_run F_X0_clear
    rw [z_b1, J7_fill (n := 4) (by omega) (by omega), z_b1]
    exact e1.trans q4
  · unfold F_X10_makes
    have h140 : (140 : Int32).toNatClampNeg = 140 := rfl
    rw [h140, hst]
    exact e2.trans (e3.trans (e4.trans (q6 _)))
theorem X2_isOne {v : Int32} : F_X2_isOne v = some (nI (if 0 ≤ v ∧ v ≤ 2 then 1 else 0)) := by
  unfold F_X2_isOne
  by_cases c : v < 0
  · rw [if_pos c, if_neg (fun h => (nlt_le.mpr h.1) c)]; rfl
  · rw [if_neg c]
    by_cases d : 2 < v
    · rw [if_pos d, if_neg (fun h => (nlt_le2.mpr h.2) d)]; rfl
    · rw [if_neg d, if_pos ⟨nlt_le.mp c, nlt_le2.mp d⟩]; rfl
theorem nI_bnd {v : Int32} {N : Nat} (hN : N < 2147483648) (h0 : 0 ≤ v) (h1 : v ≤ nI N) : ∃ k, v = nI k ∧ k ≤ N := by
  obtain ⟨j, hj, rfl⟩ := nI_of (nlt_le.mpr h0)
  rw [zd_le (by omega) (by omega)] at h1
  exact ⟨j, rfl, h1⟩
/-- make: both answer alike, and have the same calls -/
theorem XJ_make {fu : Nat} (hfu : 20000 ≤ fu) {K : Ca} {kd : Nat → Nat} {nt nq late s : Nat} {n l : Int32} {f0 f1 f2 f3 f4 f5 f6 kinds : Nat → Int32} (h : CS K kd nt late n f0 f1 f2 f3 f4 f5 f6 kinds l) {st r : Nat → Int32} (hK : RK K (ce K) st) (hr : RLy kd nt late r) (told : Bool)
    (ht : told = true → 0 < nt ∧ 0 < nq ∧ nq ≤ 4 ∧ r 6 = nI nq) (hs : s < 65537) (hst : st 140 = nI s) (v1 v2 : Int32) (a1 ms : Int32) (ha1 : told = true → a1 = nI nq) (phs tills dng ans : Nat → Int32) (busy isD : Nat → Int32) (m : Nat → Int64) (ra : Int32) :
    ∃ K' s' rs tb n' ms' phs' tills' f0' f1' f2' f3' f4' f5' f6' dng' ans' st' busy' isD' m' ra', okC 4 nt kd K' ∧ s' < 65537 ∧
      F_X9_make fu (nI s) (nI (if told = true then 1 else 0)) (nI nt) a1 ms n phs tills kinds f0 f1 f2 f3 f4 f5 f6 dng ans v1 v2 = some (rs, nI s', tb, ms', n', phs', tills', f0', f1', f2', f3', f4', f5', f6', dng', ans') ∧ RC K' n' f0' f1' f2' f3' f4' f5' f6' ∧
      F_X10_make fu (nI (if told = true then 1 else 0)) ra st r m busy isD v1 v2 = some (rs, nI 0, tb, ra', st', m', busy', isD') ∧ RK K' (ce K') st' ∧ st' 140 = nI s' ∧ (told = false → K' = K ∧ s' = s) := by
  have hno1 : F_X10_no 1 = some (-1, nI 1) := rfl
  have hno2 : F_X10_no 2 = some (-1, nI 2) := rfl
  have hre1 : F_X9_refused 1 = some (-1, nI 1) := rfl
  have hre2 : F_X9_refused 2 = some (-1, nI 2) := rfl
  unfold F_X9_make F_X10_make F_X10_good F_X9_make_b17 F_X9_make_b34 F_X10_make_b20
  rw [z_b2, hno1, hno2, hre1, hre2, z_b2, z_b2, z_b2]
  rcases told
  · rw [if_pos (show nI (if false = true then 1 else 0) = 0 by decide), if_pos (show nI (if false = true then 1 else 0) = 0 by decide)]
    exact ⟨K, s, -1, nI 1, n, ms, phs, tills, f0, f1, f2, f3, f4, f5, f6, dng, ans, st, busy, isD, m, ra, h.2.1, hs, rfl, h.1, rfl, hK, hst, fun _ => ⟨rfl, rfl⟩⟩
  · obtain ⟨hnt, hnq, hnq4, hr6⟩ := ht rfl
    rw [ha1 rfl, if_neg (show ¬ nI (if true = true then 1 else 0) = 0 by decide), if_neg (show ¬ nI (if true = true then 1 else 0) = 0 by decide), X2_isOne, z_b1, X10_within, z_b1]
    by_cases c : 0 ≤ v1 ∧ v1 ≤ 2
    · rw [if_pos c, if_neg n1_0, if_neg n1_0, X10_within, z_b1]
      by_cases d : 1 ≤ v2 ∧ v2 ≤ 20
      · obtain ⟨mk, rfl, hmk⟩ := nI_bnd (N := 2) (by omega) c.1 c.2
        obtain ⟨k, rfl, hk⟩ := nI_bnd (N := 20) (v := v2) (by omega) (Int32.le_trans (by decide) d.1) d.2
        have hk0 : 0 < k := by
          have := d.1
          rw [zl_1, zd_le (by omega) (by omega)] at this
          omega
        obtain ⟨K', s', M, nn', phs', tills', f0', f1', f2', f3', f4', f5', f6', dng', ans', st', busy', isD', m', ra', q1, q2, q3, q4, q5, q6, q7, q8⟩ := MJ_make hfu hnt h.2.2.1 hnq hnq4 h.2.2.2.1 hmk hk0 hk hs h.2.2.2.2.1 hr hr6 phs tills f0 f1 f2 f3 f4 f5 f6 dng ans hst busy isD m ra
        rw [if_pos d, if_neg n1_0, if_neg (nlt_le2.mpr d.1), if_pos d.2, q4, z_b14, q6, z_b6, X9_answeredN (by omega), z_b2]
        exact ⟨K', s', _, _, _, _, _, _, _, _, _, _, _, _, _, _, _, st', busy', isD', m', ra', q1, q2, rfl, q5, rfl, q7, q8, fun hh => nomatch hh⟩
      · rw [if_neg d, if_pos n0_0]
        refine ⟨K, s, -1, nI 2, n, ms, phs, tills, f0, f1, f2, f3, f4, f5, f6, dng, ans, st, busy, isD, m, ra, h.2.1, hs, ?_, h.1, rfl, hK, hst, fun _ => ⟨rfl, rfl⟩⟩
        by_cases d1 : v2 < 1
        · rw [if_pos d1]
        · rw [if_neg d1, if_neg (fun g => d ⟨nlt_le2.mp d1, g⟩)]
    · rw [if_neg c, if_pos n0_0, if_pos n0_0]
      exact ⟨K, s, -1, nI 1, n, ms, phs, tills, f0, f1, f2, f3, f4, f5, f6, dng, ans, st, busy, isD, m, ra, h.2.1, hs, rfl, h.1, rfl, hK, hst, fun _ => ⟨rfl, rfl⟩⟩
