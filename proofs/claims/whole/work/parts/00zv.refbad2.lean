theorem X10_bad112 {fu : Nat} (hfu : 20000 ≤ fu) {K : Ca} {kd : Nat → Nat} {nt late : Nat} {st r : Nat → Int32} (hM : MS K kd nt late st r) {n : Nat} {arr : Nat → Int32} {s : Nat → Nat} (hS : SO K (cm K) n arr s) {k : Nat} (hk : k ≤ 2)
    {k26 : Int32 → Int32 → Int32 → Int32 → Int32 → Int32 → Int32 → Int32 → (Nat → Int32) → (Nat → Int32) → (Nat → Int32) → (Nat → Int32) → (Nat → Int32) → (Nat → Int64) → (Nat → Int32) → (Nat → Int32) → (Nat → Int32) → Int32 → Option (Int32 × Int32 × Int32 × Int32 × Int32 × Int32 × Int32 × Int32 × Int32 × Int32 × Int32 × (Nat → Int32) × (Nat → Int32) × (Nat → Int32) × (Nat → Int32) × (Nat → Int32) × (Nat → Int32) × (Nat → Int64) × (Nat → Int32) × (Nat → Int32) × (Nat → Int32))}
    {a1 a2 ans : Int32} {long row' slot doneOf next heard leads : Nat → Int32} {tills : Nat → Int64} {i : Nat} (hi : i < n) :
    ∀ (f kf t : Nat) (w : Nat → Int32), f < kf → t + f = n → i < t → (∀ p, p < 142 → p % 7 ≠ 5 → w p = st p) → (∀ u, i < u → u < t → w (7 * s u + 5) = -2) → (∀ c, c < cm K → (∀ u, i < u → u < t → s u ≠ c) → w (7 * c + 5) = ce K c) →
    ∃ ans' bk' sn' isF' w' long' row2 slot' doneOf' tills' next' heard' leads', F_X10_bad_b112 k26 fu a1 a2 ans (nI (msk (bgn K (s i)) (cm K))) (nI 0) (-1) (nI late) st arr r long row' slot doneOf tills next heard leads (nI k) (nI n) (nI i) kf w (nI t) =
      (if full (Yb K kd nt late k i (s i)) = true then some (-1, a1, nI 3, ans', nI (msk (bgn K (s i)) (cm K)), nI 0, -1, nI late, bk', sn', isF', arr, w', long', row2, slot', doneOf', tills', next', heard', leads')
        else if PW (Yb K kd nt late k i (s i)) (whole (Yb K kd nt late k i (s i))) (ini (Yb K kd nt late k i (s i))) = 0 then some (nI (s i), a1, a2, ans', nI (msk (bgn K (s i)) (cm K)), nI 0, -1, nI late, bk', sn', isF', arr, w', long', row2, slot', doneOf', tills', next', heard', leads')
        else k26 ans' (nI (msk (bgn K (s i)) (cm K))) (nI 0) (-1) (nI late) bk' sn' isF' w' long' row2 slot' doneOf' tills' next' heard' leads' (nI (i + 1)))
  | 0, kf, t, w, hf, ht, hit, h1, h2, h3 => by
    obtain ⟨g, rfl⟩ : ∃ g, kf = g + 1 := ⟨kf - 1, by omega⟩
    obtain ⟨hK, hnt, hkd, hl, h, hr⟩ := hM
    have hm := hK.1
    have hn := hS.1
    have htn : t = n := by omega
    subst htn
    have hRK := RK_epo hS h hm hi h1 h2 h3
    have hw := MS_Yb ⟨hK, hnt, hkd, hl, h, hr⟩ k i (s i)
    obtain ⟨ans', n', full', long', row2, slot', doneOf', tills', next', heard', leads', e, h4⟩ := X10_comes (ans := ans) (long := long) (row' := row') (slot := slot) (doneOf := doneOf) (next := next) (heard := heard) (leads := leads) (tills := tills) hfu hw (RK_RW hRK) (RI_b (kd := kd) (nt := nt) (late := late) (k := k) (i := i) hm) (RE_b hK hRK hl (by omega)) (RL_kinds hr)
    rw [F_X10_bad_b112, if_pos (by rw [zd_le (by omega) (by omega)]; omega), e, z_b13]
    refine ⟨ans', nI k, n', full', w, long', row2, slot', doneOf', tills', next', heard', leads', ?_⟩
    by_cases cf : full (Yb K kd nt late k i (s i)) = true
    · have hno : F_X10_no 3 = some (-1, nI 3) := rfl
      rw [if_pos cf, if_pos n0_0, hno, z_b2, if_pos cf]
    · have cf' : full (Yb K kd nt late k i (s i)) = false := by simpa using cf
      have hb := FG_ini hw cf' (h4 cf')
      rw [if_neg cf, if_neg n1_0, if_neg cf]
      have h00 : leads' (0 : Int32).toNatClampNeg = leads' 0 := rfl
      have harr := (hS.2.1 i hi).1
      rw [h00]
      rcases hb with ⟨q1, q2⟩ | ⟨q1, q2⟩
      · rw [q1, if_neg n1_0, if_neg (by omega), show nI i + (1 : Int32) = nI (i + 1) by rw [zl_1, zq_add]]
      · rw [q1, if_pos n0_0, if_neg (nI_in (by omega) (by omega)), if_pos (by omega), zd_cl (by omega), harr]
  | f + 1, kf, t, w, hf, ht, hit, h1, h2, h3 => by
    obtain ⟨g, rfl⟩ : ∃ g, kf = g + 1 := ⟨kf - 1, by omega⟩
    have hm := hM.1.1
    have hn := hS.1
    have hst := (hS.2.1 t (by omega)).1
    have hsl := (hS.2.1 t (by omega)).2.1
    have i7 : (7 : Int32) * nI (s t) + 5 = nI (7 * s t + 5) := by rw [zl_7, zl_5, zq_mul, zq_add]
    have i1 : nI t + (1 : Int32) = nI (t + 1) := by rw [zl_1, zq_add]
    rw [F_X10_bad_b112, if_neg (by rw [zd_le (by omega) (by omega)]; omega), if_neg (nI_in (by omega) (by omega)), zd_cl (by omega), hst, i7, if_neg (nI_in (by omega) (by omega)), zd_cl (by omega), i1]
    refine X10_bad112 hfu hM hS hk hi f g (t + 1) _ (by omega) (by omega) (by omega) (fun p hp hp7 => ?_) (fun u hu hu2 => ?_) (fun c hc hcu => ?_)
    · rw [z_upd, if_neg (by omega)]; exact h1 p hp hp7
    · rw [z_upd]
      by_cases d : u = t
      · rw [if_pos (by rw [d])]
      · have := hS.2.2.1 u t (by omega) (by omega)
        have hne : s u ≠ s t := by
          intro e
          rw [e] at this
          unfold lte at this; omega
        rw [if_neg (by omega)]
        exact h2 u hu (by omega)
    · have hne := hcu t (by omega) (by omega)
      rw [z_upd, if_neg (by omega)]
      exact h3 c hc (fun u g1 g2 => hcu u g1 (by omega))
theorem X10_bad26 {fu : Nat} (hfu : 20000 ≤ fu) {K : Ca} {kd : Nat → Nat} {nt late : Nat} {st r : Nat → Int32} (hM : MS K kd nt late st r) {n : Nat} {arr : Nat → Int32} {s : Nat → Nat} (hS : SO K (cm K) n arr s) {k : Nat} (hk : k ≤ 2) {a1 : Int32} :
    ∀ (f kf i : Nat) (ans th lo on mi bk sn isF : Int32) (w long row' slot doneOf : Nat → Int32) (tills : Nat → Int64) (next heard leads : Nat → Int32), f < kf → i + f = cm K → i ≤ n →
    ∃ ans' th' lo' on' mi' bk' sn' isF' w' long' row2 slot' doneOf' tills' next' heard' leads', F_X10_bad_b26 fu a1 (nI 0) st arr r (nI k) (nI n) kf ans th lo on mi bk sn isF w long row' slot doneOf tills next heard leads (nI i) =
      some ((bdl K kd nt late k f i).1, a1, (bdl K kd nt late k f i).2, ans', th', lo', on', mi', bk', sn', isF', arr, w', long', row2, slot', doneOf', tills', next', heard', leads')
  | f, kf, i, ans, th, lo, on, mi, bk, sn, isF, w, long, row', slot, doneOf, tills, next, heard, leads, hf, hi, hin => by
    obtain ⟨g, rfl⟩ : ∃ g, kf = g + 1 := ⟨kf - 1, by omega⟩
    have hm := hM.1.1
    have hn := hS.1
    by_cases c : i = n
    · rw [F_X10_bad_b26, if_pos (by rw [zd_le (by omega) (by omega)]; omega), bdl_none (by rw [c]; exact SO_end hS)]
      exact ⟨_, _, _, _, _, _, _, _, _, _, _, _, _, _, _, _, _, rfl⟩
    · obtain ⟨f', rfl⟩ : ∃ f', f = f' + 1 := ⟨f - 1, by omega⟩
      have hin' : i < n := by omega
      have hnx := (SO_nx hS i (by omega)).2 hin'
      have harr := (hS.2.1 i hin').1
      have hsl := (hS.2.1 i hin').2.1
      have hst := hM.2.2.2.2.1
      obtain ⟨w1, e1, h1, h1'⟩ := layCalls (w := w) hfu hm hst hM.2.2.2.2.2
      have i7 : (7 : Int32) * nI (s i) + 5 = nI (7 * s i + 5) := by rw [zl_7, zl_5, zq_mul, zq_add]
      have i1 : nI i + (1 : Int32) = nI (i + 1) := by rw [zl_1, zq_add]
      rw [F_X10_bad_b26, if_neg (by rw [zd_le (by omega) (by omega)]; omega), e1, z_b5, if_neg (nI_in (by omega) (by omega)), zd_cl (by omega), harr, i7, if_neg (nI_in (by omega) (by omega)), zd_cl (by omega), (hst.2 _ hsl).2.2.2.2.2.1]
      have e2 := fun {k26} => X10_bad56 (k26 := k26) (fu := fu) (a1 := a1) (a2 := nI 0) (a3 := ans) (a4 := nI 0) (a5 := -1) (a6 := nI late) (v1 := nI k) (v2 := nI n) (v3 := nI i) (byEnd := arr) (w := w1) (r := r) (long := long) (row' := row') (slot := slot) (doneOf := doneOf) (next := next) (heard := heard) (leads := leads) (tills := tills) (c0 := s i) hst hm (cm K) fu 0 (msk (fun _ => true) (cm K)) (by omega) (by omega) (msk_lt20 _ hm) (fun c => by rw [msk_bit]; simp)
      have e2' := fun {k26} => e2 (k26 := k26)
      rw [zl_0, e2, i1]
      obtain ⟨ans', bk', sn', isF', w', long', row2, slot', doneOf', tills', next', heard', leads', e3⟩ := X10_bad112 (k26 := F_X10_bad_b26 fu a1 (nI 0) st arr r (nI k) (nI n) g) (a1 := a1) (a2 := nI 0) (ans := ans) (long := long) (row' := row') (slot := slot) (doneOf := doneOf) (next := next) (heard := heard) (leads := leads) (tills := tills) hfu hM hS hk hin' (n - (i + 1)) fu (i + 1) w1 (by omega) (by omega) (by omega) (fun p hp _ => h1' p hp) (fun u g1 g2 => by omega) (fun c hc _ => (h1.2 c hc).2.2.2.2.2.1)
      rw [e3, bdl_some hnx]
      by_cases cf : full (Yb K kd nt late k i (s i)) = true
      · rw [if_pos cf, if_pos cf]
        exact ⟨_, _, _, _, _, _, _, _, _, _, _, _, _, _, _, _, _, rfl⟩
      · rw [if_neg cf, if_neg cf]
        by_cases cp : PW (Yb K kd nt late k i (s i)) (whole (Yb K kd nt late k i (s i))) (ini (Yb K kd nt late k i (s i))) = 0
        · rw [if_pos cp, if_pos cp]
          exact ⟨_, _, _, _, _, _, _, _, _, _, _, _, _, _, _, _, _, rfl⟩
        · rw [if_neg cp, if_neg cp]
          exact X10_bad26 hfu hM hS hk f' g (i + 1) _ _ _ _ _ _ _ _ _ _ _ _ _ _ _ _ _ (by omega) (by omega) (by omega)
theorem X10_bad {fu : Nat} (hfu : 20000 ≤ fu) {K : Ca} {kd : Nat → Nat} {nt late : Nat} {st w r : Nat → Int32} (hM : MS K kd nt late st r) (told : Bool) (v : Int32)
    {ans th lo on mi bk sn isF : Int32} {byEnd long row' slot doneOf next heard leads : Nat → Int32} {tills : Nat → Int64} :
    ∃ ans' th' lo' on' mi' bk' sn' isF' byEnd' w' long' row2 slot' doneOf' tills' next' heard' leads', F_X10_bad fu (nI (if told = true then 1 else 0)) ans th lo on mi bk sn isF st byEnd w r long row' slot doneOf tills next heard leads v =
      some ((rs_bad K kd nt late told v).1, nI 0, (rs_bad K kd nt late told v).2, ans', th', lo', on', mi', bk', sn', isF', byEnd', w', long', row2, slot', doneOf', tills', next', heard', leads') := by
  have hm := hM.1.1
  unfold F_X10_bad F_X10_good
  rw [zl_2, X10_isKind, z_b2, z_b1]
  rcases e : kin told v 2 with _ | k
  · have hrs : rs_bad K kd nt late told v = (-1, nI 1) := by unfold rs_bad; rw [e]
    rw [ifn, if_pos n0_0, hrs]
    exact ⟨ans, th, lo, on, mi, bk, sn, isF, byEnd, w, long, row', slot, doneOf, tills, next, heard, leads, rfl⟩
  · obtain ⟨_, rfl, hk⟩ := kin_some (by omega) e
    have hrs : rs_bad K kd nt late told (nI k) = bdl K kd nt late k (cm K) 0 := by unfold rs_bad; rw [e]
    obtain ⟨n, arr, s, e1, hS⟩ := X10_layEnds (arr := byEnd) hfu hM.2.2.2.2.1 hm
    rw [ifs, if_neg n1_0, e1, z_b2, hrs]
    obtain ⟨ans', th', lo', on', mi', bk', sn', isF', w', long', row2, slot', doneOf', tills', next', heard', leads', e2⟩ := X10_bad26 (a1 := (0 : Int32)) hfu hM hS hk (cm K) fu 0 ans th lo on mi bk sn isF w long row' slot doneOf tills next heard leads (by omega) (by omega) (by omega)
    exact ⟨_, _, _, _, _, _, _, _, _, _, _, _, _, _, _, _, _, _, e2⟩
