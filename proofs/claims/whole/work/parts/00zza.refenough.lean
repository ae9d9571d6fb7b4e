/-! the reference's enough -/
theorem X10_en19 {fu : Nat} (hfu : 20000 ≤ fu) {K : Ca} {kd : Nat → Nat} {nt late : Nat} {st r : Nat → Int32} (hM : MS K kd nt late st r) {a1 : Int32} :
    ∀ (f kf i : Nat) (ans th lo on mi bk sn isF : Int32) (w long row' slot doneOf : Nat → Int32) (tills : Nat → Int64) (next heard leads : Nat → Int32), f < kf → i + f = 100 →
    ∃ ans' th' lo' on' mi' bk' sn' isF' w' long' row2 slot' doneOf' tills' next' heard' leads', F_X10_enough_b19 fu a1 (nI 0) st r kf ans th lo on mi bk sn isF w long row' slot doneOf tills next heard leads (nI i) =
      some ((enl K kd nt f i).1, a1, (enl K kd nt f i).2, ans', th', lo', on', mi', bk', sn', isF', w', long', row2, slot', doneOf', tills', next', heard', leads')
  | 0, kf, i, ans, th, lo, on, mi, bk, sn, isF, w, long, row', slot, doneOf, tills, next, heard, leads, hf, hi => by
    obtain ⟨g, rfl⟩ : ∃ g, kf = g + 1 := ⟨kf - 1, by omega⟩
    rw [F_X10_enough_b19, if_pos (by rw [zl_99, zd_lt (by omega) (by omega)]; omega)]
    exact ⟨_, _, _, _, _, _, _, _, _, _, _, _, _, _, _, _, _, rfl⟩
  | f + 1, kf, i, ans, th, lo, on, mi, bk, sn, isF, w, long, row', slot, doneOf, tills, next, heard, leads, hf, hi => by
    obtain ⟨g, rfl⟩ : ∃ g, kf = g + 1 := ⟨kf - 1, by omega⟩
    have hm := hM.1.1
    have i1 : nI i + (1 : Int32) = nI (i + 1) := by rw [zl_1, zq_add]
    obtain ⟨w1, e1, h2, _⟩ := layCalls (w := w) hfu hm hM.2.2.2.2.1 hM.2.2.2.2.2
    have hw := MS_Yk (K := K) (kd := kd) (nt := nt) (late := i) (st := st) (r := upd r 0 (nI i)) ⟨hM.1, hM.2.1, hM.2.2.1, by omega, hM.2.2.2.2.1, by
      obtain ⟨_, q2, q3⟩ := hM.2.2.2.2.2
      exact ⟨by rw [z_upd, if_pos rfl], by rw [z_upd, if_neg (by omega)]; exact q2, fun t ht => by rw [z_upd, if_neg (by omega)]; exact q3 t ht⟩⟩ 2
    obtain ⟨ans', n', full', long', row2, slot', doneOf', tills', next', heard', leads', e2, h4⟩ := X10_comes (ans := ans) (long := long) (row' := row') (slot := slot) (doneOf := doneOf) (next := next) (heard := heard) (leads := leads) (tills := tills) hfu hw (RK_RW h2) (RI_k (kd := kd) (nt := nt) (late := i) (kind := 2) hm) (RE_k hM.1 h2 (by omega : i ≤ 99) (by omega)) (RL_kinds hM.2.2.2.2.2)
    have e2' : F_X10_comes fu ans (nI (msk (fun _ => true) (cm K))) (nI 0) (-1) (nI i) long w1 row' slot doneOf tills r next heard leads 2 = _ := e2
    rw [F_X10_enough_b19, if_neg (by rw [zl_99, zd_lt (by omega) (by omega)]; omega), e1, z_b5, e2', z_b13, enl_s]
    by_cases cf : full (Yk K kd nt i 2) = true
    · have hno : F_X10_no 3 = some (-1, nI 3) := rfl
      rw [if_pos cf, if_pos n0_0, hno, z_b2, if_pos cf]
      exact ⟨_, _, _, _, _, _, _, _, _, _, _, _, _, _, _, _, _, rfl⟩
    · have cf' : full (Yk K kd nt i 2) = false := by simpa using cf
      have hb := FG_ini hw cf' (h4 cf')
      have h00 : leads' (0 : Int32).toNatClampNeg = leads' 0 := rfl
      rw [if_neg cf, if_neg n1_0, h00, if_neg cf]
      rcases hb with ⟨q1, q2⟩ | ⟨q1, q2⟩
      · rw [q1, if_neg n1_0, if_neg (by omega)]
        exact ⟨_, _, _, _, _, _, _, _, _, _, _, _, _, _, _, _, _, rfl⟩
      · rw [q1, if_pos n0_0, if_pos (by omega), i1]
        exact X10_en19 hfu hM f g (i + 1) _ _ _ _ _ _ _ _ _ _ _ _ _ _ _ _ _ (by omega) (by omega)
theorem X10_enough {fu : Nat} (hfu : 20000 ≤ fu) {K : Ca} {kd : Nat → Nat} {nt late : Nat} {st w r : Nat → Int32} (hM : MS K kd nt late st r) (told : Bool)
    {ans th lo on mi bk sn isF : Int32} {long row' slot doneOf next heard leads : Nat → Int32} {tills : Nat → Int64} :
    ∃ ans' th' lo' on' mi' bk' sn' isF' w' long' row2 slot' doneOf' tills' next' heard' leads', F_X10_enough fu (nI (if told = true then 1 else 0)) ans th lo on mi bk sn isF st w r long row' slot doneOf tills next heard leads =
      some ((rs_enough K kd nt told).1, nI 0, (rs_enough K kd nt told).2, ans', th', lo', on', mi', bk', sn', isF', w', long', row2, slot', doneOf', tills', next', heard', leads') := by
  have hm := hM.1.1
  unfold F_X10_enough F_X10_good
  rw [z_b2]
  rcases told
  · have hrs : rs_enough K kd nt false = (-1, nI 1) := rfl
    rw [if_pos (show nI (if false = true then 1 else 0) = 0 from rfl), hrs]
    exact ⟨ans, th, lo, on, mi, bk, sn, isF, w, long, row', slot, doneOf, tills, next, heard, leads, rfl⟩
  · rw [if_neg (show ¬ nI (if true = true then 1 else 0) = 0 by decide)]
    have hrs : rs_enough K kd nt true = enl K kd nt 100 0 := rfl
    rw [hrs]
    exact X10_en19 (a1 := (0 : Int32)) hfu hM 100 fu 0 ans th lo on mi bk sn isF w long row' slot doneOf tills next heard leads (by omega) (by omega)
