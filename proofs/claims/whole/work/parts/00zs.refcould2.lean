theorem X10_could {fu : Nat} (hfu : 20000 ≤ fu) {K : Ca} {kd : Nat → Nat} {nt late : Nat} {st w r : Nat → Int32} (hM : MS K kd nt late st r) (told : Bool) (h0 : told = false → cm K = 0) (v u : Int32)
    {ans th lo on mi bk sn isF : Int32} {long row' slot doneOf next heard leads could : Nat → Int32} {tills : Nat → Int64} :
    ∃ ans' th' lo' on' mi' bk' sn' isF' w' long' row2 slot' doneOf' tills' next' heard' leads' could', F_X10_could fu (nI (if told = true then 1 else 0)) ans th lo on mi bk sn isF st w r long row' slot doneOf tills next heard leads could v u =
      some ((rs_could K kd nt late told v u).1, nI 0, (rs_could K kd nt late told v u).2, ans', th', lo', on', mi', bk', sn', isF', w', long', row2, slot', doneOf', tills', next', heard', leads', could') := by
  have hm := hM.1.1
  unfold F_X10_could F_X10_good
  rw [zl_2, X10_isKind, z_b2, z_b1]
  rcases e : kin told v 2 with _ | k
  · have hrs : rs_could K kd nt late told v u = (-1, nI 1) := by unfold rs_could; rw [e]
    rw [ifn, if_pos n0_0, hrs]
    exact ⟨ans, th, lo, on, mi, bk, sn, isF, w, long, row', slot, doneOf, tills, next, heard, leads, could, rfl⟩
  · obtain ⟨ht, rfl, hk⟩ := kin_some (by omega) e
    rw [ifs, if_neg n1_0, X10_isCall (by omega) h0 hM.2.2.2.2.1.1, z_b1]
    rcases e2 : tin (cm K) u with _ | c0
    · have hrs : rs_could K kd nt late told (nI k) u = (-1, nI 1) := by unfold rs_could; rw [e]; simp only [e2]
      rw [ifn, if_pos n0_0, hrs]
      exact ⟨ans, th, lo, on, mi, bk, sn, isF, w, long, row', slot, doneOf, tills, next, heard, leads, could, rfl⟩
    · obtain ⟨rfl, hc⟩ := tin_some (by omega) e2
      obtain ⟨v', ans', th', lo', on', mi', bk', sn', isF', w', long', row2, slot', doneOf', tills', next', heard', leads', could', e3, g1, g2⟩ := X10_layCould (w := w) (ans := ans) (long := long) (row' := row') (slot := slot) (doneOf := doneOf) (next := next) (heard := heard) (leads := leads) (could := could) (tills := tills) hfu hM hk hc
      rw [ifs, if_neg n1_0, e3, z_b19]
      by_cases c : full (Yc K kd nt late k c0) = true
      · have hrs : rs_could K kd nt late told (nI k) (nI c0) = (-1, nI 3) := by unfold rs_could; rw [e]; simp only [e2, c, ↓reduceIte]
        rw [g1 c, if_neg (by decide), hrs]
        exact ⟨_, _, _, _, _, _, _, _, _, _, _, _, _, _, _, _, _, _, rfl⟩
      · have c' : full (Yc K kd nt late k c0) = false := by simpa using c
        have hrs : rs_could K kd nt late told (nI k) (nI c0) = (nI (fb_ct (cdp K kd nt late k c0) 100), nI 0) := by unfold rs_could; rw [e]; simp only [e2, c', Bool.false_eq_true, ↓reduceIte]
        have hle := fb_ct_le (cdp K kd nt late k c0) 100
        rw [(g2 c').1, if_pos (by rw [zl_0, zd_le (by omega) (by omega)]; omega), hrs]
        exact ⟨_, _, _, _, _, _, _, _, _, _, _, _, _, _, _, _, _, _, rfl⟩
theorem X10_ct68l {p : Nat → Bool} {could : Nat → Int32} (hp : ∀ v, v < 100 → could v = nI (if p v = true then 1 else 0)) (h : 0 < fb_ct p 100) {a1 a2 a3 a4 a5 a6 a7 a8 a9 a10 : Int32} {w long row' slot doneOf next heard leads : Nat → Int32} {tills : Nat → Int64} :
    ∀ (j kf i : Nat), j < kf → i + j = fa_first p 100 → F_X10_couldTell_b68 a1 a2 a3 a4 a5 a6 a7 a8 a9 a10 w long row' slot doneOf tills next heard leads could 0 kf (nI i) = some (nI (fa_first p 100), a1, a2, a3, a4, a5, a6, a7, a8, a9, a10, w, long, row', slot, doneOf, tills, next, heard, leads, could)
  | 0, kf, i, hj, hi => by
    obtain ⟨g, rfl⟩ : ∃ g, kf = g + 1 := ⟨kf - 1, by omega⟩
    have hlt := fa_first_ct h
    have hy := fa_first_yes p 100 hlt
    have : i = fa_first p 100 := by omega
    rw [this, F_X10_couldTell_b68, if_neg (nI_in (by omega) (by omega)), zd_cl (by omega), hp _ (by omega), if_pos hy, if_neg n1_0]
  | j + 1, kf, i, hj, hi => by
    obtain ⟨g, rfl⟩ : ∃ g, kf = g + 1 := ⟨kf - 1, by omega⟩
    have hlt := fa_first_ct h
    have hn := fa_first_no p 100 i (by omega)
    have ih := X10_ct68l hp h (a1 := a1) (a2 := a2) (a3 := a3) (a4 := a4) (a5 := a5) (a6 := a6) (a7 := a7) (a8 := a8) (a9 := a9) (a10 := a10) (w := w) (long := long) (row' := row') (slot := slot) (doneOf := doneOf) (next := next) (heard := heard) (leads := leads) (tills := tills) j g (i + 1) (by omega) (by omega)
    rw [F_X10_couldTell_b68, if_neg (nI_in (by omega) (by omega)), zd_cl (by omega), hp _ (by omega), hn, if_neg (show ¬ false = true by decide), if_pos n0_0, if_pos rfl]
    unfold F_X10_couldTell_b89
    rw [zl_1, zq_add]
    exact ih
theorem X10_ct68g {p : Nat → Bool} {could : Nat → Int32} (hp : ∀ v, v < 100 → could v = nI (if p v = true then 1 else 0)) (h : 0 < fb_ct p 100) {u : Int32} (hu : ¬ u = 0) {a1 a2 a3 a4 a5 a6 a7 a8 a9 a10 : Int32} {w long row' slot doneOf next heard leads : Nat → Int32} {tills : Nat → Int64} :
    ∀ (j kf : Nat), j < kf → glast p 100 + j < 100 → F_X10_couldTell_b68 a1 a2 a3 a4 a5 a6 a7 a8 a9 a10 w long row' slot doneOf tills next heard leads could u kf (nI (glast p 100 + j)) = some (nI (glast p 100), a1, a2, a3, a4, a5, a6, a7, a8, a9, a10, w, long, row', slot, doneOf, tills, next, heard, leads, could)
  | 0, kf, hj, hi => by
    obtain ⟨g, rfl⟩ : ∃ g, kf = g + 1 := ⟨kf - 1, by omega⟩
    obtain ⟨hlt, hy, hn⟩ := glast_yes h
    rw [F_X10_couldTell_b68, Nat.add_zero, if_neg (nI_in (by omega) (by omega)), zd_cl (by omega), hp _ (by omega), if_pos hy, if_neg n1_0]
  | j + 1, kf, hj, hi => by
    obtain ⟨g, rfl⟩ : ∃ g, kf = g + 1 := ⟨kf - 1, by omega⟩
    obtain ⟨hlt, hy, hn⟩ := glast_yes h
    have ih := X10_ct68g hp h hu (a1 := a1) (a2 := a2) (a3 := a3) (a4 := a4) (a5 := a5) (a6 := a6) (a7 := a7) (a8 := a8) (a9 := a9) (a10 := a10) (w := w) (long := long) (row' := row') (slot := slot) (doneOf := doneOf) (next := next) (heard := heard) (leads := leads) (tills := tills) j g (by omega) (by omega)
    have i1 : nI (glast p 100 + (j + 1)) + (-1 : Int32) = nI (glast p 100 + j) := by
      have : nI (glast p 100 + (j + 1)) + (-1 : Int32) = nI (glast p 100 + (j + 1)) - nI 1 := by rw [Int32.sub_eq_add_neg]; rfl
      rw [this, zq_sub (by omega)]
      congr 1
    rw [F_X10_couldTell_b68, if_neg (nI_in (by omega) (by omega)), zd_cl (by omega), hp _ (by omega), hn _ (by omega) (by omega), if_neg (show ¬ false = true by decide), if_pos n0_0, if_neg hu]
    unfold F_X10_couldTell_b89
    rw [i1]
    exact ih
theorem X10_couldTell {fu : Nat} (hfu : 20000 ≤ fu) {K : Ca} {kd : Nat → Nat} {nt late : Nat} {st w r : Nat → Int32} (hM : MS K kd nt late st r) (told : Bool) (h0 : told = false → cm K = 0) (v u x : Int32)
    {ans th lo on mi bk sn isF : Int32} {long row' slot doneOf next heard leads could : Nat → Int32} {tills : Nat → Int64} :
    ∃ ans' th' lo' on' mi' bk' sn' isF' w' long' row2 slot' doneOf' tills' next' heard' leads' could', F_X10_couldTell fu (nI (if told = true then 1 else 0)) ans th lo on mi bk sn isF st w r long row' slot doneOf tills next heard leads could v u x =
      some ((rs_couldTell K kd nt late told v u x).1, nI 0, (rs_couldTell K kd nt late told v u x).2, ans', th', lo', on', mi', bk', sn', isF', w', long', row2, slot', doneOf', tills', next', heard', leads', could') := by
  have hm := hM.1.1
  unfold F_X10_couldTell F_X10_good
  rw [zl_2, X10_isKind, z_b2, z_b1]
  rcases e : kin told v 2 with _ | k
  · have hrs : rs_couldTell K kd nt late told v u x = (-1, nI 1) := by unfold rs_couldTell; rw [e]
    rw [ifn, if_pos n0_0, hrs]
    exact ⟨ans, th, lo, on, mi, bk, sn, isF, w, long, row', slot, doneOf, tills, next, heard, leads, could, rfl⟩
  · obtain ⟨ht, rfl, hk⟩ := kin_some (by omega) e
    rw [ifs, if_neg n1_0, X10_isCall (by omega) h0 hM.2.2.2.2.1.1, z_b1]
    rcases e2 : tin (cm K) u with _ | c0
    · have hrs : rs_couldTell K kd nt late told (nI k) u x = (-1, nI 1) := by unfold rs_couldTell; rw [e]; simp only [e2]
      rw [ifn, if_pos n0_0, hrs]
      exact ⟨ans, th, lo, on, mi, bk, sn, isF, w, long, row', slot, doneOf, tills, next, heard, leads, could, rfl⟩
    · obtain ⟨rfl, hc⟩ := tin_some (by omega) e2
      obtain ⟨v', ans', th', lo', on', mi', bk', sn', isF', w', long', row2, slot', doneOf', tills', next', heard', leads', could', e3, g1, g2⟩ := X10_layCould (w := w) (ans := ans) (long := long) (row' := row') (slot := slot) (doneOf := doneOf) (next := next) (heard := heard) (leads := leads) (could := could) (tills := tills) hfu hM hk hc
      rw [ifs, if_neg n1_0, e3, z_b19]
      by_cases c : full (Yc K kd nt late k c0) = true
      · have hrs : rs_couldTell K kd nt late told (nI k) (nI c0) x = (-1, nI 3) := by unfold rs_couldTell; rw [e]; simp only [e2, c, ↓reduceIte]
        rw [g1 c, if_neg (by decide), if_neg (by decide), hrs]
        exact ⟨_, _, _, _, _, _, _, _, _, _, _, _, _, _, _, _, _, _, rfl⟩
      · have c' : full (Yc K kd nt late k c0) = false := by simpa using c
        have hle := fb_ct_le (cdp K kd nt late k c0) 100
        obtain ⟨g3, g4⟩ := g2 c'
        by_cases d : fb_ct (cdp K kd nt late k c0) 100 = 0
        · have hrs : rs_couldTell K kd nt late told (nI k) (nI c0) x = (-1, nI 6) := by unfold rs_couldTell; rw [e]; simp only [e2, c', d, Bool.false_eq_true, ↓reduceIte]
          rw [g3, d, if_neg (by decide), if_pos (by decide), hrs]
          exact ⟨_, _, _, _, _, _, _, _, _, _, _, _, _, _, _, _, _, _, rfl⟩
        · have hrs : rs_couldTell K kd nt late told (nI k) (nI c0) x = (if x = 0 then nI (fa_first (cdp K kd nt late k c0) 100) else nI (glast (cdp K kd nt late k c0) 100), nI 0) := by unfold rs_couldTell; rw [e]; simp only [e2, c', d, Bool.false_eq_true, ↓reduceIte]
          have hp : 0 < fb_ct (cdp K kd nt late k c0) 100 := by omega
          have hlt := fa_first_ct hp
          have hlt2 := (glast_yes hp).1
          rw [g3, if_pos (by rw [zl_0, zd_lt (by omega) (by omega)]; exact hp), hrs]
          unfold F_X10_couldTell_b66
          by_cases q : x = 0
          · subst q
            rw [if_pos rfl, if_pos rfl]
            exact ⟨_, _, _, _, _, _, _, _, _, _, _, _, _, _, _, _, _, _, X10_ct68l g4 hp (fa_first (cdp K kd nt late k c0) 100) fu 0 (by omega) (by omega)⟩
          · rw [if_neg q, if_neg q]
            have e9 := fun {a1 a2 a3 a4 a5 a6 a7 a8 a9 a10 : Int32} {w long row' slot doneOf next heard leads : Nat → Int32} {tills : Nat → Int64} => X10_ct68g (a1 := a1) (a2 := a2) (a3 := a3) (a4 := a4) (a5 := a5) (a6 := a6) (a7 := a7) (a8 := a8) (a9 := a9) (a10 := a10) (w := w) (long := long) (row' := row') (slot := slot) (doneOf := doneOf) (next := next) (heard := heard) (leads := leads) (tills := tills) g4 hp q (99 - glast (cdp K kd nt late k c0) 100) fu (by omega) (by omega)
            rw [show glast (cdp K kd nt late k c0) 100 + (99 - glast (cdp K kd nt late k c0) 100) = 99 by omega] at e9
            exact ⟨_, _, _, _, _, _, _, _, _, _, _, _, _, _, _, _, _, _, e9⟩
