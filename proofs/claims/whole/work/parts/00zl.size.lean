def rs_size (K : Ca) (kd : Nat → Nat) (nt late : Nat) (told : Bool) (v : Int32) : Int32 × Int32 := match kin told v 2 with
  | none => (-1, nI 1)
  | some k => if full (Yk K kd nt late k) = true then (-1, nI 3) else match fst K kd nt late k with
    | none => (-1, nI 6)
    | some p => (nI p.length, nI 0)
def rs_order (K : Ca) (kd : Nat → Nat) (nt late : Nat) (told : Bool) (v i : Int32) : Int32 × Int32 := match kin told v 2 with
  | none => (-1, nI 1)
  | some k => if ¬ 0 ≤ i then (-1, nI 1) else if full (Yk K kd nt late k) = true then (-1, nI 3) else match fst K kd nt late k with
    | none => (-1, nI 6)
    | some p => if i < nI p.length then (nI (p.getD i.toNatClampNeg 0), nI 0) else (-1, nI 1)
theorem pth_mem {y : Sy} (hw : WF y) : ∀ (f : Nat) (x : St) (j : Nat), (pth y f x).getD j 0 < 20
  | 0, x, j => by simp [pth]
  | f + 1, x, j => by
    unfold pth
    split
    · simp
    · split
      · simp
      · split
        · simp
        · rename_i z e
          rcases j with _ | j
          · exact cl_lt hw e
          · exact pth_mem hw f z j
theorem fst_len {K : Ca} {kd : Nat → Nat} {nt late k : Nat} (hw : WF (Yk K kd nt late k)) {p : List Nat} (h : fst K kd nt late k = some p) : p.length ≤ 20 ∧ ∀ j, p.getD j 0 < 20 := by
  unfold fst at h
  split at h
  · cases h
  · injection h with h
    subst h
    exact ⟨by have := pth_len hw 21 _ (okS_ini hw); omega, fun j => pth_mem hw 21 _ j⟩
theorem X9_size {fu : Nat} (hfu : 20000 ≤ fu) {K : Ca} {kd : Nat → Nat} {nt late : Nat} {n l : Int32} {f0 f1 f2 f3 f4 f5 f6 kinds : Nat → Int32} (h : CS K kd nt late n f0 f1 f2 f3 f4 f5 f6 kinds l) (told : Bool) (a1 sc : Nat) (v : Int32)
    {b : Nat} {r1 r2 r3 r4 cnt : Int32} {own ahd tab done tills leads path : Nat → Int32} {ways : Nat → Int64} (hT : TB b tab) :
    ∃ r1' r2' r3' r4' own' ahd' sc' b' cnt' tab' done' tills' leads' ways' path', F_X9_size fu a1 sc (nI (if told = true then 1 else 0)) l n f5 r1 r2 r3 r4 own f0 f4 ahd (nI b) cnt tab done tills kinds f1 f2 f3 f6 leads ways path v =
      some ((rs_size K kd nt late told v).1, (rs_size K kd nt late told v).2, r1', r2', r3', r4', own', ahd', sc', nI b', cnt', tab', done', tills', leads', ways', path') ∧ TB b' tab' := by
  unfold F_X9_size
  rw [zl_2, X9_hasKind, z_b1]
  rcases e : kin told v 2 with _ | k
  · have hrs : rs_size K kd nt late told v = (-1, nI 1) := by unfold rs_size; rw [e]
    rw [ifn, if_pos n0_0, hrs]
    exact ⟨r1, r2, r3, r4, own, ahd, sc, b, cnt, tab, done, tills, leads, ways, path, rfl, hT⟩
  · obtain ⟨_, rfl, hk⟩ := kin_some (by omega) e
    rw [ifs, if_neg n1_0]
    obtain ⟨r, r1', r2', r3', r4', own', ahd', b', cnt', tab', done', tills', leads', ways', path', e1, hT', h1, h2⟩ := X1_findFirst (own := own) (ahd := ahd) (done := done) (tills := tills) (leads := leads) (ways := ways) (path := path) hfu h hk hT
    rw [e1, z_b15]
    by_cases c : full (Yk K kd nt late k) = true
    · have hrs : rs_size K kd nt late told (nI k) = (-1, nI 3) := by unfold rs_size; rw [e]; simp only [c, ↓reduceIte]
      rw [h1 c, X9_answered10, hrs]
      exact ⟨_, _, _, _, _, _, _, _, _, _, _, _, _, _, _, rfl, hT'⟩
    · have c' : full (Yk K kd nt late k) = false := by simpa using c
      have h3 := h2 c'
      rcases ef : fst K kd nt late k with _ | p
      · have hrs : rs_size K kd nt late told (nI k) = (-1, nI 6) := by unfold rs_size; rw [e]; simp only [c', ef, Bool.false_eq_true, ↓reduceIte]
        rw [ef] at h3
        rw [h3, X9_answered11, hrs]
        exact ⟨_, _, _, _, _, _, _, _, _, _, _, _, _, _, _, rfl, hT'⟩
      · have hrs : rs_size K kd nt late told (nI k) = (nI p.length, nI 0) := by unfold rs_size; rw [e]; simp only [c', ef, Bool.false_eq_true, ↓reduceIte]
        rw [ef] at h3
        have hlen := (fst_len (CS_Yk h k) ef).1
        rw [h3.1, X9_answeredN (by omega), hrs]
        exact ⟨_, _, _, _, _, _, _, _, _, _, _, _, _, _, _, rfl, hT'⟩
theorem X10_size {fu : Nat} (hfu : 20000 ≤ fu) {K : Ca} {kd : Nat → Nat} {nt late : Nat} {st w r : Nat → Int32} (hM : MS K kd nt late st r) (told : Bool) (v : Int32)
    {ans th lo on mi bk sn isF cb : Int32} {long row' slot doneOf next heard leads first : Nat → Int32} {tills : Nat → Int64} :
    ∃ ans' th' lo' on' mi' bk' sn' isF' cb' w' long' row2 slot' doneOf' tills' next' heard' leads' first', F_X10_size fu (nI (if told = true then 1 else 0)) ans th lo on mi bk sn isF cb st w r long row' slot doneOf tills next heard leads first v =
      some ((rs_size K kd nt late told v).1, nI 0, (rs_size K kd nt late told v).2, ans', th', lo', on', mi', bk', sn', isF', cb', w', long', row2, slot', doneOf', tills', next', heard', leads', first') := by
  unfold F_X10_size F_X10_good
  rw [zl_2, X10_isKind, z_b2, z_b1]
  rcases e : kin told v 2 with _ | k
  · have hrs : rs_size K kd nt late told v = (-1, nI 1) := by unfold rs_size; rw [e]
    rw [ifn, if_pos n0_0, hrs]
    exact ⟨ans, th, lo, on, mi, bk, sn, isF, cb, w, long, row', slot, doneOf, tills, next, heard, leads, first, rfl⟩
  · obtain ⟨_, rfl, hk⟩ := kin_some (by omega) e
    rw [ifs, if_neg n1_0]
    obtain ⟨ans', th', lo', on', mi', bk', sn', isF', cb', w', long', row2, slot', doneOf', tills', next', heard', leads', e2, h2⟩ := X10_goesk (kind := k) (w := w) (ans := ans) (bk := bk) (sn := sn) (isF := isF) (cb := cb) (long := long) (row' := row') (slot := slot) (doneOf := doneOf) (next := next) (heard := heard) (leads := leads) (tills := tills) hfu hM hk
    rw [e2, z_b19]
    by_cases c : full (Yk K kd nt late k) = true
    · have hrs : rs_size K kd nt late told (nI k) = (-1, nI 3) := by unfold rs_size; rw [e]; simp only [c, ↓reduceIte]
      rw [if_pos c, if_pos n0_0, hrs]
      exact ⟨_, _, _, _, _, _, _, _, _, _, _, _, _, _, _, _, _, _, _, rfl⟩
    · have c' : full (Yk K kd nt late k) = false := by simpa using c
      obtain ⟨_, b2, _, _, b5⟩ := h2 c'
      obtain ⟨r0, first', e3, h3⟩ := X10_layFirst (first := first) hfu (MS_Yk hM k) c' b2 b5
      rw [if_neg c, if_neg n1_0, e3, z_b2]
      rcases ef : fst K kd nt late k with _ | p
      · have hrs : rs_size K kd nt late told (nI k) = (-1, nI 6) := by unfold rs_size; rw [e]; simp only [c', ef, Bool.false_eq_true, ↓reduceIte]
        rw [ef] at h3
        rw [h3, if_neg (by decide), hrs]
        exact ⟨_, _, _, _, _, _, _, _, _, _, _, _, _, _, _, _, _, _, _, rfl⟩
      · have hrs : rs_size K kd nt late told (nI k) = (nI p.length, nI 0) := by unfold rs_size; rw [e]; simp only [c', ef, Bool.false_eq_true, ↓reduceIte]
        rw [ef] at h3
        obtain ⟨h4, h5, _⟩ := h3
        rw [h4, if_pos (nI_pos' (by omega)), hrs]
        exact ⟨_, _, _, _, _, _, _, _, _, _, _, _, _, _, _, _, _, _, _, rfl⟩
theorem X9_order {fu : Nat} (hfu : 20000 ≤ fu) {K : Ca} {kd : Nat → Nat} {nt late : Nat} {n l : Int32} {f0 f1 f2 f3 f4 f5 f6 kinds : Nat → Int32} (h : CS K kd nt late n f0 f1 f2 f3 f4 f5 f6 kinds l) (told : Bool) (a1 sc : Nat) (v i : Int32)
    {b : Nat} {r1 r2 r3 r4 cnt : Int32} {own ahd tab done tills leads path : Nat → Int32} {ways : Nat → Int64} (hT : TB b tab) :
    ∃ r1' r2' r3' r4' own' ahd' sc' b' cnt' tab' done' tills' leads' ways' path', F_X9_order fu a1 sc (nI (if told = true then 1 else 0)) l n f5 r1 r2 r3 r4 own f0 f4 ahd (nI b) cnt tab done tills kinds f1 f2 f3 f6 leads ways path v i =
      some ((rs_order K kd nt late told v i).1, (rs_order K kd nt late told v i).2, r1', r2', r3', r4', own', ahd', sc', nI b', cnt', tab', done', tills', leads', ways', path') ∧ TB b' tab' := by
  unfold F_X9_order F_X9_order_b13
  rw [zl_2, X9_hasKind, z_b1]
  rcases e : kin told v 2 with _ | k
  · have hrs : rs_order K kd nt late told v i = (-1, nI 1) := by unfold rs_order; rw [e]
    rw [ifn, if_pos n0_0, hrs]
    exact ⟨r1, r2, r3, r4, own, ahd, sc, b, cnt, tab, done, tills, leads, ways, path, rfl, hT⟩
  · obtain ⟨_, rfl, hk⟩ := kin_some (by omega) e
    rw [ifs, if_neg n1_0]
    by_cases ci : 0 ≤ i
    · obtain ⟨iv, hiv, rfl⟩ := nI_of (x := i) (nlt_le.mpr ci)
      obtain ⟨r, r1', r2', r3', r4', own', ahd', b', cnt', tab', done', tills', leads', ways', path', e1, hT', h1, h2⟩ := X1_findFirst (own := own) (ahd := ahd) (done := done) (tills := tills) (leads := leads) (ways := ways) (path := path) hfu h hk hT
      rw [if_pos ci, e1, z_b15]
      by_cases c : full (Yk K kd nt late k) = true
      · have hrs : rs_order K kd nt late told (nI k) (nI iv) = (-1, nI 3) := by unfold rs_order; rw [e]; simp only [ci, not_true_eq_false, c, ↓reduceIte]
        rw [h1 c, if_neg (by decide), X9_answered10, hrs]
        exact ⟨_, _, _, _, _, _, _, _, _, _, _, _, _, _, _, rfl, hT'⟩
      · have c' : full (Yk K kd nt late k) = false := by simpa using c
        have h3 := h2 c'
        rcases ef : fst K kd nt late k with _ | p
        · have hrs : rs_order K kd nt late told (nI k) (nI iv) = (-1, nI 6) := by unfold rs_order; rw [e]; simp only [ci, not_true_eq_false, c', ef, Bool.false_eq_true, ↓reduceIte]
          rw [ef] at h3
          rw [h3, if_neg (by decide), X9_answered11, hrs]
          exact ⟨_, _, _, _, _, _, _, _, _, _, _, _, _, _, _, rfl, hT'⟩
        · have hrs : rs_order K kd nt late told (nI k) (nI iv) = (if nI iv < nI p.length then (nI (p.getD (nI iv).toNatClampNeg 0), nI 0) else (-1, nI 1)) := by unfold rs_order; rw [e]; simp only [ci, not_true_eq_false, c', ef, Bool.false_eq_true, ↓reduceIte]
          rw [ef] at h3
          obtain ⟨hlen, hmem⟩ := fst_len (CS_Yk h k) ef
          rw [h3.1, if_pos (nI_pos' (by omega)), hrs]
          by_cases d : iv < p.length
          · have hp := h3.2 iv d
            have hm := hmem iv
            rw [if_neg (by rw [zd_le (by omega) (by omega)]; omega), if_pos (by rw [zd_lt (by omega) (by omega)]; exact d), zd_cl (by omega)]
            unfold F_X1_pathAt
            rw [if_neg (nI_pos (by omega)), if_neg (by rw [zl_20, zd_le (by omega) (by omega)]; omega), if_neg (nI_in (by omega) (by omega)), zd_cl (by omega), hp, z_b1, X9_answeredN (by omega)]
            exact ⟨_, _, _, _, _, _, _, _, _, _, _, _, _, _, _, rfl, hT'⟩
          · rw [if_pos (by rw [zd_le (by omega) (by omega)]; omega), if_neg (by rw [zd_lt (by omega) (by omega)]; exact d)]
            exact ⟨_, _, _, _, _, _, _, _, _, _, _, _, _, _, _, rfl, hT'⟩
    · have hrs : rs_order K kd nt late told (nI k) i = (-1, nI 1) := by unfold rs_order; rw [e]; simp only [ci, not_false_eq_true, ↓reduceIte]
      rw [if_neg ci, hrs]
      exact ⟨r1, r2, r3, r4, own, ahd, sc, b, cnt, tab, done, tills, leads, ways, path, rfl, hT⟩
theorem X10_order {fu : Nat} (hfu : 20000 ≤ fu) {K : Ca} {kd : Nat → Nat} {nt late : Nat} {st w r : Nat → Int32} (hM : MS K kd nt late st r) (told : Bool) (v i : Int32)
    {ans th lo on mi bk sn isF cb : Int32} {long row' slot doneOf next heard leads first : Nat → Int32} {tills : Nat → Int64} :
    ∃ ans' th' lo' on' mi' bk' sn' isF' cb' w' long' row2 slot' doneOf' tills' next' heard' leads' first', F_X10_order fu (nI (if told = true then 1 else 0)) ans th lo on mi bk sn isF cb st w r long row' slot doneOf tills next heard leads first v i =
      some ((rs_order K kd nt late told v i).1, nI 0, (rs_order K kd nt late told v i).2, ans', th', lo', on', mi', bk', sn', isF', cb', w', long', row2, slot', doneOf', tills', next', heard', leads', first') := by
  unfold F_X10_order F_X10_order_b17 F_X10_good
  rw [zl_2, X10_isKind, z_b2, z_b1]
  rcases e : kin told v 2 with _ | k
  · have hrs : rs_order K kd nt late told v i = (-1, nI 1) := by unfold rs_order; rw [e]
    rw [ifn, if_pos n0_0, hrs]
    exact ⟨ans, th, lo, on, mi, bk, sn, isF, cb, w, long, row', slot, doneOf, tills, next, heard, leads, first, rfl⟩
  · obtain ⟨_, rfl, hk⟩ := kin_some (by omega) e
    rw [ifs, if_neg n1_0]
    by_cases ci : 0 ≤ i
    · obtain ⟨iv, hiv, rfl⟩ := nI_of (x := i) (nlt_le.mpr ci)
      obtain ⟨ans', th', lo', on', mi', bk', sn', isF', cb', w', long', row2, slot', doneOf', tills', next', heard', leads', e2, h2⟩ := X10_goesk (kind := k) (w := w) (ans := ans) (bk := bk) (sn := sn) (isF := isF) (cb := cb) (long := long) (row' := row') (slot := slot) (doneOf := doneOf) (next := next) (heard := heard) (leads := leads) (tills := tills) hfu hM hk
      rw [if_pos ci, e2, z_b19]
      by_cases c : full (Yk K kd nt late k) = true
      · have hrs : rs_order K kd nt late told (nI k) (nI iv) = (-1, nI 3) := by unfold rs_order; rw [e]; simp only [ci, not_true_eq_false, c, ↓reduceIte]
        rw [if_pos c, if_pos n0_0, hrs]
        exact ⟨_, _, _, _, _, _, _, _, _, _, _, _, _, _, _, _, _, _, _, rfl⟩
      · have c' : full (Yk K kd nt late k) = false := by simpa using c
        obtain ⟨_, b2, _, _, b5⟩ := h2 c'
        obtain ⟨r0, first', e3, h3⟩ := X10_layFirst (first := first) hfu (MS_Yk hM k) c' b2 b5
        rw [if_neg c, if_neg n1_0, e3, z_b2]
        rcases ef : fst K kd nt late k with _ | p
        · have hrs : rs_order K kd nt late told (nI k) (nI iv) = (-1, nI 6) := by unfold rs_order; rw [e]; simp only [ci, not_true_eq_false, c', ef, Bool.false_eq_true, ↓reduceIte]
          rw [ef] at h3
          rw [h3, if_neg (by decide), hrs]
          exact ⟨_, _, _, _, _, _, _, _, _, _, _, _, _, _, _, _, _, _, _, rfl⟩
        · have hrs : rs_order K kd nt late told (nI k) (nI iv) = (if nI iv < nI p.length then (nI (p.getD (nI iv).toNatClampNeg 0), nI 0) else (-1, nI 1)) := by unfold rs_order; rw [e]; simp only [ci, not_true_eq_false, c', ef, Bool.false_eq_true, ↓reduceIte]
          rw [ef] at h3
          obtain ⟨h4, h5, h7⟩ := h3
          rw [h4, if_pos (nI_pos' (by omega)), hrs]
          by_cases d : iv < p.length
          · rw [if_neg (by rw [zd_le (by omega) (by omega)]; omega), if_neg (nI_in (by omega) (by omega)), if_pos (by rw [zd_lt (by omega) (by omega)]; exact d), zd_cl (by omega), h7 iv d]
            exact ⟨_, _, _, _, _, _, _, _, _, _, _, _, _, _, _, _, _, _, _, rfl⟩
          · rw [if_pos (by rw [zd_le (by omega) (by omega)]; omega), if_neg (by rw [zd_lt (by omega) (by omega)]; exact d)]
            exact ⟨_, _, _, _, _, _, _, _, _, _, _, _, _, _, _, _, _, _, _, rfl⟩
    · have hrs : rs_order K kd nt late told (nI k) i = (-1, nI 1) := by unfold rs_order; rw [e]; simp only [ci, not_false_eq_true, ↓reduceIte]
      rw [if_neg ci, hrs]
      exact ⟨ans, th, lo, on, mi, bk, sn, isF, cb, w, long, row', slot, doneOf, tills, next, heard, leads, first, rfl⟩
