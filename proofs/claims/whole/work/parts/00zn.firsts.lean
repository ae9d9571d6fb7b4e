def frsb (y : Sy) : Nat → Nat
  | 0 => 0
  | k + 1 => if lds y (ini y) k = true then frsb y k ||| 2 ^ cl y (ini y) k else frsb y k
theorem frsb_lt {y : Sy} (hw : WF y) : ∀ k, frsb y k < 2 ^ 20
  | 0 => by show 0 < 2 ^ 20; decide
  | k + 1 => by
    unfold frsb
    split
    · rename_i h
      obtain ⟨z, hz, _⟩ := lds_some h
      exact Nat.or_lt_two_pow (frsb_lt hw k) (Nat.pow_lt_pow_right (by omega) (cl_lt hw hz))
    · exact frsb_lt hw k
def rs_firsts (K : Ca) (kd : Nat → Nat) (nt late : Nat) (told : Bool) (v : Int32) : Int32 × Int32 := match kin told v 2 with
  | none => (-1, nI 1)
  | some k => if full (Yk K kd nt late k) = true then (-1, nI 3) else (nI (frsb (Yk K kd nt late k) 4), nI 0)
theorem X1_ff32 {y : Sy} (hw : WF y) {G : Gr} (hG : GO y G) {own ahd done tills leads tab : Nat → Int32} {ways : Nat → Int64} {r1 r2 r3 r4 b : Int32} (hR : ROW y own ahd) (hn : NC y G leads) (hv : ∀ i, i < G.1 → ways i = lN (PW y (whole y) (G.2 i))) (hd : done 0 = nI (G.2 0).1) :
    ∀ (j kf k : Nat), j < kf → k + j = 4 → F_X1_findFirsts_b32 r1 r2 r3 r4 own ahd b (nI G.1) tab done tills leads ways kf (nI (frsb y k)) (nI k) = some (nI (frsb y 4), r1, r2, r3, r4, own, ahd, b, nI G.1, tab, done, tills, leads, ways)
  | 0, kf, k, hj, hk => by
    obtain ⟨g, rfl⟩ : ∃ g, kf = g + 1 := ⟨kf - 1, by omega⟩
    have : k = 4 := by omega
    subst this
    rw [F_X1_findFirsts_b32, if_pos (by decide)]
  | j + 1, kf, k, hj, hk => by
    obtain ⟨g, rfl⟩ : ∃ g, kf = g + 1 := ⟨kf - 1, by omega⟩
    have h6 := hG.2.1
    have h0 := hG.1
    have hi := hG.2.2.2.1
    have ih := X1_ff32 hw hG (tills := tills) (tab := tab) (r1 := r1) (r2 := r2) (r3 := r3) (r4 := r4) (b := b) hR hn hv hd j g (k + 1) (by omega) (by omega)
    have i1 : nI k + (1 : Int32) = nI (k + 1) := by rw [zl_1, zq_add]
    rw [F_X1_findFirsts_b32, if_neg (by rw [zl_4, zd_le (by omega) (by omega)]; omega), zl_0, X6_leadAt h6 h0 (by omega), z_b1, hn 0 k h0 (by omega), X6_leadsToEnd hG hv h0 (by omega), z_b1, hi]
    unfold F_X1_findFirsts_b73
    rw [i1]
    have hl : lde y (whole y) (ini y) k = lds y (ini y) k := rfl
    rw [hl]
    have hs : frsb y (k + 1) = (if lds y (ini y) k = true then frsb y k ||| 2 ^ cl y (ini y) k else frsb y k) := rfl
    rw [hs] at ih
    by_cases c : lds y (ini y) k = true
    · rw [if_pos c, if_neg (show ¬ (nI 1 : Int32) = nI 0 by decide), X6_callAt hw hR h6 h0 (by omega) hd, z_b1, hi]
      rw [if_pos c] at ih
      obtain ⟨z, hz, _⟩ := lds_some c
      have hcl := cl_lt hw hz
      rw [nst_nx hz]
      have hcn : cn (some (cl y (ini y) k)) = nI (cl y (ini y) k) := rfl
      rw [hcn, zl_1, show (31 : Int32) = nI 31 from rfl, zs_one (by omega), zq_or]
      exact ih
    · rw [if_neg c, if_pos rfl]
      rw [if_neg c] at ih
      exact ih
theorem X9_firsts {fu : Nat} (hfu : 20000 ≤ fu) {K : Ca} {kd : Nat → Nat} {nt late : Nat} {n l : Int32} {f0 f1 f2 f3 f4 f5 f6 kinds : Nat → Int32} (h : CS K kd nt late n f0 f1 f2 f3 f4 f5 f6 kinds l) (told : Bool) (a1 sc : Nat) (v : Int32)
    {b : Nat} {r1 r2 r3 r4 cnt : Int32} {own ahd tab done tills leads : Nat → Int32} {ways : Nat → Int64} (hT : TB b tab) :
    ∃ r1' r2' r3' r4' own' ahd' sc' b' cnt' tab' done' tills' leads' ways', F_X9_firsts fu a1 sc (nI (if told = true then 1 else 0)) l n f5 r1 r2 r3 r4 own f0 f4 ahd (nI b) cnt tab done tills kinds f1 f2 f3 f6 leads ways v =
      some ((rs_firsts K kd nt late told v).1, (rs_firsts K kd nt late told v).2, r1', r2', r3', r4', own', ahd', sc', nI b', cnt', tab', done', tills', leads', ways') ∧ TB b' tab' := by
  unfold F_X9_firsts
  rw [zl_2, X9_hasKind, z_b1]
  rcases e : kin told v 2 with _ | k
  · have hrs : rs_firsts K kd nt late told v = (-1, nI 1) := by unfold rs_firsts; rw [e]
    rw [ifn, if_pos n0_0, hrs]
    exact ⟨r1, r2, r3, r4, own, ahd, sc, b, cnt, tab, done, tills, leads, ways, rfl, hT⟩
  · obtain ⟨_, rfl, hk⟩ := kin_some (by omega) e
    rw [ifs, if_neg n1_0]
    obtain ⟨own', ahd', b', cnt', tab', done', tills', leads', e1, hT', hR, h1⟩ := X1_explore (kind := k) (own := own) (ahd := ahd) (done := done) (tills := tills) (leads := leads) hfu h (by omega) hT
    unfold F_X1_findFirsts
    rw [e1, z_b13]
    by_cases c : full (Yk K kd nt late k) = true
    · have hrs : rs_firsts K kd nt late told (nI k) = (-1, nI 3) := by unfold rs_firsts; rw [e]; simp only [c, ↓reduceIte]
      rw [if_pos c, if_pos n0_0, z_b14, X9_answered10, hrs]
      exact ⟨_, _, _, _, _, _, _, _, _, _, _, _, _, _, rfl, hT'⟩
    · have c' : full (Yk K kd nt late k) = false := by simpa using c
      have hrs : rs_firsts K kd nt late told (nI k) = (nI (frsb (Yk K kd nt late k) 4), nI 0) := by unfold rs_firsts; rw [e]; simp only [c', Bool.false_eq_true, ↓reduceIte]
      have hw := CS_Yk h k
      have hG := GO_gr hw c'
      obtain ⟨h2, h3, h4⟩ := h1 c'
      obtain ⟨ways', e2, hv⟩ := X6_countWays (ways := ways) (e := whole (Yk K kd nt late k)) hfu hw hG h4 (JX_end h.2.1.1 (fun a ha => ((okI_k K).2 a ha).1) h3)
      have e3 := X1_ff32 (r1 := nI (msk (alb K) (cm K))) (r2 := nI (msk (enb K) (cm K))) (r3 := nI (msk (enb K) (cm K))) (r4 := nI (msk (enb K) (cm K))) (b := nI b') (tab := tab') (tills := tills') hw hG hR h4 hv (h3 0 hG.1).1 4 fu 0 (by omega) (by omega)
      have e3' : F_X1_findFirsts_b32 (nI (msk (alb K) (cm K))) (nI (msk (enb K) (cm K))) (nI (msk (enb K) (cm K))) (nI (msk (enb K) (cm K))) own' ahd' (nI b') (nI (gr (Yk K kd nt late k)).1) tab' done' tills' leads' ways' fu 0 0 = _ := e3
      have hlt := frsb_lt hw 4
      rw [if_neg c, if_neg n1_0, h2, e2, z_b2, e3', z_b14, X9_answeredN (by omega), hrs]
      exact ⟨_, _, _, _, _, _, _, _, _, _, _, _, _, _, rfl, hT'⟩
theorem X10_fi37 {y : Sy} (hw : WF y) {G : Gr} (hG : GO y G) {long row' w doneOf slot next heard leads : Nat → Int32} {tills : Nat → Int64} (hRw : rows_ok y long row') (hn : NX y G next) (hl : ∀ i, i < G.1 → isB (leads i) (CE y (G.2 i)))
    {a1 a2 a3 a4 a5 a6 a7 a8 a9 a10 a11 : Int32} : ∀ (j kf k : Nat), j < kf → k + j = 4 →
    F_X10_firsts_b37 a1 a2 a3 a4 a5 a6 a7 a8 a9 a10 a11 w long row' slot doneOf tills next heard leads kf (nI (frsb y k)) (nI k) = some (nI (frsb y 4), a1, a2, a3, a4, a5, a6, a7, a8, a9, a10, a11, w, long, row', slot, doneOf, tills, next, heard, leads)
  | 0, kf, k, hj, hk => by
    obtain ⟨g, rfl⟩ : ∃ g, kf = g + 1 := ⟨kf - 1, by omega⟩
    have : k = 4 := by omega
    subst this
    rw [F_X10_firsts_b37, if_pos (by decide)]
  | j + 1, kf, k, hj, hk => by
    obtain ⟨g, rfl⟩ : ∃ g, kf = g + 1 := ⟨kf - 1, by omega⟩
    have h6 := hG.2.1
    have h0 := hG.1
    have hi := hG.2.2.2.1
    have hx := hG.2.2.2.2.1 0 h0
    have ih := X10_fi37 hw hG (w := w) (slot := slot) (doneOf := doneOf) (heard := heard) (tills := tills) (a1 := a1) (a2 := a2) (a3 := a3) (a4 := a4) (a5 := a5) (a6 := a6) (a7 := a7) (a8 := a8) (a9 := a9) (a10 := a10) (a11 := a11) hRw hn hl j g (k + 1) (by omega) (by omega)
    have i1 : nI k + (1 : Int32) = nI (k + 1) := by rw [zl_1, zq_add]
    have hnx := hn 0 k h0 (by omega)
    rw [Nat.mul_zero, Nat.zero_add, hi] at hnx
    rw [hi] at hx
    rw [F_X10_firsts_b37, if_neg (by rw [zl_4, zd_le (by omega) (by omega)]; omega), if_neg (nI_in (by omega) (by omega)), zd_cl (by omega), hnx]
    unfold F_X10_firsts_b80 F_X10_firsts_b81
    rw [i1]
    have hs : frsb y (k + 1) = (if lds y (ini y) k = true then frsb y k ||| 2 ^ cl y (ini y) k else frsb y k) := rfl
    rw [hs] at ih
    have hor0 : nI (frsb y k) ||| (0 : Int32) = nI (frsb y k) := Int32.or_zero
    rcases e : nst y k (ini y) with _ | z
    · have hcd : cd G none = -1 := rfl
      have hl0 : ¬ lds y (ini y) k = true := by unfold lds lde; rw [e]; simp
      rw [hcd, if_pos (by decide), hor0]
      rw [if_neg hl0] at ih
      exact ih
    · have hcd : cd G (some z) = nI (fnd G z) := rfl
      have e' : nst y k (G.2 0) = some z := by rw [hi]; exact e
      obtain ⟨f1, f2⟩ := hG.2.2.2.2.2.1 0 k z h0 (by omega) e'
      have hld := hl _ f1
      rw [fnd_lt f1] at hld
      have hokz := (nst_okS hw hx e).1
      rw [hcd, if_neg (nI_pos (by omega)), if_neg (nI_in (by omega : fnd G z < 6001) (by omega)), zd_cl (by omega)]
      rcases hld with ⟨q1, q2⟩ | ⟨q1, q2⟩
      · have hpz := (PW_CE hw hokz).mpr q2
        have hl1 : lds y (ini y) k = true := by unfold lds lde; rw [e]; exact decide_eq_true hpz
        obtain ⟨hrw, hrk⟩ := rnk_nx hx (nst_nx e)
        rw [cnt_ini] at hrk
        have hrow := hRw.2 k _ (by omega) (nx_some.mp (nst_nx e)).1 hrw
        rw [hrk, Nat.add_zero] at hrow
        have hcl := cl_lt hw e
        rw [q1, if_neg n1_0, zl_20, zq_mul, if_neg (nI_in (by omega) (by omega)), zd_cl (by omega), hrow, zl_1, show (31 : Int32) = nI 31 from rfl, zs_one (by omega), zq_or]
        rw [if_pos hl1] at ih
        exact ih
      · have hl0 : ¬ lds y (ini y) k = true := by
          unfold lds lde; rw [e]
          intro h
          exact q2 ((PW_CE hw hokz).mp (of_decide_eq_true h))
        rw [q1, if_pos n0_0, hor0]
        rw [if_neg hl0] at ih
        exact ih
theorem X10_firsts {fu : Nat} (hfu : 20000 ≤ fu) {K : Ca} {kd : Nat → Nat} {nt late : Nat} {st w r : Nat → Int32} (hM : MS K kd nt late st r) (told : Bool) (v : Int32)
    {ans th lo on mi bk sn isF cb : Int32} {long row' slot doneOf next heard leads : Nat → Int32} {tills : Nat → Int64} :
    ∃ ans' th' lo' on' mi' bk' sn' isF' cb' w' long' row2 slot' doneOf' tills' next' heard' leads', F_X10_firsts fu (nI (if told = true then 1 else 0)) ans th lo on mi bk sn isF cb st w r long row' slot doneOf tills next heard leads v =
      some ((rs_firsts K kd nt late told v).1, nI 0, (rs_firsts K kd nt late told v).2, ans', th', lo', on', mi', bk', sn', isF', cb', w', long', row2, slot', doneOf', tills', next', heard', leads') := by
  unfold F_X10_firsts F_X10_good
  rw [zl_2, X10_isKind, z_b2, z_b1]
  rcases e : kin told v 2 with _ | k
  · have hrs : rs_firsts K kd nt late told v = (-1, nI 1) := by unfold rs_firsts; rw [e]
    rw [ifn, if_pos n0_0, hrs]
    exact ⟨ans, th, lo, on, mi, bk, sn, isF, cb, w, long, row', slot, doneOf, tills, next, heard, leads, rfl⟩
  · obtain ⟨_, rfl, hk⟩ := kin_some (by omega) e
    rw [ifs, if_neg n1_0]
    obtain ⟨ans', th', lo', on', mi', bk', sn', isF', cb', w', long', row2, slot', doneOf', tills', next', heard', leads', e2, h2⟩ := X10_goesk (kind := k) (w := w) (ans := ans) (bk := bk) (sn := sn) (isF := isF) (cb := cb) (long := long) (row' := row') (slot := slot) (doneOf := doneOf) (next := next) (heard := heard) (leads := leads) (tills := tills) hfu hM hk
    rw [e2, z_b19]
    by_cases c : full (Yk K kd nt late k) = true
    · have hrs : rs_firsts K kd nt late told (nI k) = (-1, nI 3) := by unfold rs_firsts; rw [e]; simp only [c, ↓reduceIte]
      rw [if_pos c, if_pos n0_0, hrs]
      exact ⟨_, _, _, _, _, _, _, _, _, _, _, _, _, _, _, _, _, _, rfl⟩
    · have c' : full (Yk K kd nt late k) = false := by simpa using c
      have hrs : rs_firsts K kd nt late told (nI k) = (nI (frsb (Yk K kd nt late k) 4), nI 0) := by unfold rs_firsts; rw [e]; simp only [c', Bool.false_eq_true, ↓reduceIte]
      obtain ⟨_, b2, _, _, b5⟩ := h2 c'
      have hG := GO_gr (MS_Yk hM k) c'
      rw [if_neg c, if_neg n1_0, hrs]
      have e3 := X10_fi37 (w := w') (doneOf := doneOf') (slot := slot') (heard := heard') (tills := tills') (a1 := (0 : Int32)) (a2 := (0 : Int32)) (a3 := ans') (a4 := th') (a5 := lo') (a6 := on') (a7 := mi') (a8 := bk') (a9 := sn') (a10 := isF') (a11 := cb') (MS_Yk hM k) hG b5.2.1 b5.2.2.2.1 b5.2.2.2.2.2 4 fu 0 (by omega) (by omega)
      exact ⟨_, _, _, _, _, _, _, _, _, _, _, _, _, _, _, _, _, _, e3⟩
/-! a call of those there -/
theorem X0_has {m : Nat} {v : Int32} (hm : m ≤ 20) : F_X0_has (nI m) v = some (nI (if tin m v = none then 0 else 1)) := by
  unfold F_X0_has
  by_cases c : v < 0
  · rw [if_pos c, tin_no (fun h => (nlt_le.mpr h.1) c)]; rfl
  · rw [if_neg c]
    by_cases d : nI m ≤ v
    · rw [if_pos d, tin_no (fun h => by rw [Int32.lt_iff_toInt_lt] at h; rw [Int32.le_iff_toInt_le] at d; omega)]; rfl
    · rw [if_neg d]
      have hv : v < nI m := by rw [Int32.lt_iff_toInt_lt]; rw [Int32.le_iff_toInt_le] at d; omega
      rw [tin_if ⟨nlt_le.mp c, hv⟩, if_neg]
      · rfl
      · intro h
        rw [Int32.le_iff_toInt_le] at h
        rw [Int32.lt_iff_toInt_lt, nI_toInt (by omega)] at hv
        have : (20 : Int32).toInt = 20 := by decide
        omega
theorem X10_isCall {told : Bool} {m : Nat} {v : Int32} {st : Nat → Int32} (hn : m < 100) (h0 : told = false → m = 0) (hs : st 141 = nI m) : F_X10_isCall (nI (if told = true then 1 else 0)) st v = some (nI (if tin m v = none then 0 else 1)) := by
  unfold F_X10_isCall
  have h2 : st (141 : Int32).toNatClampNeg = nI m := hs
  rcases told
  · rw [h0 rfl, tin_no (fun h => by
      have a := h.1
      have b := h.2
      rw [Int32.le_iff_toInt_le] at a
      rw [Int32.lt_iff_toInt_lt] at b
      have : (nI 0).toInt = (0 : Int32).toInt := rfl
      omega), ifn]
    rfl
  · rw [show (if (true = true) then (1 : Nat) else 0) = 1 from rfl, if_neg n1_0, h2, X10_within, z_b1]
    by_cases c : 0 ≤ v ∧ v ≤ nI m - 1
    · rw [if_pos c, if_neg n1_0, tin_if ⟨c.1, (lt_le_pred hn).mpr c.2⟩]; rfl
    · rw [if_neg c, if_pos n0_0, tin_no (fun h => c ⟨h.1, (lt_le_pred hn).mp h.2⟩)]; rfl
