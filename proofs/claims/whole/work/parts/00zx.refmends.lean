/-! the reference's mends -/
def eml (K : Ca) (c0 c : Nat) : Int32 := if c = c0 then nI 1998 else ce K c
theorem RK_eml {K : Ca} {w : Nat → Int32} (h : RK K (ce K) w) (hm : cm K ≤ 20) (c0 : Nat) : RK K (eml K c0) (upd w (7 * c0 + 5) (nI 1998)) := by
  refine ⟨by rw [z_upd, if_neg (by omega)]; exact h.1, fun c hc => ?_⟩
  obtain ⟨q0, q1, q2, q3, q4, q5, q6⟩ := h.2 c hc
  refine ⟨by rw [z_upd, if_neg (by omega)]; exact q0, by rw [z_upd, if_neg (by omega)]; exact q1, by rw [z_upd, if_neg (by omega)]; exact q2, by rw [z_upd, if_neg (by omega)]; exact q3, by rw [z_upd, if_neg (by omega)]; exact q4, ?_, by rw [z_upd, if_neg (by omega)]; exact q6⟩
  unfold eml
  rw [z_upd]
  by_cases d : c = c0
  · rw [if_pos d, if_pos (by omega)]
  · rw [if_neg d, if_neg (by omega)]; exact q5
theorem RE_m {K : Ca} {kd : Nat → Nat} {nt late c0 : Nat} {w : Nat → Int32} (hK : okC 4 nt kd K) (h : RK K (eml K c0) w) (hl : late ≤ 99) (hc : ¬ ce K c0 = -2) : RE (Ym K kd nt late c0) w (nI 0) (nI late) (nI 0) := by
  have hne : (nI 1998 : Int32) ≠ -2 := by decide
  have hep : ∀ c, (eml K c0 c ≠ -2) = (ce K c ≠ -2) := by
    intro c
    unfold eml
    by_cases d : c = c0
    · rw [if_pos d, d]
      exact propext ⟨fun _ => hc, fun _ => hne⟩
    · rw [if_neg d]
  refine RK_RE hK h hl (by omega) (by omega) (fun c hc => ?_) (fun c hc => ?_) (fun c hc hi => ?_) (fun a c ha hc2 _ _ => ?_)
  · unfold eml
    split
    · exact Or.inr ⟨1998, rfl, by omega⟩
    · exact okC_e hK hc
  · simp only [hep]
    unfold enb alb; rfl
  · simp only [hep]
    unfold enb; simp [hc]
  · by_cases d : a = c0
    · subst d
      have ht : colb K a a = false := by unfold colb; simp
      have hcb := (hK.2 c hc2).2.2.2.2.1
      unfold gapped
      rw [ht]
      have he : eml K a a = nI 1998 := if_pos rfl
      rw [he, nI_toInt (by omega)]
      have h1 : ¬ ((1998 : Nat) : Int) + (if (0 : Nat) = 2 then (late : Int) else 0) < (cb K c : Int) := by rw [if_neg (by omega)]; omega
      rw [decide_eq_false h1]
      simp
    · have he : eml K c0 a = ce K a := if_neg d
      rw [he]
      refine gapped_k (kd := kd) hK ha hc2 ?_
      unfold colb enb
      simp [d, ha]
theorem RI_a {K : Ca} {kd : Nat → Nat} {nt : Nat} {mst str tim : Nat → Bool} {gap : Int} {w : Nat → Int32} (hm : cm K ≤ 20) : RI (sysK K kd nt (alb K) mst str tim gap) (nI (msk (fun _ => true) (cm K))) (-1) w := by
  intro c hc
  have hc' : c < cm K := hc
  rw [X10_isIn_all (t := 0) hm hc' (msk_lt20 _ hm), msk_bit]
  have : yinn (sysK K kd nt (alb K) mst str tim gap) c = true := decide_eq_true hc'
  rw [this]
  simp [hc']
theorem MS_Ym {K : Ca} {kd : Nat → Nat} {nt late : Nat} {st r : Nat → Int32} (h : MS K kd nt late st r) (c0 : Nat) : WF (Ym K kd nt late c0) :=
  WF_sysK h.1 h.2.1 h.2.2.1 (Int.natCast_nonneg _) (fun a ha => ⟨((okI_m K c0).1 a ha).1, ((okI_m K c0).1 a ha).2.1⟩) (fun a ha => ((okI_m K c0).2 a ha).2)
theorem X10_me48 {fu : Nat} (hfu : 20000 ≤ fu) {K : Ca} {kd : Nat → Nat} {nt late : Nat} {st r : Nat → Int32} (hM : MS K kd nt late st r) {a1 cb : Int32} :
    ∀ (f kf i acc : Nat) (ans th lo on mi bk sn isF : Int32) (w long row' slot doneOf : Nat → Int32) (tills : Nat → Int64) (next heard leads : Nat → Int32), f < kf → i + f = cm K →
    ∃ ans' th' lo' on' mi' bk' sn' isF' w' long' row2 slot' doneOf' tills' next' heard' leads', F_X10_mends_b48 fu a1 (nI 0) cb st r kf ans th lo on mi bk sn isF w long row' slot doneOf tills next heard leads (nI acc) (nI i) =
      some ((match mdl K kd nt late f i acc with | none => -1 | some q => nI q), a1, (match mdl K kd nt late f i acc with | none => nI 3 | some _ => nI 0), ans', th', lo', on', mi', bk', sn', isF', cb, w', long', row2, slot', doneOf', tills', next', heard', leads')
  | 0, kf, i, acc, ans, th, lo, on, mi, bk, sn, isF, w, long, row', slot, doneOf, tills, next, heard, leads, hf, hi => by
    obtain ⟨g, rfl⟩ : ∃ g, kf = g + 1 := ⟨kf - 1, by omega⟩
    have hm := hM.1.1
    have h1 : st (141 : Int32).toNatClampNeg = nI (cm K) := hM.2.2.2.2.1.1
    rw [F_X10_mends_b48, h1, if_pos (by rw [zd_le (by omega) (by omega)]; omega)]
    exact ⟨_, _, _, _, _, _, _, _, _, _, _, _, _, _, _, _, _, rfl⟩
  | f + 1, kf, i, acc, ans, th, lo, on, mi, bk, sn, isF, w, long, row', slot, doneOf, tills, next, heard, leads, hf, hi => by
    obtain ⟨g, rfl⟩ : ∃ g, kf = g + 1 := ⟨kf - 1, by omega⟩
    have hm := hM.1.1
    have h1 : st (141 : Int32).toNatClampNeg = nI (cm K) := hM.2.2.2.2.1.1
    have hi' : i < cm K := by omega
    have i7 : (7 : Int32) * nI i + 5 = nI (7 * i + 5) := by rw [zl_7, zl_5, zq_mul, zq_add]
    have i1 : nI i + (1 : Int32) = nI (i + 1) := by rw [zl_1, zq_add]
    have ih := fun acc ans th lo on mi bk sn isF w long row' slot doneOf tills next heard leads => X10_me48 hfu hM (a1 := a1) (cb := cb) f g (i + 1) acc ans th lo on mi bk sn isF w long row' slot doneOf tills next heard leads (by omega) (by omega)
    have hmd : mdl K kd nt late (f + 1) i acc = (if ce K i = -2 then mdl K kd nt late f (i + 1) acc else if full (Ym K kd nt late i) = true then none else mdl K kd nt late f (i + 1) (acc ||| (if PW (Ym K kd nt late i) (whole (Ym K kd nt late i)) (ini (Ym K kd nt late i)) = 0 then 0 else 2 ^ i))) := by
      conv => lhs; unfold mdl
    rw [F_X10_mends_b48, h1, if_neg (by rw [zd_le (by omega) (by omega)]; omega), i7, if_neg (nI_in (by omega) (by omega)), zd_cl (by omega), (hM.2.2.2.2.1.2 i hi').2.2.2.2.2.1]
    unfold F_X10_mends_b128 F_X10_mends_b130
    rw [i1]
    by_cases c : ce K i = -2
    · rw [if_pos c] at hmd
      rw [if_pos c, hmd]
      exact ih _ _ _ _ _ _ _ _ _ _ _ _ _ _ _ _ _ _
    · rw [if_neg c] at hmd
      obtain ⟨w1, e1, h2, _⟩ := layCalls (w := w) hfu hm hM.2.2.2.2.1 hM.2.2.2.2.2
      have hRK := RK_eml h2 hm i
      have hw := MS_Ym hM i
      obtain ⟨ans', n', full', long', row2, slot', doneOf', tills', next', heard', leads', e2, h4⟩ := X10_comes (ans := ans) (long := long) (row' := row') (slot := slot) (doneOf := doneOf) (next := next) (heard := heard) (leads := leads) (tills := tills) hfu hw (RK_RW hRK) (RI_a hm) (RE_m hM.1 hRK hM.2.2.2.1 c) (RL_kinds hM.2.2.2.2.2)
      have e2' : F_X10_comes fu ans (nI (msk (fun _ => true) (cm K))) (nI 0) (-1) (nI late) long (upd w1 (7 * i + 5) 1998) row' slot doneOf tills r next heard leads 0 = _ := e2
      rw [if_neg c, e1, z_b5, if_neg (zin (by omega) (by omega)), e2', z_b13]
      by_cases cf : full (Ym K kd nt late i) = true
      · have hno : F_X10_no 3 = some (-1, nI 3) := rfl
        rw [if_pos cf] at hmd
        rw [if_pos cf, if_pos n0_0, hno, z_b2, hmd]
        exact ⟨_, _, _, _, _, _, _, _, _, _, _, _, _, _, _, _, _, rfl⟩
      · have cf' : full (Ym K kd nt late i) = false := by simpa using cf
        have hb := FG_ini hw cf' (h4 cf')
        have h00 : leads' (0 : Int32).toNatClampNeg = leads' 0 := rfl
        rw [if_neg cf] at hmd
        rw [if_neg cf, if_neg n1_0, h00]
        rcases hb with ⟨q1, q2⟩ | ⟨q1, q2⟩
        · have e4 : (1 : Int32) <<< (nI i &&& 31) = nI (2 ^ i) := zs_one (by omega)
          rw [if_neg (by omega)] at hmd
          rw [q1, if_neg n1_0, e4, zq_or, hmd]
          exact ih _ _ _ _ _ _ _ _ _ _ _ _ _ _ _ _ _ _
        · rw [if_pos (by omega)] at hmd
          rw [q1, if_pos n0_0, hmd]
          have hor : nI acc ||| (0 : Int32) = nI (acc ||| 0) := by rw [zl_0, zq_or]
          rw [hor]
          exact ih _ _ _ _ _ _ _ _ _ _ _ _ _ _ _ _ _ _
theorem X10_mends {fu : Nat} (hfu : 20000 ≤ fu) {K : Ca} {kd : Nat → Nat} {nt late : Nat} {st w r : Nat → Int32} (hM : MS K kd nt late st r) (told : Bool)
    {ans th lo on mi bk sn isF cb : Int32} {long row' slot doneOf next heard leads : Nat → Int32} {tills : Nat → Int64} :
    ∃ ans' th' lo' on' mi' bk' sn' isF' cb' w' long' row2 slot' doneOf' tills' next' heard' leads', F_X10_mends fu (nI (if told = true then 1 else 0)) ans th lo on mi bk sn isF cb st w r long row' slot doneOf tills next heard leads =
      some ((rs_mends K kd nt late told).1, nI 0, (rs_mends K kd nt late told).2, ans', th', lo', on', mi', bk', sn', isF', cb', w', long', row2, slot', doneOf', tills', next', heard', leads') := by
  have hm := hM.1.1
  unfold F_X10_mends F_X10_good
  rw [z_b2]
  rcases told
  · have hrs : rs_mends K kd nt late false = (-1, nI 1) := rfl
    rw [if_pos (show nI (if false = true then 1 else 0) = 0 from rfl), hrs]
    exact ⟨ans, th, lo, on, mi, bk, sn, isF, cb, w, long, row', slot, doneOf, tills, next, heard, leads, rfl⟩
  · rw [if_neg (show ¬ nI (if true = true then 1 else 0) = 0 by decide)]
    obtain ⟨ans', th', lo', on', mi', bk', sn', isF', cb', w', long', row2, slot', doneOf', tills', next', heard', leads', e2, h2⟩ := X10_goesk (kind := 0) (w := w) (ans := ans) (bk := bk) (sn := sn) (isF := isF) (cb := cb) (long := long) (row' := row') (slot := slot) (doneOf := doneOf) (next := next) (heard := heard) (leads := leads) (tills := tills) hfu hM (by omega)
    have e2' : F_X10_goes fu ans bk sn isF cb st w r long row' slot doneOf tills next heard leads 0 = _ := e2
    have hno3 : F_X10_no 3 = some (-1, nI 3) := rfl
    have hno5 : F_X10_no 5 = some (-1, nI 5) := rfl
    rw [e2', z_b19]
    by_cases cf : full (Yk K kd nt late 0) = true
    · have hp : pwk' K kd nt late 0 = none := by rw [← pwk_none]; exact cf
      have hrs : rs_mends K kd nt late true = (-1, nI 3) := by unfold rs_mends; rw [if_pos rfl, hp]
      rw [if_pos cf, if_pos n0_0, hno3, z_b2, hrs]
      exact ⟨_, _, _, _, _, _, _, _, _, _, _, _, _, _, _, _, _, _, rfl⟩
    · have cf' : full (Yk K kd nt late 0) = false := by simpa using cf
      have hp : pwk' K kd nt late 0 = some (PW (Yk K kd nt late 0) (whole (Yk K kd nt late 0)) (ini (Yk K kd nt late 0))) := by unfold pwk'; rw [if_neg cf]
      obtain ⟨_, _, b3, _, _⟩ := h2 cf'
      rw [if_neg cf, if_neg n1_0]
      rcases b3 with ⟨q1, q2⟩ | ⟨q1, q2⟩
      · have hrs : rs_mends K kd nt late true = (-1, nI 5) := by
          unfold rs_mends; rw [if_pos rfl, hp]
          have : ¬ PW (Yk K kd nt late 0) (whole (Yk K kd nt late 0)) (ini (Yk K kd nt late 0)) = 0 := by omega
          simp only [this, ↓reduceIte]
        rw [q1, if_neg n1_0, hno5, z_b2, hrs]
        exact ⟨_, _, _, _, _, _, _, _, _, _, _, _, _, _, _, _, _, _, rfl⟩
      · have h0 : PW (Yk K kd nt late 0) (whole (Yk K kd nt late 0)) (ini (Yk K kd nt late 0)) = 0 := by omega
        obtain ⟨ans2, th2, lo2, on2, mi2, bk2, sn2, isF2, w2, long2, row3, slot2, doneOf2, tills2, next2, heard2, leads2, e5⟩ := X10_me48 (a1 := (0 : Int32)) (cb := cb') hfu hM (cm K) fu 0 0 ans' th' lo' on' mi' bk' sn' isF' w' long' row2 slot' doneOf' tills' next' heard' leads' (by omega) (by omega)
        have e5' : F_X10_mends_b48 fu 0 0 cb' st r fu ans' th' lo' on' mi' bk' sn' isF' w' long' row2 slot' doneOf' tills' next' heard' leads' 0 0 = _ := e5
        rw [if_pos (by rw [q1]; rfl), e5']
        rcases e6 : mdl K kd nt late (cm K) 0 0 with _ | a
        · have hrs : rs_mends K kd nt late true = (-1, nI 3) := by unfold rs_mends; rw [if_pos rfl, hp]; simp only [h0, e6, ↓reduceIte]
          rw [hrs]
          exact ⟨_, _, _, _, _, _, _, _, _, _, _, _, _, _, _, _, _, _, rfl⟩
        · have hrs : rs_mends K kd nt late true = (nI a, nI 0) := by unfold rs_mends; rw [if_pos rfl, hp]; simp only [h0, e6, ↓reduceIte]
          rw [hrs]
          exact ⟨_, _, _, _, _, _, _, _, _, _, _, _, _, _, _, _, _, _, rfl⟩
