/-- what the reference stands on -/
def MS (K : Ca) (kd : Nat → Nat) (nt late : Nat) (st r : Nat → Int32) : Prop := okC 4 nt kd K ∧ nt ≤ 3 ∧ (∀ t, t < 3 → kd t < 5) ∧ late ≤ 99 ∧ RK K (ce K) st ∧ RLy kd nt late r
def rs_orders (K : Ca) (kd : Nat → Nat) (nt late : Nat) (told : Bool) (v : Int32) : Int64 × Int32 := match kin told v 3 with
  | none => (-1, nI 1)
  | some k => match ordn K kd nt late k with
    | none => (-1, nI 3)
    | some q => (lN q, nI 0)
theorem X9_orders {fu : Nat} (hfu : 20000 ≤ fu) {K : Ca} {kd : Nat → Nat} {nt late : Nat} {n l : Int32} {f0 f1 f2 f3 f4 f5 f6 kinds : Nat → Int32} (h : CS K kd nt late n f0 f1 f2 f3 f4 f5 f6 kinds l) (told : Bool) (a1 sc : Nat) (v : Int32)
    {b : Nat} {r1 r2 r3 r4 cnt : Int32} {own ahd tab done tills leads : Nat → Int32} {ways : Nat → Int64} (hT : TB b tab) :
    ∃ r1' r2' r3' r4' own' ahd' sc' b' cnt' tab' done' tills' leads' ways', F_X9_orders fu a1 sc (nI (if told = true then 1 else 0)) (nI nt) l n f5 r1 r2 r3 r4 own f0 f4 ahd (nI b) cnt tab done tills kinds f1 f2 f3 f6 leads ways v =
      some ((rs_orders K kd nt late told v).1, (rs_orders K kd nt late told v).2, r1', r2', r3', r4', own', ahd', sc', nI b', cnt', tab', done', tills', leads', ways') ∧ TB b' tab' := by
  unfold F_X9_orders
  rw [zl_3, X9_hasKind, z_b1]
  rcases e : kin told v 3 with _ | k
  · have hrs : rs_orders K kd nt late told v = (-1, nI 1) := by unfold rs_orders; rw [e]
    rw [ifn, if_pos n0_0, hrs]
    exact ⟨r1, r2, r3, r4, own, ahd, sc, b, cnt, tab, done, tills, leads, ways, rfl, hT⟩
  · obtain ⟨_, rfl, hk⟩ := kin_some (by omega) e
    rw [ifs, if_neg n1_0]
    obtain ⟨r1', r2', r3', r4', own', ahd', sc', b', cnt', tab', done', tills', leads', ways', e2, h2⟩ := X1_countOrders (kind := k) (r1 := r1) (r2 := r2) (r3 := r3) (r4 := r4) (cnt := cnt) (own := own) (ahd := ahd) (done := done) (tills := tills) (leads := leads) (ways := ways) hfu h a1 sc (by omega) hT
    rw [e2, z_b15]
    refine ⟨r1', r2', r3', r4', own', ahd', sc', b', cnt', tab', done', tills', leads', ways', ?_, h2⟩
    have hle : ∀ q, ordn K kd nt late k = some q → q ≤ MW := fun q hq => ordn_le hq
    rcases e3 : ordn K kd nt late k with _ | q
    · have hrs : rs_orders K kd nt late told (nI k) = (-1, nI 3) := by unfold rs_orders; rw [e]; simp only [e3]
      rw [if_neg (by decide), hrs]; rfl
    · have hq := hle q e3
      have hrs : rs_orders K kd nt late told (nI k) = (lN q, nI 0) := by unfold rs_orders; rw [e]; simp only [e3]
      rw [if_pos ((o64_neg (fun q' hq' => by injection hq' with hq'; rw [← hq']; exact hq)).mpr (by simp)), hrs]; rfl
theorem X10_orders56 {fu : Nat} (hfu : 20000 ≤ fu) {K : Ca} {kd : Nat → Nat} {nt late : Nat} {w r : Nat → Int32} (hK : okC 4 nt kd K) (hnt : nt ≤ 3) (hkd : ∀ t, t < 3 → kd t < 5) (hl : late ≤ 99) (h : RK K (ce K) w) (hr : RLy kd nt late r) (tn tr0 : Int32) :
    ∀ (j kf t p : Nat) (ans onTill bk st isF : Int32) (long row' slot doneOf next heard leads : Nat → Int32) (tills ways : Nat → Int64), j < kf → t + j = nt → p ≤ MW →
    ∃ ans' on' bk' st' isF' long' row2 slot' doneOf' tills' next' heard' leads' ways', F_X10_orders_b56 fu tn tr0 (nI (msk (fun _ => true) (cm K))) (nI 0) (nI late) w r kf ans onTill bk st isF long row' slot doneOf tills next heard leads ways (lN p) (nI t) =
      some ((match eachw K kd nt j t p with | none => -1 | some q => lN q), tn, (match eachw K kd nt j t p with | none => nI 3 | some _ => tr0), ans', nI (msk (fun _ => true) (cm K)), nI 0, on', nI late, bk', st', isF', w, long', row2, slot', doneOf', tills', next', heard', leads', ways')
  | 0, kf, t, p, ans, onTill, bk, st, isF, long, row', slot, doneOf, next, heard, leads, tills, ways, hj, ht, hp => by
    obtain ⟨g, rfl⟩ : ∃ g, kf = g + 1 := ⟨kf - 1, by omega⟩
    have h2 : r (2 : Int32).toNatClampNeg = nI nt := hr.2.1
    refine ⟨ans, onTill, bk, st, isF, long, row', slot, doneOf, tills, next, heard, leads, ways, ?_⟩
    rw [F_X10_orders_b56, h2, if_pos (by rw [zd_le (by omega) (by omega)]; omega)]
    rfl
  | j + 1, kf, t, p, ans, onTill, bk, st, isF, long, row', slot, doneOf, next, heard, leads, tills, ways, hj, ht, hp => by
    obtain ⟨g, rfl⟩ : ∃ g, kf = g + 1 := ⟨kf - 1, by omega⟩
    have h2 : r (2 : Int32).toNatClampNeg = nI nt := hr.2.1
    obtain ⟨ans', n', full', long', row2, slot', doneOf', tills', next', heard', leads', e, h1⟩ := comes_t (t := t) (ans := ans) (long := long) (row' := row') (slot := slot) (doneOf := doneOf) (next := next) (heard := heard) (leads := leads) (tills := tills) hfu hK hnt hkd hl (by omega) h hr
    rw [F_X10_orders_b56, h2, if_neg (by rw [zd_le (by omega) (by omega)]; omega), zl_3, e, z_b13]
    rcases e5 : pwt K kd nt t with _ | q
    · have hq : eachw K kd nt (j + 1) t p = none := by unfold eachw; rw [e5]
      rw [ifn, if_pos n0_0, hq]
      exact ⟨_, _, _, _, _, _, _, _, _, _, _, _, _, _, rfl⟩
    · have hq : eachw K kd nt (j + 1) t p = eachw K kd nt j (t + 1) (prd p q) := by rw [eachw, e5]
      rw [ifs, if_neg n1_0, hq]
      have hw : WF (Yt K kd nt t) := WF_sysK hK hnt hkd (Int.natCast_nonneg _) (fun a ha => ⟨((okI_t K t).1 a ha).1, ((okI_t K t).1 a ha).2.1⟩) (fun a ha => ((okI_t K t).2 a ha).2)
      have hf : full (Yt K kd nt t) = false := by
        rcases c : full (Yt K kd nt t)
        · rfl
        · have : pwt K kd nt t = none := by rw [← pwt_none]; exact c
          rw [this] at e5; cases e5
      have hpq : q = PW (Yt K kd nt t) (whole (Yt K kd nt t)) (ini (Yt K kd nt t)) := by
        unfold pwt at e5
        rw [if_neg (by rw [hf]; simp)] at e5
        injection e5 with e5; exact e5.symm
      obtain ⟨ways', e6⟩ := X10_countOrders (ways := ways) hfu hw hf (RE_t hK h hl) (h1 q e5).2
      rw [← hpq] at e6
      rw [e6, z_b2, X10_product hp (pwt_le e5), z_b1, zl_1, zq_add]
      exact X10_orders56 hfu hK hnt hkd hl h hr tn tr0 j g (t + 1) (prd p q) _ _ _ _ _ _ _ _ _ _ _ _ _ _ (by omega) (by omega) (prd_le _ _)
theorem X10_orders {fu : Nat} (hfu : 20000 ≤ fu) {K : Ca} {kd : Nat → Nat} {nt late : Nat} {st w r : Nat → Int32} (hM : MS K kd nt late st r) (told : Bool) (v : Int32)
    {ans th lo on mi bk sn isF : Int32} {long row' slot doneOf next heard leads : Nat → Int32} {tills ways : Nat → Int64} :
    ∃ ans' th' lo' on' mi' bk' sn' isF' w' long' row2 slot' doneOf' tills' next' heard' leads' ways', F_X10_orders fu (nI (if told = true then 1 else 0)) ans th lo on mi bk sn isF st w r long row' slot doneOf tills next heard leads ways v =
      some ((rs_orders K kd nt late told v).1, nI 0, (rs_orders K kd nt late told v).2, ans', th', lo', on', mi', bk', sn', isF', w', long', row2, slot', doneOf', tills', next', heard', leads', ways') := by
  obtain ⟨hK, hnt, hkd, hl, h, hr⟩ := hM
  unfold F_X10_orders F_X10_good
  rw [zl_3, X10_isKind, z_b2, z_b1]
  rcases e : kin told v 3 with _ | k
  · have hrs : rs_orders K kd nt late told v = (-1, nI 1) := by unfold rs_orders; rw [e]
    rw [ifn, if_pos n0_0, hrs]
    exact ⟨ans, th, lo, on, mi, bk, sn, isF, w, long, row', slot, doneOf, tills, next, heard, leads, ways, rfl⟩
  · obtain ⟨_, rfl, hk⟩ := kin_some (by omega) e
    rw [ifs, if_neg n1_0]
    obtain ⟨w', e1, h1, _⟩ := layCalls (w := w) hfu hK.1 h hr
    rw [e1, z_b5]
    by_cases c : k = 3
    · have ho : ordn K kd nt late k = eachw K kd nt nt 0 1 := by unfold ordn; rw [if_pos c]
      rw [if_pos (by rw [c]; decide)]
      obtain ⟨ans', on', bk', st', isF', long', row2, slot', doneOf', tills', next', heard', leads', ways', e2⟩ := X10_orders56 hfu hK hnt hkd hl h1 hr (nI 0) (nI 0) nt fu 0 1 ans (-1) bk sn isF long row' slot doneOf next heard leads tills ways (by omega) (by omega) (by rw [MW_eq]; omega)
      have hrs : rs_orders K kd nt late told (nI k) = ((match eachw K kd nt nt 0 1 with | none => -1 | some q => lN q), (match eachw K kd nt nt 0 1 with | none => nI 3 | some _ => nI 0)) := by
        unfold rs_orders; rw [e]
        simp only [ho]
        rcases eachw K kd nt nt 0 1 with _ | q <;> rfl
      rw [hrs]
      exact ⟨_, _, _, _, _, _, _, _, _, _, _, _, _, _, _, _, _, _, e2⟩
    · have ho : ordn K kd nt late k = pwk' K kd nt late k := by unfold ordn; rw [if_neg c]
      obtain ⟨ans', n', full', long', row2, slot', doneOf', tills', next', heard', leads', e3, h2⟩ := comes_k (kind := k) (ans := ans) (long := long) (row' := row') (slot := slot) (doneOf := doneOf) (next := next) (heard := heard) (leads := leads) (tills := tills) hfu hK hnt hkd hl (by omega) h1 hr
      rw [if_neg (by rw [zd_le (by omega) (by omega)]; omega), e3, z_b13]
      rcases e5 : pwk' K kd nt late k with _ | q
      · have hrs : rs_orders K kd nt late told (nI k) = (-1, nI 3) := by unfold rs_orders; rw [e]; simp only [ho, e5]
        rw [ifn, if_pos n0_0, hrs]
        exact ⟨_, _, _, _, _, _, _, _, _, _, _, _, _, _, _, _, _, _, rfl⟩
      · have hrs : rs_orders K kd nt late told (nI k) = (lN q, nI 0) := by unfold rs_orders; rw [e]; simp only [ho, e5]
        obtain ⟨a1, a2, _, a4⟩ := h2 q e5
        have hw : WF (Yk K kd nt late k) := WF_sysK hK hnt hkd (Int.natCast_nonneg _) (fun a ha => ⟨((okI_k K).1 a ha).1, ((okI_k K).1 a ha).2.1⟩) (fun a ha => ((okI_k K).2 a ha).2)
        obtain ⟨ways', e6⟩ := X10_countOrders (ways := ways) hfu hw a1 (RE_k hK h1 hl (by omega)) a4
        rw [← a2] at e6
        rw [ifs, if_neg n1_0, e6, z_b2, hrs]
        exact ⟨_, _, _, _, _, _, _, _, _, _, _, _, _, _, _, _, _, _, rfl⟩
/-! each till by itself -/
def tin (nt : Nat) (v : Int32) : Option Nat := if 0 ≤ v ∧ v < nI nt then some v.toNatClampNeg else none
theorem tin_some {nt t : Nat} {v : Int32} (hn : nt < 100) (h : tin nt v = some t) : v = nI t ∧ t < nt := by
  unfold tin at h
  split at h
  · rename_i c
    injection h with h
    obtain ⟨j, hj, rfl⟩ := nI_of (x := v) (nlt_le.mpr c.1)
    rw [zd_cl hj] at h
    subst h
    have h2 := c.2
    rw [zd_lt hj (by omega)] at h2
    exact ⟨rfl, h2⟩
  · cases h
theorem tin_if {nt : Nat} {v : Int32} (c : 0 ≤ v ∧ v < nI nt) : tin nt v = some v.toNatClampNeg := if_pos c
theorem tin_no {nt : Nat} {v : Int32} (c : ¬ (0 ≤ v ∧ v < nI nt)) : tin nt v = none := if_neg c
theorem X5_hasTill {nt : Nat} {v : Int32} : F_X5_hasTill (nI nt) v = some (nI (if tin nt v = none then 0 else 1)) := by
  unfold F_X5_hasTill
  by_cases c : v < 0
  · rw [if_pos c, tin_no (fun h => (nlt_le.mpr h.1) c)]; rfl
  · rw [if_neg c]
    by_cases d : nI nt ≤ v
    · rw [if_pos d, tin_no (fun h => by rw [Int32.lt_iff_toInt_lt] at h; rw [Int32.le_iff_toInt_le] at d; omega)]; rfl
    · rw [if_neg d, tin_if ⟨nlt_le.mp c, by rw [Int32.lt_iff_toInt_lt]; rw [Int32.le_iff_toInt_le] at d; omega⟩]; rfl
theorem lt_le_pred {n : Nat} {v : Int32} (hn : n < 100) : (v < nI n) ↔ (v ≤ nI n - 1) := by
  have e : (nI n - 1).toInt = (n : Int) - 1 := by
    rw [fb_subI (by rw [nI_toInt (by omega)]; have : (1 : Int32).toInt = 1 := by decide
                    omega) (by rw [nI_toInt (by omega)]; have : (1 : Int32).toInt = 1 := by decide
                               omega), nI_toInt (by omega)]
    have : (1 : Int32).toInt = 1 := by decide
    omega
  rw [Int32.lt_iff_toInt_lt, Int32.le_iff_toInt_le, e, nI_toInt (by omega)]
  omega
theorem X10_isTill {told : Bool} {nt : Nat} {v : Int32} {r : Nat → Int32} (hn : nt < 100) (h0 : told = false → nt = 0) (hr : r 2 = nI nt) : F_X10_isTill (nI (if told = true then 1 else 0)) r v = some (nI (if tin nt v = none then 0 else 1)) := by
  unfold F_X10_isTill
  have h2 : r (2 : Int32).toNatClampNeg = nI nt := hr
  rcases told
  · rw [h0 rfl, tin_no (fun h => by
      have a := h.1
      have b := h.2
      rw [Int32.le_iff_toInt_le] at a
      rw [Int32.lt_iff_toInt_lt] at b
      have : (nI 0).toInt = (0 : Int32).toInt := rfl
      omega), ifn]
    rfl
  · rw [show (if (true = true) then (1 : Nat) else 0) = 1 from rfl, if_neg n1_0, h2, X10_within, z_b1]
    by_cases c : 0 ≤ v ∧ v ≤ nI nt - 1
    · rw [if_pos c, if_neg n1_0, tin_if ⟨c.1, (lt_le_pred hn).mpr c.2⟩]; rfl
    · rw [if_neg c, if_pos n0_0, tin_no (fun h => c ⟨h.1, (lt_le_pred hn).mp h.2⟩)]; rfl
def rs_each (K : Ca) (kd : Nat → Nat) (nt : Nat) (v : Int32) : Int32 × Int32 := match tin nt v with
  | none => (-1, nI 1)
  | some t => match pwt K kd nt t with
    | none => (-1, nI 3)
    | some q => (nI (if 0 < q then 1 else 0), nI 0)
theorem X9_each {fu : Nat} (hfu : 20000 ≤ fu) {K : Ca} {kd : Nat → Nat} {nt late : Nat} {n l : Int32} {f0 f1 f2 f3 f4 f5 f6 kinds : Nat → Int32} (h : CS K kd nt late n f0 f1 f2 f3 f4 f5 f6 kinds l) (a1 sc : Nat) (v : Int32)
    {b : Nat} {r1 r2 r3 r4 cnt : Int32} {own ahd tab done tills leads : Nat → Int32} {ways : Nat → Int64} (hT : TB b tab) :
    ∃ r1' r2' r3' r4' own' ahd' sc' b' cnt' tab' done' tills' leads' ways', F_X9_each fu a1 sc (nI nt) l n f1 f5 r1 r2 r3 r4 own f0 f4 ahd (nI b) cnt tab done tills kinds f2 f3 f6 leads ways v =
      some ((rs_each K kd nt v).1, (rs_each K kd nt v).2, r1', r2', r3', r4', own', ahd', sc', nI b', cnt', tab', done', tills', leads', ways') ∧ TB b' tab' := by
  have hnt := h.2.2.1
  unfold F_X9_each
  rw [X5_hasTill, z_b1]
  rcases e : tin nt v with _ | t
  · have hrs : rs_each K kd nt v = (-1, nI 1) := by unfold rs_each; rw [e]
    rw [ifn, if_pos n0_0, hrs]
    exact ⟨r1, r2, r3, r4, own, ahd, sc, b, cnt, tab, done, tills, leads, ways, rfl, hT⟩
  · obtain ⟨rfl, ht⟩ := tin_some (by omega) e
    rw [ifs, if_neg n1_0]
    obtain ⟨e1, E, e2, e3⟩ := takeTill (t := t) hfu h (by omega)
    have hg := (gap_k (kind := 0) (by omega) h.2.2.2.2.2.2).1
    rw [← h.2.2.2.2.2.1] at hg
    have hg' : F_X4_gapOf (0 : Int32) l = some (nI 0) := hg
    obtain ⟨own', ahd', b', cnt', tab', done', tills', leads', ways', e4, hT'⟩ := X1_cwTill (t := t) (own := own) (ahd := ahd) (done := done) (tills := tills) (leads := leads) (ways := ways) hfu h hT
    unfold F_X1_countOrdersOfTill
    rw [e1, z_b1, e2, z_b1, e3, z_b4, hg', z_b1, e4, z_b10, z_b14]
    unfold F_X9_each_b53
    have hle : ∀ q, pwt K kd nt t = some q → q ≤ MW := fun q hq => pwt_le hq
    rcases e5 : pwt K kd nt t with _ | q
    · have hrs : rs_each K kd nt (nI t) = (-1, nI 3) := by unfold rs_each; rw [e]; simp only [e5]
      rw [if_neg (by decide), X9_answered10, hrs]
      exact ⟨_, _, _, _, _, _, _, _, _, _, _, _, _, _, rfl, hT'⟩
    · have hq := hle q e5
      have hrs : rs_each K kd nt (nI t) = (nI (if 0 < q then 1 else 0), nI 0) := by unfold rs_each; rw [e]; simp only [e5]
      rw [if_pos ((o64_neg (fun q' hq' => by injection hq' with hq'; rw [← hq']; exact hq)).mpr (by simp)), hrs]
      rw [MW_eq] at hq
      have hc : (lg_cmp (o64 (some q)) (0 : Int64) ≤ 0) ↔ q = 0 := by
        show (lg_cmp (lN q) 0 ≤ 0) ↔ _
        rw [zL_0, zc_le0 (by omega) (by omega)]; omega
      by_cases g : q = 0
      · rw [if_pos (hc.mpr g), zl_0, X9_answeredN (by omega), z_b2, if_neg (by omega)]
        exact ⟨_, _, _, _, _, _, _, _, _, _, _, _, _, _, rfl, hT'⟩
      · rw [if_neg (fun h => g (hc.mp h)), zl_1, X9_answeredN (by omega), z_b2, if_pos (by omega)]
        exact ⟨_, _, _, _, _, _, _, _, _, _, _, _, _, _, rfl, hT'⟩
theorem X10_each {fu : Nat} (hfu : 20000 ≤ fu) {K : Ca} {kd : Nat → Nat} {nt late : Nat} {st w r : Nat → Int32} (hM : MS K kd nt late st r) (told : Bool) (h0 : told = false → nt = 0) (v : Int32)
    {ans th lo on mi bk sn isF : Int32} {long row' slot doneOf next heard leads : Nat → Int32} {tills : Nat → Int64} :
    ∃ ans' th' lo' on' mi' bk' sn' isF' w' long' row2 slot' doneOf' tills' next' heard' leads', F_X10_each fu (nI (if told = true then 1 else 0)) ans th lo on mi bk sn isF r st w long row' slot doneOf tills next heard leads v =
      some ((rs_each K kd nt v).1, nI 0, (rs_each K kd nt v).2, ans', th', lo', on', mi', bk', sn', isF', w', long', row2, slot', doneOf', tills', next', heard', leads') := by
  obtain ⟨hK, hnt, hkd, hl, h, hr⟩ := hM
  unfold F_X10_each F_X10_good
  rw [z_b2, X10_isTill (by omega) h0 hr.2.1, z_b1]
  rcases e : tin nt v with _ | t
  · have hrs : rs_each K kd nt v = (-1, nI 1) := by unfold rs_each; rw [e]
    rw [ifn, if_pos n0_0, hrs]
    exact ⟨ans, th, lo, on, mi, bk, sn, isF, w, long, row', slot, doneOf, tills, next, heard, leads, rfl⟩
  · obtain ⟨rfl, ht⟩ := tin_some (by omega) e
    rw [ifs, if_neg n1_0]
    obtain ⟨w', e1, h1, _⟩ := layCalls (w := w) hfu hK.1 h hr
    obtain ⟨ans', n', full', long', row2, slot', doneOf', tills', next', heard', leads', e2, h2⟩ := comes_t (t := t) (ans := ans) (long := long) (row' := row') (slot := slot) (doneOf := doneOf) (next := next) (heard := heard) (leads := leads) (tills := tills) hfu hK hnt hkd hl (by omega) h1 hr
    rw [e1, z_b5, zl_3, e2, z_b13]
    rcases e5 : pwt K kd nt t with _ | q
    · have hrs : rs_each K kd nt (nI t) = (-1, nI 3) := by unfold rs_each; rw [e]; simp only [e5]
      rw [ifn, if_pos n0_0, hrs]
      exact ⟨_, _, _, _, _, _, _, _, _, _, _, _, _, _, _, _, _, rfl⟩
    · have hrs : rs_each K kd nt (nI t) = (nI (if 0 < q then 1 else 0), nI 0) := by unfold rs_each; rw [e]; simp only [e5]
      rw [ifs, if_neg n1_0, hrs, show (Int32.toNatClampNeg 0) = 0 from rfl]
      rcases (h2 q e5).1 with ⟨c, d⟩ | ⟨c, d⟩
      · rw [c, if_neg n1_0, if_pos d]
        exact ⟨_, _, _, _, _, _, _, _, _, _, _, _, _, _, _, _, _, rfl⟩
      · rw [c, if_pos n0_0, if_neg d]
        exact ⟨_, _, _, _, _, _, _, _, _, _, _, _, _, _, _, _, _, rfl⟩
