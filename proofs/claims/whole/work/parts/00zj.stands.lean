theorem X1_explore {fu : Nat} (hfu : 20000 ≤ fu) {K : Ca} {kd : Nat → Nat} {nt late : Nat} {n l : Int32} {f0 f1 f2 f3 f4 f5 f6 kinds : Nat → Int32} (h : CS K kd nt late n f0 f1 f2 f3 f4 f5 f6 kinds l) {kind : Nat} (hk : kind < 4)
    {b : Nat} {own ahd tab done tills leads : Nat → Int32} (hT : TB b tab) :
    ∃ own' ahd' b' cnt tab' done' tills' leads', F_X1_explore fu n f5 l own f0 f4 ahd (nI b) tab done tills kinds f1 f2 f3 f6 leads (nI kind) =
      some (nI (if full (Yk K kd nt late kind) = true then 0 else 1), nI (msk (alb K) (cm K)), nI (msk (enb K) (cm K)), nI (msk (enb K) (cm K)), nI (msk (enb K) (cm K)), own', ahd', nI b', cnt, tab', done', tills', leads') ∧ TB b' tab' ∧ ROW (Yk K kd nt late kind) own' ahd' ∧
      (full (Yk K kd nt late kind) = false → cnt = nI (gr (Yk K kd nt late kind)).1 ∧ CR (Yk K kd nt late kind) (gr (Yk K kd nt late kind)) done' tills' ∧ NC (Yk K kd nt late kind) (gr (Yk K kd nt late kind)) leads') := by
  obtain ⟨g1, g2, g3⟩ := gap_k hk h.2.2.2.2.2.2
  obtain ⟨own', ahd', b', cnt, tab', done', tills', leads', e1, e2, hR, h1, h2⟩ := JX (mst := enb K) (str := enb K) (gap := nI (gapk kind late)) (own := own) (ahd := ahd) (done := done) (tills := tills) (leads := leads) hfu h g3 (okI_k K) hT
  rw [g2] at e2 hR h2
  rw [← h.2.2.2.2.2.1] at g1
  refine ⟨own', ahd', b', cnt, tab', done', tills', leads', ?_, h1, hR, h2⟩
  unfold F_X1_explore
  rw [takeAll hfu h, z_b4, g1, z_b1, e1, z_b2]
  have e2' : F_X6_explore fu (nI b) tab done tills kinds (nI (msk (enb K) (cm K))) own' ahd' f1 f2 f3 f6 leads = some (nI (if full (Yk K kd nt late kind) = true then 0 else 1), nI b', cnt, tab', done', tills', leads') := e2
  rw [e2', z_b7, if_neg]
  intro hh
  apply hh
  by_cases c : full (Yk K kd nt late kind) = true
  · rw [if_pos c]; exact Or.inl rfl
  · rw [if_neg c]; exact Or.inr rfl
def rs_stands (K : Ca) (kd : Nat → Nat) (nt late : Nat) (told : Bool) (v : Int32) : Int32 × Int32 := match kin told v 2 with
  | none => (-1, nI 1)
  | some k => if full (Yk K kd nt late k) = true then (-1, nI 3) else (nI (gr (Yk K kd nt late k)).1, nI 0)
theorem X9_stands {fu : Nat} (hfu : 20000 ≤ fu) {K : Ca} {kd : Nat → Nat} {nt late : Nat} {n l : Int32} {f0 f1 f2 f3 f4 f5 f6 kinds : Nat → Int32} (h : CS K kd nt late n f0 f1 f2 f3 f4 f5 f6 kinds l) (told : Bool) (a1 sc : Nat) (v : Int32)
    {b : Nat} {r1 r2 r3 r4 cnt : Int32} {own ahd tab done tills leads : Nat → Int32} (hT : TB b tab) :
    ∃ r1' r2' r3' r4' own' ahd' sc' b' cnt' tab' done' tills' leads', F_X9_stands fu a1 sc (nI (if told = true then 1 else 0)) l n f5 r1 r2 r3 r4 own f0 f4 ahd (nI b) cnt tab done tills kinds f1 f2 f3 f6 leads v =
      some ((rs_stands K kd nt late told v).1, (rs_stands K kd nt late told v).2, r1', r2', r3', r4', own', ahd', sc', nI b', cnt', tab', done', tills', leads') ∧ TB b' tab' := by
  unfold F_X9_stands
  rw [zl_2, X9_hasKind, z_b1]
  rcases e : kin told v 2 with _ | k
  · have hrs : rs_stands K kd nt late told v = (-1, nI 1) := by unfold rs_stands; rw [e]
    rw [ifn, if_pos n0_0, hrs]
    exact ⟨r1, r2, r3, r4, own, ahd, sc, b, cnt, tab, done, tills, leads, rfl, hT⟩
  · obtain ⟨_, rfl, hk⟩ := kin_some (by omega) e
    rw [ifs, if_neg n1_0]
    obtain ⟨own', ahd', b', cnt', tab', done', tills', leads', e1, hT', hR, h1⟩ := X1_explore (kind := k) (own := own) (ahd := ahd) (done := done) (tills := tills) (leads := leads) hfu h (by omega) hT
    unfold F_X1_countStands
    rw [e1, z_b13]
    by_cases c : full (Yk K kd nt late k) = true
    · have hrs : rs_stands K kd nt late told (nI k) = (-1, nI 3) := by unfold rs_stands; rw [e]; simp only [c, ↓reduceIte]
      rw [if_pos c, if_pos n0_0, z_b13, X9_answered10, hrs]
      exact ⟨_, _, _, _, _, _, _, _, _, _, _, _, _, rfl, hT'⟩
    · have c' : full (Yk K kd nt late k) = false := by simpa using c
      have hrs : rs_stands K kd nt late told (nI k) = (nI (gr (Yk K kd nt late k)).1, nI 0) := by unfold rs_stands; rw [e]; simp only [c', Bool.false_eq_true, ↓reduceIte]
      have h6 := (GO_gr (CS_Yk h k) c').2.1
      rw [if_neg c, if_neg n1_0, z_b13, (h1 c').1, X9_answeredN (by omega), hrs]
      exact ⟨_, _, _, _, _, _, _, _, _, _, _, _, _, rfl, hT'⟩
theorem MS_Yk {K : Ca} {kd : Nat → Nat} {nt late : Nat} {st r : Nat → Int32} (h : MS K kd nt late st r) (k : Nat) : WF (Yk K kd nt late k) :=
  WF_sysK h.1 h.2.1 h.2.2.1 (Int.natCast_nonneg _) (fun a ha => ⟨((okI_k K).1 a ha).1, ((okI_k K).1 a ha).2.1⟩) (fun a ha => ((okI_k K).2 a ha).2)
/-- goes, for the kinds 0 .. 2 -/
theorem X10_goesk {fu : Nat} (hfu : 20000 ≤ fu) {K : Ca} {kd : Nat → Nat} {nt late kind : Nat} {st w r : Nat → Int32} (hM : MS K kd nt late st r) (hk : kind ≤ 2)
    {ans bk sn isF cb : Int32} {long row' slot doneOf next heard leads : Nat → Int32} {tills : Nat → Int64} :
    ∃ ans' th' lo' on' mi' bk' sn' isF' cb' w' long' row2 slot' doneOf' tills' next' heard' leads', F_X10_goes fu ans bk sn isF cb st w r long row' slot doneOf tills next heard leads (nI kind) =
      some (nI (if full (Yk K kd nt late kind) = true then 0 else 1), ans', th', lo', on', mi', bk', sn', isF', cb', w', long', row2, slot', doneOf', tills', next', heard', leads') ∧
      (full (Yk K kd nt late kind) = false → RK K (ce K) w' ∧ RE (Yk K kd nt late kind) w' (nI 0) (nI late) (nI kind) ∧ isB cb' (0 < PW (Yk K kd nt late kind) (whole (Yk K kd nt late kind)) (ini (Yk K kd nt late kind))) ∧ isB (leads' 0) (0 < PW (Yk K kd nt late kind) (whole (Yk K kd nt late kind)) (ini (Yk K kd nt late kind))) ∧ FG (Yk K kd nt late kind) sn' long' row2 slot' doneOf' tills' next' heard' leads') := by
  obtain ⟨hK, hnt, hkd, hl, h, hr⟩ := hM
  obtain ⟨ans', th', lo', on', mi', bk', sn', isF', cb', w', long', row2, slot', doneOf', tills', next', heard', leads', e2, h2⟩ := X10_goes (kind := kind) (w := w) (ans := ans) (bk := bk) (sn := sn) (isF := isF) (cb := cb) (long := long) (row' := row') (slot := slot) (doneOf := doneOf) (next := next) (heard := heard) (leads := leads) (tills := tills) hfu hK hnt hkd hl (by omega) h hr
  have ho : ordn K kd nt late kind = pwk' K kd nt late kind := by unfold ordn; rw [if_neg (by omega)]
  rw [ho] at e2 h2
  refine ⟨ans', th', lo', on', mi', bk', sn', isF', cb', w', long', row2, slot', doneOf', tills', next', heard', leads', ?_, fun hf => ?_⟩
  · rw [e2]
    simp only [pwk_none]
  · rcases e5 : pwk' K kd nt late kind with _ | q
    · rw [← pwk_none, hf] at e5; cases e5
    · obtain ⟨a1, a2⟩ := h2 q e5
      obtain ⟨b1, b2, b3, b4, b5⟩ := a2 (by omega)
      rw [← b3]
      exact ⟨b1, RE_k hK b1 hl (by omega), a1, b4, b5⟩
theorem X10_stands {fu : Nat} (hfu : 20000 ≤ fu) {K : Ca} {kd : Nat → Nat} {nt late : Nat} {st w r : Nat → Int32} (hM : MS K kd nt late st r) (told : Bool) (v : Int32)
    {ans th lo on mi bk sn isF cb : Int32} {long row' slot doneOf next heard leads : Nat → Int32} {tills : Nat → Int64} :
    ∃ ans' th' lo' on' mi' bk' sn' isF' cb' w' long' row2 slot' doneOf' tills' next' heard' leads', F_X10_stands fu (nI (if told = true then 1 else 0)) ans th lo on mi bk sn isF cb st w r long row' slot doneOf tills next heard leads v =
      some ((rs_stands K kd nt late told v).1, nI 0, (rs_stands K kd nt late told v).2, ans', th', lo', on', mi', bk', sn', isF', cb', w', long', row2, slot', doneOf', tills', next', heard', leads') := by
  unfold F_X10_stands F_X10_good
  rw [zl_2, X10_isKind, z_b2, z_b1]
  rcases e : kin told v 2 with _ | k
  · have hrs : rs_stands K kd nt late told v = (-1, nI 1) := by unfold rs_stands; rw [e]
    rw [ifn, if_pos n0_0, hrs]
    exact ⟨ans, th, lo, on, mi, bk, sn, isF, cb, w, long, row', slot, doneOf, tills, next, heard, leads, rfl⟩
  · obtain ⟨_, rfl, hk⟩ := kin_some (by omega) e
    rw [ifs, if_neg n1_0]
    obtain ⟨ans', th', lo', on', mi', bk', sn', isF', cb', w', long', row2, slot', doneOf', tills', next', heard', leads', e2, h2⟩ := X10_goesk (kind := k) (w := w) (ans := ans) (bk := bk) (sn := sn) (isF := isF) (cb := cb) (long := long) (row' := row') (slot := slot) (doneOf := doneOf) (next := next) (heard := heard) (leads := leads) (tills := tills) hfu hM hk
    rw [e2, z_b19]
    by_cases c : full (Yk K kd nt late k) = true
    · have hrs : rs_stands K kd nt late told (nI k) = (-1, nI 3) := by unfold rs_stands; rw [e]; simp only [c, ↓reduceIte]
      rw [if_pos c, if_pos n0_0, hrs]
      exact ⟨_, _, _, _, _, _, _, _, _, _, _, _, _, _, _, _, _, _, rfl⟩
    · have c' : full (Yk K kd nt late k) = false := by simpa using c
      have hrs : rs_stands K kd nt late told (nI k) = (nI (gr (Yk K kd nt late k)).1, nI 0) := by unfold rs_stands; rw [e]; simp only [c', Bool.false_eq_true, ↓reduceIte]
      rw [if_neg c, if_neg n1_0, hrs, (h2 c').2.2.2.2.1]
      exact ⟨_, _, _, _, _, _, _, _, _, _, _, _, _, _, _, _, _, _, rfl⟩
/-! FIRST ORDER -/
def lde (y : Sy) (e : St → Bool) (x : St) (k : Nat) : Bool := match nst y k x with
  | none => false
  | some z => decide (0 < PW y e z)
def lds (y : Sy) (x : St) (k : Nat) : Bool := lde y (whole y) x k
def cl (y : Sy) (x : St) (k : Nat) : Nat := (nx y k x.1).getD 0
def bstk (y : Sy) (x : St) : Nat → Option Nat
  | 0 => none
  | k + 1 => if lds y x k = true then (match bstk y x k with | none => some k | some b => if cl y x b ≤ cl y x k then some b else some k) else bstk y x k
theorem bstk_lt {y : Sy} {x : St} : ∀ k b, bstk y x k = some b → b < k ∧ lds y x b = true
  | 0, b, h => by cases h
  | k + 1, b, h => by
    unfold bstk at h
    by_cases c : lds y x k = true
    · rw [if_pos c] at h
      rcases e : bstk y x k with _ | b'
      · rw [e] at h
        injection h with h
        subst h
        exact ⟨Nat.lt_succ_self _, c⟩
      · rw [e] at h
        simp only at h
        split at h
        · injection h with h
          subst h
          have := bstk_lt k b' e
          exact ⟨by omega, this.2⟩
        · injection h with h
          subst h
          exact ⟨Nat.lt_succ_self _, c⟩
    · rw [if_neg c] at h
      have := bstk_lt k b h
      exact ⟨by omega, this.2⟩
theorem bstk_none {y : Sy} {x : St} : ∀ k, bstk y x k = none → ∀ j, j < k → lds y x j = false
  | 0, _, j, hj => by omega
  | k + 1, h, j, hj => by
    unfold bstk at h
    by_cases c : lds y x k = true
    · rw [if_pos c] at h
      rcases e : bstk y x k with _ | b'
      · rw [e] at h; cases h
      · rw [e] at h
        simp only at h
        split at h <;> cases h
    · rw [if_neg c] at h
      by_cases d : j = k
      · subst d; simpa using c
      · exact bstk_none k h j (by omega)
/-- the calls of the first order from a stand on -/
def pth (y : Sy) : Nat → St → List Nat
  | 0, _ => []
  | f + 1, x => if whole y x = true then [] else match bstk y x 4 with
    | none => []
    | some b => match nst y b x with
      | none => []
      | some z => cl y x b :: pth y f z
theorem lds_some {y : Sy} {x : St} {k : Nat} (h : lds y x k = true) : ∃ z, nst y k x = some z ∧ 0 < PW y (whole y) z := by
  unfold lds lde at h
  rcases e : nst y k x with _ | z
  · rw [e] at h; cases h
  · rw [e] at h; exact ⟨z, rfl, of_decide_eq_true h⟩
theorem step_ex {y : Sy} (hw : WF y) {x : St} (hx : okS y x) (hp : 0 < PW y (whole y) x) (hwh : ¬ whole y x = true) : ∃ b z, bstk y x 4 = some b ∧ b < 4 ∧ nst y b x = some z ∧ 0 < PW y (whole y) z := by
  rcases e : bstk y x 4 with _ | b
  · exfalso
    have hn := bstk_none 4 e
    rw [PW_eq hw _ hx, if_neg hwh, Nat.zero_add] at hp
    have : 0 < pwk y (PW y (whole y)) x 4 := by rw [MW_eq] at hp; omega
    obtain ⟨j, z, h1, h2, h3⟩ := (pwk_pos 4).mp this
    have := hn j h1
    unfold lds lde at this
    rw [h2] at this
    simp at this
    omega
  · obtain ⟨h1, h2⟩ := bstk_lt 4 b e
    obtain ⟨z, h3, h4⟩ := lds_some h2
    exact ⟨b, z, rfl, h1, h3, h4⟩
theorem pth_len {y : Sy} (hw : WF y) : ∀ (f : Nat) (x : St), okS y x → (pth y f x).length + lv y x ≤ 20
  | 0, x, hx => by have := lv_le hw x; unfold pth; simpa using this
  | f + 1, x, hx => by
    have := lv_le hw x
    unfold pth
    split
    · simpa using this
    · split
      · simpa using this
      · split
        · simpa using this
        · rename_i z e
          have h := nst_okS hw hx e
          have := pth_len hw f z h.1
          simp only [List.length_cons]
          omega
theorem nst_nx {y : Sy} {k : Nat} {x z : St} (h : nst y k x = some z) : nx y k x.1 = some (cl y x k) := by
  obtain ⟨c, h1, _, _⟩ := nst_some h
  unfold cl
  rw [h1]; rfl
theorem cl_lt {y : Sy} (hw : WF y) {k : Nat} {x z : St} (h : nst y k x = some z) : cl y x k < 20 := by
  have := (nx_some.mp (nst_nx h)).1
  have := hw.1
  omega
/-! small looks of the class at its stands -/
theorem X6_has {N s : Nat} (hN : N ≤ 6000) (hs : s < 6001) : F_X6_has (nI N) (nI s) = some (nI (if s < N then 1 else 0)) := by
  unfold F_X6_has
  rw [if_neg (nI_pos (by omega))]
  by_cases c : s < N
  · rw [if_neg (by rw [zd_le (by omega) (by omega)]; omega), if_neg (by rw [zl_6001, zd_le (by omega) (by omega)]; omega), if_pos c]; rfl
  · rw [if_pos (by rw [zd_le (by omega) (by omega)]; omega), if_neg c]; rfl
theorem X6_hasN {N : Int32} : F_X6_has N (-1) = some 0 := by
  unfold F_X6_has
  rw [if_pos (by decide)]
theorem X6_leadAt {N s k : Nat} (hN : N ≤ 6000) (hs : s < N) (hk : k < 4) {leads : Nat → Int32} : F_X6_leadAt (nI N) leads (nI s) (nI k) = some (leads (s * 4 + k)) := by
  unfold F_X6_leadAt
  rw [X6_has hN (by omega), z_b1, if_pos hs, if_neg n1_0, if_neg (nI_pos (by omega)), if_neg (by rw [zl_4, zd_le (by omega) (by omega)]; omega), zl_4, zq_mul, zq_add, if_neg (nI_in (by omega) (by omega)), zd_cl (by omega)]
theorem X6_callAt {y : Sy} (hw : WF y) {own ahd done : Nat → Int32} (hR : ROW y own ahd) {N s k D : Nat} (hN : N ≤ 6000) (hs : s < N) (hk : k < 4) (hd : done s = nI D) : F_X6_callAt (nI N) done own ahd (nI s) (nI k) = some (cn (nx y k D)) := by
  unfold F_X6_callAt
  rw [X6_has hN (by omega), z_b1, if_pos hs, if_neg n1_0, if_neg (nI_in (by omega) (by omega)), zd_cl (by omega), hd, X4_nextOf hw hR hk, z_b1]
theorem X6_doneAt {N s : Nat} (hN : N ≤ 6000) (hs : s < N) {done : Nat → Int32} : F_X6_doneAt (nI N) done (nI s) = some (done s) := by
  unfold F_X6_doneAt
  rw [X6_has hN (by omega), z_b1, if_pos hs, if_neg n1_0, if_neg (nI_in (by omega) (by omega)), zd_cl (by omega)]
theorem X6_leadsToEnd {y : Sy} {G : Gr} (hG : GO y G) {ways : Nat → Int64} {e : St → Bool} (hv : ∀ i, i < G.1 → ways i = lN (PW y e (G.2 i))) {s k : Nat} (hs : s < G.1) (hk : k < 4) :
    F_X6_leadsToEnd (nI G.1) ways (cd G (nst y k (G.2 s))) = some (nI (if lde y e (G.2 s) k = true then 1 else 0)) := by
  have h6 := hG.2.1
  unfold F_X6_leadsToEnd lde
  rcases e1 : nst y k (G.2 s) with _ | z
  · have hc : cd G none = -1 := rfl
    rw [hc, X6_hasN, z_b1, if_pos rfl]; rfl
  · have hc : cd G (some z) = nI (fnd G z) := rfl
    obtain ⟨f1, f2⟩ := hG.2.2.2.2.2.1 s k z hs hk e1
    have hw := hv _ f1
    rw [fnd_lt f1] at hw
    have hle := PW_le (y := y) (e := e) (x := z)
    rw [MW_eq] at hle
    rw [hc, X6_has h6 (by omega), z_b1, if_pos f1, if_neg n1_0, if_neg (nI_in (by omega) (by omega)), zd_cl (by omega), hw, zL_0]
    have q := zc_le0 (a := PW y e z) (b := 0) (by omega) (by omega)
    by_cases g : 0 < PW y e z
    · rw [if_neg (by rw [q]; omega)]; simp only [g, decide_true, ↓reduceIte]; rfl
    · rw [if_pos (by rw [q]; omega)]; simp only [g, decide_false, Bool.false_eq_true, ↓reduceIte]; rfl
