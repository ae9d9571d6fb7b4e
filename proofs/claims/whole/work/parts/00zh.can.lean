/-! can, orders, each: class and reference -/
theorem X10_atMost {a : Nat} (h : a < 9000000000000000000) : F_X10_atMost (lN a) = some (lN (min MW a)) := by
  unfold F_X10_atMost
  rw [zL_1000000000000000000, MW_eq]
  have q := zc_le0 (a := a) (b := 1000000000000000000) (by omega) (by omega)
  by_cases g : a ≤ 1000000000000000000
  · rw [if_pos (by rw [q]; exact g), Nat.min_eq_right g]
  · rw [if_neg (by rw [q]; exact g), Nat.min_eq_left (by omega)]
theorem X10_cw28 {fu : Nat} {y : Sy} {G : Gr} (hG : GO y G) (k7 : (Nat → Int64) → Int32 → RW2) {ways : Nat → Int64} {doneOf long row' w next : Nat → Int32} {f : St → Nat} {s : Nat} (hs : s < G.1) (hn : NX y G next)
    (hf : ∀ z, f z ≤ MW) (hv : ∀ i, s < i → i < G.1 → ways i = lN (f (G.2 i))) : ∀ (j kf k acc : Nat), j < kf → k + j = 4 → acc ≤ MW →
    F_X10_countOrders_b28 k7 fu ways doneOf long row' w next (nI s) kf (lN acc) (nI k) = k7 (vp_updL ways s (lN (min MW (acc + sumv y f (G.2 s) j k)))) (nI s - nI 1)
  | 0, kf, k, acc, hj, hk, ha => by
    obtain ⟨g, rfl⟩ : ∃ g, kf = g + 1 := ⟨kf - 1, by omega⟩
    have : k = 4 := by omega
    subst this
    have h6 := hG.2.1
    rw [F_X10_countOrders_b28, if_pos (by decide), if_neg (nI_in (by omega) (by omega)), zd_cl (by omega), zpm]
    unfold sumv
    rw [Nat.add_zero, Nat.min_eq_right ha]
  | j + 1, kf, k, acc, hj, hk, ha => by
    obtain ⟨g, rfl⟩ : ∃ g, kf = g + 1 := ⟨kf - 1, by omega⟩
    have h6 := hG.2.1
    have hM := MW_eq
    have ih := fun acc ha => X10_cw28 (fu := fu) hG k7 (doneOf := doneOf) (long := long) (row' := row') (w := w) hs hn hf hv j g (k + 1) acc (by omega) (by omega) ha
    have i4 : (4 : Int32) * nI s + nI k = nI (4 * s + k) := by rw [zl_4, zq_mul, zq_add]
    have i1 : nI k + (1 : Int32) = nI (k + 1) := by rw [zl_1, zq_add]
    rw [F_X10_countOrders_b28, if_neg (by rw [zl_4, zd_le (by omega) (by omega)]; omega)]
    unfold F_X10_countOrders_b64
    rw [i4, i1, if_neg (nI_in (by omega) (by omega)), zd_cl (by omega), hn s k hs (by omega)]
    rcases e : nst y k (G.2 s) with _ | z
    · have hc : cd G none = -1 := rfl
      rw [hc, if_neg (show ¬ (0 : Int32) ≤ -1 by decide)]
      have hvl : vl y f (G.2 s) k = 0 := by unfold vl; rw [e]
      rw [show lN acc + (0 : Int64) = lN acc by rw [zL_0, zL_add]; rfl, X10_atMost (by omega), z_b1, Nat.min_eq_right ha, ih acc ha]
      congr 4
      show _ = acc + (vl y f (G.2 s) k + sumv y f (G.2 s) j (k + 1))
      omega
    · have hc : cd G (some z) = nI (fnd G z) := rfl
      obtain ⟨f1, f2⟩ := hG.2.2.2.2.2.1 s k z hs (by omega) e
      have hw := hv _ f2 f1
      rw [fnd_lt f1] at hw
      have hz := hf z
      rw [hc, if_pos (nI_pos' (by omega)), if_neg (nI_in (by omega) (by omega)), zd_cl (by omega), hw, zL_add, X10_atMost (by omega), z_b1]
      have hvl : vl y f (G.2 s) k = f z := by unfold vl; rw [e]
      rw [ih (min MW (acc + f z)) (Nat.min_le_left _ _)]
      congr 3
      show min MW (min MW (acc + f z) + sumv y f (G.2 s) j (k + 1)) = min MW (acc + (vl y f (G.2 s) k + sumv y f (G.2 s) j (k + 1)))
      omega
theorem X10_cw7 {fu : Nat} (hfu : 20000 ≤ fu) {y : Sy} (hw : WF y) {G : Gr} (hG : GO y G) {loose minutes byKind : Int32} {long w row' doneOf next : Nat → Int32} {tills : Nat → Int64} (hE : RE y w loose minutes byKind) (hRw : rows_ok y long row') (hR : RR y G doneOf tills) (hn : NX y G next) :
    ∀ (n kf : Nat) (ways : Nat → Int64), n < kf → n ≤ G.1 → (∀ i, n ≤ i → i < G.1 → ways i = lN (PW y (whole y) (G.2 i))) →
    ∃ ways', F_X10_countOrders_b7 fu doneOf long row' w next kf ways (nI n - nI 1) = some (ways' 0, ways') ∧ ∀ i, i < G.1 → ways' i = lN (PW y (whole y) (G.2 i))
  | 0, kf, ways, hkf, hle, hl => by
    obtain ⟨g, rfl⟩ : ∃ g, kf = g + 1 := ⟨kf - 1, by omega⟩
    refine ⟨ways, ?_, fun i hi => hl i (Nat.zero_le _) hi⟩
    rw [F_X10_countOrders_b7, if_pos (by decide)]
    rfl
  | n + 1, kf, ways, hkf, hle, hl => by
    obtain ⟨g, rfl⟩ : ∃ g, kf = g + 1 := ⟨kf - 1, by omega⟩
    have h6 := hG.2.1
    have e1 : nI (n + 1) - nI 1 = nI n := by rw [zq_sub (by omega)]; rfl
    have hwh := X10_isWhole hfu hw hE hRw (hG.2.2.2.2.1 n (by omega)) (hR n (by omega)).1 (by omega : n ≤ 6000)
    have h28 := fun acc ha => X10_cw28 (fu := fu) hG (F_X10_countOrders_b7 fu doneOf long row' w next g) (ways := ways) (doneOf := doneOf) (long := long) (row' := row') (w := w) (f := PW y (whole y)) (s := n) (by omega) hn (fun z => PW_le) (fun i h1 h2 => hl i h1 h2) 4 fu 0 acc (by omega) (by omega) ha
    have hpw := PW_eq hw (whole y) (hG.2.2.2.2.1 n (by omega))
    have fin : ∀ acc, acc = (if whole y (G.2 n) = true then 1 else 0) → ∃ ways', F_X10_countOrders_b7 fu doneOf long row' w next g (vp_updL ways n (lN (min MW (acc + sumv y (PW y (whole y)) (G.2 n) 4 0)))) (nI n - nI 1) = some (ways' 0, ways') ∧ ∀ i, i < G.1 → ways' i = lN (PW y (whole y) (G.2 i)) := by
      intro acc ha
      refine X10_cw7 hfu hw hG hE hRw hR hn n g _ (by omega) (by omega) (fun i h1 h2 => ?_)
      rw [z_updL]
      by_cases c : i = n
      · rw [if_pos c, c, hpw, sumv_pwk, ha]
      · rw [if_neg c]; exact hl i (by omega) h2
    rw [e1, F_X10_countOrders_b7, if_neg (nI_pos (by omega)), hwh, z_b1]
    unfold F_X10_countOrders_b24
    by_cases c : whole y (G.2 n) = true
    · rw [if_pos c, if_neg (show ¬ (nI 1 : Int32) = 0 by decide), zl_0, zL_1, h28 1 (by rw [MW_eq]; omega)]
      exact fin 1 (by rw [if_pos c])
    · rw [if_neg c, if_pos (show (nI 0 : Int32) = 0 by decide), zl_0, zL_0, h28 0 (by omega)]
      exact fin 0 (by rw [if_neg c])
theorem X10_countOrders {fu : Nat} (hfu : 20000 ≤ fu) {y : Sy} (hw : WF y) (hf : full y = false) {loose minutes byKind : Int32} {long w row' slot doneOf next heard leads : Nat → Int32} {tills ways : Nat → Int64} {n : Int32} (hE : RE y w loose minutes byKind) (h : FG y n long row' slot doneOf tills next heard leads) :
    ∃ ways', F_X10_countOrders fu n ways doneOf long row' w next = some (lN (PW y (whole y) (ini y)), ways') := by
  have hG := GO_gr hw hf
  have h6 := hG.2.1
  obtain ⟨h1, h2, h3, h4, _, _⟩ := h
  obtain ⟨ways', e1, e2⟩ := X10_cw7 hfu hw hG hE h2 h3 h4 (gr y).1 fu ways (by omega) (Nat.le_refl _) (fun i a b => by omega)
  refine ⟨ways', ?_⟩
  unfold F_X10_countOrders
  have := e2 0 hG.1
  rw [hG.2.2.2.1] at this
  rw [h1, zl_1, e1, this]
theorem X10_product {a b : Nat} (ha : a ≤ MW) (hb : b ≤ MW) : F_X10_product (lN a) (lN b) = some (lN (prd a b)) := by
  rw [MW_eq] at ha hb
  unfold F_X10_product prd
  have h0 : lg_cmp (lN a) (0 : Int64) = 0 ↔ a = 0 := by rw [zL_0]; exact Iff.of_eq (zc_eq0 (by omega) (by omega))
  have h1 : lg_cmp (lN b) (0 : Int64) = 0 ↔ b = 0 := by rw [zL_0]; exact Iff.of_eq (zc_eq0 (by omega) (by omega))
  by_cases a0 : a = 0
  · rw [if_pos (h0.mpr a0), if_pos (Or.inl a0)]; rfl
  rw [if_neg (fun h => a0 (h0.mp h))]
  by_cases b0 : b = 0
  · rw [if_pos (h1.mpr b0), if_pos (Or.inr b0)]; rfl
  rw [if_neg (fun h => b0 (h1.mp h)), if_neg (show ¬ (a = 0 ∨ b = 0) by omega)]
  have hp : 0 < b := by omega
  have hd : lN 1000000000000000000 / lN b = lN (1000000000000000000 / b) := zL_div (by omega) (by omega) hp
  have hlt : 1000000000000000000 / b < 9223372036854775808 := Nat.lt_of_le_of_lt (Nat.div_le_self _ _) (by omega)
  have h3 : ¬ lN b = 0 := by rw [zL_0, zL_eq (by omega) (by omega)]; omega
  rw [if_neg h3, zL_1000000000000000000, hd]
  have hq := prd_div (a := a) hp
  rw [MW_eq] at hq
  by_cases c : a ≤ 1000000000000000000 / b
  · have hm := hq.mp c
    rw [if_pos (by rw [zc_le0 (by omega) hlt]; exact c), zL_mul, X10_atMost (by omega)]; rfl
  · have : ¬ a * b ≤ 1000000000000000000 := fun h => c (hq.mpr h)
    rw [if_neg (by rw [zc_le0 (by omega) hlt]; exact c), MW_eq, Nat.min_eq_left (by omega)]
/-- a kind within bounds, with a book -/
def kin (told : Bool) (v : Int32) (most : Nat) : Option Nat := if told = true ∧ 0 ≤ v ∧ v ≤ nI most then some v.toNatClampNeg else none
theorem kin_some {told : Bool} {v : Int32} {most k : Nat} (hm : most < 10) (h : kin told v most = some k) : told = true ∧ v = nI k ∧ k ≤ most := by
  unfold kin at h
  split at h
  · rename_i c
    injection h with h
    obtain ⟨j, hj, rfl⟩ := nI_of (x := v) (by intro g; rw [Int32.lt_iff_toInt_lt] at g; have := c.2.1; rw [Int32.le_iff_toInt_le] at this; omega)
    rw [zd_cl hj] at h
    subst h
    have h2 := c.2.2
    rw [zd_le hj (by omega)] at h2
    exact ⟨c.1, rfl, h2⟩
  · cases h
theorem nlt_le {v : Int32} : (¬ v < 0) ↔ 0 ≤ v := by rw [Int32.lt_iff_toInt_lt, Int32.le_iff_toInt_le]; omega
theorem nlt_le2 {v u : Int32} : (¬ u < v) ↔ v ≤ u := by rw [Int32.lt_iff_toInt_lt, Int32.le_iff_toInt_le]; omega
theorem kin_if {told : Bool} {v : Int32} {most : Nat} (c : told = true ∧ 0 ≤ v ∧ v ≤ nI most) : kin told v most = some v.toNatClampNeg := if_pos c
theorem kin_no {told : Bool} {v : Int32} {most : Nat} (c : ¬ (told = true ∧ 0 ≤ v ∧ v ≤ nI most)) : kin told v most = none := if_neg c
theorem ifn : (if (none : Option Nat) = none then (0 : Nat) else 1) = 0 := if_pos rfl
theorem ifs {q : Nat} : (if (some q : Option Nat) = none then (0 : Nat) else 1) = 1 := if_neg (by simp)
theorem n1_0 : ¬ (nI 1 : Int32) = 0 := by decide
theorem n0_0 : (nI 0 : Int32) = 0 := rfl
theorem X9_hasKind {told : Bool} {v : Int32} {most : Nat} : F_X9_hasKind (nI (if told = true then 1 else 0)) v (nI most) = some (nI (if kin told v most = none then 0 else 1)) := by
  unfold F_X9_hasKind
  rcases told
  · rw [kin_no (fun h => by cases h.1), ifn]
    rfl
  · rw [show (if (true = true) then (1 : Nat) else 0) = 1 from rfl, if_neg n1_0]
    by_cases c : v < 0
    · rw [if_pos c, kin_no (fun h => (nlt_le.mpr h.2.1) c)]; rfl
    · rw [if_neg c]
      by_cases d : nI most < v
      · rw [if_pos d, kin_no (fun h => (nlt_le2.mpr h.2.2) d)]; rfl
      · rw [if_neg d, kin_if ⟨rfl, nlt_le.mp c, nlt_le2.mp d⟩]; rfl
theorem X10_within {v a b : Int32} : F_X10_within v a b = some (nI (if a ≤ v ∧ v ≤ b then 1 else 0)) := by
  unfold F_X10_within
  by_cases c : v < a
  · rw [if_pos c, if_neg (fun h => (nlt_le2.mpr h.1) c)]; rfl
  · rw [if_neg c]
    by_cases d : b < v
    · rw [if_pos d, if_neg (fun h => (nlt_le2.mpr h.2) d)]; rfl
    · rw [if_neg d, if_pos ⟨nlt_le2.mp c, nlt_le2.mp d⟩]; rfl
theorem X10_isKind {told : Bool} {v : Int32} {most : Nat} : F_X10_isKind (nI (if told = true then 1 else 0)) v (nI most) = some (nI (if kin told v most = none then 0 else 1)) := by
  unfold F_X10_isKind
  rcases told
  · rw [kin_no (fun h => by cases h.1), ifn]
    rfl
  · rw [show (if (true = true) then (1 : Nat) else 0) = 1 from rfl, if_neg n1_0, X10_within, z_b1]
    by_cases c : 0 ≤ v ∧ v ≤ nI most
    · rw [if_pos c, if_neg n1_0, kin_if ⟨rfl, c⟩]; rfl
    · rw [if_neg c, if_pos n0_0, kin_no (fun h => c h.2)]; rfl
/-- the answer, then the trouble -/
def rs_can (K : Ca) (kd : Nat → Nat) (nt late : Nat) (told : Bool) (v : Int32) : Int32 × Int32 := match kin told v 3 with
  | none => (-1, nI 1)
  | some k => match ordn K kd nt late k with
    | none => (-1, nI 3)
    | some q => (nI (if 0 < q then 1 else 0), nI 0)
theorem X9_answered {v : Int32} (h1 : v ≠ -10) (h2 : v ≠ -11) : F_X9_answered v = some (v, nI 0) := by
  unfold F_X9_answered
  rw [if_neg h1, if_neg h2]; rfl
theorem X9_answered10 : F_X9_answered (-10) = some (-1, nI 3) := rfl
theorem X9_answered11 : F_X9_answered (-11) = some (-1, nI 6) := rfl
theorem nI_ne {n k : Nat} (h : n < 2147483648) (hk : k < 2147483648) (h0 : 0 < k) : nI n ≠ -nI k := by
  intro e
  rw [zm_eq h0 hk h] at e
  exact e
theorem X9_answeredN {n : Nat} (h : n < 2147483648) : F_X9_answered (nI n) = some (nI n, nI 0) := X9_answered (nI_ne h (k := 10) (by omega) (by omega)) (nI_ne h (k := 11) (by omega) (by omega))
theorem X9_can {fu : Nat} (hfu : 20000 ≤ fu) {K : Ca} {kd : Nat → Nat} {nt late : Nat} {n l : Int32} {f0 f1 f2 f3 f4 f5 f6 kinds : Nat → Int32} (h : CS K kd nt late n f0 f1 f2 f3 f4 f5 f6 kinds l) (told : Bool) (a1 sc : Nat) (v : Int32)
    {b : Nat} {r1 r2 r3 r4 cnt : Int32} {own ahd tab done tills leads : Nat → Int32} {ways : Nat → Int64} (hT : TB b tab) :
    ∃ r1' r2' r3' r4' own' ahd' sc' b' cnt' tab' done' tills' leads' ways', F_X9_can fu a1 sc (nI (if told = true then 1 else 0)) (nI nt) l n f5 r1 r2 r3 r4 own f0 f4 ahd (nI b) cnt tab done tills kinds f1 f2 f3 f6 leads ways v =
      some ((rs_can K kd nt late told v).1, (rs_can K kd nt late told v).2, r1', r2', r3', r4', own', ahd', sc', nI b', cnt', tab', done', tills', leads', ways') ∧ TB b' tab' := by
  unfold F_X9_can
  rw [zl_3, X9_hasKind, z_b1]
  rcases e : kin told v 3 with _ | k
  · have hrs : rs_can K kd nt late told v = (-1, nI 1) := by unfold rs_can; rw [e]
    rw [ifn, if_pos n0_0, hrs]
    exact ⟨r1, r2, r3, r4, own, ahd, sc, b, cnt, tab, done, tills, leads, ways, rfl, hT⟩
  · obtain ⟨_, rfl, hk⟩ := kin_some (by omega) e
    rw [ifs, if_neg n1_0]
    obtain ⟨r1', r2', r3', r4', own', ahd', sc', b', cnt', tab', done', tills', leads', ways', e2, h2⟩ := X1_countOrders (kind := k) (r1 := r1) (r2 := r2) (r3 := r3) (r4 := r4) (cnt := cnt) (own := own) (ahd := ahd) (done := done) (tills := tills) (leads := leads) (ways := ways) hfu h a1 sc (by omega) hT
    rw [e2, z_b15]
    unfold F_X9_can_b51
    refine ⟨r1', r2', r3', r4', own', ahd', sc', b', cnt', tab', done', tills', leads', ways', ?_, h2⟩
    have hle : ∀ q, ordn K kd nt late k = some q → q ≤ MW := fun q hq => ordn_le hq
    rcases e3 : ordn K kd nt late k with _ | q
    · have hrs : rs_can K kd nt late told (nI k) = (-1, nI 3) := by unfold rs_can; rw [e]; simp only [e3]
      rw [if_neg (by decide), X9_answered10, hrs]; rfl
    · have hq := hle q e3
      have hrs : rs_can K kd nt late told (nI k) = (nI (if 0 < q then 1 else 0), nI 0) := by unfold rs_can; rw [e]; simp only [e3]
      rw [if_pos ((o64_neg (fun q' hq' => by injection hq' with hq'; rw [← hq']; exact hq)).mpr (by simp)), hrs]
      rw [MW_eq] at hq
      have hc : (lg_cmp (o64 (some q)) (0 : Int64) ≤ 0) ↔ q = 0 := by
        show (lg_cmp (lN q) 0 ≤ 0) ↔ _
        rw [zL_0, zc_le0 (by omega) (by omega)]; omega
      by_cases g : q = 0
      · rw [if_pos (hc.mpr g), zl_0, X9_answeredN (by omega), z_b2, if_neg (by omega)]
      · rw [if_neg (fun h => g (hc.mp h)), zl_1, X9_answeredN (by omega), z_b2, if_pos (by omega)]
theorem X10_can {fu : Nat} (hfu : 20000 ≤ fu) {K : Ca} {kd : Nat → Nat} {nt late : Nat} {st w r : Nat → Int32} (hK : okC 4 nt kd K) (hnt : nt ≤ 3) (hkd : ∀ t, t < 3 → kd t < 5) (hl : late ≤ 99) (h : RK K (ce K) st) (hr : RLy kd nt late r) (told : Bool) (v : Int32)
    {ans th lo on mi bk sn isF cb : Int32} {long row' slot doneOf next heard leads : Nat → Int32} {tills : Nat → Int64} :
    ∃ ans' th' lo' on' mi' bk' sn' isF' cb' w' long' row2 slot' doneOf' tills' next' heard' leads', F_X10_can fu (nI (if told = true then 1 else 0)) ans th lo on mi bk sn isF cb st w r long row' slot doneOf tills next heard leads v =
      some ((rs_can K kd nt late told v).1, nI 0, (rs_can K kd nt late told v).2, ans', th', lo', on', mi', bk', sn', isF', cb', w', long', row2, slot', doneOf', tills', next', heard', leads') := by
  unfold F_X10_can F_X10_good
  rw [zl_3, X10_isKind, z_b2, z_b1]
  rcases e : kin told v 3 with _ | k
  · have hrs : rs_can K kd nt late told v = (-1, nI 1) := by unfold rs_can; rw [e]
    rw [ifn, if_pos n0_0, hrs]
    exact ⟨ans, th, lo, on, mi, bk, sn, isF, cb, w, long, row', slot, doneOf, tills, next, heard, leads, rfl⟩
  · obtain ⟨_, rfl, hk⟩ := kin_some (by omega) e
    rw [ifs, if_neg n1_0]
    obtain ⟨ans', th', lo', on', mi', bk', sn', isF', cb', w', long', row2, slot', doneOf', tills', next', heard', leads', e2, h2⟩ := X10_goes (kind := k) (w := w) (ans := ans) (bk := bk) (sn := sn) (isF := isF) (cb := cb) (long := long) (row' := row') (slot := slot) (doneOf := doneOf) (next := next) (heard := heard) (leads := leads) (tills := tills) hfu hK hnt hkd hl (by omega) h hr
    rw [e2, z_b19]
    refine ⟨ans', th', lo', on', mi', bk', sn', isF', cb', w', long', row2, slot', doneOf', tills', next', heard', leads', ?_⟩
    rcases e3 : ordn K kd nt late k with _ | q
    · have hrs : rs_can K kd nt late told (nI k) = (-1, nI 3) := by unfold rs_can; rw [e]; simp only [e3]
      rw [ifn, if_pos n0_0, hrs]; rfl
    · have hrs : rs_can K kd nt late told (nI k) = (nI (if 0 < q then 1 else 0), nI 0) := by unfold rs_can; rw [e]; simp only [e3]
      rw [ifs, if_neg n1_0, hrs]
      rcases (h2 q e3).1 with ⟨c, d⟩ | ⟨c, d⟩
      · rw [c, if_neg n1_0, if_pos d]; rfl
      · rw [c, if_pos n0_0, if_neg d]; rfl
