/-! mends: which call's end, were it later, would mend it -/
def Ym (K : Ca) (kd : Nat → Nat) (nt late c0 : Nat) : Sy := sysK K kd nt (alb K) (enb K) (enb K) (colb K c0) (gapk 0 late)
theorem okI_m (K : Ca) (c0 : Nat) : okI K (alb K) (enb K) (colb K c0) := by
  refine ⟨fun a ha => ?_, (okI_k K).2⟩
  unfold colb at ha
  exact (okI_k K).1 a (Bool.and_eq_true _ _ |>.mp ha).1
def mdl (K : Ca) (kd : Nat → Nat) (nt late : Nat) : Nat → Nat → Nat → Option Nat
  | 0, _, acc => some acc
  | f + 1, i, acc => if ce K i = -2 then mdl K kd nt late f (i + 1) acc else if full (Ym K kd nt late i) = true then none else mdl K kd nt late f (i + 1) (acc ||| (if PW (Ym K kd nt late i) (whole (Ym K kd nt late i)) (ini (Ym K kd nt late i)) = 0 then 0 else 2 ^ i))
theorem mdl_lt {K : Ca} {kd : Nat → Nat} {nt late : Nat} : ∀ (f i acc q : Nat), i + f ≤ 20 → acc < 2 ^ 20 → mdl K kd nt late f i acc = some q → q < 2 ^ 20
  | 0, i, acc, q, hi, ha, h => by
    unfold mdl at h
    injection h with h
    omega
  | f + 1, i, acc, q, hi, ha, h => by
    unfold mdl at h
    split at h
    · exact mdl_lt f (i + 1) acc q (by omega) ha h
    · split at h
      · cases h
      · refine mdl_lt f (i + 1) _ q (by omega) (Nat.or_lt_two_pow ha ?_) h
        split
        · omega
        · exact Nat.pow_lt_pow_right (by omega) (by omega)
def rs_mends (K : Ca) (kd : Nat → Nat) (nt late : Nat) (told : Bool) : Int32 × Int32 := if told = true then (match pwk' K kd nt late 0 with
  | none => (-1, nI 3)
  | some q => if q = 0 then (match mdl K kd nt late (cm K) 0 0 with
    | none => (-1, nI 3)
    | some acc => (nI acc, nI 0)) else (-1, nI 5)) else (-1, nI 1)
def mdr (o : Option Nat) : Int32 := match o with
  | none => -10
  | some q => nI q
theorem lc_le {p : Nat} (h : p ≤ MW) : (lg_cmp (lN p) 0 ≤ (0 : Int32) ↔ p = 0) ∧ (lg_cmp (lN p) 0 = (0 : Int32) ↔ p = 0) := by
  rw [MW_eq] at h
  rcases Nat.eq_zero_or_pos p with rfl | g
  · have : lg_cmp (lN 0) 0 = 0 := zc_eq (a := 0)
    rw [this]
    exact ⟨⟨fun _ => rfl, fun _ => by decide⟩, ⟨fun _ => rfl, fun _ => rfl⟩⟩
  · have : lg_cmp (lN p) 0 = 1 := zc_gt (b := 0) (by omega) (by omega) g
    rw [this]
    exact ⟨⟨fun h => absurd h (by decide), fun h => absurd h (by omega)⟩, ⟨fun h => absurd h (by decide), fun h => absurd h (by omega)⟩⟩
theorem X1_fm4 {fu : Nat} (hfu : 20000 ≤ fu) {K : Ca} {kd : Nat → Nat} {nt late : Nat} {n l : Int32} {f0 f1 f2 f3 f4 f5 f6 kinds : Nat → Int32} (h : CS K kd nt late n f0 f1 f2 f3 f4 f5 f6 kinds l) (a1 : Nat) :
    ∀ (f kf i acc sc b : Nat) (r1 r2 r3 r4 cnt : Int32) (own ahd tab done tills leads : Nat → Int32) (ways : Nat → Int64), f < kf → i + f = cm K → acc < 2 ^ 20 → TB b tab →
    ∃ r1' r2' r3' r4' own' ahd' sc' b' cnt' tab' done' tills' leads' ways', F_X1_findMends_b4 fu a1 n f5 l f0 f4 kinds f1 f2 f3 f6 kf sc r1 r2 r3 r4 own ahd (nI b) cnt tab done tills leads ways (nI acc) (nI i) =
      some (mdr (mdl K kd nt late f i acc), r1', r2', r3', r4', own', ahd', sc', nI b', cnt', tab', done', tills', leads', ways') ∧ TB b' tab'
  | 0, kf, i, acc, sc, b, r1, r2, r3, r4, cnt, own, ahd, tab, done, tills, leads, ways, hf, hi, ha, hT => by
    obtain ⟨g, rfl⟩ : ∃ g, kf = g + 1 := ⟨kf - 1, by omega⟩
    have hm := h.2.1.1
    rw [F_X1_findMends_b4, if_pos (by rw [h.1.1, zd_le (by omega) (by omega)]; omega)]
    exact ⟨_, _, _, _, _, _, _, _, _, _, _, _, _, _, rfl, hT⟩
  | f + 1, kf, i, acc, sc, b, r1, r2, r3, r4, cnt, own, ahd, tab, done, tills, leads, ways, hf, hi, ha, hT => by
    obtain ⟨g, rfl⟩ : ∃ g, kf = g + 1 := ⟨kf - 1, by omega⟩
    have hm := h.2.1.1
    have hi' : i < cm K := by omega
    obtain ⟨g1, g2, g3⟩ := gap_k (kind := 0) (by omega) h.2.2.2.2.2.2
    have i1 : nI i + (1 : Int32) = nI (i + 1) := by rw [zl_1, zq_add]
    have ih := fun acc sc b r1 r2 r3 r4 cnt own ahd tab done tills leads ways ha hT => X1_fm4 hfu h a1 f g (i + 1) acc sc b r1 r2 r3 r4 cnt own ahd tab done tills leads ways (by omega) (by omega) ha hT
    rw [F_X1_findMends_b4, if_neg (by rw [h.1.1, zd_le (by omega) (by omega)]; omega), X0_isOpen (by omega), z_b1, (h.1.2 i hi').2.2.2.2.2.1]
    unfold F_X1_findMends_b88 F_X1_findMends_b90
    rw [i1]
    have hmd : mdl K kd nt late (f + 1) i acc = (if ce K i = -2 then mdl K kd nt late f (i + 1) acc else if full (Ym K kd nt late i) = true then none else mdl K kd nt late f (i + 1) (acc ||| (if PW (Ym K kd nt late i) (whole (Ym K kd nt late i)) (ini (Ym K kd nt late i)) = 0 then 0 else 2 ^ i))) := by
      conv => lhs; unfold mdl
    rw [hmd]
    by_cases c : ce K i = -2
    · rw [if_pos c, if_neg n1_0, if_pos c]
      exact ih _ _ _ _ _ _ _ _ _ _ _ _ _ _ _ ha hT
    · have g1' : F_X4_gapOf (0 : Int32) l = some (nI (gapk 0 late)) := by rw [h.2.2.2.2.2.1]; exact g1
      have htk := takeAll hfu h
      obtain ⟨own', ahd', b', cnt', tab', done', tills', leads', ways', e1, hT'⟩ := X1_countWays (str := enb K) (gap := nI (gapk 0 late)) (own := own) (ahd := ahd) (done := done) (tills := tills) (leads := leads) (ways := ways) hfu h g3 (okI_m K i) hT
      rw [g2] at e1
      have hY : sysK K kd nt (alb K) (enb K) (enb K) (colb K i) (gapk 0 late : Nat) = Ym K kd nt late i := rfl
      rw [hY] at e1
      rw [if_neg c, if_pos n0_0, htk, z_b4, g1', z_b1, msk_col hm (by omega), e1, z_b10, if_neg c]
      by_cases cf : full (Ym K kd nt late i) = true
      · rw [if_pos cf, if_pos cf, if_neg (by decide)]
        exact ⟨_, _, _, _, _, _, _, _, _, _, _, _, _, _, rfl, hT'⟩
      · have hle := PW_le (y := Ym K kd nt late i) (e := whole (Ym K kd nt late i)) (x := ini (Ym K kd nt late i))
        rw [if_neg cf, if_neg cf, if_pos (lc_pos hle).2]
        by_cases cp : PW (Ym K kd nt late i) (whole (Ym K kd nt late i)) (ini (Ym K kd nt late i)) = 0
        · rw [if_pos ((lc_le hle).1.mpr cp), if_pos cp, zl_0, zq_or]
          exact ih _ _ _ _ _ _ _ _ _ _ _ _ _ _ _ (Nat.or_lt_two_pow ha (by omega)) hT'
        · have e4 : (1 : Int32) <<< (nI i &&& 31) = nI (2 ^ i) := zs_one (by omega)
          rw [if_neg (fun h => cp ((lc_le hle).1.mp h)), if_neg cp, e4, zq_or]
          exact ih _ _ _ _ _ _ _ _ _ _ _ _ _ _ _ (Nat.or_lt_two_pow ha (Nat.pow_lt_pow_right (by omega) (by omega))) hT'
theorem X9_mends {fu : Nat} (hfu : 20000 ≤ fu) {K : Ca} {kd : Nat → Nat} {nt late : Nat} {n l : Int32} {f0 f1 f2 f3 f4 f5 f6 kinds : Nat → Int32} (h : CS K kd nt late n f0 f1 f2 f3 f4 f5 f6 kinds l) (told : Bool) (a1 sc : Nat)
    {b : Nat} {r1 r2 r3 r4 cnt : Int32} {own ahd tab done tills leads : Nat → Int32} {ways : Nat → Int64} (hT : TB b tab) :
    ∃ r1' r2' r3' r4' own' ahd' sc' b' cnt' tab' done' tills' leads' ways', F_X9_mends fu a1 sc (nI (if told = true then 1 else 0)) (nI nt) l n f5 r1 r2 r3 r4 own f0 f4 ahd (nI b) cnt tab done tills kinds f1 f2 f3 f6 leads ways =
      some ((rs_mends K kd nt late told).1, (rs_mends K kd nt late told).2, r1', r2', r3', r4', own', ahd', sc', nI b', cnt', tab', done', tills', leads', ways') ∧ TB b' tab' := by
  have hm := h.2.1.1
  unfold F_X9_mends
  rcases told
  · have hrs : rs_mends K kd nt late false = (-1, nI 1) := rfl
    rw [if_pos (show nI (if false = true then 1 else 0) = 0 from rfl), hrs]
    exact ⟨r1, r2, r3, r4, own, ahd, sc, b, cnt, tab, done, tills, leads, ways, rfl, hT⟩
  · rw [if_neg (show ¬ nI (if true = true then 1 else 0) = 0 by decide)]
    obtain ⟨r1', r2', r3', r4', own', ahd', sc', b', cnt', tab', done', tills', leads', ways', e2, h2⟩ := X1_countOrders (kind := 0) (r1 := r1) (r2 := r2) (r3 := r3) (r4 := r4) (cnt := cnt) (own := own) (ahd := ahd) (done := done) (tills := tills) (leads := leads) (ways := ways) hfu h a1 sc (by omega) hT
    have e2' : F_X1_countOrders fu a1 sc n f5 r1 r2 r3 r4 (nI nt) l own f0 f4 ahd (nI b) cnt tab done tills kinds f1 f2 f3 f6 leads ways 0 = _ := e2
    have ho : ordn K kd nt late 0 = pwk' K kd nt late 0 := by unfold ordn; rw [if_neg (by omega)]
    rw [e2', z_b15, ho]
    rcases e3 : pwk' K kd nt late 0 with _ | q
    · have hrs : rs_mends K kd nt late true = (-1, nI 3) := by unfold rs_mends; rw [if_pos rfl, e3]
      have ho : o64 none = -10 := rfl
      rw [ho, if_neg (by decide), if_neg (by decide), hrs]
      exact ⟨r1', r2', r3', r4', own', ahd', sc', b', cnt', tab', done', tills', leads', ways', rfl, h2⟩
    · have hle : q ≤ MW := by
        have := ordn_le (K := K) (kd := kd) (nt := nt) (late := late) (kind := 0) (q := q) (by rw [ho]; exact e3)
        exact this
      have ho : o64 (some q) = lN q := rfl
      rw [ho]
      by_cases cq : q = 0
      · rw [if_pos ((lc_le hle).2.mpr cq)]
        obtain ⟨r1'', r2'', r3'', r4'', own'', ahd'', sc'', b'', cnt'', tab'', done'', tills'', leads'', ways'', e4, hT'⟩ := X1_fm4 hfu h a1 (cm K) fu 0 0 sc' b' r1' r2' r3' r4' cnt' own' ahd' tab' done' tills' leads' ways' (by omega) (by omega) (by omega) h2
        unfold F_X1_findMends
        have e4' : F_X1_findMends_b4 fu a1 n f5 l f0 f4 kinds f1 f2 f3 f6 fu sc' r1' r2' r3' r4' own' ahd' (nI b') cnt' tab' done' tills' leads' ways' 0 0 = _ := e4
        rw [e4', z_b15]
        rcases e5 : mdl K kd nt late (cm K) 0 0 with _ | a
        · have hrs : rs_mends K kd nt late true = (-1, nI 3) := by unfold rs_mends; rw [if_pos rfl, e3]; simp only [cq, e5, ↓reduceIte]
          have hr : mdr none = -10 := rfl
          rw [hr, X9_answered10, hrs]
          exact ⟨_, _, _, _, _, _, _, _, _, _, _, _, _, _, rfl, hT'⟩
        · have hrs : rs_mends K kd nt late true = (nI a, nI 0) := by unfold rs_mends; rw [if_pos rfl, e3]; simp only [cq, e5, ↓reduceIte]
          have hr : mdr (some a) = nI a := rfl
          have hlt := mdl_lt (cm K) 0 0 a (by omega) (by omega) e5
          rw [hr, X9_answeredN (by omega), hrs]
          exact ⟨_, _, _, _, _, _, _, _, _, _, _, _, _, _, rfl, hT'⟩
      · have hrs : rs_mends K kd nt late true = (-1, nI 5) := by unfold rs_mends; rw [if_pos rfl, e3]; simp only [cq, ↓reduceIte]
        rw [if_neg (fun h => cq ((lc_le hle).2.mp h)), if_pos (lc_pos hle).2, hrs]
        exact ⟨r1', r2', r3', r4', own', ahd', sc', b', cnt', tab', done', tills', leads', ways', rfl, h2⟩
