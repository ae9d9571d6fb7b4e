/-! the reference's core -/
theorem RE_s {K : Ca} {kd : Nat → Nat} {nt late k S L : Nat} {w : Nat → Int32} (hK : okC 4 nt kd K) (h : RK K (ce K) w) (hl : late ≤ 99) (hk : k < 4) (hL : L < 2 ^ 20) (hS : ∀ c, c < cm K → S.testBit c = (enb K c && !L.testBit c)) : RE (Ys K kd nt late k S) w (nI L) (nI late) (nI k) := by
  refine RK_RE hK h hl hL hk (fun c hc => okC_e hK hc) (fun c hc => ?_) (fun c hc hi => ?_) (fun a c ha hc _ _ => gapped_k (kd := kd) hK ha hc ?_)
  · unfold enb alb; rfl
  · show S.testBit c = _
    rw [hS c hc]
    unfold enb; simp [hc]
  · unfold enb; simp [ha]
theorem MS_Ys {K : Ca} {kd : Nat → Nat} {nt late : Nat} {st r : Nat → Int32} (h : MS K kd nt late st r) (k S : Nat) : WF (Ys K kd nt late k S) :=
  WF_sysK h.1 h.2.1 h.2.2.1 (Int.natCast_nonneg _) (fun a ha => ⟨((okI_k K).1 a ha).1, ((okI_k K).1 a ha).2.1⟩) (fun a ha => ((okI_k K).2 a ha).2)
theorem X10_ec4 {K : Ca} {st : Nat → Int32} (hst : RK K (ce K) st) (hm : cm K ≤ 20) : ∀ (f kf i : Nat), f < kf → i + f = cm K → F_X10_endedCalls_b4 st kf (nI (msk (enb K) i)) (nI i) = some (nI (Es K))
  | 0, kf, i, hf, hi => by
    obtain ⟨g, rfl⟩ : ∃ g, kf = g + 1 := ⟨kf - 1, by omega⟩
    have h1 : st (141 : Int32).toNatClampNeg = nI (cm K) := hst.1
    have : i = cm K := by omega
    subst this
    rw [F_X10_endedCalls_b4, h1, if_pos (by rw [zd_le (by omega) (by omega)]; omega)]
    rfl
  | f + 1, kf, i, hf, hi => by
    obtain ⟨g, rfl⟩ : ∃ g, kf = g + 1 := ⟨kf - 1, by omega⟩
    have h1 : st (141 : Int32).toNatClampNeg = nI (cm K) := hst.1
    have hi' : i < cm K := by omega
    have i7 : (7 : Int32) * nI i + 5 = nI (7 * i + 5) := by rw [zl_7, zl_5, zq_mul, zq_add]
    have i1 : nI i + (1 : Int32) = nI (i + 1) := by rw [zl_1, zq_add]
    have ih := X10_ec4 hst hm f g (i + 1) (by omega) (by omega)
    rw [F_X10_endedCalls_b4, h1, if_neg (by rw [zd_le (by omega) (by omega)]; omega), i7, if_neg (nI_in (by omega) (by omega)), zd_cl (by omega), (hst.2 i hi').2.2.2.2.2.1]
    unfold F_X10_endedCalls_b40
    rw [i1]
    by_cases c : ce K i = -2
    · have he : enb K i = false := by
        rcases e : enb K i with _ | _
        · rfl
        · exact absurd c ((enb_iff hi').mp e)
      have e1 : msk (enb K) i = msk (enb K) (i + 1) := msk_eq (fun c => by
        rw [msk_bit]
        by_cases d : c = i
        · subst d; rw [he]; simp
        · have : (c < i) = (c < i + 1) := by apply propext; omega
          simp only [this])
      have e2 : nI (msk (enb K) i) ||| (0 : Int32) = nI (msk (enb K) (i + 1)) := by rw [← e1]; exact Int32.or_zero
      rw [if_pos c, e2]
      exact ih
    · have he := (enb_iff hi').mpr c
      have e1 : msk (enb K) i ||| 2 ^ i = msk (enb K) (i + 1) := msk_eq (fun c => by
        rw [Nat.testBit_or, msk_bit, Nat.testBit_two_pow]
        by_cases d : c = i
        · subst d; rw [he]; simp
        · have : (c < i) = (c < i + 1) := by apply propext; omega
          have h2 : ¬ i = c := fun h => d h.symm
          simp only [this, h2, decide_false, Bool.or_false])
      have e4 : (1 : Int32) <<< (nI i &&& 31) = nI (2 ^ i) := zs_one (by omega)
      rw [if_neg c, e4, zq_or, e1]
      exact ih
theorem X10_endedCalls {fu : Nat} (hfu : 20000 ≤ fu) {K : Ca} {st : Nat → Int32} (hst : RK K (ce K) st) (hm : cm K ≤ 20) : F_X10_endedCalls fu st = some (nI (Es K)) :=
  X10_ec4 hst hm (cm K) fu 0 (by omega) (by omega)
theorem X10_co116 {fu : Nat} (hfu : 20000 ≤ fu) {K : Ca} {kd : Nat → Nat} {nt late : Nat} {st r : Nat → Int32} (hM : MS K kd nt late st r) (hm : cm K ≤ 12) {k : Nat} (hk : k ≤ 2) (hf0 : full (Ys K kd nt late k 0) = false) {w : Nat → Int32} (hw : RK K (ce K) w) {sz : Nat} (hsz : 1 ≤ sz) (hsz2 : sz ≤ 20)
    {k107 : Int32 → Int32 → Int32 → Int32 → Int32 → (Nat → Int32) → (Nat → Int32) → (Nat → Int32) → (Nat → Int32) → (Nat → Int64) → (Nat → Int32) → (Nat → Int32) → (Nat → Int32) → Int32 → Option (Int32 × Int32 × Int32 × Int32 × Int32 × Int32 × Int32 × Int32 × Int32 × Int32 × Int32 × (Nat → Int32) × (Nat → Int32) × (Nat → Int32) × (Nat → Int32) × (Nat → Int32) × (Nat → Int64) × (Nat → Int32) × (Nat → Int32) × (Nat → Int32))} {a1 a2 : Int32} :
    ∀ (f kf v : Nat) (ans lo bk sn isF : Int32) (long row' slot doneOf : Nat → Int32) (tills : Nat → Int64) (next heard leads : Nat → Int32), f < kf → v + f = Es K + 1 → (∀ u, u < v → ¬ pco K kd nt late k sz u = true) →
    ∃ ans' lo' bk' sn' isF' long' row2 slot' doneOf' tills' next' heard' leads',
      (∃ u, u < 2 ^ 20 ∧ fco K kd nt late k sz = some u ∧ F_X10_core_b116 k107 fu a1 a2 (nI (msk (fun _ => true) (cm K))) (-1) (nI late) w r (nI k) (nI (Es K)) (nI sz) kf ans lo bk sn isF long row' slot doneOf tills next heard leads (nI v) =
        some (nI u, a1, a2, ans', nI (msk (fun _ => true) (cm K)), lo', -1, nI late, bk', sn', isF', w, long', row2, slot', doneOf', tills', next', heard', leads')) ∨
      (fco K kd nt late k sz = none ∧ F_X10_core_b116 k107 fu a1 a2 (nI (msk (fun _ => true) (cm K))) (-1) (nI late) w r (nI k) (nI (Es K)) (nI sz) kf ans lo bk sn isF long row' slot doneOf tills next heard leads (nI v) =
        k107 ans' lo' bk' sn' isF' long' row2 slot' doneOf' tills' next' heard' leads' (nI (sz + 1)))
  | 0, kf, v, ans, lo, bk, sn, isF, long, row', slot, doneOf, tills, next, heard, leads, hf, hv, hp => by
    obtain ⟨g, rfl⟩ : ∃ g, kf = g + 1 := ⟨kf - 1, by omega⟩
    have hE := (Es_lt K (by omega)).2
    refine ⟨ans, lo, bk, sn, isF, long, row', slot, doneOf, tills, next, heard, leads, Or.inr ⟨fco_none (fun u hu hq => ?_), ?_⟩⟩
    · have := cnd_lt (pco_iff.mp hq).1
      exact hp u (by omega) hq
    · rw [F_X10_core_b116, if_pos (by rw [zd_lt (by omega) (by omega)]; omega), zl_1, zq_add]
  | f + 1, kf, v, ans, lo, bk, sn, isF, long, row', slot, doneOf, tills, next, heard, leads, hf, hv, hp => by
    obtain ⟨g, rfl⟩ : ∃ g, kf = g + 1 := ⟨kf - 1, by omega⟩
    have hE := Es_lt K (by omega)
    have hv20 : v < 2 ^ 20 := by omega
    have i1 : nI v + (1 : Int32) = nI (v + 1) := by rw [zl_1, zq_add]
    have ih := fun ans lo bk sn isF long row' slot doneOf tills next heard leads hp => X10_co116 hfu hM hm hk hf0 hw hsz hsz2 (k107 := k107) (a1 := a1) (a2 := a2) f g (v + 1) ans lo bk sn isF long row' slot doneOf tills next heard leads (by omega) (by omega) hp
    have hnot : ¬ pco K kd nt late k sz v = true → ∀ u, u < v + 1 → ¬ pco K kd nt late k sz u = true := by
      intro h u hu
      by_cases d : u = v
      · rw [d]; exact h
      · exact hp u (by omega)
    rw [F_X10_core_b116, if_neg (by rw [zd_lt (by omega) (by omega)]; omega)]
    unfold F_X10_core_b177
    rw [i1]
    by_cases c2 : v &&& Es K = v
    · rw [if_pos ((sub_iff hv20).mpr c2), X10_bits hfu hv20, z_b1]
      have hct := fb_ct_le v.testBit 20
      by_cases c1 : fb_ct v.testBit 20 = sz
      · have hc : cnd K sz v = true := by unfold cnd; simp [c1, c2]
        obtain ⟨L, e1, e2, e3⟩ := zs_andn (O := msk (fun _ => true) (cm K)) (D := v) (msk_lt20 _ (by omega))
        have hS : ∀ c, c < cm K → v.testBit c = (enb K c && !L.testBit c) := by
          intro c hc'
          rw [e3, msk_bit]
          rcases e : v.testBit c with _ | _
          · simp [hc']
          · have := cnd_sub hc c e
            simp [hc', this]
        have hws := MS_Ys hM k v
        obtain ⟨ans', n', full', long', row2, slot', doneOf', tills', next', heard', leads', e4, h4⟩ := X10_comes (ans := ans) (long := long) (row' := row') (slot := slot) (doneOf := doneOf) (next := next) (heard := heard) (leads := leads) (tills := tills) hfu hws (RK_RW hw) (RI_a (by omega)) (RE_s hM.1 hw hM.2.2.2.1 (by omega : k < 4) e2 hS) (RL_kinds hM.2.2.2.2.2)
        have hf' := Ys_full (MS_Ys hM k 0) hws hf0
        have hb := FG_ini hws hf' (h4 hf')
        have h00 : leads' (0 : Int32).toNatClampNeg = leads' 0 := rfl
        rw [if_pos (by rw [c1]), e1, e4, z_b13, hf', if_neg (show ¬ (nI (if false = true then 0 else 1) = 0) by decide), h00]
        rcases hb with ⟨q1, q2⟩ | ⟨q1, q2⟩
        · rw [q1, if_neg n1_0]
          refine ih _ _ _ _ _ _ _ _ _ _ _ _ _ (hnot (fun h => ?_))
          exact (pco_iff.mp h).2 q2
        · rw [q1, if_pos n0_0]
          refine ⟨_, _, _, _, _, _, _, _, _, _, _, _, _, Or.inl ⟨v, hv20, fco_some (by omega) (pco_iff.mpr ⟨hc, q2⟩) hp, rfl⟩⟩
      · rw [if_neg (by rw [zd_eq (by omega) (by omega)]; exact c1)]
        refine ih _ _ _ _ _ _ _ _ _ _ _ _ _ (hnot (fun h => ?_))
        have h1 := (pco_iff.mp h).1
        unfold cnd at h1
        rw [Bool.and_eq_true, decide_eq_true_eq] at h1
        exact c1 h1.1
    · rw [if_neg (fun q => c2 ((sub_iff hv20).mp q))]
      refine ih _ _ _ _ _ _ _ _ _ _ _ _ _ (hnot (fun h => ?_))
      have h1 := (pco_iff.mp h).1
      unfold cnd at h1
      rw [Bool.and_eq_true, decide_eq_true_eq, decide_eq_true_eq] at h1
      exact c2 h1.2
theorem X10_co107 {fu : Nat} (hfu : 20000 ≤ fu) {K : Ca} {kd : Nat → Nat} {nt late : Nat} {st r : Nat → Int32} (hM : MS K kd nt late st r) (hm : cm K ≤ 12) {k : Nat} (hk : k ≤ 2) (hf0 : full (Ys K kd nt late k 0) = false) {w : Nat → Int32} (hw : RK K (ce K) w) {a1 : Int32} :
    ∀ (f kf sz : Nat) (ans lo bk sn isF : Int32) (long row' slot doneOf : Nat → Int32) (tills : Nat → Int64) (next heard leads : Nat → Int32), f < kf → sz + f = 4 → 1 ≤ sz →
    ∃ ans' lo' bk' sn' isF' long' row2 slot' doneOf' tills' next' heard' leads', F_X10_core_b107 fu a1 (nI 0) (nI (msk (fun _ => true) (cm K))) (-1) (nI late) w r (nI k) (nI (Es K)) kf ans lo bk sn isF long row' slot doneOf tills next heard leads (nI sz) =
      some ((corl K kd nt late k f sz).1, a1, (corl K kd nt late k f sz).2, ans', nI (msk (fun _ => true) (cm K)), lo', -1, nI late, bk', sn', isF', w, long', row2, slot', doneOf', tills', next', heard', leads')
  | 0, kf, sz, ans, lo, bk, sn, isF, long, row', slot, doneOf, tills, next, heard, leads, hf, hsz, h1 => by
    obtain ⟨g, rfl⟩ : ∃ g, kf = g + 1 := ⟨kf - 1, by omega⟩
    rw [F_X10_core_b107, if_pos (by rw [zl_3, zd_lt (by omega) (by omega)]; omega)]
    exact ⟨_, _, _, _, _, _, _, _, _, _, _, _, _, rfl⟩
  | f + 1, kf, sz, ans, lo, bk, sn, isF, long, row', slot, doneOf, tills, next, heard, leads, hf, hsz, h1 => by
    obtain ⟨g, rfl⟩ : ∃ g, kf = g + 1 := ⟨kf - 1, by omega⟩
    have hE := Es_lt K (by omega)
    have hp : 2 ^ cm K ≤ 2 ^ 12 := Nat.pow_le_pow_right (by omega) hm
    rw [F_X10_core_b107, if_neg (by rw [zl_3, zd_lt (by omega) (by omega)]; omega)]
    obtain ⟨ans', lo', bk', sn', isF', long', row2, slot', doneOf', tills', next', heard', leads', h2⟩ := X10_co116 (k107 := F_X10_core_b107 fu a1 (nI 0) (nI (msk (fun _ => true) (cm K))) (-1) (nI late) w r (nI k) (nI (Es K)) g) (a1 := a1) (a2 := nI 0) hfu hM hm hk hf0 hw h1 (by omega : sz ≤ 20) (Es K + 1) fu 0 ans lo bk sn isF long row' slot doneOf tills next heard leads (by omega) (by omega) (fun u hu => by omega)
    rcases h2 with ⟨u, hu, hfo, e⟩ | ⟨hfo, e⟩
    · rw [corl_some hfo]
      exact ⟨_, _, _, _, _, _, _, _, _, _, _, _, _, e⟩
    · rw [corl_none hfo]
      obtain ⟨ans2, lo2, bk2, sn2, isF2, long2, row3, slot2, doneOf2, tills2, next2, heard2, leads2, e2⟩ := X10_co107 hfu hM hm hk hf0 hw (a1 := a1) f g (sz + 1) ans' lo' bk' sn' isF' long' row2 slot' doneOf' tills' next' heard' leads' (by omega) (by omega) (by omega)
      exact ⟨_, _, _, _, _, _, _, _, _, _, _, _, _, e.trans e2⟩
theorem X10_core {fu : Nat} (hfu : 20000 ≤ fu) {K : Ca} {kd : Nat → Nat} {nt late : Nat} {st w r : Nat → Int32} (hM : MS K kd nt late st r) (told : Bool) (v : Int32)
    {ans th lo on mi bk sn isF : Int32} {long row' slot doneOf next heard leads : Nat → Int32} {tills : Nat → Int64} :
    ∃ ans' th' lo' on' mi' bk' sn' isF' w' long' row2 slot' doneOf' tills' next' heard' leads', F_X10_core fu (nI (if told = true then 1 else 0)) ans th lo on mi bk sn isF st w r long row' slot doneOf tills next heard leads v =
      some ((rs_core K kd nt late told v).1, nI 0, (rs_core K kd nt late told v).2, ans', th', lo', on', mi', bk', sn', isF', w', long', row2, slot', doneOf', tills', next', heard', leads') := by
  have hm := hM.1.1
  unfold F_X10_core F_X10_good
  rw [zl_2, X10_isKind, z_b2, z_b1]
  have hno3 : F_X10_no 3 = some (-1, nI 3) := rfl
  rcases e : kin told v 2 with _ | k
  · have hrs : rs_core K kd nt late told v = (-1, nI 1) := by unfold rs_core; rw [e]
    rw [ifn, if_pos n0_0, hrs]
    exact ⟨ans, th, lo, on, mi, bk, sn, isF, w, long, row', slot, doneOf, tills, next, heard, leads, rfl⟩
  · obtain ⟨_, rfl, hk⟩ := kin_some (by omega) e
    have hrs : rs_core K kd nt late told (nI k) = corr K kd nt late k := by unfold rs_core; rw [e]
    have h141 : st (141 : Int32).toNatClampNeg = nI (cm K) := hM.2.2.2.2.1.1
    rw [ifs, if_neg n1_0, hrs, h141]
    by_cases c12 : 12 < cm K
    · have hco : corr K kd nt late k = (-1, nI 3) := if_pos c12
      rw [if_neg (by rw [zl_12, zd_le (by omega) (by omega)]; omega), hno3, z_b2, hco]
      exact ⟨_, _, _, _, _, _, _, _, _, _, _, _, _, _, _, _, _, rfl⟩
    · obtain ⟨w1, e1, h1, _⟩ := layCalls (w := w) hfu hm hM.2.2.2.2.1 hM.2.2.2.2.2
      have hL1 : ∀ c, c < cm K → (0 : Nat).testBit c = (enb K c && !(msk (fun _ => true) (cm K)).testBit c) := by
        intro c hc
        rw [msk_bit, Nat.zero_testBit]
        simp [hc]
      have hL2 : ∀ c, c < cm K → (Es K).testBit c = (enb K c && !(0 : Nat).testBit c) := by
        intro c hc
        unfold Es
        rw [msk_bit, Nat.zero_testBit]
        simp [hc]
      have hw0 := MS_Ys hM k 0
      have hwE := MS_Ys hM k (Es K)
      obtain ⟨ans1, n1, full1, long1, row1, slot1, doneOf1, tills1, next1, heard1, leads1, e2, _⟩ := X10_comes (ans := ans) (long := long) (row' := row') (slot := slot) (doneOf := doneOf) (next := next) (heard := heard) (leads := leads) (tills := tills) hfu hw0 (RK_RW h1) (RI_a hm) (RE_s hM.1 h1 hM.2.2.2.1 (by omega : k < 4) (msk_lt20 _ hm) hL1) (RL_kinds hM.2.2.2.2.2)
      rw [if_pos (by rw [zl_12, zd_le (by omega) (by omega)]; omega), e1, z_b5, e2, z_b13]
      by_cases cf : full (Ys K kd nt late k 0) = true
      · have hco : corr K kd nt late k = (-1, nI 3) := by unfold corr; rw [if_neg c12, if_pos cf]
        rw [if_pos cf, if_pos n0_0, hno3, z_b2, hco]
        exact ⟨_, _, _, _, _, _, _, _, _, _, _, _, _, _, _, _, _, rfl⟩
      · have cf' : full (Ys K kd nt late k 0) = false := by simpa using cf
        obtain ⟨ans2, n2, full2, long2, row2, slot2, doneOf2, tills2, next2, heard2, leads2, e3, h4⟩ := X10_comes (ans := ans1) (long := long1) (row' := row1) (slot := slot1) (doneOf := doneOf1) (next := next1) (heard := heard1) (leads := leads1) (tills := tills1) hfu hwE (RK_RW h1) (RI_a hm) (RE_s hM.1 h1 hM.2.2.2.1 (by omega : k < 4) (by omega : 0 < 2 ^ 20) hL2) (RL_kinds hM.2.2.2.2.2)
        have e3' : F_X10_comes fu ans1 (nI (msk (fun _ => true) (cm K))) 0 (-1) (nI late) long1 w1 row1 slot1 doneOf1 tills1 r next1 heard1 leads1 (nI k) = _ := e3
        have hfE := Ys_full hw0 hwE cf'
        have hb := FG_ini hwE hfE (h4 hfE)
        have h00 : leads2 (0 : Int32).toNatClampNeg = leads2 0 := rfl
        rw [if_neg cf, if_neg n1_0, e3', z_b13, hfE, if_neg (show ¬ (nI (if false = true then 0 else 1) = 0) by decide), h00]
        unfold F_X10_core_b90 F_X10_core_b91
        rcases hb with ⟨q1, q2⟩ | ⟨q1, q2⟩
        · have hco : corr K kd nt late k = (-2, nI 0) := by unfold corr; rw [if_neg c12, if_neg cf, if_pos q2]
          rw [q1, if_neg n1_0, if_neg (by decide), hco]
          exact ⟨_, _, _, _, _, _, _, _, _, _, _, _, _, _, _, _, _, rfl⟩
        · have hco : corr K kd nt late k = corl K kd nt late k 3 1 := by unfold corr; rw [if_neg c12, if_neg cf, if_neg q2]
          obtain ⟨ans3, lo3, bk3, sn3, isF3, long3, row3, slot3, doneOf3, tills3, next3, heard3, leads3, e5⟩ := X10_co107 (a1 := (0 : Int32)) hfu hM (by omega) hk cf' h1 3 fu 1 ans2 0 (nI k) n2 full2 long2 row2 slot2 doneOf2 tills2 next2 heard2 leads2 (by omega) (by omega) (by omega)
          rw [q1, if_pos n0_0, if_pos rfl, X10_endedCalls hfu hM.2.2.2.2.1 hm, z_b1, hco]
          exact ⟨_, _, _, _, _, _, _, _, _, _, _, _, _, _, _, _, _, e5⟩
