section
/-! marks: class and reference -/
def MRk (nt : Nat) (kd : Nat → Nat) (i : Nat) (n : Int32) (f0 f1 f2 f3 f4 f5 f6 ms kept : Nat → Int32) : Prop :=
  ∃ (K : Ca) (s : Nat), okC 4 nt kd K ∧ RC K n f0 f1 f2 f3 f4 f5 f6 ∧ s < 65537 ∧ ms i = nI s ∧ RK K (ce K) (fun p => kept (142 * i + p)) ∧ kept (142 * i + 140) = nI s
def MM (nt : Nat) (kd : Nat → Nat) (mk : Nat) (n0 : Int32) (g00 g01 g02 g03 g04 g05 g06 : Nat → Int32) (n1 : Int32) (g10 g11 g12 g13 g14 g15 g16 : Nat → Int32) (n2 : Int32) (g20 g21 g22 g23 g24 g25 g26 : Nat → Int32) (ms kept : Nat → Int32) : Prop :=
  (0 < mk → MRk nt kd 0 n0 g00 g01 g02 g03 g04 g05 g06 ms kept) ∧ (1 < mk → MRk nt kd 1 n1 g10 g11 g12 g13 g14 g15 g16 ms kept) ∧ (2 < mk → MRk nt kd 2 n2 g20 g21 g22 g23 g24 g25 g26 ms kept)
theorem MR_keep {nt : Nat} {kd : Nat → Nat} {i : Nat} {n : Int32} {f0 f1 f2 f3 f4 f5 f6 ms kept ms' kept' : Nat → Int32} (h : MRk nt kd i n f0 f1 f2 f3 f4 f5 f6 ms kept) (h1 : ms' i = ms i) (h2 : ∀ p, p < 142 → kept' (142 * i + p) = kept (142 * i + p)) : MRk nt kd i n f0 f1 f2 f3 f4 f5 f6 ms' kept' := by
  obtain ⟨K, s, o1, o2, o3, o4, o5, o6⟩ := h
  have hm := o1.1
  refine ⟨K, s, o1, o2, o3, by rw [h1]; exact o4, ⟨by show kept' (142 * i + 141) = _; rw [h2 141 (by omega)]; exact o5.1, fun c hc => ?_⟩, by rw [h2 140 (by omega)]; exact o6⟩
  show kept' (142 * i + 7 * c) = _ ∧ kept' (142 * i + (7 * c + 1)) = _ ∧ kept' (142 * i + (7 * c + 2)) = _ ∧ kept' (142 * i + (7 * c + 3)) = _ ∧ kept' (142 * i + (7 * c + 4)) = _ ∧ kept' (142 * i + (7 * c + 5)) = _ ∧ kept' (142 * i + (7 * c + 6)) = _
  rw [h2 _ (by omega), h2 _ (by omega), h2 _ (by omega), h2 _ (by omega), h2 _ (by omega), h2 _ (by omega), h2 _ (by omega)]
  exact o5.2 c hc
theorem RK_of {K : Ca} {e w w' : Nat → Int32} (hm : cm K ≤ 20) (h : RK K e w) (hk : ∀ p, p < 142 → w' p = w p) : RK K e w' := by
  obtain ⟨h1, h2⟩ := h
  refine ⟨by rw [hk 141 (by decide)]; exact h1, fun c hc => ?_⟩
  rw [hk _ (by omega), hk _ (by omega), hk _ (by omega), hk _ (by omega), hk _ (by omega), hk _ (by omega), hk _ (by omega)]
  exact h2 c hc
theorem XJ_mark {fu : Nat} (hfu : 20000 ≤ fu) {K : Ca} {kd : Nat → Nat} {nt s mk : Nat} {n n0 n1 n2 : Int32} {f0 f1 f2 f3 f4 f5 f6 g00 g01 g02 g03 g04 g05 g06 g10 g11 g12 g13 g14 g15 g16 g20 g21 g22 g23 g24 g25 g26 ms kept st : Nat → Int32} (hok : okC 4 nt kd K) (hRC : RC K n f0 f1 f2 f3 f4 f5 f6) (hK : RK K (ce K) st) (hs : s < 65537) (hst : st 140 = nI s) (hmk : mk ≤ 3) (told : Bool) (hM : MM nt kd mk n0 g00 g01 g02 g03 g04 g05 g06 n1 g10 g11 g12 g13 g14 g15 g16 n2 g20 g21 g22 g23 g24 g25 g26 ms kept) :
    ∃ (rs : Int32) (mk' : Nat) (tb n0' n1' n2' : Int32) (g00' g01' g02' g03' g04' g05' g06' ms' g10' g11' g12' g13' g14' g15' g16' g20' g21' g22' g23' g24' g25' g26' kept' : Nat → Int32), mk' ≤ 3 ∧ tb ≠ 4 ∧
      F_X9_mark (nI mk) (nI s) (nI (if told = true then 1 else 0)) n0 n1 n2 n f0 g00 f1 g01 f2 g02 f3 g03 f4 g04 f5 g05 f6 g06 ms g10 g11 g12 g13 g14 g15 g16 g20 g21 g22 g23 g24 g25 g26 = some (rs, nI mk', tb, n0', n1', n2', g00', g01', g02', g03', g04', g05', g06', ms', g10', g11', g12', g13', g14', g15', g16', g20', g21', g22', g23', g24', g25', g26') ∧
      (told = false → mk' = mk) ∧ F_X10_mark fu (nI (if told = true then 1 else 0)) (nI mk) st kept = some (rs, 0, tb, nI mk', kept') ∧ MM nt kd mk' n0' g00' g01' g02' g03' g04' g05' g06' n1' g10' g11' g12' g13' g14' g15' g16' n2' g20' g21' g22' g23' g24' g25' g26' ms' kept' := by
  have hm := hok.1
  unfold F_X9_mark F_X10_mark F_X10_good
  rw [z_b2]
  cases told with
  | false =>
    rw [if_pos (show nI (if false = true then 1 else 0) = 0 by decide), if_pos (show nI (if false = true then 1 else 0) = 0 by decide)]
    exact ⟨-1, mk, 1, _, _, _, _, _, _, _, _, _, _, _, _, _, _, _, _, _, _, _, _, _, _, _, _, _, kept, hmk, by decide, rfl, fun _ => rfl, rfl, hM⟩
  | true =>
    have h4 : mk = 0 ∨ mk = 1 ∨ mk = 2 ∨ mk = 3 := by omega
    rcases h4 with rfl | rfl | rfl | rfl
    · obtain ⟨h0, h1, h2, h3, h4, h5, h6, t1, t2⟩ := X0_takeOver (n := nI (cm K)) ⟨rfl, hRC.2⟩ hm g00 g01 g02 g03 g04 g05 g06
      obtain ⟨kept', c1, c2, c3⟩ := X10_copy (n0 := 142) (n2 := 426) (a := 0) (b := 142 * 0) (m := 142) (f0 := st) (f2 := kept) hfu (by omega) (by omega) (by omega) (by omega)
      have c1' : F_X10_copy fu 142 426 st kept 0 (142 * nI 0) 142 = some kept' := c1
      have k1 : ∀ p, p < 142 → kept' (142 * 0 + p) = st p := fun p hp => (c2 p hp).trans (by rw [Nat.zero_add])
      have k2 : ∀ p, p < 142 * 0 → kept' p = kept p := fun p hp => c3 p (Or.inl hp)
      refine ⟨nI 0, 1, 0, nI (cm K), n1, n2, h0, h1, h2, h3, h4, h5, h6, upd ms 0 (nI s), g10, g11, g12, g13, g14, g15, g16, g20, g21, g22, g23, g24, g25, g26, kept', by omega, by decide, ?_, (fun hh => nomatch hh), ?_, ⟨fun _ => ⟨K, s, hok, t2, hs, by rw [z_upd, if_pos rfl], RK_of hm hK k1, by rw [k1 140 (by omega)]; exact hst⟩, fun hh => absurd hh (by omega), fun hh => absurd hh (by omega)⟩⟩
      · rw [if_neg (show ¬ nI (if true = true then 1 else 0) = 0 by decide), if_pos (show nI 0 < (3 : Int32) by decide), if_pos (show nI 0 = (0 : Int32) from rfl), hRC.1, t1, z_b8, if_neg (show ¬ (nI 0 < 0 ∨ 3 ≤ (nI 0).toNatClampNeg) by decide)]; rfl
      · rw [if_neg (show ¬ nI (if true = true then 1 else 0) = 0 by decide), if_neg (show ¬ nI 0 = (3 : Int32) by decide), c1', z_b1]; rfl
    · obtain ⟨h0, h1, h2, h3, h4, h5, h6, t1, t2⟩ := X0_takeOver (n := nI (cm K)) ⟨rfl, hRC.2⟩ hm g10 g11 g12 g13 g14 g15 g16
      obtain ⟨kept', c1, c2, c3⟩ := X10_copy (n0 := 142) (n2 := 426) (a := 0) (b := 142 * 1) (m := 142) (f0 := st) (f2 := kept) hfu (by omega) (by omega) (by omega) (by omega)
      have c1' : F_X10_copy fu 142 426 st kept 0 (142 * nI 1) 142 = some kept' := c1
      have k1 : ∀ p, p < 142 → kept' (142 * 1 + p) = st p := fun p hp => (c2 p hp).trans (by rw [Nat.zero_add])
      have k2 : ∀ p, p < 142 * 1 → kept' p = kept p := fun p hp => c3 p (Or.inl hp)
      refine ⟨nI 1, 2, 0, n0, nI (cm K), n2, g00, g01, g02, g03, g04, g05, g06, upd ms 1 (nI s), h0, h1, h2, h3, h4, h5, h6, g20, g21, g22, g23, g24, g25, g26, kept', by omega, by decide, ?_, (fun hh => nomatch hh), ?_, ⟨fun _ => MR_keep (hM.1 (by omega)) (by rw [z_upd, if_neg (by omega)]) (fun p hp => k2 _ (by omega)), fun _ => ⟨K, s, hok, t2, hs, by rw [z_upd, if_pos rfl], RK_of hm hK k1, by rw [k1 140 (by omega)]; exact hst⟩, fun hh => absurd hh (by omega)⟩⟩
      · rw [if_neg (show ¬ nI (if true = true then 1 else 0) = 0 by decide), if_pos (show nI 1 < (3 : Int32) by decide), if_neg (show ¬ nI 1 = (0 : Int32) by decide), if_pos (show nI 1 = (1 : Int32) from rfl), hRC.1, t1, z_b8, if_neg (show ¬ (nI 1 < 0 ∨ 3 ≤ (nI 1).toNatClampNeg) by decide)]; rfl
      · rw [if_neg (show ¬ nI (if true = true then 1 else 0) = 0 by decide), if_neg (show ¬ nI 1 = (3 : Int32) by decide), c1', z_b1]; rfl
    · obtain ⟨h0, h1, h2, h3, h4, h5, h6, t1, t2⟩ := X0_takeOver (n := nI (cm K)) ⟨rfl, hRC.2⟩ hm g20 g21 g22 g23 g24 g25 g26
      obtain ⟨kept', c1, c2, c3⟩ := X10_copy (n0 := 142) (n2 := 426) (a := 0) (b := 142 * 2) (m := 142) (f0 := st) (f2 := kept) hfu (by omega) (by omega) (by omega) (by omega)
      have c1' : F_X10_copy fu 142 426 st kept 0 (142 * nI 2) 142 = some kept' := c1
      have k1 : ∀ p, p < 142 → kept' (142 * 2 + p) = st p := fun p hp => (c2 p hp).trans (by rw [Nat.zero_add])
      have k2 : ∀ p, p < 142 * 2 → kept' p = kept p := fun p hp => c3 p (Or.inl hp)
      refine ⟨nI 2, 3, 0, n0, n1, nI (cm K), g00, g01, g02, g03, g04, g05, g06, upd ms 2 (nI s), g10, g11, g12, g13, g14, g15, g16, h0, h1, h2, h3, h4, h5, h6, kept', by omega, by decide, ?_, (fun hh => nomatch hh), ?_, ⟨fun _ => MR_keep (hM.1 (by omega)) (by rw [z_upd, if_neg (by omega)]) (fun p hp => k2 _ (by omega)), fun _ => MR_keep (hM.2.1 (by omega)) (by rw [z_upd, if_neg (by omega)]) (fun p hp => k2 _ (by omega)), fun _ => ⟨K, s, hok, t2, hs, by rw [z_upd, if_pos rfl], RK_of hm hK k1, by rw [k1 140 (by omega)]; exact hst⟩⟩⟩
      · rw [if_neg (show ¬ nI (if true = true then 1 else 0) = 0 by decide), if_pos (show nI 2 < (3 : Int32) by decide), if_neg (show ¬ nI 2 = (0 : Int32) by decide), if_neg (show ¬ nI 2 = (1 : Int32) by decide), if_neg (show ¬ ¬ nI 2 = (2 : Int32) by decide), hRC.1, t1, z_b8, if_neg (show ¬ (nI 2 < 0 ∨ 3 ≤ (nI 2).toNatClampNeg) by decide)]; rfl
      · rw [if_neg (show ¬ nI (if true = true then 1 else 0) = 0 by decide), if_neg (show ¬ nI 2 = (3 : Int32) by decide), c1', z_b1]; rfl
    · refine ⟨-1, 3, 3, _, _, _, _, _, _, _, _, _, _, _, _, _, _, _, _, _, _, _, _, _, _, _, _, _, kept, by omega, by decide, ?_, (fun hh => nomatch hh), ?_, hM⟩
      · rw [if_neg (show ¬ nI (if true = true then 1 else 0) = 0 by decide), if_neg (show ¬ nI 3 < (3 : Int32) by decide)]; rfl
      · rw [if_neg (show ¬ nI (if true = true then 1 else 0) = 0 by decide), if_pos (show nI 3 = (3 : Int32) from rfl)]; rfl
theorem XJ_back {fu : Nat} (hfu : 20000 ≤ fu) {K : Ca} {kd : Nat → Nat} {nt s mk : Nat} {n n0 n1 n2 : Int32} {f0 f1 f2 f3 f4 f5 f6 g00 g01 g02 g03 g04 g05 g06 g10 g11 g12 g13 g14 g15 g16 g20 g21 g22 g23 g24 g25 g26 ms kept st : Nat → Int32} (hok : okC 4 nt kd K) (hRC : RC K n f0 f1 f2 f3 f4 f5 f6) (hK : RK K (ce K) st) (hs : s < 65537) (hst : st 140 = nI s) (hmk : mk ≤ 3) (hM : MM nt kd mk n0 g00 g01 g02 g03 g04 g05 g06 n1 g10 g11 g12 g13 g14 g15 g16 n2 g20 g21 g22 g23 g24 g25 g26 ms kept) (v : Int32) :
    ∃ (K' : Ca) (s' : Nat) (rs tb n' : Int32) (h0 h1 h2 h3 h4 h5 h6 st' : Nat → Int32), okC 4 nt kd K' ∧ s' < 65537 ∧ tb ≠ 4 ∧ RC K' n' h0 h1 h2 h3 h4 h5 h6 ∧ RK K' (ce K') st' ∧ st' 140 = nI s' ∧ ((K' = K ∧ s' = s) ∨ 0 < mk) ∧
      F_X9_back (nI mk) (nI s) n0 n1 n2 n g00 f0 g01 f1 g02 f2 g03 f3 g04 f4 g05 f5 g06 f6 ms g10 g11 g12 g13 g14 g15 g16 g20 g21 g22 g23 g24 g25 g26 v = some (rs, nI s', tb, n', h0, h1, h2, h3, h4, h5, h6) ∧ F_X10_back fu (nI mk) kept st v = some (rs, 0, tb, st') := by
  have hm := hok.1
  unfold F_X9_back F_X10_back F_X10_good F_X9_back_b17
  rw [z_b2]
  have no : F_X10_within v 0 (nI mk - 1) = some 0 → ∃ (K' : Ca) (s' : Nat) (rs tb n' : Int32) (h0 h1 h2 h3 h4 h5 h6 st' : Nat → Int32), okC 4 nt kd K' ∧ s' < 65537 ∧ tb ≠ 4 ∧ RC K' n' h0 h1 h2 h3 h4 h5 h6 ∧ RK K' (ce K') st' ∧ st' 140 = nI s' ∧ ((K' = K ∧ s' = s) ∨ 0 < mk) ∧
      (some ((0 : Int32), nI s, (1 : Int32), n, f0, f1, f2, f3, f4, f5, f6)) = some (rs, nI s', tb, n', h0, h1, h2, h3, h4, h5, h6) ∧ (bnd1 (F_X10_within v 0 (nI mk - 1)) fun r12 => if r12 = 0 then (bnd2 (F_X10_isNot 1) fun r20 u20_0 => if ¬(r20 = 0 ∨ r20 = 1) then none else some (r20, (0 : Int32), u20_0, st)) else bnd1 (F_X10_copy fu 426 142 kept st (142 * v) 0 142) fun u41_0 => some (1, 0, 0, u41_0)) = some (rs, 0, tb, st') := by
    intro hw
    rw [hw, z_b1, if_pos i0_0]
    exact ⟨K, s, 0, 1, n, f0, f1, f2, f3, f4, f5, f6, st, hok, hs, by decide, hRC, hK, hst, Or.inl ⟨rfl, rfl⟩, rfl, rfl⟩
  have e1 : (nI mk : Int32) - 1 = if mk = 0 then -1 else nI (mk - 1) := by
    by_cases d : mk = 0
    · rw [if_pos d, d]; rfl
    · rw [if_neg d, zl_1, zq_sub (by omega)]
  by_cases c1 : v < 0
  · rw [if_pos c1]
    refine no ?_
    rw [X10_within, if_neg (fun g => nlt_le.mpr g.1 c1)]; rfl
  · by_cases c2 : nI mk ≤ v
    · rw [if_neg c1, if_pos c2]
      refine no ?_
      rw [X10_within, if_neg]
      · rfl
      · intro g
        have g2 := g.2
        rw [e1] at g2
        obtain ⟨j, hj, rfl⟩ := nI_of c1
        rw [zd_le (by omega) (by omega)] at c2
        by_cases d : mk = 0
        · rw [if_pos d] at g2
          exact absurd g2 (by rw [Int32.le_iff_toInt_le, nI_toInt (by omega)]; have : (-1 : Int32).toInt = -1 := by decide
                              omega)
        · rw [if_neg d, zd_le (by omega) (by omega)] at g2
          omega
    · obtain ⟨j, hj, rfl⟩ := nI_of c1
      have hjm : j < mk := by rw [zd_le (by omega) (by omega)] at c2; omega
      have hw : F_X10_within (nI j) 0 (nI mk - 1) = some 1 := by
        rw [X10_within, if_pos]
        · rfl
        · refine ⟨nlt_le.mp c1, ?_⟩
          rw [e1, if_neg (by omega), zd_le (by omega) (by omega)]; omega
      have h3 : j = 0 ∨ j = 1 ∨ j = 2 := by omega
      rcases h3 with rfl | rfl | rfl
      · obtain ⟨K', s', o1, o2, o3, o4, o5, o6⟩ := hM.1 (by omega)
        obtain ⟨h0, h1, h2, h3, h4, h5, h6, t1, t2⟩ := X0_takeOver o2 o1.1 f0 f1 f2 f3 f4 f5 f6
        obtain ⟨st', c1, c2, c3⟩ := X10_copy (n0 := 426) (n2 := 142) (a := 142 * 0) (b := 0) (m := 142) (f0 := kept) (f2 := st) hfu (by omega) (by omega) (by omega) (by omega)
        have c1' : F_X10_copy fu 426 142 kept st (142 * nI 0) 0 142 = some st' := c1
        have k1 : ∀ p, p < 142 → st' p = kept (142 * 0 + p) := fun p hp => (show st' p = st' (0 + p) by rw [Nat.zero_add]).trans (c2 p hp)
        have hm' := o1.1
        refine ⟨K', s', 1, 0, _, h0, h1, h2, h3, h4, h5, h6, st', o1, o3, by decide, t2, RK_of hm' o5 k1, by rw [k1 140 (by omega)]; exact o6, Or.inr (by omega), ?_, ?_⟩
        · rw [if_neg (show ¬ nI 0 < (0 : Int32) by decide), if_neg (show ¬ nI mk ≤ nI 0 by rw [zd_le (by omega) (by omega)]; omega), if_pos (show nI 0 < (3 : Int32) by decide), if_pos (show nI 0 = (0 : Int32) from rfl), t1, z_b8, if_neg (show ¬ (nI 0 < 0 ∨ 3 ≤ (nI 0).toNatClampNeg) by decide)]
          show some ((1 : Int32), ms 0, _) = _
          rw [o4]
        · rw [hw, z_b1, if_neg i1_0, c1', z_b1]
      · obtain ⟨K', s', o1, o2, o3, o4, o5, o6⟩ := hM.2.1 (by omega)
        obtain ⟨h0, h1, h2, h3, h4, h5, h6, t1, t2⟩ := X0_takeOver o2 o1.1 f0 f1 f2 f3 f4 f5 f6
        obtain ⟨st', c1, c2, c3⟩ := X10_copy (n0 := 426) (n2 := 142) (a := 142 * 1) (b := 0) (m := 142) (f0 := kept) (f2 := st) hfu (by omega) (by omega) (by omega) (by omega)
        have c1' : F_X10_copy fu 426 142 kept st (142 * nI 1) 0 142 = some st' := c1
        have k1 : ∀ p, p < 142 → st' p = kept (142 * 1 + p) := fun p hp => (show st' p = st' (0 + p) by rw [Nat.zero_add]).trans (c2 p hp)
        have hm' := o1.1
        refine ⟨K', s', 1, 0, _, h0, h1, h2, h3, h4, h5, h6, st', o1, o3, by decide, t2, RK_of hm' o5 k1, by rw [k1 140 (by omega)]; exact o6, Or.inr (by omega), ?_, ?_⟩
        · rw [if_neg (show ¬ nI 1 < (0 : Int32) by decide), if_neg (show ¬ nI mk ≤ nI 1 by rw [zd_le (by omega) (by omega)]; omega), if_pos (show nI 1 < (3 : Int32) by decide), if_neg (show ¬ nI 1 = (0 : Int32) by decide), if_pos (show nI 1 = (1 : Int32) from rfl), t1, z_b8, if_neg (show ¬ (nI 1 < 0 ∨ 3 ≤ (nI 1).toNatClampNeg) by decide)]
          show some ((1 : Int32), ms 1, _) = _
          rw [o4]
        · rw [hw, z_b1, if_neg i1_0, c1', z_b1]
      · obtain ⟨K', s', o1, o2, o3, o4, o5, o6⟩ := hM.2.2 (by omega)
        obtain ⟨h0, h1, h2, h3, h4, h5, h6, t1, t2⟩ := X0_takeOver o2 o1.1 f0 f1 f2 f3 f4 f5 f6
        obtain ⟨st', c1, c2, c3⟩ := X10_copy (n0 := 426) (n2 := 142) (a := 142 * 2) (b := 0) (m := 142) (f0 := kept) (f2 := st) hfu (by omega) (by omega) (by omega) (by omega)
        have c1' : F_X10_copy fu 426 142 kept st (142 * nI 2) 0 142 = some st' := c1
        have k1 : ∀ p, p < 142 → st' p = kept (142 * 2 + p) := fun p hp => (show st' p = st' (0 + p) by rw [Nat.zero_add]).trans (c2 p hp)
        have hm' := o1.1
        refine ⟨K', s', 1, 0, _, h0, h1, h2, h3, h4, h5, h6, st', o1, o3, by decide, t2, RK_of hm' o5 k1, by rw [k1 140 (by omega)]; exact o6, Or.inr (by omega), ?_, ?_⟩
        · rw [if_neg (show ¬ nI 2 < (0 : Int32) by decide), if_neg (show ¬ nI mk ≤ nI 2 by rw [zd_le (by omega) (by omega)]; omega), if_pos (show nI 2 < (3 : Int32) by decide), if_neg (show ¬ nI 2 = (0 : Int32) by decide), if_neg (show ¬ nI 2 = (1 : Int32) by decide), if_neg (show ¬ ¬ nI 2 = (2 : Int32) by decide), t1, z_b8, if_neg (show ¬ (nI 2 < 0 ∨ 3 ≤ (nI 2).toNatClampNeg) by decide)]
          show some ((1 : Int32), ms 2, _) = _
          rw [o4]
        · rw [hw, z_b1, if_neg i1_0, c1', z_b1]
end
