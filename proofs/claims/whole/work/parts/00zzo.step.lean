/-! machines: a minute, of class and reference together -/
def MI (K : Ca) (kd : Nat → Nat) (nt n mn : Nat) (ph dg an cp : Nat → Nat) (s : Nat) : Prop := okC 4 nt kd K ∧ okM kd cp ∧ s < 65537 ∧ cm K ≤ n ∧ (∀ c, c < cm K → cb K c ≤ mn) ∧ ∀ k, k < 4 → ph k ≤ 2 ∧ (ph k ≠ 0 → dg k < cm K ∧ ce K (dg k) = -2 ∧ cq K (dg k) = k) ∧ (ph k = 2 → an k ≤ 99)
def MC (K : Ca) (ph dg an cp : Nat → Nat) (n : Int32) (phs tills f0 f1 f2 f3 f4 f5 f6 dng ans : Nat → Int32) : Prop := RC K n f0 f1 f2 f3 f4 f5 f6 ∧ CM cp tills ∧ ∀ k, k < 4 → phs k = nI (ph k) ∧ (ph k ≠ 0 → dng k = nI (dg k)) ∧ (ph k = 2 → ans k = nI (an k))
def MR (K : Ca) (kd : Nat → Nat) (nt : Nat) (ph dg an cp : Nat → Nat) (s : Nat) (st : Nat → Int32) (m : Nat → Int64) (busy isD : Nat → Int32) : Prop := RKm K st ∧ st 140 = nI s ∧ RM kd nt cp m ∧ ∀ k, k < 4 → (ph k = 0 → busy k = -1) ∧ (ph k ≠ 0 → busy k = nI (dg k) ∧ isD k = nI (if ph k = 2 then 1 else 0)) ∧ (ph k = 2 → st (7 * dg k + 6) = nI (an k))
def un (f : Nat → Nat) (k v : Nat) : Nat → Nat := fun i => if i = k then v else f i
theorem RKm_st {K : Ca} {st st' : Nat → Int32} (h : RKm K st) (hm : cm K ≤ 20) (he : ∀ p, p ≠ 140 → st' p = st p) : RKm K st' := by
  refine ⟨by rw [he _ (by omega)]; exact h.1, fun c hc => ?_⟩
  rw [he _ (by omega), he _ (by omega), he _ (by omega), he _ (by omega), he _ (by omega), he _ (by omega), he _ (by omega)]
  exact h.2 c hc
theorem MJ_step {fu : Nat} (hfu : 20000 ≤ fu) {kd : Nat → Nat} {nt nq late n mn mk en : Nat} (hnt : 0 < nt) (hnt3 : nt ≤ 3) (hnq : 0 < nq) (hnq4 : nq ≤ 4) (hkd : ∀ t, t < 3 → kd t < 5) (hmk : mk ≤ 2) (hn : n ≤ 20) (hmn : mn < 999) (hen : en < n)
    {r kinds : Nat → Int32} (hkk : ∀ t, t < 3 → kinds t = nI (kd t)) (hr : RLy kd nt late r) (hr6 : r 6 = nI nq) {K : Ca} {ph dg an cp : Nat → Nat} {s : Nat} (hI : MI K kd nt n mn ph dg an cp s)
    {nn : Int32} {phs tills f0 f1 f2 f3 f4 f5 f6 dng ans : Nat → Int32} (hC : MC K ph dg an cp nn phs tills f0 f1 f2 f3 f4 f5 f6 dng ans)
    {st busy isD : Nat → Int32} {m : Nat → Int64} {ra : Int32} (hR : MR K kd nt ph dg an cp s st m busy isD) :
    ∃ K' ph' dg' an' cp' s' fl nn' phs' tills' f0' f1' f2' f3' f4' f5' f6' dng' ans' st' busy' isD' m' ra', MI K' kd nt n (mn + 1) ph' dg' an' cp' s' ∧ fl ≤ 1 ∧
      F_X2_minuteOf (nI (nxt s)) phs nn (nI nt) kinds f0 f1 f2 f3 f4 f5 f6 dng tills ans (nI (nxt s % nq)) (nI mk) (nI n) (nI (mn + 1)) = some (nI fl, nI s', phs', nn', f0', f1', f2', f3', f4', f5', f6', dng', tills', ans') ∧ MC K' ph' dg' an' cp' nn' phs' tills' f0' f1' f2' f3' f4' f5' f6' dng' ans' ∧
      (∀ (kf : Nat) (v5 : Int32), F_X10_makes_b129 fu r (nI mk) (nI n) (kf + 1) ra st m busy isD (nI en) v5 (nI (mn + 1)) = F_X10_makes_b129 fu r (nI mk) (nI n) kf ra' st' m' busy' isD' (nI (en + fl)) (if fl = 0 then v5 else nI (mn + 1)) (nI (mn + 1 + 1))) ∧ MR K' kd nt ph' dg' an' cp' s' st' m' busy' isD' := by
  obtain ⟨i1, i2, i3, i4, i5, i6⟩ := hI
  obtain ⟨c1, c2, c3⟩ := hC
  obtain ⟨r1, r2, r3, r4⟩ := hR
  have hq : nxt s % nq < 4 := by have := Nat.mod_lt (nxt s) hnq; omega
  have hm20 : cm K ≤ 20 := by omega
  have hs' := nxt_lt s
  generalize hqq : nxt s % nq = q at hq ⊢
  have hd : F_X10_draw st (nI nq) = some (nI q, upd st 140 (nI (nxt s))) := by rw [← hqq]; exact X10_draw r2 i3 hnq (by omega)
  have hst : ∀ p, p ≠ 140 → upd st 140 (nI (nxt s)) p = st p := fun p hp => by rw [z_upd, if_neg hp]
  have hst0 : upd st 140 (nI (nxt s)) 140 = nI (nxt s) := by rw [z_upd, if_pos rfl]
  generalize hst1 : upd st 140 (nI (nxt s)) = st1 at hd hst hst0
  have r1' := RKm_st r1 hm20 hst
  have hqin : (nI q < 0 ∨ 4 ≤ q) = False := eq_false (zin (by omega) (by omega))
  have kq : (nI q).toNatClampNeg = q := zd_cl (by omega)
  have h6 : (6 : Int32).toNatClampNeg = 6 := rfl
  have h141 : (141 : Int32).toNatClampNeg = 141 := rfl
  have j1 : nI (mn + 1) + (1 : Int32) = nI (mn + 1 + 1) := by rw [zl_1, zq_add]
  have hb1 : vp_nar .boolean (1 : Int32) = nI 1 := by decide
  have hpre : ∀ (kf : Nat) (v5 : Int32), F_X10_makes_b129 fu r (nI mk) (nI n) (kf + 1) ra st m busy isD (nI en) v5 (nI (mn + 1)) =
      (if 0 ≤ busy q then
        (if isD q = 0 then
          bnd4 (F_X10_doBy fu st1 r m (nI mk) (nI q) (busy q)) fun r221 u0 u1 u2 =>
          if (((7 : Int32) * busy q) + (6 : Int32)) < 0 ∨ 142 ≤ ((((7 : Int32) * busy q) + (6 : Int32))).toNatClampNeg then none else
          F_X10_makes_b129 fu r (nI mk) (nI n) kf u0 (upd u1 ((((7 : Int32) * busy q) + (6 : Int32))).toNatClampNeg r221) u2 busy (upd isD q (nI 1)) (nI en) v5 (nI (mn + 1 + 1))
        else
          if (((7 : Int32) * busy q) + (5 : Int32)) < 0 ∨ 142 ≤ ((((7 : Int32) * busy q) + (5 : Int32))).toNatClampNeg then none else
          F_X10_makes_b129 fu r (nI mk) (nI n) kf ra (upd st1 ((((7 : Int32) * busy q) + (5 : Int32))).toNatClampNeg (nI (mn + 1))) m (upd busy q (-1)) isD (nI (en + 1)) (nI (mn + 1)) (nI (mn + 1 + 1)))
      else
        (if nI n ≤ nI (cm K) then
          F_X10_makes_b129 fu r (nI mk) (nI n) kf ra st1 m busy isD (nI en) v5 (nI (mn + 1 + 1))
        else
          bnd3 (F_X10_beginsCall st1 r busy isD (nI q) (nI (mn + 1))) fun u0 u1 u2 =>
          F_X10_makes_b129 fu r (nI mk) (nI n) kf ra u0 m u1 u2 (nI en) v5 (nI (mn + 1 + 1)))) := by
    intro kf v5
    have j2 : nI en + (1 : Int32) = nI (en + 1) := by rw [zl_1, zq_add]
    rw [F_X10_makes_b129, if_neg (by rw [show (999 : Int32) = nI 999 from rfl, zd_lt (by omega) (by omega)]; omega), if_neg (by rw [zd_le (by omega) (by omega)]; omega), h6, hr6, hd, z_b2, if_neg (nI_in (by omega) (by omega)), kq, h141, r1'.1]
    unfold F_X10_makes_b265
    simp only [hqin, ↓reduceIte]
    rw [j1, j2, hb1]
  have hpc : F_X2_minuteOf (nI (nxt s)) phs nn (nI nt) kinds f0 f1 f2 f3 f4 f5 f6 dng tills ans (nI q) (nI mk) (nI n) (nI (mn + 1)) =
      (if nI (ph q) = (0 : Int32) then
        (if nI n ≤ nn then
          some ((0 : Int32), nI (nxt s), phs, nn, f0, f1, f2, f3, f4, f5, f6, dng, tills, ans)
        else
        bnd10 (F_X2_begin (nI (nxt s)) (nI nt) kinds nn f0 f1 f2 f3 f4 f5 f6 (nI q) (nI (mn + 1))) fun r51 u0 u1 u2 u3 u4 u5 u6 u7 u8 =>
        some ((0 : Int32), u0, upd phs q (1 : Int32), u1, u2, u3, u4, u5, u6, u7, u8, upd dng q r51, tills, ans))
      else
      if nI (ph q) = (1 : Int32) then
        bnd3 (F_X2_act f2 f1 (nI (nxt s)) tills kinds f3 (dng q) (nI mk) (nI q)) fun r79 u0 u1 =>
        some ((0 : Int32), u0, upd phs q (2 : Int32), nn, f0, f1, f2, f3, f4, f5, f6, dng, u1, upd ans q r79)
      else
      bnd2 (F_X0_close nn f5 f6 (dng q) (nI (mn + 1)) (ans q)) fun u0 u1 =>
      some ((1 : Int32), nI (nxt s), upd phs q (0 : Int32), nn, f0, f1, f2, f3, f4, u0, u1, dng, tills, ans)) := by
    unfold F_X2_minuteOf
    rw [if_neg (nI_in (by omega) (by omega)), kq, (c3 q hq).1]
    simp only [hqin, ↓reduceIte]
  have p0 : (nI (ph q) = (0 : Int32)) = (ph q = 0) := by rw [zl_0]; have := (i6 q hq).1; exact zd_eq (by omega) (by omega)
  have p1 : (nI (ph q) = (1 : Int32)) = (ph q = 1) := by rw [zl_1]; have := (i6 q hq).1; exact zd_eq (by omega) (by omega)
  have hcb : ∀ c, c < cm K → cb K c ≤ mn + 1 := fun c hc => Nat.le_succ_of_le (i5 c hc)
  have hnn := c1.1
  rw [hpc]
  simp only [hpre, p0, p1]
  by_cases q0 : ph q = 0
  · have hb := (r4 q hq).1 q0
    rw [if_pos q0, hb]
    simp only [show ¬ (0 : Int32) ≤ -1 by decide, ↓reduceIte]
    by_cases cn : n ≤ cm K
    · have cn' : nI n ≤ nn := by rw [hnn, zd_le (by omega) (by omega)]; exact cn
      have cn2 : nI n ≤ nI (cm K) := by rw [zd_le (by omega) (by omega)]; exact cn
      rw [if_pos cn']
      simp only [cn2, ↓reduceIte]
      refine ⟨K, ph, dg, an, cp, nxt s, 0, nn, phs, tills, f0, f1, f2, f3, f4, f5, f6, dng, ans, st1, busy, isD, m, ra, ⟨i1, i2, hs', i4, hcb, i6⟩, by omega, rfl, ⟨c1, c2, c3⟩, fun kf v5 => rfl, ⟨r1', hst0, r3, fun k hk => ⟨(r4 k hk).1, (r4 k hk).2.1, fun g => ?_⟩⟩⟩
      have := ((i6 k hk).2.1 (by omega)).1
      rw [hst _ (by omega)]
      exact (r4 k hk).2.2 g
    · have cn' : ¬ nI n ≤ nn := by rw [hnn, zd_le (by omega) (by omega)]; exact cn
      have cn2 : ¬ nI n ≤ nI (cm K) := by rw [zd_le (by omega) (by omega)]; exact cn
      obtain ⟨f0', f1', f2', f3', f4', f5', f6', e1, e2⟩ := X2_begin hnt hnt3 hkd hkk hs' c1 (by omega) q (mn + 1)
      obtain ⟨st', e3, e4, e5, e6⟩ := X10_beginsCall (busy := busy) (isD := isD) hnt hnt3 hkd hr hs' r1' hst0 (by omega) hq (mn + 1)
      obtain ⟨b1, b2, b3, b4⟩ := bg_ok (s := nxt s) hnt hnt3 hkd
      rw [if_neg cn', e1, z_b10]
      simp only [cn2, ↓reduceIte, e3, z_b3]
      refine ⟨addK K q (bgt nt (nxt s)) (bga kd nt (nxt s)) (bgw kd nt (nxt s)) (mn + 1), un ph q 1, un dg q (cm K), an, cp, bgs kd nt (nxt s), 0, nI (cm K + 1), upd phs q 1, tills, f0', f1', f2', f3', f4', f5', f6', upd dng q (nI (cm K)), ans, st', upd busy q (nI (cm K)), upd isD q 0, m, ra, ⟨okC_add i1 (by omega) hq b1 b2 b3 (by omega), i2, b4, by show cm K + 1 ≤ n; omega, fun c hc => ?_, fun k hk => ?_⟩, by omega, rfl, ⟨e2, c2, fun k hk => ?_⟩, fun kf v5 => rfl, ⟨e4, e5, r3, fun k hk => ?_⟩⟩
      · have hc' : c < cm K + 1 := hc
        show (if c = cm K then mn + 1 else cb K c) ≤ mn + 1
        split
        · omega
        · exact hcb c (by omega)
      · show (if k = q then 1 else ph k) ≤ 2 ∧ ((if k = q then 1 else ph k) ≠ 0 → (if k = q then cm K else dg k) < cm K + 1 ∧ (if (if k = q then cm K else dg k) = cm K then -2 else ce K (if k = q then cm K else dg k)) = -2 ∧ (if (if k = q then cm K else dg k) = cm K then q else cq K (if k = q then cm K else dg k)) = k) ∧ ((if k = q then 1 else ph k) = 2 → an k ≤ 99)
        by_cases d : k = q
        · rw [if_pos d, if_pos d, if_pos rfl, if_pos rfl, d]
          exact ⟨by omega, fun _ => ⟨by omega, rfl, rfl⟩, fun h => absurd h (by omega)⟩
        · rw [if_neg d, if_neg d]
          obtain ⟨g1, g2, g3⟩ := i6 k hk
          refine ⟨g1, fun h => ?_, g3⟩
          obtain ⟨g4, g5, g6⟩ := g2 h
          rw [if_neg (by omega), if_neg (by omega)]
          exact ⟨by omega, g5, g6⟩
      · obtain ⟨g1, g2, g3⟩ := c3 k hk
        show (if k = q then (1 : Int32) else phs k) = nI (if k = q then 1 else ph k) ∧ ((if k = q then 1 else ph k) ≠ 0 → (if k = q then nI (cm K) else dng k) = nI (if k = q then cm K else dg k)) ∧ ((if k = q then 1 else ph k) = 2 → ans k = nI (an k))
        by_cases d : k = q
        · rw [if_pos d, if_pos d, if_pos d, if_pos d]
          exact ⟨rfl, fun _ => rfl, fun h => absurd h (by omega)⟩
        · rw [if_neg d, if_neg d, if_neg d, if_neg d]
          exact ⟨g1, g2, g3⟩
      · obtain ⟨g1, g2, g3⟩ := r4 k hk
        show ((if k = q then 1 else ph k) = 0 → (if k = q then nI (cm K) else busy k) = -1) ∧ ((if k = q then 1 else ph k) ≠ 0 → (if k = q then nI (cm K) else busy k) = nI (if k = q then cm K else dg k) ∧ (if k = q then 0 else isD k) = nI (if (if k = q then 1 else ph k) = 2 then 1 else 0)) ∧ ((if k = q then 1 else ph k) = 2 → st' (7 * (if k = q then cm K else dg k) + 6) = nI (an k))
        by_cases d : k = q
        · rw [if_pos d, if_pos d, if_pos d, if_pos d]
          exact ⟨fun h => absurd h (by omega), fun _ => ⟨rfl, rfl⟩, fun h => absurd h (by omega)⟩
        · rw [if_neg d, if_neg d, if_neg d, if_neg d]
          refine ⟨g1, g2, fun h => ?_⟩
          have := ((i6 k hk).2.1 (by omega)).1
          rw [e6 _ (by omega), hst _ (by omega)]
          exact g3 h
  · rw [if_neg q0]
    obtain ⟨x1, x2, x3⟩ := (i6 q hq).2.1 q0
    obtain ⟨y1, y2⟩ := (r4 q hq).2.1 q0
    have hdg := (c3 q hq).2.1 q0
    have hok := i1.2 (dg q) x1
    have hle0 : (0 : Int32) ≤ nI (dg q) := by rw [zl_0, zd_le (by omega) (by omega)]; omega
    rw [y1, y2, hdg]
    simp only [hle0, ↓reduceIte]
    by_cases q1 : ph q = 1
    · have hph2 : ¬ ph q = 2 := by omega
      rw [if_pos q1, if_neg hph2]
      simp only [n0_0, ↓reduceIte]
      obtain ⟨l1, l2, l3, l4, l5, l6, l7⟩ := c1.2 (dg q) x1
      obtain ⟨t1, t2, t3, t4, t5, t6, t7⟩ := r1'.2 (dg q) x1
      obtain ⟨tills', e1, e2⟩ := X2_act (mk := mk) (k := q) (s := nxt s) i2 hkd hkk c2 hmk hq hs' (by omega : dg q < 20) (by omega : ct K (dg q) < 3) hok.2.2.1 hok.2.2.2.1 l2 l3 l4
      obtain ⟨ra', st', m', e3, e4, e5, e6⟩ := X10_doBy hfu hnt3 hkd hr r3 i2 hmk hq hs' (by omega : dg q < 20) hok.2.1 hok.2.2.1 hok.2.2.2.1 hst0 t2 t3 t4
      have k6 : (7 : Int32) * nI (dg q) + 6 = nI (7 * dg q + 6) := by rw [zl_7, zl_6, zq_mul, zq_add]
      have k6' : (nI (7 * dg q + 6)).toNatClampNeg = 7 * dg q + 6 := zd_cl (by omega)
      have k6i : (nI (7 * dg q + 6) < 0 ∨ 142 ≤ 7 * dg q + 6) = False := eq_false (zin (by omega) (by omega))
      have hms : msd mk (nxt s) < 65537 := by unfold msd; split <;> exact nxt_lt _
      have hrr : mrr kd cp mk q (ct K (dg q)) (cac K (dg q)) (cw K (dg q)) (nxt s) ≤ 99 := by
        unfold mrr
        have hma := mat_lt (mk := mk) (a := cac K (dg q)) (s := nxt s) hq
        have := i2 (3 * mat mk q (cac K (dg q)) (nxt s) + ct K (dg q)) (by omega)
        rw [show (3 * mat mk q (cac K (dg q)) (nxt s) + ct K (dg q)) % 3 = ct K (dg q) by omega] at this
        exact sy_lt (hkd _ (by omega)) this
      rw [e1, z_b3]
      simp only [e3, z_b4, k6, k6', k6i, ↓reduceIte]
      refine ⟨K, un ph q 2, dg, un an q (mrr kd cp mk q (ct K (dg q)) (cac K (dg q)) (cw K (dg q)) (nxt s)), _, _, 0, nn, upd phs q 2, tills', f0, f1, f2, f3, f4, f5, f6, dng, upd ans q (nI (mrr kd cp mk q (ct K (dg q)) (cac K (dg q)) (cw K (dg q)) (nxt s))), upd st' (7 * dg q + 6) (nI (mrr kd cp mk q (ct K (dg q)) (cac K (dg q)) (cw K (dg q)) (nxt s))), busy, upd isD q (nI 1), m', ra', ⟨i1, okM_mcp i2 hkd hq (by omega) hok.2.2.1 hok.2.2.2.1, hms, i4, hcb, fun k hk => ?_⟩, by omega, rfl, ⟨c1, e2, fun k hk => ?_⟩, fun kf v5 => rfl, ⟨⟨?_, fun c hc => ?_⟩, ?_, e4, fun k hk => ?_⟩⟩
      · obtain ⟨g1, g2, g3⟩ := i6 k hk
        show (if k = q then 2 else ph k) ≤ 2 ∧ ((if k = q then 2 else ph k) ≠ 0 → dg k < cm K ∧ ce K (dg k) = -2 ∧ cq K (dg k) = k) ∧ ((if k = q then 2 else ph k) = 2 → (if k = q then _ else an k) ≤ 99)
        by_cases d : k = q
        · rw [if_pos d, if_pos d]
          exact ⟨by omega, fun _ => g2 (by rw [d]; exact q0), fun _ => hrr⟩
        · rw [if_neg d, if_neg d]; exact ⟨g1, g2, g3⟩
      · obtain ⟨g1, g2, g3⟩ := c3 k hk
        show (if k = q then (2 : Int32) else phs k) = nI (if k = q then 2 else ph k) ∧ ((if k = q then 2 else ph k) ≠ 0 → dng k = nI (dg k)) ∧ ((if k = q then 2 else ph k) = 2 → (if k = q then _ else ans k) = nI (if k = q then _ else an k))
        by_cases d : k = q
        · rw [if_pos d, if_pos d, if_pos d, if_pos d]
          exact ⟨rfl, fun _ => g2 (by rw [d]; exact q0), fun _ => rfl⟩
        · rw [if_neg d, if_neg d, if_neg d, if_neg d]; exact ⟨g1, g2, g3⟩
      · rw [z_upd, if_neg (by omega), e6 _ (by omega)]; exact r1'.1
      · obtain ⟨u1, u2, u3, u4, u5, u6, u7⟩ := r1'.2 c hc
        rw [z_upd, z_upd, z_upd, z_upd, z_upd, z_upd, z_upd, if_neg (by omega), if_neg (by omega), if_neg (by omega), if_neg (by omega), if_neg (by omega), if_neg (by omega), e6 _ (by omega), e6 _ (by omega), e6 _ (by omega), e6 _ (by omega), e6 _ (by omega), e6 _ (by omega)]
        refine ⟨u1, u2, u3, u4, u5, u6, fun g => ?_⟩
        by_cases d : c = dg q
        · rw [d] at g; exact absurd x2 g
        · rw [if_neg (by omega), e6 _ (by omega)]; exact u7 g
      · rw [z_upd, if_neg (by omega)]; exact e5
      · obtain ⟨g1, g2, g3⟩ := r4 k hk
        show ((if k = q then 2 else ph k) = 0 → busy k = -1) ∧ ((if k = q then 2 else ph k) ≠ 0 → busy k = nI (dg k) ∧ (if k = q then nI 1 else isD k) = nI (if (if k = q then 2 else ph k) = 2 then 1 else 0)) ∧ ((if k = q then 2 else ph k) = 2 → (if 7 * dg k + 6 = 7 * dg q + 6 then _ else st' (7 * dg k + 6)) = nI (if k = q then _ else an k))
        by_cases d : k = q
        · rw [if_pos d, if_pos d, if_pos d, if_pos rfl, if_pos (by rw [d])]
          exact ⟨fun h => absurd h (by omega), fun _ => ⟨by rw [d]; exact y1, rfl⟩, fun _ => rfl⟩
        · rw [if_neg d, if_neg d, if_neg d]
          refine ⟨g1, g2, fun h => ?_⟩
          obtain ⟨v1, v2, v3⟩ := (i6 k hk).2.1 (by omega)
          have hne : dg k ≠ dg q := fun e => d (by rw [← v3, e]; exact x3)
          rw [if_neg (by omega), e6 _ (by omega), hst _ (by omega)]
          exact g3 h
    · have q2 : ph q = 2 := by have := (i6 q hq).1; omega
      rw [if_neg q1, if_pos q2]
      simp only [n1_0, ↓reduceIte]
      have hans := (c3 q hq).2.2 q2
      have hst6 := (r4 q hq).2.2 q2
      have han := (i6 q hq).2.2 q2
      obtain ⟨f5', f6', e1, e2⟩ := X0_close c1 hm20 x1 (nI (mn + 1)) (nI (an q))
      have k5 : (7 : Int32) * nI (dg q) + 5 = nI (7 * dg q + 5) := by rw [zl_7, zl_5, zq_mul, zq_add]
      have k5' : (nI (7 * dg q + 5)).toNatClampNeg = 7 * dg q + 5 := zd_cl (by omega)
      have k5i : (nI (7 * dg q + 5) < 0 ∨ 142 ≤ 7 * dg q + 5) = False := eq_false (zin (by omega) (by omega))
      rw [hans, e1, z_b2]
      simp only [k5, k5', k5i, ↓reduceIte]
      refine ⟨clsK K (dg q) (nI (mn + 1)) (nI (an q)), un ph q 0, dg, an, cp, nxt s, 1, nn, upd phs q 0, tills, f0, f1, f2, f3, f4, f5', f6', dng, ans, upd st1 (7 * dg q + 5) (nI (mn + 1)), upd busy q (-1), isD, m, ra, ⟨okC_cls i1 x1 (hcb _ x1) (by omega) han, i2, hs', i4, hcb, fun k hk => ?_⟩, by omega, rfl, ⟨e2, c2, fun k hk => ?_⟩, fun kf v5 => rfl, ⟨⟨?_, fun c hc => ?_⟩, ?_, r3, fun k hk => ?_⟩⟩
      · obtain ⟨g1, g2, g3⟩ := i6 k hk
        show (if k = q then 0 else ph k) ≤ 2 ∧ ((if k = q then 0 else ph k) ≠ 0 → dg k < cm K ∧ (if dg k = dg q then nI (mn + 1) else ce K (dg k)) = -2 ∧ cq K (dg k) = k) ∧ ((if k = q then 0 else ph k) = 2 → an k ≤ 99)
        by_cases d : k = q
        · rw [if_pos d]
          exact ⟨by omega, fun h => absurd rfl h, fun h => absurd h (by omega)⟩
        · rw [if_neg d]
          refine ⟨g1, fun h => ?_, g3⟩
          obtain ⟨v1, v2, v3⟩ := g2 h
          have hne : dg k ≠ dg q := fun e => d (by rw [← v3, e]; exact x3)
          rw [if_neg hne]
          exact ⟨v1, v2, v3⟩
      · obtain ⟨g1, g2, g3⟩ := c3 k hk
        show (if k = q then (0 : Int32) else phs k) = nI (if k = q then 0 else ph k) ∧ ((if k = q then 0 else ph k) ≠ 0 → dng k = nI (dg k)) ∧ ((if k = q then 0 else ph k) = 2 → ans k = nI (an k))
        by_cases d : k = q
        · rw [if_pos d, if_pos d]
          exact ⟨rfl, fun h => absurd rfl h, fun h => absurd h (by omega)⟩
        · rw [if_neg d, if_neg d]; exact ⟨g1, g2, g3⟩
      · rw [z_upd, if_neg (by omega)]; exact r1'.1
      · have hc' : c < cm K := hc
        obtain ⟨u1, u2, u3, u4, u5, u6, u7⟩ := r1'.2 c hc'
        rw [z_upd, z_upd, z_upd, z_upd, z_upd, z_upd, z_upd, if_neg (by omega), if_neg (by omega), if_neg (by omega), if_neg (by omega), if_neg (by omega), if_neg (show ¬ 7 * c + 6 = 7 * dg q + 5 by omega)]
        refine ⟨u1, u2, u3, u4, u5, ?_, ?_⟩
        · show _ = (if c = dg q then nI (mn + 1) else ce K c)
          by_cases d : c = dg q
          · rw [if_pos d, if_pos (by omega)]
          · rw [if_neg d, if_neg (by omega)]; exact u6
        · show (if c = dg q then nI (mn + 1) else ce K c) ≠ -2 → _ = (if c = dg q then nI (an q) else cv K c)
          by_cases d : c = dg q
          · rw [if_pos d, if_pos d, d]
            intro _
            rw [hst _ (by omega)]
            exact hst6
          · rw [if_neg d, if_neg d]; exact u7
      · rw [z_upd, if_neg (by omega)]; exact hst0
      · obtain ⟨g1, g2, g3⟩ := r4 k hk
        show ((if k = q then 0 else ph k) = 0 → (if k = q then -1 else busy k) = -1) ∧ ((if k = q then 0 else ph k) ≠ 0 → (if k = q then -1 else busy k) = nI (dg k) ∧ isD k = nI (if (if k = q then 0 else ph k) = 2 then 1 else 0)) ∧ ((if k = q then 0 else ph k) = 2 → (if 7 * dg k + 6 = 7 * dg q + 5 then _ else st1 (7 * dg k + 6)) = nI (an k))
        by_cases d : k = q
        · rw [if_pos d, if_pos d]
          exact ⟨fun _ => rfl, fun h => absurd rfl h, fun h => absurd h (by omega)⟩
        · rw [if_neg d, if_neg d]
          refine ⟨g1, g2, fun h => ?_⟩
          have := ((i6 k hk).2.1 (by omega)).1
          rw [if_neg (by omega), hst _ (by omega)]
          exact g3 h
