/-! a machine's call begins: the reference -/
def RKm (K : Ca) (st : Nat → Int32) : Prop := st 141 = nI (cm K) ∧ ∀ c, c < cm K →
  st (7 * c) = nI (cq K c) ∧ st (7 * c + 1) = nI (ct K c) ∧ st (7 * c + 2) = nI (cac K c) ∧ st (7 * c + 3) = nI (cw K c) ∧ st (7 * c + 4) = nI (cb K c) ∧ st (7 * c + 5) = ce K c ∧ (ce K c ≠ -2 → st (7 * c + 6) = cv K c)
theorem X10_b139 {st busy isD : Nat → Int32} {m q b w : Nat} (hm : m < 20) (hq : q < 4) (h : st 141 = nI m) : ∃ st', F_X10_beginsCall_b139 st busy isD (nI q) (nI b) (nI m) (nI (7 * m)) (nI w) (nI (7 * m + 3)) = some (st', upd busy q (nI m), upd isD q 0) ∧ st' 141 = nI (m + 1) ∧ st' (7 * m + 3) = nI w ∧ st' (7 * m + 4) = nI b ∧ st' (7 * m + 5) = -2 ∧ st' (7 * m + 6) = -2 ∧ ∀ p, p ≠ 141 → (p < 7 * m + 3 ∨ 7 * m + 7 ≤ p) → st' p = st p := by
  have i4 : nI (7 * m) + (4 : Int32) = nI (7 * m + 4) := by rw [zl_4, zq_add]
  have i5 : nI (7 * m) + (5 : Int32) = nI (7 * m + 5) := by rw [zl_5, zq_add]
  have i6 : nI (7 * m) + (6 : Int32) = nI (7 * m + 6) := by rw [zl_6, zq_add]
  have h141 : (141 : Int32).toNatClampNeg = 141 := rfl
  have hb0 : vp_nar .boolean (0 : Int32) = 0 := by decide
  have k3 : (nI (7 * m + 3)).toNatClampNeg = 7 * m + 3 := zd_cl (by omega)
  have k4 : (nI (7 * m + 4)).toNatClampNeg = 7 * m + 4 := zd_cl (by omega)
  have k5 : (nI (7 * m + 5)).toNatClampNeg = 7 * m + 5 := zd_cl (by omega)
  have k6 : (nI (7 * m + 6)).toNatClampNeg = 7 * m + 6 := zd_cl (by omega)
  have kq : (nI q).toNatClampNeg = q := zd_cl (by omega)
  have i1 : nI m + (1 : Int32) = nI (m + 1) := by rw [zl_1, zq_add]
  unfold F_X10_beginsCall_b139
  rw [i4, i5, i6, if_neg (nI_in (by omega) (by omega)), if_neg (nI_in (by omega) (by omega)), if_neg (nI_in (by omega) (by omega)), if_neg (nI_in (by omega) (by omega)), if_neg (nI_in (by omega) (by omega)), if_neg (nI_in (by omega) (by omega)), h141, hb0, k3, k4, k5, k6, kq]
  refine ⟨_, rfl, ?_, ?_, ?_, ?_, ?_, fun p hp hq => ?_⟩
  · simp (disch := omega) only [z_upd, zt_eq, zf_eq, ↓reduceIte]
    rw [h, i1]
  · simp (disch := omega) only [z_upd, zt_eq, zf_eq, ↓reduceIte]
  · simp (disch := omega) only [z_upd, zt_eq, zf_eq, ↓reduceIte]
  · simp (disch := omega) only [z_upd, zt_eq, zf_eq, ↓reduceIte]
  · simp (disch := omega) only [z_upd, zt_eq, zf_eq, ↓reduceIte]
  · simp (disch := omega) only [z_upd, zt_eq, zf_eq, ↓reduceIte]
theorem X10_b77 {st busy isD : Nat → Int32} {m q b t a k s : Nat} (hm : m < 20) (hq : q < 4) (hk : k < 5) (ha : a < 3) (hs : s < 65537) (h : st 141 = nI m) (h0 : st 140 = nI s) :
    ∃ st', F_X10_beginsCall_b77 st busy isD (nI q) (nI b) (nI m) (nI (7 * m)) (nI t) (nI k) (nI a) = some (st', upd busy q (nI m), upd isD q 0) ∧ st' 141 = nI (m + 1) ∧ st' (7 * m) = nI q ∧ st' (7 * m + 1) = nI t ∧ st' (7 * m + 2) = nI a ∧ st' (7 * m + 3) = nI (if hwh k a = true then nxt s % 10 else 0) ∧ st' (7 * m + 4) = nI b ∧ st' (7 * m + 5) = -2 ∧ st' (7 * m + 6) = -2 ∧ st' 140 = nI (if hwh k a = true then nxt s else s) ∧ ∀ p, p < 7 * m → st' p = st p := by
  have i0 : nI (7 * m) + (0 : Int32) = nI (7 * m) := by rw [zl_0, zq_add]; rfl
  have i1 : nI (7 * m) + (1 : Int32) = nI (7 * m + 1) := by rw [zl_1, zq_add]
  have i2 : nI (7 * m) + (2 : Int32) = nI (7 * m + 2) := by rw [zl_2, zq_add]
  have i3 : nI (7 * m) + (3 : Int32) = nI (7 * m + 3) := by rw [zl_3, zq_add]
  have k0 : (nI (7 * m)).toNatClampNeg = 7 * m := zd_cl (by omega)
  have k1 : (nI (7 * m + 1)).toNatClampNeg = 7 * m + 1 := zd_cl (by omega)
  have k2 : (nI (7 * m + 2)).toNatClampNeg = 7 * m + 2 := zd_cl (by omega)
  have key : ∀ (st1 : Nat → Int32) (w s' : Nat), st1 141 = nI m → st1 140 = nI s' → st1 (7 * m) = nI q → st1 (7 * m + 1) = nI t → st1 (7 * m + 2) = nI a → (∀ p, p < 7 * m → st1 p = st p) →
      ∃ st', F_X10_beginsCall_b139 st1 busy isD (nI q) (nI b) (nI m) (nI (7 * m)) (nI w) (nI (7 * m + 3)) = some (st', upd busy q (nI m), upd isD q 0) ∧ st' 141 = nI (m + 1) ∧ st' (7 * m) = nI q ∧ st' (7 * m + 1) = nI t ∧ st' (7 * m + 2) = nI a ∧ st' (7 * m + 3) = nI w ∧ st' (7 * m + 4) = nI b ∧ st' (7 * m + 5) = -2 ∧ st' (7 * m + 6) = -2 ∧ st' 140 = nI s' ∧ ∀ p, p < 7 * m → st' p = st p := by
    intro st1 w s' g1 g2 g3 g4 g5 g6
    obtain ⟨st', e, e1, e2, e3, e4, e5, e6⟩ := X10_b139 (busy := busy) (isD := isD) (b := b) (w := w) hm hq g1
    exact ⟨st', e, e1, by rw [e6 _ (by omega) (by omega)]; exact g3, by rw [e6 _ (by omega) (by omega)]; exact g4, by rw [e6 _ (by omega) (by omega)]; exact g5, e2, e3, e4, e5, by rw [e6 _ (by omega) (by omega)]; exact g2, fun p hp => by rw [e6 _ (by omega) (by omega)]; exact g6 p hp⟩
  unfold F_X10_beginsCall_b77
  rw [i0, i1, i2, i3, if_neg (nI_in (by omega) (by omega)), if_neg (nI_in (by omega) (by omega)), if_neg (nI_in (by omega) (by omega)), X10_hasWholeA k hk a ha, z_b1, k0, k1, k2]
  by_cases c : hwh k a = true
  · have hst2 : (upd (upd (upd st (7 * m) (nI q)) (7 * m + 1) (nI t)) (7 * m + 2) (nI a)) 140 = nI s := by
      simp (disch := omega) only [z_upd, zt_eq, zf_eq, ↓reduceIte]
      exact h0
    have d10 : F_X10_draw (upd (upd (upd st (7 * m) (nI q)) (7 * m + 1) (nI t)) (7 * m + 2) (nI a)) 10 = _ := X10_draw (m := 10) hst2 hs (by omega) (by omega)
    rw [if_pos c, if_neg n1_0, d10, z_b2, if_pos c, if_pos c]
    refine key _ _ _ ?_ ?_ ?_ ?_ ?_ (fun p hp => ?_)
    all_goals simp (disch := omega) only [z_upd, zt_eq, zf_eq, ↓reduceIte]
    exact h
  · rw [if_neg c, if_pos n0_0, if_neg c, if_neg c]
    refine key _ 0 _ ?_ ?_ ?_ ?_ ?_ (fun p hp => ?_)
    all_goals simp (disch := omega) only [z_upd, zt_eq, zf_eq, ↓reduceIte]
    · exact h
    · exact h0
theorem X10_b55 {st busy isD : Nat → Int32} {m q b t k s : Nat} (hk : k < 5) (hs : s < 65537) (h0 : st 140 = nI s) :
    F_X10_beginsCall_b55 st busy isD (nI q) (nI b) (nI m) (nI (7 * m)) (nI t) (nI k) (nI (aco k)) = F_X10_beginsCall_b77 (upd st 140 (nI (nxt s))) busy isD (nI q) (nI b) (nI m) (nI (7 * m)) (nI t) (nI k) (nI (aat k (nxt s % aco k))) := by
  have hac : 0 < aco k ∧ aco k ≤ 3 := by unfold aco; split <;> omega
  have hd := Nat.mod_lt (nxt s) hac.1
  unfold F_X10_beginsCall_b55 F_X10_beginsCall_b75
  rw [X10_draw h0 hs hac.1 (by omega), z_b2]
  have e0 : (nI k = (0 : Int32)) = (k = 0) := by rw [zl_0]; exact zd_eq (by omega) (by omega)
  have e1 : (nI (nxt s % aco k) = (1 : Int32)) = (nxt s % aco k = 1) := by rw [zl_1]; exact zd_eq (by omega) (by omega)
  simp only [e0, e1]
  by_cases c : k = 0
  · rw [if_pos c]
    have ha : aco k = 2 := by unfold aco; rw [if_pos (Or.inl c)]
    by_cases d : nxt s % aco k = 1
    · rw [if_pos d]
      have : aat k (nxt s % aco k) = 2 := by unfold aat; rw [if_neg (by omega), if_pos d, if_pos c]
      rw [this]; rfl
    · rw [if_neg d]
      have : aat k (nxt s % aco k) = nxt s % aco k := by unfold aat; rw [if_pos (by omega)]; omega
      rw [this]
  · rw [if_neg c]
    have : aat k (nxt s % aco k) = nxt s % aco k := by
      unfold aat
      split
      · omega
      · split
        · first | (rw [if_neg c]; omega) | omega
        · omega
    rw [this]
theorem X10_beginsCall {K : Ca} {kd : Nat → Nat} {nt late s : Nat} (hnt : 0 < nt) (hnt3 : nt ≤ 3) (hkd : ∀ t, t < 3 → kd t < 5) {st r busy isD : Nat → Int32} (hr : RLy kd nt late r) (hs : s < 65537) (h : RKm K st) (h0 : st 140 = nI s) (hm : cm K < 20) {q : Nat} (hq : q < 4) (b : Nat) :
    ∃ st', F_X10_beginsCall st r busy isD (nI q) (nI b) = some (st', upd busy q (nI (cm K)), upd isD q 0) ∧ RKm (addK K q (bgt nt s) (bga kd nt s) (bgw kd nt s) b) st' ∧ st' 140 = nI (bgs kd nt s) ∧ ∀ p, p < 7 * cm K → st' p = st p := by
  obtain ⟨b1, b2, b3, b4⟩ := bg_ok (s := s) hnt hnt3 hkd
  have ht3 : bgt nt s < 3 := by omega
  have hk := hkd _ ht3
  have h2 : (2 : Int32).toNatClampNeg = 2 := rfl
  have h141 : (141 : Int32).toNatClampNeg = 141 := rfl
  have i3 : (3 : Int32) + nI (bgt nt s) = nI (3 + bgt nt s) := by rw [zl_3, zq_add]
  have i7 : (7 : Int32) * nI (cm K) = nI (7 * cm K) := by rw [zl_7, zq_mul]
  have e1 : F_X10_draw st (nI nt) = some (nI (bgt nt s), upd st 140 (nI (nxt s))) := X10_draw h0 hs hnt (by omega)
  have k3 : (nI (3 + bgt nt s)).toNatClampNeg = 3 + bgt nt s := zd_cl (by omega)
  have g0 : upd st 140 (nI (nxt s)) 140 = nI (nxt s) := by rw [z_upd, if_pos rfl]
  have e55 := X10_b55 (st := upd st 140 (nI (nxt s))) (busy := busy) (isD := isD) (m := cm K) (q := q) (b := b) (t := bgt nt s) hk (nxt_lt s) g0
  have hcalc : F_X10_beginsCall st r busy isD (nI q) (nI b) = F_X10_beginsCall_b77 (upd (upd st 140 (nI (nxt s))) 140 (nI (nxt (nxt s)))) busy isD (nI q) (nI b) (nI (cm K)) (nI (7 * cm K)) (nI (bgt nt s)) (nI (kd (bgt nt s))) (nI (bga kd nt s)) := by
    rw [show bga kd nt s = aat (kd (bgt nt s)) (nxt (nxt s) % aco (kd (bgt nt s))) from rfl, ← e55]
    unfold F_X10_beginsCall F_X10_beginsCall_b50
    rw [h2, hr.2.1, e1, z_b2, i3, if_neg (nI_in (by omega) (by omega)), k3, hr.2.2 _ b1, h141, h.1, i7]
    have c0 : (nI (kd (bgt nt s)) = (0 : Int32)) = (kd (bgt nt s) = 0) := by rw [zl_0]; exact zd_eq (by omega) (by omega)
    have c1 : (nI (kd (bgt nt s)) = (1 : Int32)) = (kd (bgt nt s) = 1) := by rw [zl_1]; exact zd_eq (by omega) (by omega)
    simp only [c0, c1]
    by_cases d0 : kd (bgt nt s) = 0
    · rw [if_pos d0, show aco (kd (bgt nt s)) = 2 from by unfold aco; rw [if_pos (Or.inl d0)]]; rfl
    · rw [if_neg d0]
      by_cases d1 : kd (bgt nt s) = 1
      · rw [if_pos d1, show aco (kd (bgt nt s)) = 2 from by unfold aco; rw [if_pos (Or.inr d1)]]; rfl
      · rw [if_neg d1, show aco (kd (bgt nt s)) = 3 from by unfold aco; rw [if_neg (by omega)]]; rfl
  have g0' : upd (upd st 140 (nI (nxt s))) 140 (nI (nxt (nxt s))) 140 = nI (nxt (nxt s)) := by rw [z_upd, if_pos rfl]
  have g141 : upd (upd st 140 (nI (nxt s))) 140 (nI (nxt (nxt s))) 141 = nI (cm K) := by rw [z_upd, if_neg (by omega), z_upd, if_neg (by omega)]; exact h.1
  obtain ⟨st', e, f1, f2, f3, f4, f5, f6, f7, f8, f9, f10⟩ := X10_b77 (busy := busy) (isD := isD) (q := q) (b := b) (t := bgt nt s) (a := bga kd nt s) (k := kd (bgt nt s)) hm hq hk b2.1 (nxt_lt _) g141 g0'
  have f10' : ∀ p, p < 7 * cm K → st' p = st p := fun p hp => by rw [f10 p hp, z_upd, if_neg (by omega), z_upd, if_neg (by omega)]
  refine ⟨st', by rw [hcalc, e], ⟨f1, fun c hc => ?_⟩, f9, f10'⟩
  have hc' : c < cm K + 1 := hc
  show st' (7 * c) = nI (if c = cm K then q else cq K c) ∧ st' (7 * c + 1) = nI (if c = cm K then _ else ct K c) ∧ st' (7 * c + 2) = nI (if c = cm K then _ else cac K c) ∧ st' (7 * c + 3) = nI (if c = cm K then _ else cw K c) ∧ st' (7 * c + 4) = nI (if c = cm K then b else cb K c) ∧ st' (7 * c + 5) = (if c = cm K then -2 else ce K c) ∧ ((if c = cm K then -2 else ce K c) ≠ -2 → st' (7 * c + 6) = (if c = cm K then -2 else cv K c))
  by_cases d : c = cm K
  · rw [if_pos d, if_pos d, if_pos d, if_pos d, if_pos d, if_pos d, if_pos d, d]
    exact ⟨f2, f3, f4, f5, f6, f7, fun h => absurd rfl h⟩
  · rw [if_neg d, if_neg d, if_neg d, if_neg d, if_neg d, if_neg d, if_neg d]
    rw [f10' _ (by omega), f10' _ (by omega), f10' _ (by omega), f10' _ (by omega), f10' _ (by omega), f10' _ (by omega), f10' _ (by omega)]
    exact h.2 c (by omega)
