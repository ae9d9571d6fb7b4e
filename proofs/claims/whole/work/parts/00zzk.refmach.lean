/-! the reference's machines: a call done -/
def acL (m : Nat → Int64) (i : Nat) (v : Int64) : Nat → Int64 := vp_updL m i v
theorem X10_doIt {fu : Nat} (hfu : 20000 ≤ fu) {kd cp : Nat → Nat} {nt late : Nat} (hnt : nt ≤ 3) (hkd : ∀ t, t < 3 → kd t < 5) {st r : Nat → Int32} {m : Nat → Int64} (hr : RLy kd nt late r) (hm : RM kd nt cp m) {copy c t a w : Nat} (hcp : copy < 5) (hc : c < 20) (ht : t < nt) (ha : okA (kd t) a) (hw : w ≤ 9)
    (h1 : st (7 * c + 1) = nI t) (h2 : st (7 * c + 2) = nI a) (h3 : st (7 * c + 3) = nI w) : ∃ m', F_X10_doIt fu st r m (nI copy) (nI c) = some (nI (sy (kd t) (cp (3 * copy + t)) a w), nI (sy (kd t) (cp (3 * copy + t)) a w), m') ∧ RM kd nt (acp kd cp copy t a w) m' := by
  have e : (3 * copy + t) % 3 = t := by omega
  have htr := hm (3 * copy + t) (by omega) (by omega)
  rw [e] at htr
  obtain ⟨y', ed, htr'⟩ := X10_done fu (by omega) (hkd t (by omega)) htr ha hw
  have i1 : (7 : Int32) * nI c + 1 = nI (7 * c + 1) := by rw [zl_7, zl_1, zq_mul, zq_add]
  have i2 : (7 : Int32) * nI c + 2 = nI (7 * c + 2) := by rw [zl_7, zl_2, zq_mul, zq_add]
  have i3 : (7 : Int32) * nI c + 3 = nI (7 * c + 3) := by rw [zl_7, zl_3, zq_mul, zq_add]
  have j1 : (3 : Int32) + nI t = nI (3 + t) := by rw [zl_3, zq_add]
  have j2 : (3 : Int32) * nI copy + nI t = nI (3 * copy + t) := by rw [zl_3, zq_mul, zq_add]
  refine ⟨vp_updL m (3 * copy + t) y', ?_, fun i hi hit => ?_⟩
  · unfold F_X10_doIt
    rw [i1, i2, i3, if_neg (nI_in (by omega) (by omega)), zd_cl (by omega), h1, j1, j2, if_neg (nI_in (by omega) (by omega)), if_neg (nI_in (by omega) (by omega)), if_neg (nI_in (by omega) (by omega)), if_neg (nI_in (by omega) (by omega)), zd_cl (by omega), zd_cl (by omega), zd_cl (by omega), zd_cl (by omega), h2, h3, hr.2.2 t ht, ed, z_b2, if_neg (zin (by omega) (by omega))]
  · rw [z_updL]
    unfold acp
    by_cases q : i = 3 * copy + t
    · rw [if_pos q, if_pos q, q, e]; exact htr'
    · rw [if_neg q, if_neg q]; exact hm i hi hit
theorem X10_doBy63 {kd cp : Nat → Nat} {nt : Nat} {a1 v5 : Int32} {st : Nat → Int32} {k : Nat} (hk : k < 4) {m0 : Nat → Int64} : ∀ (j kf i : Nat) (m : Nat → Int64), j < kf → i + j = 3 →
    (∀ p, p < 15 → m p = if 3 * (1 + k) ≤ p ∧ p < 3 * (1 + k) + i then m0 (p - 3 * (1 + k)) else m0 p) →
    ∃ m', F_X10_doBy_b63 a1 st (nI k) v5 kf m (nI i) = some (v5, a1, st, m') ∧ ∀ p, p < 15 → m' p = if 3 * (1 + k) ≤ p ∧ p < 3 * (1 + k) + 3 then m0 (p - 3 * (1 + k)) else m0 p
  | 0, kf, i, m, hj, hi, hm => by
    obtain ⟨g, rfl⟩ : ∃ g, kf = g + 1 := ⟨kf - 1, by omega⟩
    have : i = 3 := by omega
    subst this
    rw [F_X10_doBy_b63, if_pos (by decide)]
    exact ⟨m, rfl, hm⟩
  | j + 1, kf, i, m, hj, hi, hm => by
    obtain ⟨g, rfl⟩ : ∃ g, kf = g + 1 := ⟨kf - 1, by omega⟩
    have j2 : (3 : Int32) * ((1 : Int32) + nI k) + nI i = nI (3 * (1 + k) + i) := by rw [zl_3, zl_1, zq_add, zq_mul, zq_add]
    have i1 : nI i + (1 : Int32) = nI (i + 1) := by rw [zl_1, zq_add]
    rw [F_X10_doBy_b63, if_neg (by rw [zl_3, zd_le (by omega) (by omega)]; omega), j2, if_neg (nI_in (by omega) (by omega)), if_neg (nI_in (by omega) (by omega)), zd_cl (by omega), zd_cl (by omega), i1]
    refine X10_doBy63 (kd := kd) (cp := cp) (nt := nt) hk j g (i + 1) _ (by omega) (by omega) (fun p hp => ?_)
    rw [z_updL]
    by_cases q : p = 3 * (1 + k) + i
    · rw [if_pos q, if_pos (by omega), hm i (by omega), if_neg (by omega), q]
      congr 1
      omega
    · rw [if_neg q, hm p hp]
      by_cases d : 3 * (1 + k) ≤ p ∧ p < 3 * (1 + k) + i
      · rw [if_pos d, if_pos (by omega)]
      · rw [if_neg d, if_neg (by omega)]
theorem X10_doBy {fu : Nat} (hfu : 20000 ≤ fu) {kd cp : Nat → Nat} {nt late : Nat} (hnt : nt ≤ 3) (hkd : ∀ t, t < 3 → kd t < 5) {st r : Nat → Int32} {m : Nat → Int64} (hr : RLy kd nt late r) (hm : RM kd nt cp m) (hok : okM kd cp) {mk k s c t a w : Nat} (hmk : mk ≤ 2) (hk : k < 4) (hs : s < 65537) (hc : c < 20) (ht : t < nt) (ha : okA (kd t) a) (hw : w ≤ 9)
    (h0 : st 140 = nI s) (h1 : st (7 * c + 1) = nI t) (h2 : st (7 * c + 2) = nI a) (h3 : st (7 * c + 3) = nI w) :
    ∃ ans' st' m', F_X10_doBy fu st r m (nI mk) (nI k) (nI c) = some (nI (mrr kd cp mk k t a w s), ans', st', m') ∧ RM kd nt (mcp kd cp mk k t a w s) m' ∧ st' 140 = nI (msd mk s) ∧ ∀ p, p ≠ 140 → st' p = st p := by
  have ha3 : a < 3 := ha.1
  have m1 : (nI mk = (1 : Int32)) = (mk = 1) := by rw [zl_1]; exact zd_eq (by omega) (by omega)
  have m0 : (nI mk = (0 : Int32)) = (mk = 0) := by rw [zl_0]; exact zd_eq (by omega) (by omega)
  have a2 : (nI a = (2 : Int32)) = (a = 2) := by rw [zl_2]; exact zd_eq (by omega) (by omega)
  have i2 : (7 : Int32) * nI c + 2 = nI (7 * c + 2) := by rw [zl_7, zl_2, zq_mul, zq_add]
  have hm3 := Nat.mod_lt (nxt s) (by omega : 3 > 0)
  have key : ∀ t0 : Nat, t0 = (if a = 2 then 1 else 0) → ∃ ans' st' m', F_X10_doBy_b20 fu st r m (nI mk) (nI k) (nI c) (nI t0) = some (nI (mrr kd cp mk k t a w s), ans', st', m') ∧ RM kd nt (mcp kd cp mk k t a w s) m' ∧ st' 140 = nI (msd mk s) ∧ ∀ p, p ≠ 140 → st' p = st p := by
    intro t0 ht0
    have ht01 : t0 ≤ 1 := by rw [ht0]; split <;> omega
    have z0 : (nI t0 = (0 : Int32)) = (a ≠ 2) := by
      rw [zl_0, zd_eq (by omega) (by omega), ht0]
      by_cases ca : a = 2 <;> simp [ca]
    unfold F_X10_doBy_b20 mrr mcp
    by_cases c0 : mk = 0
    · have hmat : mat mk k a s = 0 := by unfold mat; rw [if_neg (by omega), if_pos c0]
      have hms : msd mk s = s := if_neg (by omega)
      obtain ⟨m', e, hm'⟩ := X10_doIt hfu hnt hkd hr hm (by omega : 0 < 5) hc ht ha hw h1 h2 h3
      have e' : F_X10_doIt fu st r m 0 (nI c) = _ := e
      rw [if_pos (by rw [m0]; exact c0), e', z_b3, hmat, if_pos (Or.inr c0), hms]
      exact ⟨_, st, m', rfl, hm', h0, fun _ _ => rfl⟩
    · rw [if_neg (by rw [m0]; exact c0)]
      by_cases c1 : mk = 1
      · have hms : msd mk s = s := if_neg (by omega)
        rw [if_pos (by rw [m1]; exact c1), hms]
        by_cases ca : a = 2
        · have hmat : mat mk k a s = 1 + k := by unfold mat; rw [if_neg (by omega), if_neg c0, if_pos ca]
          obtain ⟨m', e, hm'⟩ := X10_doIt hfu hnt hkd hr hm (by omega : 1 + k < 5) hc ht ha hw h1 h2 h3
          have k1 : (1 : Int32) + nI k = nI (1 + k) := by rw [zl_1, zq_add]
          rw [if_neg (by rw [z0]; simp [ca]), k1, e, z_b3, hmat, if_pos (Or.inl ca)]
          exact ⟨_, st, m', rfl, hm', h0, fun _ _ => rfl⟩
        · have hmat : mat mk k a s = 0 := by unfold mat; rw [if_neg (by omega), if_neg c0, if_neg ca]
          obtain ⟨m', e, hm'⟩ := X10_doIt hfu hnt hkd hr hm (by omega : 0 < 5) hc ht ha hw h1 h2 h3
          have e' : F_X10_doIt fu st r m 0 (nI c) = _ := e
          obtain ⟨m2, e2, hm2⟩ := X10_doBy63 (kd := kd) (cp := cp) (nt := nt) (a1 := nI (sy (kd t) (cp (3 * 0 + t)) a w)) (v5 := nI (sy (kd t) (cp (3 * 0 + t)) a w)) (st := st) hk (m0 := m') 3 fu 0 m' (by omega) (by omega) (fun p hp => by rw [if_neg (by omega)])
          have e2' : F_X10_doBy_b63 (nI (sy (kd t) (cp (3 * 0 + t)) a w)) st (nI k) (nI (sy (kd t) (cp (3 * 0 + t)) a w)) fu m' 0 = _ := e2
          rw [if_pos (by rw [z0]; exact ca), e', z_b3, e2', hmat, if_neg (by omega), if_neg (by omega)]
          refine ⟨_, st, m2, rfl, fun i hi hit => ?_, h0, fun _ _ => rfl⟩
          rw [hm2 i hi]
          unfold copy3
          by_cases q : 3 * (1 + k) ≤ i ∧ i < 3 * (1 + k) + 3
          · rw [if_pos q, if_pos q]
            have e3 : i % 3 = (i - 3 * (1 + k)) % 3 := by omega
            rw [e3] at hit ⊢
            exact hm' _ (by omega) hit
          · rw [if_neg q, if_neg q]; exact hm' i hi hit
      · have c2 : mk = 2 := by omega
        have hmat : mat mk k a s = mfi s := if_pos c2
        have hms : msd mk s = nxt s := if_pos c2
        have hfi : mfi s < 5 := by unfold mfi; split <;> omega
        have d3 : F_X10_draw st 3 = some (nI (nxt s % 3), upd st 140 (nI (nxt s))) := X10_draw (m := 3) h0 hs (by omega) (by omega)
        have hst : ∀ p, p ≠ 140 → upd st 140 (nI (nxt s)) p = st p := fun p hp => by rw [z_upd, if_neg hp]
        rw [if_neg (by rw [m1]; exact c1), d3, z_b2, hms, hmat, if_pos c2]
        have q1 : upd st 140 (nI (nxt s)) (7 * c + 1) = nI t := by rw [hst _ (by omega)]; exact h1
        have q2 : upd st 140 (nI (nxt s)) (7 * c + 2) = nI a := by rw [hst _ (by omega)]; exact h2
        have q3 : upd st 140 (nI (nxt s)) (7 * c + 3) = nI w := by rw [hst _ (by omega)]; exact h3
        have k128 : ∃ ans' st' m', F_X10_doBy_b128 fu (upd st 140 (nI (nxt s))) r m (nI c) (nI (mse s)) (nI (mfi s)) (nI t0) = some (nI (sy (kd t) (cp (3 * mfi s + t)) a w), ans', st', m') ∧ RM kd nt (if a = 2 ∨ mk = 0 then acp kd cp (mfi s) t a w else acp kd (acp kd cp (mfi s) t a w) (mse s) t a w) m' ∧ st' 140 = nI (nxt s) ∧ ∀ p, p ≠ 140 → st' p = st p := by
          obtain ⟨m', e, hm'⟩ := X10_doIt hfu hnt hkd hr hm hfi hc ht ha hw q1 q2 q3
          unfold F_X10_doBy_b128
          rw [e, z_b3]
          by_cases ca : a = 2
          · rw [if_neg (by rw [z0]; simp [ca]), if_pos (Or.inl ca)]
            exact ⟨_, _, m', rfl, hm', by rw [z_upd, if_pos rfl], hst⟩
          · obtain ⟨m2, e2, hm2⟩ := X10_doIt hfu hnt hkd hr hm' (mse_lt s) hc ht ha hw q1 q2 q3
            have hok2 := okM_acp hok hkd hfi (by omega : t < 3) ha hw
            have hle := sy_lt (a := a) (w := w) (hkd t (by omega)) (by
              have := hok2 (3 * mse s + t) (by have := mse_lt s; omega)
              rw [show (3 * mse s + t) % 3 = t by omega] at this
              exact this)
            have hge : (-1 : Int32) ≤ nI (sy (kd t) (acp kd cp (mfi s) t a w (3 * mse s + t)) a w) := by
              rw [Int32.le_iff_toInt_le, nI_toInt (by omega)]
              have : (-1 : Int32).toInt = -1 := by decide
              omega
            rw [if_pos (by rw [z0]; exact ca), e2, z_b3, if_pos hge, if_neg (by omega)]
            exact ⟨_, _, m2, rfl, hm2, by rw [z_upd, if_pos rfl], hst⟩
        have y0 : (nI (nxt s % 3) = (0 : Int32)) = (nxt s % 3 = 0) := by rw [zl_0]; exact zd_eq (by omega) (by omega)
        have y2 : (nI (nxt s % 3) = (2 : Int32)) = (nxt s % 3 = 2) := by rw [zl_2]; exact zd_eq (by omega) (by omega)
        unfold F_X10_doBy_b115
        have fi0 : nxt s % 3 = 0 → mfi s = 1 ∧ mse s = 2 := fun h => ⟨if_pos h, if_neg (by omega)⟩
        have fi1 : ¬ nxt s % 3 = 0 → mfi s = 0 := fun h => if_neg h
        by_cases p0 : nxt s % 3 = 0
        · obtain ⟨f1, f2⟩ := fi0 p0
          rw [f1, f2] at k128
          rw [if_pos (by rw [y0]; exact p0), if_neg (by rw [y2]; omega), f1, f2]
          exact k128
        · have f1 := fi1 p0
          rw [if_neg (by rw [y0]; exact p0)]
          by_cases p2 : nxt s % 3 = 2
          · have f2 : mse s = 1 := if_pos p2
            rw [f1, f2] at k128
            rw [if_pos (by rw [y2]; exact p2), f1, f2]
            exact k128
          · have f2 : mse s = 2 := if_neg p2
            rw [f1, f2] at k128
            rw [if_neg (by rw [y2]; exact p2), f1, f2]
            exact k128
  unfold F_X10_doBy
  rw [i2, if_neg (nI_in (by omega) (by omega)), zd_cl (by omega), h2]
  by_cases ca : a = 2
  · rw [if_pos (by rw [a2]; exact ca)]
    exact key 1 (by rw [if_pos ca])
  · rw [if_neg (by rw [a2]; exact ca)]
    exact key 0 (by rw [if_neg ca])
