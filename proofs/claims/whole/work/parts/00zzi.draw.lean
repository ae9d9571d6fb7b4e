/-! the machines: draws -/
def nxt (s : Nat) : Nat := (75 * s + 74) % 65537
theorem nxt_lt (s : Nat) : nxt s < 65537 := Nat.mod_lt _ (by omega)
theorem lin_e {s : Nat} (hs : s < 65537) : ((75 : Int32) * nI s + 74) - ((75 : Int32) * nI s + 74) / 65537 * 65537 = nI (nxt s) := by
  have h1 : (75 : Int32) * nI s + 74 = nI (75 * s + 74) := by rw [zl_75, zl_74, zq_mul, zq_add]
  have h2 : (65537 : Int32) = nI 65537 := rfl
  have h3 := Nat.div_add_mod (75 * s + 74) 65537
  rw [h1, h2, zI_div (by omega) (by omega), zq_mul, zq_sub (by omega)]
  congr 1
  unfold nxt
  omega
theorem mod_e {a m : Nat} (ha : a < 65537) (hm : m < 1000) : nI a - nI a / nI m * nI m = nI (a % m) := by
  have h3 := Nat.div_add_mod a m
  have h4 : a / m * m = m * (a / m) := Nat.mul_comm _ _
  rw [zI_div (by omega) (by omega), zq_mul, zq_sub (by omega)]
  congr 1
  omega
theorem X2_draw {s m : Nat} (hs : s < 65537) (hm : 0 < m) (hm2 : m < 1000) : F_X2_draw (nI s) (nI m) = some (nI (nxt s % m), nI (nxt s)) := by
  unfold F_X2_draw
  rw [lin_e hs, if_neg (by rw [zl_0, zd_le (by omega) (by omega)]; omega), if_neg (by rw [zl_0, zd_eq (by omega) (by omega)]; omega), mod_e (nxt_lt s) hm2]
theorem X10_draw {st : Nat → Int32} {s m : Nat} (h : st 140 = nI s) (hs : s < 65537) (hm : 0 < m) (hm2 : m < 1000) : F_X10_draw st (nI m) = some (nI (nxt s % m), upd st 140 (nI (nxt s))) := by
  unfold F_X10_draw
  have h1 : (140 : Int32).toNatClampNeg = 140 := rfl
  rw [h1, h, lin_e hs, if_neg (by rw [zl_0, zd_eq (by omega) (by omega)]; omega), z_upd, if_pos rfl, mod_e (nxt_lt s) hm2]
/-- which till, act and whole a beginning draws; the seed after it -/
def aco (k : Nat) : Nat := if k = 0 ∨ k = 1 then 2 else 3
def aat (k d : Nat) : Nat := if d = 0 then 0 else if d = 1 then (if k = 0 then 2 else 1) else 2
def hwh (k a : Nat) : Bool := decide (k = 2) || (decide (k < 2) && decide (a = 0)) || (decide (k = 4) && decide (a < 2))
def bgt (nt s : Nat) : Nat := nxt s % nt
def bga (kd : Nat → Nat) (nt s : Nat) : Nat := aat (kd (bgt nt s)) (nxt (nxt s) % aco (kd (bgt nt s)))
def bgw (kd : Nat → Nat) (nt s : Nat) : Nat := if hwh (kd (bgt nt s)) (bga kd nt s) = true then nxt (nxt (nxt s)) % 10 else 0
def bgs (kd : Nat → Nat) (nt s : Nat) : Nat := if hwh (kd (bgt nt s)) (bga kd nt s) = true then nxt (nxt (nxt s)) else nxt (nxt s)
theorem bg_ok {kd : Nat → Nat} {nt s : Nat} (hnt : 0 < nt) (hnt3 : nt ≤ 3) (hkd : ∀ t, t < 3 → kd t < 5) : bgt nt s < nt ∧ okA (kd (bgt nt s)) (bga kd nt s) ∧ bgw kd nt s ≤ 9 ∧ bgs kd nt s < 65537 := by
  have ht : bgt nt s < nt := Nat.mod_lt _ hnt
  have hk := hkd (bgt nt s) (by omega)
  refine ⟨ht, ?_, ?_, ?_⟩
  · unfold bga
    have h0 : ∀ k, k < 5 → ∀ d, d < 3 → (!decide (d < aco k) || (decide (aat k d < 3) && (!decide (k = 0) || !decide (aat k d = 1)) && (!decide (k = 1) || !decide (aat k d = 2)))) = true := by decide
    have h1 : ∀ k, k < 5 → ∀ d, d < 3 → d < aco k → okA k (aat k d) := by
      intro k hk d hd hda
      have := h0 k hk d hd
      simp [hda] at this
      unfold okA
      omega
    have h2 : nxt (nxt s) % aco (kd (bgt nt s)) < aco (kd (bgt nt s)) := Nat.mod_lt _ (by unfold aco; split <;> omega)
    have h3 : aco (kd (bgt nt s)) ≤ 3 := by unfold aco; split <;> omega
    exact h1 _ hk _ (by omega) h2
  · unfold bgw
    split
    · have := Nat.mod_lt (nxt (nxt (nxt s))) (by omega : 10 > 0); omega
    · omega
  · unfold bgs
    split
    · exact nxt_lt _
    · exact nxt_lt _
theorem X8_actCount : ∀ k, k < 5 → F_X8_actCount (nI k) = some (nI (aco k)) := by decide
theorem X8_actAt : ∀ k, k < 5 → ∀ d, d < 3 → F_X8_actAt (nI k) (nI d) = some (nI (aat k d)) := by decide
theorem X8_hasWholeA : ∀ k, k < 5 → ∀ a, a < 3 → F_X8_hasWhole (nI k) (nI a) = some (nI (if hwh k a = true then 1 else 0)) := by decide
theorem X10_hasWholeA : ∀ k, k < 5 → ∀ a, a < 3 → F_X10_hasWhole (nI k) (nI a) = some (nI (if hwh k a = true then 1 else 0)) := by decide
/-! seed -/
def rs_seed (told : Bool) (v : Int32) : Int32 × Int32 := if told = true then (if 0 ≤ v ∧ v ≤ 65536 then (nI 1, nI 0) else (nI 0, nI 2)) else (nI 0, nI 1)
def sdn (told : Bool) (s : Nat) (v : Int32) : Nat := if told = true ∧ 0 ≤ v ∧ v ≤ 65536 then v.toNatClampNeg else s
theorem sdn_lt {told : Bool} {s : Nat} (hs : s < 65537) (v : Int32) : sdn told s v < 65537 := by
  unfold sdn
  split
  · rename_i h
    obtain ⟨j, hj, rfl⟩ := nI_of (nlt_le.mpr h.2.1)
    have h2 := h.2.2
    rw [show (65536 : Int32) = nI 65536 from rfl, zd_le (by omega) (by omega)] at h2
    rw [zd_cl (by omega)]
    omega
  · exact hs
theorem sdn_v {v : Int32} (h : 0 ≤ v) : nI v.toNatClampNeg = v := by
  obtain ⟨j, hj, rfl⟩ := nI_of (nlt_le.mpr h)
  rw [zd_cl (by omega)]
theorem rs_seed_y {v : Int32} (h : 0 ≤ v ∧ v ≤ 65536) (s : Nat) : rs_seed true v = (nI 1, nI 0) ∧ nI (sdn true s v) = v := by
  unfold rs_seed sdn
  rw [if_pos rfl, if_pos h, if_pos (show true = true ∧ 0 ≤ v ∧ v ≤ 65536 from ⟨rfl, h⟩), sdn_v h.1]
  exact ⟨rfl, rfl⟩
theorem rs_seed_n {v : Int32} (h : ¬ (0 ≤ v ∧ v ≤ 65536)) (s : Nat) : rs_seed true v = (nI 0, nI 2) ∧ sdn true s v = s := by
  unfold rs_seed sdn
  rw [if_pos rfl, if_neg h, if_neg (show ¬ (true = true ∧ 0 ≤ v ∧ v ≤ 65536) from fun g => h g.2)]
  exact ⟨rfl, rfl⟩
theorem X9_seed (told : Bool) (s : Nat) (v : Int32) : F_X9_seed (nI s) (nI (if told = true then 1 else 0)) v = some ((rs_seed told v).1, nI (sdn told s v), (rs_seed told v).2) := by
  rcases told
  · rfl
  · have h26 : F_X9_seed_b26 (nI s) = some (nI 0, nI s, nI 2) := rfl
    have h39 : F_X9_allowed 0 = some (1, 0) := rfl
    unfold F_X9_seed
    rw [if_neg (show ¬ nI (if true = true then 1 else 0) = 0 by decide)]
    by_cases c : v < 0
    · obtain ⟨e1, e2⟩ := rs_seed_n (v := v) (fun h => (nlt_le.mpr h.1) c) s
      rw [if_pos c, e1, e2, h26]
    · rw [if_neg c]
      by_cases d : v ≤ 65536
      · obtain ⟨e1, e2⟩ := rs_seed_y ⟨nlt_le.mp c, d⟩ s
        rw [if_pos d, e1, e2, h39, z_b2, if_neg (fun h => h (Or.inr rfl))]
        rfl
      · obtain ⟨e1, e2⟩ := rs_seed_n (v := v) (fun h => d h.2) s
        rw [if_neg d, e1, e2, h26]
theorem X10_seed (told : Bool) {s : Nat} (v : Int32) {st : Nat → Int32} (h : st 140 = nI s) : ∃ st', F_X10_seed (nI (if told = true then 1 else 0)) st v = some ((rs_seed told v).1, nI 0, (rs_seed told v).2, st') ∧ st' 140 = nI (sdn told s v) ∧ ∀ p, p ≠ 140 → st' p = st p := by
  have h140 : (140 : Int32).toNatClampNeg = 140 := rfl
  have hno : F_X10_isNot 2 = some (0, 2) := rfl
  unfold F_X10_seed F_X10_good
  rw [z_b2]
  rcases told
  · exact ⟨st, rfl, h, fun _ _ => rfl⟩
  · rw [if_neg (show ¬ nI (if true = true then 1 else 0) = 0 by decide), X10_within, z_b1]
    by_cases c : 0 ≤ v ∧ v ≤ 65536
    · obtain ⟨e1, e2⟩ := rs_seed_y c s
      rw [if_pos c, if_neg n1_0, h140, e1, e2]
      exact ⟨upd st 140 v, rfl, by rw [z_upd, if_pos rfl], fun p hp => by rw [z_upd, if_neg hp]⟩
    · obtain ⟨e1, e2⟩ := rs_seed_n c s
      rw [if_neg c, if_pos n0_0, hno, z_b2, if_neg (fun h => h (Or.inl rfl)), e1, e2]
      exact ⟨st, rfl, h, fun _ _ => rfl⟩
