/-! a machine's call begins: the class -/
theorem X2_begin {K : Ca} {kd : Nat → Nat} {nt s : Nat} (hnt : 0 < nt) (hnt3 : nt ≤ 3) (hkd : ∀ t, t < 3 → kd t < 5) {kinds : Nat → Int32} (hkk : ∀ t, t < 3 → kinds t = nI (kd t)) (hs : s < 65537) {n : Int32} {f0 f1 f2 f3 f4 f5 f6 : Nat → Int32} (h : RC K n f0 f1 f2 f3 f4 f5 f6) (hm : cm K < 20) (q b : Nat) :
    ∃ f0' f1' f2' f3' f4' f5' f6', F_X2_begin (nI s) (nI nt) kinds n f0 f1 f2 f3 f4 f5 f6 (nI q) (nI b) = some (nI (cm K), nI (bgs kd nt s), nI (cm K + 1), f0', f1', f2', f3', f4', f5', f6') ∧ RC (addK K q (bgt nt s) (bga kd nt s) (bgw kd nt s) b) (nI (cm K + 1)) f0' f1' f2' f3' f4' f5' f6' := by
  obtain ⟨b1, b2, b3, b4⟩ := bg_ok (s := s) hnt hnt3 hkd
  have ht3 : bgt nt s < 3 := by omega
  have hk := hkd _ ht3
  have hac : 0 < aco (kd (bgt nt s)) ∧ aco (kd (bgt nt s)) ≤ 3 := by unfold aco; split <;> omega
  have hd := Nat.mod_lt (nxt (nxt s)) hac.1
  have e1 : F_X2_draw (nI s) (nI nt) = some (nI (bgt nt s), nI (nxt s)) := X2_draw hs hnt (by omega)
  have e2 := X2_draw (s := nxt s) (m := aco (kd (bgt nt s))) (nxt_lt s) hac.1 (by omega)
  have e3 := X8_actAt _ hk _ (by omega : nxt (nxt s) % aco (kd (bgt nt s)) < 3)
  have e4 := X8_hasWholeA _ hk _ b2.1
  have e5 : F_X2_draw (nI (nxt (nxt s))) 10 = some (nI (nxt (nxt (nxt s)) % 10), nI (nxt (nxt (nxt s)))) := X2_draw (m := 10) (nxt_lt _) (by omega) (by omega)
  have hba : aat (kd (bgt nt s)) (nxt (nxt s) % aco (kd (bgt nt s))) = bga kd nt s := rfl
  rw [hba] at e3
  unfold F_X2_begin F_X2_begin_b60
  rw [e1, z_b2, X5_kindOf hkk ht3, z_b1, X8_actCount _ hk, z_b1, e2, z_b2, e3, z_b1, e4, z_b1]
  by_cases c : hwh (kd (bgt nt s)) (bga kd nt s) = true
  · have w1 : bgw kd nt s = nxt (nxt (nxt s)) % 10 := if_pos c
    have w2 : bgs kd nt s = nxt (nxt (nxt s)) := if_pos c
    obtain ⟨f0', f1', f2', f3', f4', f5', f6', e6, h6⟩ := X0_addOpen h hm q (bgt nt s) (bga kd nt s) (nxt (nxt (nxt s)) % 10) b
    rw [if_pos c, if_neg n1_0, e5, z_b2, w1, w2, e6, z_b9]
    exact ⟨_, _, _, _, _, _, _, rfl, h6⟩
  · have w1 : bgw kd nt s = 0 := if_neg c
    have w2 : bgs kd nt s = nxt (nxt s) := if_neg c
    obtain ⟨f0', f1', f2', f3', f4', f5', f6', e6, h6⟩ := X0_addOpen h hm q (bgt nt s) (bga kd nt s) 0 b
    have e6' : F_X0_addOpen n f0 f1 f2 f3 f4 f5 f6 (nI q) (nI (bgt nt s)) (nI (bga kd nt s)) 0 (nI b) = _ := e6
    rw [if_neg c, if_pos n0_0, w1, w2, e6', z_b9]
    exact ⟨_, _, _, _, _, _, _, rfl, h6⟩
