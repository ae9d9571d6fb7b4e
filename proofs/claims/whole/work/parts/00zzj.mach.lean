/-! the machines: a call done -/
def acp (kd : Nat → Nat) (cp : Nat → Nat) (copy t a w : Nat) : Nat → Nat := fun i => if i = 3 * copy + t then af (kd t) (cp i) a w else cp i
def copy3 (cp : Nat → Nat) (k : Nat) : Nat → Nat := fun i => if 3 * (1 + k) ≤ i ∧ i < 3 * (1 + k) + 3 then cp (i - 3 * (1 + k)) else cp i
def mfi (s : Nat) : Nat := if nxt s % 3 = 0 then 1 else 0
def mse (s : Nat) : Nat := if nxt s % 3 = 2 then 1 else 2
def mat (mk k a s : Nat) : Nat := if mk = 2 then mfi s else if mk = 0 then 0 else if a = 2 then 1 + k else 0
def mrr (kd cp : Nat → Nat) (mk k t a w s : Nat) : Nat := sy (kd t) (cp (3 * mat mk k a s + t)) a w
def msd (mk s : Nat) : Nat := if mk = 2 then nxt s else s
def mcp (kd cp : Nat → Nat) (mk k t a w s : Nat) : Nat → Nat := if a = 2 ∨ mk = 0 then acp kd cp (mat mk k a s) t a w else if mk = 2 then acp kd (acp kd cp (mat mk k a s) t a w) (mse s) t a w else copy3 (acp kd cp (mat mk k a s) t a w) k
def okM (kd cp : Nat → Nat) : Prop := ∀ i, i < 15 → okT (kd (i % 3)) (cp i)
def CM (cp : Nat → Nat) (f : Nat → Int32) : Prop := ∀ i, i < 15 → f i = nI (cp i)
def RM (kd : Nat → Nat) (nt : Nat) (cp : Nat → Nat) (m : Nat → Int64) : Prop := ∀ i, i < 15 → i % 3 < nt → tr (kd (i % 3)) (cp i) (m i)
theorem okM_acp {kd cp : Nat → Nat} (h : okM kd cp) (hkd : ∀ t, t < 3 → kd t < 5) {copy t a w : Nat} (hc : copy < 5) (ht : t < 3) (ha : okA (kd t) a) (hw : w ≤ 9) : okM kd (acp kd cp copy t a w) := by
  intro i hi
  unfold acp
  by_cases c : i = 3 * copy + t
  · rw [if_pos c]
    have e : i % 3 = t := by omega
    have := h i hi
    rw [e] at this ⊢
    exact okT_af (hkd t ht) this ha hw
  · rw [if_neg c]; exact h i hi
theorem okM_copy {kd cp : Nat → Nat} (h : okM kd cp) (k : Nat) : okM kd (copy3 cp k) := by
  intro i hi
  unfold copy3
  by_cases c : 3 * (1 + k) ≤ i ∧ i < 3 * (1 + k) + 3
  · rw [if_pos c]
    have e : i % 3 = (i - 3 * (1 + k)) % 3 := by omega
    rw [e]
    exact h _ (by omega)
  · rw [if_neg c]; exact h i hi
theorem mat_lt {mk k a s : Nat} (hk : k < 4) : mat mk k a s < 5 := by
  unfold mat mfi
  split
  · split <;> omega
  · split
    · omega
    · split <;> omega
theorem mse_lt (s : Nat) : mse s < 5 := by
  unfold mse
  split <;> omega
theorem okM_mcp {kd cp : Nat → Nat} (h : okM kd cp) (hkd : ∀ t, t < 3 → kd t < 5) {mk k t a w s : Nat} (hk : k < 4) (ht : t < 3) (ha : okA (kd t) a) (hw : w ≤ 9) : okM kd (mcp kd cp mk k t a w s) := by
  have h1 := okM_acp h hkd (mat_lt (mk := mk) (a := a) (s := s) hk) ht ha hw
  unfold mcp
  split
  · exact h1
  · split
    · exact okM_acp h1 hkd (mse_lt s) ht ha hw
    · exact okM_copy h1 k
theorem X2_actOn {kd cp : Nat → Nat} (h : okM kd cp) (hkd : ∀ t, t < 3 → kd t < 5) {kinds : Nat → Int32} (hk : ∀ t, t < 3 → kinds t = nI (kd t)) {f f1 f2 f3 : Nat → Int32} (hf : CM cp f) {copy c t a w : Nat} (hcp : copy < 5) (hc : c < 20) (ht : t < 3) (ha : okA (kd t) a) (hw : w ≤ 9)
    (h1 : f1 c = nI t) (h2 : f2 c = nI a) (h3 : f3 c = nI w) : ∃ f', F_X2_actOn f1 f kinds f2 f3 (nI copy) (nI c) = some (nI (sy (kd t) (cp (3 * copy + t)) a w), f') ∧ CM (acp kd cp copy t a w) f' := by
  have hi : nI copy * (3 : Int32) + nI t = nI (3 * copy + t) := by rw [zl_3, zq_mul, zq_add, Nat.mul_comm]
  have ha3 : a < 3 := ha.1
  have hok := h (3 * copy + t) (by omega)
  have e : (3 * copy + t) % 3 = t := by omega
  rw [e] at hok
  refine ⟨upd f (3 * copy + t) (nI (af (kd t) (cp (3 * copy + t)) a w)), ?_, fun i hi => ?_⟩
  · unfold F_X2_actOn
    rw [X0_tillOf hc, z_b1, h1, hi, if_neg (nI_pos (by omega)), if_pos (by rw [show (15 : Int32) = nI 15 from rfl, zd_lt (by omega) (by omega)]; omega), X5_kindOf hk ht, z_b1, if_neg (nI_in (by omega) (by omega)), X0_actOf hc, z_b1, X0_wholeOf hc, z_b1, zd_cl (by omega), hf _ (by omega), h2, h3, X8_after (hkd t ht) hok ha3 hw, z_b1, if_neg (zin (by omega) (by omega)), z_b1, z_b1, X8_says (hkd t ht) hok ha3 hw, z_b1]
  · rw [z_upd]
    unfold acp
    by_cases q : i = 3 * copy + t
    · rw [if_pos q, if_pos q, q]
    · rw [if_neg q, if_neg q]; exact hf i hi
theorem X2_act {kd cp : Nat → Nat} (h : okM kd cp) (hkd : ∀ t, t < 3 → kd t < 5) {kinds : Nat → Int32} (hkk : ∀ t, t < 3 → kinds t = nI (kd t)) {f f1 f2 f3 : Nat → Int32} (hf : CM cp f) {mk k s c t a w : Nat} (hmk : mk ≤ 2) (hk : k < 4) (hs : s < 65537) (hc : c < 20) (ht : t < 3) (ha : okA (kd t) a) (hw : w ≤ 9)
    (h1 : f1 c = nI t) (h2 : f2 c = nI a) (h3 : f3 c = nI w) : ∃ f', F_X2_act f2 f1 (nI s) f kinds f3 (nI c) (nI mk) (nI k) = some (nI (mrr kd cp mk k t a w s), nI (msd mk s), f') ∧ CM (mcp kd cp mk k t a w s) f' := by
  have ha3 : a < 3 := ha.1
  have m2 : (nI mk = (2 : Int32)) = (mk = 2) := by rw [zl_2]; exact zd_eq (by omega) (by omega)
  have m0 : (nI mk = (0 : Int32)) = (mk = 0) := by rw [zl_0]; exact zd_eq (by omega) (by omega)
  have a2 : (nI a = (2 : Int32)) = (a = 2) := by rw [zl_2]; exact zd_eq (by omega) (by omega)
  have d3 : F_X2_draw (nI s) 3 = some (nI (nxt s % 3), nI (nxt s)) := X2_draw (m := 3) hs (by omega) (by omega)
  have hm3 := Nat.mod_lt (nxt s) (by omega : 3 > 0)
  unfold F_X2_act
  by_cases c2 : mk = 2
  · rw [if_pos (by rw [m2]; exact c2)]
    unfold F_X2_actOnTwo
    rw [d3, z_b2]
    have key : ∃ f', F_X2_actOnTwo_b27 (nI (nxt s)) f1 f kinds f2 f3 (nI c) (nI (mse s)) (nI (mfi s)) = some (nI (mrr kd cp mk k t a w s), nI (msd mk s), f') ∧ CM (mcp kd cp mk k t a w s) f' := by
      have hmat : mat mk k a s = mfi s := if_pos c2
      have hms : msd mk s = nxt s := if_pos c2
      have hfi : mfi s < 5 := by unfold mfi; split <;> omega
      obtain ⟨f', e, hf'⟩ := X2_actOn h hkd hkk hf hfi hc ht ha hw h1 h2 h3
      unfold F_X2_actOnTwo_b27
      rw [e, z_b2, X0_actOf hc, z_b1, h2, hms]
      unfold mrr mcp
      rw [hmat]
      by_cases ca : a = 2
      · rw [if_pos (by rw [a2]; exact ca), if_pos (Or.inl ca)]
        exact ⟨f', rfl, hf'⟩
      · obtain ⟨f2', e2, hf2⟩ := X2_actOn (okM_acp h hkd hfi ht ha hw) hkd hkk hf' (mse_lt s) hc ht ha hw h1 h2 h3
        rw [if_neg (by rw [a2]; exact ca), e2, z_b2, if_neg (by omega), if_pos c2]
        exact ⟨f2', rfl, hf2⟩
    have z0 : (nI (nxt s % 3) = (0 : Int32)) = (nxt s % 3 = 0) := by rw [zl_0]; exact zd_eq (by omega) (by omega)
    have z2 : (nI (nxt s % 3) = (2 : Int32)) = (nxt s % 3 = 2) := by rw [zl_2]; exact zd_eq (by omega) (by omega)
    unfold mfi mse at key
    unfold F_X2_actOnTwo_b15
    by_cases q0 : nxt s % 3 = 0
    · rw [if_pos (by rw [z0]; exact q0), if_neg (by rw [z2]; omega)]
      rw [if_pos q0, if_neg (by omega)] at key
      obtain ⟨f', e, hf'⟩ := key
      have e' : F_X2_actOnTwo_b27 (nI (nxt s)) f1 f kinds f2 f3 (nI c) 2 1 = _ := e
      rw [e', z_b3]
      exact ⟨f', rfl, hf'⟩
    · rw [if_neg (by rw [z0]; exact q0)]
      rw [if_neg q0] at key
      by_cases q2 : nxt s % 3 = 2
      · rw [if_pos (by rw [z2]; exact q2)]
        rw [if_pos q2] at key
        obtain ⟨f', e, hf'⟩ := key
        have e' : F_X2_actOnTwo_b27 (nI (nxt s)) f1 f kinds f2 f3 (nI c) 1 0 = _ := e
        rw [e', z_b3]
        exact ⟨f', rfl, hf'⟩
      · rw [if_neg (by rw [z2]; exact q2)]
        rw [if_neg q2] at key
        obtain ⟨f', e, hf'⟩ := key
        have e' : F_X2_actOnTwo_b27 (nI (nxt s)) f1 f kinds f2 f3 (nI c) 2 0 = _ := e
        rw [e', z_b3]
        exact ⟨f', rfl, hf'⟩
  · have hms : msd mk s = s := if_neg c2
    rw [if_neg (by rw [m2]; exact c2), hms]
    unfold mrr mcp
    by_cases c0 : mk = 0
    · have hmat : mat mk k a s = 0 := by unfold mat; rw [if_neg c2, if_pos c0]
      obtain ⟨f', e, hf'⟩ := X2_actOn h hkd hkk hf (by omega : 0 < 5) hc ht ha hw h1 h2 h3
      have e' : F_X2_actOn f1 f kinds f2 f3 0 (nI c) = _ := e
      rw [if_pos (by rw [m0]; exact c0), e', z_b2, hmat, if_pos (Or.inr c0)]
      exact ⟨f', rfl, hf'⟩
    · rw [if_neg (by rw [m0]; exact c0), X0_actOf hc, z_b1, h2]
      have k1 : (1 : Int32) + nI k = nI (1 + k) := by rw [zl_1, zq_add]
      rw [k1]
      by_cases ca : a = 2
      · have hmat : mat mk k a s = 1 + k := by unfold mat; rw [if_neg c2, if_neg c0, if_pos ca]
        obtain ⟨f', e, hf'⟩ := X2_actOn h hkd hkk hf (by omega : 1 + k < 5) hc ht ha hw h1 h2 h3
        rw [if_pos (by rw [a2]; exact ca), e, z_b2, hmat, if_pos (Or.inl ca)]
        exact ⟨f', rfl, hf'⟩
      · have hmat : mat mk k a s = 0 := by unfold mat; rw [if_neg c2, if_neg c0, if_neg ca]
        obtain ⟨f', e, hf'⟩ := X2_actOn h hkd hkk hf (by omega : 0 < 5) hc ht ha hw h1 h2 h3
        have e' : F_X2_actOn f1 f kinds f2 f3 0 (nI c) = _ := e
        have k3 : nI (1 + k) * (3 : Int32) = nI (3 * (1 + k)) := by rw [zl_3, zq_mul, Nat.mul_comm]
        have t3 : (3 : Int32).toNatClampNeg = 3 := rfl
        have t0 : (0 : Int32).toNatClampNeg = 0 := rfl
        rw [if_neg (by rw [a2]; exact ca), e', z_b2, k3, t3, t0, zd_cl (by omega), if_neg (by
          intro g
          rcases g with g | g
          · exact nI_pos (by omega) g
          · omega), hmat, if_neg (by omega), if_neg c2]
        refine ⟨_, rfl, fun i hi => ?_⟩
        show (if 3 * (1 + k) ≤ i ∧ i < 3 * (1 + k) + 3 then f' (0 + (i - 3 * (1 + k))) else f' i) = _
        unfold copy3
        by_cases q : 3 * (1 + k) ≤ i ∧ i < 3 * (1 + k) + 3
        · rw [if_pos q, if_pos q, Nat.zero_add]; exact hf' _ (by omega)
        · rw [if_neg q, if_neg q]; exact hf' i hi
