/-! a call that begins, a call that ends -/
def addK (K : Ca) (q t a w b : Nat) : Ca := (cm K + 1, fun c => if c = cm K then q else cq K c, fun c => if c = cm K then t else ct K c, fun c => if c = cm K then a else cac K c, fun c => if c = cm K then w else cw K c, fun c => if c = cm K then b else cb K c, fun c => if c = cm K then -2 else ce K c, fun c => if c = cm K then -2 else cv K c)
def clsK (K : Ca) (c : Nat) (e v : Int32) : Ca := (cm K, cq K, ct K, cac K, cw K, cb K, fun a => if a = c then e else ce K a, fun a => if a = c then v else cv K a)
theorem okC_add {K : Ca} {kd : Nat → Nat} {nt q t a w b : Nat} (h : okC 4 nt kd K) (hm : cm K < 20) (hq : q < 4) (ht : t < nt) (ha : okA (kd t) a) (hw : w ≤ 9) (hb : b ≤ 999) : okC 4 nt kd (addK K q t a w b) := by
  refine ⟨hm, fun c hc => ?_⟩
  have hc' : c < cm K + 1 := hc
  show (if c = cm K then q else cq K c) < 4 ∧ (if c = cm K then t else ct K c) < nt ∧ okA (kd (if c = cm K then t else ct K c)) (if c = cm K then a else cac K c) ∧ (if c = cm K then w else cw K c) ≤ 9 ∧ (if c = cm K then b else cb K c) ≤ 999 ∧ endAt (if c = cm K then -2 else ce K c) (if c = cm K then b else cb K c) ∧ ((if c = cm K then -2 else ce K c) = -2 → (if c = cm K then -2 else cv K c) = -2) ∧ ((if c = cm K then -2 else ce K c) ≠ -2 → ∃ v, (if c = cm K then -2 else cv K c) = nI v ∧ v ≤ 99)
  by_cases d : c = cm K
  · simp only [d, ↓reduceIte]
    exact ⟨hq, ht, ha, hw, hb, Or.inl rfl, fun _ => trivial, fun h => absurd rfl h⟩
  · simp only [d, ↓reduceIte]
    exact h.2 c (by omega)
theorem okC_cls {K : Ca} {kd : Nat → Nat} {nt c e v : Nat} (h : okC 4 nt kd K) (hc : c < cm K) (he : cb K c ≤ e) (he2 : e ≤ 999) (hv : v ≤ 99) : okC 4 nt kd (clsK K c (nI e) (nI v)) := by
  refine ⟨h.1, fun a ha => ?_⟩
  have ha' : a < cm K := ha
  obtain ⟨g1, g2, g3, g4, g5, g6, g7, g8⟩ := h.2 a ha'
  refine ⟨g1, g2, g3, g4, g5, ?_, ?_, ?_⟩
  · show endAt (if a = c then nI e else ce K a) (cb K a)
    by_cases d : a = c
    · rw [if_pos d, d]; exact Or.inr ⟨e, rfl, he, he2⟩
    · rw [if_neg d]; exact g6
  · show (if a = c then nI e else ce K a) = -2 → (if a = c then nI v else cv K a) = -2
    by_cases d : a = c
    · rw [if_pos d]
      intro q
      exact absurd q (nI_ne (by omega) (k := 2) (by omega) (by omega))
    · rw [if_neg d, if_neg d]; exact g7
  · show (if a = c then nI e else ce K a) ≠ -2 → ∃ v', (if a = c then nI v else cv K a) = nI v' ∧ v' ≤ 99
    by_cases d : a = c
    · rw [if_pos d, if_pos d]
      intro _
      exact ⟨v, rfl, hv⟩
    · rw [if_neg d, if_neg d]; exact g8
theorem X0_addOpen {K : Ca} {n : Int32} {f0 f1 f2 f3 f4 f5 f6 : Nat → Int32} (h : RC K n f0 f1 f2 f3 f4 f5 f6) (hm : cm K < 20) (q t a w b : Nat) :
    ∃ f0' f1' f2' f3' f4' f5' f6', F_X0_addOpen n f0 f1 f2 f3 f4 f5 f6 (nI q) (nI t) (nI a) (nI w) (nI b) = some (nI (cm K), nI (cm K + 1), f0', f1', f2', f3', f4', f5', f6') ∧ RC (addK K q t a w b) (nI (cm K + 1)) f0' f1' f2' f3' f4' f5' f6' := by
  unfold F_X0_addOpen
  have i1 : nI (cm K) + (1 : Int32) = nI (cm K + 1) := by rw [zl_1, zq_add]
  have i2 : nI (cm K + 1) - (1 : Int32) = nI (cm K) := by rw [zl_1, zq_sub (by omega)]; rfl
  rw [h.1, if_pos (by rw [zl_20, zd_lt (by omega) (by omega)]; exact hm), if_neg (nI_in (by omega) (by omega)), if_neg (nI_in (by omega) (by omega)), if_neg (nI_in (by omega) (by omega)), if_neg (nI_in (by omega) (by omega)), if_neg (nI_in (by omega) (by omega)), if_neg (nI_in (by omega) (by omega)), if_neg (nI_in (by omega) (by omega)), zd_cl (by omega), i1, i2]
  refine ⟨_, _, _, _, _, _, _, rfl, rfl, fun c hc => ?_⟩
  have hc' : c < cm K + 1 := hc
  rw [z_upd, z_upd, z_upd, z_upd, z_upd, z_upd, z_upd]
  show _ = nI (if c = cm K then q else cq K c) ∧ _ = nI (if c = cm K then t else ct K c) ∧ _ = nI (if c = cm K then a else cac K c) ∧ _ = nI (if c = cm K then w else cw K c) ∧ _ = nI (if c = cm K then b else cb K c) ∧ _ = (if c = cm K then -2 else ce K c) ∧ _ = (if c = cm K then -2 else cv K c)
  by_cases d : c = cm K
  · simp only [d, ↓reduceIte, and_self]
  · simp only [d, ↓reduceIte]
    exact h.2 c (by omega)
theorem X0_close {K : Ca} {n : Int32} {f0 f1 f2 f3 f4 f5 f6 : Nat → Int32} (h : RC K n f0 f1 f2 f3 f4 f5 f6) (hm : cm K ≤ 20) {c : Nat} (hc : c < cm K) (e v : Int32) :
    ∃ f5' f6', F_X0_close n f5 f6 (nI c) e v = some (f5', f6') ∧ RC (clsK K c e v) n f0 f1 f2 f3 f4 f5' f6' := by
  have ht : tin (cm K) (nI c) = some c := by
    rw [tin_if ⟨by rw [zl_0, zd_le (by omega) (by omega)]; omega, by rw [zd_lt (by omega) (by omega)]; exact hc⟩, zd_cl (by omega)]
  refine ⟨upd f5 c e, upd f6 c v, ?_, h.1, fun a ha => ?_⟩
  · unfold F_X0_close
    rw [h.1, X0_has hm, z_b1, ht, ifs, if_neg n1_0, if_neg (nI_in (by omega) (by omega)), if_neg (nI_in (by omega) (by omega)), zd_cl (by omega)]
  · obtain ⟨g0, g1, g2, g3, g4, g5, g6⟩ := h.2 a ha
    rw [z_upd, z_upd]
    refine ⟨g0, g1, g2, g3, g4, ?_, ?_⟩
    · show _ = (if a = c then e else ce K a)
      rw [g5]
    · show _ = (if a = c then v else cv K a)
      rw [g6]
