section
/-! feed, told, led: class and reference -/
def byt (v : Int32) (j : Nat) : Int32 := (v >>> (nI (24 - 8 * j) &&& 31)) &&& 255
def fd4 (f : Nat → Int32) (t : Nat) (v : Int32) : Nat → Int32 := upd (upd (upd (upd f t (byt v 0)) (t + 1) (byt v 1)) (t + 2) (byt v 2)) (t + 3) (byt v 3)
theorem byt_lt (v : Int32) (j : Nat) : ∃ b, b < 256 ∧ byt v j = nI b := by
  refine ⟨(byt v j).toBitVec.toNat, ?_, ?_⟩
  · unfold byt
    rw [Int32.toBitVec_and, BitVec.toNat_and]
    refine Nat.lt_of_le_of_lt Nat.and_le_right ?_
    decide
  · apply Int32.toBitVec_inj.1
    show _ = BitVec.ofNat 32 _
    rw [BitVec.ofNat_toNat, BitVec.setWidth_eq]
theorem tx_upd {f : Nat → Int32} {T : Nat → Nat} (h : tx f T) (t : Nat) {v : Int32} {b : Nat} (hb : b < 256) (hv : v = nI b) : tx (upd f t v) (fun p => if p = t then b else T p) := by
  intro p
  rw [z_upd]
  show (if p = t then v else f p) = nI (if p = t then b else T p) ∧ (if p = t then b else T p) < 256
  by_cases d : p = t
  · rw [if_pos d, if_pos d]; exact ⟨hv, hb⟩
  · rw [if_neg d, if_neg d]; exact h p
theorem tx_fd4 {f : Nat → Int32} (h : ∃ T, tx f T) (t : Nat) (v : Int32) : ∃ T, tx (fd4 f t v) T := by
  obtain ⟨T, h⟩ := h
  obtain ⟨b0, l0, e0⟩ := byt_lt v 0
  obtain ⟨b1, l1, e1⟩ := byt_lt v 1
  obtain ⟨b2, l2, e2⟩ := byt_lt v 2
  obtain ⟨b3, l3, e3⟩ := byt_lt v 3
  exact ⟨_, tx_upd (tx_upd (tx_upd (tx_upd h t l0 e0) (t + 1) l1 e1) (t + 2) l2 e2) (t + 3) l3 e3⟩
theorem X7_add1 {v : Int32} {t j kf : Nat} (ht : t < 900) (hj : j < 4) (f : Nat → Int32) : F_X7_addFour_b3 v (kf + 1) (nI t) f (nI (24 - 8 * j)) = F_X7_addFour_b3 v kf (nI (t + 1)) (upd f t (byt v j)) (nI (24 - 8 * j) + (-8)) := by
  rw [F_X7_addFour_b3, if_neg (show ¬ nI (24 - 8 * j) < (0 : Int32) by rw [zl_0, zd_lt (by omega) (by omega)]; omega), if_neg (show ¬ (900 : Int32) ≤ nI t by rw [zl_900, zd_le (by omega) (by omega)]; omega), if_neg (nI_in (by omega) (by omega)), zd_cl (by omega)]
  unfold F_X7_addFour_b43
  rw [zl_1, zq_add]; rfl
theorem X7_addFour {fu t : Nat} (hfu : 20000 ≤ fu) (ht : t + 4 ≤ 900) (f : Nat → Int32) (v : Int32) : F_X7_addFour fu (nI t) f v = some (nI (t + 4), fd4 f t v) := by
  obtain ⟨g, rfl⟩ : ∃ g, fu = g + 1 + 1 + 1 + 1 + 1 := ⟨fu - 5, by omega⟩
  unfold F_X7_addFour
  have e0 := X7_add1 (v := v) (t := t) (j := 0) (kf := g + 1 + 1 + 1 + 1) (by omega) (by omega) f
  have e1 := X7_add1 (v := v) (t := t + 1) (j := 1) (kf := g + 1 + 1 + 1) (by omega) (by omega) (upd f t (byt v 0))
  have e2 := X7_add1 (v := v) (t := t + 1 + 1) (j := 2) (kf := g + 1 + 1) (by omega) (by omega) (upd (upd f t (byt v 0)) (t + 1) (byt v 1))
  have e3 := X7_add1 (v := v) (t := t + 1 + 1 + 1) (j := 3) (kf := g + 1) (by omega) (by omega) (upd (upd (upd f t (byt v 0)) (t + 1) (byt v 1)) (t + 1 + 1) (byt v 2))
  have s0 : nI (24 - 8 * 0) + (-8) = nI (24 - 8 * 1) := by decide
  have s1 : nI (24 - 8 * 1) + (-8) = nI (24 - 8 * 2) := by decide
  have s2 : nI (24 - 8 * 2) + (-8) = nI (24 - 8 * 3) := by decide
  have s3 : nI (24 - 8 * 3) + (-8) = (-8 : Int32) := by decide
  rw [s0] at e0
  rw [s1] at e1
  rw [s2] at e2
  rw [s3] at e3
  have e0' : F_X7_addFour_b3 v (g + 1 + 1 + 1 + 1 + 1) (nI t) f 24 = _ := e0
  rw [e0', e1, e2, e3, F_X7_addFour_b3, if_pos (by decide)]
  rfl
def wsel (v1 v2 v3 v4 v5 : Int32) (k : Nat) : Int32 := if k < 4 then v1 else if k < 8 then v2 else if k < 12 then v3 else if k < 16 then v4 else v5
theorem X10_fd1 {v1 v2 v3 v4 v5 : Int32} {t k kf : Nat} (ht : t < 900) (hk : k < 20) (f : Nat → Int32) : F_X10_feed_b23 0 v1 v2 v3 v4 v5 (kf + 1) (nI t) f (nI k) = F_X10_feed_b23 0 v1 v2 v3 v4 v5 kf (nI (t + 1)) (upd f t (byt (wsel v1 v2 v3 v4 v5 k) (k % 4))) (nI (k + 1)) := by
  have key : ∀ v : Int32, F_X10_feed_b76 (F_X10_feed_b23 0 v1 v2 v3 v4 v5 kf) 0 (nI t) f v1 v2 v3 v4 v5 (nI k) v = F_X10_feed_b23 0 v1 v2 v3 v4 v5 kf (nI (t + 1)) (upd f t (byt v (k % 4))) (nI (k + 1)) := by
    intro v
    unfold F_X10_feed_b76 byt
    have e : (24 : Int32) - (8 : Int32) * (nI k - nI k / (4 : Int32) * (4 : Int32)) = nI (24 - 8 * (k % 4)) := by
      rw [zl_4, zI_rem (by omega) (by omega), zl_8, zq_mul, zl_24, zq_sub (by omega)]
    rw [if_neg (nI_in (by omega) (by omega)), zd_cl (by omega), e, zl_1, zq_add, zq_add]
  unfold wsel
  rw [F_X10_feed_b23, if_neg (show ¬ (20 : Int32) ≤ nI k by rw [zl_20, zd_le (by omega) (by omega)]; omega)]
  by_cases d1 : k < 4
  · rw [if_neg (show ¬ (4 : Int32) ≤ nI k by rw [zl_4, zd_le (by omega) (by omega)]; omega), if_pos d1, key]
  · rw [if_pos (show (4 : Int32) ≤ nI k by rw [zl_4, zd_le (by omega) (by omega)]; omega), if_neg d1]
    by_cases d2 : k < 8
    · rw [if_neg (show ¬ (8 : Int32) ≤ nI k by rw [zl_8, zd_le (by omega) (by omega)]; omega), if_pos d2, key]
    · rw [if_pos (show (8 : Int32) ≤ nI k by rw [zl_8, zd_le (by omega) (by omega)]; omega), if_neg d2]
      by_cases d3 : k < 12
      · rw [if_neg (show ¬ (12 : Int32) ≤ nI k by rw [zl_12, zd_le (by omega) (by omega)]; omega), if_pos d3, key]
      · rw [if_pos (show (12 : Int32) ≤ nI k by rw [zl_12, zd_le (by omega) (by omega)]; omega), if_neg d3]
        by_cases d4 : k < 16
        · rw [if_neg (show ¬ (16 : Int32) ≤ nI k by rw [zl_16, zd_le (by omega) (by omega)]; omega), if_pos d4, key]
        · rw [if_pos (show (16 : Int32) ≤ nI k by rw [zl_16, zd_le (by omega) (by omega)]; omega), if_neg d4, key]
theorem X10_fd4 {v1 v2 v3 v4 v5 : Int32} {t g kf : Nat} (ht : t + 4 ≤ 900) (hg : g < 5) (f : Nat → Int32) : F_X10_feed_b23 0 v1 v2 v3 v4 v5 (kf + 1 + 1 + 1 + 1) (nI t) f (nI (4 * g)) = F_X10_feed_b23 0 v1 v2 v3 v4 v5 kf (nI (t + 4)) (fd4 f t (wsel v1 v2 v3 v4 v5 (4 * g))) (nI (4 * (g + 1))) := by
  have w1 : wsel v1 v2 v3 v4 v5 (4 * g + 1) = wsel v1 v2 v3 v4 v5 (4 * g) := by
    have : g = 0 ∨ g = 1 ∨ g = 2 ∨ g = 3 ∨ g = 4 := by omega
    rcases this with rfl | rfl | rfl | rfl | rfl <;> rfl
  have w2 : wsel v1 v2 v3 v4 v5 (4 * g + 1 + 1) = wsel v1 v2 v3 v4 v5 (4 * g) := by
    have : g = 0 ∨ g = 1 ∨ g = 2 ∨ g = 3 ∨ g = 4 := by omega
    rcases this with rfl | rfl | rfl | rfl | rfl <;> rfl
  have w3 : wsel v1 v2 v3 v4 v5 (4 * g + 1 + 1 + 1) = wsel v1 v2 v3 v4 v5 (4 * g) := by
    have : g = 0 ∨ g = 1 ∨ g = 2 ∨ g = 3 ∨ g = 4 := by omega
    rcases this with rfl | rfl | rfl | rfl | rfl <;> rfl
  rw [X10_fd1 (by omega) (by omega), X10_fd1 (by omega) (by omega), X10_fd1 (by omega) (by omega), X10_fd1 (by omega) (by omega), w1, w2, w3, show 4 * g % 4 = 0 by omega, show (4 * g + 1) % 4 = 1 by omega, show (4 * g + 1 + 1) % 4 = 2 by omega, show (4 * g + 1 + 1 + 1) % 4 = 3 by omega]
  rfl
theorem XJ_feed {fu tp : Nat} (hfu : 20000 ≤ fu) (htp : tp ≤ 900) {f : Nat → Int32} (h : ∃ T, tx f T) (v1 v2 v3 v4 v5 : Int32) :
    ∃ rs tp' f', tp' ≤ 900 ∧ (∃ T, tx f' T) ∧ F_X9_feed fu (nI tp) f v1 v2 v3 v4 v5 = some (rs, nI tp', f') ∧ F_X10_feed fu (nI tp) f v1 v2 v3 v4 v5 = some (rs, 0, nI tp', f') := by
  unfold F_X9_feed F_X10_feed F_X7_hasRoom
  have e1 : (900 : Int32) - nI tp = nI (900 - tp) := by rw [zl_900, zq_sub htp]
  have e2 : nI tp + (20 : Int32) = nI (tp + 20) := by rw [zl_20, zq_add]
  rw [e1, e2]
  by_cases d : tp + 20 ≤ 900
  · rw [if_neg (show ¬ nI (900 - tp) < (20 : Int32) by rw [zl_20, zd_lt (by omega) (by omega)]; omega), if_pos (show nI (tp + 20) ≤ (900 : Int32) by rw [zl_900, zd_le (by omega) (by omega)]; exact d), z_b1, if_neg (by decide)]
    rw [X7_addFour hfu (by omega), z_b2, X7_addFour hfu (by omega), z_b2, X7_addFour hfu (by omega), z_b2, X7_addFour hfu (by omega), z_b2, X7_addFour hfu (by omega), z_b2]
    refine ⟨nI (tp + 4 + 4 + 4 + 4 + 4), tp + 4 + 4 + 4 + 4 + 4, fd4 (fd4 (fd4 (fd4 (fd4 f tp v1) (tp + 4) v2) (tp + 4 + 4) v3) (tp + 4 + 4 + 4) v4) (tp + 4 + 4 + 4 + 4) v5, by omega, tx_fd4 (tx_fd4 (tx_fd4 (tx_fd4 (tx_fd4 h _ _) _ _) _ _) _ _) _ _, rfl, ?_⟩
    obtain ⟨g, rfl⟩ : ∃ g, fu = g + 1 + 1 + 1 + 1 + 1 + 1 + 1 + 1 + 1 + 1 + 1 + 1 + 1 + 1 + 1 + 1 + 1 + 1 + 1 + 1 + 1 := ⟨fu - 21, by omega⟩
    have s0 := X10_fd4 (v1 := v1) (v2 := v2) (v3 := v3) (v4 := v4) (v5 := v5) (t := tp) (g := 0) (kf := g + 1 + 1 + 1 + 1 + 1 + 1 + 1 + 1 + 1 + 1 + 1 + 1 + 1 + 1 + 1 + 1 + 1) (by omega) (by omega) f
    have s1 := X10_fd4 (v1 := v1) (v2 := v2) (v3 := v3) (v4 := v4) (v5 := v5) (t := tp + 4) (g := 1) (kf := g + 1 + 1 + 1 + 1 + 1 + 1 + 1 + 1 + 1 + 1 + 1 + 1 + 1) (by omega) (by omega) (fd4 f tp v1)
    have s2 := X10_fd4 (v1 := v1) (v2 := v2) (v3 := v3) (v4 := v4) (v5 := v5) (t := tp + 4 + 4) (g := 2) (kf := g + 1 + 1 + 1 + 1 + 1 + 1 + 1 + 1 + 1) (by omega) (by omega) (fd4 (fd4 f tp v1) (tp + 4) v2)
    have s3 := X10_fd4 (v1 := v1) (v2 := v2) (v3 := v3) (v4 := v4) (v5 := v5) (t := tp + 4 + 4 + 4) (g := 3) (kf := g + 1 + 1 + 1 + 1 + 1) (by omega) (by omega) (fd4 (fd4 (fd4 f tp v1) (tp + 4) v2) (tp + 4 + 4) v3)
    have s4 := X10_fd4 (v1 := v1) (v2 := v2) (v3 := v3) (v4 := v4) (v5 := v5) (t := tp + 4 + 4 + 4 + 4) (g := 4) (kf := g + 1) (by omega) (by omega) (fd4 (fd4 (fd4 (fd4 f tp v1) (tp + 4) v2) (tp + 4 + 4) v3) (tp + 4 + 4 + 4) v4)
    have s0' : F_X10_feed_b23 0 v1 v2 v3 v4 v5 (g + 1 + 1 + 1 + 1 + 1 + 1 + 1 + 1 + 1 + 1 + 1 + 1 + 1 + 1 + 1 + 1 + 1 + 1 + 1 + 1 + 1) (nI tp) f 0 = F_X10_feed_b23 0 v1 v2 v3 v4 v5 (g + 1 + 1 + 1 + 1 + 1 + 1 + 1 + 1 + 1 + 1 + 1 + 1 + 1 + 1 + 1 + 1 + 1) (nI (tp + 4)) (fd4 f tp v1) (nI (4 * 1)) := s0
    have s1' : F_X10_feed_b23 0 v1 v2 v3 v4 v5 (g + 1 + 1 + 1 + 1 + 1 + 1 + 1 + 1 + 1 + 1 + 1 + 1 + 1 + 1 + 1 + 1 + 1) (nI (tp + 4)) (fd4 f tp v1) (nI (4 * 1)) = F_X10_feed_b23 0 v1 v2 v3 v4 v5 (g + 1 + 1 + 1 + 1 + 1 + 1 + 1 + 1 + 1 + 1 + 1 + 1 + 1) (nI (tp + 4 + 4)) (fd4 (fd4 f tp v1) (tp + 4) v2) (nI (4 * 2)) := s1
    have s2' : F_X10_feed_b23 0 v1 v2 v3 v4 v5 (g + 1 + 1 + 1 + 1 + 1 + 1 + 1 + 1 + 1 + 1 + 1 + 1 + 1) (nI (tp + 4 + 4)) (fd4 (fd4 f tp v1) (tp + 4) v2) (nI (4 * 2)) = F_X10_feed_b23 0 v1 v2 v3 v4 v5 (g + 1 + 1 + 1 + 1 + 1 + 1 + 1 + 1 + 1) (nI (tp + 4 + 4 + 4)) (fd4 (fd4 (fd4 f tp v1) (tp + 4) v2) (tp + 4 + 4) v3) (nI (4 * 3)) := s2
    have s3' : F_X10_feed_b23 0 v1 v2 v3 v4 v5 (g + 1 + 1 + 1 + 1 + 1 + 1 + 1 + 1 + 1) (nI (tp + 4 + 4 + 4)) (fd4 (fd4 (fd4 f tp v1) (tp + 4) v2) (tp + 4 + 4) v3) (nI (4 * 3)) = F_X10_feed_b23 0 v1 v2 v3 v4 v5 (g + 1 + 1 + 1 + 1 + 1) (nI (tp + 4 + 4 + 4 + 4)) (fd4 (fd4 (fd4 (fd4 f tp v1) (tp + 4) v2) (tp + 4 + 4) v3) (tp + 4 + 4 + 4) v4) (nI (4 * 4)) := s3
    have s4' : F_X10_feed_b23 0 v1 v2 v3 v4 v5 (g + 1 + 1 + 1 + 1 + 1) (nI (tp + 4 + 4 + 4 + 4)) (fd4 (fd4 (fd4 (fd4 f tp v1) (tp + 4) v2) (tp + 4 + 4) v3) (tp + 4 + 4 + 4) v4) (nI (4 * 4)) = F_X10_feed_b23 0 v1 v2 v3 v4 v5 (g + 1) (nI (tp + 4 + 4 + 4 + 4 + 4)) (fd4 (fd4 (fd4 (fd4 (fd4 f tp v1) (tp + 4) v2) (tp + 4 + 4) v3) (tp + 4 + 4 + 4) v4) (tp + 4 + 4 + 4 + 4) v5) (nI (4 * 5)) := s4
    rw [s0', s1', s2', s3', s4', F_X10_feed_b23, if_pos (by decide)]
  · rw [if_pos (show nI (900 - tp) < (20 : Int32) by rw [zl_20, zd_lt (by omega) (by omega)]; omega), if_neg (show ¬ nI (tp + 20) ≤ (900 : Int32) by rw [zl_900, zd_le (by omega) (by omega)]; exact d), z_b1, if_pos rfl]
    exact ⟨-1, tp, f, htp, h, rfl, rfl⟩
end
