section
/-! words of a text: class and reference -/
theorem rtk_ne : ∀ k, k < 6 → k ≠ 1 → rtk k ≠ 2 ∧ rtk k < 100 := by decide
theorem sLen_e (a : Nat) : sLen a = nI (lenS.getD a 0) := rfl
theorem X7_is28 {p L m : Nat} {f : Nat → Int32} {a : Nat} (hL : lenS.getD a 0 = L) (hL8 : L ≤ 8) (hp : p + L ≤ 900) (hm : m ≤ L) (h1 : ∀ q, q < m → sCh a q = f (p + q)) (h2 : m < L → ¬ sCh a m = f (p + m)) : ∀ (j kf i : Nat), j < kf → i + j = m →
    F_X7_is_b28 (nI p) f a kf (nI i) = some (nI (if m = L then 1 else 0))
  | 0, kf, i, hj, hi => by
    obtain ⟨g, rfl⟩ : ∃ g, kf = g + 1 := ⟨kf - 1, by omega⟩
    have : i = m := by omega
    subst this
    rw [F_X7_is_b28, sLen_e, hL]
    by_cases d : i = L
    · rw [if_pos (by rw [zd_le (by omega) (by omega)]; omega), if_pos d]; rfl
    · rw [if_neg (by rw [zd_le (by omega) (by omega)]; omega), if_neg (nI_in (by omega) (by omega)), zq_add, if_neg (nI_in (by omega) (by omega)), zd_cl (by omega), zd_cl (by omega), if_neg (h2 (by omega)), if_neg d]; rfl
  | j + 1, kf, i, hj, hi => by
    obtain ⟨g, rfl⟩ : ∃ g, kf = g + 1 := ⟨kf - 1, by omega⟩
    rw [F_X7_is_b28, sLen_e, hL, if_neg (by rw [zd_le (by omega) (by omega)]; omega), if_neg (nI_in (by omega) (by omega)), zq_add, if_neg (nI_in (by omega) (by omega)), zd_cl (by omega), zd_cl (by omega), if_pos (h1 i (by omega)), zl_1, zq_add]
    exact X7_is28 hL hL8 hp hm h1 h2 j g (i + 1) (by omega) (by omega)
theorem X10_isW0 {L : Nat} {le : Nat → Int32} {b : Nat} (hL8 : L ≤ 8) : ∀ (j kf i : Nat), j < kf → i + j = L → F_X10_isWord_b32 (nI L) le b kf 0 (nI i) = some 0
  | 0, kf, i, hj, hi => by
    obtain ⟨g, rfl⟩ : ∃ g, kf = g + 1 := ⟨kf - 1, by omega⟩
    rw [F_X10_isWord_b32, if_pos (by rw [zd_le (by omega) (by omega)]; omega), if_neg (by decide)]
  | j + 1, kf, i, hj, hi => by
    obtain ⟨g, rfl⟩ : ∃ g, kf = g + 1 := ⟨kf - 1, by omega⟩
    rw [F_X10_isWord_b32, if_neg (by rw [zd_le (by omega) (by omega)]; omega), if_pos rfl]
    unfold F_X10_isWord_b62 F_X10_isWord_b63
    rw [zl_1, zq_add]
    exact X10_isW0 hL8 j g (i + 1) (by omega) (by omega)
theorem X10_isW32 {p L m : Nat} {f le : Nat → Int32} {b : Nat} (hL : lenS.getD b 0 = L) (hL8 : L ≤ 8) (hle : ∀ q, q < L → le q = f (p + q)) (hm : m ≤ L) (h1 : ∀ q, q < m → sCh b q = f (p + q)) (h2 : m < L → ¬ sCh b m = f (p + m)) : ∀ (j kf i : Nat), j + 20 < kf → i + j = m →
    F_X10_isWord_b32 (nI L) le b kf 1 (nI i) = some (nI (if m = L then 1 else 0))
  | 0, kf, i, hj, hi => by
    obtain ⟨g, rfl⟩ : ∃ g, kf = g + 1 := ⟨kf - 1, by omega⟩
    have : i = m := by omega
    subst this
    rw [F_X10_isWord_b32]
    by_cases d : i = L
    · rw [if_pos (by rw [zd_le (by omega) (by omega)]; omega), if_neg (by decide), if_pos d]; rfl
    · have hn : ¬ le i = sCh b i := by rw [hle i (by omega)]; exact fun h => h2 (by omega) h.symm
      rw [if_neg (by rw [zd_le (by omega) (by omega)]; omega), if_neg (by decide), if_neg (nI_in (by omega) (by omega)), hL, if_neg (nI_in (by omega) (by omega)), zd_cl (by omega), if_neg hn, if_neg d]
      unfold F_X10_isWord_b62 F_X10_isWord_b63
      rw [zl_1, zq_add]
      exact X10_isW0 hL8 (L - (i + 1)) g (i + 1) (by omega) (by omega)
  | j + 1, kf, i, hj, hi => by
    obtain ⟨g, rfl⟩ : ∃ g, kf = g + 1 := ⟨kf - 1, by omega⟩
    have hy : le i = sCh b i := by rw [hle i (by omega)]; exact (h1 i (by omega)).symm
    rw [F_X10_isWord_b32, if_neg (by rw [zd_le (by omega) (by omega)]; omega), if_neg (by decide), if_neg (nI_in (by omega) (by omega)), hL, if_neg (nI_in (by omega) (by omega)), zd_cl (by omega), if_pos hy]
    unfold F_X10_isWord_b63
    have j1 : nI i + (1 : Int32) = nI (i + 1) := by rw [zl_1, zq_add]
    rw [j1]
    exact X10_isW32 hL hL8 hle hm h1 h2 j g (i + 1) (by omega) (by omega)
theorem is_both {fu : Nat} (hfu : 20000 ≤ fu) {n : Nat} (hn : n ≤ 900) {f : Nat → Int32} {T : Nat → Nat} {k p e w : Nat} {bh so pl wh : Int32} {wo : Int64} {at' en tok wr ns : Int32} {le : Nat → Int32} (h : TK n f T k p e w bh so pl wh wo at' en tok wr ns le) {a b : Nat} (hc : bytS.getD a [] = bytS.getD b []) (hl : lenS.getD a 0 = lenS.getD b 0) :
    ∃ r : Bool, F_X7_is fu bh so pl f a = some (nI (if r = true then 1 else 0)) ∧ F_X10_isWord fu tok ns 0 le b = some (nI (if r = true then 1 else 0)) ∧ (r = true → k = 1) := by
  obtain ⟨hk5, hpe, hen, hne, ⟨rfl, rfl, rfl⟩, ⟨rfl, rfl, rfl⟩, hw1, hw2⟩ := h
  unfold F_X7_is F_X10_isWord
  rw [if_pos (rfl : (0 : Int32) = 0)]
  by_cases dk : k = 1
  · subst dk
    obtain ⟨h8, rfl, hwo, hle⟩ := hw1 rfl
    have e1 : nI (rtk 1) = (2 : Int32) := rfl
    rw [if_pos (by rfl), if_pos e1, zq_sub hpe, sLen_e, sLen_e, ← hl]
    by_cases dl : lenS.getD a 0 = e - p
    · rw [dl, if_pos rfl, if_pos rfl]
      obtain ⟨m, m1, m2, m3, m4⟩ := run_ex (fun q => sCh a q = f (p + q)) (e - p) (e - p) 0 (by omega)
      have hcs : ∀ q, sCh a q = sCh b q := fun q => by unfold sCh; rw [hc]
      refine ⟨decide (m = e - p), ?_, ?_, fun _ => rfl⟩
      · have := X7_is28 (p := p) (f := f) (a := a) dl h8 (by omega) m2 (fun q hq => m3 q (by omega) hq) m4 m fu 0 (by omega) (by omega)
        simp only [decide_eq_true_eq]
        exact this
      · have := X10_isW32 (p := p) (f := f) (le := le) (b := b) (by rw [← hl]; exact dl) h8 (fun q hq => (hle q hq).1) m2 (fun q hq => by rw [← hcs]; exact m3 q (by omega) hq) (fun hq => by rw [← hcs]; exact m4 hq) m fu 0 (by omega) (by omega)
        simp only [decide_eq_true_eq]
        exact this
    · have hlen : lenS.getD a 0 < 2147483648 := by
        have hb : ∀ x, x ∈ lenS → x < 100 := by decide
        rw [List.getD_eq_getElem?_getD]
        rcases hg : lenS[a]? with _ | x
        · simp
        · have := hb x (List.mem_of_getElem? hg)
          simp only [Option.getD_some]; omega
      have dne : ¬ nI (e - p) = nI (lenS.getD a 0) := by
        rw [zd_eq (by omega) hlen]; omega
      rw [if_neg dne, if_neg dne]
      exact ⟨false, rfl, rfl, fun h => by cases h⟩
  · have e1 : ¬ nI k = (1 : Int32) := by rw [zl_1, zd_eq (by omega) (by omega)]; exact dk
    have e2 : ¬ nI (rtk k) = (2 : Int32) := by
      have hr := rtk_ne k (by omega) dk
      rw [zl_2, zd_eq (by omega) (by omega)]; exact hr.1
    rw [if_neg e1, if_neg e2]
    exact ⟨false, rfl, rfl, fun h => by cases h⟩
/-! a name must stand here -/
theorem name_both {fu : Nat} (hfu : 20000 ≤ fu) {n : Nat} (hn : n ≤ 900) {f : Nat → Int32} {T : Nat → Nat} {k p e w : Nat} {bh so pl wh : Int32} {wo : Int64} {at' en tok wr ns : Int32} {le : Nat → Int32} (h : TK n f T k p e w bh so pl wh wo at' en tok wr ns le) (fa pc : Int32) :
    (F_X7_isName fu bh so pl f = some 1 ∧ F_X10_mustName fu at' tok ns fa pc 0 le = some (fa, pc, 0) ∧ k = 1) ∨
    (F_X7_isName fu bh so pl f = some 0 ∧ F_X10_mustName fu at' tok ns fa pc 0 le = some (1, at', 1)) := by
  obtain ⟨r0, a0, b0, c0⟩ := is_both hfu hn h (a := 3) (b := 23) rfl rfl
  obtain ⟨r1, a1, b1, c1⟩ := is_both hfu hn h (a := 4) (b := 25) rfl rfl
  obtain ⟨r2, a2, b2, c2⟩ := is_both hfu hn h (a := 5) (b := 26) rfl rfl
  obtain ⟨r3, a3, b3, c3⟩ := is_both hfu hn h (a := 6) (b := 27) rfl rfl
  obtain ⟨r4, a4, b4, c4⟩ := is_both hfu hn h (a := 7) (b := 28) rfl rfl
  obtain ⟨hk5, hpe, hen, hne, ⟨rfl, rfl, rfl⟩, ⟨rfl, rfl, rfl⟩, hw1, hw2⟩ := h
  have hw : F_X10_wrong fa pc 0 1 (nI p) = some (1, nI p, 1) := rfl
  unfold F_X7_isName F_X10_mustName F_X10_mustName_b45 F_X10_mustName_b50 F_X10_mustName_b63
  rw [a0, a1, a2, a3, a4, b0, b1, b2, b3, b4]
  by_cases dk : k = 1
  · subst dk
    have e1 : nI (rtk 1) = (2 : Int32) := rfl
    rw [if_pos (show nI 1 = (1 : Int32) from rfl), if_pos e1, if_pos e1, hw]
    cases r0 <;> cases r1 <;> cases r2 <;> cases r3 <;> cases r4 <;> first
      | exact Or.inl ⟨rfl, rfl, rfl⟩
      | exact Or.inr ⟨rfl, rfl⟩
  · have e1 : ¬ nI k = (1 : Int32) := by rw [zl_1, zd_eq (by omega) (by omega)]; exact dk
    have e2 : ¬ nI (rtk k) = (2 : Int32) := by
      have hr := rtk_ne k (by omega) dk
      rw [zl_2, zd_eq (by omega) (by omega)]; exact hr.1
    have z0 : r0 = false := by cases r0 with | false => rfl | true => exact absurd (c0 rfl) dk
    have z1 : r1 = false := by cases r1 with | false => rfl | true => exact absurd (c1 rfl) dk
    have z2 : r2 = false := by cases r2 with | false => rfl | true => exact absurd (c2 rfl) dk
    have z3 : r3 = false := by cases r3 with | false => rfl | true => exact absurd (c3 rfl) dk
    have z4 : r4 = false := by cases r4 with | false => rfl | true => exact absurd (c4 rfl) dk
    subst z0; subst z1; subst z2; subst z3; subst z4
    rw [if_neg e1, if_neg e2, if_neg e2, hw]
    exact Or.inr ⟨rfl, rfl⟩
/-! numbers of words -/
theorem wv_lt {g : Nat → Nat} : ∀ n, (∀ k, k < n → g k ≤ 26) → wv g n < 32 ^ n
  | 0, _ => by rw [wv]; omega
  | n + 1, h => by
    have := wv_lt n (fun k hk => h k (by omega))
    have := h n (by omega)
    rw [wv, Nat.pow_succ]; omega
theorem wv_inj {g h : Nat → Nat} : ∀ n m, (∀ k, k < n → 1 ≤ g k ∧ g k ≤ 26) → (∀ k, k < m → 1 ≤ h k ∧ h k ≤ 26) → wv g n = wv h m → n = m ∧ ∀ k, k < n → g k = h k
  | 0, 0, _, _, _ => ⟨rfl, fun k hk => by omega⟩
  | 0, m + 1, _, hh, e => by
    have := hh m (by omega)
    rw [wv, wv] at e; omega
  | n + 1, 0, hg, _, e => by
    have := hg n (by omega)
    rw [wv, wv] at e; omega
  | n + 1, m + 1, hg, hh, e => by
    have q1 := hg n (by omega)
    have q2 := hh m (by omega)
    rw [wv, wv] at e
    have e2 : g n = h m := by omega
    obtain ⟨r1, r2⟩ := wv_inj n m (fun k hk => hg k (by omega)) (fun k hk => hh k (by omega)) (by omega)
    subst r1
    refine ⟨rfl, fun k hk => ?_⟩
    by_cases d : k = n
    · subst d; exact e2
    · exact r2 k (by omega)
theorem wv_cong {g h : Nat → Nat} : ∀ n, (∀ k, k < n → g k = h k) → wv g n = wv h n
  | 0, _ => rfl
  | n + 1, e => by rw [wv, wv, wv_cong n (fun k hk => e k (by omega)), e n (by omega)]
/-- a name W in the reference's place j -/
def NM (fr : Nat → Int32) (j W : Nat) : Prop := ∃ (s : Nat) (g : Nat → Nat), 1 ≤ s ∧ s ≤ 8 ∧ fr (7 + j) = nI s ∧ (∀ q, q < s → fr (14 + 8 * j + q) = nI (g q + 96) ∧ 1 ≤ g q ∧ g q ≤ 26) ∧ W = wv g s
/-- the token is the word W -/
def TW (W : Nat) (ns : Int32) (le : Nat → Int32) : Prop := ∃ (s : Nat) (g : Nat → Nat), 1 ≤ s ∧ s ≤ 8 ∧ ns = nI s ∧ (∀ q, q < s → le q = nI (g q + 96) ∧ 1 ≤ g q ∧ g q ≤ 26) ∧ W = wv g s
theorem wv_40 {s : Nat} {g : Nat → Nat} (hs : s ≤ 8) (h : ∀ q, q < s → g q ≤ 26) : wv g s < 1099511627776 := by
  have h1 := wv_lt s h
  have h2 : 32 ^ s ≤ 32 ^ 8 := Nat.pow_le_pow_right (by omega) hs
  have h3 : (32 : Nat) ^ 8 = 1099511627776 := by decide
  omega
theorem TW_lt {W : Nat} {ns : Int32} {le : Nat → Int32} (h : TW W ns le) : W < 1099511627776 := by
  obtain ⟨s, g, h1, h2, h3, h4, rfl⟩ := h
  exact wv_40 h2 (fun q hq => (h4 q hq).2.2)
theorem NM_lt {W j : Nat} {fr : Nat → Int32} (h : NM fr j W) : W < 1099511627776 := by
  obtain ⟨s, g, h1, h2, h3, h4, rfl⟩ := h
  exact wv_40 h2 (fun q hq => (h4 q hq).2.2)
theorem TK_TW {n : Nat} {f : Nat → Int32} {T : Nat → Nat} (ht : tx f T) {p e w : Nat} {bh so pl wh : Int32} {wo : Int64} {at' en tok wr ns : Int32} {le : Nat → Int32} (h : TK n f T 1 p e w bh so pl wh wo at' en tok wr ns le) : ∃ W, TW W ns le ∧ wo = lN W := by
  obtain ⟨hk5, hpe, hen, hne, _, _, hw1, hw2⟩ := h
  obtain ⟨h8, h9, hwo, hle⟩ := hw1 rfl
  have hp := hne (by omega)
  refine ⟨_, ⟨e - p, fun j => T (p + j) - 96, by omega, h8, h9, fun q hq => ?_, rfl⟩, hwo⟩
  have h1 := hle q hq
  have h2 := h1.2
  unfold let_ at h2
  show le q = nI (T (p + q) - 96 + 96) ∧ 1 ≤ T (p + q) - 96 ∧ T (p + q) - 96 ≤ 26
  refine ⟨?_, by omega, by omega⟩
  rw [h1.1, (ht (p + q)).1, Nat.sub_add_cancel (by omega)]
theorem X10_find_cmp {fu j W U : Nat} (hfu : 20000 ≤ fu) (hj : j < 7) {fr le : Nat → Int32} {ns : Int32} (hN : NM fr j U) (hT : TW W ns le) (k2 : Int32 → Option Int32) :
    (if fr (7 + j) = ns then F_X10_find_b41 k2 fu ns fr le (nI j) 1 else F_X10_find_b40 k2 fu ns fr le (nI j)) = (if U = W then some (nI j) else k2 (nI (j + 1))) := by
  obtain ⟨s, g, s1, s8, es, hg, rfl⟩ := hN
  obtain ⟨t, h, t1, t8, rfl, hh, rfl⟩ := hT
  have jp : nI j + (1 : Int32) = nI (j + 1) := by rw [zl_1, zq_add]
  have f0 : ∀ v : Nat, v ≤ t → F_X10_find_b44 k2 fu (nI t) fr le (nI j) fu 0 (nI v) = k2 (nI (j + 1)) := by
    intro v hv
    obtain ⟨u, rfl⟩ : ∃ u, fu = u + 1 := ⟨fu - 1, by omega⟩
    rw [F_X10_find_b44]
    unfold F_X10_find_b91
    rw [if_pos (rfl : (0 : Int32) = 0), jp]
    by_cases d : t ≤ v
    · rw [if_pos (by rw [zd_le (by omega) (by omega)]; exact d)]
    · rw [if_neg (by rw [zd_le (by omega) (by omega)]; exact d), if_pos rfl]
  have f0g : ∀ (u v : Nat), v ≤ t → F_X10_find_b44 k2 fu (nI t) fr le (nI j) (u + 1) 0 (nI v) = k2 (nI (j + 1)) := by
    intro u v hv
    rw [F_X10_find_b44]
    unfold F_X10_find_b91
    rw [if_pos (rfl : (0 : Int32) = 0), jp]
    by_cases d : t ≤ v
    · rw [if_pos (by rw [zd_le (by omega) (by omega)]; exact d)]
    · rw [if_neg (by rw [zd_le (by omega) (by omega)]; exact d), if_pos rfl]
  rw [es]
  unfold F_X10_find_b40 F_X10_find_b41
  by_cases d : s = t
  · subst d
    rw [if_pos rfl]
    obtain ⟨m, m1, m2, m3, m4⟩ := run_ex (fun q => g q = h q) s s 0 (by omega)
    have go : ∀ (x kf v : Nat), x + 20 < kf → v + x = m → F_X10_find_b44 k2 fu (nI s) fr le (nI j) kf 1 (nI v) = (if m = s then some (nI j) else k2 (nI (j + 1))) := by
      intro x
      induction x with
      | zero =>
        intro kf v hx hv
        obtain ⟨u, rfl⟩ : ∃ u, kf = u + 1 + 1 := ⟨kf - 2, by omega⟩
        have : v = m := by omega
        subst this
        rw [F_X10_find_b44]
        by_cases q : v = s
        · rw [if_pos (by rw [zd_le (by omega) (by omega)]; omega), if_pos q]
          unfold F_X10_find_b91
          rw [if_neg (by decide)]
        · have hx1 := hg v (by omega)
          have hx2 := hh v (by omega)
          have hne : ¬ nI (g v + 96) = nI (h v + 96) := by
            rw [zd_eq (by omega) (by omega)]
            have := m4 (by omega)
            omega
          have e14 : (14 : Int32) + (8 : Int32) * nI j + nI v = nI (14 + 8 * j + v) := by rw [zl_14, zl_8, zq_mul, zq_add, zq_add]
          rw [if_neg (by rw [zd_le (by omega) (by omega)]; omega), if_neg (by decide), e14, if_neg (nI_in (by omega) (by omega)), if_neg (nI_in (by omega) (by omega)), zd_cl (by omega), zd_cl (by omega), hx1.1, hx2.1, if_neg hne, if_neg q]
          unfold F_X10_find_b84
          rw [zl_1, zq_add]
          exact f0g u (v + 1) (by omega)
      | succ x ih =>
        intro kf v hx hv
        obtain ⟨u, rfl⟩ : ∃ u, kf = u + 1 := ⟨kf - 1, by omega⟩
        have hx1 := hg v (by omega)
        have hx2 := hh v (by omega)
        have heq : nI (g v + 96) = nI (h v + 96) := by rw [show g v = h v from m3 v (by omega) (by omega)]
        have e14 : (14 : Int32) + (8 : Int32) * nI j + nI v = nI (14 + 8 * j + v) := by rw [zl_14, zl_8, zq_mul, zq_add, zq_add]
        rw [F_X10_find_b44, if_neg (by rw [zd_le (by omega) (by omega)]; omega), if_neg (by decide), e14, if_neg (nI_in (by omega) (by omega)), if_neg (nI_in (by omega) (by omega)), zd_cl (by omega), zd_cl (by omega), hx1.1, hx2.1, if_pos heq]
        unfold F_X10_find_b84
        have j1 : nI v + (1 : Int32) = nI (v + 1) := by rw [zl_1, zq_add]
        rw [j1]
        exact ih u (v + 1) (by omega) (by omega)
    have e1 : F_X10_find_b44 k2 fu (nI s) fr le (nI j) fu 1 0 = _ := go m fu 0 (by omega) (by omega)
    rw [e1]
    by_cases q : m = s
    · subst q
      rw [if_pos rfl, if_pos (wv_cong m (fun k hk => m3 k (by omega) hk))]
    · rw [if_neg q, if_neg]
      intro hw
      have := (wv_inj s s (fun k hk => (hg k hk).2) (fun k hk => (hh k hk).2) hw).2 m (by omega)
      exact m4 (by omega) this
  · have dne : ¬ nI s = nI t := by rw [zd_eq (by omega) (by omega)]; exact d
    have e0 : F_X10_find_b44 k2 fu (nI t) fr le (nI j) fu 0 0 = _ := f0 0 (by omega)
    rw [if_neg dne, e0, if_neg]
    intro hw
    exact d (wv_inj s t (fun k hk => (hg k hk).2) (fun k hk => (hh k hk).2) hw).1
end
