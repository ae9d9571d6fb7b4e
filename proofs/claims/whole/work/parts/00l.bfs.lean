/-! the stands in the order in which they are found: (how many, which) -/
abbrev Gr := Nat × (Nat → St)
def fnd (G : Gr) (z : St) : Nat := fa_first (fun i => decide (G.2 i = z)) G.1
def ad (G : Gr) (o : Option St) : Gr := match o with
  | none => G
  | some z => if fnd G z < G.1 then G else (G.1 + 1, fun i => if i = G.1 then z else G.2 i)
def pk (y : Sy) (x : St) : Nat → Gr → Gr
  | 0, G => G
  | k + 1, G => ad (pk y x k G) (nst y k x)
def bf (y : Sy) : Nat → Nat → Gr → Gr
  | 0, _, G => G
  | f + 1, s, G => if s < G.1 then (if 6000 < (pk y (G.2 s) 4 G).1 then pk y (G.2 s) 4 G else bf y f (s + 1) (pk y (G.2 s) 4 G)) else G
def gr (y : Sy) : Gr := bf y 6001 0 (1, fun _ => ini y)
def full (y : Sy) : Bool := decide (6000 < (gr y).1)
/-- where a step leads -/
def cd (G : Gr) (o : Option St) : Int32 := match o with
  | none => -1
  | some z => nI (fnd G z)
theorem fnd_lt {G : Gr} {z : St} (h : fnd G z < G.1) : G.2 (fnd G z) = z := by
  have := fa_first_yes (fun i => decide (G.2 i = z)) G.1 h
  exact of_decide_eq_true this
theorem fnd_no {G : Gr} {z : St} {i : Nat} (h : i < fnd G z) : G.2 i ≠ z := by
  have := fa_first_no (fun i => decide (G.2 i = z)) G.1 i h
  exact of_decide_eq_false this
theorem fnd_le {G : Gr} {z : St} : fnd G z ≤ G.1 := fa_first_le _ _
def nod (G : Gr) : Prop := ∀ i j, i < j → j < G.1 → G.2 i ≠ G.2 j
theorem fnd_at {G : Gr} (hn : nod G) {i : Nat} (hi : i < G.1) : fnd G (G.2 i) = i := by
  rcases Nat.lt_trichotomy (fnd G (G.2 i)) i with h | h | h
  · exact absurd (fnd_lt (Nat.lt_trans h hi)) (hn _ _ h hi)
  · exact h
  · exact absurd rfl (fnd_no h)
theorem fnd_has {G : Gr} {z : St} {i : Nat} (hi : i < G.1) (h : G.2 i = z) : fnd G z < G.1 := by
  rcases Nat.lt_or_ge (fnd G z) G.1 with g | g
  · exact g
  · exact absurd h (fnd_no (Nat.lt_of_lt_of_le hi g))
/-- G goes on as G' -/
def ext (G G' : Gr) : Prop := G.1 ≤ G'.1 ∧ ∀ i, i < G.1 → G'.2 i = G.2 i
theorem ext_refl {G : Gr} : ext G G := ⟨Nat.le_refl _, fun _ _ => rfl⟩
theorem ext_trans {A B C : Gr} (h : ext A B) (g : ext B C) : ext A C := ⟨Nat.le_trans h.1 g.1, fun i hi => (g.2 i (Nat.lt_of_lt_of_le hi h.1)).trans (h.2 i hi)⟩
theorem fnd_ext {G G' : Gr} (h : ext G G') {z : St} (hz : fnd G z < G.1) : fnd G' z = fnd G z := by
  have e : G'.2 (fnd G z) = z := by rw [h.2 _ hz, fnd_lt hz]
  have l := fnd_has (Nat.lt_of_lt_of_le hz h.1) e
  rcases Nat.lt_trichotomy (fnd G' z) (fnd G z) with g | g | g
  · have q := fnd_lt l
    rw [h.2 _ (Nat.lt_trans g hz)] at q
    exact absurd q (fnd_no g)
  · exact g
  · exact absurd e (fnd_no g)
theorem ad_ext {G : Gr} {o : Option St} : ext G (ad G o) := by
  unfold ad
  split
  · exact ext_refl
  · split
    · exact ext_refl
    · refine ⟨Nat.le_succ _, fun i hi => ?_⟩
      show (if i = G.1 then _ else G.2 i) = G.2 i
      rw [if_neg (by omega)]
theorem ad_has {G : Gr} {z : St} : fnd (ad G (some z)) z < (ad G (some z)).1 := by
  unfold ad
  simp only
  split
  · assumption
  · exact fnd_has (i := G.1) (Nat.lt_succ_self _) (by show (if G.1 = G.1 then z else _) = z; rw [if_pos rfl])
theorem ad_nod {G : Gr} {o : Option St} (h : nod G) : nod (ad G o) := by
  unfold ad
  split
  · exact h
  · rename_i z
    split
    · exact h
    · rename_i hz
      intro i j hij hj
      have hj' : j < G.1 + 1 := hj
      show (if i = G.1 then z else G.2 i) ≠ (if j = G.1 then z else G.2 j)
      rw [if_neg (by omega : ¬ i = G.1)]
      split
      · intro e; exact hz (fnd_has (by omega) e)
      · exact h i j hij (by omega)
theorem pk_ext {y : Sy} {x : St} {G : Gr} : ∀ k, ext G (pk y x k G)
  | 0 => ext_refl
  | k + 1 => ext_trans (pk_ext k) ad_ext
theorem pk_ext2 {y : Sy} {x : St} {G : Gr} (k : Nat) : ∀ j, ext (pk y x k G) (pk y x (k + j) G)
  | 0 => ext_refl
  | j + 1 => ext_trans (pk_ext2 k j) ad_ext
theorem pk_nod {y : Sy} {x : St} {G : Gr} (h : nod G) : ∀ k, nod (pk y x k G)
  | 0 => h
  | k + 1 => ad_nod (pk_nod h k)
theorem pk_has {y : Sy} {x z : St} {G : Gr} {k m : Nat} (h : k < m) (e : nst y k x = some z) : fnd (pk y x m G) z < (pk y x m G).1 := by
  have h1 : fnd (pk y x (k + 1) G) z < (pk y x (k + 1) G).1 := by
    show fnd (ad (pk y x k G) (nst y k x)) z < (ad (pk y x k G) (nst y k x)).1
    rw [e]; exact ad_has
  have h2 := pk_ext2 (y := y) (x := x) (G := G) (k + 1) (m - (k + 1))
  rw [show k + 1 + (m - (k + 1)) = m by omega] at h2
  rw [fnd_ext h2 h1]
  exact Nat.lt_of_lt_of_le h1 h2.1
theorem pk_new {y : Sy} {x : St} {G : Gr} : ∀ m i, G.1 ≤ i → i < (pk y x m G).1 → ∃ k, k < m ∧ nst y k x = some ((pk y x m G).2 i)
  | 0, i, h1, h2 => absurd h2 (Nat.not_lt.mpr h1)
  | m + 1, i, h1, h2 => by
    have h2' : i < (ad (pk y x m G) (nst y m x)).1 := h2
    show ∃ k, k < m + 1 ∧ nst y k x = some ((ad (pk y x m G) (nst y m x)).2 i)
    rcases Nat.lt_or_ge i (pk y x m G).1 with g | g
    · obtain ⟨k, hk, e⟩ := pk_new m i h1 g
      refine ⟨k, by omega, ?_⟩
      rw [ad_ext.2 i g]
      exact e
    · refine ⟨m, by omega, ?_⟩
      unfold ad at h2' ⊢
      split at h2'
      · exact absurd h2' (Nat.not_lt.mpr g)
      · rename_i z e
        rw [e]
        split at h2'
        · exact absurd h2' (Nat.not_lt.mpr g)
        · rename_i hz
          rw [if_neg hz]
          have : i < (pk y x m G).1 + 1 := h2'
          have e2 : i = (pk y x m G).1 := by omega
          show some z = some (if i = (pk y x m G).1 then z else _)
          rw [if_pos e2]
/-- what holds at the head of the search -/
def bi (y : Sy) (s : Nat) (G : Gr) : Prop := 0 < G.1 ∧ G.2 0 = ini y ∧ nod G ∧ s ≤ G.1 ∧ (∀ i, i < G.1 → okS y (G.2 i)) ∧
  (∀ i k z, i < s → k < 4 → nst y k (G.2 i) = some z → fnd G z < G.1) ∧
  (∀ i j, i ≤ j → j < G.1 → lv y (G.2 i) ≤ lv y (G.2 j)) ∧ (∀ i, i < G.1 → s < G.1 → lv y (G.2 i) ≤ lv y (G.2 s) + 1) ∧
  (∀ i, 0 < i → i < G.1 → ∃ j k, j < i ∧ j < s ∧ k < 4 ∧ nst y k (G.2 j) = some (G.2 i))
theorem bi_0 {y : Sy} (hw : WF y) : bi y 0 (1, fun _ => ini y) := by
  refine ⟨by show 0 < 1; omega, rfl, ?_, by omega, ?_, ?_, ?_, ?_, ?_⟩
  · intro i j h h2; have : j < 1 := h2; omega
  · intro i _; exact okS_ini hw
  · intro i k z h; omega
  · intro i j _ _; exact Nat.le_refl _
  · intro i _ _; exact Nat.le_succ _
  · intro i h1 h2; have : i < 1 := h2; omega
theorem bi_step {y : Sy} (hw : WF y) {s : Nat} {G : Gr} (h : bi y s G) (hs : s < G.1) : bi y (s + 1) (pk y (G.2 s) 4 G) := by
  obtain ⟨h0, h1, h2, h3, h4, h5, h6, h7, h8⟩ := h
  have hx := pk_ext (y := y) (x := G.2 s) (G := G) 4
  have hlv : ∀ i, G.1 ≤ i → i < (pk y (G.2 s) 4 G).1 → okS y ((pk y (G.2 s) 4 G).2 i) ∧ lv y ((pk y (G.2 s) 4 G).2 i) = lv y (G.2 s) + 1 := by
    intro i g1 g2
    obtain ⟨k, _, e⟩ := pk_new 4 i g1 g2
    exact nst_okS hw (h4 s hs) e
  refine ⟨Nat.lt_of_lt_of_le h0 hx.1, by rw [hx.2 0 h0, h1], pk_nod h2 4, Nat.le_trans hs hx.1, ?_, ?_, ?_, ?_, ?_⟩
  · intro i hi
    rcases Nat.lt_or_ge i G.1 with g | g
    · rw [hx.2 i g]; exact h4 i g
    · exact (hlv i g hi).1
  · intro i k z hi hk e
    rcases Nat.lt_or_ge i s with g | g
    · rw [hx.2 i (Nat.lt_trans g hs)] at e
      have := h5 i k z g hk e
      rw [fnd_ext hx this]
      exact Nat.lt_of_lt_of_le this hx.1
    · have : i = s := by omega
      subst this
      rw [hx.2 i hs] at e
      exact pk_has hk e
  · intro i j hij hj
    rcases Nat.lt_or_ge j G.1 with g | g
    · rw [hx.2 j g, hx.2 i (by omega)]; exact h6 i j hij g
    · rw [(hlv j g hj).2]
      rcases Nat.lt_or_ge i G.1 with g2 | g2
      · rw [hx.2 i g2]; exact h7 i g2 hs
      · rw [(hlv i g2 (by omega)).2]; exact Nat.le_refl _
  · intro i hi hs1
    have hl : lv y (G.2 s) ≤ lv y ((pk y (G.2 s) 4 G).2 (s + 1)) := by
      rcases Nat.lt_or_ge (s + 1) G.1 with g | g
      · rw [hx.2 _ g]; exact h6 s (s + 1) (by omega) g
      · rw [(hlv _ g hs1).2]; omega
    rcases Nat.lt_or_ge i G.1 with g | g
    · rw [hx.2 i g]
      have := h7 i g hs
      omega
    · rw [(hlv i g hi).2]; omega
  · intro i h0i hi
    rcases Nat.lt_or_ge i G.1 with g | g
    · obtain ⟨j, k, a, b, c, e⟩ := h8 i h0i g
      refine ⟨j, k, a, by omega, c, ?_⟩
      rw [hx.2 i g, hx.2 j (by omega)]
      exact e
    · obtain ⟨k, hk, e⟩ := pk_new 4 i g hi
      refine ⟨s, k, by omega, by omega, hk, ?_⟩
      rw [hx.2 s hs]
      exact e
theorem bf_end {y : Sy} (hw : WF y) : ∀ (f s : Nat) (G : Gr), bi y s G → 6001 ≤ f + s → G.1 ≤ 6000 → (bf y f s G).1 ≤ 6000 → bi y (bf y f s G).1 (bf y f s G)
  | 0, s, G, h, hf, hG, hl => by
    have := h.2.2.2.1
    omega
  | f + 1, s, G, h, hf, hG, hl => by
    unfold bf at hl ⊢
    by_cases hs : s < G.1
    · rw [if_pos hs] at hl ⊢
      by_cases hq : 6000 < (pk y (G.2 s) 4 G).1
      · rw [if_pos hq] at hl
        omega
      · rw [if_neg hq] at hl ⊢
        exact bf_end hw f (s + 1) _ (bi_step hw h hs) (by omega) (by omega) hl
    · rw [if_neg hs]
      have : s = G.1 := by have := h.2.2.2.1; omega
      rw [← this]
      exact h
theorem gr_end {y : Sy} (hw : WF y) (h : full y = false) : bi y (gr y).1 (gr y) := by
  unfold full at h
  have h' : ¬ 6000 < (gr y).1 := by simpa using h
  exact bf_end hw 6001 0 _ (bi_0 hw) (by omega) (by show 1 ≤ 6000; omega) (by unfold gr at h'; omega)
