/-! from which stands an end is reached -/
def cen (y : Sy) : Nat → St → Prop
  | 0, x => whole y x = true
  | n + 1, x => whole y x = true ∨ ∃ k z, k < 4 ∧ nst y k x = some z ∧ cen y n z
def CE (y : Sy) (x : St) : Prop := ∃ n, cen y n x
theorem CE_iff {y : Sy} {x : St} : CE y x ↔ (whole y x = true ∨ ∃ k z, k < 4 ∧ nst y k x = some z ∧ CE y z) := by
  constructor
  · rintro ⟨n, h⟩
    cases n with
    | zero => exact Or.inl h
    | succ n =>
      rcases h with h | ⟨k, z, h1, h2, h3⟩
      · exact Or.inl h
      · exact Or.inr ⟨k, z, h1, h2, n, h3⟩
  · rintro (h | ⟨k, z, h1, h2, n, h3⟩)
    · exact ⟨0, h⟩
    · exact ⟨n + 1, Or.inr ⟨k, z, h1, h2, h3⟩⟩
def isB (v : Int32) (P : Prop) : Prop := (v = nI 1 ∧ P) ∨ (v = nI 0 ∧ ¬ P)
theorem isB_iff {v : Int32} {P Q : Prop} (h : isB v P) (e : P ↔ Q) : isB v Q := by
  rcases h with ⟨a, b⟩ | ⟨a, b⟩
  · exact Or.inl ⟨a, e.mp b⟩
  · exact Or.inr ⟨a, fun g => b (e.mpr g)⟩
theorem zpm (a : Int32) : a + (-1 : Int32) = a - nI 1 := (Int32.sub_eq_add_neg ..).symm
theorem nar_nI0 : vp_nar .boolean (nI 0) = nI 0 := by decide
theorem nar_nI1 : vp_nar .boolean (nI 1) = nI 1 := by decide
/-- next stands of a graph, as a row has them -/
def NX (y : Sy) (G : Gr) (next : Nat → Int32) : Prop := ∀ i k, i < G.1 → k < 4 → next (4 * i + k) = cd G (nst y k (G.2 i))
/-- a graph that is closed, each step leading on -/
def GO (y : Sy) (G : Gr) : Prop := 0 < G.1 ∧ G.1 ≤ 6000 ∧ nod G ∧ G.2 0 = ini y ∧ (∀ i, i < G.1 → okS y (G.2 i)) ∧ (∀ i k z, i < G.1 → k < 4 → nst y k (G.2 i) = some z → fnd G z < G.1 ∧ i < fnd G z) ∧
  (∀ i, 0 < i → i < G.1 → ∃ j k, j < i ∧ k < 4 ∧ nst y k (G.2 j) = some (G.2 i))
theorem GO_gr {y : Sy} (hw : WF y) (h : full y = false) : GO y (gr y) := by
  have hb := gr_end hw h
  unfold full at h
  have h6 : (gr y).1 ≤ 6000 := by
    rcases Nat.lt_or_ge 6000 (gr y).1 with g | g
    · rw [decide_eq_true g] at h; cases h
    · exact g
  obtain ⟨a, b, c, _, e, f, g, _, hp⟩ := hb
  refine ⟨a, h6, c, b, e, fun i k z hi hk hz => ?_, fun i h0 hi => ?_⟩
  · have h1 := f i k z hi hk hz
    refine ⟨h1, ?_⟩
    rcases Nat.lt_or_ge i (fnd (gr y) z) with g1 | g1
    · exact g1
    · have h2 := g (fnd (gr y) z) i g1 hi
      rw [fnd_lt h1] at h2
      have h3 := (nst_okS hw (e i hi) hz).2
      omega
  · obtain ⟨j, k, h1, _, h3, h4⟩ := hp i h0 hi
    exact ⟨j, k, h1, h3, h4⟩
abbrev RC13 := Option (Int32 × Int32 × Int32 × Int32 × Int32 × (Nat → Int32) × (Nat → Int32) × (Nat → Int32) × (Nat → Int32) × (Nat → Int64) × (Nat → Int32) × (Nat → Int32) × (Nat → Int32))
theorem X10_co193 {fu : Nat} {y : Sy} {G : Gr} (hG : GO y G) (k179 : (Nat → Int32) → Int32 → RC13) {ans kind stands isFull : Int32} {long w row' slot doneOf next heard leads : Nat → Int32} {tills : Nat → Int64} {s : Nat} (hs : s < G.1) (hn : NX y G next)
    (hl : ∀ i, s < i → i < G.1 → isB (leads i) (CE y (G.2 i))) : ∀ (j kf q : Nat) (b : Int32) (P : Prop), isB b P → j < kf → q + j = 4 →
    ∃ b', isB b' (P ∨ ∃ k z, q ≤ k ∧ k < 4 ∧ nst y k (G.2 s) = some z ∧ CE y z) ∧
      F_X10_comes_b193 k179 fu ans kind stands isFull long w row' slot doneOf tills next heard leads (nI s) kf b (nI q) = k179 (upd leads s b') (nI s - nI 1)
  | 0, kf, q, b, P, hb, hj, hq => by
    obtain ⟨g, rfl⟩ : ∃ g, kf = g + 1 := ⟨kf - 1, by omega⟩
    have : q = 4 := by omega
    subst this
    have h6 := hG.2.1
    refine ⟨b, isB_iff hb ⟨Or.inl, fun h => ?_⟩, ?_⟩
    · rcases h with h | ⟨k, z, h1, h2, _⟩
      · exact h
      · omega
    · rw [F_X10_comes_b193, if_pos (by decide), if_neg (nI_in (by omega) (by omega)), zd_cl (by omega), zpm]
      rcases hb with ⟨rfl, _⟩ | ⟨rfl, _⟩
      · rw [nar_nI1]
      · rw [nar_nI0]
  | j + 1, kf, q, b, P, hb, hj, hq => by
    obtain ⟨g, rfl⟩ : ∃ g, kf = g + 1 := ⟨kf - 1, by omega⟩
    have h6 := hG.2.1
    have ih := fun b P hb => X10_co193 (fu := fu) hG k179 (ans := ans) (kind := kind) (stands := stands) (isFull := isFull) (long := long) (w := w) (row' := row') (slot := slot) (doneOf := doneOf) (heard := heard) (tills := tills) hs hn hl j g (q + 1) b P hb (by omega) (by omega)
    have i4 : (4 : Int32) * nI s + nI q = nI (4 * s + q) := by rw [zl_4, zq_mul, zq_add]
    have i1 : nI q + (1 : Int32) = nI (q + 1) := by rw [zl_1, zq_add]
    rw [F_X10_comes_b193, if_neg (by rw [zl_4, zd_le (by omega) (by omega)]; omega)]
    unfold F_X10_comes_b241 F_X10_comes_b237 F_X10_comes_b242
    rw [i4, i1]
    rcases hb with ⟨rfl, hP⟩ | ⟨rfl, hP⟩
    · rw [if_neg (by decide)]
      obtain ⟨b', h1, h2⟩ := ih (nI 1) True (Or.inl ⟨rfl, trivial⟩)
      exact ⟨b', isB_iff h1 ⟨fun _ => Or.inl hP, fun _ => Or.inl trivial⟩, h2⟩
    · rw [if_pos (by decide), if_neg (nI_in (by omega) (by omega)), zd_cl (by omega)]
      have hnx := hn s q hs (by omega)
      rcases e : nst y q (G.2 s) with _ | z
      · rw [e] at hnx
        have hnx' : next (4 * s + q) = -1 := hnx
        rw [hnx', if_pos (by decide)]
        obtain ⟨b', h1, h2⟩ := ih (nI 0) P (Or.inr ⟨rfl, hP⟩)
        refine ⟨b', isB_iff h1 ?_, h2⟩
        constructor
        · rintro (h | ⟨k, z, h1, h2, h3⟩)
          · exact Or.inl h
          · exact Or.inr ⟨k, z, by omega, h2, h3⟩
        · rintro (h | ⟨k, z, h1, h2, h3, h4⟩)
          · exact Or.inl h
          · by_cases c : k = q
            · subst c; rw [e] at h3; cases h3
            · exact Or.inr ⟨k, z, by omega, h2, h3, h4⟩
      · rw [e] at hnx
        have hnx' : next (4 * s + q) = nI (fnd G z) := hnx
        obtain ⟨f1, f2⟩ := hG.2.2.2.2.2.1 s q z hs (by omega) e
        rw [hnx', if_neg (nI_pos (by omega)), if_neg (zin (by omega) (by omega)), if_neg (nI_in (by omega) (by omega)), zd_cl (by omega)]
        have hlz := hl (fnd G z) f2 f1
        rw [fnd_lt f1] at hlz
        rcases hlz with ⟨h1, h2⟩ | ⟨h1, h2⟩
        · rw [h1, if_neg (by decide)]
          obtain ⟨b', h3, h4⟩ := ih (nI 1) True (Or.inl ⟨rfl, trivial⟩)
          exact ⟨b', isB_iff h3 ⟨fun _ => Or.inr ⟨q, z, Nat.le_refl _, by omega, e, h2⟩, fun _ => Or.inl trivial⟩, h4⟩
        · rw [h1, if_pos (by decide)]
          obtain ⟨b', h3, h4⟩ := ih (nI 0) P (Or.inr ⟨rfl, hP⟩)
          refine ⟨b', isB_iff h3 ?_, h4⟩
          constructor
          · rintro (h | ⟨k, z, h1, h2, h3⟩)
            · exact Or.inl h
            · exact Or.inr ⟨k, z, by omega, h2, h3⟩
          · rintro (h | ⟨k, z', g1, g2, g3, g4⟩)
            · exact Or.inl h
            · by_cases c : k = q
              · subst c
                rw [e] at g3
                injection g3 with g3
                subst g3
                exact absurd g4 h2
              · exact Or.inr ⟨k, z', by omega, g2, g3, g4⟩
theorem X10_co179 {fu : Nat} (hfu : 20000 ≤ fu) {y : Sy} (hw : WF y) {G : Gr} (hG : GO y G) {ans kind stands isFull loose minutes byKind : Int32} {long w row' slot doneOf next heard : Nat → Int32} {tills : Nat → Int64}
    (hE : RE y w loose minutes byKind) (hRw : rows_ok y long row') (hR : RR y G doneOf tills) (hn : NX y G next) :
    ∀ (n kf : Nat) (leads : Nat → Int32), n < kf → n ≤ G.1 → (∀ i, n ≤ i → i < G.1 → isB (leads i) (CE y (G.2 i))) →
    ∃ leads', F_X10_comes_b179 fu ans kind stands isFull long w row' slot doneOf tills next heard kf leads (nI n - nI 1) = some (1, ans, kind, stands, isFull, long, row', slot, doneOf, tills, next, heard, leads') ∧ ∀ i, i < G.1 → isB (leads' i) (CE y (G.2 i))
  | 0, kf, leads, hkf, hle, hl => by
    obtain ⟨g, rfl⟩ : ∃ g, kf = g + 1 := ⟨kf - 1, by omega⟩
    refine ⟨leads, ?_, fun i hi => hl i (Nat.zero_le _) hi⟩
    rw [F_X10_comes_b179, if_pos (by decide)]
  | n + 1, kf, leads, hkf, hle, hl => by
    obtain ⟨g, rfl⟩ : ∃ g, kf = g + 1 := ⟨kf - 1, by omega⟩
    have h6 := hG.2.1
    have e1 : nI (n + 1) - nI 1 = nI n := by rw [zq_sub (by omega)]; rfl
    have hwh := X10_isWhole hfu hw hE hRw (hG.2.2.2.2.1 n (by omega)) (hR n (by omega)).1 (by omega : n ≤ 6000)
    obtain ⟨b', h1, h2⟩ := X10_co193 (fu := fu) hG (F_X10_comes_b179 fu ans kind stands isFull long w row' slot doneOf tills next heard g) (ans := ans) (kind := kind) (stands := stands) (isFull := isFull) (long := long) (w := w) (row' := row') (slot := slot) (doneOf := doneOf) (heard := heard) (leads := leads) (tills := tills) (s := n) (by omega) hn
      (fun i hi hi2 => hl i hi hi2) 4 fu 0 (nI (if whole y (G.2 n) = true then 1 else 0)) (whole y (G.2 n) = true) (by
        by_cases c : whole y (G.2 n) = true
        · rw [if_pos c]; exact Or.inl ⟨rfl, c⟩
        · rw [if_neg c]; exact Or.inr ⟨rfl, c⟩) (by omega) (by omega)
    rw [e1, F_X10_comes_b179, if_neg (nI_pos (by omega)), hwh, z_b1, zl_0, h2]
    refine X10_co179 hfu hw hG hE hRw hR hn n g (upd leads n b') (by omega) (by omega) (fun i hi1 hi2 => ?_)
    rw [z_upd]
    by_cases c : i = n
    · rw [if_pos c, c]
      refine isB_iff h1 ?_
      rw [CE_iff]
      constructor
      · rintro (h | ⟨k, z, _, a, b, c⟩)
        · exact Or.inl h
        · exact Or.inr ⟨k, z, a, b, c⟩
      · rintro (h | ⟨k, z, a, b, c⟩)
        · exact Or.inl h
        · exact Or.inr ⟨k, z, Nat.zero_le _, a, b, c⟩
    · rw [if_neg c]
      exact hl i (by omega) hi2
