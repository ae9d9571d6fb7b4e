/-! the reference's table -/
theorem zin {c N : Nat} (h : c < N) (hN : N < 2 ^ 31) : ¬ (nI c < 0 ∨ N ≤ c) := by
  intro g
  rcases g with g | g
  · exact nI_pos (by omega) g
  · omega
def hr1 (m : Int64) (d : Int32) : Int64 := (31 : Int64) * m + d.toInt64
def hr2 (m t : Int64) : Int64 := (1000003 : Int64) * m + t
def hrm (doneOf : Nat → Int32) (tills : Nat → Int64) (i : Nat) : Int64 :=
  hr2 (hr2 (hr2 (hr1 (hr1 (hr1 (hr1 (0 : Int64) (doneOf (4 * i + 0))) (doneOf (4 * i + 1))) (doneOf (4 * i + 2))) (doneOf (4 * i + 3))) (tills (3 * i + 0))) (tills (3 * i + 1))) (tills (3 * i + 2))
def hrk (m : Int64) : Int32 := ((m ^^^ (m >>> ((17 : Int32).toInt64 &&& 63))) &&& (16383 : Int64)).toInt32
def HR (doneOf : Nat → Int32) (tills : Nat → Int64) (i : Nat) : Nat := (hrk (hrm doneOf tills i)).toNatClampNeg
theorem hrk_ok (m : Int64) : hrk m = nI (hrk m).toNatClampNeg ∧ (hrk m).toNatClampNeg < 16384 := by
  unfold hrk
  obtain ⟨n, _, e⟩ := wb_of (m ^^^ (m >>> ((17 : Int32).toInt64 &&& 63)))
  rw [e, show (16383 : Int64) = lN (2 ^ 14 - 1) from rfl, fb_maskL, zL_i]
  have h := Nat.mod_lt n (show 2 ^ 14 > 0 by omega)
  rw [zd_cl (by omega)]
  exact ⟨rfl, by omega⟩
theorem HR_lt (doneOf : Nat → Int32) (tills : Nat → Int64) (i : Nat) : HR doneOf tills i < 16384 := (hrk_ok _).2
theorem HR_eq (doneOf : Nat → Int32) (tills : Nat → Int64) (i : Nat) : hrk (hrm doneOf tills i) = nI (HR doneOf tills i) := (hrk_ok _).1
def alR (doneOf : Nat → Int32) (tills : Nat → Int64) (o s : Nat) : Bool :=
  (List.range 4).all (fun q => decide (doneOf (4 * o + q) = doneOf (4 * s + q))) && (List.range 3).all (fun t => decide (tills (3 * o + t) = tills (3 * s + t)))
theorem alR_iff {doneOf : Nat → Int32} {tills : Nat → Int64} {o s : Nat} : alR doneOf tills o s = true ↔ (∀ q, q < 4 → doneOf (4 * o + q) = doneOf (4 * s + q)) ∧ ∀ t, t < 3 → tills (3 * o + t) = tills (3 * s + t) := by
  unfold alR
  rw [Bool.and_eq_true, List.all_eq_true, List.all_eq_true]
  constructor
  · rintro ⟨h1, h2⟩
    exact ⟨fun q hq => of_decide_eq_true (h1 q (List.mem_range.mpr hq)), fun t ht => of_decide_eq_true (h2 t (List.mem_range.mpr ht))⟩
  · rintro ⟨h1, h2⟩
    exact ⟨fun q hq => decide_eq_true (h1 q (List.mem_range.mp hq)), fun t ht => decide_eq_true (h2 t (List.mem_range.mp ht))⟩
theorem HR_cong {doneOf doneOf' : Nat → Int32} {tills tills' : Nat → Int64} {i j : Nat} (h : ∀ q, q < 4 → doneOf' (4 * i + q) = doneOf (4 * j + q)) (h2 : ∀ t, t < 3 → tills' (3 * i + t) = tills (3 * j + t)) : HR doneOf' tills' i = HR doneOf tills j := by
  unfold HR hrm
  rw [h 0 (by omega), h 1 (by omega), h 2 (by omega), h 3 (by omega), h2 0 (by omega), h2 1 (by omega), h2 2 (by omega)]
theorem HR_alk {doneOf : Nat → Int32} {tills : Nat → Int64} {r s : Nat} (h : alR doneOf tills r s = true) : HR doneOf tills r = HR doneOf tills s := by
  have := alR_iff.mp h
  exact HR_cong this.1 this.2
abbrev RF := Option (Int32 × Int32 × Int32 × (Nat → Int32))
theorem X10_f160 {fu : Nat} (k82 : Int32 → RF) {stands isFull : Int32} {doneOf slot : Nat → Int32} {tills : Nat → Int64} {s o : Nat} {v4 : Int32} (hs : s ≤ 6000) (ho : o ≤ 6000) :
    ∀ (j kf t : Nat) (b : Bool), j < kf → t + j = 3 →
    F_X10_findStand_b160 k82 fu stands isFull doneOf tills slot (nI s) v4 (nI o) kf (nI (if b = true then 1 else 0)) (nI t) =
      if b = true ∧ ∀ u, u < 3 → t ≤ u → tills (3 * o + u) = tills (3 * s + u) then some (nI o, stands, isFull, slot) else k82 ((v4 + (1 : Int32)) &&& (16383 : Int32))
  | 0, kf, t, b, hj, ht => by
    obtain ⟨g, rfl⟩ : ∃ g, kf = g + 1 := ⟨kf - 1, by omega⟩
    have : t = 3 := by omega
    subst this
    have e2 : (b = true ∧ ∀ u, u < 3 → 3 ≤ u → tills (3 * o + u) = tills (3 * s + u)) = (b = true) := propext ⟨fun h => h.1, fun h => ⟨h, fun u h1 h2 => by omega⟩⟩
    simp only [e2]
    rw [F_X10_findStand_b160]
    rcases b
    · rw [if_pos (by decide), if_pos (by decide), if_neg (by simp)]
    · rw [if_pos (by decide), if_neg (by decide), if_pos rfl]
  | j + 1, kf, t, b, hj, ht => by
    obtain ⟨g, rfl⟩ : ∃ g, kf = g + 1 := ⟨kf - 1, by omega⟩
    have key : (∀ u, u < 3 → t ≤ u → tills (3 * o + u) = tills (3 * s + u)) ↔ (tills (3 * o + t) = tills (3 * s + t) ∧ ∀ u, u < 3 → t + 1 ≤ u → tills (3 * o + u) = tills (3 * s + u)) := by
      constructor
      · intro h; exact ⟨h t (by omega) (Nat.le_refl _), fun u h1 h2 => h u h1 (by omega)⟩
      · rintro ⟨h, h'⟩ u h1 h2
        rcases Nat.lt_or_ge t u with g1 | g1
        · exact h' u h1 g1
        · have : u = t := by omega
          rw [this]; exact h
    have ih := fun b => X10_f160 (fu := fu) k82 (stands := stands) (isFull := isFull) (doneOf := doneOf) (slot := slot) (tills := tills) (v4 := v4) hs ho j g (t + 1) b (by omega) (by omega)
    rw [F_X10_findStand_b160, if_neg (by rw [zl_3, zd_le (by omega) (by omega)]; omega)]
    unfold F_X10_findStand_b202 F_X10_findStand_b203
    have ht1 : nI t + (1 : Int32) = nI (t + 1) := by rw [zl_1, zq_add]
    have i1 : (3 : Int32) * nI o + nI t = nI (3 * o + t) := by rw [zl_3, zq_mul, zq_add]
    have i2 : (3 : Int32) * nI s + nI t = nI (3 * s + t) := by rw [zl_3, zq_mul, zq_add]
    rw [ht1, i1, i2]
    rcases b
    · have q := ih false
      simp only [Bool.false_eq_true, false_and, ↓reduceIte] at q ⊢
      rw [if_pos (show nI 0 = 0 from rfl)]
      exact q
    · rw [if_pos rfl, if_neg (by decide), if_neg (nI_in (by omega) (by omega)), if_neg (nI_in (by omega) (by omega)), zd_cl (by omega), zd_cl (by omega)]
      by_cases e : tills (3 * o + t) = tills (3 * s + t)
      · have q := ih true
        rw [if_pos rfl] at q
        rw [if_pos (by rw [e]; unfold lg_cmp; rw [if_neg Int64.lt_irrefl, if_pos rfl])]
        rw [show F_X10_findStand_b160 k82 fu stands isFull doneOf tills slot (nI s) v4 (nI o) g 1 (nI (t + 1)) = F_X10_findStand_b160 k82 fu stands isFull doneOf tills slot (nI s) v4 (nI o) g (nI 1) (nI (t + 1)) from rfl, q]
        congr 1
        exact propext ⟨fun h => ⟨rfl, key.mpr ⟨e, h.2⟩⟩, fun h => ⟨rfl, (key.mp h.2).2⟩⟩
      · have q := ih false
        simp only [Bool.false_eq_true, false_and, ↓reduceIte] at q
        rw [if_neg (by unfold lg_cmp; split <;> first | decide | (rw [if_neg e]; decide)), if_neg (fun h => e (key.mp h.2).1)]
        exact q
theorem X10_f107 {fu : Nat} (hfu : 20000 ≤ fu) (k82 : Int32 → RF) {stands isFull : Int32} {doneOf slot : Nat → Int32} {tills : Nat → Int64} {s o : Nat} {v4 : Int32} (hs : s ≤ 6000) (ho : o ≤ 6000) :
    ∀ (j kf t : Nat) (b : Bool), j < kf → t + j = 4 →
    F_X10_findStand_b107 k82 fu stands isFull doneOf tills slot (nI s) v4 (nI o) kf (nI (if b = true then 1 else 0)) (nI t) =
      if (b = true ∧ ∀ u, u < 4 → t ≤ u → doneOf (4 * o + u) = doneOf (4 * s + u)) ∧ ∀ u, u < 3 → tills (3 * o + u) = tills (3 * s + u) then some (nI o, stands, isFull, slot) else k82 ((v4 + (1 : Int32)) &&& (16383 : Int32))
  | 0, kf, t, b, hj, ht => by
    obtain ⟨g, rfl⟩ : ∃ g, kf = g + 1 := ⟨kf - 1, by omega⟩
    have : t = 4 := by omega
    subst this
    have e2 : (b = true ∧ ∀ u, u < 4 → 4 ≤ u → doneOf (4 * o + u) = doneOf (4 * s + u)) = (b = true) := propext ⟨fun h => h.1, fun h => ⟨h, fun u h1 h2 => by omega⟩⟩
    simp only [e2]
    rw [F_X10_findStand_b107, if_pos (by decide)]
    have q := X10_f160 (fu := fu) k82 (stands := stands) (isFull := isFull) (doneOf := doneOf) (slot := slot) (tills := tills) (v4 := v4) hs ho 3 fu 0 b (by omega) (by omega)
    rw [zl_0, q]
    congr 1
    exact propext ⟨fun h => ⟨h.1, fun u hu => h.2 u hu (Nat.zero_le _)⟩, fun h => ⟨h.1, fun u hu _ => h.2 u hu⟩⟩
  | j + 1, kf, t, b, hj, ht => by
    obtain ⟨g, rfl⟩ : ∃ g, kf = g + 1 := ⟨kf - 1, by omega⟩
    have key : (∀ u, u < 4 → t ≤ u → doneOf (4 * o + u) = doneOf (4 * s + u)) ↔ (doneOf (4 * o + t) = doneOf (4 * s + t) ∧ ∀ u, u < 4 → t + 1 ≤ u → doneOf (4 * o + u) = doneOf (4 * s + u)) := by
      constructor
      · intro h; exact ⟨h t (by omega) (Nat.le_refl _), fun u h1 h2 => h u h1 (by omega)⟩
      · rintro ⟨h, h'⟩ u h1 h2
        rcases Nat.lt_or_ge t u with g1 | g1
        · exact h' u h1 g1
        · have : u = t := by omega
          rw [this]; exact h
    have ih := fun b => X10_f107 hfu k82 (stands := stands) (isFull := isFull) (doneOf := doneOf) (slot := slot) (tills := tills) (v4 := v4) hs ho j g (t + 1) b (by omega) (by omega)
    rw [F_X10_findStand_b107, if_neg (by rw [zl_4, zd_le (by omega) (by omega)]; omega)]
    unfold F_X10_findStand_b148 F_X10_findStand_b149
    have ht1 : nI t + (1 : Int32) = nI (t + 1) := by rw [zl_1, zq_add]
    have i1 : (4 : Int32) * nI o + nI t = nI (4 * o + t) := by rw [zl_4, zq_mul, zq_add]
    have i2 : (4 : Int32) * nI s + nI t = nI (4 * s + t) := by rw [zl_4, zq_mul, zq_add]
    rw [ht1, i1, i2]
    rcases b
    · have q := ih false
      simp only [Bool.false_eq_true, false_and, ↓reduceIte] at q ⊢
      rw [if_pos (show nI 0 = 0 from rfl)]
      exact q
    · rw [if_pos rfl, if_neg (by decide), if_neg (nI_in (by omega) (by omega)), if_neg (nI_in (by omega) (by omega)), zd_cl (by omega), zd_cl (by omega)]
      by_cases e : doneOf (4 * o + t) = doneOf (4 * s + t)
      · have q := ih true
        rw [if_pos rfl] at q
        rw [if_pos e]
        rw [show F_X10_findStand_b107 k82 fu stands isFull doneOf tills slot (nI s) v4 (nI o) g 1 (nI (t + 1)) = F_X10_findStand_b107 k82 fu stands isFull doneOf tills slot (nI s) v4 (nI o) g (nI 1) (nI (t + 1)) from rfl, q]
        congr 1
        exact propext ⟨fun h => ⟨⟨rfl, key.mpr ⟨e, h.1.2⟩⟩, h.2⟩, fun h => ⟨⟨rfl, (key.mp h.1.2).2⟩, h.2⟩⟩
      · have q := ih false
        simp only [Bool.false_eq_true, false_and, ↓reduceIte] at q
        rw [if_neg e, if_neg (fun h => e (key.mp h.1.2).1)]
        exact q
theorem X10_cmp {fu : Nat} (hfu : 20000 ≤ fu) (k82 : Int32 → RF) {stands isFull : Int32} {doneOf slot : Nat → Int32} {tills : Nat → Int64} {s o p : Nat} (hs : s ≤ 6000) (ho : o ≤ 6000) (hp : p < 16384) :
    F_X10_findStand_b107 k82 fu stands isFull doneOf tills slot (nI s) (nI p) (nI o) fu (1 : Int32) (0 : Int32) =
      if alR doneOf tills o s = true then some (nI o, stands, isFull, slot) else k82 (nI ((p + 1) % 16384)) := by
  have q := X10_f107 hfu k82 (stands := stands) (isFull := isFull) (doneOf := doneOf) (slot := slot) (tills := tills) (v4 := nI p) hs ho 4 fu 0 true (by omega) (by omega)
  rw [if_pos rfl] at q
  have e : (nI p + (1 : Int32)) &&& (16383 : Int32) = nI ((p + 1) % 16384) := by
    rw [zl_1, zq_add, show (16383 : Int32) = nI (2 ^ 14 - 1) from rfl, fa_mask]
  rw [e] at q
  rw [zl_1, zl_0, q]
  congr 1
  rw [alR_iff]
  exact propext ⟨fun h => ⟨fun u hu => h.1.2 u hu (Nat.zero_le _), h.2⟩, fun h => ⟨⟨rfl, fun u hu _ => h.1 u hu⟩, h.2⟩⟩
theorem X10_find_stop {fu : Nat} {stands isFull : Int32} {doneOf slot : Nat → Int32} {tills : Nat → Int64} {s p kf : Nat} (hs : s ≤ 6000) (hp : p < 16384) (e : slot p = -1) :
    F_X10_findStand_b82 fu stands isFull doneOf tills slot (nI s) (kf + 1) (nI p) = if s = 6000 then some (-1, stands, 1, slot) else some (nI s, stands + 1, isFull, upd slot p (nI s)) := by
  rw [F_X10_findStand_b82, if_neg (nI_in hp (by omega)), zd_cl (by omega), e, if_pos (by decide)]
  by_cases h : s = 6000
  · rw [if_pos h, if_pos (by rw [h]; rfl)]
  · rw [if_neg h, if_neg (by rw [zl_6000, zd_eq (by omega) (by omega)]; exact h), if_neg (zin hp (by omega))]
theorem X10_find_go {fu : Nat} (hfu : 20000 ≤ fu) {stands isFull : Int32} {doneOf slot : Nat → Int32} {tills : Nat → Int64} {s p o kf : Nat} (hs : s ≤ 6000) (ho : o ≤ 6000) (hp : p < 16384) (e : slot p = nI o) :
    F_X10_findStand_b82 fu stands isFull doneOf tills slot (nI s) (kf + 1) (nI p) = if alR doneOf tills o s = true then some (nI o, stands, isFull, slot) else F_X10_findStand_b82 fu stands isFull doneOf tills slot (nI s) kf (nI ((p + 1) % 16384)) := by
  rw [F_X10_findStand_b82, if_neg (nI_in hp (by omega)), zd_cl (by omega), e, if_neg (nI_pos (by omega)), if_neg (zin hp (by omega)), X10_cmp hfu _ hs ho hp]
theorem X10_find_skip {fu : Nat} (hfu : 20000 ≤ fu) {stands isFull : Int32} {doneOf slot : Nat → Int32} {tills : Nat → Int64} {T : Nat → Option Nat} {s a : Nat} (hs : s ≤ 6000)
    (hT : ∀ p, p < 16384 → slot p = cn (T p)) : ∀ (t K w : Nat), t ≤ K → (∀ u, u < t → ∃ r, T ((a + w + u) % 16384) = some r ∧ r ≤ 6000 ∧ alR doneOf tills r s = false) →
    F_X10_findStand_b82 fu stands isFull doneOf tills slot (nI s) K (nI ((a + w) % 16384)) = F_X10_findStand_b82 fu stands isFull doneOf tills slot (nI s) (K - t) (nI ((a + w + t) % 16384))
  | 0, K, w, _, _ => rfl
  | t + 1, K, w, hK, h => by
    have hp : (a + w) % 16384 < 16384 := Nat.mod_lt _ (by omega)
    obtain ⟨q, rfl⟩ : ∃ q, K = q + 1 := ⟨K - 1, by omega⟩
    obtain ⟨r, e1, e2, e3⟩ := h 0 (by omega)
    have e4 : slot ((a + w) % 16384) = nI r := by
      rw [hT _ hp]
      rw [Nat.add_zero] at e1
      rw [e1]; rfl
    rw [X10_find_go hfu hs e2 hp e4, if_neg (by rw [e3]; simp), show ((a + w) % 16384 + 1) % 16384 = (a + (w + 1)) % 16384 by omega,
      X10_find_skip hfu hs hT t q (w + 1) (by omega) (fun u hu => by
        have := h (u + 1) (by omega)
        rwa [show a + w + (u + 1) = a + (w + 1) + u by omega] at this)]
    rw [show a + (w + 1) + t = a + w + (t + 1) by omega, show q + 1 - (t + 1) = q - t by omega]
theorem X10_find_e0 {fu : Nat} (hfu : 20000 ≤ fu) {stands isFull : Int32} {doneOf slot : Nat → Int32} {tills : Nat → Int64} {s : Nat} (hs : s ≤ 6000) :
    F_X10_findStand fu stands isFull doneOf tills slot (nI s) = F_X10_findStand_b82 fu stands isFull doneOf tills slot (nI s) fu (nI (HR doneOf tills s)) := by
  obtain ⟨f, hf⟩ : ∃ f, fu = f + 1 + 1 + 1 + 1 + 1 := ⟨fu - 5, by omega⟩
  have g0 : ¬ (4 : Int32) ≤ 0 := by decide
  have g1 : ¬ (4 : Int32) ≤ 0 + 1 := by decide
  have g2 : ¬ (4 : Int32) ≤ 0 + 1 + 1 := by decide
  have g3 : ¬ (4 : Int32) ≤ 0 + 1 + 1 + 1 := by decide
  have g4 : (4 : Int32) ≤ 0 + 1 + 1 + 1 + 1 := by decide
  have i0 : (4 : Int32) * nI s + 0 = nI (4 * s + 0) := by rw [zl_0, zl_4, zq_mul, zq_add]
  have i1 : (4 : Int32) * nI s + (0 + 1) = nI (4 * s + 1) := by rw [zl_0, zl_1, zl_4, zq_mul, zq_add, zq_add]
  have i2 : (4 : Int32) * nI s + (0 + 1 + 1) = nI (4 * s + 2) := by rw [zl_0, zl_1, zl_4, zq_mul, zq_add, zq_add, zq_add]
  have i3 : (4 : Int32) * nI s + (0 + 1 + 1 + 1) = nI (4 * s + 3) := by rw [zl_0, zl_1, zl_4, zq_mul, zq_add, zq_add, zq_add, zq_add]
  have j0 : (3 : Int32) * nI s + 0 = nI (3 * s + 0) := by rw [zl_0, zl_3, zq_mul, zq_add]
  have j1 : (3 : Int32) * nI s + (0 + 1) = nI (3 * s + 1) := by rw [zl_0, zl_1, zl_3, zq_mul, zq_add, zq_add]
  have j2 : (3 : Int32) * nI s + (0 + 1 + 1) = nI (3 * s + 2) := by rw [zl_0, zl_1, zl_3, zq_mul, zq_add, zq_add, zq_add]
  have k0 : ¬ (3 : Int32) ≤ 0 := by decide
  have k1 : ¬ (3 : Int32) ≤ 0 + 1 := by decide
  have k2 : ¬ (3 : Int32) ≤ 0 + 1 + 1 := by decide
  have k3 : (3 : Int32) ≤ 0 + 1 + 1 + 1 := by decide
  have h39 : ∀ m : Int64, F_X10_findStand_b39 fu stands isFull doneOf tills slot (nI s) (f + 1 + 1 + 1 + 1 + 1) m (0 : Int32) = F_X10_findStand_b82 fu stands isFull doneOf tills slot (nI s) fu (hrk (hr2 (hr2 (hr2 m (tills (3 * s + 0))) (tills (3 * s + 1))) (tills (3 * s + 2)))) := by
    intro m
    rw [F_X10_findStand_b39, if_neg k0, j0, if_neg (nI_in (by omega) (by omega)), zd_cl (by omega), F_X10_findStand_b39, if_neg k1, j1, if_neg (nI_in (by omega) (by omega)), zd_cl (by omega),
      F_X10_findStand_b39, if_neg k2, j2, if_neg (nI_in (by omega) (by omega)), zd_cl (by omega), F_X10_findStand_b39, if_pos k3]
    rfl
  have h5 : F_X10_findStand_b5 fu stands isFull doneOf tills slot (nI s) (f + 1 + 1 + 1 + 1 + 1) (0 : Int64) (0 : Int32) = F_X10_findStand_b39 fu stands isFull doneOf tills slot (nI s) fu (hr1 (hr1 (hr1 (hr1 (0 : Int64) (doneOf (4 * s + 0))) (doneOf (4 * s + 1))) (doneOf (4 * s + 2))) (doneOf (4 * s + 3))) (0 : Int32) := by
    rw [F_X10_findStand_b5, if_neg g0, i0, if_neg (nI_in (by omega) (by omega)), zd_cl (by omega), F_X10_findStand_b5, if_neg g1, i1, if_neg (nI_in (by omega) (by omega)), zd_cl (by omega),
      F_X10_findStand_b5, if_neg g2, i2, if_neg (nI_in (by omega) (by omega)), zd_cl (by omega), F_X10_findStand_b5, if_neg g3, i3, if_neg (nI_in (by omega) (by omega)), zd_cl (by omega), F_X10_findStand_b5, if_pos g4]
    rfl
  rw [← HR_eq]
  unfold F_X10_findStand
  rw [show F_X10_findStand_b5 fu stands isFull doneOf tills slot (nI s) fu (0 : Int64) (0 : Int32) = F_X10_findStand_b5 fu stands isFull doneOf tills slot (nI s) (f + 1 + 1 + 1 + 1 + 1) (0 : Int64) (0 : Int32) by rw [← hf], h5]
  rw [show ∀ m, F_X10_findStand_b39 fu stands isFull doneOf tills slot (nI s) fu m (0 : Int32) = F_X10_findStand_b39 fu stands isFull doneOf tills slot (nI s) (f + 1 + 1 + 1 + 1 + 1) m (0 : Int32) by intro m; rw [← hf], h39]
  rfl
theorem X10_find {fu : Nat} (hfu : 20000 ≤ fu) {stands isFull : Int32} {doneOf slot : Nat → Int32} {tills : Nat → Int64} {T : Nat → Option Nat} {s : Nat} {ins : Nat → Prop} (hs : s ≤ 6000)
    (hT : ∀ p, p < 16384 → slot p = cn (T p)) (hTI : TI T (HR doneOf tills) ins) :
    (∃ r, ins r ∧ alR doneOf tills r s = true ∧ F_X10_findStand fu stands isFull doneOf tills slot (nI s) = some (nI r, stands, isFull, slot)) ∨
    ((∀ i, ins i → alR doneOf tills i s = false) ∧ (s = 6000 → F_X10_findStand fu stands isFull doneOf tills slot (nI s) = some (-1, stands, 1, slot)) ∧
      (s ≠ 6000 → ¬ ins s → ∃ slot' T', F_X10_findStand fu stands isFull doneOf tills slot (nI s) = some (nI s, stands + 1, isFull, slot') ∧ (∀ p, p < 16384 → slot' p = cn (T' p)) ∧ TI T' (HR doneOf tills) (fun i => ins i ∨ i = s))) := by
  have hC := HR_lt doneOf tills s
  rw [X10_find_e0 hfu hs]
  obtain ⟨t, h1, h2, h3⟩ := TI_seek hTI (HR doneOf tills s) (fun r => alR doneOf tills r s)
  have e1 := X10_find_skip (stands := stands) (isFull := isFull) (a := HR doneOf tills s) hfu hs hT t fu 0 (by omega) (fun u hu => by
    obtain ⟨r, a, b⟩ := h3 u hu
    rw [Nat.add_zero]
    exact ⟨r, a, by have := hTI.2.2.2 _ (hTI.1 _ _ (Nat.mod_lt _ (by omega)) a); omega, b⟩)
  rw [Nat.add_zero, Nat.mod_eq_of_lt hC] at e1
  rw [e1]
  have hp : (HR doneOf tills s + t) % 16384 < 16384 := Nat.mod_lt _ (by omega)
  obtain ⟨q, hq⟩ : ∃ q, fu - t = q + 1 := ⟨fu - t - 1, by omega⟩
  rw [hq]
  rcases h2 with h2 | ⟨r, h2, h4⟩
  · right
    have e4 : slot ((HR doneOf tills s + t) % 16384) = -1 := by rw [hT _ hp, h2]; rfl
    rw [X10_find_stop hs hp e4]
    refine ⟨fun i hi => ?_, fun h => by rw [if_pos h], fun hns hni => ?_⟩
    · rcases hx : alR doneOf tills i s
      · rfl
      · have := TI_none hTI h2 h3 hi (HR_alk hx)
        exact absurd (this.symm.trans hx) (by simp)
    · rw [if_neg hns]
      refine ⟨_, fun p => if p = (HR doneOf tills s + t) % 16384 then some s else T p, rfl, ?_, ?_⟩
      · intro p hp'
        rw [z_upd]
        by_cases c : p = (HR doneOf tills s + t) % 16384
        · simp only [c, ↓reduceIte]; rfl
        · simp only [c, ↓reduceIte]; exact hT p hp'
      · refine TI_ins hTI h1 h2 (fun u hu e => ?_) (by omega) hni (by simp only [↓reduceIte]) (fun j hj hne => by simp only [hne, ↓reduceIte])
        obtain ⟨r, q, _⟩ := h3 u hu
        rw [e] at q; cases q
  · left
    have hr := hTI.1 _ _ hp h2
    have e4 : slot ((HR doneOf tills s + t) % 16384) = nI r := by rw [hT _ hp, h2]; rfl
    refine ⟨r, hr, h4, ?_⟩
    rw [X10_find_go hfu hs (by have := hTI.2.2.2 r hr; omega) hp e4, if_pos h4]
