/-! a table with open places, its search -/
def TI (T : Nat → Option Nat) (H : Nat → Nat) (ins : Nat → Prop) : Prop :=
  (∀ j r, j < 16384 → T j = some r → ins r) ∧
  (∀ i, ins i → ∃ t, t < 16384 ∧ T ((H i + t) % 16384) = some i ∧ ∀ u, u < t → T ((H i + u) % 16384) ≠ none) ∧
  (∀ i j r, i < 16384 → j < 16384 → T i = some r → T j = some r → i = j) ∧ (∀ i, ins i → i < 6001)
theorem mod_inj {h t u : Nat} (ht : t < 16384) (hu : u < 16384) (e : (h + t) % 16384 = (h + u) % 16384) : t = u := by omega
theorem TI_free {T : Nat → Option Nat} {H : Nat → Nat} {ins : Nat → Prop} (h : TI T H ins) (a : Nat) : ∃ t, t < 16384 ∧ T ((a + t) % 16384) = none := by
  by_cases c : ∃ t, t < 16384 ∧ T ((a + t) % 16384) = none
  · exact c
  · exfalso
    have hs : ∀ t, t < 16384 → ∃ r, T ((a + t) % 16384) = some r := by
      intro t ht
      rcases e : T ((a + t) % 16384) with _ | r
      · exact absurd ⟨t, ht, e⟩ c
      · exact ⟨r, rfl⟩
    have hg : ∀ t, t < 16384 → T ((a + t) % 16384) = some ((T ((a + t) % 16384)).getD 0) := by
      intro t ht
      obtain ⟨r, e⟩ := hs t ht
      rw [e]; rfl
    have q := fb_holes 6001 16384 (fun t => (T ((a + t) % 16384)).getD 0) (fun t ht => h.2.2.2 _ (h.1 _ _ (Nat.mod_lt _ (by omega)) (hg t ht))) (fun i j hij hj e => by
      have e1 := hg i (by omega)
      have e2 := hg j hj
      rw [show (T ((a + i) % 16384)).getD 0 = (T ((a + j) % 16384)).getD 0 from e] at e1
      have := h.2.2.1 _ _ _ (Nat.mod_lt _ (by omega)) (Nat.mod_lt _ (by omega)) e1 e2
      have := mod_inj (by omega) hj this
      omega)
    omega
theorem TI_seek {T : Nat → Option Nat} {H : Nat → Nat} {ins : Nat → Prop} (h : TI T H ins) (a : Nat) (P : Nat → Bool) :
    ∃ t, t < 16384 ∧ (T ((a + t) % 16384) = none ∨ ∃ r, T ((a + t) % 16384) = some r ∧ P r = true) ∧ ∀ u, u < t → ∃ r, T ((a + u) % 16384) = some r ∧ P r = false := by
  obtain ⟨t0, h0, e0⟩ := TI_free h a
  have ht : ∃ t, t < 16384 ∧ (match T ((a + t) % 16384) with | none => true | some r => P r) = true := ⟨t0, h0, by rw [e0]⟩
  obtain ⟨t, h1, h2, h3⟩ := fb_first ht
  refine ⟨t, h1, ?_, ?_⟩
  · rcases e : T ((a + t) % 16384) with _ | r
    · exact Or.inl rfl
    · rw [e] at h2; exact Or.inr ⟨r, rfl, h2⟩
  · intro u hu
    have := h3 u hu
    rcases e : T ((a + u) % 16384) with _ | r
    · rw [e] at this; exact absurd rfl this
    · rw [e] at this; exact ⟨r, rfl, by simpa using this⟩
theorem TI_none {T : Nat → Option Nat} {H : Nat → Nat} {ins : Nat → Prop} (h : TI T H ins) {a t : Nat} {P : Nat → Bool} (hn : T ((a + t) % 16384) = none)
    (hb : ∀ u, u < t → ∃ r, T ((a + u) % 16384) = some r ∧ P r = false) {i : Nat} (hi : ins i) (hH : H i = a) : P i = false := by
  obtain ⟨w, w1, w2, w3⟩ := h.2.1 i hi
  rw [hH] at w2 w3
  rcases Nat.lt_trichotomy w t with g | g | g
  · obtain ⟨r, e1, e2⟩ := hb w g
    rw [w2] at e1
    injection e1 with e1
    rw [e1]; exact e2
  · rw [g, hn] at w2; cases w2
  · exact absurd hn (w3 t g)
theorem TI_ins {T T' : Nat → Option Nat} {H : Nat → Nat} {ins : Nat → Prop} (h : TI T H ins) {t n : Nat} (ht : t < 16384) (hn : T ((H n + t) % 16384) = none)
    (hb : ∀ u, u < t → T ((H n + u) % 16384) ≠ none) (hn2 : n < 6001) (hi : ¬ ins n)
    (e1 : T' ((H n + t) % 16384) = some n) (e2 : ∀ j, j < 16384 → j ≠ (H n + t) % 16384 → T' j = T j) : TI T' H (fun i => ins i ∨ i = n) := by
  have hp : (H n + t) % 16384 < 16384 := Nat.mod_lt _ (by omega)
  refine ⟨?_, ?_, ?_, ?_⟩
  · intro j r hj e
    by_cases c : j = (H n + t) % 16384
    · rw [c, e1] at e
      injection e with e
      exact Or.inr e.symm
    · rw [e2 j hj c] at e
      exact Or.inl (h.1 j r hj e)
  · intro i hi
    by_cases c : i = n
    · subst c
      refine ⟨t, ht, e1, ?_⟩
      intro u hu e
      rw [e2 _ (Nat.mod_lt _ (by omega)) (fun q => by have := mod_inj (by omega) ht q; omega)] at e
      exact hb u hu e
    · have hi' : ins i := hi.resolve_right c
      obtain ⟨w, w1, w2, w3⟩ := h.2.1 i hi'
      have hne : ∀ u, T ((H i + u) % 16384) ≠ none → (H i + u) % 16384 ≠ (H n + t) % 16384 := by
        intro u hu e
        rw [e, hn] at hu
        exact hu rfl
      refine ⟨w, w1, ?_, ?_⟩
      · rw [e2 _ (Nat.mod_lt _ (by omega)) (hne w (by rw [w2]; simp))]; exact w2
      · intro u hu
        rw [e2 _ (Nat.mod_lt _ (by omega)) (hne u (w3 u hu))]; exact w3 u hu
  · intro i j r hi hj a b
    by_cases c : i = (H n + t) % 16384
    · by_cases d : j = (H n + t) % 16384
      · rw [c, d]
      · rw [c, e1] at a
        injection a with a
        rw [e2 j hj d, ← a] at b
        exact absurd (h.1 j n hj b) ‹¬ ins n›
    · rw [e2 i hi c] at a
      by_cases d : j = (H n + t) % 16384
      · rw [d, e1] at b
        injection b with b
        rw [← b] at a
        exact absurd (h.1 i n hi a) ‹¬ ins n›
      · rw [e2 j hj d] at b
        exact h.2.2.1 i j r hi hj a b
  · intro i hi
    rcases hi with hi | hi
    · exact h.2.2.2 i hi
    · rw [hi]; exact hn2
theorem TI_congr {T : Nat → Option Nat} {H H' : Nat → Nat} {ins ins' : Nat → Prop} (h : TI T H ins) (e : ∀ i, ins i → H' i = H i) (e2 : ∀ i, ins i ↔ ins' i) : TI T H' ins' := by
  refine ⟨fun j r a b => (e2 r).mp (h.1 j r a b), fun i hi => ?_, h.2.2.1, fun i hi => h.2.2.2 i ((e2 i).mpr hi)⟩
  rw [e i ((e2 i).mpr hi)]
  exact h.2.1 i ((e2 i).mpr hi)
theorem TI_nil {T : Nat → Option Nat} {H : Nat → Nat} (h : ∀ j, j < 16384 → T j = none) : TI T H (fun _ => False) :=
  ⟨fun j r hj e => absurd ((h j hj).symm.trans e) (by simp), fun i hi => False.elim hi, fun i j r hi hj a _ => absurd ((h i hi).symm.trans a) (by simp), fun i hi => False.elim hi⟩
/-! the class's table -/
def Tc (tb : Nat → Nat) (b : Nat) (j : Nat) : Option Nat := if b ≤ tb j ∧ tb j < b + 6001 then some (tb j - b) else none
def alk (done tills : Nat → Int32) (look : Int32) (r s : Nat) : Bool :=
  decide ((done r ^^^ done s) &&& look = 0) && (decide (tills (r * 3 + 0) = tills (s * 3 + 0)) && (decide (tills (r * 3 + 1) = tills (s * 3 + 1)) && decide (tills (r * 3 + 2) = tills (s * 3 + 2))))
def hst (h t : Int32) : Int32 := ((h ^^^ kushr h (15 : Int32)) ^^^ t) * (695872825 : Int32)
def hsh (done tills : Nat → Int32) (look : Int32) (i : Nat) : Int32 := hst (hst (hst ((done i &&& look) * (739982445 : Int32)) (tills (i * 3 + 0))) (tills (i * 3 + 1))) (tills (i * 3 + 2))
def HC (done tills : Nat → Int32) (look : Int32) (i : Nat) : Nat := ((hsh done tills look i ^^^ kushr (hsh done tills look i) (14 : Int32)) &&& nI 16383).toNatClampNeg
theorem zs_mask (x : Int32) : x &&& nI 16383 = nI ((x &&& nI 16383).toNatClampNeg) ∧ (x &&& nI 16383).toNatClampNeg < 16384 := by
  obtain ⟨n, _, rfl⟩ := wb_of32 x
  rw [show (16383 : Nat) = 2 ^ 14 - 1 from rfl, fa_mask]
  have h := Nat.mod_lt n (show 2 ^ 14 > 0 by omega)
  rw [zd_cl (by omega)]
  exact ⟨rfl, by omega⟩
theorem HC_lt (done tills : Nat → Int32) (look : Int32) (i : Nat) : HC done tills look i < 16384 := (zs_mask _).2
theorem HC_eq (done tills : Nat → Int32) (look : Int32) (i : Nat) : (hsh done tills look i ^^^ kushr (hsh done tills look i) (14 : Int32)) &&& (16383 : Int32) = nI (HC done tills look i) := (zs_mask _).1
theorem hsh_eq (done tills : Nat → Int32) (look : Int32) (i : Nat) : hst (hst (hst ((done i &&& look) * (739982445 : Int32)) (tills (i * 3 + 0))) (tills (i * 3 + 1))) (tills (i * 3 + 2)) = hsh done tills look i := rfl
theorem HC_alk {done tills : Nat → Int32} {look : Int32} {r s : Nat} (h : alk done tills look r s = true) : HC done tills look r = HC done tills look s := by
  unfold alk at h
  simp only [Bool.and_eq_true, decide_eq_true_eq] at h
  obtain ⟨h1, h2, h3, h4⟩ := h
  have e : done r &&& look = done s &&& look := by
    apply b_ext
    intro i hi
    have := congrArg (fun x => bt x i) h1
    simp only [b_and, b_xor, b_0] at this ⊢
    revert this
    cases bt (done r) i <;> cases bt (done s) i <;> cases bt look i <;> simp
  unfold HC hsh
  rw [e, h2, h3, h4]
theorem X6_alike (fu : Nat) (hfu : 20000 ≤ fu) {done tills : Nat → Int32} {look : Int32} {r s : Nat} (hr : r < 6001) (hs : s < 6001) :
    F_X6_alike fu done tills (nI r) (nI s) look = some (nI (if alk done tills look r s = true then 1 else 0)) := by
  obtain ⟨f, rfl⟩ : ∃ f, fu = f + 4 := ⟨fu - 4, by omega⟩
  unfold F_X6_alike alk
  simp (disch := omega) only [zl_0, zl_1, zl_2, zl_3, zl_4, zl_5, zl_6, zl_7, zl_8, zl_9, zl_10, zl_12, zl_14, zl_15, zl_16, zl_17, zl_18, zl_20, zl_24, zl_31, zl_32, zl_44, zl_48, zl_57, zl_59, zl_63, zl_64, zl_70, zl_74, zl_75, zl_97, zl_99, zl_100, zl_122, zl_140, zl_141, zl_142, zl_255, zl_900, zl_999, zl_1000, zl_1998, zl_6000, zl_6001, zl_16383, zl_16384, zl_65536, zl_65537, zq_add, zq_mul, zq_sub, zd_lt, zd_le, zd_eq, zd_cl, zm_lt, zm_le, zm_gt, zm_ge, zm_eq, zm_qe, zm_mm, zt_lt, zf_lt, zt_le, zf_le, zt_eq, zf_eq, z_upd, z_updL, z_b1, z_b2, z_b3, z_b4, z_b5, z_b6, z_b7, z_b8, z_b9, z_b10, z_b11, z_b12, z_b13, z_b14, z_b15, z_b16, z_b17, z_b18, z_b19, z_b20, ↓reduceIte, or_false, false_or, or_self, true_or, or_true, and_true, true_and, and_false, false_and, not_true_eq_false, not_false_eq_true, ite_self, reduceCtorEq, Nat.reduceAdd, Nat.reduceMul, Nat.reduceSub, Nat.reducePow, Nat.reduceDiv, Nat.reduceMod, Nat.reduceLT, Nat.reduceLeDiff, Nat.reduceEqDiff, Nat.add_zero, Nat.zero_add, Nat.mul_one, Nat.one_mul, Nat.mul_zero, Nat.zero_mul, Nat.sub_zero, Nat.not_lt_zero, Nat.zero_le]
  by_cases h : (done r ^^^ done s) &&& look = nI 0
  · rw [if_pos h]
    rw [F_X6_alike_b23]
    simp (disch := omega) only [zl_0, zl_1, zl_2, zl_3, zl_4, zl_5, zl_6, zl_7, zl_8, zl_9, zl_10, zl_12, zl_14, zl_15, zl_16, zl_17, zl_18, zl_20, zl_24, zl_31, zl_32, zl_44, zl_48, zl_57, zl_59, zl_63, zl_64, zl_70, zl_74, zl_75, zl_97, zl_99, zl_100, zl_122, zl_140, zl_141, zl_142, zl_255, zl_900, zl_999, zl_1000, zl_1998, zl_6000, zl_6001, zl_16383, zl_16384, zl_65536, zl_65537, zq_add, zq_mul, zq_sub, zd_lt, zd_le, zd_eq, zd_cl, zm_lt, zm_le, zm_gt, zm_ge, zm_eq, zm_qe, zm_mm, zt_lt, zf_lt, zt_le, zf_le, zt_eq, zf_eq, z_upd, z_updL, z_b1, z_b2, z_b3, z_b4, z_b5, z_b6, z_b7, z_b8, z_b9, z_b10, z_b11, z_b12, z_b13, z_b14, z_b15, z_b16, z_b17, z_b18, z_b19, z_b20, ↓reduceIte, or_false, false_or, or_self, true_or, or_true, and_true, true_and, and_false, false_and, not_true_eq_false, not_false_eq_true, ite_self, reduceCtorEq, Nat.reduceAdd, Nat.reduceMul, Nat.reduceSub, Nat.reducePow, Nat.reduceDiv, Nat.reduceMod, Nat.reduceLT, Nat.reduceLeDiff, Nat.reduceEqDiff, Nat.add_zero, Nat.zero_add, Nat.mul_one, Nat.one_mul, Nat.mul_zero, Nat.zero_mul, Nat.sub_zero, Nat.not_lt_zero, Nat.zero_le]
    by_cases h0 : tills (r * 3) = tills (s * 3)
    · rw [if_pos h0, F_X6_alike_b23]
      simp (disch := omega) only [zl_0, zl_1, zl_2, zl_3, zl_4, zl_5, zl_6, zl_7, zl_8, zl_9, zl_10, zl_12, zl_14, zl_15, zl_16, zl_17, zl_18, zl_20, zl_24, zl_31, zl_32, zl_44, zl_48, zl_57, zl_59, zl_63, zl_64, zl_70, zl_74, zl_75, zl_97, zl_99, zl_100, zl_122, zl_140, zl_141, zl_142, zl_255, zl_900, zl_999, zl_1000, zl_1998, zl_6000, zl_6001, zl_16383, zl_16384, zl_65536, zl_65537, zq_add, zq_mul, zq_sub, zd_lt, zd_le, zd_eq, zd_cl, zm_lt, zm_le, zm_gt, zm_ge, zm_eq, zm_qe, zm_mm, zt_lt, zf_lt, zt_le, zf_le, zt_eq, zf_eq, z_upd, z_updL, z_b1, z_b2, z_b3, z_b4, z_b5, z_b6, z_b7, z_b8, z_b9, z_b10, z_b11, z_b12, z_b13, z_b14, z_b15, z_b16, z_b17, z_b18, z_b19, z_b20, ↓reduceIte, or_false, false_or, or_self, true_or, or_true, and_true, true_and, and_false, false_and, not_true_eq_false, not_false_eq_true, ite_self, reduceCtorEq, Nat.reduceAdd, Nat.reduceMul, Nat.reduceSub, Nat.reducePow, Nat.reduceDiv, Nat.reduceMod, Nat.reduceLT, Nat.reduceLeDiff, Nat.reduceEqDiff, Nat.add_zero, Nat.zero_add, Nat.mul_one, Nat.one_mul, Nat.mul_zero, Nat.zero_mul, Nat.sub_zero, Nat.not_lt_zero, Nat.zero_le]
      by_cases h1 : tills (r * 3 + 1) = tills (s * 3 + 1)
      · rw [if_pos h1, F_X6_alike_b23]
        simp (disch := omega) only [zl_0, zl_1, zl_2, zl_3, zl_4, zl_5, zl_6, zl_7, zl_8, zl_9, zl_10, zl_12, zl_14, zl_15, zl_16, zl_17, zl_18, zl_20, zl_24, zl_31, zl_32, zl_44, zl_48, zl_57, zl_59, zl_63, zl_64, zl_70, zl_74, zl_75, zl_97, zl_99, zl_100, zl_122, zl_140, zl_141, zl_142, zl_255, zl_900, zl_999, zl_1000, zl_1998, zl_6000, zl_6001, zl_16383, zl_16384, zl_65536, zl_65537, zq_add, zq_mul, zq_sub, zd_lt, zd_le, zd_eq, zd_cl, zm_lt, zm_le, zm_gt, zm_ge, zm_eq, zm_qe, zm_mm, zt_lt, zf_lt, zt_le, zf_le, zt_eq, zf_eq, z_upd, z_updL, z_b1, z_b2, z_b3, z_b4, z_b5, z_b6, z_b7, z_b8, z_b9, z_b10, z_b11, z_b12, z_b13, z_b14, z_b15, z_b16, z_b17, z_b18, z_b19, z_b20, ↓reduceIte, or_false, false_or, or_self, true_or, or_true, and_true, true_and, and_false, false_and, not_true_eq_false, not_false_eq_true, ite_self, reduceCtorEq, Nat.reduceAdd, Nat.reduceMul, Nat.reduceSub, Nat.reducePow, Nat.reduceDiv, Nat.reduceMod, Nat.reduceLT, Nat.reduceLeDiff, Nat.reduceEqDiff, Nat.add_zero, Nat.zero_add, Nat.mul_one, Nat.one_mul, Nat.mul_zero, Nat.zero_mul, Nat.sub_zero, Nat.not_lt_zero, Nat.zero_le]
        by_cases h2 : tills (r * 3 + 2) = tills (s * 3 + 2)
        · rw [if_pos h2, F_X6_alike_b23]
          simp (disch := omega) only [h, h0, h1, h2, zl_0, zl_1, zl_2, zl_3, zl_4, zl_5, zl_6, zl_7, zl_8, zl_9, zl_10, zl_12, zl_14, zl_15, zl_16, zl_17, zl_18, zl_20, zl_24, zl_31, zl_32, zl_44, zl_48, zl_57, zl_59, zl_63, zl_64, zl_70, zl_74, zl_75, zl_97, zl_99, zl_100, zl_122, zl_140, zl_141, zl_142, zl_255, zl_900, zl_999, zl_1000, zl_1998, zl_6000, zl_6001, zl_16383, zl_16384, zl_65536, zl_65537, zq_add, zq_mul, zq_sub, zd_lt, zd_le, zd_eq, zd_cl, zm_lt, zm_le, zm_gt, zm_ge, zm_eq, zm_qe, zm_mm, zt_lt, zf_lt, zt_le, zf_le, zt_eq, zf_eq, z_upd, z_updL, z_b1, z_b2, z_b3, z_b4, z_b5, z_b6, z_b7, z_b8, z_b9, z_b10, z_b11, z_b12, z_b13, z_b14, z_b15, z_b16, z_b17, z_b18, z_b19, z_b20, ↓reduceIte, or_false, false_or, or_self, true_or, or_true, and_true, true_and, and_false, false_and, not_true_eq_false, not_false_eq_true, ite_self, reduceCtorEq, Nat.reduceAdd, Nat.reduceMul, Nat.reduceSub, Nat.reducePow, Nat.reduceDiv, Nat.reduceMod, Nat.reduceLT, Nat.reduceLeDiff, Nat.reduceEqDiff, Nat.add_zero, Nat.zero_add, Nat.mul_one, Nat.one_mul, Nat.mul_zero, Nat.zero_mul, Nat.sub_zero, Nat.not_lt_zero, Nat.zero_le]
          simp
        · simp (disch := omega) only [h, h0, h1, h2, zl_0, zl_1, zl_2, zl_3, zl_4, zl_5, zl_6, zl_7, zl_8, zl_9, zl_10, zl_12, zl_14, zl_15, zl_16, zl_17, zl_18, zl_20, zl_24, zl_31, zl_32, zl_44, zl_48, zl_57, zl_59, zl_63, zl_64, zl_70, zl_74, zl_75, zl_97, zl_99, zl_100, zl_122, zl_140, zl_141, zl_142, zl_255, zl_900, zl_999, zl_1000, zl_1998, zl_6000, zl_6001, zl_16383, zl_16384, zl_65536, zl_65537, zq_add, zq_mul, zq_sub, zd_lt, zd_le, zd_eq, zd_cl, zm_lt, zm_le, zm_gt, zm_ge, zm_eq, zm_qe, zm_mm, zt_lt, zf_lt, zt_le, zf_le, zt_eq, zf_eq, z_upd, z_updL, z_b1, z_b2, z_b3, z_b4, z_b5, z_b6, z_b7, z_b8, z_b9, z_b10, z_b11, z_b12, z_b13, z_b14, z_b15, z_b16, z_b17, z_b18, z_b19, z_b20, ↓reduceIte, or_false, false_or, or_self, true_or, or_true, and_true, true_and, and_false, false_and, not_true_eq_false, not_false_eq_true, ite_self, reduceCtorEq, Nat.reduceAdd, Nat.reduceMul, Nat.reduceSub, Nat.reducePow, Nat.reduceDiv, Nat.reduceMod, Nat.reduceLT, Nat.reduceLeDiff, Nat.reduceEqDiff, Nat.add_zero, Nat.zero_add, Nat.mul_one, Nat.one_mul, Nat.mul_zero, Nat.zero_mul, Nat.sub_zero, Nat.not_lt_zero, Nat.zero_le]
          simp
      · simp (disch := omega) only [h, h0, h1, zl_0, zl_1, zl_2, zl_3, zl_4, zl_5, zl_6, zl_7, zl_8, zl_9, zl_10, zl_12, zl_14, zl_15, zl_16, zl_17, zl_18, zl_20, zl_24, zl_31, zl_32, zl_44, zl_48, zl_57, zl_59, zl_63, zl_64, zl_70, zl_74, zl_75, zl_97, zl_99, zl_100, zl_122, zl_140, zl_141, zl_142, zl_255, zl_900, zl_999, zl_1000, zl_1998, zl_6000, zl_6001, zl_16383, zl_16384, zl_65536, zl_65537, zq_add, zq_mul, zq_sub, zd_lt, zd_le, zd_eq, zd_cl, zm_lt, zm_le, zm_gt, zm_ge, zm_eq, zm_qe, zm_mm, zt_lt, zf_lt, zt_le, zf_le, zt_eq, zf_eq, z_upd, z_updL, z_b1, z_b2, z_b3, z_b4, z_b5, z_b6, z_b7, z_b8, z_b9, z_b10, z_b11, z_b12, z_b13, z_b14, z_b15, z_b16, z_b17, z_b18, z_b19, z_b20, ↓reduceIte, or_false, false_or, or_self, true_or, or_true, and_true, true_and, and_false, false_and, not_true_eq_false, not_false_eq_true, ite_self, reduceCtorEq, Nat.reduceAdd, Nat.reduceMul, Nat.reduceSub, Nat.reducePow, Nat.reduceDiv, Nat.reduceMod, Nat.reduceLT, Nat.reduceLeDiff, Nat.reduceEqDiff, Nat.add_zero, Nat.zero_add, Nat.mul_one, Nat.one_mul, Nat.mul_zero, Nat.zero_mul, Nat.sub_zero, Nat.not_lt_zero, Nat.zero_le]
        simp
    · simp (disch := omega) only [h, h0, zl_0, zl_1, zl_2, zl_3, zl_4, zl_5, zl_6, zl_7, zl_8, zl_9, zl_10, zl_12, zl_14, zl_15, zl_16, zl_17, zl_18, zl_20, zl_24, zl_31, zl_32, zl_44, zl_48, zl_57, zl_59, zl_63, zl_64, zl_70, zl_74, zl_75, zl_97, zl_99, zl_100, zl_122, zl_140, zl_141, zl_142, zl_255, zl_900, zl_999, zl_1000, zl_1998, zl_6000, zl_6001, zl_16383, zl_16384, zl_65536, zl_65537, zq_add, zq_mul, zq_sub, zd_lt, zd_le, zd_eq, zd_cl, zm_lt, zm_le, zm_gt, zm_ge, zm_eq, zm_qe, zm_mm, zt_lt, zf_lt, zt_le, zf_le, zt_eq, zf_eq, z_upd, z_updL, z_b1, z_b2, z_b3, z_b4, z_b5, z_b6, z_b7, z_b8, z_b9, z_b10, z_b11, z_b12, z_b13, z_b14, z_b15, z_b16, z_b17, z_b18, z_b19, z_b20, ↓reduceIte, or_false, false_or, or_self, true_or, or_true, and_true, true_and, and_false, false_and, not_true_eq_false, not_false_eq_true, ite_self, reduceCtorEq, Nat.reduceAdd, Nat.reduceMul, Nat.reduceSub, Nat.reducePow, Nat.reduceDiv, Nat.reduceMod, Nat.reduceLT, Nat.reduceLeDiff, Nat.reduceEqDiff, Nat.add_zero, Nat.zero_add, Nat.mul_one, Nat.one_mul, Nat.mul_zero, Nat.zero_mul, Nat.sub_zero, Nat.not_lt_zero, Nat.zero_le]
      simp
  · simp (disch := omega) only [h, zl_0, zl_1, zl_2, zl_3, zl_4, zl_5, zl_6, zl_7, zl_8, zl_9, zl_10, zl_12, zl_14, zl_15, zl_16, zl_17, zl_18, zl_20, zl_24, zl_31, zl_32, zl_44, zl_48, zl_57, zl_59, zl_63, zl_64, zl_70, zl_74, zl_75, zl_97, zl_99, zl_100, zl_122, zl_140, zl_141, zl_142, zl_255, zl_900, zl_999, zl_1000, zl_1998, zl_6000, zl_6001, zl_16383, zl_16384, zl_65536, zl_65537, zq_add, zq_mul, zq_sub, zd_lt, zd_le, zd_eq, zd_cl, zm_lt, zm_le, zm_gt, zm_ge, zm_eq, zm_qe, zm_mm, zt_lt, zf_lt, zt_le, zf_le, zt_eq, zf_eq, z_upd, z_updL, z_b1, z_b2, z_b3, z_b4, z_b5, z_b6, z_b7, z_b8, z_b9, z_b10, z_b11, z_b12, z_b13, z_b14, z_b15, z_b16, z_b17, z_b18, z_b19, z_b20, ↓reduceIte, or_false, false_or, or_self, true_or, or_true, and_true, true_and, and_false, false_and, not_true_eq_false, not_false_eq_true, ite_self, reduceCtorEq, Nat.reduceAdd, Nat.reduceMul, Nat.reduceSub, Nat.reducePow, Nat.reduceDiv, Nat.reduceMod, Nat.reduceLT, Nat.reduceLeDiff, Nat.reduceEqDiff, Nat.add_zero, Nat.zero_add, Nat.mul_one, Nat.one_mul, Nat.mul_zero, Nat.zero_mul, Nat.sub_zero, Nat.not_lt_zero, Nat.zero_le]
    simp
