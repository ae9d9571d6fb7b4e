/-! the system: calls, who must be done ahead of whom, how they answer; its stands, found in order -/
abbrev St := Nat × Nat × Nat × Nat
def tl (x : St) (t : Nat) : Nat := if t = 0 then x.2.1 else if t = 1 then x.2.2.1 else x.2.2.2
def stl (x : St) (t v : Nat) : St := (x.1, if t = 0 then v else x.2.1, if t = 1 then v else x.2.2.1, if t = 2 then v else x.2.2.2)
theorem tl_stl {x : St} {t v u : Nat} (hu : u < 3) : tl (stl x t v) u = if u = t then v else tl x u := by
  have c : u = 0 ∨ u = 1 ∨ u = 2 := by omega
  rcases c with rfl | rfl | rfl
  · unfold tl stl; simp [eq_comm]
  · unfold tl stl; simp [eq_comm]
  · unfold tl stl; simp [eq_comm]
theorem st_ext {x z : St} (h : x.1 = z.1) (h2 : ∀ t, t < 3 → tl x t = tl z t) : x = z := by
  have h0 := h2 0 (by omega)
  have h1 := h2 1 (by omega)
  have h3 := h2 2 (by omega)
  unfold tl at h0 h1 h3
  simp at h0 h1 h3
  exact Prod.ext h (Prod.ext h0 (Prod.ext h1 h3))
/-- m calls; which are there; cashier; what must be done ahead; which answer as told, which must be done; till, act, whole, answer of a call; kinds, how many tills -/
abbrev Sy := Nat × (Nat → Bool) × (Nat → Nat) × (Nat → Nat → Bool) × (Nat → Bool) × (Nat → Bool) × (Nat → Nat) × (Nat → Nat) × (Nat → Nat) × (Nat → Int32) × (Nat → Nat) × Nat
def ym (y : Sy) : Nat := y.1
def yinn (y : Sy) : Nat → Bool := y.2.1
def ycsh (y : Sy) : Nat → Nat := y.2.2.1
def yblk (y : Sy) : Nat → Nat → Bool := y.2.2.2.1
def ystr (y : Sy) : Nat → Bool := y.2.2.2.2.1
def ymst (y : Sy) : Nat → Bool := y.2.2.2.2.2.1
def ytil (y : Sy) : Nat → Nat := y.2.2.2.2.2.2.1
def yact (y : Sy) : Nat → Nat := y.2.2.2.2.2.2.2.1
def ywhl (y : Sy) : Nat → Nat := y.2.2.2.2.2.2.2.2.1
def yans (y : Sy) : Nat → Int32 := y.2.2.2.2.2.2.2.2.2.1
def ykd (y : Sy) : Nat → Nat := y.2.2.2.2.2.2.2.2.2.2.1
def ynt (y : Sy) : Nat := y.2.2.2.2.2.2.2.2.2.2.2
/-- a system that can be -/
def WF (y : Sy) : Prop := ym y ≤ 20 ∧ ynt y ≤ 3 ∧ (∀ t, t < 3 → ykd y t < 5) ∧
  (∀ c, c < ym y → ycsh y c < 4 ∧ ytil y c < ynt y ∧ okA (ykd y (ytil y c)) (yact y c) ∧ ywhl y c ≤ 9) ∧ (∀ c, yblk y c c = false) ∧ (∀ c, ymst y c = true → yinn y c = true)
def frs (y : Sy) (k D : Nat) : Nat := fa_first (fun c => yinn y c && ycsh y c == k && !D.testBit c) (ym y)
def nxo (y : Sy) (D c : Nat) : Bool := (List.range (ym y)).all (fun a => !(yinn y a && yblk y a c) || D.testBit a)
/-- a cashier's call that may be next -/
def nx (y : Sy) (k D : Nat) : Option Nat := if frs y k D < ym y ∧ nxo y D (frs y k D) = true then some (frs y k D) else none
theorem nx_some {y : Sy} {k D c : Nat} : nx y k D = some c ↔ (c < ym y ∧ yinn y c = true ∧ ycsh y c = k ∧ D.testBit c = false ∧ (∀ b, b < c → yinn y b = true → ycsh y b = k → D.testBit b = true) ∧ (∀ a, a < ym y → yinn y a = true → yblk y a c = true → D.testBit a = true)) := by
  unfold nx
  constructor
  · intro h
    split at h
    · rename_i hc
      injection h with h
      subst h
      have h1 := fa_first_yes _ _ hc.1
      simp at h1
      refine ⟨hc.1, h1.1.1, h1.1.2, h1.2, ?_, ?_⟩
      · intro b hb hi hk
        have h2 := fa_first_no _ _ b hb
        simp [hi, hk] at h2
        exact h2
      · intro a ha hi hb
        have h2 := hc.2
        unfold nxo at h2
        rw [List.all_eq_true] at h2
        have h3 := h2 a (List.mem_range.mpr ha)
        simpa [hi, hb] using h3
    · cases h
  · rintro ⟨h1, h2, h3, h4, h5, h6⟩
    have e : frs y k D = c := by
      unfold frs
      rcases Nat.lt_trichotomy (fa_first (fun c => yinn y c && ycsh y c == k && !D.testBit c) (ym y)) c with g | g | g
      · have q := fa_first_yes _ _ (Nat.lt_trans g h1)
        simp at q
        have := h5 _ g q.1.1 q.1.2
        rw [this] at q
        simp at q
      · exact g
      · have q := fa_first_no _ _ _ g
        simp [h2, h3, h4] at q
    rw [e, if_pos]
    refine ⟨h1, ?_⟩
    unfold nxo
    rw [List.all_eq_true]
    intro a ha
    by_cases hi : yinn y a = true ∧ yblk y a c = true
    · simp [h6 a (List.mem_range.mp ha) hi.1 hi.2]
    · have : (yinn y a && yblk y a c) = false := by
        rw [← Bool.not_eq_true, Bool.and_eq_true]; exact hi
      simp [this]
/-- what a call would answer at a stand -/
def say (y : Sy) (x : St) (c : Nat) : Nat := sy (ykd y (ytil y c)) (tl x (ytil y c)) (yact y c) (ywhl y c)
def otr (y : Sy) (x : St) (c : Nat) : Bool := ystr y c && !(nI (say y x c) == yans y c)
def go (y : Sy) (x : St) (c : Nat) : St := stl (x.1 ||| 2 ^ c, x.2) (ytil y c) (af (ykd y (ytil y c)) (tl x (ytil y c)) (yact y c) (ywhl y c))
/-- a step of a cashier -/
def nst (y : Sy) (k : Nat) (x : St) : Option St := match nx y k x.1 with
  | none => none
  | some c => if otr y x c = true then none else some (go y x c)
def i0 (y : Sy) (t : Nat) : Nat := if ykd y t = 4 then 9 else 0
def ini (y : Sy) : St := (0, i0 y 0, i0 y 1, i0 y 2)
def whole (y : Sy) (x : St) : Bool := (List.range (ym y)).all (fun c => !ymst y c || x.1.testBit c)
theorem whole_iff {y : Sy} {x : St} : whole y x = true ↔ ∀ c, c < ym y → ymst y c = true → x.1.testBit c = true := by
  unfold whole
  rw [List.all_eq_true]
  constructor
  · intro h c hc hm
    have := h c (List.mem_range.mpr hc)
    simpa [hm] using this
  · intro h c hc
    by_cases hm : ymst y c = true
    · simp [h c (List.mem_range.mp hc) hm]
    · simp [hm]
/-- a stand that can be -/
def okS (y : Sy) (x : St) : Prop := (∀ c, x.1.testBit c = true → c < ym y ∧ yinn y c = true) ∧
  (∀ c b, b < c → x.1.testBit c = true → yinn y b = true → ycsh y b = ycsh y c → x.1.testBit b = true) ∧ ∀ t, t < 3 → okT (ykd y t) (tl x t)
def lv (y : Sy) (x : St) : Nat := fb_ct (fun c => x.1.testBit c) (ym y)
theorem bit_or (D c i : Nat) : (D ||| 2 ^ c).testBit i = (D.testBit i || decide (c = i)) := by
  rw [Nat.testBit_or, Nat.testBit_two_pow]
theorem okS_ini {y : Sy} (hw : WF y) : okS y (ini y) := by
  refine ⟨?_, ?_, ?_⟩
  · intro c h; simp [ini] at h
  · intro c b _ h; simp [ini] at h
  · intro t ht
    have c : t = 0 ∨ t = 1 ∨ t = 2 := by omega
    rcases c with rfl | rfl | rfl
    · exact okT_init (hw.2.2.1 0 (by omega))
    · exact okT_init (hw.2.2.1 1 (by omega))
    · exact okT_init (hw.2.2.1 2 (by omega))
theorem lv_ini {y : Sy} : lv y (ini y) = 0 := by
  unfold lv
  rw [fb_ct_zero]
  intro k _
  simp [ini]
theorem okS_lt {y : Sy} {x : St} (hw : WF y) (h : okS y x) : x.1 < 2 ^ 20 := by
  apply Nat.lt_pow_two_of_testBit
  intro i hi
  rcases hb : x.1.testBit i
  · rfl
  · have := (h.1 i hb).1
    have := hw.1
    omega
theorem go_okS {y : Sy} {x : St} {k c : Nat} (hw : WF y) (h : okS y x) (hn : nx y k x.1 = some c) : okS y (go y x c) ∧ lv y (go y x c) = lv y x + 1 := by
  obtain ⟨h1, h2, h3, h4, h5, h6⟩ := nx_some.mp hn
  obtain ⟨c1, c2, c3, c4⟩ := hw.2.2.2.1 c h1
  have hc3 : ytil y c < 3 := Nat.lt_of_lt_of_le c2 hw.2.1
  refine ⟨⟨?_, ?_, ?_⟩, ?_⟩
  · intro i hi
    have hi' : (x.1 ||| 2 ^ c).testBit i = true := hi
    rw [bit_or] at hi'
    rcases Bool.or_eq_true _ _ |>.mp hi' with g | g
    · exact h.1 i g
    · have := of_decide_eq_true g; subst this; exact ⟨h1, h2⟩
  · intro i b hb hi hbi hcs
    have hi' : (x.1 ||| 2 ^ c).testBit i = true := hi
    show (x.1 ||| 2 ^ c).testBit b = true
    rw [bit_or] at hi' ⊢
    rcases Bool.or_eq_true _ _ |>.mp hi' with g | g
    · rw [h.2.1 i b hb g hbi hcs]; rfl
    · have := of_decide_eq_true g
      subst this
      rw [h5 b hb hbi (hcs.trans h3)]; rfl
  · intro t ht
    unfold go
    rw [tl_stl ht]
    split
    · rename_i e
      rw [e]
      exact okT_af (hw.2.2.1 _ hc3) (h.2.2 _ hc3) c3 c4
    · exact h.2.2 t ht
  · unfold lv
    have e : ∀ k, (go y x c).1.testBit k = if k = c then true else x.1.testBit k := by
      intro k
      show (x.1 ||| 2 ^ c).testBit k = _
      rw [bit_or]
      by_cases hk : k = c
      · subst hk; simp
      · simp [hk, Ne.symm hk]
    have q := fb_ct_upd (fun c => x.1.testBit c) true h1
    simp only [h4] at q
    rw [show (fun c_1 => (go y x c).1.testBit c_1) = (fun k => if k = c then true else x.1.testBit k) from funext e]
    simpa using q
theorem nst_some {y : Sy} {k : Nat} {x z : St} (h : nst y k x = some z) : ∃ c, nx y k x.1 = some c ∧ otr y x c = false ∧ z = go y x c := by
  unfold nst at h
  split at h
  · cases h
  · rename_i c hc
    split at h
    · cases h
    · rename_i ho
      injection h with h
      exact ⟨c, hc, by simpa using ho, h.symm⟩
theorem nst_okS {y : Sy} {k : Nat} {x z : St} (hw : WF y) (h : okS y x) (hn : nst y k x = some z) : okS y z ∧ lv y z = lv y x + 1 := by
  obtain ⟨c, h1, _, rfl⟩ := nst_some hn
  exact go_okS hw h h1
