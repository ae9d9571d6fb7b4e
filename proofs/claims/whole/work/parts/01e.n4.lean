section
def N4 {τ : Type} (g : τ → Int32) (x : Option τ) : Prop := ∀ o, x = some o → g o ≠ 4
theorem N4_none {τ : Type} {g : τ → Int32} : N4 g none := fun _ h => nomatch h
theorem N4_some {τ : Type} {g : τ → Int32} {o : τ} (h : g o ≠ 4) : N4 g (some o) := fun _ h' => by cases h'; exact h
theorem N4_ite {τ : Type} {g : τ → Int32} {c : Prop} [inst : Decidable c] {a b : Option τ} (ha : N4 g a) (hb : N4 g b) : N4 g (if c then a else b) := by
  split
  · exact ha
  · exact hb
theorem N4_ans {τ : Type} {g : τ → Int32} {v : Int32} {k : Int32 → Int32 → Option τ} (h : ∀ r t, t ≠ 4 → N4 g (k r t)) : N4 g (bnd2 (F_X9_answered v) k) := fun o ho => by
  obtain ⟨r, t, h1, h2⟩ := bnd2_some ho
  exact h r t (an4 h1) o h2
theorem N4_ref {τ : Type} {g : τ → Int32} {v : Int32} {k : Int32 → Int32 → Option τ} (hv : v ≠ 4) (h : ∀ r t, t ≠ 4 → N4 g (k r t)) : N4 g (bnd2 (F_X9_refused v) k) := fun o ho => by
  obtain ⟨r, t, h1, h2⟩ := bnd2_some ho
  exact h r t (re4 hv h1) o h2
theorem N4_alw {τ : Type} {g : τ → Int32} {v : Int32} {k : Int32 → Int32 → Option τ} (hv : v ≠ 4) (h : ∀ r t, t ≠ 4 → N4 g (k r t)) : N4 g (bnd2 (F_X9_allowed v) k) := fun o ho => by
  obtain ⟨r, t, h1, h2⟩ := bnd2_some ho
  exact h r t (al4 hv h1) o h2
theorem N4_b1 {α0 τ : Type} {g : τ → Int32} {x : Option (α0)} {k : α0 → Option τ} (h : ∀ x0, N4 g (k x0)) : N4 g (bnd1 x k) := fun o ho => by
  obtain ⟨x0, h1, h2⟩ := bnd1_some ho
  exact h x0 o h2
theorem N4_b2 {α0 α1 τ : Type} {g : τ → Int32} {x : Option (α0 × α1)} {k : α0 → α1 → Option τ} (h : ∀ x0 x1, N4 g (k x0 x1)) : N4 g (bnd2 x k) := fun o ho => by
  obtain ⟨x0, x1, h1, h2⟩ := bnd2_some ho
  exact h x0 x1 o h2
theorem N4_b3 {α0 α1 α2 τ : Type} {g : τ → Int32} {x : Option (α0 × α1 × α2)} {k : α0 → α1 → α2 → Option τ} (h : ∀ x0 x1 x2, N4 g (k x0 x1 x2)) : N4 g (bnd3 x k) := fun o ho => by
  obtain ⟨x0, x1, x2, h1, h2⟩ := bnd3_some ho
  exact h x0 x1 x2 o h2
theorem N4_b8 {α0 α1 α2 α3 α4 α5 α6 α7 τ : Type} {g : τ → Int32} {x : Option (α0 × α1 × α2 × α3 × α4 × α5 × α6 × α7)} {k : α0 → α1 → α2 → α3 → α4 → α5 → α6 → α7 → Option τ} (h : ∀ x0 x1 x2 x3 x4 x5 x6 x7, N4 g (k x0 x1 x2 x3 x4 x5 x6 x7)) : N4 g (bnd8 x k) := fun o ho => by
  obtain ⟨x0, x1, x2, x3, x4, x5, x6, x7, h1, h2⟩ := bnd8_some ho
  exact h x0 x1 x2 x3 x4 x5 x6 x7 o h2
theorem N4_b14 {α0 α1 α2 α3 α4 α5 α6 α7 α8 α9 α10 α11 α12 α13 τ : Type} {g : τ → Int32} {x : Option (α0 × α1 × α2 × α3 × α4 × α5 × α6 × α7 × α8 × α9 × α10 × α11 × α12 × α13)} {k : α0 → α1 → α2 → α3 → α4 → α5 → α6 → α7 → α8 → α9 → α10 → α11 → α12 → α13 → Option τ} (h : ∀ x0 x1 x2 x3 x4 x5 x6 x7 x8 x9 x10 x11 x12 x13, N4 g (k x0 x1 x2 x3 x4 x5 x6 x7 x8 x9 x10 x11 x12 x13)) : N4 g (bnd14 x k) := fun o ho => by
  obtain ⟨x0, x1, x2, x3, x4, x5, x6, x7, x8, x9, x10, x11, x12, x13, h1, h2⟩ := bnd14_some ho
  exact h x0 x1 x2 x3 x4 x5 x6 x7 x8 x9 x10 x11 x12 x13 o h2
theorem N4_b15 {α0 α1 α2 α3 α4 α5 α6 α7 α8 α9 α10 α11 α12 α13 α14 τ : Type} {g : τ → Int32} {x : Option (α0 × α1 × α2 × α3 × α4 × α5 × α6 × α7 × α8 × α9 × α10 × α11 × α12 × α13 × α14)} {k : α0 → α1 → α2 → α3 → α4 → α5 → α6 → α7 → α8 → α9 → α10 → α11 → α12 → α13 → α14 → Option τ} (h : ∀ x0 x1 x2 x3 x4 x5 x6 x7 x8 x9 x10 x11 x12 x13 x14, N4 g (k x0 x1 x2 x3 x4 x5 x6 x7 x8 x9 x10 x11 x12 x13 x14)) : N4 g (bnd15 x k) := fun o ho => by
  obtain ⟨x0, x1, x2, x3, x4, x5, x6, x7, x8, x9, x10, x11, x12, x13, x14, h1, h2⟩ := bnd15_some ho
  exact h x0 x1 x2 x3 x4 x5 x6 x7 x8 x9 x10 x11 x12 x13 x14 o h2
theorem t4_answer {a0_calls_n : Int32} {f_a0_calls_ends : Nat → Int32} {f_a0_calls_answers : Nat → Int32} {v1 : Int32} {v2 : Int32} : N4 (fun o => o.2.1) (F_X9_answer a0_calls_n f_a0_calls_ends f_a0_calls_answers v1 v2) := by
  unfold F_X9_answer
  simp only [F_X9_answer_b27]
  repeat' first
    | exact N4_none
    | exact N4_some ‹_›
    | exact N4_ans (fun _ _ _ => N4_some ‹_›)
    | exact N4_ref (by decide) (fun _ _ _ => N4_some ‹_›)
    | (apply N4_alw (by decide); intro _ _ _)
    | apply N4_ite
    | (apply N4_b1; intro _)
    | (apply N4_b2; intro _ _)
    | (apply N4_b3; intro _ _ _)
    | (apply N4_b8; intro _ _ _ _ _ _ _ _)
    | (apply N4_b14; intro _ _ _ _ _ _ _ _ _ _ _ _ _ _)
    | (apply N4_b15; intro _ _ _ _ _ _ _ _ _ _ _ _ _ _ _)
theorem t4_lose {fu : Nat} {a0_calls_n : Int32} {f_a0_calls_cashiers : Nat → Int32} {f_a0_calls_tills : Nat → Int32} {f_a0_calls_acts : Nat → Int32} {f_a0_calls_wholes : Nat → Int32} {f_a0_calls_begins : Nat → Int32} {f_a0_calls_ends : Nat → Int32} {f_a0_calls_answers : Nat → Int32} {v1 : Int32} : N4 (fun o => o.2.1) (F_X9_lose fu a0_calls_n f_a0_calls_cashiers f_a0_calls_tills f_a0_calls_acts f_a0_calls_wholes f_a0_calls_begins f_a0_calls_ends f_a0_calls_answers v1) := by
  unfold F_X9_lose
  repeat' first
    | exact N4_none
    | exact N4_some ‹_›
    | exact N4_ans (fun _ _ _ => N4_some ‹_›)
    | exact N4_ref (by decide) (fun _ _ _ => N4_some ‹_›)
    | (apply N4_alw (by decide); intro _ _ _)
    | apply N4_ite
    | (apply N4_b1; intro _)
    | (apply N4_b2; intro _ _)
    | (apply N4_b3; intro _ _ _)
    | (apply N4_b8; intro _ _ _ _ _ _ _ _)
    | (apply N4_b14; intro _ _ _ _ _ _ _ _ _ _ _ _ _ _)
    | (apply N4_b15; intro _ _ _ _ _ _ _ _ _ _ _ _ _ _ _)
theorem t4_opens {fu : Nat} {a0_shop_cashiers : Int32} {a0_calls_n : Int32} {f_a0_calls_cashiers : Nat → Int32} {f_a0_calls_ends : Nat → Int32} {f_a0_calls_answers : Nat → Int32} {v1 : Int32} : N4 (fun o => o.2.1) (F_X9_opens fu a0_shop_cashiers a0_calls_n f_a0_calls_cashiers f_a0_calls_ends f_a0_calls_answers v1) := by
  unfold F_X9_opens
  repeat' first
    | exact N4_none
    | exact N4_some ‹_›
    | exact N4_ans (fun _ _ _ => N4_some ‹_›)
    | exact N4_ref (by decide) (fun _ _ _ => N4_some ‹_›)
    | (apply N4_alw (by decide); intro _ _ _)
    | apply N4_ite
    | (apply N4_b1; intro _)
    | (apply N4_b2; intro _ _)
    | (apply N4_b3; intro _ _ _)
    | (apply N4_b8; intro _ _ _ _ _ _ _ _)
    | (apply N4_b14; intro _ _ _ _ _ _ _ _ _ _ _ _ _ _)
    | (apply N4_b15; intro _ _ _ _ _ _ _ _ _ _ _ _ _ _ _)
theorem t4_late {a0_shop_told : Int32} {a0_shop_late : Int32} {v1 : Int32} : N4 (fun o => o.2.1) (F_X9_late a0_shop_told a0_shop_late v1) := by
  unfold F_X9_late
  simp only [F_X9_late_b26]
  repeat' first
    | exact N4_none
    | exact N4_some ‹_›
    | exact N4_ans (fun _ _ _ => N4_some ‹_›)
    | exact N4_ref (by decide) (fun _ _ _ => N4_some ‹_›)
    | (apply N4_alw (by decide); intro _ _ _)
    | apply N4_ite
    | (apply N4_b1; intro _)
    | (apply N4_b2; intro _ _)
    | (apply N4_b3; intro _ _ _)
    | (apply N4_b8; intro _ _ _ _ _ _ _ _)
    | (apply N4_b14; intro _ _ _ _ _ _ _ _ _ _ _ _ _ _)
    | (apply N4_b15; intro _ _ _ _ _ _ _ _ _ _ _ _ _ _ _)
theorem t4_call {a0_calls_n : Int32} {f_a0_calls_cashiers : Nat → Int32} {f_a0_calls_tills : Nat → Int32} {f_a0_calls_acts : Nat → Int32} {f_a0_calls_wholes : Nat → Int32} {f_a0_calls_begins : Nat → Int32} {f_a0_calls_ends : Nat → Int32} {f_a0_calls_answers : Nat → Int32} {v1 : Int32} {v2 : Int32} : N4 (fun o => o.2) (F_X9_call a0_calls_n f_a0_calls_cashiers f_a0_calls_tills f_a0_calls_acts f_a0_calls_wholes f_a0_calls_begins f_a0_calls_ends f_a0_calls_answers v1 v2) := by
  unfold F_X9_call
  simp only [F_X9_call_b21]
  repeat' first
    | exact N4_none
    | exact N4_some ‹_›
    | exact N4_ans (fun _ _ _ => N4_some ‹_›)
    | exact N4_ref (by decide) (fun _ _ _ => N4_some ‹_›)
    | (apply N4_alw (by decide); intro _ _ _)
    | apply N4_ite
    | (apply N4_b1; intro _)
    | (apply N4_b2; intro _ _)
    | (apply N4_b3; intro _ _ _)
    | (apply N4_b8; intro _ _ _ _ _ _ _ _)
    | (apply N4_b14; intro _ _ _ _ _ _ _ _ _ _ _ _ _ _)
    | (apply N4_b15; intro _ _ _ _ _ _ _ _ _ _ _ _ _ _ _)
theorem t4_make {fu : Nat} {a0_seedNow : Int32} {a0_shop_told : Int32} {a0_shop_tills : Int32} {a0_shop_cashiers : Int32} {a0_maker_seed : Int32} {a0_calls_n : Int32} {f_a0_maker_phases : Nat → Int32} {f_a0_maker_tills : Nat → Int32} {f_a0_shop_kinds : Nat → Int32} {f_a0_calls_cashiers : Nat → Int32} {f_a0_calls_tills : Nat → Int32} {f_a0_calls_acts : Nat → Int32} {f_a0_calls_wholes : Nat → Int32} {f_a0_calls_begins : Nat → Int32} {f_a0_calls_ends : Nat → Int32} {f_a0_calls_answers : Nat → Int32} {f_a0_maker_doing : Nat → Int32} {f_a0_maker_answers : Nat → Int32} {v1 : Int32} {v2 : Int32} : N4 (fun o => o.2.2.1) (F_X9_make fu a0_seedNow a0_shop_told a0_shop_tills a0_shop_cashiers a0_maker_seed a0_calls_n f_a0_maker_phases f_a0_maker_tills f_a0_shop_kinds f_a0_calls_cashiers f_a0_calls_tills f_a0_calls_acts f_a0_calls_wholes f_a0_calls_begins f_a0_calls_ends f_a0_calls_answers f_a0_maker_doing f_a0_maker_answers v1 v2) := by
  unfold F_X9_make
  simp only [F_X9_make_b17, F_X9_make_b34]
  repeat' first
    | exact N4_none
    | exact N4_some ‹_›
    | exact N4_ans (fun _ _ _ => N4_some ‹_›)
    | exact N4_ref (by decide) (fun _ _ _ => N4_some ‹_›)
    | (apply N4_alw (by decide); intro _ _ _)
    | apply N4_ite
    | (apply N4_b1; intro _)
    | (apply N4_b2; intro _ _)
    | (apply N4_b3; intro _ _ _)
    | (apply N4_b8; intro _ _ _ _ _ _ _ _)
    | (apply N4_b14; intro _ _ _ _ _ _ _ _ _ _ _ _ _ _)
    | (apply N4_b15; intro _ _ _ _ _ _ _ _ _ _ _ _ _ _ _)
theorem t4_breaks_b42 (fu : Nat) (a0_made : Nat) (a0_shop_tills : Int32) (a0_shop_cashiers : Int32) (a0_shop_late : Int32) (f_a0_shop_kinds : Nat → Int32) (v1 : Int32) (v2 : Int32) (v3 : Int32) : ∀ (kf : Nat) a0_judge_stands_calls a0_maker_seed a0_made_n f_a0_maker_phases f_a0_maker_tills f_a0_made_cashiers f_a0_made_tills f_a0_made_acts f_a0_made_wholes f_a0_made_begins f_a0_made_ends f_a0_made_answers f_a0_maker_doing f_a0_maker_answers a0_judge_rules_there a0_judge_rules_must a0_judge_rules_strict a0_judge_rules_timed f_a0_judge_rules_own f_a0_judge_rules_ahead a0_judge_stands_base a0_judge_stands_count f_a0_judge_stands_table f_a0_judge_stands_done f_a0_judge_stands_tills f_a0_judge_stands_leads f_a0_judge_stands_ways v4, N4 (fun o => o.2.1) (F_X9_breaks_b42 fu a0_made a0_shop_tills a0_shop_cashiers a0_shop_late f_a0_shop_kinds v1 v2 v3 kf a0_judge_stands_calls a0_maker_seed a0_made_n f_a0_maker_phases f_a0_maker_tills f_a0_made_cashiers f_a0_made_tills f_a0_made_acts f_a0_made_wholes f_a0_made_begins f_a0_made_ends f_a0_made_answers f_a0_maker_doing f_a0_maker_answers a0_judge_rules_there a0_judge_rules_must a0_judge_rules_strict a0_judge_rules_timed f_a0_judge_rules_own f_a0_judge_rules_ahead a0_judge_stands_base a0_judge_stands_count f_a0_judge_stands_table f_a0_judge_stands_done f_a0_judge_stands_tills f_a0_judge_stands_leads f_a0_judge_stands_ways v4)
  | 0 => by
    intros
    exact N4_none
  | kf + 1 => by
    intro _ _ _ _ _ _ _ _ _ _ _ _ _ _ _ _ _ _ _ _ _ _ _ _ _ _ _ _
    rw [F_X9_breaks_b42]
    simp only [F_X9_breaks_b101]
    repeat' first
      | exact N4_none
      | exact N4_some ‹_›
      | exact N4_ans (fun _ _ _ => N4_some ‹_›)
      | exact N4_ref (by decide) (fun _ _ _ => N4_some ‹_›)
      | (apply N4_alw (by decide); intro _ _ _)
      | exact t4_breaks_b42 _ _ _ _ _ _ _ _ _ kf _ _ _ _ _ _ _ _ _ _ _ _ _ _ _ _ _ _ _ _ _ _ _ _ _ _ _ _
      | apply N4_ite
      | (apply N4_b1; intro _)
      | (apply N4_b2; intro _ _)
      | (apply N4_b3; intro _ _ _)
      | (apply N4_b8; intro _ _ _ _ _ _ _ _)
      | (apply N4_b14; intro _ _ _ _ _ _ _ _ _ _ _ _ _ _)
      | (apply N4_b15; intro _ _ _ _ _ _ _ _ _ _ _ _ _ _ _)
theorem t4_breaks {fu : Nat} {a0_made : Nat} {a0_judge_stands_calls : Nat} {a0_shop_told : Int32} {a0_shop_tills : Int32} {a0_shop_cashiers : Int32} {a0_shop_late : Int32} {a0_maker_seed : Int32} {a0_made_n : Int32} {f_a0_maker_phases : Nat → Int32} {f_a0_maker_tills : Nat → Int32} {f_a0_shop_kinds : Nat → Int32} {f_a0_made_cashiers : Nat → Int32} {f_a0_made_tills : Nat → Int32} {f_a0_made_acts : Nat → Int32} {f_a0_made_wholes : Nat → Int32} {f_a0_made_begins : Nat → Int32} {f_a0_made_ends : Nat → Int32} {f_a0_made_answers : Nat → Int32} {f_a0_maker_doing : Nat → Int32} {f_a0_maker_answers : Nat → Int32} {a0_judge_rules_there : Int32} {a0_judge_rules_must : Int32} {a0_judge_rules_strict : Int32} {a0_judge_rules_timed : Int32} {f_a0_judge_rules_own : Nat → Int32} {f_a0_judge_rules_ahead : Nat → Int32} {a0_judge_stands_base : Int32} {a0_judge_stands_count : Int32} {f_a0_judge_stands_table : Nat → Int32} {f_a0_judge_stands_done : Nat → Int32} {f_a0_judge_stands_tills : Nat → Int32} {f_a0_judge_stands_leads : Nat → Int32} {f_a0_judge_stands_ways : Nat → Int64} {v1 : Int32} {v2 : Int32} {v3 : Int32} : N4 (fun o => o.2.1) (F_X9_breaks fu a0_made a0_judge_stands_calls a0_shop_told a0_shop_tills a0_shop_cashiers a0_shop_late a0_maker_seed a0_made_n f_a0_maker_phases f_a0_maker_tills f_a0_shop_kinds f_a0_made_cashiers f_a0_made_tills f_a0_made_acts f_a0_made_wholes f_a0_made_begins f_a0_made_ends f_a0_made_answers f_a0_maker_doing f_a0_maker_answers a0_judge_rules_there a0_judge_rules_must a0_judge_rules_strict a0_judge_rules_timed f_a0_judge_rules_own f_a0_judge_rules_ahead a0_judge_stands_base a0_judge_stands_count f_a0_judge_stands_table f_a0_judge_stands_done f_a0_judge_stands_tills f_a0_judge_stands_leads f_a0_judge_stands_ways v1 v2 v3) := by
  unfold F_X9_breaks
  simp only [F_X9_breaks_b16, F_X9_breaks_b33]
  repeat' first
    | exact N4_none
    | exact N4_some ‹_›
    | exact N4_ans (fun _ _ _ => N4_some ‹_›)
    | exact N4_ref (by decide) (fun _ _ _ => N4_some ‹_›)
    | (apply N4_alw (by decide); intro _ _ _)
    | exact t4_breaks_b42 _ _ _ _ _ _ _ _ _ _ _ _ _ _ _ _ _ _ _ _ _ _ _ _ _ _ _ _ _ _ _ _ _ _ _ _ _ _
    | apply N4_ite
    | (apply N4_b1; intro _)
    | (apply N4_b2; intro _ _)
    | (apply N4_b3; intro _ _ _)
    | (apply N4_b8; intro _ _ _ _ _ _ _ _)
    | (apply N4_b14; intro _ _ _ _ _ _ _ _ _ _ _ _ _ _)
    | (apply N4_b15; intro _ _ _ _ _ _ _ _ _ _ _ _ _ _ _)
end
