section
/-- class and reference hold the same -/
def INV (a0_markCount : Int32) (a0_seedNow : Int32) (a0_lastTrouble : Int32) (a0_shop_told : Int32) (a0_shop_tills : Int32) (a0_shop_cashiers : Int32) (a0_shop_late : Int32) (f_a0_shop_kinds : Nat → Int32) (a0_calls_n : Int32) (f_a0_calls_cashiers : Nat → Int32) (f_a0_calls_tills : Nat → Int32) (f_a0_calls_acts : Nat → Int32) (f_a0_calls_wholes : Nat → Int32) (f_a0_calls_begins : Nat → Int32) (f_a0_calls_ends : Nat → Int32) (f_a0_calls_answers : Nat → Int32) (a0_reader_fault : Int32) (a0_reader_place : Int32) (a0_reader_tape_fed : Int32) (f_a0_reader_tape_bytes : Nat → Int32) (f_a0_reader_shop_kinds : Nat → Int32) (a0_judge_stands_base : Int32) (f_a0_judge_stands_table : Nat → Int32) (a0_m0_n : Int32) (f_a0_m0_cashiers : Nat → Int32) (f_a0_m0_tills : Nat → Int32) (f_a0_m0_acts : Nat → Int32) (f_a0_m0_wholes : Nat → Int32) (f_a0_m0_begins : Nat → Int32) (f_a0_m0_ends : Nat → Int32) (f_a0_m0_answers : Nat → Int32) (a0_m1_n : Int32) (f_a0_m1_cashiers : Nat → Int32) (f_a0_m1_tills : Nat → Int32) (f_a0_m1_acts : Nat → Int32) (f_a0_m1_wholes : Nat → Int32) (f_a0_m1_begins : Nat → Int32) (f_a0_m1_ends : Nat → Int32) (f_a0_m1_answers : Nat → Int32) (a0_m2_n : Int32) (f_a0_m2_cashiers : Nat → Int32) (f_a0_m2_tills : Nat → Int32) (f_a0_m2_acts : Nat → Int32) (f_a0_m2_wholes : Nat → Int32) (f_a0_m2_begins : Nat → Int32) (f_a0_m2_ends : Nat → Int32) (f_a0_m2_answers : Nat → Int32) (f_a0_markSeeds : Nat → Int32) (b0_hasBook : Int32) (b0_taped : Int32) (f_b0_tape : Nat → Int32) (b0_fault : Int32) (b0_place : Int32) (b0_trouble : Int32) (b0_marks : Int32) (f_b0_r : Nat → Int32) (f_b0_st : Nat → Int32) (f_b0_kept : Nat → Int32) : Prop :=
  ∃ (told : Bool) (nt nq late s mk tp b : Nat) (kd : Nat → Nat) (K : Ca),
    CS K kd nt late a0_calls_n f_a0_calls_cashiers f_a0_calls_tills f_a0_calls_acts f_a0_calls_wholes f_a0_calls_begins f_a0_calls_ends f_a0_calls_answers f_a0_shop_kinds a0_shop_late ∧
    (a0_shop_told = nI (if told = true then 1 else 0) ∧ a0_shop_tills = nI nt ∧ a0_shop_cashiers = nI nq ∧ a0_seedNow = nI s ∧ a0_markCount = nI mk ∧ a0_judge_stands_base = nI b ∧ a0_reader_tape_fed = nI tp) ∧
    (b0_hasBook = nI (if told = true then 1 else 0) ∧ b0_taped = nI tp ∧ f_b0_tape = f_a0_reader_tape_bytes ∧ b0_fault = a0_reader_fault ∧ b0_trouble = a0_lastTrouble ∧ b0_marks = nI mk) ∧
    (nq ≤ 4 ∧ s < 65537 ∧ mk ≤ 3 ∧ tp ≤ 900) ∧ (told = true → 0 < nt ∧ 0 < nq) ∧ (told = false → cm K = 0 ∧ nt = 0 ∧ nq = 0 ∧ late = 0 ∧ s = 0 ∧ mk = 0) ∧
    TB b f_a0_judge_stands_table ∧ (RK K (ce K) f_b0_st ∧ f_b0_st 140 = nI s ∧ RLy kd nt late f_b0_r ∧ f_b0_r 6 = nI nq) ∧ MM nt kd mk a0_m0_n f_a0_m0_cashiers f_a0_m0_tills f_a0_m0_acts f_a0_m0_wholes f_a0_m0_begins f_a0_m0_ends f_a0_m0_answers a0_m1_n f_a0_m1_cashiers f_a0_m1_tills f_a0_m1_acts f_a0_m1_wholes f_a0_m1_begins f_a0_m1_ends f_a0_m1_answers a0_m2_n f_a0_m2_cashiers f_a0_m2_tills f_a0_m2_acts f_a0_m2_wholes f_a0_m2_begins f_a0_m2_ends f_a0_m2_answers f_a0_markSeeds f_b0_kept ∧
    (∃ T, tx f_a0_reader_tape_bytes T) ∧ KB f_a0_reader_shop_kinds ∧ (a0_lastTrouble = 4 → a0_reader_place = b0_place)
theorem n04 : (nI 0 : Int32) ≠ 4 := by decide
theorem n14 : (nI 1 : Int32) ≠ 4 := by decide
theorem n24 : (nI 2 : Int32) ≠ 4 := by decide
theorem n34 : (nI 3 : Int32) ≠ 4 := by decide
theorem n54 : (nI 5 : Int32) ≠ 4 := by decide
theorem n64 : (nI 6 : Int32) ≠ 4 := by decide
theorem an4 {v r t : Int32} (h : F_X9_answered v = some (r, t)) : t ≠ 4 := by
  unfold F_X9_answered at h
  split at h
  · have : some ((-1 : Int32), (3 : Int32)) = some (r, t) := h
    cases this; decide
  · split at h
    · have : some ((-1 : Int32), (6 : Int32)) = some (r, t) := h
      cases this; decide
    · cases h; decide
theorem re4 {k r t : Int32} (hk : k ≠ 4) (h : F_X9_refused k = some (r, t)) : t ≠ 4 := by
  cases h; exact hk
theorem al4 {k r t : Int32} (hk : k ≠ 4) (h : F_X9_allowed k = some (r, t)) : t ≠ 4 := by
  unfold F_X9_allowed at h
  split at h
  · cases h; exact hk
  · cases h; exact hk
theorem bdl4 (K : Ca) (kd : Nat → Nat) (nt late k : Nat) : ∀ f i, (bdl K kd nt late k f i).2 ≠ 4
  | 0, i => n04
  | f + 1, i => by
    unfold bdl
    split
    · exact n04
    · split
      · exact n34
      · split
        · exact n04
        · exact bdl4 K kd nt late k f (i + 1)
theorem enl4 (K : Ca) (kd : Nat → Nat) (nt : Nat) : ∀ f i, (enl K kd nt f i).2 ≠ 4
  | 0, i => n04
  | f + 1, i => by
    rw [enl_s]
    split
    · exact n34
    · split
      · exact enl4 K kd nt f (i + 1)
      · exact n04
theorem corl4 (K : Ca) (kd : Nat → Nat) (nt late k : Nat) : ∀ f sz, (corl K kd nt late k f sz).2 ≠ 4
  | 0, sz => n04
  | f + 1, sz => by
    unfold corl
    split
    · exact n04
    · exact corl4 K kd nt late k f (sz + 1)
theorem corr4 (K : Ca) (kd : Nat → Nat) (nt late k : Nat) : (corr K kd nt late k).2 ≠ 4 := by
  unfold corr
  repeat' split
  all_goals first | exact n04 | exact n14 | exact n34 | exact n64 | exact corl4 _ _ _ _ _ _ _
theorem t4_can (K : Ca) (kd : Nat → Nat) (nt late : Nat) (told : Bool) (v : Int32) : (rs_can K kd nt late told v).2 ≠ 4 := by
  unfold rs_can
  repeat' split
  all_goals first | exact n04 | exact n14 | exact n34 | exact n54 | exact n64
theorem t4_orders (K : Ca) (kd : Nat → Nat) (nt late : Nat) (told : Bool) (v : Int32) : (rs_orders K kd nt late told v).2 ≠ 4 := by
  unfold rs_orders
  repeat' split
  all_goals first | exact n04 | exact n14 | exact n34 | exact n54 | exact n64
theorem t4_size (K : Ca) (kd : Nat → Nat) (nt late : Nat) (told : Bool) (v : Int32) : (rs_size K kd nt late told v).2 ≠ 4 := by
  unfold rs_size
  repeat' split
  all_goals first | exact n04 | exact n14 | exact n34 | exact n54 | exact n64
theorem t4_order (K : Ca) (kd : Nat → Nat) (nt late : Nat) (told : Bool) (v w : Int32) : (rs_order K kd nt late told v w).2 ≠ 4 := by
  unfold rs_order
  repeat' split
  all_goals first | exact n04 | exact n14 | exact n34 | exact n54 | exact n64
theorem t4_stands (K : Ca) (kd : Nat → Nat) (nt late : Nat) (told : Bool) (v : Int32) : (rs_stands K kd nt late told v).2 ≠ 4 := by
  unfold rs_stands
  repeat' split
  all_goals first | exact n04 | exact n14 | exact n34 | exact n54 | exact n64
theorem t4_ends (K : Ca) (kd : Nat → Nat) (nt late : Nat) (told : Bool) (v : Int32) : (rs_ends K kd nt late told v).2 ≠ 4 := by
  unfold rs_ends
  repeat' split
  all_goals first | exact n04 | exact n14 | exact n34 | exact n54 | exact n64
theorem t4_firsts (K : Ca) (kd : Nat → Nat) (nt late : Nat) (told : Bool) (v : Int32) : (rs_firsts K kd nt late told v).2 ≠ 4 := by
  unfold rs_firsts
  repeat' split
  all_goals first | exact n04 | exact n14 | exact n34 | exact n54 | exact n64
theorem t4_ahead (K : Ca) (kd : Nat → Nat) (nt late : Nat) (told : Bool) (v a c : Int32) : (rs_ahead K kd nt late told v a c).2 ≠ 4 := by
  unfold rs_ahead
  repeat' split
  all_goals first | exact n04 | exact n14 | exact n34 | exact n54 | exact n64
theorem t4_could (K : Ca) (kd : Nat → Nat) (nt late : Nat) (told : Bool) (v w : Int32) : (rs_could K kd nt late told v w).2 ≠ 4 := by
  unfold rs_could
  repeat' split
  all_goals first | exact n04 | exact n14 | exact n34 | exact n54 | exact n64
theorem t4_couldTell (K : Ca) (kd : Nat → Nat) (nt late : Nat) (told : Bool) (v w u : Int32) : (rs_couldTell K kd nt late told v w u).2 ≠ 4 := by
  unfold rs_couldTell
  repeat' split
  all_goals first | exact n04 | exact n14 | exact n34 | exact n54 | exact n64
theorem t4_mends (K : Ca) (kd : Nat → Nat) (nt late : Nat) (told : Bool)  : (rs_mends K kd nt late told ).2 ≠ 4 := by
  unfold rs_mends
  repeat' split
  all_goals first | exact n04 | exact n14 | exact n34 | exact n54 | exact n64
theorem t4_each (K : Ca) (kd : Nat → Nat) (nt : Nat) (v : Int32) : (rs_each K kd nt v).2 ≠ 4 := by
  unfold rs_each
  repeat' split
  all_goals first | exact n04 | exact n14 | exact n34
theorem t4_bad (K : Ca) (kd : Nat → Nat) (nt late : Nat) (told : Bool) (v : Int32) : (rs_bad K kd nt late told v).2 ≠ 4 := by
  unfold rs_bad
  split
  · exact n14
  · exact bdl4 _ _ _ _ _ _ _
theorem t4_core (K : Ca) (kd : Nat → Nat) (nt late : Nat) (told : Bool) (v : Int32) : (rs_core K kd nt late told v).2 ≠ 4 := by
  unfold rs_core
  split
  · exact n14
  · exact corr4 _ _ _ _ _
theorem t4_enough (K : Ca) (kd : Nat → Nat) (nt : Nat) (told : Bool) : (rs_enough K kd nt told).2 ≠ 4 := by
  unfold rs_enough
  split
  · exact enl4 _ _ _ _ _
  · exact n14
theorem t4_seed (told : Bool) (v : Int32) : (rs_seed told v).2 ≠ 4 := by
  unfold rs_seed
  repeat' split
  all_goals first | exact n04 | exact n14 | exact n24
end
