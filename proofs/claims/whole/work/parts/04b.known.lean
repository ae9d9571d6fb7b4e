section
theorem kArrI {args : Array Value} {s : State} (h : (Cond.arrayClass .int).before args s = true) : ∃ c, ArrOfT s c .int ∧ va_RA s c .int := by
  obtain ⟨c, k, comp, h1, h2, h3⟩ := Cond.arrayClass_spec h
  exact ⟨c, fun n z => ⟨fun k h => (by cases h), k, h2, comp, h3⟩, h1⟩
theorem kArrJ {args : Array Value} {s : State} (h : (Cond.arrayClass .long).before args s = true) : ∃ c, ArrOfT s c .long ∧ va_RA s c .long := by
  obtain ⟨c, k, comp, h1, h2, h3⟩ := Cond.arrayClass_spec h
  exact ⟨c, fun n z => ⟨fun k h => (by cases h), k, h2, comp, h3⟩, h1⟩
theorem kArrZ {args : Array Value} {s : State} (h : (Cond.arrayClass .boolean).before args s = true) : ∃ c, ArrOfT s c .boolean ∧ va_RA s c .boolean := by
  obtain ⟨c, k, comp, h1, h2, h3⟩ := Cond.arrayClass_spec h
  exact ⟨c, fun n z => ⟨fun k h => (by cases h), k, h2, comp, h3⟩, h1⟩
theorem kArrO {args : Array Value} {s : State} (h : (Cond.arrayOver (.object "OneTill$Calls")).before args s = true) : ∃ c, ArrOfT s c (.object "OneTill$Calls") ∧ va_RA s c (.object "OneTill$Calls") := by
  obtain ⟨comp, c, k, f1, f2, f3, f4, f5⟩ := Cond.arrayOver_spec h
  exact ⟨c, fun n z => ⟨fun k h => (by cases h), k, f3, comp, f4⟩, k, comp, f3, f4, f1, f5⟩
def tmS (i : Nat) : Term := .string (siteS.getD i ("", 0, "")).1 (siteS.getD i ("", 0, "")).2.1
/-- where each string's words begin among the words of the start -/
def posS : List Nat := [21, 28, 36, 44, 52, 61, 72, 80, 88, 94, 104, 113, 120, 131, 141, 153, 162, 169, 177, 184, 193, 201, 207, 236, 245, 254, 264, 277, 287, 297, 304, 315, 325, 333, 345, 356, 364, 373, 381, 390, 397]
theorem sit_ok : ∀ i : Nat, i < nS → (flatC (Cond.and given_1 narrow_1))[posS.getD i 0]? = some (Cond.exactly (tmS i) "java/lang/String") ∧ (flatC (Cond.and given_1 narrow_1))[posS.getD i 0 + 1]? = some (Cond.eq (.field (tmS i) "java/lang/String" "coder" "B") (.int 0)) ∧ (flatC (Cond.and given_1 narrow_1))[posS.getD i 0 + 2]? = some (Cond.arrayOf (.field (tmS i) "java/lang/String" "value" "[B") .byte) ∧ (flatC (Cond.and given_1 narrow_1))[posS.getD i 0 + 3]? = some (Cond.eq (.length (.field (tmS i) "java/lang/String" "value" "[B")) (.int (Int32.ofNat (lenS.getD i 0)))) ∧ lenS.getD i 0 < 2 ^ 31 := by decide +kernel
theorem sit_el : ∀ i : Nat, i < nS → ∀ j : Nat, j < lenS.getD i 0 → (flatC (Cond.and given_1 narrow_1))[posS.getD i 0 + 4 + j]? = some (Cond.eq (.elem (.field (tmS i) "java/lang/String" "value" "[B") (.int (Int32.ofNat j))) (.int ((bytS.getD i []).getD j 0))) := by decide +kernel
/-- the strings by their places, what the tables and the start say of them -/
theorem kSof {args : Array Value} {s : State} {A : Nat → Prop} (hw : ∀ w ∈ flatC (Cond.and given_1 narrow_1), w.before args s = true) (hA : ∀ a : Nat, a < s.heap.size → ¬ A a) :
    ∃ adK adV : Nat → Nat, ∀ i : Nat, i < nS → sOne (lenS.getD i 0) (bytS.getD i []) (adK i) (adV i) A s s.heap ∧ (tmS i).eval args s none [] s = some (.ref (adK i)) := by
  have h0 : ∀ i : Nat, ∃ q : Nat × Nat, i < nS → sOne (lenS.getD i 0) (bytS.getD i []) q.1 q.2 A s s.heap ∧ (tmS i).eval args s none [] s = some (.ref q.1) := by
    intro i
    by_cases hi : i < nS
    · obtain ⟨f1, f2, f3, f4, e5⟩ := sit_ok i hi
      have e1 := List.mem_of_getElem? f1
      have e2 := List.mem_of_getElem? f2
      have e3 := List.mem_of_getElem? f3
      have e4 := List.mem_of_getElem? f4
      obtain ⟨a, c, cA, kA, q1, q2, q3, q4, q5, q6, -⟩ := Cond.exactly_spec (args := args) (first := s) (o := none) (s := s) (idx := []) (t := tmS i) (cls := "java/lang/String") (hw _ e1)
      obtain ⟨t, ht, hT⟩ := va_Tof (f := fun j => .int ((bytS.getD i []).getD j 0)) (A := A) e5 (hw _ e3) (va_eqt (hw _ e4)) (fun j hj => va_eqt (hw _ (List.mem_of_getElem? (sit_el i hi j hj)))) hA
      exact ⟨(a, t), fun _ => ⟨⟨⟨cA, q3, q5, by rw [q6]; exact q2, hA a (Array.getElem?_eq_some_iff.mp q3).1⟩, vk_OFof q1 (va_eqt (hw _ e2)) hA, vk_OFof q1 ht hA, hT⟩, q1⟩⟩
    · exact ⟨(0, 0), fun h => absurd h hi⟩
  obtain ⟨ad, had⟩ := Classical.axiomOfChoice h0
  exact ⟨fun i => (ad i).1, fun i => (ad i).2, fun i hi => had i hi⟩
end
