section
theorem kArrI {args : Array Value} {s : State} (h : (Cond.arrayClass .int).before args s = true) : ∃ c, ArrOfT s c .int ∧ va_RA s c .int := by
  obtain ⟨c, k, comp, h1, h2, h3⟩ := Cond.arrayClass_spec h
  exact ⟨c, fun n z => ⟨fun k h => (by cases h), k, h2, comp, h3⟩, h1⟩
theorem kArrJ {args : Array Value} {s : State} (h : (Cond.arrayClass .long).before args s = true) : ∃ c, ArrOfT s c .long ∧ va_RA s c .long := by
  obtain ⟨c, k, comp, h1, h2, h3⟩ := Cond.arrayClass_spec h
  exact ⟨c, fun n z => ⟨fun k h => (by cases h), k, h2, comp, h3⟩, h1⟩
theorem kArrZ {args : Array Value} {s : State} (h : (Cond.arrayClass .boolean).before args s = true) : ∃ c, ArrOfT s c .boolean ∧ va_RA s c .boolean := by
  obtain ⟨c, k, comp, h1, h2, h3⟩ := Cond.arrayClass_spec h
  exact ⟨c, fun n z => ⟨fun k h => (by cases h), k, h2, comp, h3⟩, h1⟩
theorem kArrO {args : Array Value} {s : State} (h : (Cond.arrayOver (.object "OneTill$Calls")).before args s = true) : ∃ c, ArrOfT s c (.object "OneTill$Calls") ∧ va_RA s c (.object "OneTill$Calls") := by
  obtain ⟨comp, c, k, f1, f2, f3, f4, f5⟩ := Cond.arrayOver_spec h
  exact ⟨c, fun n z => ⟨fun k h => (by cases h), k, f3, comp, f4⟩, k, comp, f3, f4, f1, f5⟩
def tmS (i : Nat) : Term := .string (siteS.getD i ("", 0, "")).1 (siteS.getD i ("", 0, "")).2.1
/-- the strings by their places, what the tables and the start say of them -/
theorem kSof {args : Array Value} {s : State} {A : Nat → Prop} (hw : ∀ w ∈ flatC (Cond.and given_1 narrow_1), w.before args s = true) (hA : ∀ a : Nat, a < s.heap.size → ¬ A a) :
    ∃ adK adV : Nat → Nat, ∀ i : Nat, i < nS → sOne (lenS.getD i 0) (bytS.getD i []) (adK i) (adV i) A s s.heap ∧ (tmS i).eval args s none [] s = some (.ref (adK i)) := by
  have hex : ∀ i : Nat, i < nS → Cond.exactly (tmS i) "java/lang/String" ∈ flatC (Cond.and given_1 narrow_1) ∧ Cond.eq (.field (tmS i) "java/lang/String" "coder" "B") (.int 0) ∈ flatC (Cond.and given_1 narrow_1) ∧ Cond.arrayOf (.field (tmS i) "java/lang/String" "value" "[B") .byte ∈ flatC (Cond.and given_1 narrow_1) ∧ Cond.eq (.length (.field (tmS i) "java/lang/String" "value" "[B")) (.int (Int32.ofNat (lenS.getD i 0))) ∈ flatC (Cond.and given_1 narrow_1) ∧ lenS.getD i 0 < 2 ^ 31 := by decide +kernel
  have hel : ∀ i : Nat, i < nS → ∀ j : Nat, j < lenS.getD i 0 → Cond.eq (.elem (.field (tmS i) "java/lang/String" "value" "[B") (.int (Int32.ofNat j))) (.int ((bytS.getD i []).getD j 0)) ∈ flatC (Cond.and given_1 narrow_1) := by decide +kernel
  have h0 : ∀ i : Nat, ∃ q : Nat × Nat, i < nS → sOne (lenS.getD i 0) (bytS.getD i []) q.1 q.2 A s s.heap ∧ (tmS i).eval args s none [] s = some (.ref q.1) := by
    intro i
    by_cases hi : i < nS
    · obtain ⟨e1, e2, e3, e4, e5⟩ := hex i hi
      obtain ⟨a, c, cA, kA, q1, q2, q3, q4, q5, q6, -⟩ := Cond.exactly_spec (args := args) (first := s) (o := none) (s := s) (idx := []) (t := tmS i) (cls := "java/lang/String") (hw _ e1)
      obtain ⟨t, ht, hT⟩ := va_Tof (f := fun j => .int ((bytS.getD i []).getD j 0)) (A := A) e5 (hw _ e3) (va_eqt (hw _ e4)) (fun j hj => va_eqt (hw _ (hel i hi j hj))) hA
      exact ⟨(a, t), fun _ => ⟨⟨⟨cA, q3, q5, by rw [q6]; exact q2, hA a (Array.getElem?_eq_some_iff.mp q3).1⟩, vk_OFof q1 (va_eqt (hw _ e2)) hA, vk_OFof q1 ht hA, hT⟩, q1⟩⟩
    · exact ⟨(0, 0), fun h => absurd h hi⟩
  obtain ⟨ad, had⟩ := Classical.axiomOfChoice h0
  exact ⟨fun i => (ad i).1, fun i => (ad i).2, fun i hi => had i hi⟩
theorem site_ref : ∀ i, i < nS → Cond.stringRef (siteS.getD i ("", 0, "")).1 (siteS.getD i ("", 0, "")).2.1 (siteS.getD i ("", 0, "")).2.2 ∈ lw_tbl := by decide +kernel
theorem site_len : siteS.length = nS := by decide
theorem kEof {args : Array Value} {s : State} {A : Nat → Prop} (hw : ∀ w ∈ flatC (Cond.and given_1 narrow_1), w.before args s = true) (hts : ∀ w ∈ lw_tbl, w.before args s = true) (hA : ∀ a : Nat, a < s.heap.size → ¬ A a) : ∃ adK adV : Nat → Nat, eS adK adV A s s.heap := by
  obtain ⟨adK, adV, h⟩ := kSof hw hA
  refine ⟨adK, adV, fun i hi => (h i hi).1, va_Zof (hts _ (by decide +kernel)) (hts _ (by decide +kernel)) (va_eqt (hw (.eq (.static "java/lang/String" "COMPACT_STRINGS" "Z") (.int 1)) (by decide +kernel))) hA, va_Zqof (hts _ (by decide +kernel)) (hts _ (by decide +kernel)) (hw _ (by decide +kernel)) hA, fun i q hq => ?_⟩
  have hi : i < nS := by rw [← site_len]; exact (List.getElem?_eq_some_iff.mp hq).1
  have e : siteS.getD i ("", 0, "") = q := by rw [List.getD_eq_getElem?_getD, hq]; rfl
  have h1 := hts _ (site_ref i hi)
  have h2 := (h i hi).2
  unfold tmS at h2
  rw [e] at h1 h2
  exact vk_R.of h1 h2
theorem kXof {args : Array Value} {s : State} {A : Nat → Prop} (hw : ∀ w ∈ flatC (Cond.and given_1 narrow_1), w.before args s = true) (hts : ∀ w ∈ lw_tbl, w.before args s = true) (hA : ∀ a : Nat, a < s.heap.size → ¬ A a) : ∃ sN : Nat, xS sN A s s.heap := by
  obtain ⟨a, c, cA, kA, q1, q2, q3, q4, q5, q6, -⟩ := Cond.exactly_spec (args := args) (first := s) (o := none) (s := s) (idx := []) (t := .string RX9 219) (cls := "java/lang/String") (hw _ (by decide +kernel))
  exact ⟨a, vk_R.of (hts _ (by decide +kernel)) q1, vx_Zqof (hts _ (by decide +kernel)) (hts _ (by decide +kernel)) (hw _ (by decide +kernel)) hA, vx_Zqof (hts _ (by decide +kernel)) (hts _ (by decide +kernel)) (hw _ (by decide +kernel)) hA,
    (hts _ (by decide +kernel) : (Cond.declares (xi "java/lang/RuntimeException")).before args s = true), (hts _ (by decide +kernel) : (Cond.declares (xi "java/lang/Exception")).before args s = true), (hts _ (by decide +kernel) : (Cond.declares (xi "java/lang/Throwable")).before args s = true), (hts _ (by decide +kernel) : (Cond.castable xCls xCls).before args s = true)⟩
end
