section
theorem site_ref : ∀ i, i < nS → Cond.stringRef (siteS.getD i ("", 0, "")).1 (siteS.getD i ("", 0, "")).2.1 (siteS.getD i ("", 0, "")).2.2 ∈ lw_tbl := by decide +kernel
theorem site_len : siteS.length = nS := by decide
theorem kEof {args : Array Value} {s : State} {A : Nat → Prop} (hw : ∀ w ∈ flatC (Cond.and given_1 narrow_1), w.before args s = true) (hts : ∀ w ∈ lw_tbl, w.before args s = true) (hA : ∀ a : Nat, a < s.heap.size → ¬ A a) : ∃ adK adV : Nat → Nat, eS adK adV A s s.heap := by
  obtain ⟨adK, adV, h⟩ := kSof hw hA
  refine ⟨adK, adV, fun i hi => (h i hi).1, va_Zof (hts _ (by decide +kernel)) (hts _ (by decide +kernel)) (va_eqt (hw (.eq (.static "java/lang/String" "COMPACT_STRINGS" "Z") (.int 1)) (by decide +kernel))) hA, va_Zqof (hts _ (by decide +kernel)) (hts _ (by decide +kernel)) (hw _ (by decide +kernel)) hA, fun i q hq => ?_⟩
  have hi : i < nS := by rw [← site_len]; exact (List.getElem?_eq_some_iff.mp hq).1
  have e : siteS.getD i ("", 0, "") = q := by rw [List.getD_eq_getElem?_getD, hq]; rfl
  have h1 := hts _ (site_ref i hi)
  have h2 := (h i hi).2
  unfold tmS at h2
  rw [e] at h1 h2
  exact vk_R.of h1 h2
end
