section
theorem kXof {args : Array Value} {s : State} {A : Nat → Prop} (hw : ∀ w ∈ flatC (Cond.and given_1 narrow_1), w.before args s = true) (hts : ∀ w ∈ lw_tbl, w.before args s = true) (hA : ∀ a : Nat, a < s.heap.size → ¬ A a) : ∃ sN : Nat, xS sN A s s.heap := by
  obtain ⟨a, c, cA, kA, q1, q2, q3, q4, q5, q6, -⟩ := Cond.exactly_spec (args := args) (first := s) (o := none) (s := s) (idx := []) (t := .string RX9 219) (cls := "java/lang/String") (hw _ (by decide +kernel))
  exact ⟨a, vk_R.of (hts _ (by decide +kernel)) q1, vx_Zqof (hts _ (by decide +kernel)) (hts _ (by decide +kernel)) (hw _ (by decide +kernel)) hA, vx_Zqof (hts _ (by decide +kernel)) (hts _ (by decide +kernel)) (hw _ (by decide +kernel)) hA,
    (hts _ (by decide +kernel) : (Cond.declares (xi "java/lang/RuntimeException")).before args s = true), (hts _ (by decide +kernel) : (Cond.declares (xi "java/lang/Exception")).before args s = true), (hts _ (by decide +kernel) : (Cond.declares (xi "java/lang/Throwable")).before args s = true), (hts _ (by decide +kernel) : (Cond.castable xCls xCls).before args s = true)⟩
end
