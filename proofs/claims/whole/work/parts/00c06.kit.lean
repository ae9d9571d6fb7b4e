theorem gi_pay {w : Cond} {ws : List Cond} (h : ∀ x ∈ ws, x ∈ gW) : GoodIn gW ws := fun x hx => ⟨h x hx, gW_good x (h x hx)⟩
theorem gi_code {w : Cond} (h : w ∈ gW) : GoodIn gW (w :: gW) := gi_pay (w := w) (fun x hx => by
  rcases List.mem_cons.mp hx with rfl | hx
  · exact h
  · exact hx)
theorem gi_V {own C : String} {idx n : Nat} {y : MethodName} {cc : ByteArray} {ret : Option FieldType} (h1 : Cond.methodLink own idx y ∈ gW) (h2 : Cond.instanceMethod y ∈ gW) (h3 : Cond.selects C y y ∈ gW) (h4 : Cond.initialized C ∈ gW) (h5 : Cond.code y cc n ret ∈ gW) : GoodIn gW (wsV own idx C y (.code y cc n ret :: gW)) := gi_pay (w := .initialized C) (fun x hx => by
  unfold wsV at hx
  rcases List.mem_append.mp hx with hx | hx
  · simp only [List.mem_cons, List.not_mem_nil, or_false] at hx
    rcases hx with rfl | rfl | rfl | rfl <;> assumption
  · rcases List.mem_cons.mp hx with rfl | hx
    · exact h5
    · exact hx)
theorem gi_S {own : String} {idx n : Nat} {y : MethodName} {cc : ByteArray} {ret : Option FieldType} (h1 : Cond.methodLink own idx y ∈ gW) (h2 : Cond.static y ∈ gW) (h4 : Cond.initialized y.cls ∈ gW) (h5 : Cond.code y cc n ret ∈ gW) : GoodIn gW (va_wsS own idx y (.code y cc n ret :: gW)) := gi_pay (w := .static y) (fun x hx => by
  unfold va_wsS at hx
  rcases List.mem_append.mp hx with hx | hx
  · simp only [List.mem_cons, List.not_mem_nil, or_false] at hx
    rcases hx with rfl | rfl | rfl <;> assumption
  · rcases List.mem_cons.mp hx with rfl | hx
    · exact h5
    · exact hx)
/-- pure rows: the roads of a branch, a guard, a bind -/
theorem t_pos {α : Type} {c : Prop} [Decidable c] {a b z : α} (h : c) (e : (if c then a else b) = z) : a = z := (if_pos h).symm.trans e
theorem t_neg {α : Type} {c : Prop} [Decidable c] {a b z : α} (h : ¬ c) (e : (if c then a else b) = z) : b = z := (if_neg h).symm.trans e
theorem t_grd {α : Type} {c : Prop} [Decidable c] {a : Option α} {z : α} (e : (if c then none else a) = some z) : ¬ c ∧ a = some z := by
  by_cases h : c
  · rw [if_pos h] at e; cases e
  · rw [if_neg h] at e; exact ⟨h, e⟩
abbrev wT (cyI cyJ cyZ cyO : ClassId) : List (ClassId × FieldType) := [(cyI, .int), (cyJ, .long), (cyZ, .boolean), (cyO, .object "OneTill$Calls")]
theorem nar_z {x : Int32} (h : ¬ ¬ (x = 0 ∨ x = 1)) : narrow .boolean (.int x) = .int x := by
  rcases Decidable.not_not.mp h with rfl | rfl <;> rfl
theorem fit_z {x : Int32} (h : ¬ ¬ (x = 0 ∨ x = 1)) : fits .boolean (.int x) = true := by
  rcases Decidable.not_not.mp h with rfl | rfl <;> rfl
theorem sw_out {lo hi : Int} {x : Int32} (h0 : -2147483648 ≤ lo) (h9 : hi < 2147483648) (h : ∀ k : Int, lo ≤ k → k ≤ hi → ¬ x = Int32.ofInt k) : x.toInt < lo ∨ hi < x.toInt := by
  by_cases q : x.toInt < lo
  · exact Or.inl q
  · by_cases r : hi < x.toInt
    · exact Or.inr r
    · exact absurd (Int32.ofInt_toInt x).symm (h x.toInt (by omega) (by omega))
theorem va_D_fst {A : Nat → Prop} {ws ws' : va_W} (h : va_D A ws) (he : ws'.map Prod.fst = ws.map Prod.fst) : va_D A ws' := by
  have at1 : ∀ (k : Nat) (q : Nat × va_E), ws'[k]? = some q → ∃ r : Nat × va_E, ws[k]? = some r ∧ r.1 = q.1 := by
    intro k q hq
    have h1 : (ws'.map Prod.fst)[k]? = some q.1 := by rw [List.getElem?_map, hq]; rfl
    rw [he, List.getElem?_map] at h1
    cases hr : ws[k]? with
    | none => rw [hr] at h1; cases h1
    | some r => rw [hr] at h1; exact ⟨r, rfl, Option.some.inj h1⟩
  refine ⟨fun i j p q hp hq hpq => ?_, fun k q hq => ?_⟩
  · obtain ⟨r1, a1, b1⟩ := at1 i p hp
    obtain ⟨r2, a2, b2⟩ := at1 j q hq
    exact h.1 i j r1 r2 a1 a2 (by rw [b1, b2, hpq])
  · obtain ⟨r, a, b⟩ := at1 k q hq
    rw [← b]
    exact h.2 k r a
def mB (D : va_G) (tys : List (ClassId × FieldType)) (A : Nat → Prop) (ws : va_W) (t : State) : Prop := va_P D vwCl ws t.heap ∧ va_K D vwCl tys t ∧ va_D A ws
def mPc (D : va_G) (tys : List (ClassId × FieldType)) (As : List Value) (sz : Nat) (ws : va_W) : Array Value → State → Prop := va_Pc As (fun U => U.heap.size = sz ∧ va_P D vwCl ws U.heap ∧ va_K D vwCl tys U ∧ va_D (fun _ => True) ws)
theorem mPc_blind {D : va_G} {tys : List (ClassId × FieldType)} {As : List Value} {sz : Nat} {ws : va_W} : FrameBlind (mPc D tys As sz ws) := fun a U g mk q => ⟨q.1, q.2.1, q.2.2.1, va_K.moved (u := U) (U := U.calling g mk a) (Vm.Alike.refl U.vm) q.2.2.2.1, q.2.2.2.2⟩
/-- contracts: what is answered is known, what the cells are then is known; nothing is made -/
def mI (l : Launch) (y : MethodName) (cc : ByteArray) (n : Nat) (ret : Option FieldType) (rm : Room) (D : va_G) (tys : List (ClassId × FieldType)) (As : List Value) (sz : Nat) (ws : va_W) (r0 : Int32) (w1 : va_W) : Prop :=
  Met l y (.code y cc n ret :: gW) rm (mPc D tys As sz ws) (va_Qi (fun (r : Int32) (_ : Unit) => r = r0) (fun _ => mB D tys (va_A ws sz) w1) (va_A ws sz)) 0 0 (va_A ws sz)
def mL (l : Launch) (y : MethodName) (cc : ByteArray) (n : Nat) (ret : Option FieldType) (rm : Room) (D : va_G) (tys : List (ClassId × FieldType)) (As : List Value) (sz : Nat) (ws : va_W) (r0 : Int64) (w1 : va_W) : Prop :=
  Met l y (.code y cc n ret :: gW) rm (mPc D tys As sz ws) (va_Ql (fun (r : Int64) (_ : Unit) => r = r0) (fun _ => mB D tys (va_A ws sz) w1) (va_A ws sz)) 0 0 (va_A ws sz)
def mV (l : Launch) (y : MethodName) (cc : ByteArray) (n : Nat) (ret : Option FieldType) (rm : Room) (D : va_G) (tys : List (ClassId × FieldType)) (As : List Value) (sz : Nat) (ws : va_W) (w1 : va_W) : Prop :=
  Met l y (.code y cc n ret :: gW) rm (mPc D tys As sz ws) (va_Qv (fun (_ : Unit) => True) (fun _ => mB D tys (va_A ws sz) w1) (va_A ws sz)) 0 0 (va_A ws sz)
section KK
variable {p : Program} {l : Launch} {e : Env} {R : Room} {s : State} {m : MethodId} {args : Array Value} {below : List Frame} {meth : Method} {c : Code} {H H0 H1 : Heap} {locs : List Loc} {cells slots : Nat} {Q : State → Prop} {A : Nat → Prop} {D : va_G} {tys : List (ClassId × FieldType)} {ws wc w1 ws' : va_W} {cc : ByteArray} {pc nL : Nat} {ls : Array Slot} {rest st0 As : List Value}
def kcov (n : Nat) (isC isR : List Nat) : Bool := (List.range n).all (fun k => isC.contains k || (isR.contains k && !isC.contains k))
theorem kat {is : List Nat} {ws wc : va_W} (hC : is.map (fun i => ws[i]?) = wc.map some) {j i : Nat} (hi : is[j]? = some i) : ∃ x : Nat × va_E, wc[j]? = some x ∧ ws[i]? = some x := by
  have h1 : (is.map (fun i => ws[i]?))[j]? = some (ws[i]?) := by rw [List.getElem?_map, hi]; rfl
  rw [hC, List.getElem?_map] at h1
  cases hx : wc[j]? with
  | none => rw [hx] at h1; cases h1
  | some x => rw [hx] at h1; exact ⟨x, rfl, (Option.some.inj h1).symm⟩
theorem kset_join (hP : va_P D vwCl ws H) (hD : va_D A ws) (isC isR : List Nat) (n : Nat) (hC : isC.map (fun i => ws[i]?) = wc.map some) (hC1 : isC.map (fun i => ws'[i]?) = w1.map some) (hR : isR.map (fun i => ws'[i]?) = isR.map (fun i => ws[i]?)) (hn : ws'.length = n) (hcov : kcov n isC isR = true) (hk : ∀ q : Nat, q < H.size → ¬ va_A wc H.size q → H1[q]? = H[q]?) (hP1 : va_P D vwCl w1 H1) : va_P D vwCl ws' H1 := by
  intro k x hx
  have hlt : k < n := by rw [← hn]; exact (List.getElem?_eq_some_iff.mp hx).1
  have hc := List.all_eq_true.mp hcov k (List.mem_range.mpr hlt)
  rcases Bool.or_eq_true _ _ ▸ hc with h1 | h1
  · obtain ⟨j, hj⟩ := List.mem_iff_getElem?.mp (List.contains_iff_mem.mp h1)
    obtain ⟨y, h2, h3⟩ := kat hC1 hj
    rw [hx] at h3
    cases h3
    exact hP1 j x h2
  · have h1 := (Bool.and_eq_true _ _ ▸ h1)
    obtain ⟨j, hj⟩ := List.mem_iff_getElem?.mp (List.contains_iff_mem.mp h1.1)
    have hnc : k ∉ isC := fun hm => by
      have h2 := h1.2
      simp at h2
      exact h2 hm
    have h5 : (isR.map (fun i => ws'[i]?))[j]? = some (ws'[k]?) := by rw [List.getElem?_map, hj]; rfl
    rw [hR, List.getElem?_map, hj] at h5
    have h6 : ws[k]? = some x := (Option.some.inj h5).trans hx
    refine (hP k x h6).kept (hk x.1 (hP k x h6).lt ?_)
    intro hA
    rcases hA with ⟨i, e, hi⟩ | hA
    · have hm : (wc.map some)[i]? = some (some (x.1, e)) := by rw [List.getElem?_map, hi]; rfl
      rw [← hC, List.getElem?_map] at hm
      cases hi' : isC[i]? with
      | none => rw [hi'] at hm; cases hm
      | some i2 =>
        rw [hi'] at hm
        have hwi : ws[i2]? = some (x.1, e) := Option.some.inj hm
        have := hD.1 i2 k (x.1, e) x hwi h6 rfl
        subst this
        exact hnc (List.mem_of_getElem? hi')
    · have := (hP k x h6).lt
      omega
theorem kcut_P (hP : va_P D vwCl ws H) (isC : List Nat) (hC : isC.map (fun i => ws[i]?) = wc.map some) : va_P D vwCl wc H := by
  intro k x hx
  have h1 : (isC.map (fun i => ws[i]?))[k]? = some (some x) := by rw [hC, List.getElem?_map, hx]; rfl
  rw [List.getElem?_map] at h1
  cases hi : isC[k]? with
  | none => rw [hi] at h1; cases h1
  | some i => rw [hi] at h1; exact hP i x (Option.some.inj h1)
/-- calls of an instance method that is ours -/
theorem kVi {b ci index n mL' : Nat} {y : MethodName} {by' : ByteArray} {ret : Option FieldType} {rm : Room} {own C : String} {T : u_T} {N : Nat} {fs : List Value} {r0 : Int32} (S : CallFix p m c cc nL s args gW own) (hK : va_K D vwCl tys s) (hP : va_P D vwCl ws H) (hD : va_D A ws) (hS : va_S A H0 H locs) (hA : ∀ q, H0.size ≤ q → A q)
    (hM : mI l y by' mL' ret rm D tys (.ref b :: As) H.size wc r0 w1) (cw : CallW R s args own C index y by' mL' ret (.code y by' mL' ret :: gW) rm 0 0 n) (q0 : Nat) (hrecv : ws[q0]? = some (b, .inr (ci, fs))) (hcl : vwCl[ci]? = some (C, T, N)) (isC isR : List Nat) (nw : Nat) (hC : isC.map (fun i => ws[i]?) = wc.map some) (hnd : va_nd isC = true) (hC1 : isC.map (fun i => ws'[i]?) = w1.map some) (wr : va_W) (ads : List Nat) (hR : isR.map (fun i => ws'[i]?) = wr.map some) (hR0 : isR.map (fun i => ws[i]?) = wr.map some) (hnw : ws'.length = nw) (hcov : kcov nw isC isR = true) (hAd : ws'.map Prod.fst = ads) (hAd0 : ws.map Prod.fst = ads)
    (hn : As.length = n) (hsize : ls.size = nL) (hst : st0 = As.reverse ++ .ref b :: rest) (hroom : (rest.map fun v => v.category).sum ≤ 8) (hdg : decode cc pc = .ok (.invokevirtual index, 3)) (hcs : cells + 0 ≤ R.cells ∧ slots + 0 ≤ R.slots)
    (kk : ∀ (H1 : Heap) (locs1 : List Loc), va_P D vwCl ws' H1 → va_D A ws' → va_S A H0 H1 locs1 → W p l e R s m args below meth c H1 locs1 cells slots Q (F0 m (pc + 3) ls (.int r0 :: rest))) : W p l e R s m args below meth c H locs cells slots Q (F0 m pc ls st0) := by
  have hPc := kcut_P hP isC hC
  have hDc := hD.sub isC hnd hC
  have hFc := va_free hD hS hA isC hC
  refine va_calli (va_runV S hM cw ⟨mPc_blind, va_recv hK hP hcl hrecv, fun U hU hWm => ⟨rfl, by rw [hU], by rw [hU]; exact hPc, va_K.moved hWm.alike hK, hDc.weaken (fun _ _ _ _ => trivial)⟩⟩ rfl hn hsize hst (lv_room hroom) hdg hcs) hS (fun q _ h => hFc q h) hFc (fun r u t H1 locs1 ht hvm hw hB hz1 hk1 hS1 => ?_)
  subst hw
  subst ht
  exact kk t.heap locs1 (kset_join hP hD isC isR nw hC hC1 (hR.trans hR0.symm) hnw hcov hk1 hB.1) (va_D_fst hD (hAd.trans hAd0.symm)) hS1
theorem kVl {b ci index n mL' : Nat} {y : MethodName} {by' : ByteArray} {ret : Option FieldType} {rm : Room} {own C : String} {T : u_T} {N : Nat} {fs : List Value} {r0 : Int64} (S : CallFix p m c cc nL s args gW own) (hK : va_K D vwCl tys s) (hP : va_P D vwCl ws H) (hD : va_D A ws) (hS : va_S A H0 H locs) (hA : ∀ q, H0.size ≤ q → A q)
    (hM : mL l y by' mL' ret rm D tys (.ref b :: As) H.size wc r0 w1) (cw : CallW R s args own C index y by' mL' ret (.code y by' mL' ret :: gW) rm 0 0 n) (q0 : Nat) (hrecv : ws[q0]? = some (b, .inr (ci, fs))) (hcl : vwCl[ci]? = some (C, T, N)) (isC isR : List Nat) (nw : Nat) (hC : isC.map (fun i => ws[i]?) = wc.map some) (hnd : va_nd isC = true) (hC1 : isC.map (fun i => ws'[i]?) = w1.map some) (wr : va_W) (ads : List Nat) (hR : isR.map (fun i => ws'[i]?) = wr.map some) (hR0 : isR.map (fun i => ws[i]?) = wr.map some) (hnw : ws'.length = nw) (hcov : kcov nw isC isR = true) (hAd : ws'.map Prod.fst = ads) (hAd0 : ws.map Prod.fst = ads)
    (hn : As.length = n) (hsize : ls.size = nL) (hst : st0 = As.reverse ++ .ref b :: rest) (hroom : (rest.map fun v => v.category).sum ≤ 8) (hdg : decode cc pc = .ok (.invokevirtual index, 3)) (hcs : cells + 0 ≤ R.cells ∧ slots + 0 ≤ R.slots)
    (kk : ∀ (H1 : Heap) (locs1 : List Loc), va_P D vwCl ws' H1 → va_D A ws' → va_S A H0 H1 locs1 → W p l e R s m args below meth c H1 locs1 cells slots Q (F0 m (pc + 3) ls (.long r0 :: rest))) : W p l e R s m args below meth c H locs cells slots Q (F0 m pc ls st0) := by
  have hPc := kcut_P hP isC hC
  have hDc := hD.sub isC hnd hC
  have hFc := va_free hD hS hA isC hC
  refine va_calll (va_runV S hM cw ⟨mPc_blind, va_recv hK hP hcl hrecv, fun U hU hWm => ⟨rfl, by rw [hU], by rw [hU]; exact hPc, va_K.moved hWm.alike hK, hDc.weaken (fun _ _ _ _ => trivial)⟩⟩ rfl hn hsize hst (lv_room hroom) hdg hcs) hS (fun q _ h => hFc q h) hFc (fun r u t H1 locs1 ht hvm hw hB hz1 hk1 hS1 => ?_)
  subst hw
  subst ht
  exact kk t.heap locs1 (kset_join hP hD isC isR nw hC hC1 (hR.trans hR0.symm) hnw hcov hk1 hB.1) (va_D_fst hD (hAd.trans hAd0.symm)) hS1
theorem kVv {b ci index n mL' : Nat} {y : MethodName} {by' : ByteArray} {ret : Option FieldType} {rm : Room} {own C : String} {T : u_T} {N : Nat} {fs : List Value} (S : CallFix p m c cc nL s args gW own) (hK : va_K D vwCl tys s) (hP : va_P D vwCl ws H) (hD : va_D A ws) (hS : va_S A H0 H locs) (hA : ∀ q, H0.size ≤ q → A q)
    (hM : mV l y by' mL' ret rm D tys (.ref b :: As) H.size wc w1) (cw : CallW R s args own C index y by' mL' ret (.code y by' mL' ret :: gW) rm 0 0 n) (q0 : Nat) (hrecv : ws[q0]? = some (b, .inr (ci, fs))) (hcl : vwCl[ci]? = some (C, T, N)) (isC isR : List Nat) (nw : Nat) (hC : isC.map (fun i => ws[i]?) = wc.map some) (hnd : va_nd isC = true) (hC1 : isC.map (fun i => ws'[i]?) = w1.map some) (wr : va_W) (ads : List Nat) (hR : isR.map (fun i => ws'[i]?) = wr.map some) (hR0 : isR.map (fun i => ws[i]?) = wr.map some) (hnw : ws'.length = nw) (hcov : kcov nw isC isR = true) (hAd : ws'.map Prod.fst = ads) (hAd0 : ws.map Prod.fst = ads)
    (hn : As.length = n) (hsize : ls.size = nL) (hst : st0 = As.reverse ++ .ref b :: rest) (hroom : (rest.map fun v => v.category).sum ≤ 8) (hdg : decode cc pc = .ok (.invokevirtual index, 3)) (hcs : cells + 0 ≤ R.cells ∧ slots + 0 ≤ R.slots)
    (kk : ∀ (H1 : Heap) (locs1 : List Loc), va_P D vwCl ws' H1 → va_D A ws' → va_S A H0 H1 locs1 → W p l e R s m args below meth c H1 locs1 cells slots Q (F0 m (pc + 3) ls rest)) : W p l e R s m args below meth c H locs cells slots Q (F0 m pc ls st0) := by
  have hPc := kcut_P hP isC hC
  have hDc := hD.sub isC hnd hC
  have hFc := va_free hD hS hA isC hC
  refine va_callv (va_runV S hM cw ⟨mPc_blind, va_recv hK hP hcl hrecv, fun U hU hWm => ⟨rfl, by rw [hU], by rw [hU]; exact hPc, va_K.moved hWm.alike hK, hDc.weaken (fun _ _ _ _ => trivial)⟩⟩ rfl hn hsize hst (lv_room hroom) hdg hcs) hS (fun q _ h => hFc q h) hFc (fun u t H1 locs1 ht hvm hw hB hz1 hk1 hS1 => ?_)
  subst ht
  exact kk t.heap locs1 (kset_join hP hD isC isR nw hC hC1 (hR.trans hR0.symm) hnw hcov hk1 hB.1) (va_D_fst hD (hAd.trans hAd0.symm)) hS1
/-- calls of a static method -/
theorem kSi {index n mL' : Nat} {y : MethodName} {by' : ByteArray} {ret : Option FieldType} {rm : Room} {own : String} {r0 : Int32} (S : CallFix p m c cc nL s args gW own) (hK : va_K D vwCl tys s) (hP : va_P D vwCl ws H) (hD : va_D A ws) (hS : va_S A H0 H locs) (hA : ∀ q, H0.size ≤ q → A q)
    (hM : mI l y by' mL' ret rm D tys As H.size wc r0 w1) (cw : CallB R s args own index y by' mL' ret (.code y by' mL' ret :: gW) rm 0 0 n ∧ (Cond.static y).before args s = true) (isC isR : List Nat) (nw : Nat) (hC : isC.map (fun i => ws[i]?) = wc.map some) (hnd : va_nd isC = true) (hC1 : isC.map (fun i => ws'[i]?) = w1.map some) (wr : va_W) (ads : List Nat) (hR : isR.map (fun i => ws'[i]?) = wr.map some) (hR0 : isR.map (fun i => ws[i]?) = wr.map some) (hnw : ws'.length = nw) (hcov : kcov nw isC isR = true) (hAd : ws'.map Prod.fst = ads) (hAd0 : ws.map Prod.fst = ads)
    (hn : As.length = n) (hsize : ls.size = nL) (hst : st0 = As.reverse ++ rest) (hroom : (rest.map fun v => v.category).sum ≤ 8) (hdg : decode cc pc = .ok (.invokestatic index, 3)) (hcs : cells + 0 ≤ R.cells ∧ slots + 0 ≤ R.slots)
    (kk : ∀ (H1 : Heap) (locs1 : List Loc), va_P D vwCl ws' H1 → va_D A ws' → va_S A H0 H1 locs1 → W p l e R s m args below meth c H1 locs1 cells slots Q (F0 m (pc + 3) ls (.int r0 :: rest))) : W p l e R s m args below meth c H locs cells slots Q (F0 m pc ls st0) := by
  have hPc := kcut_P hP isC hC
  have hDc := hD.sub isC hnd hC
  have hFc := va_free hD hS hA isC hC
  refine va_calli (va_runS S hM cw ⟨mPc_blind, fun U hU hWm => ⟨rfl, by rw [hU], by rw [hU]; exact hPc, va_K.moved hWm.alike hK, hDc.weaken (fun _ _ _ _ => trivial)⟩⟩ rfl hn hsize hst (lv_room hroom) hdg hcs) hS (fun q _ h => hFc q h) hFc (fun r u t H1 locs1 ht hvm hw hB hz1 hk1 hS1 => ?_)
  subst hw
  subst ht
  exact kk t.heap locs1 (kset_join hP hD isC isR nw hC hC1 (hR.trans hR0.symm) hnw hcov hk1 hB.1) (va_D_fst hD (hAd.trans hAd0.symm)) hS1
theorem kSl {index n mL' : Nat} {y : MethodName} {by' : ByteArray} {ret : Option FieldType} {rm : Room} {own : String} {r0 : Int64} (S : CallFix p m c cc nL s args gW own) (hK : va_K D vwCl tys s) (hP : va_P D vwCl ws H) (hD : va_D A ws) (hS : va_S A H0 H locs) (hA : ∀ q, H0.size ≤ q → A q)
    (hM : mL l y by' mL' ret rm D tys As H.size wc r0 w1) (cw : CallB R s args own index y by' mL' ret (.code y by' mL' ret :: gW) rm 0 0 n ∧ (Cond.static y).before args s = true) (isC isR : List Nat) (nw : Nat) (hC : isC.map (fun i => ws[i]?) = wc.map some) (hnd : va_nd isC = true) (hC1 : isC.map (fun i => ws'[i]?) = w1.map some) (wr : va_W) (ads : List Nat) (hR : isR.map (fun i => ws'[i]?) = wr.map some) (hR0 : isR.map (fun i => ws[i]?) = wr.map some) (hnw : ws'.length = nw) (hcov : kcov nw isC isR = true) (hAd : ws'.map Prod.fst = ads) (hAd0 : ws.map Prod.fst = ads)
    (hn : As.length = n) (hsize : ls.size = nL) (hst : st0 = As.reverse ++ rest) (hroom : (rest.map fun v => v.category).sum ≤ 8) (hdg : decode cc pc = .ok (.invokestatic index, 3)) (hcs : cells + 0 ≤ R.cells ∧ slots + 0 ≤ R.slots)
    (kk : ∀ (H1 : Heap) (locs1 : List Loc), va_P D vwCl ws' H1 → va_D A ws' → va_S A H0 H1 locs1 → W p l e R s m args below meth c H1 locs1 cells slots Q (F0 m (pc + 3) ls (.long r0 :: rest))) : W p l e R s m args below meth c H locs cells slots Q (F0 m pc ls st0) := by
  have hPc := kcut_P hP isC hC
  have hDc := hD.sub isC hnd hC
  have hFc := va_free hD hS hA isC hC
  refine va_calll (va_runS S hM cw ⟨mPc_blind, fun U hU hWm => ⟨rfl, by rw [hU], by rw [hU]; exact hPc, va_K.moved hWm.alike hK, hDc.weaken (fun _ _ _ _ => trivial)⟩⟩ rfl hn hsize hst (lv_room hroom) hdg hcs) hS (fun q _ h => hFc q h) hFc (fun r u t H1 locs1 ht hvm hw hB hz1 hk1 hS1 => ?_)
  subst hw
  subst ht
  exact kk t.heap locs1 (kset_join hP hD isC isR nw hC hC1 (hR.trans hR0.symm) hnw hcov hk1 hB.1) (va_D_fst hD (hAd.trans hAd0.symm)) hS1
theorem kSv {index n mL' : Nat} {y : MethodName} {by' : ByteArray} {ret : Option FieldType} {rm : Room} {own : String} (S : CallFix p m c cc nL s args gW own) (hK : va_K D vwCl tys s) (hP : va_P D vwCl ws H) (hD : va_D A ws) (hS : va_S A H0 H locs) (hA : ∀ q, H0.size ≤ q → A q)
    (hM : mV l y by' mL' ret rm D tys As H.size wc w1) (cw : CallB R s args own index y by' mL' ret (.code y by' mL' ret :: gW) rm 0 0 n ∧ (Cond.static y).before args s = true) (isC isR : List Nat) (nw : Nat) (hC : isC.map (fun i => ws[i]?) = wc.map some) (hnd : va_nd isC = true) (hC1 : isC.map (fun i => ws'[i]?) = w1.map some) (wr : va_W) (ads : List Nat) (hR : isR.map (fun i => ws'[i]?) = wr.map some) (hR0 : isR.map (fun i => ws[i]?) = wr.map some) (hnw : ws'.length = nw) (hcov : kcov nw isC isR = true) (hAd : ws'.map Prod.fst = ads) (hAd0 : ws.map Prod.fst = ads)
    (hn : As.length = n) (hsize : ls.size = nL) (hst : st0 = As.reverse ++ rest) (hroom : (rest.map fun v => v.category).sum ≤ 8) (hdg : decode cc pc = .ok (.invokestatic index, 3)) (hcs : cells + 0 ≤ R.cells ∧ slots + 0 ≤ R.slots)
    (kk : ∀ (H1 : Heap) (locs1 : List Loc), va_P D vwCl ws' H1 → va_D A ws' → va_S A H0 H1 locs1 → W p l e R s m args below meth c H1 locs1 cells slots Q (F0 m (pc + 3) ls rest)) : W p l e R s m args below meth c H locs cells slots Q (F0 m pc ls st0) := by
  have hPc := kcut_P hP isC hC
  have hDc := hD.sub isC hnd hC
  have hFc := va_free hD hS hA isC hC
  refine va_callv (va_runS S hM cw ⟨mPc_blind, fun U hU hWm => ⟨rfl, by rw [hU], by rw [hU]; exact hPc, va_K.moved hWm.alike hK, hDc.weaken (fun _ _ _ _ => trivial)⟩⟩ rfl hn hsize hst (lv_room hroom) hdg hcs) hS (fun q _ h => hFc q h) hFc (fun u t H1 locs1 ht hvm hw hB hz1 hk1 hS1 => ?_)
  subst ht
  exact kk t.heap locs1 (kset_join hP hD isC isR nw hC hC1 (hR.trans hR0.symm) hnw hcov hk1 hB.1) (va_D_fst hD (hAd.trans hAd0.symm)) hS1
/-- returns -/
def qI (D : va_G) (tys : List (ClassId × FieldType)) (below : List Frame) (args : Array Value) (s : State) (A : Nat → Prop) (r0 : Int32) (w1 : va_W) (cells slots : Nat) : State → Prop := MQ below (va_Qi (fun (r : Int32) (_ : Unit) => r = r0) (fun _ => mB D tys A w1) A) args s cells slots A
def qL (D : va_G) (tys : List (ClassId × FieldType)) (below : List Frame) (args : Array Value) (s : State) (A : Nat → Prop) (r0 : Int64) (w1 : va_W) (cells slots : Nat) : State → Prop := MQ below (va_Ql (fun (r : Int64) (_ : Unit) => r = r0) (fun _ => mB D tys A w1) A) args s cells slots A
def qV (D : va_G) (tys : List (ClassId × FieldType)) (below : List Frame) (args : Array Value) (s : State) (A : Nat → Prop) (w1 : va_W) (cells slots : Nat) : State → Prop := MQ below (va_Qv (fun (_ : Unit) => True) (fun _ => mB D tys A w1) A) args s cells slots A
theorem kRi {v : Int32} {τ : Type} {cv o : τ} {fr : τ → Int32} {fw : τ → va_W} (hQ : Q = qI D tys below args s A (fr o) (fw o) cells slots) (hexec : p.tables.exec = Jvm.exec) (hb : c.code = cc) (hr : meth.sig.returnType = some .int) (hlocks : meth.locks = false) (hK : va_K D vwCl tys s) (hP : va_P D vwCl (fw cv) H) (hD : va_D A (fw cv)) (hS : va_S A s.heap H locs) (hF : some cv = some o) (hv : v = fr cv) (hdg : decode cc pc = .ok (.ireturn, 1)) :
    W p l e R s m args below meth c H locs cells slots Q (F0 m pc ls [.int v]) := by
  subst hQ
  cases hF
  exact W.iret (v := v) hexec hb hr (fun t ht hW => ⟨⟨v, (), rfl, hv, by rw [ht]; exact hP, va_K.moved hW.alike hK, hD⟩, hS.F ht⟩) hS.2.2 hdg
theorem kRz {v : Int32} {τ : Type} {cv o : τ} {fr : τ → Int32} {fw : τ → va_W} {ty : FieldType} (hQ : Q = qI D tys below args s A (fr o) (fw o) cells slots) (hexec : p.tables.exec = Jvm.exec) (hb : c.code = cc) (hr : meth.sig.returnType = some ty) (hlocks : meth.locks = false) (hK : va_K D vwCl tys s) (hP : va_P D vwCl (fw cv) H) (hD : va_D A (fw cv)) (hS : va_S A s.heap H locs) (hF : some cv = some o) (hv : v = fr cv) (hn : narrow ty (.int v) = .int v) (hdg : decode cc pc = .ok (.ireturn, 1)) :
    W p l e R s m args below meth c H locs cells slots Q (F0 m pc ls [.int v]) := by
  subst hQ
  cases hF
  exact W.zret (v := v) hexec hb hr hn (fun t ht hW => ⟨⟨v, (), rfl, hv, by rw [ht]; exact hP, va_K.moved hW.alike hK, hD⟩, hS.F ht⟩) hS.2.2 hdg
theorem kRl {v : Int64} {τ : Type} {cv o : τ} {fr : τ → Int64} {fw : τ → va_W} (hQ : Q = qL D tys below args s A (fr o) (fw o) cells slots) (hexec : p.tables.exec = Jvm.exec) (hb : c.code = cc) (hr : meth.sig.returnType = some .long) (hlocks : meth.locks = false) (hK : va_K D vwCl tys s) (hP : va_P D vwCl (fw cv) H) (hD : va_D A (fw cv)) (hS : va_S A s.heap H locs) (hF : some cv = some o) (hv : v = fr cv) (hdg : decode cc pc = .ok (.lreturn, 1)) :
    W p l e R s m args below meth c H locs cells slots Q (F0 m pc ls [.long v]) := by
  subst hQ
  cases hF
  exact W.lret (v := v) hexec hb hr (fun t ht hW => ⟨⟨v, (), rfl, hv, by rw [ht]; exact hP, va_K.moved hW.alike hK, hD⟩, hS.F ht⟩) hS.2.2 hdg
theorem kRv {τ : Type} {cv o : τ} {fw : τ → va_W} (hQ : Q = qV D tys below args s A (fw o) cells slots) (hexec : p.tables.exec = Jvm.exec) (hb : c.code = cc) (hr : meth.sig.returnType = none) (hlocks : meth.locks = false) (hK : va_K D vwCl tys s) (hP : va_P D vwCl (fw cv) H) (hD : va_D A (fw cv)) (hS : va_S A s.heap H locs) (hF : some cv = some o) (hdg : decode cc pc = .ok (.return_, 1)) :
    W p l e R s m args below meth c H locs cells slots Q (F0 m pc ls []) := by
  subst hQ
  cases hF
  exact W.vret hexec hb hr (fun t ht hW => ⟨⟨(), rfl, trivial, by rw [ht]; exact hP, va_K.moved hW.alike hK, hD⟩, hS.F ht⟩) hS.2.2 hdg
end KK
section KM
variable {l : Launch} {y : MethodName} {cc : ByteArray} {n : Nat} {ret : Option FieldType} {rm : Room} {D : va_G} {tys : List (ClassId × FieldType)} {As : List Value} {sz : Nat} {ws w1 : va_W}
/-- a contract out of a walk from the entry -/
theorem kM_i {r0 : Int32} (hy : plainName y.cls = true) (hlen : (lg_sl As).length ≤ n) (body : ∀ (p : Program) (e : Env) (s : State) (m : MethodId) (args : Array Value) (below : List Frame) (meth : Method) (c : Code) (A : Nat → Prop) (ls : Array Slot) (Q : State → Prop), p.tables.exec = Jvm.exec → c.code = cc → meth.sig.returnType = ret → meth.locks = false → c.maxLocals = n → s.vm.findClass y.cls = some m.cls → (∀ w ∈ gW, w.before args s = true) → va_K D vwCl tys s → (∀ q : Nat, s.heap.size ≤ q → A q) → va_P D vwCl ws s.heap → va_D A ws → va_S A s.heap s.heap [] → lv_has ls n (lv_args 0 As) →
      Q = qI D tys below args s A r0 w1 0 0 → W p l e rm s m args below meth c s.heap [] 0 0 Q (F0 m 0 ls [])) : mI l y cc n ret rm D tys As sz ws r0 w1 := by
  refine Met.ofW (cc := cc) (maxL := n) (ret := ret) hy rfl ?_
  intro p e s m args below meth c s₁ B hml hv
  obtain ⟨rfl, hsz, hP, hK, hD0⟩ := hv
  subst hsz
  have hts := atoms_spec (ws := .code y cc n ret :: gW) B.pre
  rw [lg_entry_eq]
  exact body p e s m _ below meth c (va_A ws s.heap.size) _ _ B.exec B.bytes B.returns B.notSynchronized hml (findClass_of_methodNamed B.named) (fun w h => hts w (List.mem_cons_of_mem _ h)) hK (fun q h => Or.inr h) hP hD0.self va_S.rf (lv_entry As hlen) rfl
theorem kM_l {r0 : Int64} (hy : plainName y.cls = true) (hlen : (lg_sl As).length ≤ n) (body : ∀ (p : Program) (e : Env) (s : State) (m : MethodId) (args : Array Value) (below : List Frame) (meth : Method) (c : Code) (A : Nat → Prop) (ls : Array Slot) (Q : State → Prop), p.tables.exec = Jvm.exec → c.code = cc → meth.sig.returnType = ret → meth.locks = false → c.maxLocals = n → s.vm.findClass y.cls = some m.cls → (∀ w ∈ gW, w.before args s = true) → va_K D vwCl tys s → (∀ q : Nat, s.heap.size ≤ q → A q) → va_P D vwCl ws s.heap → va_D A ws → va_S A s.heap s.heap [] → lv_has ls n (lv_args 0 As) →
      Q = qL D tys below args s A r0 w1 0 0 → W p l e rm s m args below meth c s.heap [] 0 0 Q (F0 m 0 ls [])) : mL l y cc n ret rm D tys As sz ws r0 w1 := by
  refine Met.ofW (cc := cc) (maxL := n) (ret := ret) hy rfl ?_
  intro p e s m args below meth c s₁ B hml hv
  obtain ⟨rfl, hsz, hP, hK, hD0⟩ := hv
  subst hsz
  have hts := atoms_spec (ws := .code y cc n ret :: gW) B.pre
  rw [lg_entry_eq]
  exact body p e s m _ below meth c (va_A ws s.heap.size) _ _ B.exec B.bytes B.returns B.notSynchronized hml (findClass_of_methodNamed B.named) (fun w h => hts w (List.mem_cons_of_mem _ h)) hK (fun q h => Or.inr h) hP hD0.self va_S.rf (lv_entry As hlen) rfl
theorem kM_v (hy : plainName y.cls = true) (hlen : (lg_sl As).length ≤ n) (body : ∀ (p : Program) (e : Env) (s : State) (m : MethodId) (args : Array Value) (below : List Frame) (meth : Method) (c : Code) (A : Nat → Prop) (ls : Array Slot) (Q : State → Prop), p.tables.exec = Jvm.exec → c.code = cc → meth.sig.returnType = ret → meth.locks = false → c.maxLocals = n → s.vm.findClass y.cls = some m.cls → (∀ w ∈ gW, w.before args s = true) → va_K D vwCl tys s → (∀ q : Nat, s.heap.size ≤ q → A q) → va_P D vwCl ws s.heap → va_D A ws → va_S A s.heap s.heap [] → lv_has ls n (lv_args 0 As) →
      Q = qV D tys below args s A w1 0 0 → W p l e rm s m args below meth c s.heap [] 0 0 Q (F0 m 0 ls [])) : mV l y cc n ret rm D tys As sz ws w1 := by
  refine Met.ofW (cc := cc) (maxL := n) (ret := ret) hy rfl ?_
  intro p e s m args below meth c s₁ B hml hv
  obtain ⟨rfl, hsz, hP, hK, hD0⟩ := hv
  subst hsz
  have hts := atoms_spec (ws := .code y cc n ret :: gW) B.pre
  rw [lg_entry_eq]
  exact body p e s m _ below meth c (va_A ws s.heap.size) _ _ B.exec B.bytes B.returns B.notSynchronized hml (findClass_of_methodNamed B.named) (fun w h => hts w (List.mem_cons_of_mem _ h)) hK (fun q h => Or.inr h) hP hD0.self va_S.rf (lv_entry As hlen) rfl
end KM
