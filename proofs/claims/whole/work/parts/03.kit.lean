/-! the good words of the tables; calls, returns and loads in fewer words -/
def gW : List Cond := lw_tbl.filter goodWord
theorem gW_good : ∀ w ∈ gW, (w.onTables && w.keeps) = true ∨ ∃ ty, w = .arrayClass ty := fun _ h => good_of_word (List.mem_filter.mp h).2
theorem gmem {w : Cond} {k : Nat} (h : tables_1[k]? = some w) (hg : goodWord w = true) : w ∈ gW := List.mem_filter.mpr ⟨List.mem_append_right _ (List.mem_of_getElem? h), hg⟩
theorem gsel {q : MethodName × Nat} (h : q ∈ lw_privs) (hg : goodWord (.selects q.1.cls q.1 q.1) = true) : Cond.selects q.1.cls q.1 q.1 ∈ gW := List.mem_filter.mpr ⟨List.mem_append_left _ (List.mem_map.mpr ⟨q, h, rfl⟩), hg⟩
theorem gi_pay {w : Cond} {ws : List Cond} (h : ∀ x ∈ ws, x ∈ gW) : GoodIn gW ws := fun x hx => ⟨h x hx, gW_good x (h x hx)⟩
theorem gi_code {w : Cond} (h : w ∈ gW) : GoodIn gW (w :: gW) := gi_pay (w := w) (fun x hx => by
  rcases List.mem_cons.mp hx with rfl | hx
  · exact h
  · exact hx)
theorem gi_V {own C : String} {idx n : Nat} {y : MethodName} {cc : ByteArray} {ret : Option FieldType} (h1 : Cond.methodLink own idx y ∈ gW) (h2 : Cond.instanceMethod y ∈ gW) (h3 : Cond.selects C y y ∈ gW) (h4 : Cond.initialized C ∈ gW) (h5 : Cond.code y cc n ret ∈ gW) : GoodIn gW (wsV own idx C y (.code y cc n ret :: gW)) := gi_pay (w := .initialized C) (fun x hx => by
  unfold wsV at hx
  rcases List.mem_append.mp hx with hx | hx
  · simp only [List.mem_cons, List.not_mem_nil, or_false] at hx
    rcases hx with rfl | rfl | rfl | rfl <;> assumption
  · rcases List.mem_cons.mp hx with rfl | hx
    · exact h5
    · exact hx)
theorem gi_S {own : String} {idx n : Nat} {y : MethodName} {cc : ByteArray} {ret : Option FieldType} (h1 : Cond.methodLink own idx y ∈ gW) (h2 : Cond.static y ∈ gW) (h4 : Cond.initialized y.cls ∈ gW) (h5 : Cond.code y cc n ret ∈ gW) : GoodIn gW (va_wsS own idx y (.code y cc n ret :: gW)) := gi_pay (w := .static y) (fun x hx => by
  unfold va_wsS at hx
  rcases List.mem_append.mp hx with hx | hx
  · simp only [List.mem_cons, List.not_mem_nil, or_false] at hx
    rcases hx with rfl | rfl | rfl <;> assumption
  · rcases List.mem_cons.mp hx with rfl | hx
    · exact h5
    · exact hx)
/-- pure rows: the roads of a branch, a guard, a bind -/
theorem t_pos {α : Type} {c : Prop} [Decidable c] {a b z : α} (h : c) (e : (if c then a else b) = z) : a = z := (if_pos h).symm.trans e
theorem t_neg {α : Type} {c : Prop} [Decidable c] {a b z : α} (h : ¬ c) (e : (if c then a else b) = z) : b = z := (if_neg h).symm.trans e
theorem t_grd {α : Type} {c : Prop} [Decidable c] {a : Option α} {z : α} (e : (if c then none else a) = some z) : ¬ c ∧ a = some z := by
  by_cases h : c
  · rw [if_pos h] at e; cases e
  · rw [if_neg h] at e; exact ⟨h, e⟩
/-- a world whose cells at some places are other ones -/
def kset (ws : va_W) (isC : List Nat) (w1 : va_W) : va_W := (isC.zip w1).foldl (fun a q => a.set q.1 q.2) ws
theorem kset_at : ∀ (isC : List Nat) (w1 ws : va_W) (k : Nat) (x : Nat × va_E), isC.length = w1.length → (kset ws isC w1)[k]? = some x → (∃ j : Nat, isC[j]? = some k ∧ w1[j]? = some x) ∨ (k ∉ isC ∧ ws[k]? = some x) := by
  intro isC
  induction isC with
  | nil =>
    intro w1 ws k x _ h
    exact Or.inr ⟨List.not_mem_nil, h⟩
  | cons i is ih =>
    intro w1 ws k x hl h
    cases w1 with
    | nil => simp at hl
    | cons e es =>
      have h' : (kset (ws.set i e) is es)[k]? = some x := h
      rcases ih es (ws.set i e) k x (by simpa using hl) h' with ⟨j, h1, h2⟩ | ⟨h1, h2⟩
      · exact Or.inl ⟨j + 1, by simpa using h1, by simpa using h2⟩
      · by_cases hk : k = i
        · subst hk
          have hlt : k < (ws.set k e).length := (List.getElem?_eq_some_iff.mp h2).1
          rw [List.getElem?_set_self (by simpa using hlt)] at h2
          exact Or.inl ⟨0, rfl, h2⟩
        · rw [List.getElem?_set_ne (Ne.symm hk)] at h2
          refine Or.inr ⟨fun hm => ?_, h2⟩
          rcases List.mem_cons.mp hm with q | q
          · exact hk q
          · exact h1 q
theorem va_D_fst {A : Nat → Prop} {ws ws' : va_W} (h : va_D A ws) (he : ws'.map Prod.fst = ws.map Prod.fst) : va_D A ws' := by
  have at1 : ∀ (k : Nat) (q : Nat × va_E), ws'[k]? = some q → ∃ r : Nat × va_E, ws[k]? = some r ∧ r.1 = q.1 := by
    intro k q hq
    have h1 : (ws'.map Prod.fst)[k]? = some q.1 := by rw [List.getElem?_map, hq]; rfl
    rw [he, List.getElem?_map] at h1
    cases hr : ws[k]? with
    | none => rw [hr] at h1; cases h1
    | some r => rw [hr] at h1; exact ⟨r, rfl, Option.some.inj h1⟩
  refine ⟨fun i j p q hp hq hpq => ?_, fun k q hq => ?_⟩
  · obtain ⟨r1, a1, b1⟩ := at1 i p hp
    obtain ⟨r2, a2, b2⟩ := at1 j q hq
    exact h.1 i j r1 r2 a1 a2 (by rw [b1, b2, hpq])
  · obtain ⟨r, a, b⟩ := at1 k q hq
    rw [← b]
    exact h.2 k r a
def mB (D : va_G) (tys : List (ClassId × FieldType)) (A : Nat → Prop) (ws : va_W) (t : State) : Prop := va_P D vwCl ws t.heap ∧ va_K D vwCl tys t ∧ va_D A ws
def mPc (D : va_G) (tys : List (ClassId × FieldType)) (As : List Value) (sz : Nat) (ws : va_W) : Array Value → State → Prop := va_Pc As (fun U => U.heap.size = sz ∧ va_P D vwCl ws U.heap ∧ va_K D vwCl tys U ∧ va_D (fun _ => True) ws)
theorem mPc_blind {D : va_G} {tys : List (ClassId × FieldType)} {As : List Value} {sz : Nat} {ws : va_W} : FrameBlind (mPc D tys As sz ws) := fun a U g mk q => ⟨q.1, q.2.1, q.2.2.1, va_K.moved (u := U) (U := U.calling g mk a) (Vm.Alike.refl U.vm) q.2.2.2.1, q.2.2.2.2⟩
/-- contracts: what is answered is known, what the cells are then is known; nothing is made -/
def mI (l : Launch) (y : MethodName) (cc : ByteArray) (n : Nat) (ret : Option FieldType) (rm : Room) (D : va_G) (tys : List (ClassId × FieldType)) (As : List Value) (sz : Nat) (ws : va_W) (r0 : Int32) (w1 : va_W) : Prop :=
  Met l y (.code y cc n ret :: gW) rm (mPc D tys As sz ws) (va_Qi (fun (r : Int32) (_ : Unit) => r = r0) (fun _ => mB D tys (va_A ws sz) w1) (va_A ws sz)) 0 0 (va_A ws sz)
def mL (l : Launch) (y : MethodName) (cc : ByteArray) (n : Nat) (ret : Option FieldType) (rm : Room) (D : va_G) (tys : List (ClassId × FieldType)) (As : List Value) (sz : Nat) (ws : va_W) (r0 : Int64) (w1 : va_W) : Prop :=
  Met l y (.code y cc n ret :: gW) rm (mPc D tys As sz ws) (va_Ql (fun (r : Int64) (_ : Unit) => r = r0) (fun _ => mB D tys (va_A ws sz) w1) (va_A ws sz)) 0 0 (va_A ws sz)
def mV (l : Launch) (y : MethodName) (cc : ByteArray) (n : Nat) (ret : Option FieldType) (rm : Room) (D : va_G) (tys : List (ClassId × FieldType)) (As : List Value) (sz : Nat) (ws : va_W) (w1 : va_W) : Prop :=
  Met l y (.code y cc n ret :: gW) rm (mPc D tys As sz ws) (va_Qv (fun (_ : Unit) => True) (fun _ => mB D tys (va_A ws sz) w1) (va_A ws sz)) 0 0 (va_A ws sz)
section KK
variable {p : Program} {l : Launch} {e : Env} {R : Room} {s : State} {m : MethodId} {args : Array Value} {below : List Frame} {meth : Method} {c : Code} {H H0 H1 : Heap} {locs : List Loc} {cells slots : Nat} {Q : State → Prop} {A : Nat → Prop} {D : va_G} {tys : List (ClassId × FieldType)} {ws wc w1 ws' : va_W} {cc : ByteArray} {pc nL : Nat} {ls : Array Slot} {rest st0 As : List Value}
theorem kset_join (hP : va_P D vwCl ws H) (hD : va_D A ws) (isC : List Nat) (hC : isC.map (fun i => ws[i]?) = wc.map some) (hl : isC.length = w1.length) (hW : kset ws isC w1 = ws') (hk : ∀ q : Nat, q < H.size → ¬ va_A wc H.size q → H1[q]? = H[q]?) (hP1 : va_P D vwCl w1 H1) : va_P D vwCl ws' H1 := by
  subst hW
  intro k x hx
  rcases kset_at isC w1 ws k x hl hx with ⟨j, _, h2⟩ | ⟨h1, h2⟩
  · exact hP1 j x h2
  · have hlt : x.1 < H.size := (hP k x h2).lt
    refine (hP k x h2).kept (hk x.1 hlt ?_)
    intro hA
    rcases hA with ⟨j, e, hj⟩ | hA
    · have hm : (isC.map (fun i => ws[i]?))[j]? = some (some (x.1, e)) := by rw [hC, List.getElem?_map, hj]; rfl
      rw [List.getElem?_map] at hm
      cases hi : isC[j]? with
      | none => rw [hi] at hm; cases hm
      | some i =>
        rw [hi] at hm
        have hwi : ws[i]? = some (x.1, e) := Option.some.inj hm
        have := hD.1 i k (x.1, e) x hwi h2 rfl
        subst this
        exact h1 (List.mem_of_getElem? hi)
    · omega
theorem kcut_P (hP : va_P D vwCl ws H) (isC : List Nat) (hC : isC.map (fun i => ws[i]?) = wc.map some) : va_P D vwCl wc H := by
  intro k x hx
  have h1 : (isC.map (fun i => ws[i]?))[k]? = some (some x) := by rw [hC, List.getElem?_map, hx]; rfl
  rw [List.getElem?_map] at h1
  cases hi : isC[k]? with
  | none => rw [hi] at h1; cases h1
  | some i => rw [hi] at h1; exact hP i x (Option.some.inj h1)
/-- calls of an instance method that is ours -/
theorem kVi {b q0 ci index n mL' : Nat} {y : MethodName} {by' : ByteArray} {ret : Option FieldType} {rm : Room} {own C : String} {T : u_T} {N : Nat} {fs : List Value} {r0 : Int32} (S : CallFix p m c cc nL s args gW own) (hK : va_K D vwCl tys s) (hP : va_P D vwCl ws H) (hD : va_D A ws) (hS : va_S A H0 H locs) (hA : ∀ q, H0.size ≤ q → A q)
    (hM : mI l y by' mL' ret rm D tys (.ref b :: As) H.size wc r0 w1) (cw : CallW R s args own C index y by' mL' ret (.code y by' mL' ret :: gW) rm 0 0 n) (q0 : Nat) (hrecv : ws[q0]? = some (b, .inr (ci, fs))) (hcl : vwCl[ci]? = some (C, T, N)) (isC : List Nat) (hC : isC.map (fun i => ws[i]?) = wc.map some) (hnd : va_nd isC = true) (hl : isC.length = w1.length) (hW : kset ws isC w1 = ws') (hAd : ws'.map Prod.fst = ws.map Prod.fst)
    (hn : As.length = n) (hsize : ls.size = nL) (hst : st0 = As.reverse ++ .ref b :: rest) (hroom : (rest.map fun v => v.category).sum ≤ 8) (hdg : decode cc pc = .ok (.invokevirtual index, 3)) (hcs : cells + 0 ≤ R.cells ∧ slots + 0 ≤ R.slots)
    (kk : ∀ (H1 : Heap) (locs1 : List Loc), va_P D vwCl ws' H1 → va_D A ws' → va_S A H0 H1 locs1 → W p l e R s m args below meth c H1 locs1 cells slots Q (F0 m (pc + 3) ls (.int r0 :: rest))) : W p l e R s m args below meth c H locs cells slots Q (F0 m pc ls st0) := by
  have hPc := kcut_P hP isC hC
  have hDc := hD.sub isC hnd hC
  have hFc := va_free hD hS hA isC hC
  refine va_calli (va_runV S hM cw ⟨mPc_blind, va_recv hK hP hcl hrecv, fun U hU hWm => ⟨rfl, by rw [hU], by rw [hU]; exact hPc, va_K.moved hWm.alike hK, hDc.weaken (fun _ _ _ _ => trivial)⟩⟩ rfl hn hsize hst (lv_room hroom) hdg hcs) hS (fun q _ h => hFc q h) hFc (fun r u t H1 locs1 ht hvm hw hB hz1 hk1 hS1 => ?_)
  subst hw
  subst ht
  exact kk t.heap locs1 (kset_join hP hD isC hC hl hW hk1 hB.1) (va_D_fst hD hAd) hS1
theorem kVl {b q0 ci index n mL' : Nat} {y : MethodName} {by' : ByteArray} {ret : Option FieldType} {rm : Room} {own C : String} {T : u_T} {N : Nat} {fs : List Value} {r0 : Int64} (S : CallFix p m c cc nL s args gW own) (hK : va_K D vwCl tys s) (hP : va_P D vwCl ws H) (hD : va_D A ws) (hS : va_S A H0 H locs) (hA : ∀ q, H0.size ≤ q → A q)
    (hM : mL l y by' mL' ret rm D tys (.ref b :: As) H.size wc r0 w1) (cw : CallW R s args own C index y by' mL' ret (.code y by' mL' ret :: gW) rm 0 0 n) (q0 : Nat) (hrecv : ws[q0]? = some (b, .inr (ci, fs))) (hcl : vwCl[ci]? = some (C, T, N)) (isC : List Nat) (hC : isC.map (fun i => ws[i]?) = wc.map some) (hnd : va_nd isC = true) (hl : isC.length = w1.length) (hW : kset ws isC w1 = ws') (hAd : ws'.map Prod.fst = ws.map Prod.fst)
    (hn : As.length = n) (hsize : ls.size = nL) (hst : st0 = As.reverse ++ .ref b :: rest) (hroom : (rest.map fun v => v.category).sum ≤ 8) (hdg : decode cc pc = .ok (.invokevirtual index, 3)) (hcs : cells + 0 ≤ R.cells ∧ slots + 0 ≤ R.slots)
    (kk : ∀ (H1 : Heap) (locs1 : List Loc), va_P D vwCl ws' H1 → va_D A ws' → va_S A H0 H1 locs1 → W p l e R s m args below meth c H1 locs1 cells slots Q (F0 m (pc + 3) ls (.long r0 :: rest))) : W p l e R s m args below meth c H locs cells slots Q (F0 m pc ls st0) := by
  have hPc := kcut_P hP isC hC
  have hDc := hD.sub isC hnd hC
  have hFc := va_free hD hS hA isC hC
  refine va_calll (va_runV S hM cw ⟨mPc_blind, va_recv hK hP hcl hrecv, fun U hU hWm => ⟨rfl, by rw [hU], by rw [hU]; exact hPc, va_K.moved hWm.alike hK, hDc.weaken (fun _ _ _ _ => trivial)⟩⟩ rfl hn hsize hst (lv_room hroom) hdg hcs) hS (fun q _ h => hFc q h) hFc (fun r u t H1 locs1 ht hvm hw hB hz1 hk1 hS1 => ?_)
  subst hw
  subst ht
  exact kk t.heap locs1 (kset_join hP hD isC hC hl hW hk1 hB.1) (va_D_fst hD hAd) hS1
theorem kVv {b q0 ci index n mL' : Nat} {y : MethodName} {by' : ByteArray} {ret : Option FieldType} {rm : Room} {own C : String} {T : u_T} {N : Nat} {fs : List Value} (S : CallFix p m c cc nL s args gW own) (hK : va_K D vwCl tys s) (hP : va_P D vwCl ws H) (hD : va_D A ws) (hS : va_S A H0 H locs) (hA : ∀ q, H0.size ≤ q → A q)
    (hM : mV l y by' mL' ret rm D tys (.ref b :: As) H.size wc w1) (cw : CallW R s args own C index y by' mL' ret (.code y by' mL' ret :: gW) rm 0 0 n) (q0 : Nat) (hrecv : ws[q0]? = some (b, .inr (ci, fs))) (hcl : vwCl[ci]? = some (C, T, N)) (isC : List Nat) (hC : isC.map (fun i => ws[i]?) = wc.map some) (hnd : va_nd isC = true) (hl : isC.length = w1.length) (hW : kset ws isC w1 = ws') (hAd : ws'.map Prod.fst = ws.map Prod.fst)
    (hn : As.length = n) (hsize : ls.size = nL) (hst : st0 = As.reverse ++ .ref b :: rest) (hroom : (rest.map fun v => v.category).sum ≤ 8) (hdg : decode cc pc = .ok (.invokevirtual index, 3)) (hcs : cells + 0 ≤ R.cells ∧ slots + 0 ≤ R.slots)
    (kk : ∀ (H1 : Heap) (locs1 : List Loc), va_P D vwCl ws' H1 → va_D A ws' → va_S A H0 H1 locs1 → W p l e R s m args below meth c H1 locs1 cells slots Q (F0 m (pc + 3) ls rest)) : W p l e R s m args below meth c H locs cells slots Q (F0 m pc ls st0) := by
  have hPc := kcut_P hP isC hC
  have hDc := hD.sub isC hnd hC
  have hFc := va_free hD hS hA isC hC
  refine va_callv (va_runV S hM cw ⟨mPc_blind, va_recv hK hP hcl hrecv, fun U hU hWm => ⟨rfl, by rw [hU], by rw [hU]; exact hPc, va_K.moved hWm.alike hK, hDc.weaken (fun _ _ _ _ => trivial)⟩⟩ rfl hn hsize hst (lv_room hroom) hdg hcs) hS (fun q _ h => hFc q h) hFc (fun u t H1 locs1 ht hvm hw hB hz1 hk1 hS1 => ?_)
  subst ht
  exact kk t.heap locs1 (kset_join hP hD isC hC hl hW hk1 hB.1) (va_D_fst hD hAd) hS1
/-- calls of a static method -/
theorem kSi {index n mL' : Nat} {y : MethodName} {by' : ByteArray} {ret : Option FieldType} {rm : Room} {own : String} {r0 : Int32} (S : CallFix p m c cc nL s args gW own) (hK : va_K D vwCl tys s) (hP : va_P D vwCl ws H) (hD : va_D A ws) (hS : va_S A H0 H locs) (hA : ∀ q, H0.size ≤ q → A q)
    (hM : mI l y by' mL' ret rm D tys As H.size wc r0 w1) (cw : CallB R s args own index y by' mL' ret (.code y by' mL' ret :: gW) rm 0 0 n ∧ (Cond.static y).before args s = true) (isC : List Nat) (hC : isC.map (fun i => ws[i]?) = wc.map some) (hnd : va_nd isC = true) (hl : isC.length = w1.length) (hW : kset ws isC w1 = ws') (hAd : ws'.map Prod.fst = ws.map Prod.fst)
    (hn : As.length = n) (hsize : ls.size = nL) (hst : st0 = As.reverse ++ rest) (hroom : (rest.map fun v => v.category).sum ≤ 8) (hdg : decode cc pc = .ok (.invokestatic index, 3)) (hcs : cells + 0 ≤ R.cells ∧ slots + 0 ≤ R.slots)
    (kk : ∀ (H1 : Heap) (locs1 : List Loc), va_P D vwCl ws' H1 → va_D A ws' → va_S A H0 H1 locs1 → W p l e R s m args below meth c H1 locs1 cells slots Q (F0 m (pc + 3) ls (.int r0 :: rest))) : W p l e R s m args below meth c H locs cells slots Q (F0 m pc ls st0) := by
  have hPc := kcut_P hP isC hC
  have hDc := hD.sub isC hnd hC
  have hFc := va_free hD hS hA isC hC
  refine va_calli (va_runS S hM cw ⟨mPc_blind, fun U hU hWm => ⟨rfl, by rw [hU], by rw [hU]; exact hPc, va_K.moved hWm.alike hK, hDc.weaken (fun _ _ _ _ => trivial)⟩⟩ rfl hn hsize hst (lv_room hroom) hdg hcs) hS (fun q _ h => hFc q h) hFc (fun r u t H1 locs1 ht hvm hw hB hz1 hk1 hS1 => ?_)
  subst hw
  subst ht
  exact kk t.heap locs1 (kset_join hP hD isC hC hl hW hk1 hB.1) (va_D_fst hD hAd) hS1
theorem kSl {index n mL' : Nat} {y : MethodName} {by' : ByteArray} {ret : Option FieldType} {rm : Room} {own : String} {r0 : Int64} (S : CallFix p m c cc nL s args gW own) (hK : va_K D vwCl tys s) (hP : va_P D vwCl ws H) (hD : va_D A ws) (hS : va_S A H0 H locs) (hA : ∀ q, H0.size ≤ q → A q)
    (hM : mL l y by' mL' ret rm D tys As H.size wc r0 w1) (cw : CallB R s args own index y by' mL' ret (.code y by' mL' ret :: gW) rm 0 0 n ∧ (Cond.static y).before args s = true) (isC : List Nat) (hC : isC.map (fun i => ws[i]?) = wc.map some) (hnd : va_nd isC = true) (hl : isC.length = w1.length) (hW : kset ws isC w1 = ws') (hAd : ws'.map Prod.fst = ws.map Prod.fst)
    (hn : As.length = n) (hsize : ls.size = nL) (hst : st0 = As.reverse ++ rest) (hroom : (rest.map fun v => v.category).sum ≤ 8) (hdg : decode cc pc = .ok (.invokestatic index, 3)) (hcs : cells + 0 ≤ R.cells ∧ slots + 0 ≤ R.slots)
    (kk : ∀ (H1 : Heap) (locs1 : List Loc), va_P D vwCl ws' H1 → va_D A ws' → va_S A H0 H1 locs1 → W p l e R s m args below meth c H1 locs1 cells slots Q (F0 m (pc + 3) ls (.long r0 :: rest))) : W p l e R s m args below meth c H locs cells slots Q (F0 m pc ls st0) := by
  have hPc := kcut_P hP isC hC
  have hDc := hD.sub isC hnd hC
  have hFc := va_free hD hS hA isC hC
  refine va_calll (va_runS S hM cw ⟨mPc_blind, fun U hU hWm => ⟨rfl, by rw [hU], by rw [hU]; exact hPc, va_K.moved hWm.alike hK, hDc.weaken (fun _ _ _ _ => trivial)⟩⟩ rfl hn hsize hst (lv_room hroom) hdg hcs) hS (fun q _ h => hFc q h) hFc (fun r u t H1 locs1 ht hvm hw hB hz1 hk1 hS1 => ?_)
  subst hw
  subst ht
  exact kk t.heap locs1 (kset_join hP hD isC hC hl hW hk1 hB.1) (va_D_fst hD hAd) hS1
theorem kSv {index n mL' : Nat} {y : MethodName} {by' : ByteArray} {ret : Option FieldType} {rm : Room} {own : String} (S : CallFix p m c cc nL s args gW own) (hK : va_K D vwCl tys s) (hP : va_P D vwCl ws H) (hD : va_D A ws) (hS : va_S A H0 H locs) (hA : ∀ q, H0.size ≤ q → A q)
    (hM : mV l y by' mL' ret rm D tys As H.size wc w1) (cw : CallB R s args own index y by' mL' ret (.code y by' mL' ret :: gW) rm 0 0 n ∧ (Cond.static y).before args s = true) (isC : List Nat) (hC : isC.map (fun i => ws[i]?) = wc.map some) (hnd : va_nd isC = true) (hl : isC.length = w1.length) (hW : kset ws isC w1 = ws') (hAd : ws'.map Prod.fst = ws.map Prod.fst)
    (hn : As.length = n) (hsize : ls.size = nL) (hst : st0 = As.reverse ++ rest) (hroom : (rest.map fun v => v.category).sum ≤ 8) (hdg : decode cc pc = .ok (.invokestatic index, 3)) (hcs : cells + 0 ≤ R.cells ∧ slots + 0 ≤ R.slots)
    (kk : ∀ (H1 : Heap) (locs1 : List Loc), va_P D vwCl ws' H1 → va_D A ws' → va_S A H0 H1 locs1 → W p l e R s m args below meth c H1 locs1 cells slots Q (F0 m (pc + 3) ls rest)) : W p l e R s m args below meth c H locs cells slots Q (F0 m pc ls st0) := by
  have hPc := kcut_P hP isC hC
  have hDc := hD.sub isC hnd hC
  have hFc := va_free hD hS hA isC hC
  refine va_callv (va_runS S hM cw ⟨mPc_blind, fun U hU hWm => ⟨rfl, by rw [hU], by rw [hU]; exact hPc, va_K.moved hWm.alike hK, hDc.weaken (fun _ _ _ _ => trivial)⟩⟩ rfl hn hsize hst (lv_room hroom) hdg hcs) hS (fun q _ h => hFc q h) hFc (fun u t H1 locs1 ht hvm hw hB hz1 hk1 hS1 => ?_)
  subst ht
  exact kk t.heap locs1 (kset_join hP hD isC hC hl hW hk1 hB.1) (va_D_fst hD hAd) hS1
/-- returns -/
def qI (D : va_G) (tys : List (ClassId × FieldType)) (below : List Frame) (args : Array Value) (s : State) (A : Nat → Prop) (r0 : Int32) (w1 : va_W) (cells slots : Nat) : State → Prop := MQ below (va_Qi (fun (r : Int32) (_ : Unit) => r = r0) (fun _ => mB D tys A w1) A) args s cells slots A
def qL (D : va_G) (tys : List (ClassId × FieldType)) (below : List Frame) (args : Array Value) (s : State) (A : Nat → Prop) (r0 : Int64) (w1 : va_W) (cells slots : Nat) : State → Prop := MQ below (va_Ql (fun (r : Int64) (_ : Unit) => r = r0) (fun _ => mB D tys A w1) A) args s cells slots A
def qV (D : va_G) (tys : List (ClassId × FieldType)) (below : List Frame) (args : Array Value) (s : State) (A : Nat → Prop) (w1 : va_W) (cells slots : Nat) : State → Prop := MQ below (va_Qv (fun (_ : Unit) => True) (fun _ => mB D tys A w1) A) args s cells slots A
theorem kRi {v : Int32} {τ : Type} {cv o : τ} {fr : τ → Int32} {fw : τ → va_W} (hexec : p.tables.exec = Jvm.exec) (hb : c.code = cc) (hr : meth.sig.returnType = some .int) (hlocks : meth.locks = false) (hK : va_K D vwCl tys s) (hP : va_P D vwCl (fw cv) H) (hD : va_D A (fw cv)) (hS : va_S A s.heap H locs) (hF : some cv = some o) (hv : v = fr cv) (hdg : decode cc pc = .ok (.ireturn, 1)) :
    W p l e R s m args below meth c H locs cells slots (qI D tys below args s A (fr o) (fw o) cells slots) (F0 m pc ls [.int v]) := by
  cases hF
  exact W.iret (v := v) hexec hb hr (fun t ht hW => ⟨⟨v, (), rfl, hv, by rw [ht]; exact hP, va_K.moved hW.alike hK, hD⟩, hS.F ht⟩) hS.2.2 hdg
theorem kRz {v : Int32} {τ : Type} {cv o : τ} {fr : τ → Int32} {fw : τ → va_W} {ty : FieldType} (hexec : p.tables.exec = Jvm.exec) (hb : c.code = cc) (hr : meth.sig.returnType = some ty) (hlocks : meth.locks = false) (hK : va_K D vwCl tys s) (hP : va_P D vwCl (fw cv) H) (hD : va_D A (fw cv)) (hS : va_S A s.heap H locs) (hF : some cv = some o) (hv : v = fr cv) (hn : narrow ty (.int v) = .int v) (hdg : decode cc pc = .ok (.ireturn, 1)) :
    W p l e R s m args below meth c H locs cells slots (qI D tys below args s A (fr o) (fw o) cells slots) (F0 m pc ls [.int v]) := by
  cases hF
  exact W.zret (v := v) hexec hb hr hn (fun t ht hW => ⟨⟨v, (), rfl, hv, by rw [ht]; exact hP, va_K.moved hW.alike hK, hD⟩, hS.F ht⟩) hS.2.2 hdg
theorem kRl {v : Int64} {τ : Type} {cv o : τ} {fr : τ → Int64} {fw : τ → va_W} (hexec : p.tables.exec = Jvm.exec) (hb : c.code = cc) (hr : meth.sig.returnType = some .long) (hlocks : meth.locks = false) (hK : va_K D vwCl tys s) (hP : va_P D vwCl (fw cv) H) (hD : va_D A (fw cv)) (hS : va_S A s.heap H locs) (hF : some cv = some o) (hv : v = fr cv) (hdg : decode cc pc = .ok (.lreturn, 1)) :
    W p l e R s m args below meth c H locs cells slots (qL D tys below args s A (fr o) (fw o) cells slots) (F0 m pc ls [.long v]) := by
  cases hF
  exact W.lret (v := v) hexec hb hr (fun t ht hW => ⟨⟨v, (), rfl, hv, by rw [ht]; exact hP, va_K.moved hW.alike hK, hD⟩, hS.F ht⟩) hS.2.2 hdg
theorem kRv {τ : Type} {cv o : τ} {fw : τ → va_W} (hexec : p.tables.exec = Jvm.exec) (hb : c.code = cc) (hr : meth.sig.returnType = none) (hlocks : meth.locks = false) (hK : va_K D vwCl tys s) (hP : va_P D vwCl (fw cv) H) (hD : va_D A (fw cv)) (hS : va_S A s.heap H locs) (hF : some cv = some o) (hdg : decode cc pc = .ok (.return_, 1)) :
    W p l e R s m args below meth c H locs cells slots (qV D tys below args s A (fw o) cells slots) (F0 m pc ls []) := by
  cases hF
  exact W.vret hexec hb hr (fun t ht hW => ⟨⟨(), rfl, trivial, by rw [ht]; exact hP, va_K.moved hW.alike hK, hD⟩, hS.F ht⟩) hS.2.2 hdg
end KK
section KM
variable {l : Launch} {y : MethodName} {cc : ByteArray} {n : Nat} {ret : Option FieldType} {rm : Room} {D : va_G} {tys : List (ClassId × FieldType)} {As : List Value} {sz : Nat} {ws w1 : va_W}
/-- a contract out of a walk from the entry -/
theorem kM_i {r0 : Int32} (hy : plainName y.cls = true) (hlen : (lg_sl As).length ≤ n) (body : ∀ (p : Program) (e : Env) (s : State) (m : MethodId) (below : List Frame) (meth : Method) (c : Code) (A : Nat → Prop) (ls : Array Slot), p.tables.exec = Jvm.exec → c.code = cc → meth.sig.returnType = ret → meth.locks = false → c.maxLocals = n → s.vm.findClass y.cls = some m.cls → (∀ w ∈ gW, w.before As.toArray s = true) → va_K D vwCl tys s → (∀ q : Nat, s.heap.size ≤ q → A q) → va_P D vwCl ws s.heap → va_D A ws → va_S A s.heap s.heap [] → lv_has ls n (lv_args 0 As) →
      W p l e rm s m As.toArray below meth c s.heap [] 0 0 (qI D tys below As.toArray s A r0 w1 0 0) (F0 m 0 ls [])) : mI l y cc n ret rm D tys As sz ws r0 w1 := by
  refine Met.ofW (cc := cc) (maxL := n) (ret := ret) hy rfl ?_
  intro p e s m args below meth c s₁ B hml hv
  obtain ⟨rfl, hsz, hP, hK, hD0⟩ := hv
  subst hsz
  have hts := atoms_spec (ws := .code y cc n ret :: gW) B.pre
  rw [lg_entry_eq]
  exact body p e s m below meth c (va_A ws s.heap.size) _ B.exec B.bytes B.returns B.notSynchronized hml (findClass_of_methodNamed B.named) (fun w h => hts w (List.mem_cons_of_mem _ h)) hK (fun q h => Or.inr h) hP hD0.self va_S.rf (lv_entry As hlen)
theorem kM_l {r0 : Int64} (hy : plainName y.cls = true) (hlen : (lg_sl As).length ≤ n) (body : ∀ (p : Program) (e : Env) (s : State) (m : MethodId) (below : List Frame) (meth : Method) (c : Code) (A : Nat → Prop) (ls : Array Slot), p.tables.exec = Jvm.exec → c.code = cc → meth.sig.returnType = ret → meth.locks = false → c.maxLocals = n → s.vm.findClass y.cls = some m.cls → (∀ w ∈ gW, w.before As.toArray s = true) → va_K D vwCl tys s → (∀ q : Nat, s.heap.size ≤ q → A q) → va_P D vwCl ws s.heap → va_D A ws → va_S A s.heap s.heap [] → lv_has ls n (lv_args 0 As) →
      W p l e rm s m As.toArray below meth c s.heap [] 0 0 (qL D tys below As.toArray s A r0 w1 0 0) (F0 m 0 ls [])) : mL l y cc n ret rm D tys As sz ws r0 w1 := by
  refine Met.ofW (cc := cc) (maxL := n) (ret := ret) hy rfl ?_
  intro p e s m args below meth c s₁ B hml hv
  obtain ⟨rfl, hsz, hP, hK, hD0⟩ := hv
  subst hsz
  have hts := atoms_spec (ws := .code y cc n ret :: gW) B.pre
  rw [lg_entry_eq]
  exact body p e s m below meth c (va_A ws s.heap.size) _ B.exec B.bytes B.returns B.notSynchronized hml (findClass_of_methodNamed B.named) (fun w h => hts w (List.mem_cons_of_mem _ h)) hK (fun q h => Or.inr h) hP hD0.self va_S.rf (lv_entry As hlen)
theorem kM_v (hy : plainName y.cls = true) (hlen : (lg_sl As).length ≤ n) (body : ∀ (p : Program) (e : Env) (s : State) (m : MethodId) (below : List Frame) (meth : Method) (c : Code) (A : Nat → Prop) (ls : Array Slot), p.tables.exec = Jvm.exec → c.code = cc → meth.sig.returnType = ret → meth.locks = false → c.maxLocals = n → s.vm.findClass y.cls = some m.cls → (∀ w ∈ gW, w.before As.toArray s = true) → va_K D vwCl tys s → (∀ q : Nat, s.heap.size ≤ q → A q) → va_P D vwCl ws s.heap → va_D A ws → va_S A s.heap s.heap [] → lv_has ls n (lv_args 0 As) →
      W p l e rm s m As.toArray below meth c s.heap [] 0 0 (qV D tys below As.toArray s A w1 0 0) (F0 m 0 ls [])) : mV l y cc n ret rm D tys As sz ws w1 := by
  refine Met.ofW (cc := cc) (maxL := n) (ret := ret) hy rfl ?_
  intro p e s m args below meth c s₁ B hml hv
  obtain ⟨rfl, hsz, hP, hK, hD0⟩ := hv
  subst hsz
  have hts := atoms_spec (ws := .code y cc n ret :: gW) B.pre
  rw [lg_entry_eq]
  exact body p e s m below meth c (va_A ws s.heap.size) _ B.exec B.bytes B.returns B.notSynchronized hml (findClass_of_methodNamed B.named) (fun w h => hts w (List.mem_cons_of_mem _ h)) hK (fun q h => Or.inr h) hP hD0.self va_S.rf (lv_entry As hlen)
end KM
