/-! constructors: objects that make others -/
def mPcN (D : va_G) (tys : List (ClassId × FieldType)) (As : List Value) (sz : Nat) (ws : va_W) : Array Value → State → Prop := va_Pc As (fun U => U.heap.size = sz ∧ va_P D vwCl ws U.heap ∧ va_K D vwCl tys U ∧ va_D (fun _ => True) ws ∧ va_AO "OneTill$Calls" U)
theorem mPcN_blind {D : va_G} {tys : List (ClassId × FieldType)} {As : List Value} {sz : Nat} {ws : va_W} : FrameBlind (mPcN D tys As sz ws) := fun a U g mk q => ⟨q.1, q.2.1, q.2.2.1, va_K.moved (u := U) (U := U.calling g mk a) (Vm.Alike.refl U.vm) q.2.2.2.1, q.2.2.2.2.1, va_AO.moved (u := U) (U := U.calling g mk a) (Vm.Alike.refl U.vm) q.2.2.2.2.2⟩
def mN (l : Launch) (y : MethodName) (cc : ByteArray) (n : Nat) (rm : Room) (D : va_G) (tys : List (ClassId × FieldType)) (As : List Value) (sz : Nat) (ws : va_W) (mc ms : Nat) (w1 : (Nat → Nat) → va_W) : Prop :=
  Met l y (.code y cc n none :: gW) rm (mPcN D tys As sz ws) (va_Qv (fun (_ : Unit) => True) (fun _ t => ∃ q : Nat → Nat, mB D tys (va_A ws sz) (w1 q) t) (va_A ws sz)) mc ms (va_A ws sz)
section KN
variable {p : Program} {l : Launch} {e : Env} {R : Room} {s : State} {m : MethodId} {args : Array Value} {below : List Frame} {meth : Method} {c : Code} {H H0 H1 : Heap} {locs : List Loc} {cells slots : Nat} {Q : State → Prop} {A : Nat → Prop} {D : va_G} {tys : List (ClassId × FieldType)} {ws wc w1 ws' : va_W} {cc : ByteArray} {pc nL : Nat} {ls : Array Slot} {rest st0 As : List Value}
theorem kty {tys : List (ClassId × FieldType)} {cA cB : ClassId} {t0 : Nat} {ty : FieldType} (hp : ∀ C, ty ≠ .object C) (hK : va_K D vwCl (tys ++ [(cA, ty)]) s) (h0 : tys[t0]? = some (cB, ty)) : cA = cB := by
  have h1 := (hK.2 t0 (cB, ty) (by rw [List.getElem?_append_left (List.getElem?_eq_some_iff.mp h0).1]; exact h0)).2
  have h2 := (hK.2 tys.length (cA, ty) (by simp)).2
  cases ty with
  | object C => exact absurd rfl (hp C)
  | _ => exact Option.some.inj (h2.symm.trans h1)
theorem knewI (hexec : p.tables.exec = Jvm.exec) (hb : c.code = cc) (hG : ∀ w ∈ gW, w.before args s = true) (harr : Cond.arrayClass .int ∈ gW) (hK : va_K D vwCl tys s) {cy : ClassId} (t0 : Nat) (h0 : tys[t0]? = some (cy, .int)) (hP : va_P D vwCl ws H) (hD : va_D A ws) (hS : va_S A H0 H locs) (hA : ∀ q, H0.size ≤ q → A q)
    {n : Int32} (N' : Nat) (hn : ¬ n < 0) (hN : n.toNatClampNeg = N') (hbytes : N' * componentBytes .int ≤ 536870912) (hcells : cells + 1 ≤ R.cells) (hslots : slots + N' ≤ R.slots) (hdg : decode cc pc = .ok (.newarray .int, 2))
    (kk : ∀ (q : Nat) (H1 : Heap), va_P D vwCl (ws ++ [(q, .inl (cy, N', .inl (fun _ => 0)))]) H1 → va_D A (ws ++ [(q, .inl (cy, N', .inl (fun _ => 0)))]) → va_S A H0 H1 locs → W p l e R s m args below meth c H1 locs (cells + 1) (slots + N') Q (F0 m (pc + 2) ls (.ref q :: rest))) : W p l e R s m args below meth c H locs cells slots Q (F0 m pc ls (.int n :: rest)) := by
  refine va_newa (atype := .int) (a0 := (N', .inl (fun _ => 0))) hexec hb (hG _ harr) rfl hK hP hD hS hA (fun _ => rfl) hn hN hbytes hcells hslots hdg (fun q cA H1 hK1 hP1 hD1 hS1 => ?_)
  have e1 := kty (fun C h => by cases h) hK1 h0
  subst e1
  exact kk q H1 hP1 hD1 hS1
theorem knewJ (hexec : p.tables.exec = Jvm.exec) (hb : c.code = cc) (hG : ∀ w ∈ gW, w.before args s = true) (harr : Cond.arrayClass .long ∈ gW) (hK : va_K D vwCl tys s) {cy : ClassId} (t0 : Nat) (h0 : tys[t0]? = some (cy, .long)) (hP : va_P D vwCl ws H) (hD : va_D A ws) (hS : va_S A H0 H locs) (hA : ∀ q, H0.size ≤ q → A q)
    {n : Int32} (N' : Nat) (hn : ¬ n < 0) (hN : n.toNatClampNeg = N') (hbytes : N' * componentBytes .long ≤ 536870912) (hcells : cells + 1 ≤ R.cells) (hslots : slots + N' ≤ R.slots) (hdg : decode cc pc = .ok (.newarray .long, 2))
    (kk : ∀ (q : Nat) (H1 : Heap), va_P D vwCl (ws ++ [(q, .inl (cy, N', .inr (.inl (fun _ => 0))))]) H1 → va_D A (ws ++ [(q, .inl (cy, N', .inr (.inl (fun _ => 0))))]) → va_S A H0 H1 locs → W p l e R s m args below meth c H1 locs (cells + 1) (slots + N') Q (F0 m (pc + 2) ls (.ref q :: rest))) : W p l e R s m args below meth c H locs cells slots Q (F0 m pc ls (.int n :: rest)) := by
  refine va_newa (atype := .long) (a0 := (N', .inr (.inl (fun _ => 0)))) hexec hb (hG _ harr) rfl hK hP hD hS hA (fun _ => rfl) hn hN hbytes hcells hslots hdg (fun q cA H1 hK1 hP1 hD1 hS1 => ?_)
  have e1 := kty (fun C h => by cases h) hK1 h0
  subst e1
  exact kk q H1 hP1 hD1 hS1
theorem knewZ (hexec : p.tables.exec = Jvm.exec) (hb : c.code = cc) (hG : ∀ w ∈ gW, w.before args s = true) (harr : Cond.arrayClass .boolean ∈ gW) (hK : va_K D vwCl tys s) {cy : ClassId} (t0 : Nat) (h0 : tys[t0]? = some (cy, .boolean)) (hP : va_P D vwCl ws H) (hD : va_D A ws) (hS : va_S A H0 H locs) (hA : ∀ q, H0.size ≤ q → A q)
    {n : Int32} (N' : Nat) (hn : ¬ n < 0) (hN : n.toNatClampNeg = N') (hbytes : N' * componentBytes .boolean ≤ 536870912) (hcells : cells + 1 ≤ R.cells) (hslots : slots + N' ≤ R.slots) (hdg : decode cc pc = .ok (.newarray .boolean, 2))
    (kk : ∀ (q : Nat) (H1 : Heap), va_P D vwCl (ws ++ [(q, .inl (cy, N', .inl (fun _ => 0)))]) H1 → va_D A (ws ++ [(q, .inl (cy, N', .inl (fun _ => 0)))]) → va_S A H0 H1 locs → W p l e R s m args below meth c H1 locs (cells + 1) (slots + N') Q (F0 m (pc + 2) ls (.ref q :: rest))) : W p l e R s m args below meth c H locs cells slots Q (F0 m pc ls (.int n :: rest)) := by
  refine va_newa (atype := .boolean) (a0 := (N', .inl (fun _ => 0))) hexec hb (hG _ harr) rfl hK hP hD hS hA (fun _ => rfl) hn hN hbytes hcells hslots hdg (fun q cA H1 hK1 hP1 hD1 hS1 => ?_)
  have e1 := kty (fun C h => by cases h) hK1 h0
  subst e1
  exact kk q H1 hP1 hD1 hS1
/-- a call of a constructor that is ours -/
theorem kIv {b index n mL' mc ms : Nat} {y : MethodName} {by' : ByteArray} {rm : Room} {own : String} {fw : (Nat → Nat) → va_W} (S : CallFix p m c cc nL s args gW own) (hO : va_AO "OneTill$Calls" s) (hK : va_K D vwCl tys s) (hP : va_P D vwCl ws H) (hD : va_D A ws) (hS : va_S A H0 H locs) (hA : ∀ q, H0.size ≤ q → A q)
    (hM : mN l y by' mL' rm D tys (.ref b :: As) H.size wc mc ms fw) (cw : CallB R s args own index y by' mL' none (.code y by' mL' none :: gW) rm mc ms n ∧ y.name = "<init>" ∧ (Cond.instanceMethod y).before args s = true) (isC isR : List Nat) (wr : va_W) (hC : isC.map (fun i => ws[i]?) = wc.map some) (hnd : va_nd isC = true) (hR : isR.map (fun i => ws[i]?) = wr.map some) (hndR : va_nd isR = true) (hdis : ∀ i ∈ isR, i ∉ isC)
    (hn : As.length = n) (hsize : ls.size = nL) (hst : st0 = As.reverse ++ .ref b :: rest) (hroom : (rest.map fun v => v.category).sum ≤ 8) (hdg : decode cc pc = .ok (.invokespecial index, 3)) (hcs : cells + mc ≤ R.cells ∧ slots + ms ≤ R.slots)
    (kk : ∀ (q : Nat → Nat) (H1 : Heap) (locs1 : List Loc), va_P D vwCl (wr ++ fw q) H1 → va_D A (wr ++ fw q) → va_S A H0 H1 locs1 → W p l e R s m args below meth c H1 locs1 (cells + mc) (slots + ms) Q (F0 m (pc + 3) ls rest)) : W p l e R s m args below meth c H locs cells slots Q (F0 m pc ls st0) := by
  have hPc := kcut_P hP isC hC
  have hDc := hD.sub isC hnd hC
  have hFc := va_free hD hS hA isC hC
  refine va_callv (va_runI S hM cw ⟨mPcN_blind, fun U hU hWm => ⟨rfl, by rw [hU], by rw [hU]; exact hPc, va_K.moved hWm.alike hK, hDc.weaken (fun _ _ _ _ => trivial), va_AO.moved hWm.alike hO⟩⟩ rfl hn hsize hst (lv_room hroom) hdg hcs) hS (fun q _ h => hFc q h) hFc (fun u t H1 locs1 ht hvm hw hB hz1 hk1 hS1 => ?_)
  subst ht
  obtain ⟨q, hP1, hK1, hD1⟩ := hB
  obtain ⟨hP2, hD2⟩ := va_join hP hD isC isR hC hR hndR hdis hk1 hFc hP1 hD1
  exact kk q t.heap locs1 hP2 hD2 hS1
theorem kRn {fw : (Nat → Nat) → va_W} {mc ms : Nat} (q : Nat → Nat) (hQ : Q = MQ below (va_Qv (fun (_ : Unit) => True) (fun _ t => ∃ q : Nat → Nat, mB D tys A (fw q) t) A) args s mc ms A) (hexec : p.tables.exec = Jvm.exec) (hb : c.code = cc) (hr : meth.sig.returnType = none) (hlocks : meth.locks = false) (hK : va_K D vwCl tys s) (hP : va_P D vwCl (fw q) H) (hD : va_D A (fw q)) (hS : va_S A s.heap H locs) (hc1 : cells ≤ mc) (hc2 : slots ≤ ms) (hdg : decode cc pc = .ok (.return_, 1)) :
    W p l e R s m args below meth c H locs cells slots Q (F0 m pc ls []) := by
  subst hQ
  refine W.widen hc1 hc2 ?_
  exact W.vret hexec hb hr (fun t ht hW => ⟨⟨(), rfl, trivial, q, by rw [ht]; exact hP, va_K.moved hW.alike hK, hD⟩, hS.F ht⟩) hS.2.2 hdg
end KN
theorem kM_n {l : Launch} {y : MethodName} {cc : ByteArray} {n : Nat} {rm : Room} {D : va_G} {tys : List (ClassId × FieldType)} {As : List Value} {sz : Nat} {ws : va_W} {mc ms : Nat} {fw : (Nat → Nat) → va_W} (hy : plainName y.cls = true) (hlen : (lg_sl As).length ≤ n) (body : ∀ (p : Program) (e : Env) (s : State) (m : MethodId) (args : Array Value) (below : List Frame) (meth : Method) (c : Code) (A : Nat → Prop) (ls : Array Slot) (Q : State → Prop), p.tables.exec = Jvm.exec → c.code = cc → meth.sig.returnType = none → meth.locks = false → c.maxLocals = n → s.vm.findClass y.cls = some m.cls → (∀ w ∈ gW, w.before args s = true) → va_K D vwCl tys s → (∀ q : Nat, s.heap.size ≤ q → A q) → va_P D vwCl ws s.heap → va_D A ws → va_S A s.heap s.heap [] → lv_has ls n (lv_args 0 As) → va_AO "OneTill$Calls" s → meth.name = y.name →
      Q = MQ below (va_Qv (fun (_ : Unit) => True) (fun _ t => ∃ q : Nat → Nat, mB D tys A (fw q) t) A) args s mc ms A → W p l e rm s m args below meth c s.heap [] 0 0 Q (F0 m 0 ls [])) : mN l y cc n rm D tys As sz ws mc ms fw := by
  refine Met.ofW (cc := cc) (maxL := n) (ret := none) hy rfl ?_
  intro p e s m args below meth c s₁ B hml hv
  obtain ⟨rfl, hsz, hP, hK, hD0, hO⟩ := hv
  subst hsz
  have hts := atoms_spec (ws := .code y cc n none :: gW) B.pre
  rw [lg_entry_eq]
  exact body p e s m _ below meth c (va_A ws s.heap.size) _ _ B.exec B.bytes B.returns B.notSynchronized hml (findClass_of_methodNamed B.named) (fun w h => hts w (List.mem_cons_of_mem _ h)) hK (fun q h => Or.inr h) hP hD0.self va_S.rf (lv_entry As hlen) hO (name_of_methodNamed B.named B.method).1 rfl
