/-! String constants, by their places: what is known of them, and length() and charAt(k) of one -/
def nS : Nat := 41
def siteS : List (String × Nat × String) := [(RX3, 97, "law"), (RX3, 133, "late"), (RX3, 106, "till"), (RX7, 62, "law"), (RX7, 68, "till"), (RX7, 70, "cashier"), (RX7, 72, "call"), (RX7, 74, "from"), (RX3, 147, "is"), (RX3, 155, "drawer"), (RX3, 159, "queue"), (RX3, 161, "set"), (RX3, 163, "counter"), (RX3, 165, "purses"), (RX3, 110, "cashier"), (RX3, 114, "call"), (RX3, 192, "put"), (RX3, 194, "take"), (RX3, 196, "see"), (RX3, 204, "from"), (RX3, 213, "open"), (RX3, 215, "to"), (RX3, 217, "told"), (RX10, 160, "law"), (RX10, 215, "late"), (RX10, 162, "till"), (RX10, 164, "cashier"), (RX10, 166, "call"), (RX10, 168, "from"), (RX10, 229, "is"), (RX10, 231, "drawer"), (RX10, 233, "queue"), (RX10, 235, "set"), (RX10, 237, "counter"), (RX10, 239, "purses"), (RX10, 252, "put"), (RX10, 254, "take"), (RX10, 256, "see"), (RX10, 262, "open"), (RX10, 264, "to"), (RX10, 266, "told")]
theorem kldcSw {T : State} {p : Program} {l : Launch} {e : Env} {R : Room} {s : State} {m : MethodId} {args : Array Value} {below : List Frame} {meth : Method} {c : Code} {locs : List Loc} {cells slots : Nat}
    (X : Stand p l e R s m args below meth c T locs cells slots) (hexec : p.tables.exec = Jvm.exec) {own text : String} {index : Nat} {a : Addr} (hown : s.vm.findClass own = some m.cls)
    (hZ : vk_R own index text a s) {g : JFrame} (hg : g.method = m) (hdg : decode c.code g.pc = .ok (.ldc_w index, 3)) :
    ∀ target, Steps p.tables e below (T.setTop { g with pc := g.pc + 3, stack := .ref a :: g.stack }) target → Steps p.tables e below (T.setTop g) target := by
  obtain ⟨k, cf, i, a', hk, hcf, hcp, -, hr, hev'⟩ := Cond.stringRef_spec hown hZ.1
  cases hZ.2.symm.trans hev'
  obtain ⟨k', hk', he⟩ := X.warmed.alike.2.2 _ _ hk
  have hr' : k'.resolved[index]? = some (some (.string a)) := by
    rcases X.warmed.entry hk hk' index with h | ⟨h, -⟩
    · rw [h]; exact hr
    · rw [hr] at h; cases h
  intro target hrest
  subst hg
  jvm_step X.here [hexec, hdg, ldc_w.wp_string (e := e) (s := T) (f := g) X.here.top hk' (by rw [he]; exact hcf) hcp hr']
  exact hrest
theorem va_ldcSw {p : Program} {l : Launch} {e : Env} {R : Room} {s : State} {m : MethodId} {args : Array Value} {below : List Frame} {meth : Method} {c : Code} {H : Heap} {locs : List Loc} {cells slots : Nat} {Q : State → Prop} {cc : ByteArray} {pc : Nat} {ls : Array Slot} {rest : List Value} (hexec : p.tables.exec = Jvm.exec) (hb : c.code = cc) {own tx : String} {index q : Nat} (hown : s.vm.findClass own = some m.cls) (hZ : vk_R own index tx q s) (hdg : decode cc pc = .ok (.ldc_w index, 3))
    (k : W p l e R s m args below meth c H locs cells slots Q (F0 m (pc + 3) ls (.ref q :: rest))) : W p l e R s m args below meth c H locs cells slots Q (F0 m pc ls rest) := by
  intro T hT X
  obtain ⟨t, a1, b1⟩ := k T hT X
  exact ⟨t, kldcSw X hexec hown hZ (g := F0 m pc ls rest) rfl (by rw [hb]; exact hdg) t a1, b1⟩
theorem lk_cons {a o d off : Int} {r : List (Int × Int)} {x v : Int32} (ha : Int32.ofInt a = v) (h : ¬ x = v) (k : Op.lookupswitch.offset r d x.toInt = off) : Op.lookupswitch.offset ((a, o) :: r) d x.toInt = off := by
  rw [Op.lookupswitch.offset_cons, if_neg (fun q => h (by rw [← ha, q, Int32.ofInt_toInt]))]
  exact k
theorem sAll : ∀ i, i < nS → lenS.getD i 0 < 10 ∧ ∀ k, k < lenS.getD i 0 → ((sCh i k &&& 255).toUInt32 % 65536).toInt32 = sCh i k ∧ narrow .char (.int (sCh i k)) = .int (sCh i k) := by decide +kernel
def sOne (len : Nat) (byt : List Int32) (a v : Nat) (A : Nat → Prop) (U : State) (H : Heap) : Prop := va_O "java/lang/String" a A U H ∧ va_OF "java/lang/String" "coder" "B" (.int 0) a A U H ∧ va_OF "java/lang/String" "value" "[B" (.ref v) a A U H ∧ va_T .byte v len (fun j => .int (byt.getD j 0)) A U H
def eS (adK adV : Nat → Nat) (A : Nat → Prop) (U : State) (H : Heap) : Prop :=
  (∀ i, i < nS → sOne (lenS.getD i 0) (bytS.getD i []) (adK i) (adV i) A U H) ∧ va_Z "java/lang/String" "COMPACT_STRINGS" "Z" (.int 1) A U H ∧ va_Zq "jdk/internal/util/Preconditions" "SIOOBE_FORMATTER" "Ljava/util/function/BiFunction;" A U H ∧ ∀ (i : Nat) (q : String × Nat × String), siteS[i]? = some q → vk_R q.1 q.2.1 q.2.2 (adK i) U
theorem eS.kept {adK adV : Nat → Nat} {A : Nat → Prop} {U : State} {H H1 : Heap} (h : eS adK adV A U H) (hq : ∀ a : Nat, a < H.size → ¬ A a → H1[a]? = H[a]?) : eS adK adV A U H1 :=
  ⟨fun i hi => ⟨(h.1 i hi).1.kept hq, (h.1 i hi).2.1.kept hq, (h.1 i hi).2.2.1.kept hq, (h.1 i hi).2.2.2.kept hq⟩, h.2.1.kept hq, h.2.2.1.kept hq, h.2.2.2⟩
theorem eS.narrow {adK adV : Nat → Nat} {A B : Nat → Prop} {U : State} {H : Heap} (h : eS adK adV A U H) (hAB : ∀ q, B q → A q) : eS adK adV B U H :=
  ⟨fun i hi => ⟨(h.1 i hi).1.narrow hAB, (h.1 i hi).2.1.narrow hAB, (h.1 i hi).2.2.1.narrow hAB, (h.1 i hi).2.2.2.narrow hAB⟩, h.2.1.narrow hAB, h.2.2.1.narrow hAB, h.2.2.2⟩
theorem eS.warm {adK adV : Nat → Nat} {A : Nat → Prop} {s U : State} {H : Heap} (hW : s.WarmedH U.vm) (h : eS adK adV A s H) : eS adK adV A U H :=
  ⟨fun i hi => ⟨va_O.moved hW.alike (h.1 i hi).1, va_OF.moved hW.alike (h.1 i hi).2.1, va_OF.moved hW.alike (h.1 i hi).2.2.1, va_T.moved hW.alike (h.1 i hi).2.2.2⟩, va_Z.moved hW.alike h.2.1, va_Zq.moved hW.alike h.2.2.1, fun i q hq => (h.2.2.2 i q hq).warm hW⟩
theorem eS.same {adK adV : Nat → Nat} {A : Nat → Prop} {s U : State} {H : Heap} (hv : U.vm = s.vm) (h : eS adK adV A s H) : eS adK adV A U H :=
  have ha : s.vm.Alike U.vm := by rw [hv]; exact Vm.Alike.refl s.vm
  ⟨fun i hi => ⟨va_O.moved ha (h.1 i hi).1, va_OF.moved ha (h.1 i hi).2.1, va_OF.moved ha (h.1 i hi).2.2.1, va_T.moved ha (h.1 i hi).2.2.2⟩, va_Z.moved ha h.2.1, va_Zq.moved ha h.2.2.1, fun i q hq => vk_R.same hv (h.2.2.2 i q hq)⟩
def mPcS (D : va_G) (tys : List (ClassId × FieldType)) (adK adV : Nat → Nat) (As : List Value) (sz : Nat) (ws : va_W) : Array Value → State → Prop := va_Pc As (fun U => U.heap.size = sz ∧ va_P D vwCl ws U.heap ∧ va_K D vwCl tys U ∧ va_D (fun _ => True) ws ∧ eS adK adV (va_A ws sz) U U.heap)
theorem mPcS_blind {D : va_G} {tys : List (ClassId × FieldType)} {adK adV : Nat → Nat} {As : List Value} {sz : Nat} {ws : va_W} : FrameBlind (mPcS D tys adK adV As sz ws) := fun a U g mk q => ⟨q.1, q.2.1, q.2.2.1, va_K.moved (u := U) (U := U.calling g mk a) (Vm.Alike.refl U.vm) q.2.2.2.1, q.2.2.2.2.1, eS.same (s := U) (U := U.calling g mk a) rfl q.2.2.2.2.2⟩
def mIS (l : Launch) (y : MethodName) (cc : ByteArray) (n : Nat) (ret : Option FieldType) (rm : Room) (D : va_G) (tys : List (ClassId × FieldType)) (adK adV : Nat → Nat) (As : List Value) (sz : Nat) (ws : va_W) (r0 : Int32) (w1 : va_W) : Prop :=
  Met l y (.code y cc n ret :: gW) rm (mPcS D tys adK adV As sz ws) (va_Qi (fun (r : Int32) (_ : Unit) => r = r0) (fun _ => mB D tys (va_A ws sz) w1) (va_A ws sz)) 0 0 (va_A ws sz)
def mVS (l : Launch) (y : MethodName) (cc : ByteArray) (n : Nat) (ret : Option FieldType) (rm : Room) (D : va_G) (tys : List (ClassId × FieldType)) (adK adV : Nat → Nat) (As : List Value) (sz : Nat) (ws : va_W) (w1 : va_W) : Prop :=
  Met l y (.code y cc n ret :: gW) rm (mPcS D tys adK adV As sz ws) (va_Qv (fun (_ : Unit) => True) (fun _ => mB D tys (va_A ws sz) w1) (va_A ws sz)) 0 0 (va_A ws sz)
section KS
variable {p : Program} {l : Launch} {e : Env} {R : Room} {s : State} {m : MethodId} {args : Array Value} {below : List Frame} {meth : Method} {c : Code} {H : Heap} {locs : List Loc} {cells slots : Nat} {Q : State → Prop} {A : Nat → Prop} {D : va_G} {tys : List (ClassId × FieldType)} {ws wc w1 ws' : va_W} {cc : ByteArray} {pc nL : Nat} {ls : Array Slot} {rest st0 As : List Value} {adK adV : Nat → Nat}
theorem eS_pre (hE : eS adK adV A s s.heap) (hS : va_S A s.heap H locs) (hFc : ∀ q, va_A wc H.size q → A q) {U : State} (hU : U.heap = H) (hWm : s.WarmedH U.vm) : eS adK adV (va_A wc H.size) U U.heap := by
  rw [hU]
  exact ((hE.kept hS.2.1).narrow hFc).warm hWm
theorem kVi_S {b ci index n mL' : Nat} {y : MethodName} {by' : ByteArray} {ret : Option FieldType} {rm : Room} {own C : String} {T : u_T} {N : Nat} {fs : List Value} {r0 : Int32} (hE : eS adK adV A s s.heap) (S : CallFix p m c cc nL s args gW own) (hK : va_K D vwCl tys s) (hP : va_P D vwCl ws H) (hD : va_D A ws) (hS : va_S A s.heap H locs) (hA : ∀ q, s.heap.size ≤ q → A q)
    (hM : mIS l y by' mL' ret rm D tys adK adV (.ref b :: As) H.size wc r0 w1) (cw : CallW R s args own C index y by' mL' ret (.code y by' mL' ret :: gW) rm 0 0 n) (q0 : Nat) (hrecv : ws[q0]? = some (b, .inr (ci, fs))) (hcl : vwCl[ci]? = some (C, T, N)) (isC isR : List Nat) (nw : Nat) (hC : isC.map (fun i => ws[i]?) = wc.map some) (hnd : va_nd isC = true) (hC1 : isC.map (fun i => ws'[i]?) = w1.map some) (wr : va_W) (ads : List Nat) (hR : isR.map (fun i => ws'[i]?) = wr.map some) (hR0 : isR.map (fun i => ws[i]?) = wr.map some) (hnw : ws'.length = nw) (hcov : kcov nw isC isR = true) (hAd : ws'.map Prod.fst = ads) (hAd0 : ws.map Prod.fst = ads)
    (hn : As.length = n) (hsize : ls.size = nL) (hst : st0 = As.reverse ++ .ref b :: rest) (hroom : (rest.map fun v => v.category).sum ≤ 8) (hdg : decode cc pc = .ok (.invokevirtual index, 3)) (hcs : cells + 0 ≤ R.cells ∧ slots + 0 ≤ R.slots)
    (kk : ∀ (H1 : Heap) (locs1 : List Loc), va_P D vwCl ws' H1 → va_D A ws' → va_S A s.heap H1 locs1 → W p l e R s m args below meth c H1 locs1 cells slots Q (F0 m (pc + 3) ls (.int r0 :: rest))) : W p l e R s m args below meth c H locs cells slots Q (F0 m pc ls st0) := by
  have hPc := kcut_P hP isC hC
  have hDc := hD.sub isC hnd hC
  have hFc := va_free hD hS hA isC hC
  refine va_calli (va_runV S hM cw ⟨mPcS_blind, va_recv hK hP hcl hrecv, fun U hU hWm => ⟨rfl, by rw [hU], by rw [hU]; exact hPc, va_K.moved hWm.alike hK, hDc.weaken (fun _ _ _ _ => trivial), eS_pre hE hS hFc hU hWm⟩⟩ rfl hn hsize hst (lv_room hroom) hdg hcs) hS (fun q _ h => hFc q h) hFc (fun r u t H1 locs1 ht hvm hw hB hz1 hk1 hS1 => ?_)
  subst hw
  subst ht
  exact kk t.heap locs1 (kset_join hP hD isC isR nw hC hC1 (hR.trans hR0.symm) hnw hcov hk1 hB.1) (va_D_fst hD (hAd.trans hAd0.symm)) hS1
theorem kVv_S {b ci index n mL' : Nat} {y : MethodName} {by' : ByteArray} {ret : Option FieldType} {rm : Room} {own C : String} {T : u_T} {N : Nat} {fs : List Value} (hE : eS adK adV A s s.heap) (S : CallFix p m c cc nL s args gW own) (hK : va_K D vwCl tys s) (hP : va_P D vwCl ws H) (hD : va_D A ws) (hS : va_S A s.heap H locs) (hA : ∀ q, s.heap.size ≤ q → A q)
    (hM : mVS l y by' mL' ret rm D tys adK adV (.ref b :: As) H.size wc w1) (cw : CallW R s args own C index y by' mL' ret (.code y by' mL' ret :: gW) rm 0 0 n) (q0 : Nat) (hrecv : ws[q0]? = some (b, .inr (ci, fs))) (hcl : vwCl[ci]? = some (C, T, N)) (isC isR : List Nat) (nw : Nat) (hC : isC.map (fun i => ws[i]?) = wc.map some) (hnd : va_nd isC = true) (hC1 : isC.map (fun i => ws'[i]?) = w1.map some) (wr : va_W) (ads : List Nat) (hR : isR.map (fun i => ws'[i]?) = wr.map some) (hR0 : isR.map (fun i => ws[i]?) = wr.map some) (hnw : ws'.length = nw) (hcov : kcov nw isC isR = true) (hAd : ws'.map Prod.fst = ads) (hAd0 : ws.map Prod.fst = ads)
    (hn : As.length = n) (hsize : ls.size = nL) (hst : st0 = As.reverse ++ .ref b :: rest) (hroom : (rest.map fun v => v.category).sum ≤ 8) (hdg : decode cc pc = .ok (.invokevirtual index, 3)) (hcs : cells + 0 ≤ R.cells ∧ slots + 0 ≤ R.slots)
    (kk : ∀ (H1 : Heap) (locs1 : List Loc), va_P D vwCl ws' H1 → va_D A ws' → va_S A s.heap H1 locs1 → W p l e R s m args below meth c H1 locs1 cells slots Q (F0 m (pc + 3) ls rest)) : W p l e R s m args below meth c H locs cells slots Q (F0 m pc ls st0) := by
  have hPc := kcut_P hP isC hC
  have hDc := hD.sub isC hnd hC
  have hFc := va_free hD hS hA isC hC
  refine va_callv (va_runV S hM cw ⟨mPcS_blind, va_recv hK hP hcl hrecv, fun U hU hWm => ⟨rfl, by rw [hU], by rw [hU]; exact hPc, va_K.moved hWm.alike hK, hDc.weaken (fun _ _ _ _ => trivial), eS_pre hE hS hFc hU hWm⟩⟩ rfl hn hsize hst (lv_room hroom) hdg hcs) hS (fun q _ h => hFc q h) hFc (fun u t H1 locs1 ht hvm hw hB hz1 hk1 hS1 => ?_)
  subst ht
  exact kk t.heap locs1 (kset_join hP hD isC isR nw hC hC1 (hR.trans hR0.symm) hnw hcov hk1 hB.1) (va_D_fst hD (hAd.trans hAd0.symm)) hS1
theorem frame_nil (hD : va_D A ws) (hS : va_S A s.heap H locs) (hA : ∀ q, s.heap.size ≤ q → A q) : ∀ q, va_A [] H.size q → A q := fun q h => by
  rcases h with ⟨k, e, h⟩ | h
  · simp at h
  · exact hA q (Nat.le_trans hS.1 h)
theorem join_nil {H1 : Heap} (hP : va_P D vwCl ws H) (hk : ∀ q : Nat, q < H.size → ¬ va_A [] H.size q → H1[q]? = H[q]?) : va_P D vwCl ws H1 :=
  hP.kept (fun k q h => hk q.1 (hP k q h).lt (fun hA => by
    rcases hA with ⟨k, e, h⟩ | h2
    · simp at h
    · have := (hP k q h).lt
      omega))
/-- a call of a String's own method that reads -/
theorem kTi {i index n mL' : Nat} {y : MethodName} {by' : ByteArray} {ret : Option FieldType} {rm : Room} {own : String} {r0 : Int32} (hE : eS adK adV A s s.heap) (hi : i < nS) (S : CallFix p m c cc nL s args gW own) (hK : va_K D vwCl tys s) (hP : va_P D vwCl ws H) (hD : va_D A ws) (hS : va_S A s.heap H locs) (hA : ∀ q, s.heap.size ≤ q → A q)
    (hM : mIS l y by' mL' ret rm D tys adK adV (.ref (adK i) :: As) H.size [] r0 []) (cw : CallW R s args own "java/lang/String" index y by' mL' ret (.code y by' mL' ret :: gW) rm 0 0 n) 
    (hn : As.length = n) (hsize : ls.size = nL) (hst : st0 = As.reverse ++ .ref (adK i) :: rest) (hroom : (rest.map fun v => v.category).sum ≤ 8) (hdg : decode cc pc = .ok (.invokevirtual index, 3)) (hcs : cells + 0 ≤ R.cells ∧ slots + 0 ≤ R.slots)
    (kk : ∀ (H1 : Heap) (locs1 : List Loc), va_P D vwCl ws H1 → va_S A s.heap H1 locs1 → W p l e R s m args below meth c H1 locs1 cells slots Q (F0 m (pc + 3) ls (.int r0 :: rest))) : W p l e R s m args below meth c H locs cells slots Q (F0 m pc ls st0) := by
  have hFc := frame_nil hD hS hA
  have hrec : ∃ cell : Cell, H[adK i]? = some cell ∧ cell.vm.isStatics = false ∧ s.vm.findClass "java/lang/String" = some cell.cls := by
    obtain ⟨cell, h1, h2, h3, -⟩ := (hE.1 i hi).1.kept hS.2.1
    exact ⟨cell, h1, h2, h3⟩
  refine va_calli (va_runV S hM cw ⟨mPcS_blind, hrec, fun U hU hWm => ⟨rfl, by rw [hU], fun k q h => by simp at h, va_K.moved hWm.alike hK, ⟨fun i j p q h => by simp at h, fun k q h => by simp at h⟩, eS_pre hE hS hFc hU hWm⟩⟩ rfl hn hsize hst (lv_room hroom) hdg hcs) hS (fun q _ h => hFc q h) hFc (fun r u t H1 locs1 ht hvm hw hB hz1 hk1 hS1 => ?_)
  subst hw
  subst ht
  exact kk t.heap locs1 (join_nil hP hk1) hS1
theorem kTs {index n mL' : Nat} {y : MethodName} {by' : ByteArray} {ret : Option FieldType} {rm : Room} {own : String} {r0 : Int32} (hE : eS adK adV A s s.heap) (S : CallFix p m c cc nL s args gW own) (hK : va_K D vwCl tys s) (hP : va_P D vwCl ws H) (hD : va_D A ws) (hS : va_S A s.heap H locs) (hA : ∀ q, s.heap.size ≤ q → A q)
    (hM : mIS l y by' mL' ret rm D tys adK adV As H.size [] r0 []) (cw : CallB R s args own index y by' mL' ret (.code y by' mL' ret :: gW) rm 0 0 n ∧ (Cond.static y).before args s = true)
    (hn : As.length = n) (hsize : ls.size = nL) (hst : st0 = As.reverse ++ rest) (hroom : (rest.map fun v => v.category).sum ≤ 8) (hdg : decode cc pc = .ok (.invokestatic index, 3)) (hcs : cells + 0 ≤ R.cells ∧ slots + 0 ≤ R.slots)
    (kk : ∀ (H1 : Heap) (locs1 : List Loc), va_P D vwCl ws H1 → va_S A s.heap H1 locs1 → W p l e R s m args below meth c H1 locs1 cells slots Q (F0 m (pc + 3) ls (.int r0 :: rest))) : W p l e R s m args below meth c H locs cells slots Q (F0 m pc ls st0) := by
  have hFc := frame_nil hD hS hA
  refine va_calli (va_runS S hM cw ⟨mPcS_blind, fun U hU hWm => ⟨rfl, by rw [hU], fun k q h => by simp at h, va_K.moved hWm.alike hK, ⟨fun i j p q h => by simp at h, fun k q h => by simp at h⟩, eS_pre hE hS hFc hU hWm⟩⟩ rfl hn hsize hst (lv_room hroom) hdg hcs) hS (fun q _ h => hFc q h) hFc (fun r u t H1 locs1 ht hvm hw hB hz1 hk1 hS1 => ?_)
  subst hw
  subst ht
  exact kk t.heap locs1 (join_nil hP hk1) hS1
theorem kTv {index n mL' : Nat} {y : MethodName} {by' : ByteArray} {ret : Option FieldType} {rm : Room} {own : String} (hE : eS adK adV A s s.heap) (S : CallFix p m c cc nL s args gW own) (hK : va_K D vwCl tys s) (hP : va_P D vwCl ws H) (hD : va_D A ws) (hS : va_S A s.heap H locs) (hA : ∀ q, s.heap.size ≤ q → A q)
    (hM : mVS l y by' mL' ret rm D tys adK adV As H.size [] []) (cw : CallB R s args own index y by' mL' ret (.code y by' mL' ret :: gW) rm 0 0 n ∧ (Cond.static y).before args s = true)
    (hn : As.length = n) (hsize : ls.size = nL) (hst : st0 = As.reverse ++ rest) (hroom : (rest.map fun v => v.category).sum ≤ 8) (hdg : decode cc pc = .ok (.invokestatic index, 3)) (hcs : cells + 0 ≤ R.cells ∧ slots + 0 ≤ R.slots)
    (kk : ∀ (H1 : Heap) (locs1 : List Loc), va_P D vwCl ws H1 → va_S A s.heap H1 locs1 → W p l e R s m args below meth c H1 locs1 cells slots Q (F0 m (pc + 3) ls rest)) : W p l e R s m args below meth c H locs cells slots Q (F0 m pc ls st0) := by
  have hFc := frame_nil hD hS hA
  refine va_callv (va_runS S hM cw ⟨mPcS_blind, fun U hU hWm => ⟨rfl, by rw [hU], fun k q h => by simp at h, va_K.moved hWm.alike hK, ⟨fun i j p q h => by simp at h, fun k q h => by simp at h⟩, eS_pre hE hS hFc hU hWm⟩⟩ rfl hn hsize hst (lv_room hroom) hdg hcs) hS (fun q _ h => hFc q h) hFc (fun u t H1 locs1 ht hvm hw hB hz1 hk1 hS1 => ?_)
  subst ht
  exact kk t.heap locs1 (join_nil hP hk1) hS1
end KS
section KMS
variable {l : Launch} {y : MethodName} {cc : ByteArray} {n : Nat} {ret : Option FieldType} {rm : Room} {D : va_G} {tys : List (ClassId × FieldType)} {As : List Value} {sz : Nat} {ws w1 : va_W} {adK adV : Nat → Nat}
theorem kM_iS {r0 : Int32} (hy : plainName y.cls = true) (hlen : (lg_sl As).length ≤ n) (body : ∀ (p : Program) (e : Env) (s : State) (m : MethodId) (args : Array Value) (below : List Frame) (meth : Method) (c : Code) (A : Nat → Prop) (ls : Array Slot) (Q : State → Prop), p.tables.exec = Jvm.exec → c.code = cc → meth.sig.returnType = ret → meth.locks = false → c.maxLocals = n → s.vm.findClass y.cls = some m.cls → (∀ w ∈ gW, w.before args s = true) → va_K D vwCl tys s → (∀ q : Nat, s.heap.size ≤ q → A q) → va_P D vwCl ws s.heap → va_D A ws → va_S A s.heap s.heap [] → lv_has ls n (lv_args 0 As) → eS adK adV A s s.heap →
      Q = qI D tys below args s A r0 w1 0 0 → W p l e rm s m args below meth c s.heap [] 0 0 Q (F0 m 0 ls [])) : mIS l y cc n ret rm D tys adK adV As sz ws r0 w1 := by
  refine Met.ofW (cc := cc) (maxL := n) (ret := ret) hy rfl ?_
  intro p e s m args below meth c s₁ B hml hv
  obtain ⟨rfl, hsz, hP, hK, hD0, hE⟩ := hv
  subst hsz
  have hts := atoms_spec (ws := .code y cc n ret :: gW) B.pre
  rw [lg_entry_eq]
  exact body p e s m _ below meth c (va_A ws s.heap.size) _ _ B.exec B.bytes B.returns B.notSynchronized hml (findClass_of_methodNamed B.named) (fun w h => hts w (List.mem_cons_of_mem _ h)) hK (fun q h => Or.inr h) hP hD0.self va_S.rf (lv_entry As hlen) hE rfl
theorem kM_vS (hy : plainName y.cls = true) (hlen : (lg_sl As).length ≤ n) (body : ∀ (p : Program) (e : Env) (s : State) (m : MethodId) (args : Array Value) (below : List Frame) (meth : Method) (c : Code) (A : Nat → Prop) (ls : Array Slot) (Q : State → Prop), p.tables.exec = Jvm.exec → c.code = cc → meth.sig.returnType = ret → meth.locks = false → c.maxLocals = n → s.vm.findClass y.cls = some m.cls → (∀ w ∈ gW, w.before args s = true) → va_K D vwCl tys s → (∀ q : Nat, s.heap.size ≤ q → A q) → va_P D vwCl ws s.heap → va_D A ws → va_S A s.heap s.heap [] → lv_has ls n (lv_args 0 As) → eS adK adV A s s.heap →
      Q = qV D tys below args s A w1 0 0 → W p l e rm s m args below meth c s.heap [] 0 0 Q (F0 m 0 ls [])) : mVS l y cc n ret rm D tys adK adV As sz ws w1 := by
  refine Met.ofW (cc := cc) (maxL := n) (ret := ret) hy rfl ?_
  intro p e s m args below meth c s₁ B hml hv
  obtain ⟨rfl, hsz, hP, hK, hD0, hE⟩ := hv
  subst hsz
  have hts := atoms_spec (ws := .code y cc n ret :: gW) B.pre
  rw [lg_entry_eq]
  exact body p e s m _ below meth c (va_A ws s.heap.size) _ _ B.exec B.bytes B.returns B.notSynchronized hml (findClass_of_methodNamed B.named) (fun w h => hts w (List.mem_cons_of_mem _ h)) hK (fun q h => Or.inr h) hP hD0.self va_S.rf (lv_entry As hlen) hE rfl
end KMS
