section
/-! lines of a text: calls, their times -/
theorem RK_add {K : Ca} {nw nw' : Nat → Int32} (h : RK K (ce K) nw) {q t a w b : Nat} (ho : ∀ p, p < 7 * cm K → nw' p = nw p) (e0 : nw' (7 * cm K) = nI q) (e1 : nw' (7 * cm K + 1) = nI t) (e2 : nw' (7 * cm K + 2) = nI a) (e3 : nw' (7 * cm K + 3) = nI w) (e4 : nw' (7 * cm K + 4) = nI b) (e5 : nw' (7 * cm K + 5) = -2) (e6 : nw' (7 * cm K + 6) = -2) (hm : nw' 141 = nI (cm K + 1)) :
    RK (addK K q t a w b) (ce (addK K q t a w b)) nw' := by
  refine ⟨hm, fun c hc => ?_⟩
  have hc' : c < cm K + 1 := hc
  show _ = nI (if c = cm K then q else cq K c) ∧ _ = nI (if c = cm K then t else ct K c) ∧ _ = nI (if c = cm K then a else cac K c) ∧ _ = nI (if c = cm K then w else cw K c) ∧ _ = nI (if c = cm K then b else cb K c) ∧ _ = (if c = cm K then -2 else ce K c) ∧ _ = (if c = cm K then -2 else cv K c)
  by_cases d : c = cm K
  · subst d
    simp only [↓reduceIte]
    exact ⟨e0, e1, e2, e3, e4, e5, e6⟩
  · simp only [d, ↓reduceIte]
    rw [ho _ (by omega), ho _ (by omega), ho _ (by omega), ho _ (by omega), ho _ (by omega), ho _ (by omega), ho _ (by omega)]
    exact h.2 c (by omega)
theorem RK_addc {K : Ca} {nw nw' : Nat → Int32} (h : RK K (ce K) nw) {q t a w b : Nat} {x v : Int32} (ho : ∀ p, p < 7 * cm K → nw' p = nw p) (e0 : nw' (7 * cm K) = nI q) (e1 : nw' (7 * cm K + 1) = nI t) (e2 : nw' (7 * cm K + 2) = nI a) (e3 : nw' (7 * cm K + 3) = nI w) (e4 : nw' (7 * cm K + 4) = nI b) (e5 : nw' (7 * cm K + 5) = x) (e6 : nw' (7 * cm K + 6) = v) (hm : nw' 141 = nI (cm K + 1)) :
    RK (clsK (addK K q t a w b) (cm K) x v) (ce (clsK (addK K q t a w b) (cm K) x v)) nw' := by
  refine ⟨hm, fun c hc => ?_⟩
  have hc' : c < cm K + 1 := hc
  show _ = nI (if c = cm K then q else cq K c) ∧ _ = nI (if c = cm K then t else ct K c) ∧ _ = nI (if c = cm K then a else cac K c) ∧ _ = nI (if c = cm K then w else cw K c) ∧ _ = nI (if c = cm K then b else cb K c) ∧ _ = (if c = cm K then x else if c = cm K then -2 else ce K c) ∧ _ = (if c = cm K then v else if c = cm K then -2 else cv K c)
  by_cases d : c = cm K
  · subst d
    simp only [↓reduceIte]
    exact ⟨e0, e1, e2, e3, e4, e5, e6⟩
  · simp only [d, ↓reduceIte]
    rw [ho _ (by omega), ho _ (by omega), ho _ (by omega), ho _ (by omega), ho _ (by omega), ho _ (by omega), ho _ (by omega)]
    exact h.2 c (by omega)
theorem b408_1 (at1 en tok wr ns fa pc : Int32) (nw le : Nat → Int32) : F_X10_callLine_b408 at1 en tok wr ns fa pc 1 nw le = some (at1, en, tok, wr, ns, fa, pc, 1, nw, le) := by
  unfold F_X10_callLine_b408; rw [if_neg i1_0]
theorem times40 {fu : Nat} (hfu : 20000 ≤ fu) {n : Nat} (hn : n ≤ 900) {f : Nat → Int32} {T : Nat → Nat} (ht : tx f T) {k p e w : Nat} {bh so pl wh : Int32} {wo : Int64} {at1 en tok wr ns : Int32} {le : Nat → Int32} (h : TK n f T k p e w bh so pl wh wo at1 en tok wr ns le) (fa pc fa' pc' : Int32) {nt : Nat} {kd : Nat → Nat} {K : Ca} {f0 f1 f2 f3 f4 f5 f6 nw : Nat → Int32} (hok : okC 4 nt kd K) (hRC : RC K (nI (cm K)) f0 f1 f2 f3 f4 f5 f6) (hK : RK K (ce K) nw) (hs0 : nw 140 = 0) (hm : cm K < 20) {q t a w0 : Nat} (hq : q < 4) (htt : t < nt) (ha : okA (kd t) a) (hw0 : w0 ≤ 9) (g0 : nw (7 * cm K) = nI q) (g1 : nw (7 * cm K + 1) = nI t) (g2 : nw (7 * cm K + 2) = nI a) (g3 : nw (7 * cm K + 3) = nI w0) {lo : Nat} (hlo : lo ≤ 1000) :
    (∃ k' p' e' w' bh' so' pl' wh' wo' at2 en' tok' wr' ns' le' K' n' f0' f1' f2' f3' f4' f5' f6' nw', e ≤ p' ∧ F_X3_callTimes_b40 fu fa pc (nI q) (nI t) (nI a) (nI w0) (nI (cm K)) f0 (nI n) bh so pl wh wo f f5 f1 f2 f3 f4 f6 (nI lo) = some (1, fa, pc, n', f0', bh', so', pl', wh', wo', f5', f1', f2', f3', f4', f6') ∧ F_X10_callLine_b304 fu (nI n) at1 en tok wr ns fa' pc' 0 nw le f (nI (7 * cm K)) (nI lo) = some (at2, en', tok', wr', ns', fa', pc', 0, nw', le') ∧ TK n f T k' p' e' w' bh' so' pl' wh' wo' at2 en' tok' wr' ns' le' ∧ okC 4 nt kd K' ∧ RC K' n' f0' f1' f2' f3' f4' f5' f6' ∧ RK K' (ce K') nw' ∧ nw' 140 = 0) ∨
    (∃ c z bh' so' pl' wh' wo' at2 en' tok' wr' ns' le' n' f0' f1' f2' f3' f4' f5' f6' nw', F_X3_callTimes_b40 fu fa pc (nI q) (nI t) (nI a) (nI w0) (nI (cm K)) f0 (nI n) bh so pl wh wo f f5 f1 f2 f3 f4 f6 (nI lo) = some (0, c, z, n', f0', bh', so', pl', wh', wo', f5', f1', f2', f3', f4', f6') ∧ F_X10_callLine_b304 fu (nI n) at1 en tok wr ns fa' pc' 0 nw le f (nI (7 * cm K)) (nI lo) = some (at2, en', tok', wr', ns', c, z, 1, nw', le')) := by
  have k4 : nI (7 * cm K) + (4 : Int32) = nI (7 * cm K + 4) := by rw [zl_4, zq_add]
  have k5 : nI (7 * cm K) + (5 : Int32) = nI (7 * cm K + 5) := by rw [zl_5, zq_add]
  have k6 : nI (7 * cm K) + (6 : Int32) = nI (7 * cm K + 6) := by rw [zl_6, zq_add]
  have c4 : (nI (7 * cm K + 4)).toNatClampNeg = 7 * cm K + 4 := zd_cl (by omega)
  have c5 : (nI (7 * cm K + 5)).toNatClampNeg = 7 * cm K + 5 := zd_cl (by omega)
  have c6 : (nI (7 * cm K + 6)).toNatClampNeg = 7 * cm K + 6 := zd_cl (by omega)
  have n4 : ¬ (nI (7 * cm K + 4) < 0 ∨ 142 ≤ 7 * cm K + 4) := in9 (by omega) (by omega)
  have n5 : ¬ (nI (7 * cm K + 5) < 0 ∨ 142 ≤ 7 * cm K + 5) := in9 (by omega) (by omega)
  have n6 : ¬ (nI (7 * cm K + 6) < 0 ∨ 142 ≤ 7 * cm K + 6) := in9 (by omega) (by omega)
  have h141 : (141 : Int32).toNatClampNeg = 141 := rfl
  unfold F_X3_callTimes_b40 F_X10_callLine_b304
  rw [k4, k5, k6, c4, c5, c6]
  simp only [if_neg n4, if_neg n5, if_neg n6]
  rcases num_both hfu hn ht h fa pc fa' pc' (lo := lo) (hi := 999) (by omega) (by omega) with ⟨b, b1, b2, b3, r1, k', p', e', w', bh', so', pl', wh', wo', at2, en', tok', wr', ns', le', hpp, r2, r3, hT⟩ | ⟨c, c1, r1, r2⟩
  · have r1' : F_X3_mustBeWhole fa pc so pl wh (nI lo) 999 = some (1, fa, pc) := r1
    have r3' : F_X10_number fu (nI n) at1 en tok wr ns fa' pc' 0 f le (nI lo) 999 = _ := r3
    obtain ⟨f0', f1', f2', f3', f4', f5', f6', a1, hRC'⟩ := X0_addOpen hRC hm q t a w0 b
    have hok' := okC_add (b := b) hok hm hq htt ha hw0 b2
    rw [r1', z_b3, if_neg i1_0, r2, z_b5, b3, a1, z_b9, r3', z_b10, if_pos i0_0]
    have hT1 := hT.2.1
    unfold F_X10_takes
    rcases is2 hfu hn ht hT (a := 20) (b := 38) rfl rfl with ⟨s1, s2, _⟩ | ⟨s1, s2⟩
    · obtain ⟨k2, p2, e2, w2, bh2, so2, pl2, wh2, wo2, at3, en2, tok2, wr2, ns2, le2, hpp2, u1, u2, hT2⟩ := nx_both hfu hn ht hT
      rw [s1, s2, z_b1, z_b1, if_neg i1_0, if_neg i1_0, u1, u2, z_b5, z_b6, z_b7, if_neg i1_0]
      unfold F_X10_callLine_b408
      rw [if_pos i0_0, h141]
      have e141 : upd (upd (upd nw (7 * cm K + 4) (nI b)) (7 * cm K + 5) (-2)) (7 * cm K + 6) (-2) 141 + (1 : Int32) = nI (cm K + 1) := by
        rw [z_upd, if_neg (by omega), z_upd, if_neg (by omega), z_upd, if_neg (by omega), hK.1, zl_1, zq_add]
      rw [e141]
      refine Or.inl ⟨k2, p2, e2, w2, bh2, so2, pl2, wh2, wo2, at3, en2, tok2, wr2, ns2, le2, addK K q t a w0 b, nI (cm K + 1), f0', f1', f2', f3', f4', f5', f6', _, by omega, rfl, rfl, hT2, hok', hRC', ?_, ?_⟩
      · refine RK_add hK (fun p hp => ?_) ?_ ?_ ?_ ?_ ?_ ?_ ?_ ?_
        · rw [z_upd, if_neg (by omega), z_upd, if_neg (by omega), z_upd, if_neg (by omega), z_upd, if_neg (by omega)]
        · rw [z_upd, if_neg (by omega), z_upd, if_neg (by omega), z_upd, if_neg (by omega), z_upd, if_neg (by omega)]; exact g0
        · rw [z_upd, if_neg (by omega), z_upd, if_neg (by omega), z_upd, if_neg (by omega), z_upd, if_neg (by omega)]; exact g1
        · rw [z_upd, if_neg (by omega), z_upd, if_neg (by omega), z_upd, if_neg (by omega), z_upd, if_neg (by omega)]; exact g2
        · rw [z_upd, if_neg (by omega), z_upd, if_neg (by omega), z_upd, if_neg (by omega), z_upd, if_neg (by omega)]; exact g3
        · rw [z_upd, if_neg (by omega), z_upd, if_neg (by omega), z_upd, if_neg (by omega), z_upd, if_pos rfl]
        · rw [z_upd, if_neg (by omega), z_upd, if_neg (by omega), z_upd, if_pos rfl]
        · rw [z_upd, if_neg (by omega), z_upd, if_pos rfl]
        · rw [z_upd, if_pos rfl]
      · rw [z_upd, if_neg (by omega), z_upd, if_neg (by omega), z_upd, if_neg (by omega), z_upd, if_neg (by omega)]; exact hs0
    · rw [s1, s2, z_b1, z_b1, if_pos i0_0, if_pos i0_0, z_b7, if_pos i0_0]
      rcases pass_both hfu hn ht hT fa pc fa' pc' (a := 21) (b := 39) rfl rfl with ⟨k2, p2, e2, w2, bh2, so2, pl2, wh2, wo2, at3, en2, tok2, wr2, ns2, le2, hpp2, u1, u2, hT2⟩ | ⟨u1, u2⟩
      · rw [u1, u2, z_b8, z_b9, if_neg i1_0]
        have hT21 := hT2.2.1
        rcases num_both hfu hn ht hT2 fa pc fa' pc' (lo := b) (hi := 999) (by omega) (by omega) with ⟨x, x1, x2, x3, v1, k3, p3, e3, w3, bh3, so3, pl3, wh3, wo3, at4, en3, tok3, wr3, ns3, le3, hpp3, v2, v3, hT3⟩ | ⟨c, c1, v1, v2⟩
        · have v1' : F_X3_mustBeWhole fa pc so2 pl2 wh2 (nI b) 999 = some (1, fa, pc) := v1
          have v3' : F_X10_number fu (nI n) at3 en2 tok2 wr2 ns2 fa' pc' 0 f le2 (nI b) 999 = _ := v3
          rw [v1', z_b3, if_neg i1_0, v2, z_b5, v3', z_b10]
          have hT31 := hT3.2.1
          rcases pass_both hfu hn ht hT3 fa pc fa' pc' (a := 22) (b := 40) rfl rfl with ⟨k4', p4, e4, w4, bh4, so4, pl4, wh4, wo4, at5, en4, tok4, wr4, ns4, le4, hpp4, y1, y2, hT4⟩ | ⟨y1, y2⟩
          · rw [y1, y2, z_b8, z_b9, if_neg i1_0]
            have hT41 := hT4.2.1
            rcases num_both hfu hn ht hT4 fa pc fa' pc' (lo := 0) (hi := 99) (by omega) (by omega) with ⟨v, _, v99, vw, o1, k5', p5, e5, w5, bh5, so5, pl5, wh5, wo5, at6, en5, tok5, wr5, ns5, le5, hpp5, o2, o3, hT5⟩ | ⟨c, c1, o1, o2⟩
            · have o1' : F_X3_mustBeWhole fa pc so4 pl4 wh4 0 99 = some (1, fa, pc) := o1
              have o3' : F_X10_number fu (nI n) at5 en4 tok4 wr4 ns4 fa' pc' 0 f le4 0 99 = _ := o3
              obtain ⟨f5'', f6'', d1, hRC''⟩ := X0_close hRC' (c := cm K) (by show cm K + 1 ≤ 20; omega) (by show cm K < cm K + 1; omega) (nI x) (nI v)
              rw [o1', z_b3, if_neg i1_0, x3, vw, d1, z_b2, ← vw, o2, z_b5, o3', z_b10]
              unfold F_X10_callLine_b408
              rw [if_pos i0_0, h141]
              have e141 : upd (upd (upd (upd (upd nw (7 * cm K + 4) (nI b)) (7 * cm K + 5) (-2)) (7 * cm K + 6) (-2)) (7 * cm K + 5) (nI x)) (7 * cm K + 6) (nI v) 141 + (1 : Int32) = nI (cm K + 1) := by
                rw [z_upd, if_neg (by omega), z_upd, if_neg (by omega), z_upd, if_neg (by omega), z_upd, if_neg (by omega), z_upd, if_neg (by omega), hK.1, zl_1, zq_add]
              rw [e141]
              have hxb : cb (addK K q t a w0 b) (cm K) = b := by
                show (if cm K = cm K then b else cb K (cm K)) = b
                rw [if_pos rfl]
              refine Or.inl ⟨k5', p5, e5, w5, bh5, so5, pl5, wh5, wo5, at6, en5, tok5, wr5, ns5, le5, clsK (addK K q t a w0 b) (cm K) (nI x) (nI v), nI (cm K + 1), f0', f1', f2', f3', f4', f5'', f6'', _, by omega, rfl, rfl, hT5, okC_cls hok' (by show cm K < cm K + 1; omega) (by rw [hxb]; exact x1) x2 v99, hRC'', ?_, ?_⟩
              · refine RK_addc hK (fun p hp => ?_) ?_ ?_ ?_ ?_ ?_ ?_ ?_ ?_
                · rw [z_upd, if_neg (by omega), z_upd, if_neg (by omega), z_upd, if_neg (by omega), z_upd, if_neg (by omega), z_upd, if_neg (by omega), z_upd, if_neg (by omega)]
                · rw [z_upd, if_neg (by omega), z_upd, if_neg (by omega), z_upd, if_neg (by omega), z_upd, if_neg (by omega), z_upd, if_neg (by omega), z_upd, if_neg (by omega)]; exact g0
                · rw [z_upd, if_neg (by omega), z_upd, if_neg (by omega), z_upd, if_neg (by omega), z_upd, if_neg (by omega), z_upd, if_neg (by omega), z_upd, if_neg (by omega)]; exact g1
                · rw [z_upd, if_neg (by omega), z_upd, if_neg (by omega), z_upd, if_neg (by omega), z_upd, if_neg (by omega), z_upd, if_neg (by omega), z_upd, if_neg (by omega)]; exact g2
                · rw [z_upd, if_neg (by omega), z_upd, if_neg (by omega), z_upd, if_neg (by omega), z_upd, if_neg (by omega), z_upd, if_neg (by omega), z_upd, if_neg (by omega)]; exact g3
                · rw [z_upd, if_neg (by omega), z_upd, if_neg (by omega), z_upd, if_neg (by omega), z_upd, if_neg (by omega), z_upd, if_neg (by omega), z_upd, if_pos rfl]
                · rw [z_upd, if_neg (by omega), z_upd, if_neg (by omega), z_upd, if_pos rfl]
                · rw [z_upd, if_neg (by omega), z_upd, if_pos rfl]
                · rw [z_upd, if_pos rfl]
              · rw [z_upd, if_neg (by omega), z_upd, if_neg (by omega), z_upd, if_neg (by omega), z_upd, if_neg (by omega), z_upd, if_neg (by omega), z_upd, if_neg (by omega)]; exact hs0
            · have o1' : F_X3_mustBeWhole fa pc so4 pl4 wh4 0 99 = _ := o1
              have o2' : F_X10_number fu (nI n) at5 en4 tok4 wr4 ns4 fa' pc' 0 f le4 0 99 = _ := o2
              rw [o1', z_b3, if_pos i0_0, o2', z_b10, b408_1]
              exact Or.inr ⟨c, pl4, _, _, _, _, _, _, _, _, _, _, _, _, _, _, _, _, _, _, _, _, rfl, rfl⟩
          · rw [y1, y2, z_b8, z_b9, if_pos i0_0, num_1, z_b10, b408_1]
            exact Or.inr ⟨1, pl3, _, _, _, _, _, _, _, _, _, _, _, _, _, _, _, _, _, _, _, _, rfl, rfl⟩
        · have v1' : F_X3_mustBeWhole fa pc so2 pl2 wh2 (nI b) 999 = _ := v1
          have v2' : F_X10_number fu (nI n) at3 en2 tok2 wr2 ns2 fa' pc' 0 f le2 (nI b) 999 = _ := v2
          rw [v1', z_b3, if_pos i0_0, v2', z_b10, pass_1, z_b9, num_1, z_b10, b408_1]
          exact Or.inr ⟨c, pl2, _, _, _, _, _, _, _, _, _, _, _, _, _, _, _, _, _, _, _, _, rfl, rfl⟩
      · rw [u1, u2, z_b8, z_b9, if_pos i0_0, num_1, z_b10, pass_1, z_b9, num_1, z_b10, b408_1]
        exact Or.inr ⟨1, pl', _, _, _, _, _, _, _, _, _, _, _, _, _, _, _, _, _, _, _, _, rfl, rfl⟩
  · have r1' : F_X3_mustBeWhole fa pc so pl wh (nI lo) 999 = _ := r1
    have r2' : F_X10_number fu (nI n) at1 en tok wr ns fa' pc' 0 f le (nI lo) 999 = _ := r2
    rw [r1', z_b3, if_pos i0_0, r2', z_b10, if_neg i1_0]
    exact Or.inr ⟨c, pl, _, _, _, _, _, _, _, _, _, _, _, _, _, _, _, _, _, _, _, _, rfl, rfl⟩
end
