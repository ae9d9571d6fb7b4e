section
/-! lines of a text: law, till, cashiers -/
theorem law_no (fu : Nat) (sz at1 en tok wr ns fa pc : Int32) (le f fr : Nat → Int32) : F_X10_lawLine fu sz at1 en tok wr ns fa pc 1 le f fr = some (at1, en, tok, wr, ns, fa, pc, 1, le, upd fr 0 0) := by
  unfold F_X10_lawLine
  rw [pass_1, z_b9, num_1, z_b10, if_neg i1_0]; rfl
theorem law_yes {fu : Nat} (hfu : 20000 ≤ fu) {n : Nat} (hn : n ≤ 900) {f : Nat → Int32} {T : Nat → Nat} (ht : tx f T) {k p e w : Nat} {bh so pl wh : Int32} {wo : Int64} {at1 en tok wr ns : Int32} {le : Nat → Int32} (h : TK n f T k p e w bh so pl wh wo at1 en tok wr ns le) {bh0 so0 pl0 wh0 : Int32} {wo0 : Int64} (hx : F_X7_next fu (nI n) bh0 wh0 wo0 f = some (bh, so, pl, wh, wo)) (fa pc fa' pc' : Int32) (lat : Int32) (fr : Nat → Int32) :
    (∃ v, v ≤ 99 ∧ ∃ k' p' e' w' bh' so' pl' wh' wo' at2 en' tok' wr' ns' le', e ≤ p' ∧ F_X3_lawLine fu 0 fa pc (nI n) bh0 so0 pl0 wh0 wo0 f lat = some (1, 1, fa, pc, bh', so', pl', wh', wo', nI v) ∧ F_X10_lawLine fu (nI n) at1 en tok wr ns fa' pc' 0 le f fr = some (at2, en', tok', wr', ns', fa', pc', 0, le', upd (upd fr 0 (nI v)) 1 1) ∧ TK n f T k' p' e' w' bh' so' pl' wh' wo' at2 en' tok' wr' ns' le') ∨
    (∃ c q bh' so' pl' wh' wo' at2 en' tok' wr' ns' le' fr', F_X3_lawLine fu 0 fa pc (nI n) bh0 so0 pl0 wh0 wo0 f lat = some (0, 0, c, q, bh', so', pl', wh', wo', lat) ∧ F_X10_lawLine fu (nI n) at1 en tok wr ns fa' pc' 0 le f fr = some (at2, en', tok', wr', ns', c, q, 1, le', fr')) := by
  unfold F_X3_lawLine F_X10_lawLine
  rw [if_pos i0_0, hx, z_b5]
  rcases pass_both hfu hn ht h fa pc fa' pc' (a := 1) (b := 24) rfl rfl with ⟨k', p', e', w', bh', so', pl', wh', wo', at2, en', tok', wr', ns', le', hpp, q1, q2, hT⟩ | ⟨q1, q2⟩
  · rw [q1, q2, z_b8, z_b9, if_neg i1_0]
    rcases num_both hfu hn ht hT fa pc fa' pc' (lo := 0) (hi := 99) (by omega) (by omega) with ⟨v, v1, v2, v3, r1, k2, p2, e2, w2, bh2, so2, pl2, wh2, wo2, at3, en2, tok2, wr2, ns2, le2, hpp2, r2, r3, hT2⟩ | ⟨c, c1, r1, r2⟩
    · have r1' : F_X3_mustBeWhole fa pc so' pl' wh' 0 99 = some (1, fa, pc) := r1
      have r3' : F_X10_number fu (nI n) at2 en' tok' wr' ns' fa' pc' 0 f le' 0 99 = _ := r3
      rw [r1', z_b3, if_neg i1_0, r2, z_b5, r3', z_b10, if_pos i0_0]
      exact Or.inl ⟨v, v2, k2, p2, e2, w2, bh2, so2, pl2, wh2, wo2, at3, en2, tok2, wr2, ns2, le2, by have := hT.2.1; omega, by rw [v3], rfl, hT2⟩
    · have r1' : F_X3_mustBeWhole fa pc so' pl' wh' 0 99 = some (0, c, pl') := r1
      have r2' : F_X10_number fu (nI n) at2 en' tok' wr' ns' fa' pc' 0 f le' 0 99 = _ := r2
      rw [r1', z_b3, if_pos i0_0, r2', z_b10, if_neg i1_0]
      exact Or.inr ⟨c, pl', _, _, _, _, _, _, _, _, _, _, _, _, rfl, rfl⟩
  · rw [q1, q2, z_b8, z_b9, if_pos i0_0, num_1, z_b10, if_neg i1_0]
    exact Or.inr ⟨1, pl, _, _, _, _, _, _, _, _, _, _, _, _, rfl, rfl⟩
theorem kind_both {fu : Nat} (hfu : 20000 ≤ fu) {n : Nat} (hn : n ≤ 900) {f : Nat → Int32} {T : Nat → Nat} (ht : tx f T) {k p e w : Nat} {bh so pl wh : Int32} {wo : Int64} {at1 en tok wr ns : Int32} {le : Nat → Int32} (h : TK n f T k p e w bh so pl wh wo at1 en tok wr ns le) {α : Type} (Kf : Int32 → Option α) : ∃ t0, F_X3_kindHere fu bh so pl f = some t0 ∧ (t0 = -1 ∨ ∃ v, v < 5 ∧ t0 = nI v) ∧ (bnd1 (F_X10_isWord fu tok ns 0 le 30) fun r30 => if r30 = 0 then bnd1 (F_X10_isWord fu tok ns 0 le 31) fun r31 => if r31 = 0 then bnd1 (F_X10_isWord fu tok ns 0 le 32) fun r32 => if r32 = 0 then bnd1 (F_X10_isWord fu tok ns 0 le 33) fun r33 => if r33 = 0 then bnd1 (F_X10_isWord fu tok ns 0 le 34) fun r34 => if r34 = 0 then Kf (-1) else Kf 4 else Kf 3 else Kf 2 else Kf 1 else Kf 0) = Kf t0 := by
  unfold F_X3_kindHere
  rcases is2 hfu hn ht h (a := 9) (b := 30) rfl rfl with ⟨a0, b0, _⟩ | ⟨a0, b0⟩
  · rw [a0, b0]; exact ⟨0, rfl, Or.inr ⟨0, by omega, rfl⟩, rfl⟩
  rcases is2 hfu hn ht h (a := 10) (b := 31) rfl rfl with ⟨a1, b1, _⟩ | ⟨a1, b1⟩
  · rw [a0, b0, a1, b1]; exact ⟨1, rfl, Or.inr ⟨1, by omega, rfl⟩, rfl⟩
  rcases is2 hfu hn ht h (a := 11) (b := 32) rfl rfl with ⟨a2, b2, _⟩ | ⟨a2, b2⟩
  · rw [a0, b0, a1, b1, a2, b2]; exact ⟨2, rfl, Or.inr ⟨2, by omega, rfl⟩, rfl⟩
  rcases is2 hfu hn ht h (a := 12) (b := 33) rfl rfl with ⟨a3, b3, _⟩ | ⟨a3, b3⟩
  · rw [a0, b0, a1, b1, a2, b2, a3, b3]; exact ⟨3, rfl, Or.inr ⟨3, by omega, rfl⟩, rfl⟩
  rcases is2 hfu hn ht h (a := 13) (b := 34) rfl rfl with ⟨a4, b4, _⟩ | ⟨a4, b4⟩
  · rw [a0, b0, a1, b1, a2, b2, a3, b3, a4, b4]; exact ⟨4, rfl, Or.inr ⟨4, by omega, rfl⟩, rfl⟩
  · rw [a0, b0, a1, b1, a2, b2, a3, b3, a4, b4]; exact ⟨-1, rfl, Or.inl rfl, rfl⟩
theorem okC_kd {K : Ca} {kd : Nat → Nat} {nt v : Nat} (h : okC 4 nt kd K) : okC 4 (nt + 1) (uU kd nt v) K := by
  refine ⟨h.1, fun c hc => ?_⟩
  obtain ⟨y1, y2, y3, y4⟩ := h.2 c hc
  refine ⟨y1, by omega, ?_, y4⟩
  unfold uU
  rw [if_neg (by omega)]; exact y3
theorem till27_no (fu : Nat) (sz at1 en tok wr ns fa pc : Int32) (le fr f : Nat → Int32) : F_X10_tillLine_b27 fu sz at1 en tok wr ns fa pc 1 le fr f = some (at1, en, tok, wr, ns, fa, pc, 1, le, fr) := by
  unfold F_X10_tillLine_b27; rw [if_neg i1_0]
theorem till_no (fu : Nat) (sz at1 en tok wr ns fa pc : Int32) (le fr f : Nat → Int32) : ∃ r1 r2 r3, F_X10_mustName fu at1 tok ns fa pc 1 le = some (r1, r2, r3) ∧ r1 = fa ∧ r2 = pc ∧ r3 = 1 := by
  unfold F_X10_mustName F_X10_mustName_b50 F_X10_mustName_b63
  rw [isw_1, isw_1, isw_1, isw_1, isw_1, z_b1, if_pos i0_0, z_b1, if_pos i0_0, z_b1, if_pos i0_0, z_b1, if_pos i0_0, z_b1, if_pos i0_0, wrong_1, z_b3]
  by_cases d : tok = 2
  · rw [if_pos d, if_pos i0_0]; exact ⟨_, _, _, rfl, rfl, rfl, rfl⟩
  · rw [if_neg d]; exact ⟨_, _, _, rfl, rfl, rfl, rfl⟩
theorem till_bad (fu : Nat) (sz at1 en tok wr ns fa pc : Int32) (le fr f : Nat → Int32) : F_X10_tillLine fu sz at1 en tok wr ns fa pc 1 le fr f = some (at1, en, tok, wr, ns, fa, pc, 1, le, fr) := by
  obtain ⟨r1, r2, r3, h, rfl, rfl, rfl⟩ := till_no fu sz at1 en tok wr ns fa pc le fr f
  unfold F_X10_tillLine
  rw [h, z_b3, if_neg i1_0, till27_no]
theorem till_yes {fu : Nat} (hfu : 20000 ≤ fu) {n : Nat} (hn : n ≤ 900) {f : Nat → Int32} {T : Nat → Nat} (ht : tx f T) {k p e w : Nat} {bh so pl wh : Int32} {wo : Int64} {at1 en tok wr ns : Int32} {le : Nat → Int32} (h : TK n f T k p e w bh so pl wh wo at1 en tok wr ns le) {bh0 so0 pl0 wh0 : Int32} {wo0 : Int64} (hx : F_X7_next fu (nI n) bh0 wh0 wo0 f = some (bh, so, pl, wh, wo)) (fa pc fa' pc' : Int32) {law : Bool} {late nt nc : Nat} {kd U : Nat → Nat} {K : Ca} {lawT lat tls csh cn : Int32} {tn cns : Nat → Int64} {kinds f0 f1 f2 f3 f4 f5 f6 fr nw : Nat → Int32} (hR : RDS law late nt nc kd U K lawT lat tls csh cn tn cns kinds f0 f1 f2 f3 f4 f5 f6 fr nw) (hnt : nt < 3) :
    (∃ k' p' e' w' bh' so' pl' wh' wo' at2 en' tok' wr' ns' le' kd' U' tn' kinds' fr', e ≤ p' ∧ F_X3_tillLine fu fa pc tls csh (nI n) bh0 so0 pl0 wh0 wo0 f tn cns kinds = some (1, fa, pc, nI (nt + 1), bh', so', pl', wh', wo', tn', kinds') ∧ F_X10_tillLine fu (nI n) at1 en tok wr ns fa' pc' 0 le fr f = some (at2, en', tok', wr', ns', fa', pc', 0, le', fr') ∧ TK n f T k' p' e' w' bh' so' pl' wh' wo' at2 en' tok' wr' ns' le' ∧ RDS law late (nt + 1) nc kd' U' K lawT lat (nI (nt + 1)) csh cn tn' cns kinds' f0 f1 f2 f3 f4 f5 f6 fr' nw) ∨
    (∃ c q bh' so' pl' wh' wo' at2 en' tok' wr' ns' le' tn' fr', F_X3_tillLine fu fa pc tls csh (nI n) bh0 so0 pl0 wh0 wo0 f tn cns kinds = some (0, c, q, tls, bh', so', pl', wh', wo', tn', kinds) ∧ F_X10_tillLine fu (nI n) at1 en tok wr ns fa' pc' 0 le fr f = some (at2, en', tok', wr', ns', c, q, 1, le', fr')) := by
  obtain ⟨⟨hl1, hl2⟩, ⟨hla, hlb, hlc⟩, ⟨hnt3, rfl, hfr2⟩, ⟨hnc4, rfl, hfr6⟩, hkk, hk3, hN, ⟨hok, hRC⟩, hK, hs0⟩ := hR
  have hpl := TK_pl h
  have h2 : fr (2 : Int32).toNatClampNeg = nI nt := hfr2
  unfold F_X3_tillLine F_X10_tillLine
  rw [if_pos (show nI nt < (3 : Int32) by rw [zl_3, zd_lt (by omega) (by omega)]; exact hnt), hx, z_b5]
  rcases new_both hfu hn ht h fa pc fa' pc' hnt3 hnc4 hN with ⟨W, c1, c2, c3, hTW, rfl, hW⟩ | ⟨c1, c2⟩ | ⟨j, j7, c1, c2, c3⟩
  · obtain ⟨frk, m1, m2, m3⟩ := X10_keepName hfu (j := nt) (by omega) hTW fr
    obtain ⟨k', p', e', w', bh', so', pl', wh', wo', at2, en', tok', wr', ns', le', hpp, q1, q2, hT⟩ := nx_both hfu hn ht h
    rw [c1, c2, z_b3, z_b3, if_neg i1_0, if_neg (nI_in (by omega) (by omega)), zd_cl (by omega), q1, z_b5, if_pos i0_0, c3, z_b1, if_pos (by decide)]
    unfold F_X10_tillLine_b27
    rw [if_pos i0_0, h2, m1, z_b1, q2, z_b6]
    rcases pass_both hfu hn ht hT fa pc fa' pc' (a := 8) (b := 29) rfl rfl with ⟨k2, p2, e2, w2, bh2, so2, pl2, wh2, wo2, at3, en2, tok2, wr2, ns2, le2, hpp2, s1, s2, hT2⟩ | ⟨s1, s2⟩
    · rw [s1, s2, z_b8, z_b9, if_neg i1_0]
      obtain ⟨t0, g1, g2, g3⟩ := kind_both hfu hn ht hT2 (fun t => F_X10_tillLine_b123 fu (nI n) at3 en2 tok2 wr2 ns2 fa' pc' 0 le2 frk f (nI nt) t)
      rw [g1, z_b1]
      rcases g2 with g2 | ⟨v, v5, g2⟩
      · subst g2
        refine Or.inr ⟨1, pl2, bh2, so2, pl2, wh2, wo2, at3, en2, tok2, wr2, ns2, le2, vp_updL tn nt (lN W), frk, ?_, ?_⟩
        · rw [if_neg (by decide)]; rfl
        · refine Eq.trans g3 ?_
          show F_X10_tillLine_b123 fu (nI n) at3 en2 tok2 wr2 ns2 fa' pc' 0 le2 frk f (nI nt) (-1) = _
          unfold F_X10_tillLine_b123 F_X10_tillLine_b137
          rw [if_neg (by decide), wrong_0, z_b3, if_neg i1_0, TK_pl hT2]
      · subst g2
        obtain ⟨k3, p3, e3, w3, bh3, so3, pl3, wh3, wo3, at4, en3, tok3, wr3, ns3, le3, hpp3, u1, u2, hT3⟩ := nx_both hfu hn ht hT2
        refine Or.inl ⟨k3, p3, e3, w3, bh3, so3, pl3, wh3, wo3, at4, en3, tok3, wr3, ns3, le3, uU kd nt v, uU U nt W, vp_updL tn nt (lN W), upd kinds nt (nI v), upd (upd frk (3 + nt) (nI v)) 2 (nI (nt + 1)), ?_, ?_, ?_, hT3, ?_⟩
        · have := hT.2.1; have := hT2.2.1; omega
        · have ea : F_X5_addTill (nI nt) kinds (nI v) = some (nI (nt + 1), upd kinds nt (nI v)) := by
            unfold F_X5_addTill
            rw [if_neg (show ¬ (3 : Int32) ≤ nI nt by rw [zl_3, zd_le (by omega) (by omega)]; omega), if_neg (nI_in (by omega) (by omega)), zd_cl (by omega), zl_1, zq_add]
          rw [if_pos (show (0 : Int32) ≤ nI v by rw [zl_0, zd_le (by omega) (by omega)]; omega), ea, z_b2, u1, z_b5]
        · refine Eq.trans g3 ?_
          show F_X10_tillLine_b123 fu (nI n) at3 en2 tok2 wr2 ns2 fa' pc' 0 le2 frk f (nI nt) (nI v) = _
          unfold F_X10_tillLine_b123 F_X10_tillLine_b137
          have e3 : (3 : Int32) + nI nt = nI (3 + nt) := by rw [zl_3, zq_add]
          have ef : upd frk (3 + nt) (nI v) (2 : Int32).toNatClampNeg = nI nt := by
            show upd frk (3 + nt) (nI v) 2 = nI nt
            rw [z_upd, if_neg (by omega), m3 2 (by omega) (by omega), hfr2]
          rw [if_pos (show (0 : Int32) ≤ nI v by rw [zl_0, zd_le (by omega) (by omega)]; omega), if_pos i0_0, u2, z_b6, e3, if_neg (nI_in (by omega) (by omega)), zd_cl (by omega), ef, zl_1, zq_add]
          rfl
        · have fz : ∀ y, y < 7 → y ≠ 3 + nt → y ≠ 2 → upd (upd frk (3 + nt) (nI v)) 2 (nI (nt + 1)) y = fr y := fun y y1 y2 y3 => by
            rw [z_upd, if_neg y3, z_upd, if_neg y2, m3 y (by omega) (by omega)]
          refine ⟨⟨hl1, by rw [fz 1 (by omega) (by omega) (by omega)]; exact hl2⟩, ⟨hla, hlb, by rw [fz 0 (by omega) (by omega) (by omega)]; exact hlc⟩, ⟨by omega, rfl, by rw [z_upd, if_pos rfl]⟩, ⟨hnc4, rfl, by rw [fz 6 (by omega) (by omega) (by omega)]; exact hfr6⟩, fun t t3 => ?_, fun t tt => ?_, ?_, ⟨okC_kd hok, hRC⟩, hK, hs0⟩
          · unfold uU
            rw [z_upd]
            by_cases d : t = nt
            · rw [if_pos d, if_pos d]; exact ⟨rfl, v5⟩
            · rw [if_neg d, if_neg d]; exact hkk t t3
          · unfold uU
            by_cases d : t = nt
            · rw [if_pos d, d, z_upd, if_neg (by omega), z_upd, if_pos rfl]
            · rw [if_neg d, fz (3 + t) (by omega) (by omega) (by omega)]; exact hk3 t (by omega)
          · refine NS_add hN (a := nt) (by omega) (by unfold usd; omega) (fun j hj => by unfold usd; omega) hW (NM_of m2 ?_ (fun q hq => ?_)) (fun y y7 y8 y9 => ?_) (fun j hj => ?_) (fun j hj => ?_)
            · rw [z_upd, if_neg (by omega), z_upd, if_neg (by omega)]
            · rw [z_upd, if_neg (by omega), z_upd, if_neg (by omega)]
            · rw [z_upd, if_neg (by omega), z_upd, if_neg (by omega)]; exact m3 y y8 y9
            · unfold uU
              rw [z_updL]
              by_cases d : j = nt
              · rw [if_pos d, if_pos d]
              · rw [if_neg d, if_neg d]; exact hN.2.2.1 j (by omega)
            · unfold uU
              rw [if_neg (by omega)]; exact hN.2.2.2.1 j hj
    · rw [s1, s2, z_b8, z_b9, if_pos i0_0, isw_1, isw_1, isw_1, isw_1, isw_1]
      refine Or.inr ⟨1, pl', bh', so', pl', wh', wo', at2, en', tok', wr', ns', le', vp_updL tn nt (lN W), frk, rfl, ?_⟩
      show F_X10_tillLine_b123 fu (nI n) at2 en' tok' wr' ns' 1 pl' 1 le' frk f (nI nt) (-1) = _
      unfold F_X10_tillLine_b123 F_X10_tillLine_b137
      rw [if_neg (by decide), wrong_1, z_b3, if_neg i1_0]
  · rw [c1, c2, z_b3, z_b3, if_pos i0_0, if_neg i1_0, till27_no]
    exact Or.inr ⟨1, pl, _, _, _, _, _, _, _, _, _, _, _, _, _, rfl, rfl⟩
  · rw [c1, c2, z_b3, z_b3, if_pos i0_0, if_pos i0_0, c3, z_b1, if_neg (by rw [zl_0, zd_lt (by omega) (by omega)]; omega), wrong_0, z_b3, till27_no, hpl]
    exact Or.inr ⟨3, pl, _, _, _, _, _, _, _, _, _, _, _, _, _, rfl, rfl⟩
end
