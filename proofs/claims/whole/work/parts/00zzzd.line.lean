section
/-! a line of a text -/
def LY (n : Nat) (f : Nat → Int32) (T : Nat → Nat) (p : Nat) (fa pc fa' pc' : Int32) (X : Option (Int32 × Int32 × Int32 × Int32 × Int32 × Int32 × Int32 × Int32 × Int32 × Int32 × Int32 × Int32 × Int64 × Int32 × Int32 × Int32 × Int32 × (Nat → Int64) × (Nat → Int32) × (Nat → Int32) × (Nat → Int64) × (Nat → Int32) × (Nat → Int32) × (Nat → Int32) × (Nat → Int32) × (Nat → Int32) × (Nat → Int32))) (Y : Option (Int32 × Int32 × Int32 × Int32 × Int32 × Int32 × Int32 × Int32 × (Nat → Int32) × (Nat → Int32) × (Nat → Int32))) : Prop :=
  (∃ k' p' e' w' bh' so' pl' wh' wo' at2 en' tok' wr' ns' le' law' late' nt' nc' kd' U' K' lawT' lat' tls' csh' cn' ca' ti' ac' aw' tn' cns' kinds' f0' f1' f2' f3' f4' f5' f6' fr' nw', p < p' ∧ X = some (1, lawT', fa, pc, ca', ti', ac', aw', bh', so', pl', wh', wo', cn', tls', csh', lat', cns', f0', f5', tn', kinds', f1', f2', f3', f4', f6') ∧ Y = some (at2, en', tok', wr', ns', fa', pc', 0, fr', le', nw') ∧ TK n f T k' p' e' w' bh' so' pl' wh' wo' at2 en' tok' wr' ns' le' ∧ RDS law' late' nt' nc' kd' U' K' lawT' lat' tls' csh' cn' tn' cns' kinds' f0' f1' f2' f3' f4' f5' f6' fr' nw') ∨
  (∃ c z bh' so' pl' wh' wo' at2 en' tok' wr' ns' le' lawT' lat' tls' csh' cn' ca' ti' ac' aw' tn' cns' kinds' f0' f1' f2' f3' f4' f5' f6' fr' nw', X = some (0, lawT', c, z, ca', ti', ac', aw', bh', so', pl', wh', wo', cn', tls', csh', lat', cns', f0', f5', tn', kinds', f1', f2', f3', f4', f6') ∧ Y = some (at2, en', tok', wr', ns', c, z, 1, fr', le', nw') ∧ KB kinds')
theorem line_both {fu : Nat} (hfu : 20000 ≤ fu) {n : Nat} (hn : n ≤ 900) {f : Nat → Int32} {T : Nat → Nat} (ht : tx f T) {k p e w : Nat} {bh so pl wh : Int32} {wo : Int64} {at1 en tok wr ns : Int32} {le : Nat → Int32} (h : TK n f T k p e w bh so pl wh wo at1 en tok wr ns le) (fa pc fa' pc' ca ti ac aw : Int32) {law : Bool} {late nt nc : Nat} {kd U : Nat → Nat} {K : Ca} {lawT lat tls csh cn : Int32} {tn cns : Nat → Int64} {kinds f0 f1 f2 f3 f4 f5 f6 fr nw : Nat → Int32} (hR : RDS law late nt nc kd U K lawT lat tls csh cn tn cns kinds f0 f1 f2 f3 f4 f5 f6 fr nw) :
    LY n f T p fa pc fa' pc' (F_X3_line fu lawT fa pc ca ti ac aw (nI n) bh so pl wh wo f cn tls csh lat cns f0 f5 tn kinds f1 f2 f3 f4 f6) (F_X10_readLine fu (nI n) at1 en tok wr ns fa' pc' 0 fr le f nw) := by
  have hKB := RDS_KB hR
  have hR0 := hR
  obtain ⟨⟨hl1, hl2⟩, ⟨hla, hlb, hlc⟩, ⟨hnt3, htl, hfr2⟩, ⟨hnc4, hcs, hfr6⟩, hkk, hk3, hN, ⟨hok, hRC⟩, hK, hs0⟩ := hR
  have hpl := TK_pl h
  have hkp := h.2.2.2.1
  have g1 : fr (1 : Int32).toNatClampNeg = nI (if law = true then 1 else 0) := hl2
  have g2 : fr (2 : Int32).toNatClampNeg = nI nt := hfr2
  have g141 : nw (141 : Int32).toNatClampNeg = nI (cm K) := hK.1
  have hm := hok.1
  unfold F_X3_line F_X10_readLine
  rw [g1]
  rcases beg_both hfu hn ht h fa pc fa' pc' (a := 0) (b := 23) rfl rfl 3 with ⟨a1, ak, a2, k', p', e', w', bh', so', pl', wh', wo', at2, en', tok', wr', ns', le', hpp, a3, a4, hT⟩ | ⟨a1, a2⟩
  · subst ak
    have hp1 := hkp (by omega)
    rw [a1, z_b1, if_neg i1_0]
    unfold F_X10_readLine_b17
    cases law with
    | true =>
      have y1 : ¬ nI (if true = true then 1 else 0) = 0 := by decide
      have y2 : ¬ lawT = 0 := by rw [hl1]; exact y1
      unfold F_X3_lawLine
      rw [if_neg y1, a2, z_b10, if_neg i1_0, law_no, z_b10, if_neg y2]
      exact Or.inr ⟨3, pl, _, _, _, _, _, _, _, _, _, _, _, _, _, _, _, _, _, _, _, _, _, _, _, _, _, _, _, _, _, _, _, _, rfl, rfl, hKB⟩
    | false =>
      have y1 : nI (if false = true then 1 else 0) = 0 := by decide
      have y2 : lawT = 0 := by rw [hl1]; exact y1
      rw [if_pos y1, a4, z_b10, if_neg i1_0, y2]
      rcases law_yes hfu hn ht hT a3 fa pc fa' pc' (so0 := so) (pl0 := pl) lat fr with ⟨v, v99, k2, p2, e2, w2, bh2, so2, pl2, wh2, wo2, at3, en2, tok2, wr2, ns2, le2, hpp2, q1, q2, hT2⟩ | ⟨c, z, bh2, so2, pl2, wh2, wo2, at3, en2, tok2, wr2, ns2, le2, fr2, q1, q2⟩
      · have hT1 := hT.2.1
        rw [q1, q2, z_b10, z_b10, if_neg r11]
        have fz : ∀ y, y ≠ 0 → y ≠ 1 → upd (upd fr 0 (nI v)) 1 1 y = fr y := fun y y1 y2 => by rw [z_upd, if_neg y2, z_upd, if_neg y1]
        refine Or.inl ⟨k2, p2, e2, w2, bh2, so2, pl2, wh2, wo2, at3, en2, tok2, wr2, ns2, le2, true, v, nt, nc, kd, U, K, _, _, _, _, _, _, _, _, _, _, _, _, _, _, _, _, _, _, _, _, _, by omega, rfl, rfl, hT2, ⟨rfl, by rw [z_upd, if_pos rfl]; rfl⟩, ⟨v99, rfl, by rw [z_upd, if_neg (by omega), z_upd, if_pos rfl]⟩, ⟨hnt3, htl, by rw [fz 2 (by omega) (by omega)]; exact hfr2⟩, ⟨hnc4, hcs, by rw [fz 6 (by omega) (by omega)]; exact hfr6⟩, hkk, fun t tt => by rw [fz (3 + t) (by omega) (by omega)]; exact hk3 t tt, NS_frame hN (fun y hy => fz y (by omega) (by omega)), ⟨hok, hRC⟩, hK, hs0⟩
      · rw [q1, q2, z_b10, z_b10, if_neg r01]
        exact Or.inr ⟨c, z, _, _, _, _, _, _, _, _, _, _, _, _, _, _, _, _, _, _, _, _, _, _, _, _, _, _, _, _, _, _, _, _, rfl, rfl, hKB⟩
  · rw [a1, z_b1, if_pos i0_0]
    have hb : (if nI (if law = true then 1 else 0) = 0 then F_X10_readLine_b17 fu (nI n) at1 en tok wr ns fa' pc' 0 fr le f nw 1 else F_X10_readLine_b17 fu (nI n) at1 en tok wr ns fa' pc' 0 fr le f nw 0) = (if (3 : Int32) ≤ nI nt then F_X10_readLine_b49 fu (nI n) at1 en tok wr ns fa' pc' 0 fr le f nw 0 else F_X10_readLine_b49 fu (nI n) at1 en tok wr ns fa' pc' 0 fr le f nw 1) := by
      unfold F_X10_readLine_b17
      rw [a2, a2, z_b10, if_pos i0_0, g2]
      cases law with
      | true => rw [if_neg (by decide)]
      | false => rw [if_pos (by decide)]
    rw [hb]
    rcases beg_both hfu hn ht h fa pc fa' pc' (a := 2) (b := 25) rfl rfl 5 with ⟨b1, bk, b2, k', p', e', w', bh', so', pl', wh', wo', at2, en', tok', wr', ns', le', hpp, b3, b4, hT⟩ | ⟨b1, b2⟩
    · subst bk
      have hp1 := hkp (by omega)
      rw [b1, z_b1, if_neg i1_0]
      unfold F_X10_readLine_b49
      by_cases d : nt < 3
      · rw [if_neg (show ¬ (3 : Int32) ≤ nI nt by rw [zl_3, zd_le (by omega) (by omega)]; omega), b4, z_b10, if_neg i1_0]
        rcases till_yes hfu hn ht hT b3 fa pc fa' pc' (so0 := so) (pl0 := pl) hR0 d with ⟨k2, p2, e2, w2, bh2, so2, pl2, wh2, wo2, at3, en2, tok2, wr2, ns2, le2, kd2, U2, tn2, kinds2, fr2, hpp2, q1, q2, hT2, hR2⟩ | ⟨c, z, bh2, so2, pl2, wh2, wo2, at3, en2, tok2, wr2, ns2, le2, tn2, fr2, q1, q2⟩
        · have hT1 := hT.2.1
          rw [q1, q2, z_b11, z_b10, if_neg r11]
          exact Or.inl ⟨k2, p2, e2, w2, bh2, so2, pl2, wh2, wo2, at3, en2, tok2, wr2, ns2, le2, law, late, nt + 1, nc, kd2, U2, K, _, _, _, _, _, _, _, _, _, _, _, _, _, _, _, _, _, _, _, _, _, by omega, rfl, rfl, hT2, hR2⟩
        · rw [q1, q2, z_b11, z_b10, if_neg r01]
          exact Or.inr ⟨c, z, _, _, _, _, _, _, _, _, _, _, _, _, _, _, _, _, _, _, _, _, _, _, _, _, _, _, _, _, _, _, _, _, rfl, rfl, hKB⟩
      · unfold F_X3_tillLine
        rw [if_pos (show (3 : Int32) ≤ nI nt by rw [zl_3, zd_le (by omega) (by omega)]; omega), b2, z_b10, if_neg i1_0, till_bad, z_b10, htl, if_neg (show ¬ nI nt < (3 : Int32) by rw [zl_3, zd_lt (by omega) (by omega)]; exact d)]
        exact Or.inr ⟨5, pl, _, _, _, _, _, _, _, _, _, _, _, _, _, _, _, _, _, _, _, _, _, _, _, _, _, _, _, _, _, _, _, _, rfl, rfl, hKB⟩
    · rw [b1, z_b1, if_pos i0_0]
      have hb2 : (if (3 : Int32) ≤ nI nt then F_X10_readLine_b49 fu (nI n) at1 en tok wr ns fa' pc' 0 fr le f nw 0 else F_X10_readLine_b49 fu (nI n) at1 en tok wr ns fa' pc' 0 fr le f nw 1) = (bnd10 (F_X10_begins fu (nI n) at1 en tok wr ns fa' pc' 0 le f 26 (1 : Int32) (1 : Int32)) fun r68 u68_0 u68_1 u68_2 u68_3 u68_4 u68_5 u68_6 u68_7 u68_8 =>
          if r68 = 0 then
            if (20 : Int32) ≤ nI (cm K) then
              F_X10_readLine_b102 fu (nI n) u68_0 u68_1 u68_2 u68_3 u68_4 u68_5 u68_6 u68_7 fr u68_8 f nw (0 : Int32)
            else
              F_X10_readLine_b102 fu (nI n) u68_0 u68_1 u68_2 u68_3 u68_4 u68_5 u68_6 u68_7 fr u68_8 f nw (1 : Int32)
          else
          bnd10 (F_X10_cashierLine fu (nI n) u68_0 u68_1 u68_2 u68_3 u68_4 u68_5 u68_6 u68_7 u68_8 fr f) fun u75_0 u75_1 u75_2 u75_3 u75_4 u75_5 u75_6 u75_7 u75_8 u75_9 =>
          some (u75_0, u75_1, u75_2, u75_3, u75_4, u75_5, u75_6, u75_7, u75_9, u75_8, nw)) := by
        unfold F_X10_readLine_b49
        rw [b2, b2, z_b10, if_pos i0_0, g141]
        by_cases d : (3 : Int32) ≤ nI nt
        · rw [if_pos d]
        · rw [if_neg d]
      rw [hb2]
      rcases beg_both hfu hn ht h fa pc fa' pc' (a := 14) (b := 26) rfl rfl 1 with ⟨c1, ck, c2, k', p', e', w', bh', so', pl', wh', wo', at2, en', tok', wr', ns', le', hpp, c3, c4, hT⟩ | ⟨c1, c2⟩
      · subst ck
        have hp1 := hkp (by omega)
        rw [c1, z_b1, if_neg i1_0, c4, z_b10, if_neg i1_0]
        unfold F_X3_cashierLine F_X10_cashierLine F_X10_cashierLine_b12
        rw [if_pos i0_0]
        rcases cash_yes hfu hn ht fa pc fa' pc' (4 - nc) nc fu fu 0 k' p' e' w' bh' so' pl' wh' wo' at2 en' tok' wr' ns' le' bh so pl wh wo U csh cns fr (by omega) (by omega) (by omega) (by omega) hT c3 hR0 with ⟨k2, p2, e2, w2, bh2, so2, pl2, wh2, wo2, at3, en2, tok2, wr2, ns2, le2, nc2, U2, cns2, fr2, hpp2, q1, q2, hT2, hR2⟩ | ⟨c, z, bh2, so2, pl2, wh2, wo2, at3, en2, tok2, wr2, ns2, le2, csh2, cns2, fr2, q1, q2⟩
        · have hT1 := hT.2.1
          have q1' : F_X3_cashierLine_b2 fu (nI n) f tls tn fu fa pc bh so pl wh wo csh cns 0 = _ := q1
          rw [q1', q2, z_b10, z_b10, if_neg r11]
          exact Or.inl ⟨k2, p2, e2, w2, bh2, so2, pl2, wh2, wo2, at3, en2, tok2, wr2, ns2, le2, law, late, nt, nc2, kd, U2, K, _, _, _, _, _, _, _, _, _, _, _, _, _, _, _, _, _, _, _, _, _, by omega, rfl, rfl, hT2, hR2⟩
        · have q1' : F_X3_cashierLine_b2 fu (nI n) f tls tn fu fa pc bh so pl wh wo csh cns 0 = _ := q1
          rw [q1', q2, z_b10, z_b10, if_neg r01]
          exact Or.inr ⟨c, z, _, _, _, _, _, _, _, _, _, _, _, _, _, _, _, _, _, _, _, _, _, _, _, _, _, _, _, _, _, _, _, _, rfl, rfl, hKB⟩
      · rw [c1, z_b1, if_pos i0_0, c2, z_b10, if_pos i0_0]
        unfold F_X10_readLine_b102
        rcases beg_both hfu hn ht h fa pc fa' pc' (a := 15) (b := 27) rfl rfl 5 with ⟨d1, dk, d2, k', p', e', w', bh', so', pl', wh', wo', at2, en', tok', wr', ns', le', hpp, d3, d4, hT⟩ | ⟨d1, d2⟩
        · subst dk
          have hp1 := hkp (by omega)
          rw [d1, z_b1, if_neg i1_0]
          by_cases d : cm K < 20
          · rw [if_neg (show ¬ (20 : Int32) ≤ nI (cm K) by rw [zl_20, zd_le (by omega) (by omega)]; omega), d4, z_b10, if_neg i1_0]
            rcases call_yes hfu hn ht hT d3 fa pc fa' pc' (so0 := so) (pl0 := pl) ca ti ac aw hR0 d with ⟨k2, p2, e2, w2, bh2, so2, pl2, wh2, wo2, at3, en2, tok2, wr2, ns2, le2, K2, ca2, ti2, ac2, aw2, n2, f02, f12, f22, f32, f42, f52, f62, nw2, hpp2, q1, q2, hT2, o1, o2, o3, o4⟩ | ⟨c, z, bh2, so2, pl2, wh2, wo2, at3, en2, tok2, wr2, ns2, le2, ca2, ti2, ac2, aw2, n2, f02, f12, f22, f32, f42, f52, f62, nw2, q1, q2⟩
            · have hT1 := hT.2.1
              rw [q1, q2, z_b20, z_b10, if_neg r11]
              exact Or.inl ⟨k2, p2, e2, w2, bh2, so2, pl2, wh2, wo2, at3, en2, tok2, wr2, ns2, le2, law, late, nt, nc, kd, U, K2, _, _, _, _, _, _, _, _, _, _, _, _, _, _, _, _, _, _, _, _, _, by omega, rfl, rfl, hT2, ⟨hl1, hl2⟩, ⟨hla, hlb, hlc⟩, ⟨hnt3, htl, hfr2⟩, ⟨hnc4, hcs, hfr6⟩, hkk, hk3, hN, ⟨o1, o2⟩, o3, o4⟩
            · rw [q1, q2, z_b20, z_b10, if_neg r01]
              exact Or.inr ⟨c, z, _, _, _, _, _, _, _, _, _, _, _, _, _, _, _, _, _, _, _, _, _, _, _, _, _, _, _, _, _, _, _, _, rfl, rfl, hKB⟩
          · unfold F_X3_callLine
            rw [if_pos (show (20 : Int32) ≤ nI (cm K) by rw [zl_20, zd_le (by omega) (by omega)]; omega), d2, z_b10, if_neg i1_0, call_bad, z_b10, if_neg (show ¬ cn < (20 : Int32) by rw [hRC.1, zl_20, zd_lt (by omega) (by omega)]; exact d)]
            exact Or.inr ⟨5, pl, _, _, _, _, _, _, _, _, _, _, _, _, _, _, _, _, _, _, _, _, _, _, _, _, _, _, _, _, _, _, _, _, rfl, rfl, hKB⟩
        · rw [d1, z_b1, if_pos i0_0, d2, d2, z_b10, if_pos i0_0, wrong_0, z_b3, hpl]
          have hx : (if (20 : Int32) ≤ nI (cm K) then some (pl, en, tok, wr, ns, (1 : Int32), pl, (1 : Int32), fr, le, nw) else some (pl, en, tok, wr, ns, 1, pl, 1, fr, le, nw)) = some (pl, en, tok, wr, ns, 1, pl, 1, fr, le, nw) := by
            by_cases d : (20 : Int32) ≤ nI (cm K)
            · rw [if_pos d]
            · rw [if_neg d]
          rw [hx]
          exact Or.inr ⟨1, pl, _, _, _, _, _, _, _, _, _, _, _, _, _, _, _, _, _, _, _, _, _, _, _, _, _, _, _, _, _, _, _, _, rfl, rfl, hKB⟩
end
