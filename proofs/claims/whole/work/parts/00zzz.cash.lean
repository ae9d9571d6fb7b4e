section
/-! lines of a text: cashiers -/
theorem rtk4 : ∀ k, k < 6 → ((rtk k = 44) ↔ k = 4) ∧ rtk k < 100 := by decide
theorem comma_both {fu : Nat} (hfu : 20000 ≤ fu) {n : Nat} (hn : n ≤ 900) {f : Nat → Int32} {T : Nat → Nat} (ht : tx f T) {k p e w : Nat} {bh so pl wh : Int32} {wo : Int64} {at1 en tok wr ns : Int32} {le : Nat → Int32} (h : TK n f T k p e w bh so pl wh wo at1 en tok wr ns le) :
    (so = 4 ∧ ∃ k' p' e' w' bh' so' pl' wh' wo' at2 en' tok' wr' ns' le', e ≤ p' ∧ F_X7_next fu (nI n) bh wh wo f = some (bh', so', pl', wh', wo') ∧ F_X10_comma fu (nI n) at1 en tok wr ns 0 f le = some (1, at2, en', tok', wr', ns', le') ∧ TK n f T k' p' e' w' bh' so' pl' wh' wo' at2 en' tok' wr' ns' le') ∨
    (¬ so = 4 ∧ F_X10_comma fu (nI n) at1 en tok wr ns 0 f le = some (0, at1, en, tok, wr, ns, le)) := by
  obtain ⟨k', p', e', w', bh', so', pl', wh', wo', at2, en', tok', wr', ns', le', hpp, q1, q2, hT⟩ := nx_both hfu hn ht h
  have hk5 := h.1
  have hso := h.2.2.2.2.1.2.1
  have htk := h.2.2.2.2.2.1.2.2
  have hr := rtk4 k (by omega)
  unfold F_X10_comma
  rw [if_pos i0_0]
  by_cases d : k = 4
  · have e1 : tok = (44 : Int32) := by rw [htk, d]; rfl
    refine Or.inl ⟨by rw [hso, d]; rfl, k', p', e', w', bh', so', pl', wh', wo', at2, en', tok', wr', ns', le', hpp, q1, ?_, hT⟩
    rw [if_pos e1, q2]; rfl
  · have e1 : ¬ tok = (44 : Int32) := by rw [htk, zl_44, zd_eq (by omega) (by omega), hr.1]; exact d
    refine Or.inr ⟨by rw [hso, zl_4, zd_eq (by omega) (by omega)]; exact d, ?_⟩
    rw [if_neg e1]
theorem cash71_no (k13 : Int32 → Int32 → Int32 → Int32 → Int32 → Int32 → Int32 → Int32 → (Nat → Int32) → (Nat → Int32) → Int32 → Option (Int32 × Int32 × Int32 × Int32 × Int32 × Int32 × Int32 × Int32 × (Nat → Int32) × (Nat → Int32))) (fu : Nat) (sz at1 en tok wr ns fa pc : Int32) (le fr f : Nat → Int32) : F_X10_cashierLine_b71 k13 fu sz at1 en tok wr ns fa pc 1 le fr f = some (at1, en, tok, wr, ns, fa, pc, 1, le, fr) := by
  unfold F_X10_cashierLine_b71; rw [if_neg i1_0]
theorem cash44_no (k13 : Int32 → Int32 → Int32 → Int32 → Int32 → Int32 → Int32 → Int32 → (Nat → Int32) → (Nat → Int32) → Int32 → Option (Int32 × Int32 × Int32 × Int32 × Int32 × Int32 × Int32 × Int32 × (Nat → Int32) × (Nat → Int32))) (fu : Nat) (sz at1 en tok wr ns fa pc : Int32) (le fr f : Nat → Int32) : F_X10_cashierLine_b44 k13 fu sz at1 en tok wr ns fa pc 1 le fr f = some (at1, en, tok, wr, ns, fa, pc, 1, le, fr) := by
  unfold F_X10_cashierLine_b44; rw [if_neg i1_0, cash71_no]
theorem cash13_0 (fu : Nat) (sz at1 en tok wr ns fa pc ff : Int32) (le fr f : Nat → Int32) (kf : Nat) : F_X10_cashierLine_b13 fu sz f (kf + 1) at1 en tok wr ns fa pc ff le fr 0 = some (at1, en, tok, wr, ns, fa, pc, ff, le, fr) := by
  rw [F_X10_cashierLine_b13, if_pos i0_0]
theorem cash_yes {fu : Nat} (hfu : 20000 ≤ fu) {n : Nat} (hn : n ≤ 900) {f : Nat → Int32} {T : Nat → Nat} (ht : tx f T) (fa pc fa' pc' : Int32) {law : Bool} {late nt : Nat} {kd : Nat → Nat} {K : Ca} {lawT lat tls cn : Int32} {tn : Nat → Int64} {kinds f0 f1 f2 f3 f4 f5 f6 nw : Nat → Int32} :
    ∀ (d nc kc kr i k p e w : Nat) (bh so pl wh : Int32) (wo : Int64) (at1 en tok wr ns : Int32) (le : Nat → Int32) (bh0 so0 pl0 wh0 : Int32) (wo0 : Int64) (U : Nat → Nat) (csh : Int32) (cns : Nat → Int64) (fr : Nat → Int32), nc + d = 4 → d + 1 < kc → d + 2 < kr → i ≤ nc → TK n f T k p e w bh so pl wh wo at1 en tok wr ns le → F_X7_next fu (nI n) bh0 wh0 wo0 f = some (bh, so, pl, wh, wo) → RDS law late nt nc kd U K lawT lat tls csh cn tn cns kinds f0 f1 f2 f3 f4 f5 f6 fr nw →
    (∃ k' p' e' w' bh' so' pl' wh' wo' at2 en' tok' wr' ns' le' nc' U' cns' fr', e ≤ p' ∧ F_X3_cashierLine_b2 fu (nI n) f tls tn kc fa pc bh0 so0 pl0 wh0 wo0 csh cns (nI i) = some (1, fa, pc, bh', so', pl', wh', wo', nI nc', cns') ∧ F_X10_cashierLine_b13 fu (nI n) f kr at1 en tok wr ns fa' pc' 0 le fr 1 = some (at2, en', tok', wr', ns', fa', pc', 0, le', fr') ∧ TK n f T k' p' e' w' bh' so' pl' wh' wo' at2 en' tok' wr' ns' le' ∧ RDS law late nt nc' kd U' K lawT lat tls (nI nc') cn tn cns' kinds f0 f1 f2 f3 f4 f5 f6 fr' nw) ∨
    (∃ c q bh' so' pl' wh' wo' at2 en' tok' wr' ns' le' csh' cns' fr', F_X3_cashierLine_b2 fu (nI n) f tls tn kc fa pc bh0 so0 pl0 wh0 wo0 csh cns (nI i) = some (0, c, q, bh', so', pl', wh', wo', csh', cns') ∧ F_X10_cashierLine_b13 fu (nI n) f kr at1 en tok wr ns fa' pc' 0 le fr 1 = some (at2, en', tok', wr', ns', c, q, 1, le', fr')) := by
  intro d
  induction d with
  | zero =>
    intro nc kc kr i k p e w bh so pl wh wo at1 en tok wr ns le bh0 so0 pl0 wh0 wo0 U csh cns fr hd hkc hkr hi h hx hR
    obtain ⟨gc, rfl⟩ : ∃ g, kc = g + 1 := ⟨kc - 1, by omega⟩
    obtain ⟨gr, rfl⟩ : ∃ g, kr = g + 1 := ⟨kr - 1, by omega⟩
    obtain ⟨⟨hl1, hl2⟩, ⟨hla, hlb, hlc⟩, ⟨hnt3, rfl, hfr2⟩, ⟨hnc4, rfl, hfr6⟩, hkk, hk3, hN, ⟨hok, hRC⟩, hK, hs0⟩ := hR
    have hpl := TK_pl h
    have h6 : fr (6 : Int32).toNatClampNeg = nI nc := hfr6
    have hnc : nc = 4 := by omega
    rw [F_X3_cashierLine_b2, if_neg (by rw [zl_4, zd_lt (by omega) (by omega)]; omega), hx, z_b5, F_X10_cashierLine_b13, if_neg i1_0]
    rcases new_both hfu hn ht h fa pc fa' pc' hnt3 hnc4 hN with ⟨W, c1, c2, c3, hTW, rfl, hW⟩ | ⟨c1, c2⟩ | ⟨j, j7, c1, c2, c3⟩
    · rw [c1, c2, z_b3, z_b3, if_neg i1_0, if_pos i0_0, c3, z_b1, if_pos (show (-1 : Int32) < 0 by decide)]
      unfold F_X10_cashierLine_b44
      have e4 : nI nc = (4 : Int32) := by rw [hnc]; rfl
      rw [if_pos i0_0, h6, if_pos e4, wrong_0, z_b3, cash71_no, if_neg (show ¬ nI nc < (4 : Int32) by rw [zl_4, zd_lt (by omega) (by omega)]; omega), hpl]
      exact Or.inr ⟨5, pl, _, _, _, _, _, _, _, _, _, _, _, _, _, _, rfl, rfl⟩
    · rw [c1, c2, z_b3, z_b3, if_pos i0_0, if_neg i1_0, cash44_no]
      exact Or.inr ⟨1, pl, _, _, _, _, _, _, _, _, _, _, _, _, _, _, rfl, rfl⟩
    · rw [c1, c2, z_b3, z_b3, if_pos i0_0, if_pos i0_0, c3, z_b1, if_neg (by rw [zl_0, zd_lt (by omega) (by omega)]; omega), wrong_0, z_b3, cash44_no, hpl]
      exact Or.inr ⟨3, pl, _, _, _, _, _, _, _, _, _, _, _, _, _, _, rfl, rfl⟩
  | succ d ih =>
    intro nc kc kr i k p e w bh so pl wh wo at1 en tok wr ns le bh0 so0 pl0 wh0 wo0 U csh cns fr hd hkc hkr hi h hx hR
    obtain ⟨gc, rfl⟩ : ∃ g, kc = g + 1 := ⟨kc - 1, by omega⟩
    obtain ⟨gr, rfl⟩ : ∃ g, kr = g + 1 := ⟨kr - 1, by omega⟩
    obtain ⟨⟨hl1, hl2⟩, ⟨hla, hlb, hlc⟩, ⟨hnt3, rfl, hfr2⟩, ⟨hnc4, rfl, hfr6⟩, hkk, hk3, hN, ⟨hok, hRC⟩, hK, hs0⟩ := hR
    have hpl := TK_pl h
    have h6 : fr (6 : Int32).toNatClampNeg = nI nc := hfr6
    rw [F_X3_cashierLine_b2, if_neg (by rw [zl_4, zd_lt (by omega) (by omega)]; omega), hx, z_b5, F_X10_cashierLine_b13, if_neg i1_0]
    rcases new_both hfu hn ht h fa pc fa' pc' hnt3 hnc4 hN with ⟨W, c1, c2, c3, hTW, rfl, hW⟩ | ⟨c1, c2⟩ | ⟨j, j7, c1, c2, c3⟩
    · rw [c1, c2, z_b3, z_b3, if_neg i1_0, if_pos i0_0, c3, z_b1, if_pos (show (-1 : Int32) < 0 by decide)]
      unfold F_X10_cashierLine_b44 F_X10_cashierLine_b71
      have e4 : ¬ nI nc = (4 : Int32) := by rw [zl_4, zd_eq (by omega) (by omega)]; omega
      obtain ⟨frk, m1, m2, m3⟩ := X10_keepName hfu (j := 3 + nc) (by omega) hTW fr
      obtain ⟨k', p', e', w', bh', so', pl', wh', wo', at2, en', tok', wr', ns', le', hpp, q1, q2, hT⟩ := nx_both hfu hn ht h
      have e3 : (3 : Int32) + nI nc = nI (3 + nc) := by rw [zl_3, zq_add]
      have ef : frk (6 : Int32).toNatClampNeg = nI nc := by
        show frk 6 = nI nc
        rw [m3 6 (by omega) (by omega), hfr6]
      have j1 : nI nc + (1 : Int32) = nI (nc + 1) := by rw [zl_1, zq_add]
      have ji : nI i + (1 : Int32) = nI (i + 1) := by rw [zl_1, zq_add]
      have e60 : (6 : Int32).toNatClampNeg = 6 := rfl
      have hR' : RDS law late nt (nc + 1) kd (uU U (3 + nc) W) K lawT lat (nI nt) (nI (nc + 1)) cn tn (vp_updL cns nc (lN W)) kinds f0 f1 f2 f3 f4 f5 f6 (upd frk 6 (nI (nc + 1))) nw := by
        have fz : ∀ y, y < 7 → y ≠ 6 → upd frk 6 (nI (nc + 1)) y = fr y := fun y y1 y2 => by
          rw [z_upd, if_neg y2, m3 y (by omega) (by omega)]
        refine ⟨⟨hl1, by rw [fz 1 (by omega) (by omega)]; exact hl2⟩, ⟨hla, hlb, by rw [fz 0 (by omega) (by omega)]; exact hlc⟩, ⟨hnt3, rfl, by rw [fz 2 (by omega) (by omega)]; exact hfr2⟩, ⟨by omega, rfl, by rw [z_upd, if_pos rfl]⟩, hkk, fun t tt => by rw [fz (3 + t) (by omega) (by omega)]; exact hk3 t tt, ?_, ⟨hok, hRC⟩, hK, hs0⟩
        refine NS_add hN (a := 3 + nc) (by omega) (by unfold usd; omega) (fun j hj => by unfold usd; omega) hW (NM_of m2 ?_ (fun q hq => ?_)) (fun y y7 y8 y9 => ?_) (fun j hj => ?_) (fun j hj => ?_)
        · rw [z_upd, if_neg (by omega)]
        · rw [z_upd, if_neg (by omega)]
        · rw [z_upd, if_neg (by omega)]; exact m3 y y8 y9
        · unfold uU
          rw [if_neg (by omega)]; exact hN.2.2.1 j hj
        · unfold uU
          rw [z_updL]
          by_cases d : j = nc
          · rw [if_pos d, if_pos (by omega)]
          · rw [if_neg d, if_neg (by omega)]; exact hN.2.2.2.1 j (by omega)
      rw [if_pos i0_0, h6, if_neg e4, if_pos i0_0, if_pos (show nI nc < (4 : Int32) by rw [zl_4, zd_lt (by omega) (by omega)]; omega), if_neg (nI_in (by omega) (by omega)), zd_cl (by omega), e3, m1, z_b1, q1, q2, z_b5, z_b6, ef, j1, ji, e60]
      rcases comma_both hfu hn ht hT with ⟨s1, k2, p2, e2, w2, bh2, so2, pl2, wh2, wo2, at3, en2, tok2, wr2, ns2, le2, hpp2, s2, s3, hT2⟩ | ⟨s1, s2⟩
      · rw [if_pos s1, s3, z_b7]
        have := hT.2.1
        rcases ih (nc + 1) gc gr (i + 1) k2 p2 e2 w2 bh2 so2 pl2 wh2 wo2 at3 en2 tok2 wr2 ns2 le2 bh' so' pl' wh' wo' _ _ _ _ (by omega) (by omega) (by omega) (by omega) hT2 s2 hR' with ⟨k3, p3, e3, w3, bh3, so3, pl3, wh3, wo3, at4, en3, tok3, wr3, ns3, le3, nc3, U3, cns3, fr3, hpp3, u1, u2, hT3, hR3⟩ | ⟨c, q, bh3, so3, pl3, wh3, wo3, at4, en3, tok3, wr3, ns3, le3, csh3, cns3, fr3, u1, u2⟩
        · have := hT2.2.1
          exact Or.inl ⟨k3, p3, e3, w3, bh3, so3, pl3, wh3, wo3, at4, en3, tok3, wr3, ns3, le3, nc3, U3, cns3, fr3, by omega, u1, u2, hT3, hR3⟩
        · exact Or.inr ⟨c, q, bh3, so3, pl3, wh3, wo3, at4, en3, tok3, wr3, ns3, le3, csh3, cns3, fr3, u1, u2⟩
      · obtain ⟨gr2, rfl⟩ : ∃ g, gr = g + 1 := ⟨gr - 1, by omega⟩
        rw [if_neg s1, s2, z_b7, cash13_0]
        exact Or.inl ⟨k', p', e', w', bh', so', pl', wh', wo', at2, en', tok', wr', ns', le', nc + 1, _, _, _, hpp, rfl, rfl, hT, hR'⟩
    · rw [c1, c2, z_b3, z_b3, if_pos i0_0, if_neg i1_0, cash44_no]
      exact Or.inr ⟨1, pl, _, _, _, _, _, _, _, _, _, _, _, _, _, _, rfl, rfl⟩
    · rw [c1, c2, z_b3, z_b3, if_pos i0_0, if_pos i0_0, c3, z_b1, if_neg (by rw [zl_0, zd_lt (by omega) (by omega)]; omega), wrong_0, z_b3, cash44_no, hpl]
      exact Or.inr ⟨3, pl, _, _, _, _, _, _, _, _, _, _, _, _, _, _, rfl, rfl⟩
end
