section
/-! a text: class and reference -/
theorem z_b27 {α0 α1 α2 α3 α4 α5 α6 α7 α8 α9 α10 α11 α12 α13 α14 α15 α16 α17 α18 α19 α20 α21 α22 α23 α24 α25 α26 δ : Type} (a0 : α0) (a1 : α1) (a2 : α2) (a3 : α3) (a4 : α4) (a5 : α5) (a6 : α6) (a7 : α7) (a8 : α8) (a9 : α9) (a10 : α10) (a11 : α11) (a12 : α12) (a13 : α13) (a14 : α14) (a15 : α15) (a16 : α16) (a17 : α17) (a18 : α18) (a19 : α19) (a20 : α20) (a21 : α21) (a22 : α22) (a23 : α23) (a24 : α24) (a25 : α25) (a26 : α26) (k : α0 → α1 → α2 → α3 → α4 → α5 → α6 → α7 → α8 → α9 → α10 → α11 → α12 → α13 → α14 → α15 → α16 → α17 → α18 → α19 → α20 → α21 → α22 → α23 → α24 → α25 → α26 → Option δ) : bnd27 (some (a0, a1, a2, a3, a4, a5, a6, a7, a8, a9, a10, a11, a12, a13, a14, a15, a16, a17, a18, a19, a20, a21, a22, a23, a24, a25, a26)) k = k a0 a1 a2 a3 a4 a5 a6 a7 a8 a9 a10 a11 a12 a13 a14 a15 a16 a17 a18 a19 a20 a21 a22 a23 a24 a25 a26 := rfl
theorem z_b30 {α0 α1 α2 α3 α4 α5 α6 α7 α8 α9 α10 α11 α12 α13 α14 α15 α16 α17 α18 α19 α20 α21 α22 α23 α24 α25 α26 α27 α28 α29 δ : Type} (a0 : α0) (a1 : α1) (a2 : α2) (a3 : α3) (a4 : α4) (a5 : α5) (a6 : α6) (a7 : α7) (a8 : α8) (a9 : α9) (a10 : α10) (a11 : α11) (a12 : α12) (a13 : α13) (a14 : α14) (a15 : α15) (a16 : α16) (a17 : α17) (a18 : α18) (a19 : α19) (a20 : α20) (a21 : α21) (a22 : α22) (a23 : α23) (a24 : α24) (a25 : α25) (a26 : α26) (a27 : α27) (a28 : α28) (a29 : α29) (k : α0 → α1 → α2 → α3 → α4 → α5 → α6 → α7 → α8 → α9 → α10 → α11 → α12 → α13 → α14 → α15 → α16 → α17 → α18 → α19 → α20 → α21 → α22 → α23 → α24 → α25 → α26 → α27 → α28 → α29 → Option δ) : bnd30 (some (a0, a1, a2, a3, a4, a5, a6, a7, a8, a9, a10, a11, a12, a13, a14, a15, a16, a17, a18, a19, a20, a21, a22, a23, a24, a25, a26, a27, a28, a29)) k = k a0 a1 a2 a3 a4 a5 a6 a7 a8 a9 a10 a11 a12 a13 a14 a15 a16 a17 a18 a19 a20 a21 a22 a23 a24 a25 a26 a27 a28 a29 := rfl
theorem b98_no (fu : Nat) (th tp sz tr hb mk at1 en tok wr ns fa pc : Int32) (f r st fr le nw : Nat → Int32) (kf : Nat) : F_X10_book_b98 fu th tp sz tr hb mk f r st (kf + 1) at1 en tok wr ns fa pc 1 fr le nw = some (-1, th, tp, sz, at1, en, tok, wr, ns, fa, pc, 4, 1, hb, mk, fr, le, nw, r, st) := by
  rw [F_X10_book_b98, if_neg i1_0]
  unfold F_X10_book_b125 F_X10_book_b148 F_X10_book_b193 F_X10_no
  rw [if_neg i1_0, if_neg i1_0, if_neg i1_0]; rfl
def BY (n : Nat) (fa pc fa' pc' fed th tp tr hb mk : Int32) (r st : Nat → Int32) (X : Option (Int32 × Int32 × Int32 × Int32 × Int32 × Int32 × Int32 × Int32 × Int32 × Int32 × Int32 × Int32 × Int32 × Int32 × Int32 × Int32 × Int32 × Int32 × Int32 × Int64 × (Nat → Int64) × (Nat → Int32) × (Nat → Int32) × (Nat → Int64) × (Nat → Int32) × (Nat → Int32) × (Nat → Int32) × (Nat → Int32) × (Nat → Int32) × (Nat → Int32))) (Y : Option (Int32 × Int32 × Int32 × Int32 × Int32 × Int32 × Int32 × Int32 × Int32 × Int32 × Int32 × Int32 × Int32 × Int32 × Int32 × (Nat → Int32) × (Nat → Int32) × (Nat → Int32) × (Nat → Int32) × (Nat → Int32))) : Prop :=
  (∃ (late nt nc : Nat) (kd : Nat → Nat) (K : Ca) (lawT' ca' ti' ac' aw' bh' so' pl' wh' : Int32) (wo' : Int64) (cns' tn' : Nat → Int64) (f0' f5' kinds' f1' f2' f3' f4' f6' : Nat → Int32) (at2 en' tok' wr' ns' : Int32) (fr' le' nw' r' st' : Nat → Int32),
    X = some (1, lawT', fa, pc, ca', ti', ac', aw', 1, nI nt, nI nc, nI late, nI (cm K), nI n, bh', fed, so', pl', wh', wo', cns', f0', f5', tn', kinds', f1', f2', f3', f4', f6') ∧
    Y = some (nI (cm K), th, tp, nI n, at2, en', tok', wr', ns', fa', pc', tr, 0, 1, 0, fr', le', nw', r', st') ∧
    (1 ≤ nt ∧ nt ≤ 3) ∧ (1 ≤ nc ∧ nc ≤ 4) ∧ late ≤ 99 ∧ (∀ t, t < 3 → kinds' t = nI (kd t) ∧ kd t < 5) ∧ okC 4 nt kd K ∧ RC K (nI (cm K)) f0' f1' f2' f3' f4' f5' f6' ∧ RK K (ce K) st' ∧ st' 140 = 0 ∧ RLy kd nt late r' ∧ r' 6 = nI nc) ∨
  (∃ (c z lawT' ca' ti' ac' aw' tls' csh' lat' cn' bh' so' pl' wh' : Int32) (wo' : Int64) (cns' tn' : Nat → Int64) (f0' f5' kinds' f1' f2' f3' f4' f6' : Nat → Int32) (at2 en' tok' wr' ns' : Int32) (fr' le' nw' : Nat → Int32),
    X = some (0, lawT', c, z, ca', ti', ac', aw', 0, tls', csh', lat', cn', nI n, bh', fed, so', pl', wh', wo', cns', f0', f5', tn', kinds', f1', f2', f3', f4', f6') ∧ KB kinds' ∧
    Y = some (-1, th, tp, nI n, at2, en', tok', wr', ns', c, z, 4, 1, hb, mk, fr', le', nw', r, st))
theorem rtk59 : ∀ k, k < 6 → ((rtk k = 59) ↔ k = 3) ∧ ((rtk k = 0) ↔ k = 0) ∧ rtk k < 100 := by decide
theorem rd_loop {fu : Nat} (hfu : 20000 ≤ fu) {n : Nat} (hn : n ≤ 900) {f : Nat → Int32} {T : Nat → Nat} (ht : tx f T) (fa pc fa' pc' fed th tp tr hb mk : Int32) (r st : Nat → Int32) :
    ∀ (d k p e w : Nat) (bh so pl wh : Int32) (wo : Int64) (at1 en tok wr ns : Int32) (le : Nat → Int32) (law : Bool) (late nt nc : Nat) (kd U : Nat → Nat) (K : Ca) (lawT lat tls csh cn ca ti ac aw : Int32) (tn cns : Nat → Int64) (kinds f0 f1 f2 f3 f4 f5 f6 fr nw : Nat → Int32) (kc kr i : Nat),
    n - p ≤ d → d + 2 < kc → d + 2 < kr → i ≤ p → TK n f T k p e w bh so pl wh wo at1 en tok wr ns le → RDS law late nt nc kd U K lawT lat tls csh cn tn cns kinds f0 f1 f2 f3 f4 f5 f6 fr nw →
    BY n fa pc fa' pc' fed th tp tr hb mk r st (F_X3_read_b39 fu 0 (nI n) fed f (nI n) kc lawT fa pc ca ti ac aw tls csh lat cn bh so pl wh wo cns f0 f5 tn kinds f1 f2 f3 f4 f6 (nI i)) (bnd11 (F_X10_readLine fu (nI n) at1 en tok wr ns fa' pc' 0 fr le f nw) fun u95_0 u95_1 u95_2 u95_3 u95_4 u95_5 u95_6 u95_7 u95_8 u95_9 u95_10 => F_X10_book_b98 fu th tp (nI n) tr hb mk f r st kr u95_0 u95_1 u95_2 u95_3 u95_4 u95_5 u95_6 u95_7 u95_8 u95_9 u95_10) := by
  intro d
  induction d with
  | zero =>
    intro k p e w bh so pl wh wo at1 en tok wr ns le law late nt nc kd U K lawT lat tls csh cn ca ti ac aw tn cns kinds f0 f1 f2 f3 f4 f5 f6 fr nw kc kr i hd hkc hkr hi h hR
    obtain ⟨gc, rfl⟩ : ∃ g, kc = g + 1 := ⟨kc - 1, by omega⟩
    obtain ⟨gr, rfl⟩ : ∃ g, kr = g + 1 := ⟨kr - 1, by omega⟩
    have hpe := h.2.1
    have hen := h.2.2.1
    rw [F_X3_read_b39, if_neg (by rw [zd_lt (by omega) (by omega)]; omega)]
    rcases line_both hfu hn ht h fa pc fa' pc' ca ti ac aw hR with ⟨k', p', e', w', bh', so', pl', wh', wo', at2, en', tok', wr', ns', le', law', late', nt', nc', kd', U', K', lawT', lat', tls', csh', cn', ca', ti', ac', aw', tn', cns', kinds', f0', f1', f2', f3', f4', f5', f6', fr', nw', hpp, q1, q2, hT, hR'⟩ | ⟨c, z, bh', so', pl', wh', wo', at2, en', tok', wr', ns', le', lawT', lat', tls', csh', cn', ca', ti', ac', aw', tn', cns', kinds', f0', f1', f2', f3', f4', f5', f6', fr', nw', q1, q2, hKB⟩
    · have := hT.2.1; have := hT.2.2.1; omega
    · rw [q1, q2, z_b27, if_pos i0_0, z_b11, b98_no]
      exact Or.inr ⟨c, z, _, _, _, _, _, _, _, _, _, _, _, _, _, _, _, _, _, _, _, _, _, _, _, _, _, _, _, _, _, _, _, _, rfl, hKB, rfl⟩
  | succ d ih =>
    intro k p e w bh so pl wh wo at1 en tok wr ns le law late nt nc kd U K lawT lat tls csh cn ca ti ac aw tn cns kinds f0 f1 f2 f3 f4 f5 f6 fr nw kc kr i hd hkc hkr hi h hR
    obtain ⟨gc, rfl⟩ : ∃ g, kc = g + 1 := ⟨kc - 1, by omega⟩
    obtain ⟨gr, rfl⟩ : ∃ g, kr = g + 1 := ⟨kr - 1, by omega⟩
    have hpe := h.2.1
    have hen := h.2.2.1
    rw [F_X3_read_b39, if_neg (by rw [zd_lt (by omega) (by omega)]; omega)]
    rcases line_both hfu hn ht h fa pc fa' pc' ca ti ac aw hR with ⟨k', p', e', w', bh', so', pl', wh', wo', at2, en', tok', wr', ns', le', law', late', nt', nc', kd', U', K', lawT', lat', tls', csh', cn', ca', ti', ac', aw', tn', cns', kinds', f0', f1', f2', f3', f4', f5', f6', fr', nw', hpp, q1, q2, hT, hR'⟩ | ⟨c, z, bh', so', pl', wh', wo', at2, en', tok', wr', ns', le', lawT', lat', tls', csh', cn', ca', ti', ac', aw', tn', cns', kinds', f0', f1', f2', f3', f4', f5', f6', fr', nw', q1, q2, hKB⟩
    · rw [q1, q2, z_b27, if_neg i1_0, z_b11, F_X10_book_b98, if_pos i0_0]
      have hk5 := hT.1
      have hpl := TK_pl hT
      have hso := hT.2.2.2.2.1.2.1
      have htk := hT.2.2.2.2.2.1.2.2
      have hr := rtk59 k' (by omega)
      have hp1 := hT.2.1
      have hp2 := hT.2.2.2.1
      have hp3 := hT.2.2.1
      have hKB := RDS_KB hR'
      by_cases d3 : k' = 3
      · have hpp' := hp2 (by omega)
        have ey1 : so' = (3 : Int32) := by rw [hso, d3]; rfl
        have ey2 : tok' = (59 : Int32) := by rw [htk, d3]; rfl
        obtain ⟨k2, p2, e2, w2, bh2, so2, pl2, wh2, wo2, at3, en2, tok2, wr2, ns2, le2, hpp2, s1, s2, hT2⟩ := nx_both hfu hn ht hT
        have j1 : nI i + (1 : Int32) = nI (i + 1) := by rw [zl_1, zq_add]
        rw [if_pos ey1, if_pos ey2, s1, s2, z_b5, z_b6, j1]
        exact ih k2 p2 e2 w2 bh2 so2 pl2 wh2 wo2 at3 en2 tok2 wr2 ns2 le2 law' late' nt' nc' kd' U' K' lawT' lat' tls' csh' cn' ca' ti' ac' aw' tn' cns' kinds' f0' f1' f2' f3' f4' f5' f6' fr' nw' gc gr (i + 1) (by omega) (by omega) (by omega) (by omega) hT2 hR'
      · have e1 : ¬ so' = (3 : Int32) := by rw [hso, zl_3, zd_eq (by omega) (by omega)]; exact d3
        have e2 : ¬ tok' = (59 : Int32) := by rw [htk, zl_59, zd_eq (by omega) (by omega), hr.1]; exact d3
        rw [if_neg e1, if_neg e2]
        unfold F_X3_mayEnd F_X10_book_b125
        rw [if_pos i0_0]
        obtain ⟨⟨hl1, hl2⟩, ⟨hla, hlb, hlc⟩, ⟨hnt3, htl, hfr2⟩, ⟨hnc4, hcs, hfr6⟩, hkk, hk3, hN, ⟨hok, hRC⟩, hK, hs0⟩ := hR'
        by_cases d0 : k' = 0
        · have e3 : so' = (0 : Int32) := by rw [hso, d0]; rfl
          have e4 : tok' = (0 : Int32) := by rw [htk, d0]; rfl
          have g1 : fr' (1 : Int32).toNatClampNeg = lawT' := by rw [hl1]; exact hl2
          have g2 : fr' (2 : Int32).toNatClampNeg = tls' := by rw [htl]; exact hfr2
          have g6 : fr' (6 : Int32).toNatClampNeg = csh' := by rw [hcs]; exact hfr6
          rw [if_pos e3, if_pos e4]
          unfold F_X10_book_b148 F_X3_mayEnd_b43 F_X10_book_b183
          have bad : (bnd3 (F_X10_wrong fa' pc' 0 6 at2) fun u190_0 u190_1 u190_2 => F_X10_book_b193 fu th tp (nI n) at2 en' tok' wr' ns' u190_0 u190_1 tr u190_2 hb mk fr' le' nw' r st) = some (-1, th, tp, nI n, at2, en', tok', wr', ns', 6, pl', 4, 1, hb, mk, fr', le', nw', r, st) := by
            rw [wrong_0, z_b3, hpl]
            unfold F_X10_book_b193 F_X10_no
            rw [if_neg i1_0]; rfl
          rw [if_pos i0_0, g1, g2, g6, bad]
          by_cases c1 : lawT' = 0
          · rw [if_pos c1, if_pos c1]
            exact Or.inr ⟨6, pl', _, _, _, _, _, _, _, _, _, _, _, _, _, _, _, _, _, _, _, _, _, _, _, _, _, _, _, _, _, _, _, _, rfl, hKB, rfl⟩
          · rw [if_neg c1, if_neg c1]
            by_cases c2 : tls' = 0
            · rw [if_pos c2, if_pos c2]
              exact Or.inr ⟨6, pl', _, _, _, _, _, _, _, _, _, _, _, _, _, _, _, _, _, _, _, _, _, _, _, _, _, _, _, _, _, _, _, _, rfl, hKB, rfl⟩
            · rw [if_neg c2, if_neg c2]
              by_cases c3 : csh' = 0
              · rw [if_pos c3, if_pos c3]
                exact Or.inr ⟨6, pl', _, _, _, _, _, _, _, _, _, _, _, _, _, _, _, _, _, _, _, _, _, _, _, _, _, _, _, _, _, _, _, _, rfl, hKB, rfl⟩
              · rw [if_neg c3, if_neg c3, z_b4, if_neg r11]
                unfold F_X10_book_b193
                obtain ⟨r', m1, m2, m3⟩ := X10_copy (n0 := 70) (n2 := 70) (a := 0) (b := 0) (m := 70) (f0 := fr') (f2 := r) hfu (by omega) (by omega) (by omega) (by omega)
                obtain ⟨st', o1, o2, o3⟩ := X10_copy (n0 := 142) (n2 := 142) (a := 0) (b := 0) (m := 142) (f0 := nw') (f2 := st) hfu (by omega) (by omega) (by omega) (by omega)
                have m1' : F_X10_copy fu 70 70 fr' r 0 0 70 = some r' := m1
                have o1' : F_X10_copy fu 142 142 nw' st 0 0 142 = some st' := o1
                have hz : ∀ y, y < 70 → r' y = fr' y := fun y hy => by have := m2 y hy; rw [Nat.zero_add] at this; exact this
                have hw : ∀ y, y < 142 → st' y = nw' y := fun y hy => by have := o2 y hy; rw [Nat.zero_add] at this; exact this
                have hm := hok.1
                have h141 : st' (141 : Int32).toNatClampNeg = nI (cm K') := by
                  show st' 141 = _
                  rw [hw 141 (by omega)]; exact hK.1
                rw [if_pos i0_0, m1', z_b1, o1', z_b1, h141, htl, hcs, hlb, hRC.1]
                have z1 : 1 ≤ nt' := by
                  rcases Nat.eq_zero_or_pos nt' with q | q
                  · exact absurd (by rw [htl, q]; rfl) c2
                  · exact q
                have z2 : 1 ≤ nc' := by
                  rcases Nat.eq_zero_or_pos nc' with q | q
                  · exact absurd (by rw [hcs, q]; rfl) c3
                  · exact q
                have hRC2 : RC K' (nI (cm K')) f0' f1' f2' f3' f4' f5' f6' := ⟨rfl, hRC.2⟩
                refine Or.inl ⟨late', nt', nc', kd', K', _, _, _, _, _, _, _, _, _, _, _, _, _, _, _, _, _, _, _, _, _, _, _, _, _, _, _, _, r', st', rfl, rfl, ⟨z1, hnt3⟩, ⟨z2, hnc4⟩, hla, hkk, hok, hRC2, ⟨by rw [hw 141 (by omega)]; exact hK.1, fun c hc => ?_⟩, by rw [hw 140 (by omega)]; exact hs0, ⟨by rw [hz 0 (by omega)]; exact hlc, by rw [hz 2 (by omega)]; exact hfr2, fun t tt => by rw [hz (3 + t) (by omega)]; exact hk3 t tt⟩, by rw [hz 6 (by omega)]; exact hfr6⟩
                rw [hw _ (by omega), hw _ (by omega), hw _ (by omega), hw _ (by omega), hw _ (by omega), hw _ (by omega), hw _ (by omega)]
                exact hK.2 c hc
        · have e3 : ¬ so' = (0 : Int32) := by rw [hso, zl_0, zd_eq (by omega) (by omega)]; exact d0
          have e4 : ¬ tok' = (0 : Int32) := by rw [htk, zl_0, zd_eq (by omega) (by omega), hr.2.1]; exact d0
          rw [if_neg e3, if_neg e4, wrong_0, z_b3, hpl]
          unfold F_X10_book_b148 F_X10_book_b193 F_X10_no
          rw [if_neg i1_0, if_neg i1_0]
          exact Or.inr ⟨1, pl', _, _, _, _, _, _, _, _, _, _, _, _, _, _, _, _, _, _, _, _, _, _, _, _, _, _, _, _, _, _, _, _, rfl, hKB, rfl⟩
    · rw [q1, q2, z_b27, if_pos i0_0, z_b11, b98_no]
      exact Or.inr ⟨c, z, _, _, _, _, _, _, _, _, _, _, _, _, _, _, _, _, _, _, _, _, _, _, _, _, _, _, _, _, _, _, _, _, rfl, hKB, rfl⟩
end
