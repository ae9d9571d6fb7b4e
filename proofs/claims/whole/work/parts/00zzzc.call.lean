section
/-! lines of a text: a call, put together -/
theorem X10_latest4 {K : Ca} {nw : Nat → Int32} (hK : RK K (ce K) nw) (hm : cm K ≤ 20) (hq : ∀ c, c < cm K → cq K c < 4) {k : Nat} (hk : k < 4) : ∀ (j kf i : Nat), j < kf → i + j = cm K →
    F_X10_latest_b4 nw (nI k) kf (o32 (lst (cq K) k i)) (nI i) = some (o32 (lst (cq K) k (cm K)))
  | 0, kf, i, hj, hi => by
    obtain ⟨g, rfl⟩ : ∃ g, kf = g + 1 := ⟨kf - 1, by omega⟩
    have : i = cm K := by omega
    subst this
    have h141 : (141 : Int32).toNatClampNeg = 141 := rfl
    rw [F_X10_latest_b4, h141, hK.1, if_pos (by rw [zd_le (by omega) (by omega)]; omega)]
  | j + 1, kf, i, hj, hi => by
    obtain ⟨g, rfl⟩ : ∃ g, kf = g + 1 := ⟨kf - 1, by omega⟩
    have h141 : (141 : Int32).toNatClampNeg = 141 := rfl
    have k0 : (7 : Int32) * nI i + 0 = nI (7 * i) := by rw [zl_7, zl_0, zq_mul, zq_add]; rfl
    have k0' : (nI (7 * i)).toNatClampNeg = 7 * i := zd_cl (by omega)
    have j1 : nI i + (1 : Int32) = nI (i + 1) := by rw [zl_1, zq_add]
    have hqi := hq i (by omega)
    have e2 : (nI (cq K i) = nI k) = (cq K i = k) := zd_eq (by omega) (by omega)
    rw [F_X10_latest_b4, h141, hK.1, if_neg (by rw [zd_le (by omega) (by omega)]; omega), k0, if_neg (nI_in (by omega) (by omega)), k0', (hK.2 i (by omega)).1]
    unfold F_X10_latest_b33
    rw [j1, ← X10_latest4 hK hm hq hk j g (i + 1) (by omega) (by omega)]
    simp only [e2]
    by_cases d : cq K i = k
    · rw [if_pos d]
      have : lst (cq K) k (i + 1) = some i := by show (if cq K i = k then some i else _) = _; rw [if_pos d]
      rw [this]; rfl
    · rw [if_neg d]
      have : lst (cq K) k (i + 1) = lst (cq K) k i := by show (if cq K i = k then some i else _) = _; rw [if_neg d]
      rw [this]
theorem named_till {fu : Nat} (hfu : 20000 ≤ fu) {n : Nat} (hn : n ≤ 900) {f : Nat → Int32} {T : Nat → Nat} (ht : tx f T) {k p e w : Nat} {bh so pl wh : Int32} {wo : Int64} {at1 en tok wr ns : Int32} {le : Nat → Int32} (h : TK n f T k p e w bh so pl wh wo at1 en tok wr ns le) (fa' pc' : Int32) {U : Nat → Nat} {nt nc : Nat} (hnt : nt ≤ 3) (hnc : nc ≤ 4) {tn cns : Nat → Int64} {fr : Nat → Int32} (hN : NS U nt nc tn cns fr) :
    (∃ t, t < nt ∧ F_X7_isName fu bh so pl f = some 1 ∧ F_X3_find fu 3 tn wo (nI nt) = some (nI t) ∧ F_X10_named fu at1 tok ns fa' pc' 0 le fr 1 = some (nI t, fa', pc', 0)) ∨
    (F_X7_isName fu bh so pl f = some 0 ∧ F_X10_named fu at1 tok ns fa' pc' 0 le fr 1 = some (0, 1, pl, 1)) ∨
    (F_X7_isName fu bh so pl f = some 1 ∧ F_X3_find fu 3 tn wo (nI nt) = some (-1) ∧ F_X10_named fu at1 tok ns fa' pc' 0 le fr 1 = some (0, 2, pl, 1)) := by
  have hpl := TK_pl h
  have bad : F_X10_named_b45 at1 fa' pc' 0 1 = fun _ => some (0, 2, pl, 1) := by
    funext v; unfold F_X10_named_b45 F_X10_named_b54; rw [wrong_0, z_b3, if_neg i1_0, hpl]
  unfold F_X10_named F_X10_named_b42
  rw [if_pos i0_0]
  rcases name_both hfu hn h fa' pc' with ⟨c1, c2, c3⟩ | ⟨c1, c2⟩
  · subst c3
    obtain ⟨W, hT, hwo⟩ := TK_TW ht h
    rw [c1, c2, z_b3, if_pos i0_0, hwo]
    rcases find_all hfu hnt hnc hN hT with ⟨j, j7, u1, u2, q1, q2, q3⟩ | ⟨u1, q1, q2, q3⟩
    · rw [q1, q2, z_b1, if_neg (show ¬ nI j < (0 : Int32) by rw [zl_0, zd_lt (by omega) (by omega)]; omega)]
      by_cases d : j < 3
      · have hjt : j < nt := by unfold usd at u1; omega
        rw [if_pos d, if_neg (show ¬ (3 : Int32) ≤ nI j by rw [zl_3, zd_le (by omega) (by omega)]; omega), if_pos rfl]
        refine Or.inl ⟨j, hjt, rfl, rfl, ?_⟩
        unfold F_X10_named_b54
        rw [if_pos i0_0, if_neg i1_0]
      · rw [if_neg d, if_pos (show (3 : Int32) ≤ nI j by rw [zl_3, zd_le (by omega) (by omega)]; omega), if_neg (show ¬ (1 : Int32) = 0 by decide), bad]
        exact Or.inr (Or.inr ⟨rfl, rfl, rfl⟩)
    · rw [q1, q2, z_b1, if_pos (show (-1 : Int32) < 0 by decide), bad]
      exact Or.inr (Or.inr ⟨rfl, rfl, rfl⟩)
  · rw [c1, c2, z_b3, if_neg i1_0, hpl]
    exact Or.inr (Or.inl ⟨rfl, rfl⟩)
theorem named_cash {fu : Nat} (hfu : 20000 ≤ fu) {n : Nat} (hn : n ≤ 900) {f : Nat → Int32} {T : Nat → Nat} (ht : tx f T) {k p e w : Nat} {bh so pl wh : Int32} {wo : Int64} {at1 en tok wr ns : Int32} {le : Nat → Int32} (h : TK n f T k p e w bh so pl wh wo at1 en tok wr ns le) (fa' pc' : Int32) {U : Nat → Nat} {nt nc : Nat} (hnt : nt ≤ 3) (hnc : nc ≤ 4) {tn cns : Nat → Int64} {fr : Nat → Int32} (hN : NS U nt nc tn cns fr) :
    (∃ t, t < nc ∧ F_X7_isName fu bh so pl f = some 1 ∧ F_X3_find fu 4 cns wo (nI nc) = some (nI t) ∧ F_X10_named fu at1 tok ns fa' pc' 0 le fr 0 = some (nI t, fa', pc', 0)) ∨
    (F_X7_isName fu bh so pl f = some 0 ∧ F_X10_named fu at1 tok ns fa' pc' 0 le fr 0 = some (0, 1, pl, 1)) ∨
    (F_X7_isName fu bh so pl f = some 1 ∧ F_X3_find fu 4 cns wo (nI nc) = some (-1) ∧ F_X10_named fu at1 tok ns fa' pc' 0 le fr 0 = some (0, 2, pl, 1)) := by
  have hpl := TK_pl h
  have bad : F_X10_named_b45 at1 fa' pc' 0 0 = fun _ => some (0, 2, pl, 1) := by
    funext v; unfold F_X10_named_b45 F_X10_named_b54; rw [wrong_0, z_b3, if_neg i1_0, hpl]
  unfold F_X10_named F_X10_named_b42
  rw [if_pos i0_0]
  rcases name_both hfu hn h fa' pc' with ⟨c1, c2, c3⟩ | ⟨c1, c2⟩
  · subst c3
    obtain ⟨W, hT, hwo⟩ := TK_TW ht h
    rw [c1, c2, z_b3, if_pos i0_0, hwo]
    rcases find_all hfu hnt hnc hN hT with ⟨j, j7, u1, u2, q1, q2, q3⟩ | ⟨u1, q1, q2, q3⟩
    · rw [q1, q3, z_b1, if_neg (show ¬ nI j < (0 : Int32) by rw [zl_0, zd_lt (by omega) (by omega)]; omega)]
      by_cases d : j < 3
      · rw [if_pos d, if_neg (show ¬ (3 : Int32) ≤ nI j by rw [zl_3, zd_le (by omega) (by omega)]; omega), if_neg (show ¬ (0 : Int32) = 1 by decide), bad]
        exact Or.inr (Or.inr ⟨rfl, rfl, rfl⟩)
      · have hjt : j - 3 < nc := by unfold usd at u1; omega
        rw [if_neg d, if_pos (show (3 : Int32) ≤ nI j by rw [zl_3, zd_le (by omega) (by omega)]; omega), if_pos rfl]
        refine Or.inl ⟨j - 3, hjt, rfl, rfl, ?_⟩
        unfold F_X10_named_b54
        rw [if_pos i0_0, if_pos i0_0, zl_3, zq_sub (by omega)]
    · rw [q1, q3, z_b1, if_pos (show (-1 : Int32) < 0 by decide), bad]
      exact Or.inr (Or.inr ⟨rfl, rfl, rfl⟩)
  · rw [c1, c2, z_b3, if_neg i1_0, hpl]
    exact Or.inr (Or.inl ⟨rfl, rfl⟩)
theorem actc_both {fu : Nat} (hfu : 20000 ≤ fu) {n : Nat} (hn : n ≤ 900) {f : Nat → Int32} {T : Nat → Nat} (ht : tx f T) {k p e w : Nat} {bh so pl wh : Int32} {wo : Int64} {at1 en tok wr ns : Int32} {le : Nat → Int32} (h : TK n f T k p e w bh so pl wh wo at1 en tok wr ns le) {α β : Type} (Kc : Int32 → Option α) (Kf : Int32 → Option β) : ∃ t0, (t0 = -1 ∨ ∃ v, v < 3 ∧ t0 = nI v) ∧
    (bnd1 (F_X7_is fu bh so pl f 16) fun r19 => if r19 = 0 then bnd1 (F_X7_is fu bh so pl f 17) fun r35 => if r35 = 0 then bnd1 (F_X7_is fu bh so pl f 18) fun r51 => if r51 = 0 then Kc (-1) else Kc 2 else Kc 1 else Kc 0) = Kc t0 ∧
    (bnd1 (F_X10_isWord fu tok ns 0 le 35) fun r35 => if r35 = 0 then bnd1 (F_X10_isWord fu tok ns 0 le 36) fun r36 => if r36 = 0 then bnd1 (F_X10_isWord fu tok ns 0 le 37) fun r37 => if r37 = 0 then Kf (-1) else Kf 2 else Kf 1 else Kf 0) = Kf t0 := by
  rcases is2 hfu hn ht h (a := 16) (b := 35) rfl rfl with ⟨a0, b0, _⟩ | ⟨a0, b0⟩
  · rw [a0, b0]; exact ⟨0, Or.inr ⟨0, by omega, rfl⟩, rfl, rfl⟩
  rcases is2 hfu hn ht h (a := 17) (b := 36) rfl rfl with ⟨a1, b1, _⟩ | ⟨a1, b1⟩
  · rw [a0, b0, a1, b1]; exact ⟨1, Or.inr ⟨1, by omega, rfl⟩, rfl, rfl⟩
  rcases is2 hfu hn ht h (a := 18) (b := 37) rfl rfl with ⟨a2, b2, _⟩ | ⟨a2, b2⟩
  · rw [a0, b0, a1, b1, a2, b2]; exact ⟨2, Or.inr ⟨2, by omega, rfl⟩, rfl, rfl⟩
  · rw [a0, b0, a1, b1, a2, b2]; exact ⟨-1, Or.inl rfl, rfl, rfl⟩
theorem b84_no (fu : Nat) (sz at1 en tok wr ns fa pc : Int32) (nw le fr f : Nat → Int32) (v1 v2 v3 : Int32) : F_X10_callLine_b84 fu sz at1 en tok wr ns fa pc 1 nw le fr f v1 v2 v3 = some (at1, en, tok, wr, ns, fa, pc, 1, nw, le) := by
  unfold F_X10_callLine_b84; rw [if_neg i1_0]
theorem call_bad (fu : Nat) (sz at1 en tok wr ns fa pc : Int32) (nw le fr f : Nat → Int32) : F_X10_callLine fu sz at1 en tok wr ns fa pc 1 nw le fr f = some (at1, en, tok, wr, ns, fa, pc, 1, nw, le) := by
  unfold F_X10_callLine; rw [if_neg i1_0]
def CY (fu : Nat) (n : Nat) (f : Nat → Int32) (T : Nat → Nat) (e : Nat) (fa pc fa' pc' : Int32) (nt : Nat) (kd : Nat → Nat) (X : Option (Int32 × Int32 × Int32 × Int32 × Int32 × Int32 × Int32 × Int32 × Int32 × Int32 × Int32 × Int32 × Int64 × (Nat → Int32) × (Nat → Int32) × (Nat → Int32) × (Nat → Int32) × (Nat → Int32) × (Nat → Int32) × (Nat → Int32))) (Y : Option (Int32 × Int32 × Int32 × Int32 × Int32 × Int32 × Int32 × Int32 × (Nat → Int32) × (Nat → Int32))) : Prop :=
  (∃ k' p' e' w' bh' so' pl' wh' wo' at2 en' tok' wr' ns' le' K' ca' ti' ac' aw' n' f0' f1' f2' f3' f4' f5' f6' nw', e ≤ p' ∧ X = some (1, fa, pc, ca', ti', ac', aw', n', bh', so', pl', wh', wo', f0', f5', f1', f2', f3', f4', f6') ∧ Y = some (at2, en', tok', wr', ns', fa', pc', 0, nw', le') ∧ TK n f T k' p' e' w' bh' so' pl' wh' wo' at2 en' tok' wr' ns' le' ∧ okC 4 nt kd K' ∧ RC K' n' f0' f1' f2' f3' f4' f5' f6' ∧ RK K' (ce K') nw' ∧ nw' 140 = 0) ∨
  (∃ c z bh' so' pl' wh' wo' at2 en' tok' wr' ns' le' ca' ti' ac' aw' n' f0' f1' f2' f3' f4' f5' f6' nw', X = some (0, c, z, ca', ti', ac', aw', n', bh', so', pl', wh', wo', f0', f5', f1', f2', f3', f4', f6') ∧ Y = some (at2, en', tok', wr', ns', c, z, 1, nw', le'))
theorem call_yes {fu : Nat} (hfu : 20000 ≤ fu) {n : Nat} (hn : n ≤ 900) {f : Nat → Int32} {T : Nat → Nat} (ht : tx f T) {k p e w : Nat} {bh so pl wh : Int32} {wo : Int64} {at1 en tok wr ns : Int32} {le : Nat → Int32} (h : TK n f T k p e w bh so pl wh wo at1 en tok wr ns le) {bh0 so0 pl0 wh0 : Int32} {wo0 : Int64} (hx : F_X7_next fu (nI n) bh0 wh0 wo0 f = some (bh, so, pl, wh, wo)) (fa pc fa' pc' : Int32) (ca ti ac aw : Int32) {law : Bool} {late nt nc : Nat} {kd U : Nat → Nat} {K : Ca} {lawT lat tls csh cn : Int32} {tn cns : Nat → Int64} {kinds f0 f1 f2 f3 f4 f5 f6 fr nw : Nat → Int32} (hR : RDS law late nt nc kd U K lawT lat tls csh cn tn cns kinds f0 f1 f2 f3 f4 f5 f6 fr nw) (hm20 : cm K < 20) :
    CY fu n f T e fa pc fa' pc' nt kd (F_X3_callLine fu fa pc ca ti ac aw cn (nI n) bh0 so0 pl0 wh0 wo0 f tls csh cns f0 f5 tn kinds f1 f2 f3 f4 f6) (F_X10_callLine fu (nI n) at1 en tok wr ns fa' pc' 0 nw le fr f) := by
  obtain ⟨_, _, ⟨hnt3, rfl, hfr2⟩, ⟨hnc4, rfl, hfr6⟩, hkk, hk3, hN, ⟨hok, hRC⟩, hK, hs0⟩ := hR
  have hcn : cn = nI (cm K) := hRC.1
  subst hcn
  have hm := hok.1
  have hpl := TK_pl h
  have h141 : (141 : Int32).toNatClampNeg = 141 := rfl
  have k7 : (7 : Int32) * nI (cm K) = nI (7 * cm K) := by rw [zl_7, zq_mul]
  unfold F_X3_callLine F_X10_callLine
  rw [if_pos (show nI (cm K) < (20 : Int32) by rw [zl_20, zd_lt (by omega) (by omega)]; exact hm20), hx, z_b5, if_pos i0_0, h141, hK.1, k7]
  unfold F_X3_callCashier
  have b42no : ∀ (at1 en tok wr ns fa pc : Int32) (nw le fr f : Nat → Int32) (v1 v2 : Int32), F_X10_callLine_b42 fu (nI n) at1 en tok wr ns fa pc 1 nw le fr f v1 v2 (-1) = some (at1, en, tok, wr, ns, fa, pc, 1, nw, le) := by
    intro at1 en tok wr ns fa pc nw le fr f v1 v2
    unfold F_X10_callLine_b42 F_X10_callLine_b67 F_X10_callLine_b68
    rw [if_pos (show (-1 : Int32) < 0 by decide), if_pos i0_0, b84_no]
  rcases named_cash hfu hn ht h fa' pc' hnt3 hnc4 hN with ⟨q, hqn, a1, a2, a3⟩ | ⟨a1, a2⟩ | ⟨a1, a2, a3⟩
  · have hq : q < 4 := by omega
    have el : F_X10_latest fu nw (nI q) = some (o32 (lst (cq K) q (cm K))) := X10_latest4 hK hm (fun c hc => (hok.2 c hc).1) hq (cm K) fu 0 (by omega) (by omega)
    rw [a1, z_b1, if_neg i1_0, a2, z_b1, if_pos (show (0 : Int32) ≤ nI q by rw [zl_0, zd_le (by omega) (by omega)]; omega), lastOf_e hfu hok hRC hq, z_b1, a3, z_b4, if_pos i0_0, el, z_b1]
    have hls : ∀ c, lst (cq K) q (cm K) = some c → c < cm K := fun c hc => (lst_some hc).1
    -- what follows where the last one isn't open
    have go : (∀ c, lst (cq K) q (cm K) = some c → c < cm K ∧ ¬ ce K c = -2) → CY fu n f T e fa pc fa' pc' nt kd
        (bnd9 (F_X3_callCashier_b81 fu fa pc (nI q) (nI n) bh wh wo f) fun r26 u26_0 u26_1 u26_2 u26_3 u26_4 u26_5 u26_6 u26_7 =>
          if r26 = 0 then some ((0 : Int32), u26_0, u26_1, u26_2, ti, ac, aw, nI (cm K), u26_3, u26_4, u26_5, u26_6, u26_7, f0, f5, f1, f2, f3, f4, f6)
          else bnd9 (F_X3_callTill fu u26_0 u26_1 ti (nI n) u26_3 u26_4 u26_5 u26_6 u26_7 f (nI nt) tn) fun r33 u33_0 u33_1 u33_2 u33_3 u33_4 u33_5 u33_6 u33_7 =>
            if r33 = 0 then some ((0 : Int32), u33_0, u33_1, u26_2, u33_2, ac, aw, nI (cm K), u33_3, u33_4, u33_5, u33_6, u33_7, f0, f5, f1, f2, f3, f4, f6)
            else bnd10 (F_X3_callAct fu u33_0 u33_1 u33_2 aw kinds (nI n) u33_3 u33_4 u33_5 u33_6 u33_7 f) fun r40 u40_0 u40_1 u40_2 u40_3 u40_4 u40_5 u40_6 u40_7 u40_8 =>
              if r40 = 0 then some ((0 : Int32), u40_0, u40_1, u26_2, u33_2, u40_2, u40_3, nI (cm K), u40_4, u40_5, u40_6, u40_7, u40_8, f0, f5, f1, f2, f3, f4, f6)
              else bnd16 (F_X3_callTimes fu u40_0 u40_1 u26_2 u33_2 u40_2 u40_3 (nI (cm K)) f0 (nI n) u40_4 u40_5 u40_6 u40_7 u40_8 f f5 f1 f2 f3 f4 f6) fun r47 u47_0 u47_1 u47_2 u47_3 u47_4 u47_5 u47_6 u47_7 u47_8 u47_9 u47_10 u47_11 u47_12 u47_13 u47_14 =>
                if r47 = 0 then some ((0 : Int32), u47_0, u47_1, u26_2, u33_2, u40_2, u40_3, u47_2, u47_4, u47_5, u47_6, u47_7, u47_8, u47_3, u47_9, u47_10, u47_11, u47_12, u47_13, u47_14)
                else some ((1 : Int32), u47_0, u47_1, u26_2, u33_2, u40_2, u40_3, u47_2, u47_4, u47_5, u47_6, u47_7, u47_8, u47_3, u47_9, u47_10, u47_11, u47_12, u47_13, u47_14))
        (F_X10_callLine_b84 fu (nI n) at1 en tok wr ns fa' pc' 0 nw le fr f (nI (7 * cm K)) (nI q) (o32 (lst (cq K) q (cm K)))) := by
      intro hL
      obtain ⟨k', p', e', w', bh', so', pl', wh', wo', at2, en', tok', wr', ns', le', hpp, q1, q2, hT⟩ := nx_both hfu hn ht h
      have hT1 := hT.2.1
      unfold F_X3_callCashier_b81 F_X10_callLine_b84 F_X3_callTill
      rw [q1, z_b5, z_b9, if_neg i1_0, if_pos i0_0, q2, z_b6]
      rcases named_till hfu hn ht hT fa' pc' hnt3 hnc4 hN with ⟨t, htt, d1, d2, d3⟩ | ⟨d1, d2⟩ | ⟨d1, d2, d3⟩
      · obtain ⟨k2, p2, e2, w2, bh2, so2, pl2, wh2, wo2, at3, en2, tok2, wr2, ns2, le2, hpp2, s1, s2, hT2⟩ := nx_both hfu hn ht hT
        have hT21 := hT2.2.1
        have e3 : (3 : Int32) + nI t = nI (3 + t) := by rw [zl_3, zq_add]
        rw [d1, z_b1, if_neg i1_0, d2, z_b1, if_pos (show (0 : Int32) ≤ nI t by rw [zl_0, zd_le (by omega) (by omega)]; omega), s1, z_b5, z_b9, if_neg i1_0, d3, z_b4, if_pos i0_0, s2, z_b6, e3, if_neg (nI_in (by omega) (by omega)), zd_cl (by omega), hk3 t htt]
        unfold F_X3_callAct
        rw [X5_kindOf (kd := kd) (fun t ht3 => (hkk t ht3).1) (show t < 3 by omega), z_b1]
        obtain ⟨t0, ht0, g1, g2⟩ := actc_both hfu hn ht hT2 (fun t0 => F_X3_callAct_b62 fu fa pc aw (nI n) bh2 so2 pl2 wh2 wo2 f (nI (kd t)) t0) (fun t0 => F_X10_callLine_b167 fu (nI n) at3 en2 tok2 wr2 ns2 fa' pc' 0 nw le2 f (nI (7 * cm K)) (nI q) t0 (o32 (lst (cq K) q (cm K))) (nI t) (nI (kd t)))
        rw [g1]
        refine Eq.mpr (congrArg (CY fu n f T e fa pc fa' pc' nt kd _) g2) ?_
        show CY fu n f T e fa pc fa' pc' nt kd (bnd10 (F_X3_callAct_b62 fu fa pc aw (nI n) bh2 so2 pl2 wh2 wo2 f (nI (kd t)) t0) _) (F_X10_callLine_b167 fu (nI n) at3 en2 tok2 wr2 ns2 fa' pc' 0 nw le2 f (nI (7 * cm K)) (nI q) t0 (o32 (lst (cq K) q (cm K))) (nI t) (nI (kd t)))
        rcases act_stage hfu hn ht hT2 fa pc fa' pc' (nw := nw) (q := q) (t := t) hm20 (hkk t (by omega)).2 hls aw t0 ht0 with ⟨a, w0, oa, w9, k3, p3, e3', w3, bh3, so3, pl3, wh3, wo3, at4, en3, tok3, wr3, ns3, le3, nw3, hpp3, y1, y2, hT3, z1, z2, z3, z4⟩ | ⟨c, z, act, aw2, bh3, so3, pl3, wh3, wo3, at4, en3, tok3, wr3, ns3, le3, nw3, y1, y2⟩
        · have hT31 := hT3.2.1
          have hK3 : RK K (ce K) nw3 := by
            refine ⟨by rw [z1 _ (by omega) (by omega) (by omega)]; exact hK.1, fun c hc => ?_⟩
            rw [z1 _ (by omega) (by omega) (by omega), z1 _ (by omega) (by omega) (by omega), z1 _ (by omega) (by omega) (by omega), z1 _ (by omega) (by omega) (by omega), z1 _ (by omega) (by omega) (by omega), z1 _ (by omega) (by omega) (by omega), z1 _ (by omega) (by omega) (by omega)]
            exact hK.2 c hc
          rw [y1, z_b10, if_neg i1_0, y2]
          rcases times_both hfu hn ht hT3 fa pc fa' pc' hok hRC hK3 (by rw [z1 _ (by omega) (by omega) (by omega)]; exact hs0) hm20 hq htt oa w9 z2 z3 z4 hL with ⟨k4, p4, e4, w4, bh4, so4, pl4, wh4, wo4, at5, en4, tok4, wr4, ns4, le4, K', n', f0', f1', f2', f3', f4', f5', f6', nw', hpp4, o1, o2, hT4, o3⟩ | ⟨c, z, bh4, so4, pl4, wh4, wo4, at5, en4, tok4, wr4, ns4, le4, n', f0', f1', f2', f3', f4', f5', f6', nw', o1, o2⟩
          · rw [o1, o2, z_b16, if_neg i1_0]
            exact Or.inl ⟨k4, p4, e4, w4, bh4, so4, pl4, wh4, wo4, at5, en4, tok4, wr4, ns4, le4, K', _, _, _, _, n', f0', f1', f2', f3', f4', f5', f6', nw', by omega, rfl, rfl, hT4, o3⟩
          · rw [o1, o2, z_b16, if_pos i0_0]
            exact Or.inr ⟨c, z, _, _, _, _, _, _, _, _, _, _, _, _, _, _, _, _, _, _, _, _, _, _, _, _, rfl, rfl⟩
        · rw [y1, y2, z_b10, if_pos i0_0]
          exact Or.inr ⟨c, z, _, _, _, _, _, _, _, _, _, _, _, _, _, _, _, _, _, _, _, _, _, _, _, _, rfl, rfl⟩
      · rw [d1, z_b1, if_pos i0_0, d2, z_b4, if_neg i1_0]
        exact Or.inr ⟨1, pl', _, _, _, _, _, _, _, _, _, _, _, _, _, _, _, _, _, _, _, _, _, _, _, _, rfl, rfl⟩
      · rw [d1, z_b1, if_neg i1_0, d2, z_b1, if_neg (show ¬ (0 : Int32) ≤ -1 by decide), d3, z_b4, if_neg i1_0]
        exact Or.inr ⟨2, pl', _, _, _, _, _, _, _, _, _, _, _, _, _, _, _, _, _, _, _, _, _, _, _, _, rfl, rfl⟩
    unfold F_X10_callLine_b42 F_X10_callLine_b67 F_X10_callLine_b68
    rcases e : lst (cq K) q (cm K) with _ | c
    · rw [if_pos (show o32 none < 0 by decide), if_pos (show o32 none < 0 by decide), if_pos i0_0]
      rw [e] at go
      exact go (fun c hc => by cases hc)
    · have hc := hls c e
      have e1 : o32 (some c) = nI c := rfl
      have k5 : (7 : Int32) * nI c + 5 = nI (7 * c + 5) := by rw [zl_7, zl_5, zq_mul, zq_add]
      have nl : ¬ nI c < (0 : Int32) := by rw [zl_0, zd_lt (by omega) (by omega)]; omega
      rw [e, e1] at go
      rw [e1, if_neg nl, if_neg nl, X0_isOpen (by omega), z_b1, (hRC.2 c hc).2.2.2.2.2.1, k5, if_neg (nI_in (by omega) (by omega)), zd_cl (by omega), (hK.2 c hc).2.2.2.2.2.1]
      by_cases d : ce K c = -2
      · rw [if_pos d, if_pos d, if_neg n1_0, if_neg i1_0, wrong_0, z_b3, b84_no, hpl]
        exact Or.inr ⟨4, pl, _, _, _, _, _, _, _, _, _, _, _, _, _, _, _, _, _, _, _, _, _, _, _, _, rfl, rfl⟩
      · rw [if_neg d, if_neg d, if_pos n0_0, if_pos i0_0]
        exact go (fun c2 hc2 => by injection hc2 with hc2; subst hc2; exact ⟨hc, d⟩)
  · rw [a1, z_b1, if_pos i0_0, a2, z_b4, if_neg i1_0, b42no]
    exact Or.inr ⟨1, pl, _, _, _, _, _, _, _, _, _, _, _, _, _, _, _, _, _, _, _, _, _, _, _, _, rfl, rfl⟩
  · rw [a1, z_b1, if_neg i1_0, a2, z_b1, if_neg (show ¬ (0 : Int32) ≤ -1 by decide), a3, z_b4, if_neg i1_0, b42no]
    exact Or.inr ⟨2, pl, _, _, _, _, _, _, _, _, _, _, _, _, _, _, _, _, _, _, _, _, _, _, _, _, rfl, rfl⟩
end
