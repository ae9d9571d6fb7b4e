section
/-! lines of a text: a call -/
theorem b304_no (fu : Nat) (sz at1 en tok wr ns fa pc : Int32) (nw le f : Nat → Int32) {m : Nat} (hm : m < 20) (t0 : Int32) : ∃ nw', F_X10_callLine_b304 fu sz at1 en tok wr ns fa pc 1 nw le f (nI (7 * m)) t0 = some (at1, en, tok, wr, ns, fa, pc, 1, nw', le) := by
  have k4 : nI (7 * m) + (4 : Int32) = nI (7 * m + 4) := by rw [zl_4, zq_add]
  have k5 : nI (7 * m) + (5 : Int32) = nI (7 * m + 5) := by rw [zl_5, zq_add]
  have k6 : nI (7 * m) + (6 : Int32) = nI (7 * m + 6) := by rw [zl_6, zq_add]
  unfold F_X10_callLine_b304
  rw [num_1, z_b10, k4, k5, k6, if_neg (nI_in (by omega) (by omega)), if_neg (nI_in (by omega) (by omega)), if_neg (nI_in (by omega) (by omega)), if_neg i1_0]
  exact ⟨_, rfl⟩
theorem lo_ex {kd : Nat → Nat} {nt : Nat} {K : Ca} (hok : okC 4 nt kd K) {L : Option Nat} (hL : ∀ c, L = some c → c < cm K ∧ ¬ ce K c = -2) : L = none ∨ ∃ c e, L = some c ∧ c < cm K ∧ ce K c = nI e ∧ e ≤ 999 := by
  rcases L with _ | c
  · exact Or.inl rfl
  · obtain ⟨h1, h2⟩ := hL c rfl
    rcases (hok.2 c h1).2.2.2.2.2.1 with h | ⟨e, h3, h4, h5⟩
    · exact absurd h h2
    · exact Or.inr ⟨c, e, rfl, h1, h3, h5⟩
theorem lastOf_e {fu : Nat} (hfu : 20000 ≤ fu) {kd : Nat → Nat} {nt : Nat} {K : Ca} (hok : okC 4 nt kd K) {f0 f1 f2 f3 f4 f5 f6 : Nat → Int32} (hRC : RC K (nI (cm K)) f0 f1 f2 f3 f4 f5 f6) {q : Nat} (hq : q < 4) : F_X0_lastOf fu (nI (cm K)) f0 (nI q) = some (o32 (lst (cq K) q (cm K))) := by
  have hm := hok.1
  have e1 := X0_lastOf7 (q := cq K) (f := f0) (by omega : q < 100) (cm K) fu (by omega) hm (fun c hc => ⟨(hRC.2 c hc).1, by have := (hok.2 c hc).1; omega⟩)
  exact e1
theorem times_both {fu : Nat} (hfu : 20000 ≤ fu) {n : Nat} (hn : n ≤ 900) {f : Nat → Int32} {T : Nat → Nat} (ht : tx f T) {k p e w : Nat} {bh so pl wh : Int32} {wo : Int64} {at1 en tok wr ns : Int32} {le : Nat → Int32} (h : TK n f T k p e w bh so pl wh wo at1 en tok wr ns le) (fa pc fa' pc' : Int32) {nt : Nat} {kd : Nat → Nat} {K : Ca} {f0 f1 f2 f3 f4 f5 f6 nw : Nat → Int32} (hok : okC 4 nt kd K) (hRC : RC K (nI (cm K)) f0 f1 f2 f3 f4 f5 f6) (hK : RK K (ce K) nw) (hs0 : nw 140 = 0) (hm : cm K < 20) {q t a w0 : Nat} (hq : q < 4) (htt : t < nt) (ha : okA (kd t) a) (hw0 : w0 ≤ 9) (g0 : nw (7 * cm K) = nI q) (g1 : nw (7 * cm K + 1) = nI t) (g2 : nw (7 * cm K + 2) = nI a) (hL : ∀ c, lst (cq K) q (cm K) = some c → c < cm K ∧ ¬ ce K c = -2) :
    (∃ k' p' e' w' bh' so' pl' wh' wo' at2 en' tok' wr' ns' le' K' n' f0' f1' f2' f3' f4' f5' f6' nw', e ≤ p' ∧ F_X3_callTimes fu fa pc (nI q) (nI t) (nI a) (nI w0) (nI (cm K)) f0 (nI n) bh so pl wh wo f f5 f1 f2 f3 f4 f6 = some (1, fa, pc, n', f0', bh', so', pl', wh', wo', f5', f1', f2', f3', f4', f6') ∧ F_X10_callLine_b275 fu (nI n) at1 en tok wr ns fa' pc' 0 nw le f (nI (7 * cm K)) (nI w0) (o32 (lst (cq K) q (cm K))) (nI (7 * cm K + 3)) = some (at2, en', tok', wr', ns', fa', pc', 0, nw', le') ∧ TK n f T k' p' e' w' bh' so' pl' wh' wo' at2 en' tok' wr' ns' le' ∧ okC 4 nt kd K' ∧ RC K' n' f0' f1' f2' f3' f4' f5' f6' ∧ RK K' (ce K') nw' ∧ nw' 140 = 0) ∨
    (∃ c z bh' so' pl' wh' wo' at2 en' tok' wr' ns' le' n' f0' f1' f2' f3' f4' f5' f6' nw', F_X3_callTimes fu fa pc (nI q) (nI t) (nI a) (nI w0) (nI (cm K)) f0 (nI n) bh so pl wh wo f f5 f1 f2 f3 f4 f6 = some (0, c, z, n', f0', bh', so', pl', wh', wo', f5', f1', f2', f3', f4', f6') ∧ F_X10_callLine_b275 fu (nI n) at1 en tok wr ns fa' pc' 0 nw le f (nI (7 * cm K)) (nI w0) (o32 (lst (cq K) q (cm K))) (nI (7 * cm K + 3)) = some (at2, en', tok', wr', ns', c, z, 1, nw', le')) := by
  unfold F_X3_callTimes F_X10_callLine_b275
  have hu : RK K (ce K) (upd nw (7 * cm K + 3) (nI w0)) := by
    refine ⟨by rw [z_upd, if_neg (by omega)]; exact hK.1, fun c hc => ?_⟩
    rw [z_upd, if_neg (by omega), z_upd, if_neg (by omega), z_upd, if_neg (by omega), z_upd, if_neg (by omega), z_upd, if_neg (by omega), z_upd, if_neg (by omega), z_upd, if_neg (by omega)]
    exact hK.2 c hc
  rw [lastOf_e hfu hok hRC hq, z_b1, if_neg (nI_in (by omega) (by omega)), zd_cl (by omega)]
  rcases pass_both hfu hn ht h fa pc fa' pc' (a := 19) (b := 28) rfl rfl with ⟨k', p', e', w', bh', so', pl', wh', wo', at2, en', tok', wr', ns', le', hpp, q1, q2, hT⟩ | ⟨q1, q2⟩
  · rw [q1, q2, z_b8, z_b9, if_neg i1_0]
    have hT1 := hT.2.1
    have key := fun lo hlo => times40 hfu hn ht hT fa pc fa' pc' hok hRC hu (by rw [z_upd, if_neg (by omega)]; exact hs0) hm hq htt ha hw0 (by rw [z_upd, if_neg (by omega)]; exact g0) (by rw [z_upd, if_neg (by omega)]; exact g1) (by rw [z_upd, if_neg (by omega)]; exact g2) (by rw [z_upd, if_pos rfl]) (lo := lo) hlo
    have fin : ∀ lo, lo ≤ 1000 → (∃ k2 p2 e2 w2 bh2 so2 pl2 wh2 wo2 at3 en2 tok2 wr2 ns2 le2 K' n' f0' f1' f2' f3' f4' f5' f6' nw', e ≤ p2 ∧ F_X3_callTimes_b40 fu fa pc (nI q) (nI t) (nI a) (nI w0) (nI (cm K)) f0 (nI n) bh' so' pl' wh' wo' f f5 f1 f2 f3 f4 f6 (nI lo) = some (1, fa, pc, n', f0', bh2, so2, pl2, wh2, wo2, f5', f1', f2', f3', f4', f6') ∧ F_X10_callLine_b304 fu (nI n) at2 en' tok' wr' ns' fa' pc' 0 (upd nw (7 * cm K + 3) (nI w0)) le' f (nI (7 * cm K)) (nI lo) = some (at3, en2, tok2, wr2, ns2, fa', pc', 0, nw', le2) ∧ TK n f T k2 p2 e2 w2 bh2 so2 pl2 wh2 wo2 at3 en2 tok2 wr2 ns2 le2 ∧ okC 4 nt kd K' ∧ RC K' n' f0' f1' f2' f3' f4' f5' f6' ∧ RK K' (ce K') nw' ∧ nw' 140 = 0) ∨ (∃ c z bh2 so2 pl2 wh2 wo2 at3 en2 tok2 wr2 ns2 le2 n' f0' f1' f2' f3' f4' f5' f6' nw', F_X3_callTimes_b40 fu fa pc (nI q) (nI t) (nI a) (nI w0) (nI (cm K)) f0 (nI n) bh' so' pl' wh' wo' f f5 f1 f2 f3 f4 f6 (nI lo) = some (0, c, z, n', f0', bh2, so2, pl2, wh2, wo2, f5', f1', f2', f3', f4', f6') ∧ F_X10_callLine_b304 fu (nI n) at2 en' tok' wr' ns' fa' pc' 0 (upd nw (7 * cm K + 3) (nI w0)) le' f (nI (7 * cm K)) (nI lo) = some (at3, en2, tok2, wr2, ns2, c, z, 1, nw', le2)) := by
      intro lo hlo
      rcases key lo hlo with ⟨k2, p2, e2, w2, bh2, so2, pl2, wh2, wo2, at3, en2, tok2, wr2, ns2, le2, K', n', f0', f1', f2', f3', f4', f5', f6', nw', hpp2, r⟩ | r
      · exact Or.inl ⟨k2, p2, e2, w2, bh2, so2, pl2, wh2, wo2, at3, en2, tok2, wr2, ns2, le2, K', n', f0', f1', f2', f3', f4', f5', f6', nw', by omega, r⟩
      · exact Or.inr r
    rcases lo_ex hok hL with hl | ⟨c, x, hl, hc, hx, hx9⟩
    · rw [hl, if_neg (show ¬ (0 : Int32) ≤ o32 none by decide), if_neg (show ¬ (0 : Int32) ≤ o32 none by decide)]
      exact fin 0 (by omega)
    · have e3 : o32 (some c) = nI c := rfl
      have k5 : (7 : Int32) * nI c + 5 = nI (7 * c + 5) := by rw [zl_7, zl_5, zq_mul, zq_add]
      have eu : upd nw (7 * cm K + 3) (nI w0) (7 * c + 5) = nI x := by rw [(hu.2 c hc).2.2.2.2.2.1, hx]
      have h5 : f5 c = nI x := by rw [(hRC.2 c hc).2.2.2.2.2.1, hx]
      rw [hl, e3, if_pos (show (0 : Int32) ≤ nI c by rw [zl_0, zd_le (by omega) (by omega)]; omega), if_pos (show (0 : Int32) ≤ nI c by rw [zl_0, zd_le (by omega) (by omega)]; omega), X0_endOf (by omega), z_b1, h5, k5, if_neg (nI_in (by omega) (by omega)), zd_cl (by omega), eu, zl_1, zq_add]
      exact fin (x + 1) (by omega)
  · rw [q1, q2, z_b8, z_b9, if_pos i0_0]
    rcases lo_ex hok hL with hl | ⟨c, x, hl, hc, hx, hx9⟩
    · obtain ⟨nw', hn'⟩ := b304_no fu (nI n) at1 en tok wr ns 1 pl (upd nw (7 * cm K + 3) (nI w0)) le f hm 0
      rw [hl, if_neg (show ¬ (0 : Int32) ≤ o32 none by decide), hn']
      exact Or.inr ⟨1, pl, _, _, _, _, _, _, _, _, _, _, _, _, _, _, _, _, _, _, _, _, rfl, rfl⟩
    · have e3 : o32 (some c) = nI c := rfl
      have k5 : (7 : Int32) * nI c + 5 = nI (7 * c + 5) := by rw [zl_7, zl_5, zq_mul, zq_add]
      obtain ⟨nw', hn'⟩ := b304_no fu (nI n) at1 en tok wr ns 1 pl (upd nw (7 * cm K + 3) (nI w0)) le f hm (upd nw (7 * cm K + 3) (nI w0) (7 * c + 5) + 1)
      rw [hl, e3, if_pos (show (0 : Int32) ≤ nI c by rw [zl_0, zd_le (by omega) (by omega)]; omega), k5, if_neg (nI_in (by omega) (by omega)), zd_cl (by omega), hn']
      exact Or.inr ⟨1, pl, _, _, _, _, _, _, _, _, _, _, _, _, _, _, _, _, _, _, _, _, rfl, rfl⟩
/-! its act -/
theorem X8_doesY : ∀ k, k < 5 → ∀ a, a < 3 → (k = 0 → a ≠ 1) ∧ (k = 1 → a ≠ 2) → F_X8_does (nI k) (nI a) = some 1 := by decide
theorem X8_doesN : ∀ k, k < 5 → ∀ a, a < 3 → ¬ ((k = 0 → a ≠ 1) ∧ (k = 1 → a ≠ 2)) → F_X8_does (nI k) (nI a) = some 0 := by decide
theorem X8_doesM : ∀ k, k < 5 → F_X8_does (nI k) (-1) = some 0 := by decide
theorem b206_no (fu : Nat) (sz at1 en tok wr ns fa pc : Int32) (nw le f : Nat → Int32) (v1 v2 v3 v5 v6 v7 : Int32) : F_X10_callLine_b206 fu sz at1 en tok wr ns fa pc 1 nw le f v1 v2 v3 v5 v6 v7 = some (at1, en, tok, wr, ns, fa, pc, 1, nw, le) := by
  unfold F_X10_callLine_b206; rw [if_neg i1_0]
theorem b275_no (fu : Nat) (sz at1 en tok wr ns fa pc : Int32) (nw le f : Nat → Int32) {m : Nat} (hm : m < 20) (t0 : Int32) {L : Option Nat} (hL : ∀ c, L = some c → c < m) : ∃ nw', F_X10_callLine_b275 fu sz at1 en tok wr ns fa pc 1 nw le f (nI (7 * m)) t0 (o32 L) (nI (7 * m + 3)) = some (at1, en, tok, wr, ns, fa, pc, 1, nw', le) := by
  unfold F_X10_callLine_b275
  rw [if_neg (nI_in (by omega) (by omega)), pass_1, z_b9]
  rcases L with _ | c
  · rw [if_neg (show ¬ (0 : Int32) ≤ o32 none by decide)]
    exact b304_no _ _ _ _ _ _ _ _ _ _ _ _ hm _
  · have e3 : o32 (some c) = nI c := rfl
    have hc := hL c rfl
    have k5 : (7 : Int32) * nI c + 5 = nI (7 * c + 5) := by rw [zl_7, zl_5, zq_mul, zq_add]
    rw [e3, if_pos (show (0 : Int32) ≤ nI c by rw [zl_0, zd_le (by omega) (by omega)]; omega), k5, if_neg (nI_in (by omega) (by omega))]
    exact b304_no _ _ _ _ _ _ _ _ _ _ _ _ hm _
theorem act_stage {fu : Nat} (hfu : 20000 ≤ fu) {n : Nat} (hn : n ≤ 900) {f : Nat → Int32} {T : Nat → Nat} (ht : tx f T) {k p e w : Nat} {bh so pl wh : Int32} {wo : Int64} {at1 en tok wr ns : Int32} {le : Nat → Int32} (h : TK n f T k p e w bh so pl wh wo at1 en tok wr ns le) (fa pc fa' pc' : Int32) {nw : Nat → Int32} {m kk q t : Nat} (hm : m < 20) (hk : kk < 5) {L : Option Nat} (hL : ∀ c, L = some c → c < m) (aw0 t0 : Int32) (ht0 : t0 = -1 ∨ ∃ a, a < 3 ∧ t0 = nI a) :
    (∃ a w0, okA kk a ∧ w0 ≤ 9 ∧ ∃ k' p' e' w' bh' so' pl' wh' wo' at2 en' tok' wr' ns' le' nw', e ≤ p' ∧ F_X3_callAct_b62 fu fa pc aw0 (nI n) bh so pl wh wo f (nI kk) t0 = some (1, fa, pc, nI a, nI w0, bh', so', pl', wh', wo') ∧ F_X10_callLine_b167 fu (nI n) at1 en tok wr ns fa' pc' 0 nw le f (nI (7 * m)) (nI q) t0 (o32 L) (nI t) (nI kk) = F_X10_callLine_b275 fu (nI n) at2 en' tok' wr' ns' fa' pc' 0 nw' le' f (nI (7 * m)) (nI w0) (o32 L) (nI (7 * m + 3)) ∧ TK n f T k' p' e' w' bh' so' pl' wh' wo' at2 en' tok' wr' ns' le' ∧ (∀ p, p ≠ 7 * m → p ≠ 7 * m + 1 → p ≠ 7 * m + 2 → nw' p = nw p) ∧ nw' (7 * m) = nI q ∧ nw' (7 * m + 1) = nI t ∧ nw' (7 * m + 2) = nI a) ∨
    (∃ c z act aw bh' so' pl' wh' wo' at2 en' tok' wr' ns' le' nw', F_X3_callAct_b62 fu fa pc aw0 (nI n) bh so pl wh wo f (nI kk) t0 = some (0, c, z, act, aw, bh', so', pl', wh', wo') ∧ F_X10_callLine_b167 fu (nI n) at1 en tok wr ns fa' pc' 0 nw le f (nI (7 * m)) (nI q) t0 (o32 L) (nI t) (nI kk) = some (at2, en', tok', wr', ns', c, z, 1, nw', le')) := by
  have hpl := TK_pl h
  unfold F_X3_callAct_b62 F_X10_callLine_b167 F_X10_callLine_b185 F_X10_callLine_b197
  have bad : F_X8_does (nI kk) t0 = some 0 → (F_X10_callLine_b206 fu (nI n) at1 en tok wr ns 1 at1 1 nw le f (nI (7 * m)) (nI q) (o32 L) (nI t) (nI kk) t0) = some (at1, en, tok, wr, ns, 1, pl, 1, nw, le) := fun _ => by rw [b206_no, hpl]
  rcases ht0 with rfl | ⟨a, a3, rfl⟩
  · rw [X8_doesM kk hk, z_b1, if_pos i0_0, if_pos (show (-1 : Int32) < 0 by decide), wrong_0, z_b3, bad (X8_doesM kk hk)]
    exact Or.inr ⟨1, pl, _, _, _, _, _, _, _, _, _, _, _, _, _, _, rfl, rfl⟩
  · have e0 : (nI kk = (0 : Int32)) ↔ kk = 0 := by rw [zl_0, zd_eq (by omega) (by omega)]
    have e1 : (nI kk = (1 : Int32)) ↔ kk = 1 := by rw [zl_1, zd_eq (by omega) (by omega)]
    have d1 : (nI a = (1 : Int32)) ↔ a = 1 := by rw [zl_1, zd_eq (by omega) (by omega)]
    have d2 : (nI a = (2 : Int32)) ↔ a = 2 := by rw [zl_2, zd_eq (by omega) (by omega)]
    by_cases good : (kk = 0 → a ≠ 1) ∧ (kk = 1 → a ≠ 2)
    · rw [X8_doesY kk hk a a3 good, z_b1, if_neg i1_0]
      have hr : (if nI a < (0 : Int32) then (bnd3 (F_X10_wrong fa' pc' 0 1 at1) fun u203_0 u203_1 u203_2 => F_X10_callLine_b206 fu (nI n) at1 en tok wr ns u203_0 u203_1 u203_2 nw le f (nI (7 * m)) (nI q) (o32 L) (nI t) (nI kk) (nI a)) else if nI kk = 0 then (if nI a = (1 : Int32) then (bnd3 (F_X10_wrong fa' pc' 0 1 at1) fun u203_0 u203_1 u203_2 => F_X10_callLine_b206 fu (nI n) at1 en tok wr ns u203_0 u203_1 u203_2 nw le f (nI (7 * m)) (nI q) (o32 L) (nI t) (nI kk) (nI a)) else if nI kk = (1 : Int32) then (if nI a = (2 : Int32) then (bnd3 (F_X10_wrong fa' pc' 0 1 at1) fun u203_0 u203_1 u203_2 => F_X10_callLine_b206 fu (nI n) at1 en tok wr ns u203_0 u203_1 u203_2 nw le f (nI (7 * m)) (nI q) (o32 L) (nI t) (nI kk) (nI a)) else F_X10_callLine_b206 fu (nI n) at1 en tok wr ns fa' pc' 0 nw le f (nI (7 * m)) (nI q) (o32 L) (nI t) (nI kk) (nI a)) else F_X10_callLine_b206 fu (nI n) at1 en tok wr ns fa' pc' 0 nw le f (nI (7 * m)) (nI q) (o32 L) (nI t) (nI kk) (nI a)) else if nI kk = (1 : Int32) then (if nI a = (2 : Int32) then (bnd3 (F_X10_wrong fa' pc' 0 1 at1) fun u203_0 u203_1 u203_2 => F_X10_callLine_b206 fu (nI n) at1 en tok wr ns u203_0 u203_1 u203_2 nw le f (nI (7 * m)) (nI q) (o32 L) (nI t) (nI kk) (nI a)) else F_X10_callLine_b206 fu (nI n) at1 en tok wr ns fa' pc' 0 nw le f (nI (7 * m)) (nI q) (o32 L) (nI t) (nI kk) (nI a)) else F_X10_callLine_b206 fu (nI n) at1 en tok wr ns fa' pc' 0 nw le f (nI (7 * m)) (nI q) (o32 L) (nI t) (nI kk) (nI a)) = F_X10_callLine_b206 fu (nI n) at1 en tok wr ns fa' pc' 0 nw le f (nI (7 * m)) (nI q) (o32 L) (nI t) (nI kk) (nI a) := by
        rw [if_neg (show ¬ nI a < (0 : Int32) by rw [zl_0, zd_lt (by omega) (by omega)]; omega)]
        by_cases x0 : kk = 0
        · rw [if_pos (e0.mpr x0), if_neg (fun g => good.1 x0 (d1.mp g)), if_neg (fun g => by have := e1.mp g; omega)]
        · rw [if_neg (fun g => x0 (e0.mp g))]
          by_cases x1 : kk = 1
          · rw [if_pos (e1.mpr x1), if_neg (fun g => good.2 x1 (d2.mp g))]
          · rw [if_neg (fun g => x1 (e1.mp g))]
      rw [hr]
      unfold F_X10_callLine_b206
      obtain ⟨k', p', e', w', bh', so', pl', wh', wo', at2, en', tok', wr', ns', le', hpp, q1, q2, hT⟩ := nx_both hfu hn ht h
      have k0 : nI (7 * m) + (0 : Int32) = nI (7 * m) := Int32.add_zero _
      have k1 : nI (7 * m) + (1 : Int32) = nI (7 * m + 1) := by rw [zl_1, zq_add]
      have k2 : nI (7 * m) + (2 : Int32) = nI (7 * m + 2) := by rw [zl_2, zq_add]
      have k3 : nI (7 * m) + (3 : Int32) = nI (7 * m + 3) := by rw [zl_3, zq_add]
      have n0 : ¬ (nI (7 * m) < 0 ∨ 142 ≤ (nI (7 * m)).toNatClampNeg) := nI_in (by omega) (by omega)
      have n1 : ¬ (nI (7 * m + 1) < 0 ∨ 142 ≤ (nI (7 * m + 1)).toNatClampNeg) := nI_in (by omega) (by omega)
      have n2 : ¬ (nI (7 * m + 2) < 0 ∨ 142 ≤ (nI (7 * m + 2)).toNatClampNeg) := nI_in (by omega) (by omega)
      have hT1 := hT.2.1
      rw [if_pos i0_0, q1, q2, z_b5, z_b6, k0, k1, k2, k3, if_neg n0, if_neg n1, if_neg n2, X8_hasWholeA kk hk a a3, X10_hasWholeA kk hk a a3, z_b1, z_b1, zd_cl (by omega), zd_cl (by omega), zd_cl (by omega)]
      have hnw : ∀ p, p ≠ 7 * m → p ≠ 7 * m + 1 → p ≠ 7 * m + 2 → upd (upd (upd nw (7 * m) (nI q)) (7 * m + 1) (nI t)) (7 * m + 2) (nI a) p = nw p := fun p a1 a2 a3 => by
        rw [z_upd, if_neg a3, z_upd, if_neg a2, z_upd, if_neg a1]
      have hn0 : upd (upd (upd nw (7 * m) (nI q)) (7 * m + 1) (nI t)) (7 * m + 2) (nI a) (7 * m) = nI q := by rw [z_upd, if_neg (by omega), z_upd, if_neg (by omega), z_upd, if_pos rfl]
      have hn1 : upd (upd (upd nw (7 * m) (nI q)) (7 * m + 1) (nI t)) (7 * m + 2) (nI a) (7 * m + 1) = nI t := by rw [z_upd, if_neg (by omega), z_upd, if_pos rfl]
      have hn2 : upd (upd (upd nw (7 * m) (nI q)) (7 * m + 1) (nI t)) (7 * m + 2) (nI a) (7 * m + 2) = nI a := by rw [z_upd, if_pos rfl]
      by_cases hw : hwh kk a = true
      · have z1 : ¬ nI (if hwh kk a = true then 1 else 0) = 0 := by rw [if_pos hw]; exact n1_0
        rw [if_neg z1, if_neg z1]
        rcases num_both hfu hn ht hT fa pc fa' pc' (lo := 0) (hi := 9) (by omega) (by omega) with ⟨v, _, v9, vw, r1, k2', p2, e2, w2, bh2, so2, pl2, wh2, wo2, at3, en2, tok2, wr2, ns2, le2, hpp2, r2, r3, hT2⟩ | ⟨c, c1, r1, r2⟩
        · have r1' : F_X3_mustBeWhole fa pc so' pl' wh' 0 9 = some (1, fa, pc) := r1
          have r3' : F_X10_number fu (nI n) at2 en' tok' wr' ns' fa' pc' 0 f le' 0 9 = _ := r3
          rw [r1', z_b3, if_neg i1_0, r2, z_b5, r3', z_b10, vw]
          exact Or.inl ⟨a, v, ⟨a3, good⟩, v9, k2', p2, e2, w2, bh2, so2, pl2, wh2, wo2, at3, en2, tok2, wr2, ns2, le2, _, by omega, rfl, rfl, hT2, hnw, hn0, hn1, hn2⟩
        · have r1' : F_X3_mustBeWhole fa pc so' pl' wh' 0 9 = _ := r1
          have r2' : F_X10_number fu (nI n) at2 en' tok' wr' ns' fa' pc' 0 f le' 0 9 = _ := r2
          obtain ⟨nw', hn'⟩ := b275_no fu (nI n) at2 en' tok' wr' ns' c pl' (upd (upd (upd nw (7 * m) (nI q)) (7 * m + 1) (nI t)) (7 * m + 2) (nI a)) le' f hm 0 hL
          have hn'' : F_X10_callLine_b275 fu (nI n) at2 en' tok' wr' ns' c pl' 1 (upd (upd (upd nw (7 * m) (nI q)) (7 * m + 1) (nI t)) (7 * m + 2) (nI a)) le' f (nI (7 * m)) (nI 0) (o32 L) (nI (7 * m + 3)) = _ := hn'
          rw [r1', z_b3, if_pos i0_0, r2', z_b10, hn'']
          exact Or.inr ⟨c, pl', _, _, _, _, _, _, _, _, _, _, _, _, _, _, rfl, rfl⟩
      · have z1 : nI (if hwh kk a = true then 1 else 0) = 0 := by rw [if_neg hw]; rfl
        rw [if_pos z1, if_pos z1]
        exact Or.inl ⟨a, 0, ⟨a3, good⟩, by omega, k', p', e', w', bh', so', pl', wh', wo', at2, en', tok', wr', ns', le', _, hpp, rfl, rfl, hT, hnw, hn0, hn1, hn2⟩
    · rw [X8_doesN kk hk a a3 good, z_b1, if_pos i0_0]
      have hb := bad (X8_doesN kk hk a a3 good)
      rw [if_neg (show ¬ nI a < (0 : Int32) by rw [zl_0, zd_lt (by omega) (by omega)]; omega), wrong_0, z_b3, hb]
      by_cases x0 : kk = 0
      · have x1 : a = 1 := by
          refine Classical.not_not.mp (fun g => good ⟨fun _ => g, fun g2 => by omega⟩)
        rw [if_pos (e0.mpr x0), if_pos (d1.mpr x1)]
        exact Or.inr ⟨1, pl, _, _, _, _, _, _, _, _, _, _, _, _, _, _, rfl, rfl⟩
      · have x1 : kk = 1 := by
          refine Classical.not_not.mp (fun g => good ⟨fun g2 => absurd g2 x0, fun g2 => absurd g2 g⟩)
        have x2 : a = 2 := by
          refine Classical.not_not.mp (fun g => good ⟨fun g2 => absurd g2 x0, fun _ => g⟩)
        rw [if_neg (fun g => x0 (e0.mp g)), if_pos (e1.mpr x1), if_pos (d2.mpr x2)]
        exact Or.inr ⟨1, pl, _, _, _, _, _, _, _, _, _, _, _, _, _, _, rfl, rfl⟩
end
