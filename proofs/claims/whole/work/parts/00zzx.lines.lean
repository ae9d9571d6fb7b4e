section
/-! lines of a text: class and reference -/
theorem nx_both {fu : Nat} (hfu : 20000 ≤ fu) {n : Nat} (hn : n ≤ 900) {f : Nat → Int32} {T : Nat → Nat} (ht : tx f T) {k p e w : Nat} {bh so pl wh : Int32} {wo : Int64} {at1 en tok wr ns : Int32} {le : Nat → Int32} (h : TK n f T k p e w bh so pl wh wo at1 en tok wr ns le) :
    ∃ k' p' e' w' bh' so' pl' wh' wo' at2 en' tok' wr' ns' le', e ≤ p' ∧ F_X7_next fu (nI n) bh wh wo f = some (bh', so', pl', wh', wo') ∧ F_X10_next fu (nI n) en f le = some (at2, en', tok', wr', ns', le') ∧ TK n f T k' p' e' w' bh' so' pl' wh' wo' at2 en' tok' wr' ns' le' := by
  obtain ⟨hk5, hpe, hen, hne, ⟨rfl, rfl, rfl⟩, ⟨rfl, rfl, rfl⟩, hw1, hw2⟩ := h
  exact next_both hfu hn ht hen wh wo le
theorem TK_pl {n : Nat} {f : Nat → Int32} {T : Nat → Nat} {k p e w : Nat} {bh so pl wh : Int32} {wo : Int64} {at1 en tok wr ns : Int32} {le : Nat → Int32} (h : TK n f T k p e w bh so pl wh wo at1 en tok wr ns le) : at1 = pl := by
  rw [h.2.2.2.2.1.2.2, h.2.2.2.2.2.1.1]
theorem is2 {fu : Nat} (hfu : 20000 ≤ fu) {n : Nat} (hn : n ≤ 900) {f : Nat → Int32} {T : Nat → Nat} (ht : tx f T) {k p e w : Nat} {bh so pl wh : Int32} {wo : Int64} {at1 en tok wr ns : Int32} {le : Nat → Int32} (h : TK n f T k p e w bh so pl wh wo at1 en tok wr ns le) {a b : Nat} (hc : bytS.getD a [] = bytS.getD b []) (hl : lenS.getD a 0 = lenS.getD b 0) :
    (F_X7_is fu bh so pl f a = some 1 ∧ F_X10_isWord fu tok ns 0 le b = some 1 ∧ k = 1) ∨ (F_X7_is fu bh so pl f a = some 0 ∧ F_X10_isWord fu tok ns 0 le b = some 0) := by
  obtain ⟨r, r1, r2, r3⟩ := is_both hfu hn h hc hl
  cases r with
  | true => exact Or.inl ⟨r1, r2, r3 rfl⟩
  | false => exact Or.inr ⟨r1, r2⟩
theorem wrong_0 (fa pc v u : Int32) : F_X10_wrong fa pc 0 v u = some (v, u, 1) := rfl
theorem wrong_1 (fa pc v u : Int32) : F_X10_wrong fa pc 1 v u = some (fa, pc, 1) := rfl
theorem i1_0 : ¬ (1 : Int32) = 0 := by decide
theorem i0_0 : (0 : Int32) = 0 := rfl
theorem r01 : ¬ ¬ ((0 : Int32) = 0 ∨ (0 : Int32) = 1) := by decide
theorem r11 : ¬ ¬ ((1 : Int32) = 0 ∨ (1 : Int32) = 1) := by decide
theorem isw_1 (fu : Nat) (tok ns : Int32) (le : Nat → Int32) (b : Nat) : F_X10_isWord fu tok ns 1 le b = some 0 := by unfold F_X10_isWord; rw [if_neg i1_0]
theorem pass_1 (fu : Nat) (sz at1 en tok wr ns fa pc : Int32) (le f : Nat → Int32) (b : Nat) : F_X10_pass fu sz at1 en tok wr ns fa pc 1 le f b = some (at1, en, tok, wr, ns, fa, pc, 1, le) := by unfold F_X10_pass; rw [if_neg i1_0]
theorem num_1 (fu : Nat) (sz at1 en tok wr ns fa pc lo hi : Int32) (le f : Nat → Int32) : F_X10_number fu sz at1 en tok wr ns fa pc 1 f le lo hi = some (lo, at1, en, tok, wr, ns, fa, pc, 1, le) := by unfold F_X10_number; rw [if_neg i1_0]
theorem pass_both {fu : Nat} (hfu : 20000 ≤ fu) {n : Nat} (hn : n ≤ 900) {f : Nat → Int32} {T : Nat → Nat} (ht : tx f T) {k p e w : Nat} {bh so pl wh : Int32} {wo : Int64} {at1 en tok wr ns : Int32} {le : Nat → Int32} (h : TK n f T k p e w bh so pl wh wo at1 en tok wr ns le) (fa pc fa' pc' : Int32) {a b : Nat} (hc : bytS.getD a [] = bytS.getD b []) (hl : lenS.getD a 0 = lenS.getD b 0) :
    (∃ k' p' e' w' bh' so' pl' wh' wo' at2 en' tok' wr' ns' le', e ≤ p' ∧ F_X3_mustBe fu fa pc (nI n) bh so pl wh wo f a = some (1, fa, pc, bh', so', pl', wh', wo') ∧ F_X10_pass fu (nI n) at1 en tok wr ns fa' pc' 0 le f b = some (at2, en', tok', wr', ns', fa', pc', 0, le') ∧ TK n f T k' p' e' w' bh' so' pl' wh' wo' at2 en' tok' wr' ns' le') ∨
    (F_X3_mustBe fu fa pc (nI n) bh so pl wh wo f a = some (0, 1, pl, bh, so, pl, wh, wo) ∧ F_X10_pass fu (nI n) at1 en tok wr ns fa' pc' 0 le f b = some (at1, en, tok, wr, ns, 1, pl, 1, le)) := by
  have hpl := TK_pl h
  unfold F_X3_mustBe F_X10_pass F_X10_takes
  rcases is2 hfu hn ht h hc hl with ⟨r1, r2, r3⟩ | ⟨r1, r2⟩
  · obtain ⟨k', p', e', w', bh', so', pl', wh', wo', at2, en', tok', wr', ns', le', hpp, q1, q2, hT⟩ := nx_both hfu hn ht h
    refine Or.inl ⟨k', p', e', w', bh', so', pl', wh', wo', at2, en', tok', wr', ns', le', hpp, ?_, ?_, hT⟩
    · rw [r1, z_b1, if_neg i1_0, q1]; rfl
    · rw [if_pos i0_0, r2, z_b1, if_neg i1_0, q2]; rfl
  · refine Or.inr ⟨?_, ?_⟩
    · rw [r1, z_b1, if_pos i0_0]; rfl
    · rw [if_pos i0_0, r2, z_b1, if_pos i0_0, hpl]; rfl
theorem num_both {fu : Nat} (hfu : 20000 ≤ fu) {n : Nat} (hn : n ≤ 900) {f : Nat → Int32} {T : Nat → Nat} (ht : tx f T) {k p e w : Nat} {bh so pl wh : Int32} {wo : Int64} {at1 en tok wr ns : Int32} {le : Nat → Int32} (h : TK n f T k p e w bh so pl wh wo at1 en tok wr ns le) (fa pc fa' pc' : Int32) {lo hi : Nat} (hlo : lo < 2147483648) (hhi : hi < 2147483648) :
    (∃ v, lo ≤ v ∧ v ≤ hi ∧ wh = nI v ∧ F_X3_mustBeWhole fa pc so pl wh (nI lo) (nI hi) = some (1, fa, pc) ∧ ∃ k' p' e' w' bh' so' pl' wh' wo' at2 en' tok' wr' ns' le', e ≤ p' ∧ F_X7_next fu (nI n) bh wh wo f = some (bh', so', pl', wh', wo') ∧ F_X10_number fu (nI n) at1 en tok wr ns fa' pc' 0 f le (nI lo) (nI hi) = some (nI v, at2, en', tok', wr', ns', fa', pc', 0, le') ∧ TK n f T k' p' e' w' bh' so' pl' wh' wo' at2 en' tok' wr' ns' le') ∨
    (∃ c, (c = 1 ∨ c = 4) ∧ F_X3_mustBeWhole fa pc so pl wh (nI lo) (nI hi) = some (0, c, pl) ∧ F_X10_number fu (nI n) at1 en tok wr ns fa' pc' 0 f le (nI lo) (nI hi) = some (nI lo, at1, en, tok, wr, ns, c, pl, 1, le)) := by
  have hpl := TK_pl h
  obtain ⟨k', p', e', w', bh', so', pl', wh', wo', at2, en', tok', wr', ns', le', hpp, q1, q2, hT⟩ := nx_both hfu hn ht h
  obtain ⟨hk5, hpe, hen, hne, ⟨hb, hs, hp⟩, ⟨ha, he, htk⟩, hw1, hw2⟩ := h
  unfold F_X3_mustBeWhole F_X10_number
  rw [if_pos i0_0]
  by_cases dk : k = 2
  · obtain ⟨w9, hwh, hwr⟩ := hw2 dk
    have e1 : so = (2 : Int32) := by rw [hs, dk]; rfl
    have e2 : tok = (3 : Int32) := by rw [htk, dk]; rfl
    rw [if_pos e1, if_pos e2]
    by_cases d : lo ≤ w ∧ w ≤ hi
    · refine Or.inl ⟨w, d.1, d.2, hwh, ?_, k', p', e', w', bh', so', pl', wh', wo', at2, en', tok', wr', ns', le', hpp, q1, ?_, hT⟩
      · rw [if_neg (by rw [hwh, zd_lt (by omega) (by omega)]; omega), if_pos (by rw [hwh, zd_le (by omega) (by omega)]; omega)]; rfl
      · have hx : F_X10_within wr (nI lo) (nI hi) = some 1 := by rw [X10_within, if_pos ⟨by rw [hwr, zd_le (by omega) (by omega)]; exact d.1, by rw [hwr, zd_le (by omega) (by omega)]; exact d.2⟩]; rfl
        rw [hx, z_b1, if_neg i1_0, q2, hwr]; rfl
    · refine Or.inr ⟨4, Or.inr rfl, ?_, ?_⟩
      · by_cases d1 : w < lo
        · rw [if_pos (by rw [hwh, zd_lt (by omega) (by omega)]; exact d1)]; rfl
        · rw [if_neg (by rw [hwh, zd_lt (by omega) (by omega)]; exact d1), if_neg (by rw [hwh, zd_le (by omega) (by omega)]; omega)]; rfl
      · have hx : F_X10_within wr (nI lo) (nI hi) = some 0 := by
          rw [X10_within, if_neg]
          · rfl
          · intro hh
            rw [hwr] at hh
            have h1 := hh.1
            have h2 := hh.2
            rw [zd_le (by omega) (by omega)] at h1 h2
            exact d ⟨h1, h2⟩
        rw [hx, z_b1, if_pos i0_0, hpl]; rfl
  · have e1 : ¬ so = (2 : Int32) := by rw [hs, zl_2, zd_eq (by omega) (by omega)]; exact dk
    have hr : ∀ k, k < 6 → k ≠ 2 → rtk k ≠ 3 ∧ rtk k < 100 := by decide
    have hr' := hr k (by omega) dk
    have e2 : ¬ tok = (3 : Int32) := by rw [htk, zl_3, zd_eq (by omega) (by omega)]; exact hr'.1
    rw [if_neg e1, if_neg e2]
    refine Or.inr ⟨1, Or.inl rfl, ?_, ?_⟩
    · rfl
    · rw [hpl]; rfl
theorem beg_both {fu : Nat} (hfu : 20000 ≤ fu) {n : Nat} (hn : n ≤ 900) {f : Nat → Int32} {T : Nat → Nat} (ht : tx f T) {k p e w : Nat} {bh so pl wh : Int32} {wo : Int64} {at1 en tok wr ns : Int32} {le : Nat → Int32} (h : TK n f T k p e w bh so pl wh wo at1 en tok wr ns le) (fa pc fa' pc' : Int32) {a b : Nat} (hc : bytS.getD a [] = bytS.getD b []) (hl : lenS.getD a 0 = lenS.getD b 0) (v3 : Int32) :
    (F_X7_is fu bh so pl f a = some 1 ∧ k = 1 ∧ F_X10_begins fu (nI n) at1 en tok wr ns fa' pc' 0 le f b 0 v3 = some (1, at1, en, tok, wr, ns, v3, pl, 1, le) ∧
      ∃ k' p' e' w' bh' so' pl' wh' wo' at2 en' tok' wr' ns' le', e ≤ p' ∧ F_X7_next fu (nI n) bh wh wo f = some (bh', so', pl', wh', wo') ∧ F_X10_begins fu (nI n) at1 en tok wr ns fa' pc' 0 le f b 1 v3 = some (1, at2, en', tok', wr', ns', fa', pc', 0, le') ∧ TK n f T k' p' e' w' bh' so' pl' wh' wo' at2 en' tok' wr' ns' le') ∨
    (F_X7_is fu bh so pl f a = some 0 ∧ ∀ v2, F_X10_begins fu (nI n) at1 en tok wr ns fa' pc' 0 le f b v2 v3 = some (0, at1, en, tok, wr, ns, fa', pc', 0, le)) := by
  have hpl := TK_pl h
  unfold F_X10_begins F_X10_begins_b23
  rcases is2 hfu hn ht h hc hl with ⟨r1, r2, r3⟩ | ⟨r1, r2⟩
  · obtain ⟨k', p', e', w', bh', so', pl', wh', wo', at2, en', tok', wr', ns', le', hpp, q1, q2, hT⟩ := nx_both hfu hn ht h
    refine Or.inl ⟨r1, r3, ?_, k', p', e', w', bh', so', pl', wh', wo', at2, en', tok', wr', ns', le', hpp, q1, ?_, hT⟩
    · rw [r2, z_b1, if_neg i1_0, if_pos i0_0, wrong_0, hpl]; rfl
    · rw [r2, z_b1, if_neg i1_0, if_neg i1_0, if_pos i0_0, q2]; rfl
  · refine Or.inr ⟨r1, fun v2 => ?_⟩
    rw [r2, z_b1, if_pos i0_0]
/-- what is told so far: law, late, tills, cashiers, kinds, names, calls -/
def RDS (law : Bool) (late nt nc : Nat) (kd U : Nat → Nat) (K : Ca) (lawT lat tls csh cn : Int32) (tn cns : Nat → Int64) (kinds f0 f1 f2 f3 f4 f5 f6 fr nw : Nat → Int32) : Prop :=
  (lawT = nI (if law = true then 1 else 0) ∧ fr 1 = nI (if law = true then 1 else 0)) ∧ (late ≤ 99 ∧ lat = nI late ∧ fr 0 = nI late) ∧ (nt ≤ 3 ∧ tls = nI nt ∧ fr 2 = nI nt) ∧ (nc ≤ 4 ∧ csh = nI nc ∧ fr 6 = nI nc) ∧
  (∀ t, t < 3 → kinds t = nI (kd t) ∧ kd t < 5) ∧ (∀ t, t < nt → fr (3 + t) = nI (kd t)) ∧ NS U nt nc tn cns fr ∧ (okC 4 nt kd K ∧ RC K cn f0 f1 f2 f3 f4 f5 f6) ∧ (RK K (ce K) nw ∧ nw 140 = 0)
def KB (kinds : Nat → Int32) : Prop := ∀ t, t < 3 → ∃ v, v < 5 ∧ kinds t = nI v
theorem RDS_KB {law : Bool} {late nt nc : Nat} {kd U : Nat → Nat} {K : Ca} {lawT lat tls csh cn : Int32} {tn cns : Nat → Int64} {kinds f0 f1 f2 f3 f4 f5 f6 fr nw : Nat → Int32} (h : RDS law late nt nc kd U K lawT lat tls csh cn tn cns kinds f0 f1 f2 f3 f4 f5 f6 fr nw) : KB kinds :=
  fun t ht => ⟨kd t, (h.2.2.2.2.1 t ht).2, (h.2.2.2.2.1 t ht).1⟩
end
