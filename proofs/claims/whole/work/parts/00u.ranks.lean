/-! the reference's rows: a cashier's calls by rank; how many of them are done -/
def row (y : Sy) (q c : Nat) : Bool := yinn y c && ycsh y c == q
def rnk (y : Sy) (q c : Nat) : Nat := fb_ct (row y q) c
def lng (y : Sy) (q : Nat) : Nat := rnk y q (ym y)
def cnt (y : Sy) (q D : Nat) : Nat := fb_ct (fun c => row y q c && D.testBit c) (ym y)
theorem row_iff {y : Sy} {q c : Nat} : row y q c = true ↔ yinn y c = true ∧ ycsh y c = q := by
  unfold row
  rw [Bool.and_eq_true, beq_iff_eq]
theorem rnk_lt {y : Sy} {q c : Nat} (hc : c < ym y) (h : row y q c = true) : rnk y q c < lng y q := by
  have h1 : fb_ct (row y q) (c + 1) ≤ lng y q := fb_ct_mono _ hc
  rw [fb_ct_succ, if_pos h] at h1
  exact h1
theorem rnk_inj {y : Sy} {q c b : Nat} (h : row y q c = true) (g : row y q b = true) (e : rnk y q c = rnk y q b) : c = b := fb_ct_kth_one h g e
theorem lng_le {y : Sy} {q : Nat} (hw : WF y) : lng y q ≤ 20 := Nat.le_trans (fb_ct_le _ _) hw.1
theorem cnt_le {y : Sy} {q D : Nat} : cnt y q D ≤ lng y q := fb_ct_sub (fun k _ h => (Bool.and_eq_true _ _ |>.mp h).1)
theorem cnt_bit {y : Sy} {x : St} (hx : okS y x) {q c : Nat} (hc : c < ym y) (h : row y q c = true) : x.1.testBit c = true ↔ rnk y q c < cnt y q x.1 := by
  have hr := row_iff.mp h
  constructor
  · intro hb
    have h1 : fb_ct (fun c => row y q c && x.1.testBit c) (c + 1) ≤ cnt y q x.1 := fb_ct_mono _ hc
    have h2 : fb_ct (fun c => row y q c && x.1.testBit c) c = rnk y q c := by
      apply fb_ct_cong
      intro k hk
      rcases hrk : row y q k
      · rfl
      · have := row_iff.mp hrk
        rw [hx.2.1 c k hk hb this.1 (this.2.trans hr.2.symm)]; rfl
    rw [fb_ct_succ, h2, if_pos (by rw [h, hb]; rfl)] at h1
    exact h1
  · intro hl
    rcases hb : x.1.testBit c
    · exfalso
      have h1 : cnt y q x.1 ≤ rnk y q c := by
        have h2 := fb_ct_split (fun c => row y q c && x.1.testBit c) c (ym y - c)
        rw [show c + (ym y - c) = ym y by omega] at h2
        have h3 : fb_ct (fun k => row y q (c + k) && x.1.testBit (c + k)) (ym y - c) = 0 := by
          rw [fb_ct_zero]
          intro k hk
          rcases hrk : row y q (c + k)
          · rfl
          · rcases hbk : x.1.testBit (c + k)
            · rfl
            · exfalso
              rcases Nat.eq_zero_or_pos k with g | g
              · subst g; rw [Nat.add_zero, hb] at hbk; cases hbk
              · have h4 := row_iff.mp hrk
                have := hx.2.1 (c + k) c (by omega) hbk hr.1 (hr.2.trans h4.2.symm)
                rw [hb] at this; cases this
        have h4 : cnt y q x.1 = fb_ct (fun c => row y q c && x.1.testBit c) c := by
          unfold cnt
          rw [h2, h3, Nat.add_zero]
        rw [h4]
        exact fb_ct_sub (fun k _ h => (Bool.and_eq_true _ _ |>.mp h).1)
      omega
    · rfl
theorem cnt_inj {y : Sy} (hw : WF y) {x z : St} (hx : okS y x) (hz : okS y z) (h : ∀ q, q < 4 → cnt y q x.1 = cnt y q z.1) : x.1 = z.1 := by
  apply Nat.eq_of_testBit_eq
  intro i
  rcases hi : decide (i < ym y ∧ yinn y i = true)
  · have hn := of_decide_eq_false hi
    have h1 : x.1.testBit i = false := by
      rcases e : x.1.testBit i
      · rfl
      · exact absurd (hx.1 i e) hn
    have h2 : z.1.testBit i = false := by
      rcases e : z.1.testBit i
      · rfl
      · exact absurd (hz.1 i e) hn
    rw [h1, h2]
  · have hn := of_decide_eq_true hi
    have hr : row y (ycsh y i) i = true := row_iff.mpr ⟨hn.2, rfl⟩
    have a := cnt_bit hx hn.1 hr
    have b := cnt_bit hz hn.1 hr
    rw [h _ (hw.2.2.2.1 i hn.1).1] at a
    rcases e : x.1.testBit i <;> rcases e2 : z.1.testBit i
    · rfl
    · rw [e] at a; rw [e2] at b; exact absurd (a.mpr (b.mp rfl)) (by simp)
    · rw [e] at a; rw [e2] at b; exact absurd (b.mpr (a.mp rfl)) (by simp)
    · rfl
/-- the first that isn't done -/
theorem frs_at {y : Sy} {x : St} (hx : okS y x) {q c : Nat} (hc : c < ym y) (h : row y q c = true) (e : rnk y q c = cnt y q x.1) : frs y q x.1 = c ∧ x.1.testBit c = false := by
  have hr := row_iff.mp h
  have hb : x.1.testBit c = false := by
    rcases g : x.1.testBit c
    · rfl
    · have := (cnt_bit hx hc h).mp g
      omega
  refine ⟨?_, hb⟩
  unfold frs
  rcases Nat.lt_trichotomy (fa_first (fun c => yinn y c && ycsh y c == q && !x.1.testBit c) (ym y)) c with g | g | g
  · have h1 := fa_first_yes _ _ (Nat.lt_trans g hc)
    simp only [Bool.and_eq_true, beq_iff_eq, Bool.not_eq_true'] at h1
    have h2 := row_iff.mpr h1.1
    have h3 : rnk y q (fa_first (fun c => yinn y c && ycsh y c == q && !x.1.testBit c) (ym y)) < rnk y q c := by
      have h4 : fb_ct (row y q) (fa_first (fun c => yinn y c && ycsh y c == q && !x.1.testBit c) (ym y) + 1) ≤ rnk y q c := fb_ct_mono _ g
      rw [fb_ct_succ, if_pos h2] at h4
      exact h4
    have := (cnt_bit hx (Nat.lt_trans g hc) h2).mpr (by omega)
    rw [h1.2] at this; cases this
  · exact g
  · have h1 := fa_first_no _ _ _ g
    simp [hr.1, hr.2, hb] at h1
theorem nx_full {y : Sy} {x : St} (hx : okS y x) {q : Nat} (h : cnt y q x.1 = lng y q) : nx y q x.1 = none := by
  rcases e : nx y q x.1 with _ | c
  · rfl
  · have h1 := nx_some.mp e
    have hr := row_iff.mpr ⟨h1.2.1, h1.2.2.1⟩
    have h2 := rnk_lt h1.1 hr
    rw [← h] at h2
    have := (cnt_bit hx h1.1 hr).mpr h2
    rw [h1.2.2.2.1] at this; cases this
theorem nx_at {y : Sy} {x : St} (hx : okS y x) {q c : Nat} (hc : c < ym y) (h : row y q c = true) (e : rnk y q c = cnt y q x.1) : nx y q x.1 = if nxo y x.1 c = true then some c else none := by
  have h1 := (frs_at hx hc h e).1
  unfold nx
  rw [h1]
  by_cases g : nxo y x.1 c = true
  · rw [if_pos ⟨hc, g⟩, if_pos g]
  · rw [if_neg (fun h => g h.2), if_neg g]
theorem cnt_go {y : Sy} {x : St} {k c : Nat} (hn : nx y k x.1 = some c) {q : Nat} : cnt y q (go y x c).1 = cnt y q x.1 + if q = k then 1 else 0 := by
  obtain ⟨h1, h2, h3, h4, _, _⟩ := nx_some.mp hn
  have e : (fun i => row y q i && (go y x c).1.testBit i) = (fun i => if i = c then row y q c else (row y q i && x.1.testBit i)) := by
    funext i
    show (row y q i && (x.1 ||| 2 ^ c).testBit i) = _
    rw [bit_or]
    by_cases g : i = c
    · subst g; simp
    · rw [if_neg g]; simp [Ne.symm g]
  have h5 := fb_ct_upd (fun i => row y q i && x.1.testBit i) (row y q c) h1
  unfold cnt
  rw [e]
  simp only [h4, Bool.and_false, Bool.false_eq_true, ↓reduceIte, Nat.add_zero] at h5
  rw [h5]
  congr 1
  by_cases g : q = k
  · have : row y q c = true := row_iff.mpr ⟨h2, h3.trans g.symm⟩
    rw [if_pos g, this]; rfl
  · have : row y q c = false := by
      rcases hr : row y q c
      · rfl
      · exact absurd ((row_iff.mp hr).2.symm.trans h3) g
    rw [if_neg g, this]; rfl
theorem cnt_ini {y : Sy} {q : Nat} : cnt y q (ini y).1 = 0 := by
  unfold cnt
  rw [fb_ct_zero]
  intro k _
  simp [ini]
