theorem X1_firstLead4 {y : Sy} (hw : WF y) {G : Gr} (hG : GO y G) {own ahd done leads : Nat → Int32} {ways : Nat → Int64} (hR : ROW y own ahd) (hn : NC y G leads) (hv : ∀ i, i < G.1 → ways i = lN (PW y (whole y) (G.2 i))) {s : Nat} (hs : s < G.1) (hd : done s = nI (G.2 s).1) :
    ∀ (j kf k : Nat), j < kf → k + j = 4 → F_X1_firstLead_b4 (nI G.1) leads ways done own ahd (nI s) kf (cn (bstk y (G.2 s) k)) (nI k) = some (cn (bstk y (G.2 s) 4))
  | 0, kf, k, hj, hk => by
    obtain ⟨g, rfl⟩ : ∃ g, kf = g + 1 := ⟨kf - 1, by omega⟩
    have : k = 4 := by omega
    subst this
    rw [F_X1_firstLead_b4, if_pos (by decide)]
  | j + 1, kf, k, hj, hk => by
    obtain ⟨g, rfl⟩ : ∃ g, kf = g + 1 := ⟨kf - 1, by omega⟩
    have h6 := hG.2.1
    have ih := X1_firstLead4 hw hG hR hn hv hs hd j g (k + 1) (by omega) (by omega)
    have i1 : nI k + (1 : Int32) = nI (k + 1) := by rw [zl_1, zq_add]
    have hle := X6_leadsToEnd hG hv hs (by omega : k < 4)
    rw [F_X1_firstLead_b4, if_neg (by rw [zl_4, zd_le (by omega) (by omega)]; omega), X6_leadAt h6 hs (by omega), z_b1, hn s k hs (by omega), hle, z_b1]
    unfold F_X1_firstLead_b57 F_X1_firstLead_b59
    rw [i1]
    have hl : lde y (whole y) (G.2 s) k = lds y (G.2 s) k := rfl
    rw [hl]
    unfold bstk at ih
    by_cases c : lds y (G.2 s) k = true
    · rw [if_pos c, if_neg n1_0]
      rw [if_pos c] at ih
      obtain ⟨z, hz, _⟩ := lds_some c
      rcases e : bstk y (G.2 s) k with _ | b
      · rw [e] at ih
        rw [if_pos (show cn none < 0 by decide)]
        exact ih
      · rw [e] at ih
        have hb := bstk_lt k b e
        obtain ⟨z', hz', _⟩ := lds_some hb.2
        have hcb : cn (some b) = nI b := rfl
        rw [hcb, if_neg (nI_pos (by omega)), X6_callAt hw hR h6 hs (by omega) hd, z_b1, X6_callAt hw hR h6 hs (by omega) hd, z_b1, nst_nx hz, nst_nx hz']
        have l1 := cl_lt hw hz
        have l2 := cl_lt hw hz'
        have hle2 : (cn (some (cl y (G.2 s) b)) ≤ cn (some (cl y (G.2 s) k))) = (cl y (G.2 s) b ≤ cl y (G.2 s) k) := zd_le (by omega) (by omega)
        by_cases d : cl y (G.2 s) b ≤ cl y (G.2 s) k
        · simp only [d, ↓reduceIte] at ih
          rw [if_pos (by rw [hle2]; exact d)]
          exact ih
        · simp only [d, ↓reduceIte] at ih
          rw [if_neg (by rw [hle2]; exact d)]
          exact ih
    · rw [if_neg c, if_pos n0_0]
      rw [if_neg c] at ih
      exact ih
theorem X1_firstLead {fu : Nat} (hfu : 20000 ≤ fu) {y : Sy} (hw : WF y) {G : Gr} (hG : GO y G) {own ahd done leads : Nat → Int32} {ways : Nat → Int64} (hR : ROW y own ahd) (hn : NC y G leads) (hv : ∀ i, i < G.1 → ways i = lN (PW y (whole y) (G.2 i))) {s : Nat} (hs : s < G.1) (hd : done s = nI (G.2 s).1) :
    F_X1_firstLead fu (nI G.1) leads ways done own ahd (nI s) = some (cn (bstk y (G.2 s) 4)) := X1_firstLead4 hw hG hR hn hv hs hd 4 fu 0 (by omega) (by omega)
theorem X4_isEnd {M D : Int32} : F_X4_isEnd M D = some (if M &&& (D ^^^ (-1 : Int32)) = 0 then 1 else 0) := by
  unfold F_X4_isEnd
  split <;> rfl
theorem X1_ff42 {fu : Nat} (hfu : 20000 ≤ fu) {y : Sy} (hw : WF y) {G : Gr} (hG : GO y G) {own ahd done tills leads tab : Nat → Int32} {ways : Nat → Int64} {must r1 r3 r4 b : Int32} (hR : ROW y own ahd) (hn : NC y G leads) (hv : ∀ i, i < G.1 → ways i = lN (PW y (whole y) (G.2 i)))
    (hd : ∀ i, i < G.1 → done i = nI (G.2 i).1) (he : ∀ i, i < G.1 → (must &&& (done i ^^^ (-1 : Int32)) = 0 ↔ whole y (G.2 i) = true)) :
    ∀ (f kf i s : Nat) (path : Nat → Int32), 20 < f + i → f < kf → s < G.1 → i = lv y (G.2 s) → 0 < PW y (whole y) (G.2 s) →
    ∃ path', F_X1_findFirst_b42 fu r1 must r3 r4 own ahd b (nI G.1) tab done tills leads ways kf path (nI s) (nI i) (nI i) = some (nI (i + (pth y f (G.2 s)).length), r1, must, r3, r4, own, ahd, b, nI G.1, tab, done, tills, leads, ways, path') ∧
      (∀ j, j < (pth y f (G.2 s)).length → path' (i + j) = nI ((pth y f (G.2 s)).getD j 0)) ∧ ∀ j, j < i → path' j = path j
  | 0, kf, i, s, path, hf, hkf, hs, hi, hp => by
    have := lv_le hw (G.2 s)
    omega
  | f + 1, kf, i, s, path, hf, hkf, hs, hi, hp => by
    obtain ⟨g, rfl⟩ : ∃ g, kf = g + 1 := ⟨kf - 1, by omega⟩
    have h6 := hG.2.1
    have hx := hG.2.2.2.2.1 s hs
    have hl := lv_le hw (G.2 s)
    rw [F_X1_findFirst_b42]
    by_cases c20 : i = 20
    · have hlen := pth_len hw (f + 1) (G.2 s) hx
      have h0 : (pth y (f + 1) (G.2 s)).length = 0 := by omega
      rw [if_pos (by rw [c20]; decide), h0]
      exact ⟨path, rfl, fun j hj => absurd hj (Nat.not_lt_zero j), fun _ _ => rfl⟩
    · rw [if_neg (by rw [zl_20, zd_le (by omega) (by omega)]; omega), X6_doneAt h6 hs, z_b1, X4_isEnd, z_b1]
      by_cases cw : whole y (G.2 s) = true
      · have h0 : pth y (f + 1) (G.2 s) = [] := by unfold pth; rw [if_pos cw]
        rw [if_pos ((he s hs).mpr cw), if_neg (by decide), h0]
        exact ⟨path, rfl, fun j hj => absurd hj (Nat.not_lt_zero j), fun _ _ => rfl⟩
      · obtain ⟨bb, z, hb, hb4, hz, hpz⟩ := step_ex hw hx hp cw
        have h0 : pth y (f + 1) (G.2 s) = cl y (G.2 s) bb :: pth y f z := by
          rw [pth, if_neg cw, hb]; simp only [hz]
        obtain ⟨f1, f2⟩ := hG.2.2.2.2.2.1 s bb z hs hb4 hz
        have hGz := fnd_lt f1
        have hlz := (nst_okS hw hx hz).2
        have hcn : cn (some bb) = nI bb := rfl
        rw [if_neg (fun h => cw ((he s hs).mp h)), if_pos (by decide), X1_firstLead hfu hw hG hR hn hv hs (hd s hs), z_b1, hb, hcn, X6_callAt hw hR h6 hs hb4 (hd s hs), z_b1, nst_nx hz, if_neg (nI_in (by omega) (by omega)), X6_leadAt h6 hs hb4, z_b1, hn s bb hs hb4, hz, zd_cl (by omega)]
        have hcd : cd G (some z) = nI (fnd G z) := rfl
        have i1 : nI i + (1 : Int32) = nI (i + 1) := by rw [zl_1, zq_add]
        rw [hcd, i1]
        obtain ⟨path', e, h1, h2⟩ := X1_ff42 hfu hw hG (tills := tills) (tab := tab) (r1 := r1) (r3 := r3) (r4 := r4) (b := b) hR hn hv hd he f g (i + 1) (fnd G z) (upd path i (cn (some (cl y (G.2 s) bb)))) (by omega) (by omega) f1 (by rw [hGz]; omega) (by rw [hGz]; exact hpz)
        rw [hGz] at e h1
        refine ⟨path', ?_, fun j hj => ?_, fun j hj => ?_⟩
        · rw [e, h0, List.length_cons, show i + 1 + (pth y f z).length = i + ((pth y f z).length + 1) by omega]
        · rw [h0] at hj ⊢
          rcases j with _ | j
          · rw [h2 _ (by omega), z_upd, if_pos (by omega)]; rfl
          · have := h1 j (by simpa using hj)
            rw [show i + (j + 1) = i + 1 + j by omega, this]
            rfl
        · rw [h2 j (by omega), z_upd, if_neg (by omega)]
/-- what size and order tell: none: no order -/
def fst (K : Ca) (kd : Nat → Nat) (nt late k : Nat) : Option (List Nat) := if PW (Yk K kd nt late k) (whole (Yk K kd nt late k)) (ini (Yk K kd nt late k)) = 0 then none else some (pth (Yk K kd nt late k) 21 (ini (Yk K kd nt late k)))
theorem X1_findFirst {fu : Nat} (hfu : 20000 ≤ fu) {K : Ca} {kd : Nat → Nat} {nt late : Nat} {n l : Int32} {f0 f1 f2 f3 f4 f5 f6 kinds : Nat → Int32} (h : CS K kd nt late n f0 f1 f2 f3 f4 f5 f6 kinds l) {k : Nat} (hk : k ≤ 2)
    {b : Nat} {own ahd tab done tills leads path : Nat → Int32} {ways : Nat → Int64} (hT : TB b tab) :
    ∃ r r1' r2' r3' r4' own' ahd' b' cnt' tab' done' tills' leads' ways' path', F_X1_findFirst fu n f5 l own f0 f4 ahd (nI b) tab done tills kinds f1 f2 f3 f6 leads ways path (nI k) =
      some (r, r1', r2', r3', r4', own', ahd', nI b', cnt', tab', done', tills', leads', ways', path') ∧ TB b' tab' ∧ (full (Yk K kd nt late k) = true → r = -10) ∧
      (full (Yk K kd nt late k) = false → match fst K kd nt late k with | none => r = -11 | some p => r = nI p.length ∧ ∀ j, j < p.length → path' j = nI (p.getD j 0)) := by
  obtain ⟨own', ahd', b', cnt', tab', done', tills', leads', e1, hT', hR, h1⟩ := X1_explore (kind := k) (own := own) (ahd := ahd) (done := done) (tills := tills) (leads := leads) hfu h (by omega) hT
  have hw := CS_Yk h k
  unfold F_X1_findFirst
  rw [e1, z_b13]
  by_cases c : full (Yk K kd nt late k) = true
  · rw [if_pos c, if_pos n0_0]
    exact ⟨_, _, _, _, _, _, _, _, _, _, _, _, _, _, _, rfl, hT', fun _ => rfl, fun h => by rw [c] at h; cases h⟩
  · have c' : full (Yk K kd nt late k) = false := by simpa using c
    obtain ⟨h2, h3, h4⟩ := h1 c'
    have hG := GO_gr hw c'
    have he := JX_end h.2.1.1 (fun a ha => ((okI_k K).2 a ha).1) h3
    obtain ⟨ways', e2, hv⟩ := X6_countWays (ways := ways) (e := whole (Yk K kd nt late k)) hfu hw hG h4 he
    rw [if_neg c, if_neg n1_0, h2, e2, z_b2, hG.2.2.2.1]
    have hle := PW_le (y := Yk K kd nt late k) (e := whole (Yk K kd nt late k)) (x := ini (Yk K kd nt late k))
    rw [MW_eq] at hle
    have hc0 : (lg_cmp (lN (PW (Yk K kd nt late k) (whole (Yk K kd nt late k)) (ini (Yk K kd nt late k)))) 0 = 0) ↔ PW (Yk K kd nt late k) (whole (Yk K kd nt late k)) (ini (Yk K kd nt late k)) = 0 := by
      rw [zL_0]; exact Iff.of_eq (zc_eq0 (by omega) (by omega))
    by_cases g : PW (Yk K kd nt late k) (whole (Yk K kd nt late k)) (ini (Yk K kd nt late k)) = 0
    · rw [if_pos (hc0.mpr g)]
      have hf : fst K kd nt late k = none := by unfold fst; rw [if_pos g]
      exact ⟨_, _, _, _, _, _, _, _, _, _, _, _, _, _, _, rfl, hT', fun h => absurd h c, fun _ => by rw [hf]⟩
    · rw [if_neg (fun h => g (hc0.mp h))]
      have hf : fst K kd nt late k = some (pth (Yk K kd nt late k) 21 (ini (Yk K kd nt late k))) := by unfold fst; rw [if_neg g]
      obtain ⟨path', e3, h5, _⟩ := X1_ff42 (tills := tills') (tab := tab') (r1 := nI (msk (alb K) (cm K))) (r3 := nI (msk (enb K) (cm K))) (r4 := nI (msk (enb K) (cm K))) (b := nI b') hfu hw hG hR h4 hv (fun i hi => (h3 i hi).1) he 21 fu 0 0 path (by omega) (by omega) hG.1 (by rw [hG.2.2.2.1, lv_ini]) (by rw [hG.2.2.2.1]; omega)
      rw [hG.2.2.2.1] at e3 h5
      rw [zl_0, e3, Nat.zero_add]
      refine ⟨_, _, _, _, _, _, _, _, _, _, _, _, _, _, _, rfl, hT', fun h => absurd h c, fun _ => ?_⟩
      rw [hf]
      exact ⟨rfl, fun j hj => by have := h5 j hj; rwa [Nat.zero_add] at this⟩
/-! the reference's first order -/
theorem rnk_nx {y : Sy} {x : St} (hx : okS y x) {k c : Nat} (h : nx y k x.1 = some c) : row y k c = true ∧ rnk y k c = cnt y k x.1 := by
  obtain ⟨h1, h2, h3, h4, h5, _⟩ := nx_some.mp h
  have hr : row y k c = true := row_iff.mpr ⟨h2, h3⟩
  refine ⟨hr, ?_⟩
  have hge : ¬ rnk y k c < cnt y k x.1 := by
    intro g
    have := (cnt_bit hx h1 hr).mpr g
    rw [h4] at this; cases this
  rcases Nat.lt_or_ge (cnt y k x.1) (rnk y k c) with g | g
  · exfalso
    obtain ⟨b, b1, b2, b3⟩ := fb_ct_kth (p := row y k) (n := c) (k := cnt y k x.1) g
    have hb := row_iff.mp b2
    have := (cnt_bit hx (by omega) b2).mp (h5 b b1 hb.1 hb.2)
    have b3' : rnk y k b = cnt y k x.1 := b3
    omega
  · omega
theorem cl_csh {y : Sy} {k : Nat} {x z : St} (h : nst y k x = some z) : ycsh y (cl y x k) = k := (nx_some.mp (nst_nx h)).2.2.1
theorem X10_lf31 {fu : Nat} {y : Sy} (hw : WF y) {G : Gr} (hG : GO y G) {leads doneOf long row' w first next : Nat → Int32} {tills : Nat → Int64} (hRw : rows_ok y long row') (hRR : RR y G doneOf tills) (hn : NX y G next) (hl : ∀ i, i < G.1 → isB (leads i) (CE y (G.2 i)))
    (k15 : (Nat → Int32) → Int32 → Int32 → Option (Int32 × (Nat → Int32))) {s i b : Nat} {z : St} (hs : s < G.1) (hi : i < 20) (hb : bstk y (G.2 s) 4 = some b) (hz : nst y b (G.2 s) = some z) :
    ∀ (j kf k : Nat), j < kf → k + j = 4 →
    F_X10_layFirst_b31 k15 fu leads doneOf long row' w first next (nI i) (nI s) kf (match bstk y (G.2 s) k with | none => -1 | some b => nI (cl y (G.2 s) b)) (cn (bstk y (G.2 s) k)) (nI k) = k15 (upd first i (nI (cl y (G.2 s) b))) (nI (i + 1)) (nI (fnd G z))
  | 0, kf, k, hj, hk => by
    obtain ⟨g, rfl⟩ : ∃ g, kf = g + 1 := ⟨kf - 1, by omega⟩
    have : k = 4 := by omega
    subst this
    have h6 := hG.2.1
    have hb4 := (bstk_lt 4 b hb).1
    have hcn : cn (some b) = nI b := rfl
    have hcd : cd G (some z) = nI (fnd G z) := rfl
    have hnx := hn s b hs hb4
    rw [hz, hcd] at hnx
    rw [F_X10_layFirst_b31, if_pos (by decide), if_neg (nI_in (by omega) (by omega)), zd_cl (by omega), hb, hcn, zl_4, zq_mul, zq_add, if_neg (nI_in (by omega) (by omega)), zd_cl (by omega), hnx, zl_1, zq_add]
  | j + 1, kf, k, hj, hk => by
    obtain ⟨g, rfl⟩ : ∃ g, kf = g + 1 := ⟨kf - 1, by omega⟩
    have h6 := hG.2.1
    have hx := hG.2.2.2.2.1 s hs
    have ih := X10_lf31 (fu := fu) hw hG (w := w) (first := first) hRw hRR hn hl k15 hs hi hb hz j g (k + 1) (by omega) (by omega)
    have i1 : nI k + (1 : Int32) = nI (k + 1) := by rw [zl_1, zq_add]
    have i4 : (4 : Int32) * nI s + nI k = nI (4 * s + k) := by rw [zl_4, zq_mul, zq_add]
    rw [F_X10_layFirst_b31, if_neg (by rw [zl_4, zd_le (by omega) (by omega)]; omega)]
    unfold F_X10_layFirst_b105 F_X10_layFirst_b112
    rw [i1, i4, if_neg (nI_in (by omega) (by omega)), zd_cl (by omega), hn s k hs (by omega)]
    unfold bstk at ih
    rcases e : nst y k (G.2 s) with _ | zk
    · have hcd : cd G none = -1 := rfl
      have hl0 : ¬ lds y (G.2 s) k = true := by unfold lds lde; rw [e]; simp
      rw [hcd, if_pos (by decide)]
      rw [if_neg hl0] at ih
      exact ih
    · have hcd : cd G (some zk) = nI (fnd G zk) := rfl
      obtain ⟨f1, f2⟩ := hG.2.2.2.2.2.1 s k zk hs (by omega) e
      have hld := hl _ f1
      rw [fnd_lt f1] at hld
      have hokz := (nst_okS hw hx e).1
      rw [hcd, if_neg (nI_pos (by omega)), if_neg (nI_in (by omega : fnd G zk < 6001) (by omega)), zd_cl (by omega)]
      rcases hld with ⟨q1, q2⟩ | ⟨q1, q2⟩
      · have hpz := (PW_CE hw hokz).mpr q2
        have hl1 : lds y (G.2 s) k = true := by unfold lds lde; rw [e]; exact decide_eq_true hpz
        obtain ⟨hrw, hrk⟩ := rnk_nx hx (nst_nx e)
        have hdk := (hRR s hs).1 k (by omega)
        have hle := Nat.le_trans (cnt_le (y := y) (q := k) (D := (G.2 s).1)) (lng_le hw)
        have hclt := rnk_lt (nx_some.mp (nst_nx e)).1 hrw
        have hll := lng_le hw (q := k)
        have hrow := hRw.2 k _ (by omega) (nx_some.mp (nst_nx e)).1 hrw
        rw [hrk] at hrow
        rw [q1, if_neg n1_0, if_neg (zin (by omega) (by omega)), hdk, zl_20, zq_mul, zq_add, if_neg (nI_in (by omega) (by omega)), zd_cl (by omega), hrow]
        rw [if_pos hl1] at ih
        rcases eb : bstk y (G.2 s) k with _ | b'
        · rw [eb] at ih
          rw [if_pos (by show (-1 : Int32) < 0; decide)]
          exact ih
        · rw [eb] at ih
          have hb' := bstk_lt k b' eb
          obtain ⟨z', hz', _⟩ := lds_some hb'.2
          have l1 := cl_lt hw e
          have l2 := cl_lt hw hz'
          have hne : cl y (G.2 s) b' ≠ cl y (G.2 s) k := by
            intro q
            have a1 := cl_csh e
            have a2 := cl_csh hz'
            rw [q, a1] at a2
            omega
          rw [if_neg (nI_pos (by omega))]
          by_cases d : cl y (G.2 s) b' ≤ cl y (G.2 s) k
          · simp only [d, ↓reduceIte] at ih
            rw [if_neg (by rw [zd_le (by omega) (by omega)]; omega)]
            exact ih
          · simp only [d, ↓reduceIte] at ih
            rw [if_pos (by rw [zd_le (by omega) (by omega)]; omega)]
            exact ih
      · have hl0 : ¬ lds y (G.2 s) k = true := by
          unfold lds lde; rw [e]
          intro h
          exact q2 ((PW_CE hw hokz).mp (of_decide_eq_true h))
        rw [q1, if_pos n0_0]
        rw [if_neg hl0] at ih
        exact ih
theorem X10_lf15 {fu : Nat} (hfu : 20000 ≤ fu) {y : Sy} (hw : WF y) {G : Gr} (hG : GO y G) {loose minutes byKind : Int32} {leads doneOf long row' w next : Nat → Int32} {tills : Nat → Int64} (hE : RE y w loose minutes byKind) (hRw : rows_ok y long row') (hRR : RR y G doneOf tills) (hn : NX y G next) (hl : ∀ i, i < G.1 → isB (leads i) (CE y (G.2 i))) :
    ∀ (f kf i s : Nat) (first : Nat → Int32), 20 < f + i → f < kf → s < G.1 → i = lv y (G.2 s) → 0 < PW y (whole y) (G.2 s) →
    ∃ first', F_X10_layFirst_b15 fu leads doneOf long row' w next kf first (nI i) (nI s) = some (nI (i + (pth y f (G.2 s)).length), first') ∧
      (∀ j, j < (pth y f (G.2 s)).length → first' (i + j) = nI ((pth y f (G.2 s)).getD j 0)) ∧ ∀ j, j < i → first' j = first j
  | 0, kf, i, s, first, hf, hkf, hs, hi, hp => by
    have := lv_le hw (G.2 s)
    omega
  | f + 1, kf, i, s, first, hf, hkf, hs, hi, hp => by
    obtain ⟨g, rfl⟩ : ∃ g, kf = g + 1 := ⟨kf - 1, by omega⟩
    have h6 := hG.2.1
    have hx := hG.2.2.2.2.1 s hs
    rw [F_X10_layFirst_b15, X10_isWhole hfu hw hE hRw hx (hRR s hs).1 (by omega), z_b1]
    by_cases cw : whole y (G.2 s) = true
    · have h0 : pth y (f + 1) (G.2 s) = [] := by unfold pth; rw [if_pos cw]
      rw [if_pos cw, if_neg n1_0, h0]
      exact ⟨first, rfl, fun j hj => absurd hj (Nat.not_lt_zero j), fun _ _ => rfl⟩
    · obtain ⟨bb, z, hb, hb4, hz, hpz⟩ := step_ex hw hx hp cw
      have h0 : pth y (f + 1) (G.2 s) = cl y (G.2 s) bb :: pth y f z := by
        rw [pth, if_neg cw, hb]; simp only [hz]
      obtain ⟨f1, f2⟩ := hG.2.2.2.2.2.1 s bb z hs hb4 hz
      have hGz := fnd_lt f1
      have hlz := (nst_okS hw hx hz).2
      have hlz2 := lv_le hw z
      rw [if_neg cw, if_pos n0_0]
      have h31 := X10_lf31 (fu := fu) (w := w) (first := first) (i := i) hw hG hRw hRR hn hl (F_X10_layFirst_b15 fu leads doneOf long row' w next g) hs (by omega) hb hz 4 fu 0 (by omega) (by omega)
      have h31' : F_X10_layFirst_b31 (F_X10_layFirst_b15 fu leads doneOf long row' w next g) fu leads doneOf long row' w first next (nI i) (nI s) fu (-1) (-1) 0 = F_X10_layFirst_b15 fu leads doneOf long row' w next g (upd first i (nI (cl y (G.2 s) bb))) (nI (i + 1)) (nI (fnd G z)) := h31
      rw [h31']
      obtain ⟨first', e, h1, h2⟩ := X10_lf15 hfu hw hG hE hRw hRR hn hl f g (i + 1) (fnd G z) (upd first i (nI (cl y (G.2 s) bb))) (by omega) (by omega) f1 (by rw [hGz]; omega) (by rw [hGz]; exact hpz)
      rw [hGz] at e h1
      refine ⟨first', ?_, fun j hj => ?_, fun j hj => ?_⟩
      · rw [e, h0, List.length_cons, show i + 1 + (pth y f z).length = i + ((pth y f z).length + 1) by omega]
      · rw [h0] at hj ⊢
        rcases j with _ | j
        · rw [h2 _ (by omega), z_upd, if_pos (by omega)]; rfl
        · have := h1 j (by simpa using hj)
          rw [show i + (j + 1) = i + 1 + j by omega, this]
          rfl
      · rw [h2 j (by omega), z_upd, if_neg (by omega)]
theorem X10_layFirst {fu : Nat} (hfu : 20000 ≤ fu) {K : Ca} {kd : Nat → Nat} {nt late k : Nat} (hw : WF (Yk K kd nt late k)) (hf : full (Yk K kd nt late k) = false) {loose minutes byKind n : Int32} {leads slot doneOf long row' w next heard first : Nat → Int32} {tills : Nat → Int64}
    (hE : RE (Yk K kd nt late k) w loose minutes byKind) (h : FG (Yk K kd nt late k) n long row' slot doneOf tills next heard leads) :
    ∃ r first', F_X10_layFirst fu leads doneOf long row' w first next = some (r, first') ∧ (match fst K kd nt late k with | none => r = -1 | some p => r = nI p.length ∧ p.length ≤ 20 ∧ ∀ j, j < p.length → first' j = nI (p.getD j 0)) := by
  have hG := GO_gr hw hf
  obtain ⟨h1, h2, h3, h4, _, h5⟩ := h
  have hb := h5 0 hG.1
  rw [hG.2.2.2.1] at hb
  have hPC := PW_CE hw (okS_ini hw)
  unfold F_X10_layFirst
  rw [show (Int32.toNatClampNeg 0) = 0 from rfl]
  by_cases g : PW (Yk K kd nt late k) (whole (Yk K kd nt late k)) (ini (Yk K kd nt late k)) = 0
  · have hfs : fst K kd nt late k = none := by unfold fst; rw [if_pos g]
    rcases hb with ⟨q1, q2⟩ | ⟨q1, q2⟩
    · have := hPC.mpr q2; omega
    · rw [q1, if_pos n0_0, hfs]
      exact ⟨_, _, rfl, rfl⟩
  · have hfs : fst K kd nt late k = some (pth (Yk K kd nt late k) 21 (ini (Yk K kd nt late k))) := by unfold fst; rw [if_neg g]
    rcases hb with ⟨q1, q2⟩ | ⟨q1, q2⟩
    · obtain ⟨first', e, h6, _⟩ := X10_lf15 hfu hw hG hE h2 h3 h4 h5 21 fu 0 0 first (by omega) (by omega) hG.1 (by rw [hG.2.2.2.1, lv_ini]) (by rw [hG.2.2.2.1]; omega)
      rw [hG.2.2.2.1] at e h6
      have hlen := pth_len hw 21 (ini (Yk K kd nt late k)) (okS_ini hw)
      rw [q1, if_neg n1_0, zl_0, e, Nat.zero_add, hfs]
      exact ⟨_, _, rfl, rfl, by omega, fun j hj => by have := h6 j hj; rwa [Nat.zero_add] at this⟩
    · exact absurd (hPC.mp (by omega)) q2
