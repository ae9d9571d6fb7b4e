/-! could: what a call could answer, were its answer not told -/
def colb (K : Ca) (c0 c : Nat) : Bool := enb K c && decide (c ≠ c0)
def Yc (K : Ca) (kd : Nat → Nat) (nt late k c0 : Nat) : Sy := sysK K kd nt (alb K) (enb K) (colb K c0) (enb K) (gapk k late)
def oa (y : Sy) (c0 : Nat) (x : St) : Option Nat := if lds y x (ycsh y c0) = true ∧ cl y x (ycsh y c0) = c0 then some (say y x c0) else none
def cset (y : Sy) (c0 : Nat) (g : Nat → St) : Nat → Nat → Bool
  | 0 => fun _ => false
  | s + 1 => fun v => cset y c0 g s v || (oa y c0 (g s) == some v)
theorem cset_none {y : Sy} {c0 : Nat} {g : Nat → St} {s : Nat} (h : oa y c0 (g s) = none) : cset y c0 g (s + 1) = cset y c0 g s := by
  funext v
  show (cset y c0 g s v || (oa y c0 (g s) == some v)) = _
  rw [h]
  simp
theorem cset_some {y : Sy} {c0 : Nat} {g : Nat → St} {s a : Nat} (h : oa y c0 (g s) = some a) : cset y c0 g (s + 1) = fun k => if k = a then true else cset y c0 g s k := by
  funext v
  show (cset y c0 g s v || (oa y c0 (g s) == some v)) = _
  rw [h]
  by_cases c : v = a
  · subst c
    rw [if_pos rfl]; simp
  · rw [if_neg c]
    have : ¬ a = v := fun h => c h.symm
    simp [this]
theorem cset_old {y : Sy} {c0 : Nat} {g : Nat → St} {s a : Nat} (h : oa y c0 (g s) = some a) (h2 : cset y c0 g s a = true) : cset y c0 g (s + 1) = cset y c0 g s := by
  rw [cset_some h]
  funext v
  by_cases c : v = a
  · subst c; rw [if_pos rfl, h2]
  · rw [if_neg c]
theorem oa_lt {y : Sy} (hw : WF y) {x : St} (hx : okS y x) {c0 a : Nat} (hc : c0 < ym y) (h : oa y c0 x = some a) : a ≤ 99 := by
  unfold oa at h
  split at h
  · injection h with h
    subst h
    obtain ⟨w1, w2, w3, w4⟩ := hw.2.2.2.1 c0 hc
    have := hw.2.1
    exact sy_lt (hw.2.2.1 _ (by omega)) (hx.2.2 _ (by omega))
  · cases h
theorem X6_answerAt {y : Sy} (hw : WF y) {G : Gr} (hG : GO y G) {done tills kinds f1 f2 f3 : Nat → Int32} (hC : CR y G done tills) (hkd : ∀ t, t < 3 → kinds t = nI (ykd y t)) {c0 : Nat} (hc : c0 < ym y) (hf1 : f1 c0 = nI (ytil y c0)) (hf2 : f2 c0 = nI (yact y c0)) (hf3 : f3 c0 = nI (ywhl y c0)) {s : Nat} (hs : s < G.1) :
    F_X6_answerAt (nI G.1) f1 kinds tills f2 f3 (nI s) (nI c0) = some (nI (say y (G.2 s) c0)) := by
  have h6 := hG.2.1
  have hx := hG.2.2.2.2.1 s hs
  obtain ⟨w1, w2, w3, w4⟩ := hw.2.2.2.1 c0 hc
  have hnt := hw.2.1
  have hm := hw.1
  have ht : ytil y c0 < 3 := by omega
  have ha : yact y c0 < 3 := by
    have := w3
    unfold okA at this
    omega
  unfold F_X6_answerAt
  rw [X0_tillOf (by omega), z_b1, X6_has h6 (by omega), z_b1, if_pos hs, if_neg n1_0, hf1, if_neg (nI_pos (by omega)), if_pos (by rw [zl_3, zd_lt (by omega) (by omega)]; exact ht), X5_kindOf hkd ht, z_b1, zl_3, zq_mul, zq_add, if_neg (nI_in (by omega) (by omega)), X0_actOf (by omega), z_b1, X0_wholeOf (by omega), z_b1, zd_cl (by omega), (hC s hs).2 _ ht, hf2, hf3, X8_says (hw.2.2.1 _ ht) (hx.2.2 _ ht) ha w4, z_b1]
  rfl
theorem X1_aow2 {y : Sy} (hw : WF y) {G : Gr} (hG : GO y G) {own ahd done tills leads kinds f1 f2 f3 : Nat → Int32} {ways : Nat → Int64} (hR : ROW y own ahd) (hC : CR y G done tills) (hn : NC y G leads) (hv : ∀ i, i < G.1 → ways i = lN (PW y (whole y) (G.2 i)))
    (hkd : ∀ t, t < 3 → kinds t = nI (ykd y t)) {c0 : Nat} (hc : c0 < ym y) (hf1 : f1 c0 = nI (ytil y c0)) (hf2 : f2 c0 = nI (yact y c0)) (hf3 : f3 c0 = nI (ywhl y c0)) {s : Nat} (hs : s < G.1) :
    ∀ (j kf k : Nat), j < kf → k + j = 4 → F_X1_answerOnTheWay_b2 (nI G.1) done own ahd leads ways f1 kinds tills f2 f3 (nI s) (nI c0) kf (nI k) = some (if k ≤ ycsh y c0 then cn (oa y c0 (G.2 s)) else -1)
  | 0, kf, k, hj, hk => by
    obtain ⟨g, rfl⟩ : ∃ g, kf = g + 1 := ⟨kf - 1, by omega⟩
    have : k = 4 := by omega
    subst this
    have := (hw.2.2.2.1 c0 hc).1
    rw [F_X1_answerOnTheWay_b2, if_pos (by decide), if_neg (by omega)]
  | j + 1, kf, k, hj, hk => by
    obtain ⟨g, rfl⟩ : ∃ g, kf = g + 1 := ⟨kf - 1, by omega⟩
    have h6 := hG.2.1
    have hm := hw.1
    have ih := X1_aow2 hw hG hR hC hn hv hkd hc hf1 hf2 hf3 hs j g (k + 1) (by omega) (by omega)
    have i1 : nI k + (1 : Int32) = nI (k + 1) := by rw [zl_1, zq_add]
    have hle := X6_leadsToEnd hG hv hs (by omega : k < 4)
    rw [F_X1_answerOnTheWay_b2, if_neg (by rw [zl_4, zd_le (by omega) (by omega)]; omega), X6_callAt hw hR h6 hs (by omega) (hC s hs).1, z_b1]
    unfold F_X1_answerOnTheWay_b49
    rw [i1]
    have hl : lde y (whole y) (G.2 s) k = lds y (G.2 s) k := rfl
    rw [hl] at hle
    by_cases e : nx y k (G.2 s).1 = some c0
    · have hq := (nx_some.mp e).2.2.1
      have hcl : cl y (G.2 s) k = c0 := by unfold cl; rw [e]; rfl
      have hcn : cn (some c0) = nI c0 := rfl
      rw [e, hcn, if_pos rfl, X6_leadAt h6 hs (by omega), z_b1, hn s k hs (by omega), hle, z_b1]
      by_cases d : lds y (G.2 s) k = true
      · have ho : oa y c0 (G.2 s) = some (say y (G.2 s) c0) := by unfold oa; rw [hq, if_pos ⟨d, hcl⟩]
        rw [if_pos d, if_neg n1_0, X6_answerAt hw hG hC hkd hc hf1 hf2 hf3 hs, z_b1, if_pos (by omega), ho]
        rfl
      · have ho : oa y c0 (G.2 s) = none := by unfold oa; rw [hq, if_neg (fun h => d h.1)]
        rw [if_neg d, if_pos n0_0, ih, if_neg (by omega), ho]
        split <;> rfl
    · have hne : ¬ cn (nx y k (G.2 s).1) = nI c0 := by
        intro h
        apply e
        rcases e2 : nx y k (G.2 s).1 with _ | c
        · rw [e2] at h
          exact absurd h.symm (nI_ne (by omega) (k := 1) (by omega) (by omega))
        · rw [e2] at h
          have := (nx_some.mp e2).1
          have h' : nI c = nI c0 := h
          rw [zd_eq (by omega) (by omega)] at h'
          rw [h']
      rw [if_neg hne, ih]
      by_cases d : k = ycsh y c0
      · have ho : oa y c0 (G.2 s) = none := by
          unfold oa
          rw [← d, if_neg]
          rintro ⟨h1, h2⟩
          obtain ⟨z, hz, _⟩ := lds_some h1
          have := nst_nx hz
          rw [h2] at this
          exact e this
        rw [ho, if_neg (by omega), if_pos (by omega)]
        rfl
      · have : (k + 1 ≤ ycsh y c0) = (k ≤ ycsh y c0) := by apply propext; omega
        simp only [this]
theorem X1_answerOnTheWay {fu : Nat} (hfu : 20000 ≤ fu) {y : Sy} (hw : WF y) {G : Gr} (hG : GO y G) {own ahd done tills leads kinds f1 f2 f3 : Nat → Int32} {ways : Nat → Int64} (hR : ROW y own ahd) (hC : CR y G done tills) (hn : NC y G leads) (hv : ∀ i, i < G.1 → ways i = lN (PW y (whole y) (G.2 i)))
    (hkd : ∀ t, t < 3 → kinds t = nI (ykd y t)) {c0 : Nat} (hc : c0 < ym y) (hf1 : f1 c0 = nI (ytil y c0)) (hf2 : f2 c0 = nI (yact y c0)) (hf3 : f3 c0 = nI (ywhl y c0)) {s : Nat} (hs : s < G.1) :
    F_X1_answerOnTheWay fu (nI G.1) done own ahd leads ways f1 kinds tills f2 f3 (nI s) (nI c0) = some (cn (oa y c0 (G.2 s))) := by
  have e := X1_aow2 hw hG hR hC hn hv hkd hc hf1 hf2 hf3 hs 4 fu 0 (by omega) (by omega)
  rw [if_pos (Nat.zero_le _)] at e
  exact e
theorem X1_fc87 {fu : Nat} (hfu : 20000 ≤ fu) {y : Sy} (hw : WF y) {G : Gr} (hG : GO y G) {own ahd done tills leads kinds f1 f2 f3 tab : Nat → Int32} {ways : Nat → Int64} {r1 r2 r3 r4 b : Int32} (hR : ROW y own ahd) (hC : CR y G done tills) (hn : NC y G leads) (hv : ∀ i, i < G.1 → ways i = lN (PW y (whole y) (G.2 i)))
    (hkd : ∀ t, t < 3 → kinds t = nI (ykd y t)) {c0 : Nat} (hc : c0 < ym y) (hf1 : f1 c0 = nI (ytil y c0)) (hf2 : f2 c0 = nI (yact y c0)) (hf3 : f3 c0 = nI (ywhl y c0)) :
    ∀ (j kf s : Nat) (could : Nat → Int32), j < kf → s + j = G.1 → (∀ v, v < 100 → could v = nI (if cset y c0 G.2 s v = true then 1 else 0)) →
    ∃ could', F_X1_findCould_b87 fu r1 r2 r3 r4 own ahd b (nI G.1) tab done tills kinds f1 f2 f3 leads ways (nI c0) kf could (nI (fb_ct (cset y c0 G.2 s) 100)) (nI s) = some (nI (fb_ct (cset y c0 G.2 G.1) 100), r1, r2, r3, r4, own, ahd, b, nI G.1, tab, done, tills, leads, ways, could') ∧
      ∀ v, v < 100 → could' v = nI (if cset y c0 G.2 G.1 v = true then 1 else 0)
  | 0, kf, s, could, hj, hk, hcd => by
    obtain ⟨g, rfl⟩ : ∃ g, kf = g + 1 := ⟨kf - 1, by omega⟩
    have h6 := hG.2.1
    have : s = G.1 := by omega
    subst this
    rw [F_X1_findCould_b87, if_pos (by rw [zd_le (by omega) (by omega)]; omega)]
    exact ⟨could, rfl, hcd⟩
  | j + 1, kf, s, could, hj, hk, hcd => by
    obtain ⟨g, rfl⟩ : ∃ g, kf = g + 1 := ⟨kf - 1, by omega⟩
    have h6 := hG.2.1
    have hs : s < G.1 := by omega
    have i1 : nI s + (1 : Int32) = nI (s + 1) := by rw [zl_1, zq_add]
    have ih := fun could h => X1_fc87 hfu hw hG (tab := tab) (r1 := r1) (r2 := r2) (r3 := r3) (r4 := r4) (b := b) hR hC hn hv hkd hc hf1 hf2 hf3 j g (s + 1) could (by omega) (by omega) h
    rw [F_X1_findCould_b87, if_neg (by rw [zd_le (by omega) (by omega)]; omega), X1_answerOnTheWay hfu hw hG hR hC hn hv hkd hc hf1 hf2 hf3 hs, z_b1]
    unfold F_X1_findCould_b144
    rw [i1]
    rcases e : oa y c0 (G.2 s) with _ | a
    · rw [cset_none e] at ih
      rw [if_pos (show cn none < 0 by decide)]
      exact ih could hcd
    · have ha := oa_lt hw (hG.2.2.2.2.1 s hs) hc e
      have hcn : cn (some a) = nI a := rfl
      rw [hcn, if_neg (nI_pos (by omega)), if_neg (by rw [zl_100, zd_le (by omega) (by omega)]; omega), if_neg (nI_in (by omega) (by omega)), zd_cl (by omega), hcd a (by omega)]
      by_cases d : cset y c0 G.2 s a = true
      · rw [cset_old e d] at ih
        rw [if_pos d, if_neg n1_0]
        exact ih could hcd
      · rw [if_neg d, if_pos n0_0, if_neg (zin (by omega) (by omega))]
        have hct := fb_ct_upd (cset y c0 G.2 s) true (n := 100) (by omega : a < 100)
        have hle := fb_ct_le (cset y c0 G.2 s) 100
        rw [if_neg d, if_pos rfl, ← cset_some e, Nat.add_zero] at hct
        rw [hct] at ih
        rw [zl_1, zq_add]
        refine ih _ (fun v hv => ?_)
        rw [cset_some e, z_upd]
        by_cases q : v = a
        · rw [if_pos q]; simp only [q, ↓reduceIte]
        · rw [if_neg q, hcd v hv]; simp only [q, ↓reduceIte]
theorem CS_Yc {K : Ca} {kd : Nat → Nat} {nt late : Nat} {n l : Int32} {f0 f1 f2 f3 f4 f5 f6 kinds : Nat → Int32} (h : CS K kd nt late n f0 f1 f2 f3 f4 f5 f6 kinds l) (k c0 : Nat) : WF (Yc K kd nt late k c0) := CS_WF h (Int.natCast_nonneg _) (okI_k K)
theorem msk_col {K : Ca} (hm : cm K ≤ 20) {c0 : Nat} (hc : c0 < 20) : nI (msk (enb K) (cm K)) &&& (((1 : Int32) <<< (nI c0 &&& 31)) ^^^ (-1 : Int32)) = nI (msk (colb K c0) (cm K)) := by
  obtain ⟨L, e1, e2, e3⟩ := zs_andn (O := msk (enb K) (cm K)) (D := 2 ^ c0) (msk_lt20 _ hm)
  rw [zl_1, show (31 : Int32) = nI 31 from rfl, zs_one (by omega)]
  rw [show (-nI 1 : Int32) = -1 from rfl, e1]
  congr 1
  apply msk_eq
  intro c
  rw [e3, msk_bit, Nat.testBit_two_pow]
  unfold colb
  by_cases q : c = c0
  · subst q; simp
  · have : ¬ c0 = c := fun h => q h.symm
    simp [q, this]
theorem X1_findCould {fu : Nat} (hfu : 20000 ≤ fu) {K : Ca} {kd : Nat → Nat} {nt late : Nat} {n l : Int32} {f0 f1 f2 f3 f4 f5 f6 kinds : Nat → Int32} (h : CS K kd nt late n f0 f1 f2 f3 f4 f5 f6 kinds l) {k c0 : Nat} (hk : k ≤ 2) (hc : c0 < cm K)
    {b : Nat} {own ahd tab done tills leads could : Nat → Int32} {ways : Nat → Int64} (hT : TB b tab) :
    ∃ r r1' r2' r3' r4' own' ahd' b' cnt' tab' done' tills' leads' ways' could', F_X1_findCould fu n f5 l own f0 f4 ahd (nI b) tab done tills kinds f1 f2 f3 f6 leads ways could (nI k) (nI c0) =
      some (r, r1', r2', r3', r4', own', ahd', nI b', cnt', tab', done', tills', leads', ways', could') ∧ TB b' tab' ∧ (full (Yc K kd nt late k c0) = true → r = -10) ∧
      (full (Yc K kd nt late k c0) = false → r = nI (fb_ct (cset (Yc K kd nt late k c0) c0 (gr (Yc K kd nt late k c0)).2 (gr (Yc K kd nt late k c0)).1) 100) ∧
        ∀ v, v < 100 → could' v = nI (if cset (Yc K kd nt late k c0) c0 (gr (Yc K kd nt late k c0)).2 (gr (Yc K kd nt late k c0)).1 v = true then 1 else 0)) := by
  have hm := h.2.1.1
  obtain ⟨g1, g2, g3⟩ := gap_k (kind := k) (by omega) h.2.2.2.2.2.2
  obtain ⟨own', ahd', b', cnt, tab', done', tills', leads', e1, e2, hR, h1, h2⟩ := JX (mst := enb K) (str := colb K c0) (gap := nI (gapk k late)) (own := own) (ahd := ahd) (done := done) (tills := tills) (leads := leads) hfu h g3 (okI_k K) hT
  rw [g2] at e2 hR h2
  have hY : sysK K kd nt (alb K) (enb K) (colb K c0) (enb K) (gapk k late : Nat) = Yc K kd nt late k c0 := rfl
  rw [hY] at e2 hR h2
  rw [← h.2.2.2.2.2.1] at g1
  have hw := CS_Yc h k c0
  unfold F_X1_findCould
  rw [takeAll hfu h, z_b4, g1, z_b1, e1, z_b2, msk_col hm (by omega), e2, z_b7]
  by_cases c : full (Yc K kd nt late k c0) = true
  · rw [if_pos c, if_pos n0_0]
    exact ⟨_, _, _, _, _, _, _, _, _, _, _, _, _, _, _, rfl, h1, fun _ => rfl, fun h => by rw [c] at h; cases h⟩
  · have c' : full (Yc K kd nt late k c0) = false := by simpa using c
    obtain ⟨h3, h4, h5⟩ := h2 c'
    have hG := GO_gr hw c'
    have he := JX_end hm (fun a ha => ((okI_k K).2 a ha).1) h4
    obtain ⟨ways', e3, hv⟩ := X6_countWays (ways := ways) (e := whole (Yc K kd nt late k c0)) hfu hw hG h5 he
    obtain ⟨_, q1, q2, q3, _, _, _⟩ := h.1.2 c0 hc
    obtain ⟨could', e4, h6⟩ := X1_fc87 (tab := tab') (r1 := nI (msk (alb K) (cm K))) (r2 := nI (msk (enb K) (cm K))) (r3 := nI (msk (colb K c0) (cm K))) (r4 := nI (msk (enb K) (cm K))) (b := nI b') hfu hw hG hR h4 h5 hv h.2.2.2.2.1 hc q1 q2 q3 (gr (Yc K kd nt late k c0)).1 fu 0 (fun k => if k < 100 then 0 else could k) (by have := hG.2.1; omega) (by omega) (fun v hv => by show (if v < 100 then (0 : Int32) else could v) = nI 0; rw [if_pos hv]; rfl)
    have hz : fb_ct (cset (Yc K kd nt late k c0) c0 (gr (Yc K kd nt late k c0)).2 0) 100 = 0 := fb_ct_zero.mpr (fun _ _ => rfl)
    rw [hz] at e4
    have e4' : F_X1_findCould_b87 fu (nI (msk (alb K) (cm K))) (nI (msk (enb K) (cm K))) (nI (msk (colb K c0) (cm K))) (nI (msk (enb K) (cm K))) own' ahd' (nI b') (nI (gr (Yc K kd nt late k c0)).1) tab' done' tills' kinds f1 f2 f3 leads' ways' (nI c0) fu (fun k => if k < 100 then 0 else could k) 0 0 = _ := e4
    rw [if_neg c, if_neg n1_0, h3, e3, z_b2, J7_fill (by omega) (by omega), z_b1, e4']
    exact ⟨_, _, _, _, _, _, _, _, _, _, _, _, _, _, _, rfl, h1, fun h => absurd h c, fun _ => ⟨rfl, h6⟩⟩
def glast (p : Nat → Bool) : Nat → Nat
  | 0 => 0
  | n + 1 => if p n = true then n else glast p n
theorem glast_yes {p : Nat → Bool} : ∀ {n : Nat}, 0 < fb_ct p n → glast p n < n ∧ p (glast p n) = true ∧ ∀ u, glast p n < u → u < n → p u = false
  | 0, h => absurd h (Nat.lt_irrefl 0)
  | n + 1, h => by
    unfold glast
    by_cases c : p n = true
    · rw [if_pos c]
      exact ⟨by omega, c, fun u h1 h2 => by omega⟩
    · rw [if_neg c]
      rw [fb_ct_succ, if_neg c, Nat.add_zero] at h
      obtain ⟨h1, h2, h3⟩ := glast_yes h
      refine ⟨by omega, h2, fun u g1 g2 => ?_⟩
      by_cases d : u = n
      · subst d; simpa using c
      · exact h3 u g1 (by omega)
theorem fa_first_ct {p : Nat → Bool} {n : Nat} (h : 0 < fb_ct p n) : fa_first p n < n := by
  obtain ⟨k, hk, hp⟩ := fb_ct_pos.mp h
  rcases Nat.lt_or_ge k (fa_first p n) with g | g
  · have := fa_first_no p n k g
    rw [hp] at this; cases this
  · omega
theorem X1_leastCould {fu : Nat} (hfu : 20000 ≤ fu) {p : Nat → Bool} {could : Nat → Int32} (hp : ∀ v, v < 100 → could v = nI (if p v = true then 1 else 0)) (h : 0 < fb_ct p 100) : F_X1_leastCould fu could = some (nI (fa_first p 100)) := by
  have hlt := fa_first_ct h
  have hy := fa_first_yes p 100 hlt
  have key : ∀ (j kf v : Nat), j < kf → v + j = fa_first p 100 → F_X1_leastCould_b2 could kf (nI v) = some (nI (fa_first p 100)) := by
    intro j
    induction j with
    | zero =>
      intro kf v hj hv
      obtain ⟨g, rfl⟩ : ∃ g, kf = g + 1 := ⟨kf - 1, by omega⟩
      rw [F_X1_leastCould_b2, if_neg (by rw [zl_100, zd_le (by omega) (by omega)]; omega), if_neg (nI_in (by omega) (by omega)), zd_cl (by omega), hp v (by omega), show v = fa_first p 100 by omega, if_pos hy, if_pos (show (nI 1 : Int32) = 1 from rfl)]
    | succ j ih =>
      intro kf v hj hv
      obtain ⟨g, rfl⟩ : ∃ g, kf = g + 1 := ⟨kf - 1, by omega⟩
      have hn := fa_first_no p 100 v (by omega)
      rw [F_X1_leastCould_b2, if_neg (by rw [zl_100, zd_le (by omega) (by omega)]; omega), if_neg (nI_in (by omega) (by omega)), zd_cl (by omega), hp v (by omega), hn, if_neg (by decide), zl_1, zq_add]
      exact ih g (v + 1) (by omega) (by omega)
  exact key (fa_first p 100) fu 0 (by omega) (by omega)
theorem X1_greatestCould {fu : Nat} (hfu : 20000 ≤ fu) {p : Nat → Bool} {could : Nat → Int32} (hp : ∀ v, v < 100 → could v = nI (if p v = true then 1 else 0)) (h : 0 < fb_ct p 100) : F_X1_greatestCould fu could = some (nI (glast p 100)) := by
  obtain ⟨hlt, hy, hn⟩ := glast_yes h
  have key : ∀ (j kf : Nat), j < kf → glast p 100 + j < 100 → F_X1_greatestCould_b8 could kf (nI (glast p 100 + j)) = some (nI (glast p 100)) := by
    intro j
    induction j with
    | zero =>
      intro kf hj hv
      obtain ⟨g, rfl⟩ : ∃ g, kf = g + 1 := ⟨kf - 1, by omega⟩
      rw [F_X1_greatestCould_b8, Nat.add_zero, if_neg (nI_pos (by omega)), if_neg (nI_in (by omega) (by omega)), zd_cl (by omega), hp _ hlt, if_pos hy, if_pos (show (nI 1 : Int32) = 1 from rfl)]
    | succ j ih =>
      intro kf hj hv
      obtain ⟨g, rfl⟩ : ∃ g, kf = g + 1 := ⟨kf - 1, by omega⟩
      have i1 : nI (glast p 100 + (j + 1)) + (-1 : Int32) = nI (glast p 100 + j) := by
        have : nI (glast p 100 + (j + 1)) + (-1 : Int32) = nI (glast p 100 + (j + 1)) - nI 1 := by rw [Int32.sub_eq_add_neg]; rfl
        rw [this, zq_sub (by omega)]
        congr 1
      rw [F_X1_greatestCould_b8, if_neg (nI_pos (by omega)), if_neg (nI_in (by omega) (by omega)), zd_cl (by omega), hp _ (by omega), hn _ (by omega) (by omega), if_neg (by decide), i1]
      exact ih g (by omega) (by omega)
  have := key (99 - glast p 100) fu (by omega) (by omega)
  rw [show glast p 100 + (99 - glast p 100) = 99 by omega] at this
  exact this
def cdp (K : Ca) (kd : Nat → Nat) (nt late k c0 : Nat) : Nat → Bool := cset (Yc K kd nt late k c0) c0 (gr (Yc K kd nt late k c0)).2 (gr (Yc K kd nt late k c0)).1
def rs_could (K : Ca) (kd : Nat → Nat) (nt late : Nat) (told : Bool) (v w : Int32) : Int32 × Int32 := match kin told v 2 with
  | none => (-1, nI 1)
  | some k => match tin (cm K) w with
    | none => (-1, nI 1)
    | some c0 => if full (Yc K kd nt late k c0) = true then (-1, nI 3) else (nI (fb_ct (cdp K kd nt late k c0) 100), nI 0)
def rs_couldTell (K : Ca) (kd : Nat → Nat) (nt late : Nat) (told : Bool) (v w u : Int32) : Int32 × Int32 := match kin told v 2 with
  | none => (-1, nI 1)
  | some k => match tin (cm K) w with
    | none => (-1, nI 1)
    | some c0 => if full (Yc K kd nt late k c0) = true then (-1, nI 3) else if fb_ct (cdp K kd nt late k c0) 100 = 0 then (-1, nI 6) else (if u = 0 then nI (fa_first (cdp K kd nt late k c0) 100) else nI (glast (cdp K kd nt late k c0) 100), nI 0)
theorem X9_could {fu : Nat} (hfu : 20000 ≤ fu) {K : Ca} {kd : Nat → Nat} {nt late : Nat} {n l : Int32} {f0 f1 f2 f3 f4 f5 f6 kinds : Nat → Int32} (h : CS K kd nt late n f0 f1 f2 f3 f4 f5 f6 kinds l) (told : Bool) (a1 sc : Nat) (v w : Int32)
    {b : Nat} {r1 r2 r3 r4 cnt : Int32} {own ahd tab done tills leads could : Nat → Int32} {ways : Nat → Int64} (hT : TB b tab) :
    ∃ r1' r2' r3' r4' own' ahd' sc' b' cnt' tab' done' tills' leads' ways' could', F_X9_could fu a1 sc (nI (if told = true then 1 else 0)) l n f5 r1 r2 r3 r4 own f0 f4 ahd (nI b) cnt tab done tills kinds f1 f2 f3 f6 leads ways could v w =
      some ((rs_could K kd nt late told v w).1, (rs_could K kd nt late told v w).2, r1', r2', r3', r4', own', ahd', sc', nI b', cnt', tab', done', tills', leads', ways', could') ∧ TB b' tab' := by
  have hm := h.2.1.1
  unfold F_X9_could
  rw [zl_2, X9_hasKind, z_b1]
  rcases e : kin told v 2 with _ | k
  · have hrs : rs_could K kd nt late told v w = (-1, nI 1) := by unfold rs_could; rw [e]
    rw [ifn, if_pos n0_0, hrs]
    exact ⟨r1, r2, r3, r4, own, ahd, sc, b, cnt, tab, done, tills, leads, ways, could, rfl, hT⟩
  · obtain ⟨_, rfl, hk⟩ := kin_some (by omega) e
    rw [ifs, if_neg n1_0, h.1.1, X0_has hm, z_b1]
    rcases e2 : tin (cm K) w with _ | c0
    · have hrs : rs_could K kd nt late told (nI k) w = (-1, nI 1) := by unfold rs_could; rw [e]; simp only [e2]
      rw [ifn, if_pos n0_0, hrs]
      exact ⟨r1, r2, r3, r4, own, ahd, sc, b, cnt, tab, done, tills, leads, ways, could, rfl, hT⟩
    · obtain ⟨rfl, hc⟩ := tin_some (by omega) e2
      obtain ⟨r, r1', r2', r3', r4', own', ahd', b', cnt', tab', done', tills', leads', ways', could', e3, hT', g1, g2⟩ := X1_findCould (own := own) (ahd := ahd) (done := done) (tills := tills) (leads := leads) (ways := ways) (could := could) hfu h hk hc hT
      rw [h.1.1] at e3
      rw [ifs, if_neg n1_0, e3, z_b15]
      by_cases c : full (Yc K kd nt late k c0) = true
      · have hrs : rs_could K kd nt late told (nI k) (nI c0) = (-1, nI 3) := by unfold rs_could; rw [e]; simp only [e2, c, ↓reduceIte]
        rw [g1 c, X9_answered10, hrs]
        exact ⟨_, _, _, _, _, _, _, _, _, _, _, _, _, _, _, rfl, hT'⟩
      · have c' : full (Yc K kd nt late k c0) = false := by simpa using c
        have hrs : rs_could K kd nt late told (nI k) (nI c0) = (nI (fb_ct (cdp K kd nt late k c0) 100), nI 0) := by unfold rs_could; rw [e]; simp only [e2, c', Bool.false_eq_true, ↓reduceIte]
        have hle := fb_ct_le (cdp K kd nt late k c0) 100
        have g3 : r = nI (fb_ct (cdp K kd nt late k c0) 100) := (g2 c').1
        rw [g3, X9_answeredN (by omega), hrs]
        exact ⟨_, _, _, _, _, _, _, _, _, _, _, _, _, _, _, rfl, hT'⟩
theorem X9_couldTell {fu : Nat} (hfu : 20000 ≤ fu) {K : Ca} {kd : Nat → Nat} {nt late : Nat} {n l : Int32} {f0 f1 f2 f3 f4 f5 f6 kinds : Nat → Int32} (h : CS K kd nt late n f0 f1 f2 f3 f4 f5 f6 kinds l) (told : Bool) (a1 sc : Nat) (v w u : Int32)
    {b : Nat} {r1 r2 r3 r4 cnt : Int32} {own ahd tab done tills leads could : Nat → Int32} {ways : Nat → Int64} (hT : TB b tab) :
    ∃ r1' r2' r3' r4' own' ahd' sc' b' cnt' tab' done' tills' leads' ways' could', F_X9_couldTell fu a1 sc (nI (if told = true then 1 else 0)) l n f5 r1 r2 r3 r4 own f0 f4 ahd (nI b) cnt tab done tills kinds f1 f2 f3 f6 leads ways could v w u =
      some ((rs_couldTell K kd nt late told v w u).1, (rs_couldTell K kd nt late told v w u).2, r1', r2', r3', r4', own', ahd', sc', nI b', cnt', tab', done', tills', leads', ways', could') ∧ TB b' tab' := by
  have hm := h.2.1.1
  unfold F_X9_couldTell
  rw [zl_2, X9_hasKind, z_b1]
  rcases e : kin told v 2 with _ | k
  · have hrs : rs_couldTell K kd nt late told v w u = (-1, nI 1) := by unfold rs_couldTell; rw [e]
    rw [ifn, if_pos n0_0, hrs]
    exact ⟨r1, r2, r3, r4, own, ahd, sc, b, cnt, tab, done, tills, leads, ways, could, rfl, hT⟩
  · obtain ⟨_, rfl, hk⟩ := kin_some (by omega) e
    rw [ifs, if_neg n1_0, h.1.1, X0_has hm, z_b1]
    rcases e2 : tin (cm K) w with _ | c0
    · have hrs : rs_couldTell K kd nt late told (nI k) w u = (-1, nI 1) := by unfold rs_couldTell; rw [e]; simp only [e2]
      rw [ifn, if_pos n0_0, hrs]
      exact ⟨r1, r2, r3, r4, own, ahd, sc, b, cnt, tab, done, tills, leads, ways, could, rfl, hT⟩
    · obtain ⟨rfl, hc⟩ := tin_some (by omega) e2
      obtain ⟨r, r1', r2', r3', r4', own', ahd', b', cnt', tab', done', tills', leads', ways', could', e3, hT', g1, g2⟩ := X1_findCould (own := own) (ahd := ahd) (done := done) (tills := tills) (leads := leads) (ways := ways) (could := could) hfu h hk hc hT
      rw [h.1.1] at e3
      rw [ifs, if_neg n1_0, e3, z_b15]
      by_cases c : full (Yc K kd nt late k c0) = true
      · have hrs : rs_couldTell K kd nt late told (nI k) (nI c0) u = (-1, nI 3) := by unfold rs_couldTell; rw [e]; simp only [e2, c, ↓reduceIte]
        rw [g1 c, if_neg (by decide), if_neg (by decide), hrs]
        exact ⟨_, _, _, _, _, _, _, _, _, _, _, _, _, _, _, rfl, hT'⟩
      · have c' : full (Yc K kd nt late k c0) = false := by simpa using c
        have hle := fb_ct_le (cdp K kd nt late k c0) 100
        have g3 : r = nI (fb_ct (cdp K kd nt late k c0) 100) := (g2 c').1
        have g4 : ∀ v, v < 100 → could' v = nI (if cdp K kd nt late k c0 v = true then 1 else 0) := (g2 c').2
        by_cases d : fb_ct (cdp K kd nt late k c0) 100 = 0
        · have hrs : rs_couldTell K kd nt late told (nI k) (nI c0) u = (-1, nI 6) := by unfold rs_couldTell; rw [e]; simp only [e2, c', d, Bool.false_eq_true, ↓reduceIte]
          rw [g3, d, if_neg (by decide), if_pos (by decide), hrs]
          exact ⟨_, _, _, _, _, _, _, _, _, _, _, _, _, _, _, rfl, hT'⟩
        · have hrs : rs_couldTell K kd nt late told (nI k) (nI c0) u = (if u = 0 then nI (fa_first (cdp K kd nt late k c0) 100) else nI (glast (cdp K kd nt late k c0) 100), nI 0) := by unfold rs_couldTell; rw [e]; simp only [e2, c', d, Bool.false_eq_true, ↓reduceIte]
          have hp : 0 < fb_ct (cdp K kd nt late k c0) 100 := by omega
          have hlt := fa_first_ct hp
          have hlt2 := (glast_yes hp).1
          rw [g3, if_pos (by rw [zl_0, zd_lt (by omega) (by omega)]; exact hp), hrs]
          unfold F_X9_couldTell_b85
          by_cases q : u = 0
          · rw [if_pos q, if_pos q, X1_leastCould hfu g4 hp, z_b1, X9_answeredN (by omega)]
            exact ⟨_, _, _, _, _, _, _, _, _, _, _, _, _, _, _, rfl, hT'⟩
          · rw [if_neg q, if_neg q, X1_greatestCould hfu g4 hp, z_b1, X9_answeredN (by omega)]
            exact ⟨_, _, _, _, _, _, _, _, _, _, _, _, _, _, _, rfl, hT'⟩
