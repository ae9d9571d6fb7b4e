/-! ENDS: how unlike the tills are behind all orders -/
def tsm (x z : St) : Bool := decide (x.2 = z.2)
theorem tsm_iff {x z : St} : tsm x z = true ↔ ∀ t, t < 3 → tl x t = tl z t := by
  unfold tsm
  rw [decide_eq_true_eq]
  constructor
  · intro h t _; unfold tl; rw [h]
  · intro h
    have h0 := h 0 (by omega)
    have h1 := h 1 (by omega)
    have h3 := h 2 (by omega)
    unfold tl at h0 h1 h3
    simp at h0 h1 h3
    exact Prod.ext h0 (Prod.ext h1 h3)
def newE (y : Sy) (G : Gr) (s : Nat) : Bool := whole y (G.2 s) && (List.range s).all (fun o => !(whole y (G.2 o) && tsm (G.2 o) (G.2 s)))
def nE (y : Sy) (G : Gr) : Nat := fb_ct (newE y G) G.1
theorem newE_iff {y : Sy} {G : Gr} {s : Nat} : newE y G s = true ↔ whole y (G.2 s) = true ∧ ∀ o, o < s → whole y (G.2 o) = true → tsm (G.2 o) (G.2 s) = false := by
  unfold newE
  rw [Bool.and_eq_true, List.all_eq_true]
  constructor
  · rintro ⟨h1, h2⟩
    refine ⟨h1, fun o ho hw => ?_⟩
    have := h2 o (List.mem_range.mpr ho)
    rw [hw] at this
    simpa using this
  · rintro ⟨h1, h2⟩
    refine ⟨h1, fun o ho => ?_⟩
    rcases hw : whole y (G.2 o)
    · rfl
    · rw [h2 o (List.mem_range.mp ho) hw]; rfl
theorem newE_rep {y : Sy} {G : Gr} {s : Nat} (h : ∃ o, o < s ∧ whole y (G.2 o) = true ∧ tsm (G.2 o) (G.2 s) = true) : ∃ i, i < s ∧ newE y G i = true ∧ tsm (G.2 i) (G.2 s) = true := by
  obtain ⟨o, h1, h2, h3⟩ := fb_first (p := fun o => whole y (G.2 o) = true ∧ tsm (G.2 o) (G.2 s) = true) (n := s) h
  refine ⟨o, h1, newE_iff.mpr ⟨h2.1, fun j hj hw => ?_⟩, h2.2⟩
  rcases e : tsm (G.2 j) (G.2 o)
  · rfl
  · exfalso
    refine h3 j hj ⟨hw, tsm_iff.mpr (fun t ht => ?_)⟩
    exact (tsm_iff.mp e t ht).trans (tsm_iff.mp h2.2 t ht)
theorem alk_t {done tills : Nat → Int32} {r s : Nat} {x z : St} (hxt : ∀ t, t < 3 → tl x t < 134217728) (hzt : ∀ t, t < 3 → tl z t < 134217728)
    (hr2 : ∀ t, t < 3 → tills (r * 3 + t) = nI (tl x t)) (hs2 : ∀ t, t < 3 → tills (s * 3 + t) = nI (tl z t)) : (alk done tills 0 r s = true) = (tsm x z = true) := by
  have e0 := hxt 0 (by omega)
  have e1 := hxt 1 (by omega)
  have e2 := hxt 2 (by omega)
  have g0 := hzt 0 (by omega)
  have g1 := hzt 1 (by omega)
  have g2 := hzt 2 (by omega)
  unfold alk
  rw [hr2 0 (by omega), hr2 1 (by omega), hr2 2 (by omega), hs2 0 (by omega), hs2 1 (by omega), hs2 2 (by omega), Int32.and_zero]
  simp only [Bool.and_eq_true, decide_eq_true_eq, true_and]
  rw [zd_eq (by omega) (by omega), zd_eq (by omega) (by omega), zd_eq (by omega) (by omega), tsm_iff]
  apply propext
  constructor
  · rintro ⟨h0, h1, h2⟩ t ht
    have c : t = 0 ∨ t = 1 ∨ t = 2 := by omega
    rcases c with rfl | rfl | rfl <;> assumption
  · intro h
    exact ⟨h 0 (by omega), h 1 (by omega), h 2 (by omega)⟩
theorem X6_ce8 {fu b : Nat} (hfu : 20000 ≤ fu) {y : Sy} {G : Gr} (hG : GO y G) {done tills : Nat → Int32} {must : Int32} (hR : CR y G done tills) (he : ∀ i, i < G.1 → (must &&& (done i ^^^ (-1 : Int32)) = 0 ↔ whole y (G.2 i) = true)) (hb1 : 1 ≤ b) (hb2 : b ≤ 2000006001) :
    ∀ (j kf s : Nat) (tab : Nat → Int32) (tb : Nat → Nat), j < kf → s + j = G.1 → (∀ p, p < 16384 → tab p = nI (tb p) ∧ tb p < b + 6001) → TI (Tc tb b) (HC done tills 0) (fun i => i < s ∧ newE y G i = true) →
    ∃ tab', F_X6_countEnds_b8 fu (nI b) (nI G.1) done must tills kf tab (nI (fb_ct (newE y G) s)) (nI s) = some (nI (nE y G), nI b, tab') ∧ TB b tab'
  | 0, kf, s, tab, tb, hj, hs, ht, hT => by
    obtain ⟨g, rfl⟩ : ∃ g, kf = g + 1 := ⟨kf - 1, by omega⟩
    have : s = G.1 := by omega
    subst this
    have h6 := hG.2.1
    refine ⟨tab, ?_, hb1, hb2, tb, ht⟩
    rw [F_X6_countEnds_b8, if_pos (by rw [zd_le (by omega) (by omega)]; omega)]
    rfl
  | j + 1, kf, s, tab, tb, hj, hs, ht, hT => by
    obtain ⟨g, rfl⟩ : ∃ g, kf = g + 1 := ⟨kf - 1, by omega⟩
    have h6 := hG.2.1
    have hs' : s < G.1 := by omega
    have hle : fb_ct (newE y G) s ≤ s := fb_ct_le _ _
    have i1 : nI s + (1 : Int32) = nI (s + 1) := by rw [zl_1, zq_add]
    rw [F_X6_countEnds_b8, if_neg (by rw [zd_le (by omega) (by omega)]; omega), if_neg (nI_in (by omega) (by omega)), zd_cl (by omega), X4_isEnd, z_b1]
    unfold F_X6_countEnds_b45
    rw [i1]
    have hstay : newE y G s = false → fb_ct (newE y G) (s + 1) = fb_ct (newE y G) s := by
      intro h; rw [fb_ct_succ, h]; rfl
    have hTstay : newE y G s = false → ∀ {tb'}, TI (Tc tb' b) (HC done tills 0) (fun i => i < s ∧ newE y G i = true) → TI (Tc tb' b) (HC done tills 0) (fun i => i < s + 1 ∧ newE y G i = true) := by
      intro h tb' hT'
      refine TI_congr hT' (fun i _ => rfl) (fun i => ?_)
      constructor
      · rintro ⟨h1, h2⟩; exact ⟨by omega, h2⟩
      · rintro ⟨h1, h2⟩
        by_cases c : i = s
        · subst c; rw [h] at h2; cases h2
        · exact ⟨by omega, h2⟩
    by_cases cw : whole y (G.2 s) = true
    · rw [if_pos ((he s hs').mpr cw), if_neg (by decide)]
      have halk : ∀ i, i < G.1 → (alk done tills 0 i s = true) = (tsm (G.2 i) (G.2 s) = true) := fun i hi =>
        alk_t (fun t ht => okT_lt ((hG.2.2.2.2.1 i hi).2.2 t ht)) (fun t ht => okT_lt ((hG.2.2.2.2.1 s hs').2.2 t ht)) (hR i hi).2 (hR s hs').2
      rcases X6_find fu hfu (look := 0) (s := s) (by omega) (fun p hp => ⟨(ht p hp).1, by have := (ht p hp).2; omega⟩) (by omega) hT with ⟨r, hr, ha, e⟩ | ⟨hno, hyes⟩
      · have hr1 : r < s := hr.1
        have hr2 : newE y G r = true := hr.2
        have hts := (halk r (by omega)).mp ha
        have hn : newE y G s = false := by
          rcases q : newE y G s
          · rfl
          · have := (newE_iff.mp q).2 r hr1 (newE_iff.mp hr2).1
            rw [hts] at this; cases this
        rw [e, z_b2, if_neg (by rw [zd_eq (by omega) (by omega)]; omega), ← hstay hn]
        exact X6_ce8 hfu hG hR he hb1 hb2 j g (s + 1) tab tb (by omega) (by omega) ht (hTstay hn hT)
      · have hn : newE y G s = true := by
          refine newE_iff.mpr ⟨cw, fun o ho hw => ?_⟩
          rcases q : tsm (G.2 o) (G.2 s)
          · rfl
          · obtain ⟨i, i1, i2, i3⟩ := newE_rep ⟨o, ho, hw, q⟩
            have := hno i ⟨i1, i2⟩
            have h4 := (halk i (by omega)).mpr i3
            rw [this] at h4; cases h4
        obtain ⟨tab', tb', e, h4, h5⟩ := hyes (fun h => Nat.lt_irrefl _ h.1)
        rw [e, z_b2, if_pos rfl, zl_1, zq_add]
        have hc : fb_ct (newE y G) s + 1 = fb_ct (newE y G) (s + 1) := by rw [fb_ct_succ, hn]; rfl
        rw [hc]
        refine X6_ce8 hfu hG hR he hb1 hb2 j g (s + 1) tab' tb' (by omega) (by omega) (fun p hp => ⟨(h4 p hp).1, ?_⟩) (TI_congr h5 (fun i _ => rfl) (fun i => ?_))
        · rcases (h4 p hp).2 with q | q
          · rw [q]; exact (ht p hp).2
          · rw [q]; omega
        · constructor
          · rintro (⟨h1, h2⟩ | h)
            · exact ⟨by omega, h2⟩
            · subst h; exact ⟨by omega, hn⟩
          · rintro ⟨h1, h2⟩
            by_cases c : i = s
            · exact Or.inr c
            · exact Or.inl ⟨by omega, h2⟩
    · have hn : newE y G s = false := by
        rcases q : newE y G s
        · rfl
        · exact absurd (newE_iff.mp q).1 cw
      rw [if_neg (fun h => cw ((he s hs').mp h)), if_pos rfl, ← hstay hn]
      exact X6_ce8 hfu hG hR he hb1 hb2 j g (s + 1) tab tb (by omega) (by omega) ht (hTstay hn hT)
theorem X6_countEnds {fu b : Nat} (hfu : 20000 ≤ fu) {y : Sy} {G : Gr} (hG : GO y G) {done tills tab : Nat → Int32} {must : Int32} (hR : CR y G done tills) (he : ∀ i, i < G.1 → (must &&& (done i ^^^ (-1 : Int32)) = 0 ↔ whole y (G.2 i) = true)) (hT : TB b tab) :
    ∃ b' tab', F_X6_countEnds fu (nI b) (nI G.1) tab done must tills = some (nI (nE y G), nI b', tab') ∧ TB b' tab' := by
  obtain ⟨b', tab1, e1, h1, h2, tb, h3⟩ := X6_forget hfu hT
  have h6 := hG.2.1
  unfold F_X6_countEnds
  rw [e1, z_b2]
  obtain ⟨tab', e2, h4⟩ := X6_ce8 (b := b') hfu hG hR he h1 h2 G.1 fu 0 tab1 tb (by omega) (by omega) (fun p hp => ⟨(h3 p hp).1, by have := (h3 p hp).2; omega⟩) (TI_congr (TI_nil (H := HC done tills 0) (fun j hj => by
    unfold Tc
    rw [if_neg]
    have := (h3 j hj).2
    omega)) (fun i _ => rfl) (fun i => ⟨fun h => h.elim, fun h => absurd h.1 (Nat.not_lt_zero i)⟩))
  exact ⟨b', tab', e2, h4⟩
def rs_ends (K : Ca) (kd : Nat → Nat) (nt late : Nat) (told : Bool) (v : Int32) : Int32 × Int32 := match kin told v 2 with
  | none => (-1, nI 1)
  | some k => if full (Yk K kd nt late k) = true then (-1, nI 3) else (nI (nE (Yk K kd nt late k) (gr (Yk K kd nt late k))), nI 0)
theorem X9_ends {fu : Nat} (hfu : 20000 ≤ fu) {K : Ca} {kd : Nat → Nat} {nt late : Nat} {n l : Int32} {f0 f1 f2 f3 f4 f5 f6 kinds : Nat → Int32} (h : CS K kd nt late n f0 f1 f2 f3 f4 f5 f6 kinds l) (told : Bool) (a1 sc : Nat) (v : Int32)
    {b : Nat} {r1 r2 r3 r4 cnt : Int32} {own ahd tab done tills leads : Nat → Int32} (hT : TB b tab) :
    ∃ r1' r2' r3' r4' own' ahd' sc' b' cnt' tab' done' tills' leads', F_X9_ends fu a1 sc (nI (if told = true then 1 else 0)) l n f5 r1 r2 r3 r4 own f0 f4 ahd (nI b) cnt tab done tills kinds f1 f2 f3 f6 leads v =
      some ((rs_ends K kd nt late told v).1, (rs_ends K kd nt late told v).2, r1', r2', r3', r4', own', ahd', sc', nI b', cnt', tab', done', tills', leads') ∧ TB b' tab' := by
  unfold F_X9_ends
  rw [zl_2, X9_hasKind, z_b1]
  rcases e : kin told v 2 with _ | k
  · have hrs : rs_ends K kd nt late told v = (-1, nI 1) := by unfold rs_ends; rw [e]
    rw [ifn, if_pos n0_0, hrs]
    exact ⟨r1, r2, r3, r4, own, ahd, sc, b, cnt, tab, done, tills, leads, rfl, hT⟩
  · obtain ⟨_, rfl, hk⟩ := kin_some (by omega) e
    rw [ifs, if_neg n1_0]
    obtain ⟨own', ahd', b', cnt', tab', done', tills', leads', e1, hT', hR, h1⟩ := X1_explore (kind := k) (own := own) (ahd := ahd) (done := done) (tills := tills) (leads := leads) hfu h (by omega) hT
    unfold F_X1_countEnds
    rw [e1, z_b13]
    by_cases c : full (Yk K kd nt late k) = true
    · have hrs : rs_ends K kd nt late told (nI k) = (-1, nI 3) := by unfold rs_ends; rw [e]; simp only [c, ↓reduceIte]
      rw [if_pos c, if_pos n0_0, z_b13, X9_answered10, hrs]
      exact ⟨_, _, _, _, _, _, _, _, _, _, _, _, _, rfl, hT'⟩
    · have c' : full (Yk K kd nt late k) = false := by simpa using c
      have hrs : rs_ends K kd nt late told (nI k) = (nI (nE (Yk K kd nt late k) (gr (Yk K kd nt late k))), nI 0) := by unfold rs_ends; rw [e]; simp only [c', Bool.false_eq_true, ↓reduceIte]
      have hG := GO_gr (CS_Yk h k) c'
      obtain ⟨h2, h3, h4⟩ := h1 c'
      obtain ⟨b2, tab2, e2, hT2⟩ := X6_countEnds hfu hG h3 (JX_end h.2.1.1 (fun a ha => ((okI_k K).2 a ha).1) h3) hT'
      have hle : nE (Yk K kd nt late k) (gr (Yk K kd nt late k)) ≤ 6000 := Nat.le_trans (fb_ct_le _ _) hG.2.1
      rw [if_neg c, if_neg n1_0, h2, e2, z_b3, z_b13, X9_answeredN (by omega), hrs]
      exact ⟨_, _, _, _, _, _, _, _, _, _, _, _, _, rfl, hT2⟩
/-! the reference's ends -/
def tsf (x z : St) (t : Nat) : Bool := (List.range 3).all (fun u => decide (u < t) || decide (tl x u = tl z u))
theorem tsf_iff {x z : St} {t : Nat} : tsf x z t = true ↔ ∀ u, u < 3 → t ≤ u → tl x u = tl z u := by
  unfold tsf
  rw [List.all_eq_true]
  constructor
  · intro h u h1 h2
    have := h u (List.mem_range.mpr h1)
    rw [Bool.or_eq_true, decide_eq_true_eq, decide_eq_true_eq] at this
    rcases this with q | q
    · omega
    · exact q
  · intro h u hu
    rw [Bool.or_eq_true, decide_eq_true_eq, decide_eq_true_eq]
    rcases Nat.lt_or_ge u t with q | q
    · exact Or.inl q
    · exact Or.inr (h u (List.mem_range.mp hu) q)
theorem X10_sameTills5 {y : Sy} {tills : Nat → Int64} {a b : Nat} {x z : St} (ha : a ≤ 6000) (hb : b ≤ 6000) (hx : ∀ t, t < 3 → trt y t (tl x t) (tills (3 * a + t))) (hz : ∀ t, t < 3 → trt y t (tl z t) (tills (3 * b + t))) :
    ∀ (j kf t : Nat) (c : Bool), j < kf → t + j = 3 → F_X10_sameTills_b5 tills (nI a) (nI b) kf (nI (if c = true then 1 else 0)) (nI t) = some (nI (if (c && tsf x z t) = true then 1 else 0))
  | 0, kf, t, c, hj, ht => by
    obtain ⟨g, rfl⟩ : ∃ g, kf = g + 1 := ⟨kf - 1, by omega⟩
    have : t = 3 := by omega
    subst this
    have e2 : tsf x z 3 = true := tsf_iff.mpr (fun u h1 h2 => by omega)
    rw [e2, Bool.and_true]
    rw [F_X10_sameTills_b5, if_pos (by decide)]
    rcases c
    · rw [if_neg (by decide)]
    · rw [if_neg (by decide)]
  | j + 1, kf, t, c, hj, ht => by
    obtain ⟨g, rfl⟩ : ∃ g, kf = g + 1 := ⟨kf - 1, by omega⟩
    have ih := fun c => X10_sameTills5 ha hb hx hz j g (t + 1) c (by omega) (by omega)
    have i1 : nI t + (1 : Int32) = nI (t + 1) := by rw [zl_1, zq_add]
    have ia : (3 : Int32) * nI a + nI t = nI (3 * a + t) := by rw [zl_3, zq_mul, zq_add]
    have ib : (3 : Int32) * nI b + nI t = nI (3 * b + t) := by rw [zl_3, zq_mul, zq_add]
    have key : (∀ u, u < 3 → t ≤ u → tl x u = tl z u) ↔ (tl x t = tl z t ∧ ∀ u, u < 3 → t + 1 ≤ u → tl x u = tl z u) := by
      constructor
      · intro h; exact ⟨h t (by omega) (Nat.le_refl _), fun u h1 h2 => h u h1 (by omega)⟩
      · rintro ⟨h, h'⟩ u h1 h2
        rcases Nat.lt_or_ge t u with g1 | g1
        · exact h' u h1 g1
        · have : u = t := by omega
          rw [this]; exact h
    rw [F_X10_sameTills_b5, if_neg (by rw [zl_3, zd_le (by omega) (by omega)]; omega)]
    unfold F_X10_sameTills_b45 F_X10_sameTills_b46
    rw [i1, ia, ib]
    rcases c
    · have q := ih false
      rw [if_pos (show nI (if (false = true) then 1 else 0) = 0 from rfl)]
      exact q
    · rw [show (if (true = true) then (1 : Nat) else 0) = 1 from rfl, if_neg n1_0, if_neg (nI_in (by omega) (by omega)), if_neg (nI_in (by omega) (by omega)), zd_cl (by omega), zd_cl (by omega), Bool.true_and]
      have hinj := trt_inj (hx t (by omega)) (hz t (by omega))
      by_cases e : tills (3 * a + t) = tills (3 * b + t)
      · have q := ih true
        rw [Bool.true_and] at q
        rw [if_pos (by rw [e]; unfold lg_cmp; rw [if_neg Int64.lt_irrefl, if_pos rfl])]
        have e' : tl x t = tl z t := by rw [hinj]; exact e
        have e3 : tsf x z t = tsf x z (t + 1) := by
          rcases q1 : tsf x z t <;> rcases q2 : tsf x z (t + 1)
          · rfl
          · exact absurd (tsf_iff.mpr (key.mpr ⟨e', tsf_iff.mp q2⟩)) (by rw [q1]; simp)
          · exact absurd (tsf_iff.mpr (key.mp (tsf_iff.mp q1)).2) (by rw [q2]; simp)
          · rfl
        rw [e3]
        exact q
      · have q := ih false
        have e' : ¬ tl x t = tl z t := by rw [hinj]; exact e
        have e3 : tsf x z t = false := by
          rcases q1 : tsf x z t
          · rfl
          · exact absurd (key.mp (tsf_iff.mp q1)).1 e'
        rw [if_neg (by unfold lg_cmp; split <;> first | decide | (rw [if_neg e]; decide)), e3]
        exact q
theorem X10_sameTills {fu : Nat} (hfu : 20000 ≤ fu) {y : Sy} {tills : Nat → Int64} {a b : Nat} {x z : St} (ha : a ≤ 6000) (hb : b ≤ 6000) (hx : ∀ t, t < 3 → trt y t (tl x t) (tills (3 * a + t))) (hz : ∀ t, t < 3 → trt y t (tl z t) (tills (3 * b + t))) :
    F_X10_sameTills fu tills (nI a) (nI b) = some (nI (if tsm x z = true then 1 else 0)) := by
  unfold F_X10_sameTills
  have q := X10_sameTills5 ha hb hx hz 3 fu 0 true (by omega) (by omega)
  rw [if_pos rfl, Bool.true_and] at q
  rw [zl_1, zl_0, q]
  congr 3
  rw [tsm_iff, tsf_iff]
  exact propext ⟨fun h t ht => h t ht (Nat.zero_le _), fun h u hu _ => h u hu⟩
theorem X10_en62 {fu : Nat} (hfu : 20000 ≤ fu) {y : Sy} (hw : WF y) {G : Gr} (hG : GO y G) {loose minutes byKind : Int32} {long row' w doneOf slot next heard leads : Nat → Int32} {tills : Nat → Int64} (hE : RE y w loose minutes byKind) (hRw : rows_ok y long row') (hRR : RR y G doneOf tills)
    {a1 a2 a3 a4 a5 a6 a7 a8 a9 a10 a11 : Int32} (k37 : Int32 → Int32 → Option (Int32 × Int32 × Int32 × Int32 × Int32 × Int32 × Int32 × Int32 × Int32 × Int32 × Int32 × Int32 × (Nat → Int32) × (Nat → Int32) × (Nat → Int32) × (Nat → Int32) × (Nat → Int32) × (Nat → Int64) × (Nat → Int32) × (Nat → Int32) × (Nat → Int32))) {v2 : Nat} {s : Nat} (hs : s < G.1) :
    ∀ (j kf o : Nat), j + 2 ≤ kf → o + j = s →
    F_X10_ends_b62 k37 fu a1 a2 a3 a4 a5 a6 a7 a8 a9 a10 a11 w long row' slot doneOf tills next heard leads (nI v2) (nI s) kf (nI 1) (nI o) = k37 (nI (v2 + if ∀ u, u < s → o ≤ u → whole y (G.2 u) = true → tsm (G.2 u) (G.2 s) = false then 1 else 0)) (nI (s + 1))
  | 0, kf, o, hj, ho => by
    obtain ⟨g, rfl⟩ : ∃ g, kf = g + 1 := ⟨kf - 1, by omega⟩
    have h6 := hG.2.1
    have : o = s := by omega
    subst this
    rw [if_pos (fun u h1 h2 => by omega), F_X10_ends_b62, if_pos (by rw [zd_le (by omega) (by omega)]; omega)]
    unfold F_X10_ends_b105 F_X10_ends_b116 F_X10_ends_b118
    rw [if_neg n1_0, zl_1, zq_add, zq_add]
  | j + 1, kf, o, hj, ho => by
    obtain ⟨g, rfl⟩ : ∃ g, kf = g + 1 := ⟨kf - 1, by omega⟩
    have h6 := hG.2.1
    have ih := X10_en62 hfu hw hG hE hRw hRR (slot := slot) (next := next) (heard := heard) (leads := leads) (a1 := a1) (a2 := a2) (a3 := a3) (a4 := a4) (a5 := a5) (a6 := a6) (a7 := a7) (a8 := a8) (a9 := a9) (a10 := a10) (a11 := a11) k37 (v2 := v2) hs j g (o + 1) (by omega) (by omega)
    have i1 : nI o + (1 : Int32) = nI (o + 1) := by rw [zl_1, zq_add]
    have key : (∀ u, u < s → o ≤ u → whole y (G.2 u) = true → tsm (G.2 u) (G.2 s) = false) ↔ ((whole y (G.2 o) = true → tsm (G.2 o) (G.2 s) = false) ∧ ∀ u, u < s → o + 1 ≤ u → whole y (G.2 u) = true → tsm (G.2 u) (G.2 s) = false) := by
      constructor
      · intro h; exact ⟨h o (by omega) (Nat.le_refl _), fun u h1 h2 => h u h1 (by omega)⟩
      · rintro ⟨h, h'⟩ u h1 h2
        rcases Nat.lt_or_ge o u with g1 | g1
        · exact h' u h1 g1
        · have : u = o := by omega
          rw [this]; exact h
    rw [F_X10_ends_b62, if_neg (by rw [zd_le (by omega) (by omega)]; omega), if_neg n1_0, X10_isWhole hfu hw hE hRw (hG.2.2.2.2.1 o (by omega)) (hRR o (by omega)).1 (by omega), z_b1]
    unfold F_X10_ends_b92 F_X10_ends_b97
    rw [i1]
    have good : (whole y (G.2 o) = true → tsm (G.2 o) (G.2 s) = false) →
        F_X10_ends_b62 k37 fu a1 a2 a3 a4 a5 a6 a7 a8 a9 a10 a11 w long row' slot doneOf tills next heard leads (nI v2) (nI s) g 1 (nI (o + 1)) = k37 (nI (v2 + if ∀ u, u < s → o ≤ u → whole y (G.2 u) = true → tsm (G.2 u) (G.2 s) = false then 1 else 0)) (nI (s + 1)) := by
      intro h
      rw [zl_1, ih]
      congr 3
      by_cases q : ∀ u, u < s → o + 1 ≤ u → whole y (G.2 u) = true → tsm (G.2 u) (G.2 s) = false
      · rw [if_pos q, if_pos (key.mpr ⟨h, q⟩)]
      · rw [if_neg q, if_neg (fun h => q (key.mp h).2)]
    by_cases cw : whole y (G.2 o) = true
    · rw [if_pos cw, if_neg n1_0, X10_sameTills hfu (by omega) (by omega) (hRR s hs).2 (hRR o (by omega)).2, z_b1]
      have hsym : tsm (G.2 s) (G.2 o) = tsm (G.2 o) (G.2 s) := by
        unfold tsm; exact decide_eq_decide.mpr ⟨Eq.symm, Eq.symm⟩
      rw [hsym]
      by_cases ct : tsm (G.2 o) (G.2 s) = true
      · have hno : ¬ (∀ u, u < s → o ≤ u → whole y (G.2 u) = true → tsm (G.2 u) (G.2 s) = false) := by
          intro h
          have := h o (by omega) (Nat.le_refl _) cw
          rw [ct] at this; cases this
        rw [if_pos ct, if_neg n1_0, if_neg hno]
        obtain ⟨g', rfl⟩ : ∃ g', g = g' + 1 := ⟨g - 1, by omega⟩
        rw [F_X10_ends_b62]
        unfold F_X10_ends_b105 F_X10_ends_b116 F_X10_ends_b118
        rw [if_pos (show (0 : Int32) = 0 from rfl), if_pos (show (0 : Int32) = 0 from rfl)]
        have e0 : nI v2 + (0 : Int32) = nI (v2 + 0) := by rw [zl_0, zq_add]
        have e1 : nI s + (1 : Int32) = nI (s + 1) := by rw [zl_1, zq_add]
        rw [e0, e1]
        split <;> rfl
      · rw [if_neg ct, if_pos n0_0]
        exact good (fun _ => by simpa using ct)
    · rw [if_neg cw, if_pos n0_0]
      exact good (fun h => absurd h cw)
theorem X10_en37 {fu : Nat} (hfu : 20000 ≤ fu) {y : Sy} (hw : WF y) {G : Gr} (hG : GO y G) {loose minutes byKind : Int32} {long row' w doneOf slot next heard leads : Nat → Int32} {tills : Nat → Int64} (hE : RE y w loose minutes byKind) (hRw : rows_ok y long row') (hRR : RR y G doneOf tills)
    {a1 a2 a3 a4 a5 a6 a7 a8 a10 a11 : Int32} : ∀ (j kf s : Nat), j < kf → s + j = G.1 →
    F_X10_ends_b37 fu a1 a2 a3 a4 a5 a6 a7 a8 (nI G.1) a10 a11 w long row' slot doneOf tills next heard leads kf (nI (fb_ct (newE y G) s)) (nI s) = some (nI (nE y G), a1, a2, a3, a4, a5, a6, a7, a8, nI G.1, a10, a11, w, long, row', slot, doneOf, tills, next, heard, leads)
  | 0, kf, s, hj, hs => by
    obtain ⟨g, rfl⟩ : ∃ g, kf = g + 1 := ⟨kf - 1, by omega⟩
    have : s = G.1 := by omega
    subst this
    have h6 := hG.2.1
    rw [F_X10_ends_b37, if_pos (by rw [zd_le (by omega) (by omega)]; omega)]
    rfl
  | j + 1, kf, s, hj, hs => by
    obtain ⟨g, rfl⟩ : ∃ g, kf = g + 1 := ⟨kf - 1, by omega⟩
    have h6 := hG.2.1
    have hs' : s < G.1 := by omega
    have ih := X10_en37 hfu hw hG hE hRw hRR (slot := slot) (next := next) (heard := heard) (leads := leads) (a1 := a1) (a2 := a2) (a3 := a3) (a4 := a4) (a5 := a5) (a6 := a6) (a7 := a7) (a8 := a8) (a10 := a10) (a11 := a11) j g (s + 1) (by omega) (by omega)
    rw [F_X10_ends_b37, if_neg (by rw [zd_le (by omega) (by omega)]; omega), X10_isWhole hfu hw hE hRw (hG.2.2.2.2.1 s hs') (hRR s hs').1 (by omega), z_b1]
    unfold F_X10_ends_b118
    by_cases cw : whole y (G.2 s) = true
    · rw [if_pos cw, if_neg n1_0, zl_1, zl_0, X10_en62 hfu hw hG hE hRw hRR (v2 := fb_ct (newE y G) s) (F_X10_ends_b37 fu a1 a2 a3 a4 a5 a6 a7 a8 (nI G.1) a10 a11 w long row' slot doneOf tills next heard leads g) hs' s fu 0 (by omega) (by omega)]
      rw [← ih]
      congr 2
      rw [fb_ct_succ]
      congr 1
      by_cases q : ∀ u, u < s → 0 ≤ u → whole y (G.2 u) = true → tsm (G.2 u) (G.2 s) = false
      · rw [if_pos q, if_pos (newE_iff.mpr ⟨cw, fun o ho => q o ho (Nat.zero_le _)⟩)]
      · rw [if_neg q, if_neg (fun h => q (fun u hu _ => (newE_iff.mp h).2 u hu))]
    · rw [if_neg cw, if_pos n0_0, zl_1, zq_add, ← ih]
      congr 2
      rw [fb_ct_succ]
      have : newE y G s = false := by
        rcases q : newE y G s
        · rfl
        · exact absurd (newE_iff.mp q).1 cw
      rw [this]; rfl
theorem X10_ends {fu : Nat} (hfu : 20000 ≤ fu) {K : Ca} {kd : Nat → Nat} {nt late : Nat} {st w r : Nat → Int32} (hM : MS K kd nt late st r) (told : Bool) (v : Int32)
    {ans th lo on mi bk sn isF cb : Int32} {long row' slot doneOf next heard leads : Nat → Int32} {tills : Nat → Int64} :
    ∃ ans' th' lo' on' mi' bk' sn' isF' cb' w' long' row2 slot' doneOf' tills' next' heard' leads', F_X10_ends fu (nI (if told = true then 1 else 0)) ans th lo on mi bk sn isF cb st w r long row' slot doneOf tills next heard leads v =
      some ((rs_ends K kd nt late told v).1, nI 0, (rs_ends K kd nt late told v).2, ans', th', lo', on', mi', bk', sn', isF', cb', w', long', row2, slot', doneOf', tills', next', heard', leads') := by
  unfold F_X10_ends F_X10_good
  rw [zl_2, X10_isKind, z_b2, z_b1]
  rcases e : kin told v 2 with _ | k
  · have hrs : rs_ends K kd nt late told v = (-1, nI 1) := by unfold rs_ends; rw [e]
    rw [ifn, if_pos n0_0, hrs]
    exact ⟨ans, th, lo, on, mi, bk, sn, isF, cb, w, long, row', slot, doneOf, tills, next, heard, leads, rfl⟩
  · obtain ⟨_, rfl, hk⟩ := kin_some (by omega) e
    rw [ifs, if_neg n1_0]
    obtain ⟨ans', th', lo', on', mi', bk', sn', isF', cb', w', long', row2, slot', doneOf', tills', next', heard', leads', e2, h2⟩ := X10_goesk (kind := k) (w := w) (ans := ans) (bk := bk) (sn := sn) (isF := isF) (cb := cb) (long := long) (row' := row') (slot := slot) (doneOf := doneOf) (next := next) (heard := heard) (leads := leads) (tills := tills) hfu hM hk
    rw [e2, z_b19]
    by_cases c : full (Yk K kd nt late k) = true
    · have hrs : rs_ends K kd nt late told (nI k) = (-1, nI 3) := by unfold rs_ends; rw [e]; simp only [c, ↓reduceIte]
      rw [if_pos c, if_pos n0_0, hrs]
      exact ⟨_, _, _, _, _, _, _, _, _, _, _, _, _, _, _, _, _, _, rfl⟩
    · have c' : full (Yk K kd nt late k) = false := by simpa using c
      have hrs : rs_ends K kd nt late told (nI k) = (nI (nE (Yk K kd nt late k) (gr (Yk K kd nt late k))), nI 0) := by unfold rs_ends; rw [e]; simp only [c', Bool.false_eq_true, ↓reduceIte]
      obtain ⟨_, b2, _, _, b5⟩ := h2 c'
      have hG := GO_gr (MS_Yk hM k) c'
      have h6 := hG.2.1
      rw [if_neg c, if_neg n1_0, hrs, b5.1]
      have e3 := X10_en37 (slot := slot') (next := next') (heard := heard') (leads := leads') (a1 := (0 : Int32)) (a2 := (0 : Int32)) (a3 := ans') (a4 := th') (a5 := lo') (a6 := on') (a7 := mi') (a8 := bk') (a10 := isF') (a11 := cb') hfu (MS_Yk hM k) hG b2 b5.2.1 b5.2.2.1 (gr (Yk K kd nt late k)).1 fu 0 (by omega) (by omega)
      exact ⟨_, _, _, _, _, _, _, _, _, _, _, _, _, _, _, _, _, _, e3⟩
