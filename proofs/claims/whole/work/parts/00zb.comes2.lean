theorem ad_le {G : Gr} {o : Option St} : (ad G o).1 ≤ G.1 + 1 := by
  unfold ad
  split
  · exact Nat.le_succ _
  · split
    · exact Nat.le_succ _
    · exact Nat.le_refl _
/-- what the search has laid: rows, table, next stands of those below s, and of s up to k -/
def RS (y : Sy) (G : Gr) (n : Nat) (next doneOf heard slot : Nat → Int32) (tills : Nat → Int64) : Prop :=
  RR y G doneOf tills ∧ RT slot doneOf tills G.1 ∧ HE y G n heard ∧ ∀ i k, 4 * i + k < n → k < 4 → next (4 * i + k) = cd G (nst y k (G.2 i))
theorem HE_ext {y : Sy} {G G' : Gr} {n : Nat} {heard : Nat → Int32} (h : HE y G n heard) (e : ext G G') (hn : n ≤ 4 * G.1) : HE y G' n heard := by
  intro i k c hi hk h1 h2
  rw [e.2 i (by omega)] at h1 h2 ⊢
  exact h i k c hi hk h1 h2
/-- too many: the rest of a stand's row -/
theorem X10_co131 {fu : Nat} (hfu : 20000 ≤ fu) {y : Sy} (hw : WF y) {w r long row' leads : Nat → Int32} {loose minutes byKind : Int32} (hW : RW y w) (hE : RE y w loose minutes byKind) (hRw : rows_ok y long row') (hK : kinds_r y r)
    (k113 : Int32 → Int32 → Int32 → (Nat → Int32) → (Nat → Int32) → (Nat → Int64) → (Nat → Int32) → (Nat → Int32) → Int32 → RC13) {G : Gr} {s : Nat} (hB : bi y s G) (hs : s < G.1) :
    ∀ (j k kf : Nat) (ans : Int32) (slot doneOf next heard : Nat → Int32) (tills : Nat → Int64), k + j = 4 → j < kf → (pk y (G.2 s) k G).1 ≤ 6000 → RS y (pk y (G.2 s) k G) (4 * s + k) next doneOf heard slot tills →
    (6000 < (pk y (G.2 s) 4 G).1 ∧ ∃ ans' n' slot' doneOf' tills' next' heard', F_X10_comes_b131 k113 fu loose minutes byKind long w row' r leads (nI s) kf ans (nI (pk y (G.2 s) k G).1) (nI 0) slot doneOf tills next heard (nI k) = k113 ans' n' (nI 1) slot' doneOf' tills' next' heard' (nI (s + 1))) ∨
    ((pk y (G.2 s) 4 G).1 ≤ 6000 ∧ ∃ ans' slot' doneOf' tills' next' heard', F_X10_comes_b131 k113 fu loose minutes byKind long w row' r leads (nI s) kf ans (nI (pk y (G.2 s) k G).1) (nI 0) slot doneOf tills next heard (nI k) =
      k113 ans' (nI (pk y (G.2 s) 4 G).1) (nI 0) slot' doneOf' tills' next' heard' (nI (s + 1)) ∧ RS y (pk y (G.2 s) 4 G) (4 * (s + 1)) next' doneOf' heard' slot' tills')
  | 0, k, kf, ans, slot, doneOf, next, heard, tills, hk, hkf, hG, hR => by
    obtain ⟨q, rfl⟩ : ∃ q, kf = q + 1 := ⟨kf - 1, by omega⟩
    have : k = 4 := by omega
    subst this
    right
    refine ⟨hG, ans, slot, doneOf, tills, next, heard, ?_, hR⟩
    rw [F_X10_comes_b131, if_pos (by decide)]
    unfold F_X10_comes_b157
    rw [zl_1, zq_add]
  | j + 1, k, kf, ans, slot, doneOf, next, heard, tills, hk, hkf, hG, hR => by
    obtain ⟨q, rfl⟩ : ∃ q, kf = q + 1 := ⟨kf - 1, by omega⟩
    have hx := pk_ext (y := y) (x := G.2 s) (G := G) k
    have hsk : s < (pk y (G.2 s) k G).1 := Nat.lt_of_lt_of_le hs hx.1
    have hGs : (pk y (G.2 s) k G).2 s = G.2 s := hx.2 s hs
    have hnod := pk_nod (y := y) (x := G.2 s) hB.2.2.1 k
    have hok : ∀ i, i < (pk y (G.2 s) k G).1 → okS y ((pk y (G.2 s) k G).2 i) := by
      intro i hi
      rcases Nat.lt_or_ge i G.1 with g | g
      · rw [hx.2 i g]; exact hB.2.2.2.2.1 i g
      · obtain ⟨k', _, e⟩ := pk_new k i g hi
        exact (nst_okS hw (hB.2.2.2.2.1 s hs) e).1
    obtain ⟨hR1, hR2, hR3, hR4⟩ := hR
    obtain ⟨ans', n', full', next', doneOf', tills', heard', slot', e, h⟩ := X10_leadsOn (nextOf := next) (heard := heard) (ans := ans) hfu hw hG hnod hok hW hE hRw hK hR1 hR2 hsk (by omega : k < 4)
    rw [hGs] at h
    have hpk : ad (pk y (G.2 s) k G) (nst y k (G.2 s)) = pk y (G.2 s) (k + 1) G := rfl
    rw [hpk] at h
    have step : F_X10_comes_b131 k113 fu loose minutes byKind long w row' r leads (nI s) (q + 1) ans (nI (pk y (G.2 s) k G).1) (nI 0) slot doneOf tills next heard (nI k) =
        F_X10_comes_b131 k113 fu loose minutes byKind long w row' r leads (nI s) q ans' n' full' slot' doneOf' tills' next' heard' (nI (k + 1)) := by
      rw [F_X10_comes_b131, if_neg (by rw [zl_4, zd_le (by omega) (by omega)]; omega), if_pos (by decide), e, z_b8, zl_1, zq_add]
    rw [step]
    have h4 := (pk_ext2 (y := y) (x := G.2 s) (G := G) (k + 1) j).1
    rw [show k + 1 + j = 4 by omega] at h4
    rcases h with ⟨h0, h1⟩ | ⟨h0, h1, h2, h3, h5, h6, h7, h8⟩
    · left
      refine ⟨by omega, ?_⟩
      subst h1
      obtain ⟨q', rfl⟩ : ∃ q', q = q' + 1 := ⟨q - 1, by omega⟩
      refine ⟨ans', n', slot', doneOf', tills', next', heard', ?_⟩
      rw [F_X10_comes_b131]
      unfold F_X10_comes_b157
      rw [zl_1, zq_add]
      split
      · rfl
      · rw [if_neg (by decide)]
    · subst h1 h2 h3
      have hext := pk_ext2 (y := y) (x := G.2 s) (G := G) k 1
      refine X10_co131 hfu hw hW hE hRw hK k113 hB hs j (k + 1) q ans' slot' doneOf' _ heard' tills' (by omega) (by omega) h0 ⟨h5, h6, ?_, ?_⟩
      · intro i k' c hi hk' g1 g2
        by_cases c1 : 4 * i + k' = 4 * s + k
        · have ei : i = s := by omega
          have ek : k' = k := by omega
          subst ei ek
          rw [hext.2 i hsk, hGs] at g1 g2 ⊢
          exact h8 c g1 g2
        · rw [h7 _ c1]
          rw [hext.2 i (by omega)] at g1 g2 ⊢
          exact hR3 i k' c (by omega) hk' g1 g2
      · intro i k' hi hk'
        rw [z_upd]
        by_cases c1 : 4 * i + k' = 4 * s + k
        · have ei : i = s := by omega
          have ek : k' = k := by omega
          subst ei ek
          rw [if_pos rfl, hext.2 i hsk, hGs]
        · rw [if_neg c1, hR4 i k' (by omega) hk', hext.2 i (by omega)]
          refine (cd_ext hext (fun z hz => ?_)).symm
          by_cases ei : i = s
          · subst ei
            rw [hGs] at hz
            exact pk_has (by omega : k' < k) hz
          · have hi' : i < s := by omega
            rw [hx.2 i (by omega)] at hz
            have := hB.2.2.2.2.2.1 i k' z hi' hk' hz
            rw [fnd_ext hx this]
            exact Nat.lt_of_lt_of_le this hx.1
/-- what comes leaves, where the stands aren't too many -/
def FG (y : Sy) (n : Int32) (long row' slot doneOf : Nat → Int32) (tills : Nat → Int64) (next heard leads : Nat → Int32) : Prop :=
  n = nI (gr y).1 ∧ rows_ok y long row' ∧ RR y (gr y) doneOf tills ∧ NX y (gr y) next ∧ HE y (gr y) (4 * (gr y).1) heard ∧ ∀ i, i < (gr y).1 → isB (leads i) (CE y ((gr y).2 i))
theorem X10_co113 {fu : Nat} (hfu : 20000 ≤ fu) {y : Sy} (hw : WF y) {w r long row' leads : Nat → Int32} {loose minutes byKind : Int32} (hW : RW y w) (hE : RE y w loose minutes byKind) (hRw : rows_ok y long row') (hK : kinds_r y r) :
    ∀ (f kf s : Nat) (G : Gr) (ans : Int32) (slot doneOf next heard : Nat → Int32) (tills : Nat → Int64), bi y s G → G.1 ≤ 6000 → 6001 ≤ f + s → f + 1 < kf → gr y = bf y f s G → RS y G (4 * s) next doneOf heard slot tills →
    ∃ ans' n' full' slot' doneOf' tills' next' heard' leads', F_X10_comes_b113 fu loose minutes byKind long w row' r leads kf ans (nI G.1) (nI 0) slot doneOf tills next heard (nI s) =
      some (nI (if full y = true then 0 else 1), ans', byKind, n', full', long, row', slot', doneOf', tills', next', heard', leads') ∧ (full y = false → FG y n' long row' slot' doneOf' tills' next' heard' leads')
  | 0, kf, s, G, ans, slot, doneOf, next, heard, tills, hB, hG, hf, hkf, hgr, hR => by
    have := hB.2.2.2.1
    omega
  | f + 1, kf, s, G, ans, slot, doneOf, next, heard, tills, hB, hG, hf, hkf, hgr, hR => by
    obtain ⟨q, rfl⟩ : ∃ q, kf = q + 1 := ⟨kf - 1, by omega⟩
    have hsG := hB.2.2.2.1
    have hle : (nI G.1 ≤ nI s) = (G.1 ≤ s) := zd_le (by omega) (by omega)
    rw [F_X10_comes_b113]
    by_cases hs : s < G.1
    · rw [if_neg (by rw [hle]; omega), if_pos (by decide)]
      have h131 := X10_co131 (leads := leads) hfu hw hW hE hRw hK (F_X10_comes_b113 fu loose minutes byKind long w row' r leads q) hB hs 4 0 fu ans slot doneOf next heard tills (by omega) (by omega) hG hR
      have h0' : (pk y (G.2 s) 0 G) = G := rfl
      rw [h0'] at h131
      rw [zl_0]
      rcases h131 with ⟨h0, ans', n', slot', doneOf', tills', next', heard', e⟩ | ⟨h0, ans', slot', doneOf', tills', next', heard', e, hR'⟩
      · have hbf : gr y = pk y (G.2 s) 4 G := by rw [hgr, bf, if_pos hs, if_pos h0]
        have hfl : full y = true := by unfold full; rw [hbf]; exact decide_eq_true h0
        rw [e]
        obtain ⟨q', rfl⟩ : ∃ q', q = q' + 1 := ⟨q - 1, by omega⟩
        refine ⟨ans', n', nI 1, slot', doneOf', tills', next', heard', leads, ?_, fun h => by rw [hfl] at h; cases h⟩
        rw [F_X10_comes_b113]
        unfold F_X10_comes_b163
        rw [hfl, if_neg (show ¬ (nI 1 : Int32) = 0 by decide)]
        split
        · rfl
        · rw [if_neg (show ¬ (nI 1 : Int32) = 0 by decide)]; rfl
      · have hbf : gr y = bf y f (s + 1) (pk y (G.2 s) 4 G) := by rw [hgr, bf, if_pos hs, if_neg (by omega)]
        rw [e]
        exact X10_co113 hfu hw hW hE hRw hK f q (s + 1) _ ans' slot' doneOf' next' heard' tills' (bi_step hw hB hs) h0 (by omega) (by omega) hbf hR'
    · have hbf : gr y = G := by rw [hgr, bf, if_neg hs]
      have hfl : full y = false := by unfold full; rw [hbf]; exact decide_eq_false (by omega)
      rw [if_pos (by rw [hle]; omega)]
      unfold F_X10_comes_b163
      rw [if_pos (by decide)]
      have hse : s = G.1 := by omega
      have hGO := GO_gr hw hfl
      rw [hbf] at hGO
      have hNX : NX y G next := fun i k hi hk => hR.2.2.2 i k (by omega) hk
      obtain ⟨leads', e, hl⟩ := X10_co179 (slot := slot) (heard := heard) (ans := ans) (kind := byKind) (stands := nI G.1) (isFull := nI 0) hfu hw hGO hE hRw hR.1 hNX G.1 fu leads (by omega) (Nat.le_refl _) (fun i h1 h2 => absurd h2 (by omega))
      rw [zl_1, e, hfl]
      refine ⟨ans, nI G.1, nI 0, slot, doneOf, tills, next, heard, leads', rfl, fun _ => ?_⟩
      rw [hse] at hR
      unfold FG
      rw [hbf]
      exact ⟨rfl, hRw, hR.1, hNX, hR.2.2.1, hl⟩
theorem fill_slot {F : Nat → (Nat → Int32) → Int32 → RC13} {C : (Nat → Int32) → RC13} {n : Nat} {v : Int32} (h0 : ∀ k f, F (k + 1) f (nI n) = C f) (h1 : ∀ k f i, i < n → F (k + 1) f (nI i) = F k (upd f i v) (nI (i + 1))) :
    ∀ (j kf i : Nat) (f : Nat → Int32), j < kf → i + j = n → ∃ f', F kf f (nI i) = C f' ∧ (∀ p, i ≤ p → p < n → f' p = v) ∧ ∀ p, p < i → f' p = f p
  | 0, kf, i, f, hj, hi => by
    obtain ⟨q, rfl⟩ : ∃ q, kf = q + 1 := ⟨kf - 1, by omega⟩
    have : i = n := by omega
    subst this
    exact ⟨f, h0 q f, fun p h1 h2 => by omega, fun p _ => rfl⟩
  | j + 1, kf, i, f, hj, hi => by
    obtain ⟨q, rfl⟩ : ∃ q, kf = q + 1 := ⟨kf - 1, by omega⟩
    obtain ⟨f', e, h2, h3⟩ := fill_slot h0 h1 j q (i + 1) (upd f i v) (by omega) (by omega)
    refine ⟨f', by rw [h1 q f i (by omega), e], fun p hp1 hp2 => ?_, fun p hp => ?_⟩
    · by_cases c : p = i
      · subst c; rw [h3 p (by omega), z_upd, if_pos rfl]
      · exact h2 p (by omega) hp2
    · rw [h3 p (by omega), z_upd, if_neg (by omega)]
theorem X10_comes {fu : Nat} (hfu : 20000 ≤ fu) {y : Sy} (hw : WF y) {there onTill loose minutes kind ans : Int32} {w r long row' slot doneOf next heard leads : Nat → Int32} {tills : Nat → Int64} (hW : RW y w) (hI : RI y there onTill w) (hE : RE y w loose minutes kind) (hK : kinds_r y r) :
    ∃ ans' n' full' long' row2 slot' doneOf' tills' next' heard' leads', F_X10_comes fu ans there loose onTill minutes long w row' slot doneOf tills r next heard leads kind =
      some (nI (if full y = true then 0 else 1), ans', kind, n', full', long', row2, slot', doneOf', tills', next', heard', leads') ∧ (full y = false → FG y n' long' row2 slot' doneOf' tills' next' heard' leads') := by
  obtain ⟨long', row2, e1, hRw⟩ := X10_layRows (long := long) (row' := row') hfu hw hW hI
  unfold F_X10_comes
  rw [e1, z_b2]
  obtain ⟨slot2, e2, hs2, _⟩ := fill_slot (F := F_X10_comes_b21 fu ans loose minutes kind 0 0 long' w row2 doneOf tills r next heard leads)
    (C := fun slot => F_X10_comes_b43 fu ans loose minutes kind 0 0 long' w row2 slot tills r next heard leads fu doneOf 0) (n := 16384) (v := -1)
    (fun k f => by rw [F_X10_comes_b21, if_pos (by decide)])
    (fun k f i hi => by rw [F_X10_comes_b21, if_neg (by rw [zl_16384, zd_le (by omega) (by omega)]; omega), if_neg (nI_in hi (by omega)), zd_cl (by omega), zl_1, zq_add]) 16384 fu 0 slot (by omega) (by omega)
  obtain ⟨done2, e3, hd2, _⟩ := fill_slot (F := F_X10_comes_b43 fu ans loose minutes kind 0 0 long' w row2 slot2 tills r next heard leads)
    (C := fun done => F_X10_comes_b63 fu ans loose minutes kind 0 0 long' w row2 slot2 done r next heard leads fu tills 0) (n := 4) (v := 0)
    (fun k f => by rw [F_X10_comes_b43, if_pos (by decide)])
    (fun k f i hi => by rw [F_X10_comes_b43, if_neg (by rw [zl_4, zd_le (by omega) (by omega)]; omega), if_neg (nI_in (by omega) (by omega)), zd_cl (by omega), zl_1, zq_add]) 4 fu 0 doneOf (by omega) (by omega)
  rw [← zl_0] at e2 e3
  rw [e2, e3]
  obtain ⟨f, hf⟩ : ∃ f, fu = f + 1 + 1 + 1 + 1 := ⟨fu - 4, by omega⟩
  have hnt := hw.2.1
  generalize hT2 : vp_updL (vp_updL (vp_updL tills 0 (if 0 < ynt y then lN (i0 y 0) else lN 0)) 1 (if 1 < ynt y then lN (i0 y 1) else lN 0)) 2 (if 2 < ynt y then lN (i0 y 2) else lN 0) = T2
  have hT : ∀ t, t < 3 → trt y t (tl (ini y) t) (T2 t) := by
    intro t ht
    have e : T2 t = if t < ynt y then lN (i0 y t) else lN 0 := by
      rw [← hT2, z_updL, z_updL, z_updL]
      have c' : t = 0 ∨ t = 1 ∨ t = 2 := by omega
      rcases c' with rfl | rfl | rfl
      · rfl
      · rfl
      · rfl
    have e2 : tl (ini y) t = i0 y t := by
      have c' : t = 0 ∨ t = 1 ∨ t = 2 := by omega
      rcases c' with rfl | rfl | rfl <;> rfl
    rw [e, e2]
    unfold trt
    by_cases g : t < ynt y
    · rw [if_pos g, if_pos g]
      exact tr_init (hw.2.2.1 t ht)
    · rw [if_neg g, if_neg g]
      exact ⟨rfl, rfl⟩
  have hD : RD y done2 0 (ini y) := by
    intro q hq
    rw [Nat.mul_zero, Nat.zero_add, hd2 q (Nat.zero_le _) hq, cnt_ini]; rfl
  have hfind := X10_find (fu := fu) (stands := 0) (isFull := 0) (doneOf := done2) (slot := slot2) (tills := T2) (T := fun _ => none) (s := 0) (ins := fun _ => False) hfu (by omega) (fun p hp => by rw [hs2 p (Nat.zero_le _) hp]; rfl) (TI_nil (fun _ _ => rfl))
  rcases hfind with ⟨r', hr', _⟩ | ⟨_, _, hyes⟩
  · exact hr'.elim
  obtain ⟨slot3, T3, e4, h7, h8⟩ := hyes (by omega) (fun h => h)
  have e63 : F_X10_comes_b63 fu ans loose minutes kind 0 0 long' w row2 slot2 done2 r next heard leads fu tills 0 =
      F_X10_comes_b113 fu loose minutes kind long' w row2 r leads fu ans (nI 1) (nI 0) slot3 done2 T2 next heard (nI 0) := by
    have hstep : ∀ (g t : Nat) (T : Nat → Int64), t < 3 → F_X10_comes_b63 fu ans loose minutes kind 0 0 long' w row2 slot2 done2 r next heard leads (g + 1) T (nI t) =
        F_X10_comes_b63 fu ans loose minutes kind 0 0 long' w row2 slot2 done2 r next heard leads g (vp_updL T t (if t < ynt y then lN (i0 y t) else lN 0)) (nI (t + 1)) := by
      intro g t T ht
      have hr2 : r 2 = nI (ynt y) := hK.1
      rw [F_X10_comes_b63, if_neg (by rw [zl_3, zd_le (by omega) (by omega)]; omega), show (2 : Int32).toNatClampNeg = 2 from rfl, hr2]
      unfold F_X10_comes_b98
      by_cases c : t < ynt y
      · have a := X10_atFirst (hw.2.2.1 t ht)
        rw [if_neg (by rw [zd_le (by omega) (by omega)]; omega), if_pos c, zl_3, zq_add, if_neg (nI_in (by omega) (by omega)), zd_cl (by omega), hK.2 t c, a, z_b1, if_neg (nI_in (by omega) (by omega)), zd_cl (by omega), zl_1, zq_add]
        rfl
      · rw [if_pos (by rw [zd_le (by omega) (by omega)]; omega), if_neg c, if_neg (nI_in (by omega) (by omega)), zd_cl (by omega), zl_1, zq_add]
        rfl
    rw [show F_X10_comes_b63 fu ans loose minutes kind 0 0 long' w row2 slot2 done2 r next heard leads fu tills 0 =
      F_X10_comes_b63 fu ans loose minutes kind 0 0 long' w row2 slot2 done2 r next heard leads (f + 1 + 1 + 1 + 1) tills (nI 0) by rw [← hf]; rfl]
    rw [hstep _ 0 _ (by omega), hstep _ 1 _ (by omega), hstep _ 2 _ (by omega), hT2, F_X10_comes_b63, if_pos (by decide)]
    rw [show F_X10_findStand fu 0 0 done2 T2 slot2 (0 : Int32) = F_X10_findStand fu 0 0 done2 T2 slot2 (nI 0) from rfl, e4, z_b4]
    rfl
  rw [e63]
  exact X10_co113 hfu hw hW hE hRw hK 6001 fu 0 (1, fun _ => ini y) ans slot3 done2 next heard T2 (bi_0 hw) (by show 1 ≤ 6000; omega) (by omega) (by omega) rfl
    ⟨fun i hi => by
      have : i = 0 := by have h' : i < 1 := hi; omega
      subst this
      exact ⟨hD, fun t ht => by rw [Nat.mul_zero, Nat.zero_add]; exact hT t ht⟩, ⟨T3, h7, TI_congr h8 (fun i _ => rfl) (fun i => by
        show (False ∨ i = 0) ↔ i < 1
        constructor
        · rintro (h | h)
          · exact h.elim
          · omega
        · intro h; right; omega)⟩, fun i k c hi => absurd hi (by omega), fun i k hi => absurd hi (by omega)⟩ |>.imp fun ans' h => h.imp fun n' h => h.imp fun full' h => ⟨long', row2, h⟩
