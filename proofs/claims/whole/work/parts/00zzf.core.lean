/-! core: the class's search for a smallest set that can't be -/
def Es (K : Ca) : Nat := msk (enb K) (cm K)
def canS (K : Ca) (kd : Nat → Nat) (nt late k S : Nat) : Prop := 0 < PW (Ys K kd nt late k S) (whole (Ys K kd nt late k S)) (ini (Ys K kd nt late k S))
def cnd (K : Ca) (sz v : Nat) : Bool := decide (fb_ct v.testBit 20 = sz) && decide (v &&& Es K = v)
def pco (K : Ca) (kd : Nat → Nat) (nt late k sz v : Nat) : Bool := cnd K sz v && decide (PW (Ys K kd nt late k v) (whole (Ys K kd nt late k v)) (ini (Ys K kd nt late k v)) = 0)
def fco (K : Ca) (kd : Nat → Nat) (nt late k sz : Nat) : Option Nat := if fa_first (pco K kd nt late k sz) (2 ^ cm K) < 2 ^ cm K then some (fa_first (pco K kd nt late k sz) (2 ^ cm K)) else none
theorem pco_iff {K : Ca} {kd : Nat → Nat} {nt late k sz v : Nat} : pco K kd nt late k sz v = true ↔ cnd K sz v = true ∧ ¬ canS K kd nt late k v := by
  unfold pco canS
  rw [Bool.and_eq_true, decide_eq_true_eq]
  constructor
  · rintro ⟨h1, h2⟩; exact ⟨h1, by omega⟩
  · rintro ⟨h1, h2⟩; exact ⟨h1, by omega⟩
theorem fco_some {K : Ca} {kd : Nat → Nat} {nt late k sz u : Nat} (hu : u < 2 ^ cm K) (h1 : pco K kd nt late k sz u = true) (h2 : ∀ w, w < u → ¬ pco K kd nt late k sz w = true) : fco K kd nt late k sz = some u := by
  have e : fa_first (pco K kd nt late k sz) (2 ^ cm K) = u := by
    rcases Nat.lt_trichotomy (fa_first (pco K kd nt late k sz) (2 ^ cm K)) u with g | g | g
    · exact absurd (fa_first_yes _ _ (by omega)) (h2 _ g)
    · exact g
    · have := fa_first_no _ _ _ g
      rw [h1] at this; cases this
  unfold fco
  rw [e, if_pos hu]
theorem fco_none {K : Ca} {kd : Nat → Nat} {nt late k sz : Nat} (h2 : ∀ w, w < 2 ^ cm K → ¬ pco K kd nt late k sz w = true) : fco K kd nt late k sz = none := by
  unfold fco
  rw [if_neg]
  intro h
  exact h2 _ h (fa_first_yes _ _ h)
theorem cnd_sub {K : Ca} {sz v : Nat} (h : cnd K sz v = true) : ∀ c, v.testBit c = true → enb K c = true := by
  intro c hc
  unfold cnd at h
  rw [Bool.and_eq_true, decide_eq_true_eq, decide_eq_true_eq] at h
  rw [← h.2, Nat.testBit_and, Bool.and_eq_true] at hc
  have := hc.2
  unfold Es at this
  rw [msk_bit, Bool.and_eq_true] at this
  exact this.2
theorem cnd_lt {K : Ca} {sz v : Nat} (h : cnd K sz v = true) : v ≤ Es K := by
  unfold cnd at h
  rw [Bool.and_eq_true, decide_eq_true_eq, decide_eq_true_eq] at h
  rw [← h.2]
  exact Nat.and_le_right
theorem cnd_pos {K : Ca} {sz v : Nat} (hs : 1 ≤ sz) (h : cnd K sz v = true) : 0 < v := by
  unfold cnd at h
  rw [Bool.and_eq_true, decide_eq_true_eq] at h
  rcases Nat.eq_zero_or_pos v with g | g
  · exfalso
    have h1 := h.1
    rw [g] at h1
    have : fb_ct (Nat.testBit 0) 20 = 0 := fb_ct_zero.mpr (fun k _ => Nat.zero_testBit k)
    omega
  · exact g
theorem Es_lt (K : Ca) (hm : cm K ≤ 20) : Es K < 2 ^ cm K ∧ Es K < 2 ^ 20 := ⟨msk_lt _ _, msk_lt20 _ hm⟩
theorem sub_iff {K : Ca} {v : Nat} (hv : v < 2 ^ 20) : (nI v &&& (nI (Es K) ^^^ (-1 : Int32)) = 0) ↔ v &&& Es K = v := by
  rw [must_iff hv]
  constructor
  · intro h
    apply Nat.eq_of_testBit_eq
    intro c
    rw [Nat.testBit_and]
    rcases e : v.testBit c with _ | _
    · rfl
    · rw [h c e]; rfl
  · intro h c hc
    rw [← h, Nat.testBit_and, Bool.and_eq_true] at hc
    exact hc.2
theorem X1_fs30 {n : Nat} {S : Nat → Nat} {sets : Nat → Int32} {setsOf : Nat → Int64} (h : SB n S sets setsOf) {P : Nat → Prop} {M : Int64} (hM : ∀ b, b < 64 → (gb M b = true ↔ P (S b))) {ways : Nat → Int64} :
    ∀ (j kf b : Nat), j < kf → b + j = n → (∀ b', b' < b → P (S b')) → ∃ r, F_X1_firstSetThatCannot_b30 (nI n) ways sets M kf (nI b) = some (r, ways) ∧ ((∃ b, b < n ∧ r = nI (S b) ∧ ¬ P (S b) ∧ ∀ b', b' < b → P (S b')) ∨ (r = nI 0 ∧ ∀ b, b < n → P (S b)))
  | 0, kf, b, hj, hb, hp => by
    obtain ⟨g, rfl⟩ : ∃ g, kf = g + 1 := ⟨kf - 1, by omega⟩
    have h1 := h.1
    rw [F_X1_firstSetThatCannot_b30, if_pos (by rw [zd_le (by omega) (by omega)]; omega)]
    exact ⟨_, rfl, Or.inr ⟨rfl, fun b' hb' => hp b' (by omega)⟩⟩
  | j + 1, kf, b, hj, hb, hp => by
    obtain ⟨g, rfl⟩ : ∃ g, kf = g + 1 := ⟨kf - 1, by omega⟩
    have h1 := h.1
    have hb6 : b < 64 := by omega
    rw [F_X1_firstSetThatCannot_b30, if_neg (by rw [zd_le (by omega) (by omega)]; omega), if_neg (by rw [show (64 : Int32) = nI 64 from rfl, zd_le (by omega) (by omega)]; omega)]
    by_cases c : gb M b = false
    · rw [if_pos ((gb_sh M hb6).mpr c), if_neg (nI_in (by omega) (by omega)), zd_cl (by omega), (h.2.1 b (by omega)).1]
      refine ⟨_, rfl, Or.inl ⟨b, by omega, rfl, fun q => ?_, hp⟩⟩
      rw [(hM b hb6).mpr q] at c; cases c
    · have c' : gb M b = true := by simpa using c
      rw [if_neg (fun q => c ((gb_sh M hb6).mp q)), zl_1, zq_add]
      refine X1_fs30 h hM j g (b + 1) (by omega) (by omega) (fun b' hb' => ?_)
      by_cases d : b' = b
      · rw [d]; exact (hM b hb6).mp c'
      · exact hp b' (by omega)
/-- what the class holds after its search of the loose stands -/
def CX (K : Ca) (kd : Nat → Nat) (nt late k : Nat) (own ahd done tills leads kinds f1 f2 f3 f6 : Nat → Int32) : Prop :=
  WF (Ys K kd nt late k 0) ∧ GO (Ys K kd nt late k 0) (gr (Ys K kd nt late k 0)) ∧ ROW (Ys K kd nt late k 0) own ahd ∧ CR (Ys K kd nt late k 0) (gr (Ys K kd nt late k 0)) done tills ∧ NC (Ys K kd nt late k 0) (gr (Ys K kd nt late k 0)) leads ∧
  (∃ strict, CL (Ys K kd nt late k 0) strict kinds f1 f2 f3 f6) ∧ (∀ i, i < (gr (Ys K kd nt late k 0)).1 → (nI (Es K) &&& (done i ^^^ (-1 : Int32)) = 0 ↔ whole (Ys K kd nt late k 0) ((gr (Ys K kd nt late k 0)).2 i) = true)) ∧ (∀ S, WF (Ys K kd nt late k S))
theorem X1_fstc {fu : Nat} (hfu : 20000 ≤ fu) {K : Ca} {kd : Nat → Nat} {nt late k : Nat} {own ahd done tills leads kinds f1 f2 f3 f6 : Nat → Int32} (h : CX K kd nt late k own ahd done tills leads kinds f1 f2 f3 f6) (hm : cm K ≤ 20)
    {n : Nat} {S : Nat → Nat} {sets : Nat → Int32} {setsOf : Nat → Int64} (hS : SB n S sets setsOf) (hsub : ∀ b, b < n → ∀ c, (S b).testBit c = true → enb K c = true) {ways : Nat → Int64} :
    ∃ r ways', F_X1_firstSetThatCannot fu (nI n) (nI (Es K)) (nI (gr (Ys K kd nt late k 0)).1) ways done leads own ahd setsOf f1 tills kinds f2 f3 f6 sets = some (r, ways') ∧
      ((∃ b, b < n ∧ r = nI (S b) ∧ ¬ canS K kd nt late k (S b) ∧ ∀ b', b' < b → canS K kd nt late k (S b')) ∨ (r = nI 0 ∧ ∀ b, b < n → canS K kd nt late k (S b))) := by
  obtain ⟨hw, hG, hR, hC, hn, ⟨strict, hL⟩, he, hwS⟩ := h
  have hn64 := hS.1
  unfold F_X1_firstSetThatCannot
  by_cases c : n = 0
  · rw [if_pos (by rw [c]; rfl)]
    exact ⟨_, _, rfl, Or.inr ⟨rfl, fun b hb => by omega⟩⟩
  · rw [if_neg (by rw [zl_0, zd_eq (by omega) (by omega)]; exact c)]
    obtain ⟨M, ways', e, h1⟩ := X6_setsThatCan (Sf := S) (E := enb K) (Em := Es K) (must := nI (Es K)) (ways := ways) hfu hw hG hR hC hn hL hS.2.2.2 (Es_lt K hm).2 (fun c hc => by
      have hc' : c < cm K := hc
      unfold Es
      rw [msk_bit]; simp [hc']) (fun b c hb => by
      by_cases d : b < n
      · exact hsub b d c hb
      · rw [hS.2.2.1 b (by omega), Nat.zero_testBit] at hb; cases hb) he
    rw [e, z_b2]
    have hM : ∀ b, b < 64 → (gb M b = true ↔ canS K kd nt late k (S b)) := by
      intro b hb
      rw [h1 b hb, Ys_can hG]
      exact (PW_CE (hwS (S b)) (okS_ini (hwS (S b)))).symm
    obtain ⟨r, e2, h2⟩ := X1_fs30 hS hM (ways := ways') n fu 0 (by omega) (by omega) (fun b' hb' => by omega)
    exact ⟨r, ways', e2, h2⟩
def FI (K : Ca) (kd : Nat → Nat) (nt late k sz v n : Nat) (S : Nat → Nat) : Prop := (∀ b, b < n → cnd K sz (S b) = true ∧ S b < v) ∧ (∀ b b', b < b' → b' < n → S b < S b') ∧ (∀ u, u < v → cnd K sz u = true → canS K kd nt late k u ∨ ∃ b, b < n ∧ S b = u)
theorem X1_fc2 {fu : Nat} (hfu : 20000 ≤ fu) {K : Ca} {kd : Nat → Nat} {nt late k : Nat} {own ahd done tills leads kinds f1 f2 f3 f6 : Nat → Int32} (h : CX K kd nt late k own ahd done tills leads kinds f1 f2 f3 f6) (hm : cm K ≤ 12) {sz : Nat} (hsz : 1 ≤ sz) (hsz2 : sz ≤ 20) :
    ∀ (f kf v n : Nat) (S : Nat → Nat) (sets : Nat → Int32) (setsOf ways : Nat → Int64), f < kf → v + f = 2 ^ cm K → n < 64 → SB n S sets setsOf → FI K kd nt late k sz v n S → (f = 0 → n = 0) →
    ∃ r sets' setsOf' ways' S', F_X1_firstCore_b2 fu (nI (Es K)) (nI (gr (Ys K kd nt late k 0)).1) done leads own ahd f1 tills kinds f2 f3 f6 (nI sz) (nI (2 ^ cm K - 1)) kf (nI n) sets setsOf ways (nI v) = some (r, nI 0, sets', setsOf', ways') ∧ SB 0 S' sets' setsOf' ∧
      ((∃ u, u < 2 ^ cm K ∧ r = nI u ∧ 0 < u ∧ fco K kd nt late k sz = some u) ∨ (r = nI 0 ∧ fco K kd nt late k sz = none))
  | 0, kf, v, n, S, sets, setsOf, ways, hf, hv, hn, hS, hF, h0 => by
    obtain ⟨g, rfl⟩ : ∃ g, kf = g + 1 := ⟨kf - 1, by omega⟩
    have hn0 := h0 rfl
    subst hn0
    have hp : 2 ^ cm K ≤ 2 ^ 12 := Nat.pow_le_pow_right (by omega) hm
    have hp1 : 0 < 2 ^ cm K := Nat.pow_pos (by omega)
    rw [F_X1_firstCore_b2, if_pos (by rw [zd_lt (by omega) (by omega)]; omega)]
    refine ⟨_, _, _, _, S, rfl, hS, Or.inr ⟨rfl, fco_none (fun w hw hp => ?_)⟩⟩
    obtain ⟨q1, q2⟩ := pco_iff.mp hp
    rcases hF.2.2 w (by omega) q1 with q | ⟨b, hb, _⟩
    · exact q2 q
    · omega
  | f + 1, kf, v, n, S, sets, setsOf, ways, hf, hv, hn, hS, hF, h0 => by
    obtain ⟨g, rfl⟩ : ∃ g, kf = g + 1 := ⟨kf - 1, by omega⟩
    have hp : 2 ^ cm K ≤ 2 ^ 12 := Nat.pow_le_pow_right (by omega) hm
    have hp1 : 0 < 2 ^ cm K := Nat.pow_pos (by omega)
    have hv20 : v < 2 ^ 20 := by omega
    have i1 : nI v + (1 : Int32) = nI (v + 1) := by rw [zl_1, zq_add]
    have ih := fun n S sets setsOf ways hn hS hF h0 => X1_fc2 hfu h hm hsz hsz2 f g (v + 1) n S sets setsOf ways (by omega) (by omega) hn hS hF h0
    -- the rest of a round
    have rest : ∀ (n : Nat) (S : Nat → Nat) (sets : Nat → Int32) (setsOf : Nat → Int64), n ≤ 64 → SB n S sets setsOf → FI K kd nt late k sz (v + 1) n S →
        ∃ r sets' setsOf' ways' S', F_X1_firstCore_b34 (F_X1_firstCore_b2 fu (nI (Es K)) (nI (gr (Ys K kd nt late k 0)).1) done leads own ahd f1 tills kinds f2 f3 f6 (nI sz) (nI (2 ^ cm K - 1)) g) fu (nI n) (nI (Es K)) sets setsOf (nI (gr (Ys K kd nt late k 0)).1) ways done leads own ahd f1 tills kinds f2 f3 f6 (nI sz) (nI (2 ^ cm K - 1)) (nI v) = some (r, nI 0, sets', setsOf', ways') ∧ SB 0 S' sets' setsOf' ∧
          ((∃ u, u < 2 ^ cm K ∧ r = nI u ∧ 0 < u ∧ fco K kd nt late k sz = some u) ∨ (r = nI 0 ∧ fco K kd nt late k sz = none)) := by
      intro n S sets setsOf hn hS hF
      have flush : ∃ r sets' setsOf' ways' S', F_X1_firstCore_b48 (F_X1_firstCore_b2 fu (nI (Es K)) (nI (gr (Ys K kd nt late k 0)).1) done leads own ahd f1 tills kinds f2 f3 f6 (nI sz) (nI (2 ^ cm K - 1)) g) fu (nI n) (nI (Es K)) sets setsOf (nI (gr (Ys K kd nt late k 0)).1) ways done leads own ahd f1 tills kinds f2 f3 f6 (nI sz) (nI (2 ^ cm K - 1)) (nI v) = some (r, nI 0, sets', setsOf', ways') ∧ SB 0 S' sets' setsOf' ∧
          ((∃ u, u < 2 ^ cm K ∧ r = nI u ∧ 0 < u ∧ fco K kd nt late k sz = some u) ∨ (r = nI 0 ∧ fco K kd nt late k sz = none)) := by
        obtain ⟨r, ways', e1, h1⟩ := X1_fstc (ways := ways) hfu h (by omega) hS (fun b hb c hc => cnd_sub (hF.1 b hb).1 c hc)
        obtain ⟨setsOf', e2, h2⟩ := X1_dropSets (setsOf := setsOf) hfu
        unfold F_X1_firstCore_b48
        rw [e1, z_b2, e2, z_b2]
        rcases h1 with ⟨b, hb, rfl, hnc, hbe⟩ | ⟨rfl, hall⟩
        · obtain ⟨q1, q2⟩ := hF.1 b hb
          have hpos := cnd_pos hsz q1
          rw [if_neg (by rw [zl_0, zd_eq (by omega) (by omega)]; omega)]
          refine ⟨_, _, _, _, _, rfl, h2 sets, Or.inl ⟨S b, by omega, rfl, hpos, fco_some (by omega) (pco_iff.mpr ⟨q1, hnc⟩) (fun w hw hp => ?_)⟩⟩
          obtain ⟨p1, p2⟩ := pco_iff.mp hp
          rcases hF.2.2 w (by omega) p1 with q | ⟨b', hb', rfl⟩
          · exact p2 q
          · refine p2 (hbe b' ?_)
            rcases Nat.lt_trichotomy b' b with t | t | t
            · exact t
            · subst t; omega
            · have := hF.2.1 b b' t hb'; omega
        · rw [if_pos n0_0]
          unfold F_X1_firstCore_b66
          rw [i1]
          refine ih 0 (fun _ => 0) sets setsOf' ways' (by omega) (h2 sets) ⟨fun b hb => by omega, fun b b' _ hb' => by omega, fun u hu hc => ?_⟩ (fun _ => rfl)
          rcases hF.2.2 u hu hc with q | ⟨b, hb, rfl⟩
          · exact Or.inl q
          · exact Or.inl (hall b hb)
      unfold F_X1_firstCore_b34
      by_cases c : n = 64
      · rw [if_pos (by rw [c]; rfl)]
        exact flush
      · rw [if_neg (by rw [show (64 : Int32) = nI 64 from rfl, zd_eq (by omega) (by omega)]; exact c)]
        by_cases d : v = 2 ^ cm K - 1
        · rw [if_pos (by rw [← d])]
          exact flush
        · rw [if_neg (by rw [zd_eq (by omega) (by omega)]; exact d)]
          unfold F_X1_firstCore_b66
          rw [i1]
          exact ih n S sets setsOf ways (by omega) hS hF (fun hf0 => by omega)
    rw [F_X1_firstCore_b2, if_neg (by rw [zd_lt (by omega) (by omega)]; omega), J6_bits hv20, z_b1]
    have hct := fb_ct_le v.testBit 20
    have grow : cnd K sz v = false → FI K kd nt late k sz (v + 1) n S := by
      intro hc
      refine ⟨fun b hb => ⟨(hF.1 b hb).1, by have := (hF.1 b hb).2; omega⟩, hF.2.1, fun u hu hcu => ?_⟩
      by_cases d : u = v
      · subst d; rw [hc] at hcu; cases hcu
      · exact hF.2.2 u (by omega) hcu
    by_cases c1 : fb_ct v.testBit 20 = sz
    · rw [if_pos (by rw [c1])]
      by_cases c2 : v &&& Es K = v
      · have hc : cnd K sz v = true := by unfold cnd; simp [c1, c2]
        obtain ⟨sets', setsOf', e, hS'⟩ := X1_addSet hfu hn hv20 hS
        rw [if_pos ((sub_iff hv20).mpr c2), e, z_b3]
        refine rest (n + 1) _ sets' setsOf' (by omega) hS' ⟨fun b hb => ?_, fun b b' hbb hb' => ?_, fun u hu hcu => ?_⟩
        · by_cases d : b = n
          · simp only [d, ↓reduceIte]; exact ⟨hc, by omega⟩
          · simp only [d, ↓reduceIte]
            have := hF.1 b (by omega)
            exact ⟨this.1, by omega⟩
        · have d1 : ¬ b = n := by omega
          by_cases d : b' = n
          · simp only [d, d1, ↓reduceIte]; exact (hF.1 b (by omega)).2
          · simp only [d, d1, ↓reduceIte]; exact hF.2.1 b b' hbb (by omega)
        · by_cases d : u = v
          · subst d; exact Or.inr ⟨n, by omega, by simp⟩
          · rcases hF.2.2 u (by omega) hcu with q | ⟨b, hb, hSb⟩
            · exact Or.inl q
            · refine Or.inr ⟨b, by omega, ?_⟩
              have d1 : ¬ b = n := by omega
              simp only [d1, ↓reduceIte]; exact hSb
      · have hc : cnd K sz v = false := by unfold cnd; simp [c2]
        rw [if_neg (fun q => c2 ((sub_iff hv20).mp q))]
        exact rest n S sets setsOf (by omega) hS (grow hc)
    · have hc : cnd K sz v = false := by unfold cnd; simp [c1]
      rw [if_neg (by rw [zd_eq (by omega) (by omega)]; exact c1)]
      exact rest n S sets setsOf (by omega) hS (grow hc)
