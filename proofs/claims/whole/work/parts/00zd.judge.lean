/-! the class's judge: rules and search together -/
theorem must_iff {M D : Nat} (hM : M < 2 ^ 20) : (nI M &&& (nI D ^^^ (-1 : Int32)) = 0) ↔ ∀ c, M.testBit c = true → D.testBit c = true := by
  obtain ⟨L, h1, h2, h3⟩ := zs_andn (D := D) hM
  rw [h1, zs_zero h2]
  constructor
  · intro h c hc
    have := h3 c
    rw [h, hc, Nat.zero_testBit] at this
    simpa using this.symm
  · intro h
    rcases Nat.eq_zero_or_pos L with g | g
    · exact g
    · obtain ⟨i, hi⟩ := nz_bit (by omega : L ≠ 0)
      rw [h3] at hi
      simp only [Bool.and_eq_true, Bool.not_eq_true'] at hi
      have := h i hi.1
      rw [hi.2] at this; cases this
theorem msk_and (p q : Nat → Bool) (m : Nat) : msk p m &&& msk q m = msk (fun c => p c && q c) m := by
  apply msk_eq
  intro c
  rw [Nat.testBit_and, msk_bit, msk_bit]
  cases decide (c < m) <;> cases p c <;> cases q c <;> rfl
/-- a book's calls, tills and law, as the class has them -/
def CS (K : Ca) (kd : Nat → Nat) (nt late : Nat) (n : Int32) (f0 f1 f2 f3 f4 f5 f6 kinds : Nat → Int32) (l : Int32) : Prop :=
  RC K n f0 f1 f2 f3 f4 f5 f6 ∧ okC 4 nt kd K ∧ nt ≤ 3 ∧ (∀ t, t < 3 → kd t < 5) ∧ (∀ t, t < 3 → kinds t = nI (kd t)) ∧ l = nI late ∧ late ≤ 99
/-- sets of calls that can be -/
def okI (K : Ca) (inn mst tim : Nat → Bool) : Prop := (∀ a, tim a = true → a < cm K ∧ ce K a ≠ -2 ∧ inn a = true) ∧ (∀ a, mst a = true → a < cm K ∧ inn a = true)
theorem CS_WF {K : Ca} {kd : Nat → Nat} {nt late : Nat} {n l : Int32} {f0 f1 f2 f3 f4 f5 f6 kinds : Nat → Int32} (h : CS K kd nt late n f0 f1 f2 f3 f4 f5 f6 kinds l) {inn mst str tim : Nat → Bool} {gap : Int} (hg : 0 ≤ gap) (hi : okI K inn mst tim) : WF (sysK K kd nt inn mst str tim gap) :=
  WF_sysK h.2.1 h.2.2.1 h.2.2.2.1 hg (fun a ha => ⟨(hi.1 a ha).1, (hi.1 a ha).2.1⟩) (fun a ha => (hi.2 a ha).2)
theorem CS_CL {K : Ca} {kd : Nat → Nat} {nt late : Nat} {n l : Int32} {f0 f1 f2 f3 f4 f5 f6 kinds : Nat → Int32} (h : CS K kd nt late n f0 f1 f2 f3 f4 f5 f6 kinds l) {inn mst str tim : Nat → Bool} {gap : Int} :
    CL (sysK K kd nt inn mst str tim gap) (nI (msk str (cm K))) kinds f1 f2 f3 f6 := by
  refine ⟨⟨_, rfl, msk_lt20 _ h.2.1.1, fun c hc => ?_⟩, h.2.2.2.2.1, fun c hc => ?_⟩
  · have hc' : c < cm K := hc
    rw [msk_bit]
    simp [hc']
    rfl
  · obtain ⟨_, g1, g2, g3, _, _, g6⟩ := h.1.2 c hc
    exact ⟨g1, g2, g3, g6⟩
/-- bind and explore, with sets given -/
theorem JX {fu : Nat} (hfu : 20000 ≤ fu) {K : Ca} {kd : Nat → Nat} {nt late : Nat} {n l : Int32} {f0 f1 f2 f3 f4 f5 f6 kinds : Nat → Int32} (h : CS K kd nt late n f0 f1 f2 f3 f4 f5 f6 kinds l) {inn mst str tim : Nat → Bool} {gap : Int32} (hg : 0 ≤ gap.toInt) (hi : okI K inn mst tim)
    {b : Nat} {own ahd tab done tills leads : Nat → Int32} (hT : TB b tab) :
    ∃ own' ahd' b' cnt tab' done' tills' leads', F_X4_bind fu (nI (msk inn (cm K))) (nI (msk tim (cm K))) own n f0 f4 f5 ahd gap = some (own', ahd') ∧
      F_X6_explore fu (nI b) tab done tills kinds (nI (msk str (cm K))) own' ahd' f1 f2 f3 f6 leads = some (nI (if full (sysK K kd nt inn mst str tim gap.toInt) = true then 0 else 1), nI b', cnt, tab', done', tills', leads') ∧
      ROW (sysK K kd nt inn mst str tim gap.toInt) own' ahd' ∧ TB b' tab' ∧
      (full (sysK K kd nt inn mst str tim gap.toInt) = false → cnt = nI (gr (sysK K kd nt inn mst str tim gap.toInt)).1 ∧ CR (sysK K kd nt inn mst str tim gap.toInt) (gr (sysK K kd nt inn mst str tim gap.toInt)) done' tills' ∧
        NC (sysK K kd nt inn mst str tim gap.toInt) (gr (sysK K kd nt inn mst str tim gap.toInt)) leads') := by
  have hw := CS_WF (str := str) h hg hi
  obtain ⟨own', ahd', e1, hR⟩ := X4_bind (kd := kd) (inn := inn) (mst := mst) (str := str) (tim := tim) (own := own) (ahd := ahd) (f0 := f0) (f4 := f4) (f5 := f5) hfu h.2.1 rfl rfl hg
    (fun a _ ha => ⟨(hi.1 a ha).2.1, (hi.1 a ha).2.2⟩) (fun c hc => (h.1.2 c hc).1) (fun c hc => (h.1.2 c hc).2.2.2.2.1) (fun c hc => (h.1.2 c hc).2.2.2.2.2.1)
  obtain ⟨b', cnt, tab', done', tills', leads', e2, h1, h2⟩ := X6_explore (done := done) (tills := tills) (leads := leads) hfu hw (CS_CL h (mst := mst)) hR hT
  rw [← h.1.1] at e1
  exact ⟨own', ahd', b', cnt, tab', done', tills', leads', e1, e2, hR, h1, h2⟩
theorem JX_end {K : Ca} {kd : Nat → Nat} {nt : Nat} {inn mst str tim : Nat → Bool} {gap : Int} {G : Gr} {done tills : Nat → Int32} (hm : cm K ≤ 20) (hmst : ∀ a, mst a = true → a < cm K) (hR : CR (sysK K kd nt inn mst str tim gap) G done tills) :
    ∀ i, i < G.1 → (nI (msk mst (cm K)) &&& (done i ^^^ (-1 : Int32)) = 0 ↔ whole (sysK K kd nt inn mst str tim gap) (G.2 i) = true) := by
  intro i hi
  rw [(hR i hi).1, must_iff (msk_lt20 _ hm), whole_iff]
  constructor
  · intro h c hc hmc
    have hmc' : mst c = true := hmc
    have hc' : c < cm K := hc
    exact h c (by rw [msk_bit]; simp [hc', hmc'])
  · intro h c hc
    rw [msk_bit] at hc
    simp only [Bool.and_eq_true, decide_eq_true_eq] at hc
    exact h c hc.1 hc.2
/-- how many orders, of sets given -/
theorem X1_countWays {fu : Nat} (hfu : 20000 ≤ fu) {K : Ca} {kd : Nat → Nat} {nt late : Nat} {n l : Int32} {f0 f1 f2 f3 f4 f5 f6 kinds : Nat → Int32} (h : CS K kd nt late n f0 f1 f2 f3 f4 f5 f6 kinds l) {inn mst str tim : Nat → Bool} {gap : Int32} (hg : 0 ≤ gap.toInt) (hi : okI K inn mst tim)
    {b : Nat} {own ahd tab done tills leads : Nat → Int32} {ways : Nat → Int64} (hT : TB b tab) :
    ∃ own' ahd' b' cnt tab' done' tills' leads' ways', F_X1_countWays fu (nI (msk inn (cm K))) (nI (msk mst (cm K))) (nI (msk str (cm K))) (nI (msk tim (cm K))) own n f0 f4 f5 ahd (nI b) tab done tills kinds f1 f2 f3 f6 leads ways gap =
      some ((if full (sysK K kd nt inn mst str tim gap.toInt) = true then (-10 : Int64) else lN (PW (sysK K kd nt inn mst str tim gap.toInt) (whole (sysK K kd nt inn mst str tim gap.toInt)) (ini (sysK K kd nt inn mst str tim gap.toInt)))), own', ahd', nI b', cnt, tab', done', tills', leads', ways') ∧ TB b' tab' := by
  have hw := CS_WF (str := str) h hg hi
  obtain ⟨own', ahd', b', cnt, tab', done', tills', leads', e1, e2, hR, h1, h2⟩ := JX (mst := mst) (str := str) (own := own) (ahd := ahd) (done := done) (tills := tills) (leads := leads) hfu h hg hi hT
  unfold F_X1_countWays
  rw [e1, z_b2, e2, z_b7]
  by_cases hf : full (sysK K kd nt inn mst str tim gap.toInt) = true
  · rw [if_pos hf, if_pos hf, if_pos (by decide)]
    exact ⟨_, _, _, _, _, _, _, _, _, rfl, h1⟩
  · have hf' : full (sysK K kd nt inn mst str tim gap.toInt) = false := by simpa using hf
    obtain ⟨h3, h4, h5⟩ := h2 hf'
    have hGO := GO_gr hw hf'
    obtain ⟨ways', e3, _⟩ := X6_countWays (ways := ways) (e := whole (sysK K kd nt inn mst str tim gap.toInt)) hfu hw hGO h5 (JX_end h.2.1.1 (fun a ha => (hi.2 a ha).1) h4)
    rw [if_neg hf, if_neg hf, if_neg (by decide), h3, e3, z_b2, hGO.2.2.2.1]
    exact ⟨_, _, _, _, _, _, _, _, _, rfl, h1⟩
/-! the systems of the kinds -/
def enb (K : Ca) (c : Nat) : Bool := decide (c < cm K) && decide (ce K c ≠ -2)
def alb (K : Ca) (c : Nat) : Bool := decide (c < cm K)
def gapk (kind late : Nat) : Nat := if kind = 1 then 1000 else if kind = 2 then late else 0
def Yk (K : Ca) (kd : Nat → Nat) (nt late kind : Nat) : Sy := sysK K kd nt (alb K) (enb K) (enb K) (enb K) (gapk kind late)
def tlb (K : Ca) (t c : Nat) : Bool := decide (c < cm K) && decide (ct K c = t)
def Yt (K : Ca) (kd : Nat → Nat) (nt t : Nat) : Sy := sysK K kd nt (tlb K t) (fun c => tlb K t c && enb K c) (fun c => tlb K t c && enb K c) (fun c => tlb K t c && enb K c) (0 : Nat)
theorem okI_k (K : Ca) : okI K (alb K) (enb K) (enb K) := by
  refine ⟨fun a ha => ?_, fun a ha => ?_⟩
  · unfold enb at ha
    simp only [Bool.and_eq_true, decide_eq_true_eq] at ha
    exact ⟨ha.1, ha.2, decide_eq_true ha.1⟩
  · unfold enb at ha
    simp only [Bool.and_eq_true, decide_eq_true_eq] at ha
    exact ⟨ha.1, decide_eq_true ha.1⟩
theorem okI_t (K : Ca) (t : Nat) : okI K (tlb K t) (fun c => tlb K t c && enb K c) (fun c => tlb K t c && enb K c) := by
  refine ⟨fun a ha => ?_, fun a ha => ?_⟩
  · have h := Bool.and_eq_true _ _ |>.mp ha
    have h2 := (okI_k K).1 a h.2
    exact ⟨h2.1, h2.2.1, h.1⟩
  · have h := Bool.and_eq_true _ _ |>.mp ha
    have h2 := (okI_k K).1 a h.2
    exact ⟨h2.1, h.1⟩
theorem takeAll {fu : Nat} (hfu : 20000 ≤ fu) {K : Ca} {kd : Nat → Nat} {nt late : Nat} {n l : Int32} {f0 f1 f2 f3 f4 f5 f6 kinds : Nat → Int32} (h : CS K kd nt late n f0 f1 f2 f3 f4 f5 f6 kinds l) :
    F_X4_takeAll fu n f5 = some (nI (msk (alb K) (cm K)), nI (msk (enb K) (cm K)), nI (msk (enb K) (cm K)), nI (msk (enb K) (cm K))) := by
  have hm := h.2.1.1
  unfold F_X4_takeAll F_X4_takeSome
  rw [h.1.1, X0_allOnes hm, z_b1, X0_endedOnes hfu hm, z_b1, z_b4, zq_and, msk_and]
  have e1 : msk (fun c => true && decide (f5 c ≠ -2)) (cm K) = msk (enb K) (cm K) := msk_cong (fun c hc => by
    unfold enb
    rw [(h.1.2 c hc).2.2.2.2.2.1]
    simp [hc])
  have e2 : msk (fun _ => true) (cm K) = msk (alb K) (cm K) := msk_cong (fun c hc => by unfold alb; simp [hc])
  rw [e1, e2]
theorem takeTill {fu : Nat} (hfu : 20000 ≤ fu) {K : Ca} {kd : Nat → Nat} {nt late : Nat} {n l : Int32} {f0 f1 f2 f3 f4 f5 f6 kinds : Nat → Int32} (h : CS K kd nt late n f0 f1 f2 f3 f4 f5 f6 kinds l) {t : Nat} (ht : t < 3) :
    F_X0_onesOfTill fu n f1 (nI t) = some (nI (msk (tlb K t) (cm K))) ∧ ∃ E, F_X0_endedOnes fu n f5 = some E ∧
    F_X4_takeSome (nI (msk (tlb K t) (cm K))) E = some (nI (msk (tlb K t) (cm K)), nI (msk (fun c => tlb K t c && enb K c) (cm K)), nI (msk (fun c => tlb K t c && enb K c) (cm K)), nI (msk (fun c => tlb K t c && enb K c) (cm K))) := by
  have hm := h.2.1.1
  refine ⟨?_, _, by rw [h.1.1, X0_endedOnes hfu hm], ?_⟩
  · rw [h.1.1, X0_onesOfTill hfu hm]
    congr 2
    apply msk_cong
    intro c hc
    have hb := (h.2.1.2 c hc).2.1
    have := h.2.2.1
    have e : (nI (ct K c) = nI t) = (ct K c = t) := zd_eq (by omega) (by omega)
    unfold tlb
    rw [(h.1.2 c hc).2.1]
    simp only [e, hc, decide_true, Bool.true_and]
  · unfold F_X4_takeSome
    rw [zq_and, msk_and]
    have e1 : msk (fun c => tlb K t c && decide (f5 c ≠ -2)) (cm K) = msk (fun c => tlb K t c && enb K c) (cm K) := msk_cong (fun c hc => by
      unfold enb
      rw [(h.1.2 c hc).2.2.2.2.2.1]
      simp [hc])
    rw [e1]
theorem gap_k {kind late : Nat} (hk : kind < 4) (hl : late ≤ 99) : F_X4_gapOf (nI kind) (nI late) = some (nI (gapk kind late)) ∧ (nI (gapk kind late)).toInt = (gapk kind late : Nat) ∧ 0 ≤ (nI (gapk kind late)).toInt := by
  have h : gapk kind late ≤ 1000 := by
    unfold gapk
    split
    · omega
    · split <;> omega
  refine ⟨?_, nI_toInt (by omega), by rw [nI_toInt (by omega)]; omega⟩
  unfold F_X4_gapOf gapk
  have e1 : (nI kind = (1 : Int32)) = (kind = 1) := by rw [zl_1]; exact zd_eq (by omega) (by omega)
  have e2 : (nI kind = (2 : Int32)) = (kind = 2) := by rw [zl_2]; exact zd_eq (by omega) (by omega)
  simp only [e1, e2]
  split
  · rfl
  · split <;> rfl
