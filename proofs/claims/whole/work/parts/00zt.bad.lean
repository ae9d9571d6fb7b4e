/-! bad: the ended calls by their ends; which of them nothing mends -/
def lte (K : Ca) (a c : Nat) : Prop := (ce K a).toInt < (ce K c).toInt ∨ ((ce K a).toInt = (ce K c).toInt ∧ a < c)
def nxe (K : Ca) (p : Nat → Bool) : Nat → Option Nat
  | 0 => none
  | j + 1 => if enb K j = true ∧ p j = false then (match nxe K p j with
    | none => some j
    | some b => if ce K b ≤ ce K j then some b else some j) else nxe K p j
theorem nxe_none {K : Ca} {p : Nat → Bool} : ∀ {j : Nat}, nxe K p j = none → ∀ c, c < j → enb K c = true → p c = true
  | 0, _, c, hc, _ => absurd hc (Nat.not_lt_zero c)
  | j + 1, h, c, hc, he => by
    unfold nxe at h
    split at h
    · rcases e : nxe K p j with _ | b
      · rw [e] at h; cases h
      · rw [e] at h; simp only at h; split at h <;> cases h
    · rename_i g
      by_cases d : c = j
      · subst d
        rcases e : p c with _ | _
        · exact absurd ⟨he, e⟩ g
        · rfl
      · exact nxe_none h c (by omega) he
theorem nxe_some {K : Ca} {p : Nat → Bool} : ∀ {j b : Nat}, nxe K p j = some b → b < j ∧ enb K b = true ∧ p b = false ∧ ∀ c, c < j → enb K c = true → p c = false → c = b ∨ lte K b c
  | 0, b, h => by cases h
  | j + 1, b, h => by
    unfold nxe at h
    split at h
    · rename_i g
      rcases e : nxe K p j with _ | b'
      · rw [e] at h
        simp only at h
        injection h with h
        subst h
        refine ⟨by omega, g.1, g.2, fun c hc he hp => ?_⟩
        by_cases d : c = j
        · exact Or.inl d
        · have := nxe_none e c (by omega) he
          rw [hp] at this; cases this
      · rw [e] at h
        simp only at h
        obtain ⟨h1, h2, h3, h4⟩ := nxe_some e
        split at h
        · rename_i q
          injection h with h
          subst h
          refine ⟨by omega, h2, h3, fun c hc he hp => ?_⟩
          by_cases d : c = j
          · subst d
            rw [Int32.le_iff_toInt_le] at q
            right
            unfold lte
            omega
          · exact h4 c (by omega) he hp
        · rename_i q
          injection h with h
          subst h
          rw [Int32.le_iff_toInt_le] at q
          refine ⟨by omega, g.1, g.2, fun c hc he hp => ?_⟩
          by_cases d : c = j
          · exact Or.inl d
          · right
            rcases h4 c (by omega) he hp with r | r
            · subst r; unfold lte; omega
            · unfold lte at r ⊢; omega
    · rename_i g
      obtain ⟨h1, h2, h3, h4⟩ := nxe_some h
      refine ⟨by omega, h2, h3, fun c hc he hp => ?_⟩
      by_cases d : c = j
      · subst d; exact absurd ⟨he, hp⟩ g
      · exact h4 c (by omega) he hp
theorem nxe_uni {K : Ca} {p : Nat → Bool} {j b : Nat} (h1 : b < j) (h2 : enb K b = true) (h3 : p b = false) (h4 : ∀ c, c < j → enb K c = true → p c = false → c = b ∨ lte K b c) : nxe K p j = some b := by
  rcases e : nxe K p j with _ | b'
  · have := nxe_none e b h1 h2
    rw [h3] at this; cases this
  · obtain ⟨g1, g2, g3, g4⟩ := nxe_some e
    rcases h4 b' g1 g2 g3 with r | r
    · rw [r]
    · rcases g4 b h1 h2 h3 with q | q
      · rw [q]
      · unfold lte at r q; omega
def psE (K : Ca) : Nat → Nat → Bool
  | 0 => fun _ => false
  | i + 1 => fun c => psE K i c || (nxe K (psE K i) (cm K) == some c)
theorem psE_enb {K : Ca} : ∀ {i c : Nat}, psE K i c = true → c < cm K ∧ enb K c = true
  | 0, c, h => Bool.noConfusion h
  | i + 1, c, h => by
    have h' : (psE K i c || (nxe K (psE K i) (cm K) == some c)) = true := h
    rw [Bool.or_eq_true] at h'
    rcases h' with h' | h'
    · exact psE_enb h'
    · have e : nxe K (psE K i) (cm K) = some c := eq_of_beq h'
      obtain ⟨g1, g2, _⟩ := nxe_some e
      exact ⟨g1, g2⟩
theorem psE_succ {K : Ca} {i b : Nat} (h : nxe K (psE K i) (cm K) = some b) : psE K (i + 1) = fun c => psE K i c || decide (c = b) := by
  funext c
  show (psE K i c || (nxe K (psE K i) (cm K) == some c)) = _
  rw [h]
  by_cases d : c = b
  · subst d; simp
  · have : ¬ b = c := fun g => d g.symm
    simp [d, this]
def bgn (K : Ca) (c a : Nat) : Bool := decide (a < cm K) && decide (¬ ce K c < nI (cb K a))
def bps (K : Ca) (i c a : Nat) : Bool := bgn K c a && psE K (i + 1) a
def Yb (K : Ca) (kd : Nat → Nat) (nt late k i c : Nat) : Sy := sysK K kd nt (bgn K c) (bps K i c) (bps K i c) (bps K i c) (gapk k late)
theorem okI_b (K : Ca) (i c : Nat) : okI K (bgn K c) (bps K i c) (bps K i c) := by
  refine ⟨fun a ha => ?_, fun a ha => ?_⟩
  · have h := Bool.and_eq_true _ _ |>.mp ha
    obtain ⟨h1, h2⟩ := psE_enb h.2
    have h3 := (okI_k K).1 a h2
    exact ⟨h1, h3.2.1, h.1⟩
  · have h := Bool.and_eq_true _ _ |>.mp ha
    obtain ⟨h1, h2⟩ := psE_enb h.2
    exact ⟨h1, h.1⟩
def bdl (K : Ca) (kd : Nat → Nat) (nt late k : Nat) : Nat → Nat → Int32 × Int32
  | 0, _ => (-2, nI 0)
  | f + 1, i => match nxe K (psE K i) (cm K) with
    | none => (-2, nI 0)
    | some c => if full (Yb K kd nt late k i c) = true then (-1, nI 3) else if PW (Yb K kd nt late k i c) (whole (Yb K kd nt late k i c)) (ini (Yb K kd nt late k i c)) = 0 then (nI c, nI 0) else bdl K kd nt late k f (i + 1)
theorem bdl_none {K : Ca} {kd : Nat → Nat} {nt late k f i : Nat} (h : nxe K (psE K i) (cm K) = none) : bdl K kd nt late k f i = (-2, nI 0) := by
  cases f with
  | zero => rfl
  | succ f => unfold bdl; rw [h]
theorem bdl_some {K : Ca} {kd : Nat → Nat} {nt late k f i c : Nat} (h : nxe K (psE K i) (cm K) = some c) : bdl K kd nt late k (f + 1) i = (if full (Yb K kd nt late k i c) = true then (-1, nI 3) else if PW (Yb K kd nt late k i c) (whole (Yb K kd nt late k i c)) (ini (Yb K kd nt late k i c)) = 0 then (nI c, nI 0) else bdl K kd nt late k f (i + 1)) := by
  conv => lhs; unfold bdl
  rw [h]
def rs_bad (K : Ca) (kd : Nat → Nat) (nt late : Nat) (told : Bool) (v : Int32) : Int32 × Int32 := match kin told v 2 with
  | none => (-1, nI 1)
  | some k => bdl K kd nt late k (cm K) 0
theorem X0_feb4 {K : Ca} (hm : cm K ≤ 20) {f5 : Nat → Int32} (h5 : ∀ c, c < cm K → f5 c = ce K c) {V : Nat} (hV : V < 2 ^ 20) {p : Nat → Bool} (hp : ∀ c, c < cm K → V.testBit c = p c) :
    ∀ (j kf i : Nat), j < kf → i + j = cm K → F_X0_firstEndedBut_b4 (nI (cm K)) f5 (nI V) kf (cn (nxe K p i)) (nI i) = some (cn (nxe K p (cm K)))
  | 0, kf, i, hj, hi => by
    obtain ⟨g, rfl⟩ : ∃ g, kf = g + 1 := ⟨kf - 1, by omega⟩
    rw [F_X0_firstEndedBut_b4, if_pos (by rw [zd_le (by omega) (by omega)]; omega), show i = cm K by omega]
  | j + 1, kf, i, hj, hi => by
    obtain ⟨g, rfl⟩ : ∃ g, kf = g + 1 := ⟨kf - 1, by omega⟩
    have ih := X0_feb4 hm h5 hV hp j g (i + 1) (by omega) (by omega)
    have i1 : nI i + (1 : Int32) = nI (i + 1) := by rw [zl_1, zq_add]
    have hb : (((nI V >>> (nI i &&& 31)) &&& 1) = (0 : Int32)) = (V.testBit i = false) := tbit0 (by omega) (by omega)
    have hen : enb K i = true ↔ ¬ ce K i = -2 := by
      unfold enb
      simp
      omega
    rw [F_X0_firstEndedBut_b4, if_neg (by rw [zd_le (by omega) (by omega)]; omega), X0_isOpen (by omega), z_b1, h5 i (by omega)]
    unfold F_X0_firstEndedBut_b45 F_X0_firstEndedBut_b47
    rw [i1]
    generalize (some (cn (nxe K p (cm K))) : Option Int32) = R at ih ⊢
    unfold nxe at ih
    by_cases c : ce K i = -2
    · have hc : ¬ (enb K i = true ∧ p i = false) := fun h => (hen.mp h.1) c
      rw [if_neg hc] at ih
      rw [if_pos c, if_neg n1_0]
      exact ih
    · rw [if_neg c, if_pos n0_0]
      by_cases d : p i = false
      · have hc : enb K i = true ∧ p i = false := ⟨hen.mpr c, d⟩
        rw [if_pos hc] at ih
        rw [if_pos (by rw [hb, hp i (by omega)]; exact d)]
        rcases e : nxe K p i with _ | b
        · rw [e] at ih
          rw [if_pos (show cn none < 0 by decide)]
          exact ih
        · rw [e] at ih
          have hbi := (nxe_some e).1
          have hcn : cn (some b) = nI b := rfl
          rw [hcn, if_neg (nI_pos (by omega)), X0_endOf (by omega), z_b1, X0_endOf (by omega), z_b1, h5 i (by omega), h5 b (by omega)]
          by_cases q : ce K b ≤ ce K i
          · rw [if_pos q]
            simp only [q, ↓reduceIte] at ih
            exact ih
          · rw [if_neg q]
            simp only [q, ↓reduceIte] at ih
            exact ih
      · have hc : ¬ (enb K i = true ∧ p i = false) := fun h => d h.2
        rw [if_neg hc] at ih
        rw [if_neg (by rw [hb, hp i (by omega)]; exact d)]
        exact ih
theorem X0_firstEndedBut {fu : Nat} (hfu : 20000 ≤ fu) {K : Ca} (hm : cm K ≤ 20) {f5 : Nat → Int32} (h5 : ∀ c, c < cm K → f5 c = ce K c) {V : Nat} (hV : V < 2 ^ 20) {p : Nat → Bool} (hp : ∀ c, c < cm K → V.testBit c = p c) :
    F_X0_firstEndedBut fu (nI (cm K)) f5 (nI V) = some (cn (nxe K p (cm K))) := X0_feb4 hm h5 hV hp (cm K) fu 0 (by omega) (by omega)
theorem lc_pos {p : Nat} (h : p ≤ MW) : ((0 : Int32) < lg_cmp (lN p) 0 ↔ 0 < p) ∧ (0 : Int32) ≤ lg_cmp (lN p) 0 := by
  rw [MW_eq] at h
  rcases Nat.eq_zero_or_pos p with rfl | g
  · have : lg_cmp (lN 0) 0 = 0 := zc_eq (a := 0)
    rw [this]
    exact ⟨⟨fun h => absurd h (by decide), fun h => absurd h (by omega)⟩, by decide⟩
  · have : lg_cmp (lN p) 0 = 1 := zc_gt (b := 0) (by omega) (by omega) g
    rw [this]
    exact ⟨⟨fun _ => g, fun _ => by decide⟩, by decide⟩
theorem X1_fb5 {fu : Nat} (hfu : 20000 ≤ fu) {K : Ca} {kd : Nat → Nat} {nt late : Nat} {n l : Int32} {f0 f1 f2 f3 f4 f5 f6 kinds : Nat → Int32} (h : CS K kd nt late n f0 f1 f2 f3 f4 f5 f6 kinds l) {k : Nat} (hk : k ≤ 2) (a1 : Nat) :
    ∀ (f kf i sc b : Nat) (r1 r2 r3 r4 cnt : Int32) (own ahd tab done tills leads : Nat → Int32) (ways : Nat → Int64), f < kf → i + f = cm K → TB b tab →
    ∃ r r1' r2' r3' r4' own' ahd' sc' b' cnt' tab' done' tills' leads' ways', F_X1_findBad_b5 fu a1 n f5 f4 l f0 kinds f1 f2 f3 f6 (nI k) kf sc r1 r2 r3 r4 own ahd (nI b) cnt tab done tills leads ways (nI (msk (psE K i) (cm K))) (nI i) =
      some (r, r1', r2', r3', r4', own', ahd', sc', nI b', cnt', tab', done', tills', leads', ways') ∧ TB b' tab' ∧ F_X9_answered r = some ((bdl K kd nt late k f i).1, (bdl K kd nt late k f i).2)
  | 0, kf, i, sc, b, r1, r2, r3, r4, cnt, own, ahd, tab, done, tills, leads, ways, hf, hi, hT => by
    obtain ⟨g, rfl⟩ : ∃ g, kf = g + 1 := ⟨kf - 1, by omega⟩
    have hm := h.2.1.1
    rw [F_X1_findBad_b5, if_pos (by rw [h.1.1, zd_le (by omega) (by omega)]; omega)]
    exact ⟨_, _, _, _, _, _, _, _, _, _, _, _, _, _, _, rfl, hT, X9_answered (by decide) (by decide)⟩
  | f + 1, kf, i, sc, b, r1, r2, r3, r4, cnt, own, ahd, tab, done, tills, leads, ways, hf, hi, hT => by
    obtain ⟨g, rfl⟩ : ∃ g, kf = g + 1 := ⟨kf - 1, by omega⟩
    have hm := h.2.1.1
    obtain ⟨g1, g2, g3⟩ := gap_k (kind := k) (by omega) h.2.2.2.2.2.2
    have i1 : nI i + (1 : Int32) = nI (i + 1) := by rw [zl_1, zq_add]
    have hfe := X0_firstEndedBut (V := msk (psE K i) (cm K)) (p := psE K i) hfu hm (fun c hc => (h.1.2 c hc).2.2.2.2.2.1) (msk_lt20 _ hm) (fun c hc => by rw [msk_bit]; simp [hc])
    rw [← h.1.1] at hfe
    rw [F_X1_findBad_b5, if_neg (by rw [h.1.1, zd_le (by omega) (by omega)]; omega), hfe, z_b1]
    rcases e : nxe K (psE K i) (cm K) with _ | c
    · rw [if_neg (show ¬ (0 : Int32) ≤ cn none by decide), bdl_none e]
      exact ⟨_, _, _, _, _, _, _, _, _, _, _, _, _, _, _, rfl, hT, X9_answered (by decide) (by decide)⟩
    · have hc := (nxe_some e).1
      have hcn : cn (some c) = nI c := rfl
      have hbg : F_X0_onesBegunBy fu n f4 (ce K c) = some (nI (msk (bgn K c) (cm K))) := by
        rw [h.1.1, X0_onesBegunBy hfu hm]
        congr 2
        apply msk_cong
        intro a ha
        unfold bgn
        rw [(h.1.2 a ha).2.2.2.2.1]
        simp [ha]
      have hps : nI (msk (psE K i) (cm K)) ||| ((1 : Int32) <<< (nI c &&& 31)) = nI (msk (psE K (i + 1)) (cm K)) := by
        have : (1 : Int32) <<< (nI c &&& 31) = nI (2 ^ c) := zs_one (by omega)
        rw [this, zq_or]
        congr 1
        apply msk_eq
        intro a
        rw [Nat.testBit_or, msk_bit, Nat.testBit_two_pow, psE_succ e]
        by_cases q : a = c
        · subst q; simp [hc]
        · have : ¬ c = a := fun h => q h.symm
          simp [q, this]
      have htk : F_X4_takeSome (nI (msk (bgn K c) (cm K))) (nI (msk (psE K (i + 1)) (cm K))) = some (nI (msk (bgn K c) (cm K)), nI (msk (bps K i c) (cm K)), nI (msk (bps K i c) (cm K)), nI (msk (bps K i c) (cm K))) := by
        unfold F_X4_takeSome
        rw [zq_and, msk_and]
        rfl
      rw [hcn, if_pos (by rw [zl_0, zd_le (by omega) (by omega)]; omega), X0_endOf (by omega), z_b1, (h.1.2 c hc).2.2.2.2.2.1, hbg, z_b1, hps, htk, z_b4, h.2.2.2.2.2.1, g1, z_b1]
      obtain ⟨own', ahd', b', cnt', tab', done', tills', leads', ways', e1, hT'⟩ := X1_countWays (str := bps K i c) (gap := nI (gapk k late)) (own := own) (ahd := ahd) (done := done) (tills := tills) (leads := leads) (ways := ways) hfu h g3 (okI_b K i c) hT
      rw [g2] at e1
      have hY : sysK K kd nt (bgn K c) (bps K i c) (bps K i c) (bps K i c) (gapk k late : Nat) = Yb K kd nt late k i c := rfl
      rw [hY] at e1
      rw [e1, z_b10, bdl_some e]
      by_cases cf : full (Yb K kd nt late k i c) = true
      · rw [if_pos cf, if_pos cf, if_neg (by decide), if_neg (by decide)]
        exact ⟨_, _, _, _, _, _, _, _, _, _, _, _, _, _, _, rfl, hT', X9_answered10⟩
      · obtain ⟨l1, l2⟩ := lc_pos (PW_le (y := Yb K kd nt late k i c) (e := whole (Yb K kd nt late k i c)) (x := ini (Yb K kd nt late k i c)))
        rw [if_neg cf, if_neg cf]
        by_cases cp : PW (Yb K kd nt late k i c) (whole (Yb K kd nt late k i c)) (ini (Yb K kd nt late k i c)) = 0
        · rw [if_pos cp, if_neg (by rw [l1]; omega), if_pos l2]
          exact ⟨_, _, _, _, _, _, _, _, _, _, _, _, _, _, _, rfl, hT', X9_answeredN (by omega)⟩
        · rw [if_neg cp, if_pos (by rw [l1]; omega), i1]
          have ih := X1_fb5 hfu h hk a1 f g (i + 1) a1 b' (nI (msk (bgn K c) (cm K))) (nI (msk (bps K i c) (cm K))) (nI (msk (bps K i c) (cm K))) (nI (msk (bps K i c) (cm K))) cnt' own' ahd' tab' done' tills' leads' ways' (by omega) (by omega) hT'
          rw [h.2.2.2.2.2.1] at ih
          exact ih
theorem X9_bad {fu : Nat} (hfu : 20000 ≤ fu) {K : Ca} {kd : Nat → Nat} {nt late : Nat} {n l : Int32} {f0 f1 f2 f3 f4 f5 f6 kinds : Nat → Int32} (h : CS K kd nt late n f0 f1 f2 f3 f4 f5 f6 kinds l) (told : Bool) (a1 sc : Nat) (v : Int32)
    {b : Nat} {r1 r2 r3 r4 cnt : Int32} {own ahd tab done tills leads : Nat → Int32} {ways : Nat → Int64} (hT : TB b tab) :
    ∃ r1' r2' r3' r4' own' ahd' sc' b' cnt' tab' done' tills' leads' ways', F_X9_bad fu a1 sc (nI (if told = true then 1 else 0)) l n f5 f4 r1 r2 r3 r4 own f0 ahd (nI b) cnt tab done tills kinds f1 f2 f3 f6 leads ways v =
      some ((rs_bad K kd nt late told v).1, (rs_bad K kd nt late told v).2, r1', r2', r3', r4', own', ahd', sc', nI b', cnt', tab', done', tills', leads', ways') ∧ TB b' tab' := by
  unfold F_X9_bad
  rw [zl_2, X9_hasKind, z_b1]
  rcases e : kin told v 2 with _ | k
  · have hrs : rs_bad K kd nt late told v = (-1, nI 1) := by unfold rs_bad; rw [e]
    rw [ifn, if_pos n0_0, hrs]
    exact ⟨r1, r2, r3, r4, own, ahd, sc, b, cnt, tab, done, tills, leads, ways, rfl, hT⟩
  · obtain ⟨_, rfl, hk⟩ := kin_some (by omega) e
    have hrs : rs_bad K kd nt late told (nI k) = bdl K kd nt late k (cm K) 0 := by unfold rs_bad; rw [e]
    have hm := h.2.1.1
    obtain ⟨r, r1', r2', r3', r4', own', ahd', sc', b', cnt', tab', done', tills', leads', ways', e1, hT', e2⟩ := X1_fb5 hfu h hk a1 (cm K) fu 0 sc b r1 r2 r3 r4 cnt own ahd tab done tills leads ways (by omega) (by omega) hT
    have hz : msk (psE K 0) (cm K) = 0 := by
      apply Nat.eq_of_testBit_eq
      intro c
      rw [msk_bit, Nat.zero_testBit]
      show (decide (c < cm K) && false) = false
      rw [Bool.and_false]
    rw [hz] at e1
    unfold F_X1_findBad
    have e1' : F_X1_findBad_b5 fu a1 n f5 f4 l f0 kinds f1 f2 f3 f6 (nI k) fu sc r1 r2 r3 r4 own ahd (nI b) cnt tab done tills leads ways 0 0 = _ := e1
    rw [ifs, if_neg n1_0, e1', z_b15, e2, z_b2, hrs]
    exact ⟨_, _, _, _, _, _, _, _, _, _, _, _, _, _, rfl, hT'⟩
