/-! sets of calls, as bits of a long -/
def gb (M : Int64) (b : Nat) : Bool := M.toBitVec.getLsbD b
theorem gb_or (x y : Int64) (b : Nat) : gb (x ||| y) b = (gb x b || gb y b) := by
  unfold gb
  rw [Int64.toBitVec_or, BitVec.getLsbD_or]
theorem gb_and (x y : Int64) (b : Nat) : gb (x &&& y) b = (gb x b && gb y b) := by
  unfold gb
  rw [Int64.toBitVec_and, BitVec.getLsbD_and]
theorem gb_m1 : ∀ b, b < 64 → gb (-1) b = true := by decide +kernel
theorem gb_0 (b : Nat) : gb 0 b = false := by
  unfold gb
  exact BitVec.getLsbD_zero
theorem gb_not (x : Int64) {b : Nat} (h : b < 64) : gb (x ^^^ (-1 : Int64)) b = !gb x b := by
  have h1 := gb_m1 b h
  unfold gb at h1 ⊢
  rw [Int64.toBitVec_xor, BitVec.getLsbD_xor, h1]
  cases x.toBitVec.getLsbD b <;> rfl
theorem gb_one : ∀ k, k < 64 → ∀ b, b < 64 → gb ((1 : Int64) <<< ((nI k).toInt64 &&& 63)) b = decide (b = k) := by decide +kernel
theorem gb_msk : ∀ k, k < 64 → ((nI k).toInt64 &&& 63).toBitVec.smod 64 = BitVec.ofNat 64 k := by decide +kernel
theorem gb_last (x : Int64) : (lg_cmp (x &&& (1 : Int64)) (0 : Int64) = 0) ↔ gb x 0 = false := by
  have h1 : ∀ z : Int64, lg_cmp z 0 = 0 ↔ z = 0 := by
    intro z
    unfold lg_cmp
    constructor
    · intro h
      split at h
      · cases h
      · split at h
        · assumption
        · cases h
    · intro h
      subst h
      rfl
  have h2 : ∀ j, (1 : Int64).toBitVec.getLsbD j = decide (j = 0) := by
    intro j
    have : (1 : Int64).toBitVec = 1#64 := rfl
    rw [this, BitVec.getLsbD_one]
    simp
  rw [h1, ← Int64.toBitVec_inj]
  constructor
  · intro h
    have h3 := congrArg (fun v => BitVec.getLsbD v 0) h
    simp only [Int64.toBitVec_and, BitVec.getLsbD_and, h2] at h3
    unfold gb
    simpa using h3
  · intro h
    apply BitVec.eq_of_getLsbD_eq
    intro j hj
    rw [Int64.toBitVec_and, BitVec.getLsbD_and, h2]
    by_cases d : j = 0
    · subst d
      unfold gb at h
      rw [h]; rfl
    · simp [d]
theorem gb_sh (M : Int64) {k : Nat} (hk : k < 64) : (lg_cmp ((M >>> ((nI k).toInt64 &&& 63)) &&& (1 : Int64)) (0 : Int64) = 0) ↔ gb M k = false := by
  rw [gb_last]
  have : gb (M >>> ((nI k).toInt64 &&& 63)) 0 = gb M k := by
    unfold gb
    rw [Int64.toBitVec_shiftRight, gb_msk k hk]
    show (M.toBitVec.sshiftRight (BitVec.ofNat 64 k).toNat).getLsbD 0 = _
    rw [BitVec.toNat_ofNat, Nat.mod_eq_of_lt (by omega), BitVec.getLsbD_sshiftRight, if_pos (by omega)]
    simp
  rw [this]
/-- the sets of calls under trial: how many, which; for each call, in which it lies -/
def SB (n : Nat) (S : Nat → Nat) (sets : Nat → Int32) (setsOf : Nat → Int64) : Prop := n ≤ 64 ∧ (∀ b, b < n → sets b = nI (S b) ∧ S b < 2 ^ 20) ∧ (∀ b, n ≤ b → S b = 0) ∧ ∀ c, c < 20 → ∀ b, b < 64 → gb (setsOf c) b = (S b).testBit c
theorem X1_as22 {n v : Nat} (hn : n < 64) (hv : v < 2 ^ 20) {sets : Nat → Int32} {setsOf0 : Nat → Int64} :
    ∀ (j kf i : Nat) (setsOf : Nat → Int64), j < kf → i + j = 20 → (∀ c, c < 20 → ∀ b, b < 64 → gb (setsOf c) b = (gb (setsOf0 c) b || (decide (b = n) && (decide (c < i) && v.testBit c)))) →
    ∃ setsOf', F_X1_addSet_b22 (nI n) sets (nI v) kf setsOf (nI i) = some (nI (n + 1), sets, setsOf') ∧ ∀ c, c < 20 → ∀ b, b < 64 → gb (setsOf' c) b = (gb (setsOf0 c) b || (decide (b = n) && v.testBit c))
  | 0, kf, i, setsOf, hj, hi, h => by
    obtain ⟨g, rfl⟩ : ∃ g, kf = g + 1 := ⟨kf - 1, by omega⟩
    rw [F_X1_addSet_b22, if_pos (by rw [zl_20, zd_le (by omega) (by omega)]; omega), zl_1, zq_add]
    refine ⟨setsOf, rfl, fun c hc b hb => ?_⟩
    rw [h c hc b hb]
    have : c < i := by omega
    simp [this]
  | j + 1, kf, i, setsOf, hj, hi, h => by
    obtain ⟨g, rfl⟩ : ∃ g, kf = g + 1 := ⟨kf - 1, by omega⟩
    have i1 : nI i + (1 : Int32) = nI (i + 1) := by rw [zl_1, zq_add]
    have hb1 : (((nI v >>> (nI i &&& 31)) &&& 1) = (1 : Int32)) = (v.testBit i = true) := tbit (by omega) (by omega)
    rw [F_X1_addSet_b22, if_neg (by rw [zl_20, zd_le (by omega) (by omega)]; omega)]
    unfold F_X1_addSet_b52
    rw [i1]
    by_cases d : v.testBit i = true
    · rw [if_pos (by rw [hb1]; exact d), if_neg (nI_in (by omega) (by omega)), if_neg (nI_in (by omega) (by omega)), zd_cl (by omega)]
      refine X1_as22 hn hv j g (i + 1) _ (by omega) (by omega) (fun c hc b hb => ?_)
      rw [z_updL]
      by_cases q : c = i
      · subst q
        have hlt : ¬ c < c := by omega
        have hlt2 : c < c + 1 := by omega
        rw [if_pos rfl, gb_or, gb_one n hn b hb, h c hc b hb, d]
        simp [hlt, hlt2]
      · rw [if_neg q, h c hc b hb]
        have : (c < i) = (c < i + 1) := by apply propext; omega
        simp only [this]
    · rw [if_neg (by rw [hb1]; exact d)]
      refine X1_as22 hn hv j g (i + 1) _ (by omega) (by omega) (fun c hc b hb => ?_)
      rw [h c hc b hb]
      by_cases q : c = i
      · subst q
        have d' : v.testBit c = false := by simpa using d
        rw [d']; simp
      · have : (c < i) = (c < i + 1) := by apply propext; omega
        simp only [this]
theorem X1_addSet {fu : Nat} (hfu : 20000 ≤ fu) {n v : Nat} (hn : n < 64) (hv : v < 2 ^ 20) {S : Nat → Nat} {sets : Nat → Int32} {setsOf : Nat → Int64} (h : SB n S sets setsOf) :
    ∃ sets' setsOf', F_X1_addSet fu (nI n) sets setsOf (nI v) = some (nI (n + 1), sets', setsOf') ∧ SB (n + 1) (fun b => if b = n then v else S b) sets' setsOf' := by
  obtain ⟨h1, h2, h3, h4⟩ := h
  obtain ⟨setsOf', e, h5⟩ := X1_as22 hn hv (sets := upd sets n (nI v)) (setsOf0 := setsOf) 20 fu 0 setsOf (by omega) (by omega) (fun c hc b hb => by
    have : ¬ c < 0 := by omega
    simp [this])
  unfold F_X1_addSet
  rw [if_pos (by rw [show (64 : Int32) = nI 64 from rfl, zd_lt (by omega) (by omega)]; exact hn), if_neg (nI_in (by omega) (by omega)), zd_cl (by omega)]
  refine ⟨_, setsOf', e, by omega, fun b hb => ?_, fun b hb => ?_, fun c hc b hb => ?_⟩
  · rw [z_upd]
    by_cases q : b = n
    · simp only [q, ↓reduceIte]; exact ⟨trivial, hv⟩
    · simp only [q, ↓reduceIte]; exact h2 b (by omega)
  · have q : ¬ b = n := by omega
    simp only [q, ↓reduceIte]; exact h3 b (by omega)
  · rw [h5 c hc b hb, h4 c hc b hb]
    by_cases q : b = n
    · simp only [q, ↓reduceIte, decide_true, Bool.true_and]
      rw [h3 n (Nat.le_refl n)]
      simp
    · simp only [q, ↓reduceIte, decide_false, Bool.false_and, Bool.or_false]
theorem X1_dropSets {fu : Nat} (hfu : 20000 ≤ fu) {setsOf : Nat → Int64} : ∃ setsOf', F_X1_dropSets fu setsOf = some (nI 0, setsOf') ∧ ∀ sets, SB 0 (fun _ => 0) sets setsOf' := by
  unfold F_X1_dropSets
  rw [J7_fillL (by omega) (by omega), z_b1]
  refine ⟨_, rfl, fun sets => ⟨by omega, fun b hb => by omega, fun _ _ => rfl, fun c hc b hb => ?_⟩⟩
  show gb (if c < 20 then (0 : Int64) else setsOf c) b = _
  rw [if_pos hc, gb_0, Nat.zero_testBit]
