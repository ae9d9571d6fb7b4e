/-! the reference's code of a till -/
theorem zcn_lt0 {a b : Nat} (ha : a < 9223372036854775808) (hb : b < 9223372036854775808) : (lg_cmp (lN a) (lN b) < nI 0) = (a < b) := zc_lt0 ha hb
theorem zcn_eq0 {a b : Nat} (ha : a < 9223372036854775808) (hb : b < 9223372036854775808) : (lg_cmp (lN a) (lN b) = nI 0) = (a = b) := zc_eq0 ha hb
theorem zcn_ge0 {a b : Nat} (ha : a < 9223372036854775808) (hb : b < 9223372036854775808) : (nI 0 ≤ lg_cmp (lN a) (lN b)) = (b ≤ a) := zc_ge0 ha hb
theorem zcn_le0 {a b : Nat} (ha : a < 9223372036854775808) (hb : b < 9223372036854775808) : (lg_cmp (lN a) (lN b) ≤ nI 0) = (a ≤ b) := zc_le0 ha hb
def encR (l : List Nat) : Nat := l.foldl (fun s d => 10 * s + d) 0
theorem encR_fold : ∀ (l : List Nat) (s : Nat), l.foldl (fun s d => 10 * s + d) s = s * 10 ^ l.length + encR l
  | [], s => by simp [encR]
  | d :: l, s => by
    unfold encR
    rw [List.foldl_cons, List.foldl_cons, encR_fold l, encR_fold l, List.length_cons, Nat.pow_succ]
    simp only [Nat.mul_zero, Nat.zero_add]
    rw [Nat.add_mul, Nat.mul_comm 10 s, Nat.mul_assoc, Nat.mul_comm 10, Nat.add_assoc]
theorem encR_app (l : List Nat) (w : Nat) : encR (l ++ [w]) = 10 * encR l + w := by unfold encR; rw [List.foldl_append]; rfl
theorem encR_cons (d : Nat) (l : List Nat) : encR (d :: l) = d * 10 ^ l.length + encR l := by
  show (d :: l).foldl (fun s d => 10 * s + d) 0 = _
  rw [List.foldl_cons, encR_fold]
  simp
theorem encR_lt : ∀ l : List Nat, (∀ d ∈ l, d ≤ 9) → encR l < 10 ^ l.length
  | [], _ => by simp [encR]
  | a :: l, h => by
    have h1 := encR_lt l (fun d hd => h d (List.mem_cons_of_mem _ hd))
    have h2 := h a (List.mem_cons_self)
    rw [encR_cons, List.length_cons, Nat.pow_succ]
    have h3 : a * 10 ^ l.length ≤ 9 * 10 ^ l.length := Nat.mul_le_mul_right _ h2
    omega
theorem encC_inj : ∀ (l l' : List Nat), l.length = l'.length → (∀ d ∈ l, d ≤ 9) → (∀ d ∈ l', d ≤ 9) → encC l = encC l' → l = l'
  | [], [], _, _, _, _ => rfl
  | a :: l, b :: l', hl, h1, h2, e => by
    have e1 : encC (a :: l) = a + 16 * encC l := rfl
    have e2 : encC (b :: l') = b + 16 * encC l' := rfl
    have ha := h1 a List.mem_cons_self
    have hb := h2 b List.mem_cons_self
    rw [e1, e2] at e
    rw [encC_inj l l' (by simpa using hl) (fun d hd => h1 d (List.mem_cons_of_mem _ hd)) (fun d hd => h2 d (List.mem_cons_of_mem _ hd)) (by omega)]
    congr 1
    omega
theorem encR_inj : ∀ (l l' : List Nat), l.length = l'.length → (∀ d ∈ l, d ≤ 9) → (∀ d ∈ l', d ≤ 9) → encR l = encR l' → l = l'
  | [], [], _, _, _, _ => rfl
  | a :: l, b :: l', hl, h1, h2, e => by
    have hl' : l.length = l'.length := by simpa using hl
    rw [encR_cons, encR_cons, hl'] at e
    have g1 := encR_lt l (fun d hd => h1 d (List.mem_cons_of_mem _ hd))
    have g2 := encR_lt l' (fun d hd => h2 d (List.mem_cons_of_mem _ hd))
    rw [hl'] at g1
    have e3 : encR l = encR l' := by
      have := congrArg (· % 10 ^ l'.length) e
      simpa [Nat.mul_add_mod, Nat.mod_eq_of_lt g1, Nat.mod_eq_of_lt g2, Nat.mul_comm] using this
    have e4 : a = b := by
      rw [e3] at e
      have h5 : a * 10 ^ l'.length = b * 10 ^ l'.length := by omega
      exact Nat.eq_of_mul_eq_mul_right (Nat.pow_pos (by omega)) h5
    rw [e4, encR_inj l l' hl' (fun d hd => h1 d (List.mem_cons_of_mem _ hd)) (fun d hd => h2 d (List.mem_cons_of_mem _ hd)) e3]
/-- a till of the class and one of the reference are the same -/
def tr (kd T : Nat) (y : Int64) : Prop :=
  if kd = 1 then ∃ l : List Nat, l.length ≤ 6 ∧ (∀ d ∈ l, d ≤ 9) ∧ T = l.length + 8 * encC l ∧ y = lN (l.length * 1000000 + encR l)
  else okT kd T ∧ y = lN T
theorem tr_ok {kd T : Nat} {y : Int64} (h : tr kd T y) : okT kd T := by
  unfold tr at h
  split at h
  · obtain ⟨l, h1, h2, h3, _⟩ := h
    unfold okT
    rw [if_pos ‹_›]
    exact ⟨l, h1, h2, h3⟩
  · exact h.1
theorem encR_lt6 {l : List Nat} (h : l.length ≤ 6) (h2 : ∀ d ∈ l, d ≤ 9) : encR l < 1000000 := by
  have h3 := encR_lt l h2
  have h4 : 10 ^ l.length ≤ 10 ^ 6 := Nat.pow_le_pow_right (by omega) h
  omega
theorem tr_inj {kd T T' : Nat} {y y' : Int64} (h : tr kd T y) (h' : tr kd T' y') : (T = T') = (y = y') := by
  unfold tr at h h'
  split at h
  · rw [if_pos ‹_›] at h'
    obtain ⟨l, h1, h2, rfl, rfl⟩ := h
    obtain ⟨l', h1', h2', rfl, rfl⟩ := h'
    have g1 := encR_lt6 h1 h2
    have g2 := encR_lt6 h1' h2'
    rw [zL_eq (by omega) (by omega)]
    apply propext
    constructor
    · intro e
      have e1 : l.length = l'.length := by omega
      rw [encC_inj l l' e1 h2 h2' (by omega)]
    · intro e
      have e1 : l.length = l'.length := by omega
      rw [encR_inj l l' e1 h2 h2' (by omega)]
  · rw [if_neg ‹_›] at h'
    have g1 := okT_lt h.1
    have g2 := okT_lt h'.1
    rw [h.2, h'.2, zL_eq (by omega) (by omega)]
theorem X10_atFirst {kd : Nat} (hk : kd < 5) : F_X10_atFirst (nI kd) = some (lN (if kd = 4 then 9 else 0)) := by
  unfold F_X10_atFirst
  simp (disch := omega) only [zL_0, zL_9, zl_0, zl_1, zl_2, zl_3, zl_4, zl_5, zl_6, zl_7, zl_8, zl_9, zl_10, zl_12, zl_14, zl_15, zl_16, zl_17, zl_18, zl_20, zl_24, zl_31, zl_32, zl_44, zl_48, zl_57, zl_59, zl_63, zl_64, zl_70, zl_74, zl_75, zl_97, zl_99, zl_100, zl_122, zl_140, zl_141, zl_142, zl_255, zl_900, zl_999, zl_1000, zl_1998, zl_6000, zl_6001, zl_16383, zl_16384, zl_65536, zl_65537, zq_add, zq_mul, zq_sub, zd_lt, zd_le, zd_eq, zd_cl, zm_lt, zm_le, zm_gt, zm_ge, zm_eq, zm_qe, zm_mm, zt_lt, zf_lt, zt_le, zf_le, zt_eq, zf_eq, z_upd, z_updL, z_b1, z_b2, z_b3, z_b4, z_b5, z_b6, z_b7, z_b8, z_b9, z_b10, z_b11, z_b12, z_b13, z_b14, z_b15, z_b16, z_b17, z_b18, z_b19, z_b20, ↓reduceIte, or_false, false_or, or_self, true_or, or_true, and_true, true_and, and_false, false_and, not_true_eq_false, not_false_eq_true, ite_self, reduceCtorEq, Nat.reduceAdd, Nat.reduceMul, Nat.reduceSub, Nat.reducePow, Nat.reduceDiv, Nat.reduceMod, Nat.reduceLT, Nat.reduceLeDiff, Nat.reduceEqDiff, Nat.add_zero, Nat.zero_add, Nat.mul_one, Nat.one_mul, Nat.mul_zero, Nat.zero_mul, Nat.sub_zero, Nat.not_lt_zero, Nat.zero_le]
  split <;> rfl
theorem tr_init {kd : Nat} (hk : kd < 5) : tr kd (if kd = 4 then 9 else 0) (lN (if kd = 4 then 9 else 0)) := by
  unfold tr
  by_cases k1 : kd = 1
  · rw [if_pos k1]
    subst k1
    exact ⟨[], by simp, by simp, by simp [encC], by simp [encR]⟩
  · rw [if_neg k1]
    exact ⟨okT_init hk, rfl⟩
theorem X10_q85 (n D : Nat) (hn : n ≤ 6) (hD : D < 1000000) : ∀ (j kf k : Nat), j < kf → k + j = n → 1 ≤ k → F_X10_queued_b85 (nI n) (lN D) kf (lN (10 ^ (k - 1))) (nI k) = some (lN ((n - 1) * 1000000 + D % 10 ^ (n - 1)), nI (1 + D / 10 ^ (n - 1)))
  | 0, kf, k, hj, hk, h1 => by
    obtain ⟨kf, rfl⟩ : ∃ q, kf = q + 1 := ⟨kf - 1, by omega⟩
    have hk' : k = n := by omega
    subst hk'
    have hp : 10 ^ (k - 1) < 10000000 := Nat.lt_of_le_of_lt (Nat.pow_le_pow_right (by omega) (by omega : k - 1 ≤ 6)) (by omega)
    have hp0 : 0 < 10 ^ (k - 1) := Nat.pow_pos (by omega)
    have hz : ¬ lN (10 ^ (k - 1)) = lN 0 := by rw [zL_eq (by omega) (by omega)]; omega
    rw [F_X10_queued_b85, zL_0, if_pos (by rw [zd_le (by omega) (by omega)]; omega), if_neg hz, if_neg hz, zL_rem (by omega) (by omega) hp0, zL_div (by omega) (by omega) hp0, zL_i, zl_1, zq_sub h1, zI_64 (by omega), zL_1000000, zL_mul, zL_add, zq_add]
  | j + 1, kf, k, hj, hk, h1 => by
    obtain ⟨kf, rfl⟩ : ∃ q, kf = q + 1 := ⟨kf - 1, by omega⟩
    rw [F_X10_queued_b85, if_neg (by rw [zd_le (by omega) (by omega)]; omega), zL_10, zL_mul, zl_1, zq_add]
    have e : 10 ^ (k - 1) * 10 = 10 ^ (k + 1 - 1) := by rw [← Nat.pow_succ]; congr 1; omega
    rw [e]
    exact X10_q85 n D hn hD j kf (k + 1) (by omega) (by omega) (by omega)
theorem X10_queued (fu : Nat) (hfu : 100 ≤ fu) {T a w : Nat} {y : Int64} (ht : tr 1 T y) (ha : okA 1 a) (hw : w ≤ 9) :
    ∃ y', F_X10_queued fu y (nI a) (nI w) = some (y', nI (sy 1 T a w)) ∧ tr 1 (af 1 T a w) y' := by
  unfold tr at ht
  rw [if_pos rfl] at ht
  obtain ⟨l, h1, h2, rfl, rfl⟩ := ht
  have g := encR_lt6 h1 h2
  have e1 : lN (l.length * 1000000 + encR l) / lN 1000000 = lN l.length := by
    rw [zL_div (by omega) (by omega) (by omega)]; congr 1; omega
  have e2 : lN (l.length * 1000000 + encR l) - lN (l.length * 1000000 + encR l) / lN 1000000 * lN 1000000 = lN (encR l) := by
    rw [zL_rem (by omega) (by omega) (by omega)]; congr 1; omega
  unfold F_X10_queued
  rw [zL_1000000, e2, e1, zL_i]
  by_cases a0 : a = 0
  · subst a0
    rw [if_pos (by rw [zl_0])]
    unfold F_X10_queued_b32
    by_cases h6 : l.length = 6
    · refine ⟨lN (l.length * 1000000 + encR l), ?_, ?_⟩
      · have : sy 1 (l.length + 8 * encC l) 0 w = 0 := by
          unfold sy; rw [if_neg (by omega), if_pos rfl, if_pos rfl, if_neg (by omega)]
        rw [this]
        simp (disch := omega) only [zl_0, zl_1, zl_2, zl_3, zl_4, zl_5, zl_6, zl_7, zl_8, zl_9, zl_10, zl_12, zl_14, zl_15, zl_16, zl_17, zl_18, zl_20, zl_24, zl_31, zl_32, zl_44, zl_48, zl_57, zl_59, zl_63, zl_64, zl_70, zl_74, zl_75, zl_97, zl_99, zl_100, zl_122, zl_140, zl_141, zl_142, zl_255, zl_900, zl_999, zl_1000, zl_1998, zl_6000, zl_6001, zl_16383, zl_16384, zl_65536, zl_65537, zq_add, zq_mul, zq_sub, zd_lt, zd_le, zd_eq, zd_cl, zm_lt, zm_le, zm_gt, zm_ge, zm_eq, zm_qe, zm_mm, zt_lt, zf_lt, zt_le, zf_le, zt_eq, zf_eq, z_upd, z_updL, z_b1, z_b2, z_b3, z_b4, z_b5, z_b6, z_b7, z_b8, z_b9, z_b10, z_b11, z_b12, z_b13, z_b14, z_b15, z_b16, z_b17, z_b18, z_b19, z_b20, ↓reduceIte, or_false, false_or, or_self, true_or, or_true, and_true, true_and, and_false, false_and, not_true_eq_false, not_false_eq_true, ite_self, reduceCtorEq, Nat.reduceAdd, Nat.reduceMul, Nat.reduceSub, Nat.reducePow, Nat.reduceDiv, Nat.reduceMod, Nat.reduceLT, Nat.reduceLeDiff, Nat.reduceEqDiff, Nat.add_zero, Nat.zero_add, Nat.mul_one, Nat.one_mul, Nat.mul_zero, Nat.zero_mul, Nat.sub_zero, Nat.not_lt_zero, Nat.zero_le]
      · rw [af_q_full h6]
        unfold tr
        rw [if_pos rfl]
        exact ⟨l, h1, h2, rfl, rfl⟩
    · refine ⟨lN ((l.length + 1) * 1000000 + 10 * encR l + w), ?_, ?_⟩
      · have : sy 1 (l.length + 8 * encC l) 0 w = 1 := by
          unfold sy; rw [if_neg (by omega), if_pos rfl, if_pos rfl, if_pos (by omega)]
        rw [this]
        simp (disch := omega) only [zl_0, zl_1, zl_2, zl_3, zl_4, zl_5, zl_6, zl_7, zl_8, zl_9, zl_10, zl_12, zl_14, zl_15, zl_16, zl_17, zl_18, zl_20, zl_24, zl_31, zl_32, zl_44, zl_48, zl_57, zl_59, zl_63, zl_64, zl_70, zl_74, zl_75, zl_97, zl_99, zl_100, zl_122, zl_140, zl_141, zl_142, zl_255, zl_900, zl_999, zl_1000, zl_1998, zl_6000, zl_6001, zl_16383, zl_16384, zl_65536, zl_65537, zq_add, zq_mul, zq_sub, zd_lt, zd_le, zd_eq, zd_cl, zm_lt, zm_le, zm_gt, zm_ge, zm_eq, zm_qe, zm_mm, zt_lt, zf_lt, zt_le, zf_le, zt_eq, zf_eq, z_upd, z_updL, z_b1, z_b2, z_b3, z_b4, z_b5, z_b6, z_b7, z_b8, z_b9, z_b10, z_b11, z_b12, z_b13, z_b14, z_b15, z_b16, z_b17, z_b18, z_b19, z_b20, ↓reduceIte, or_false, false_or, or_self, true_or, or_true, and_true, true_and, and_false, false_and, not_true_eq_false, not_false_eq_true, ite_self, reduceCtorEq, Nat.reduceAdd, Nat.reduceMul, Nat.reduceSub, Nat.reducePow, Nat.reduceDiv, Nat.reduceMod, Nat.reduceLT, Nat.reduceLeDiff, Nat.reduceEqDiff, Nat.add_zero, Nat.zero_add, Nat.mul_one, Nat.one_mul, Nat.mul_zero, Nat.zero_mul, Nat.sub_zero, Nat.not_lt_zero, Nat.zero_le, zL_0, zL_1, zL_9, zL_10, zL_18, zL_31, zL_32, zL_63, zL_99, zL_16383, zL_1000000, zL_1000003, zL_1000000000000000000, zL_add, zL_mul, zL_sub, zL_lt, zL_le, zL_eq, zL_i, zI_64, zcn_lt0, zcn_eq0, zcn_ge0, zcn_le0]
      · rw [af_q_put (by omega)]
        unfold tr
        rw [if_pos rfl]
        refine ⟨l ++ [w], by simp; omega, ?_, rfl, ?_⟩
        · intro d hd
          rcases List.mem_append.mp hd with h | h
          · exact h2 d h
          · rw [List.mem_singleton.mp h]; exact hw
        · rw [encR_app, List.length_append, Nat.add_assoc]
          rfl
  · have a1 : a = 1 := by have := ha.1; have := ha.2.2 rfl; omega
    subst a1
    rw [if_neg (by rw [zl_0, zd_eq (by omega) (by omega)]; omega)]
    cases l with
    | nil =>
      rw [if_pos (by rfl)]
      refine ⟨_, rfl, ?_⟩
      rw [af_q_none]
      unfold tr
      rw [if_pos rfl]
      exact ⟨[], by simp, by simp, rfl, rfl⟩
    | cons d l =>
      have hl : l.length < 6 := by simp at h1; omega
      have hd := h2 d List.mem_cons_self
      have h2' : ∀ x ∈ l, x ≤ 9 := fun x hx => h2 x (List.mem_cons_of_mem _ hx)
      rw [List.length_cons, if_neg (by rw [zl_0, zd_eq (by omega) (by omega)]; omega)]
      have q := X10_q85 (l.length + 1) (encR (d :: l)) (by omega) g l.length fu 1 (by omega) (by omega) (by omega)
      rw [Nat.sub_self, Nat.pow_zero] at q
      rw [zL_1, zl_1, q]
      have hp0 : 0 < 10 ^ l.length := Nat.pow_pos (by omega)
      have hlt := encR_lt l h2'
      have hs : sy 1 (l.length + 1 + 8 * encC (d :: l)) 1 w = 1 + d := by
        have e : encC (d :: l) = d + 16 * encC l := rfl
        unfold sy
        rw [if_neg (by omega), if_pos rfl, if_neg (by omega), if_pos (by omega), e]
        omega
      have hm : encR (d :: l) % 10 ^ (l.length + 1 - 1) = encR l := by
        rw [encR_cons, Nat.add_sub_cancel, Nat.mul_add_mod_self_right, Nat.mod_eq_of_lt hlt]
      have hv : encR (d :: l) / 10 ^ (l.length + 1 - 1) = d := by
        rw [encR_cons, Nat.add_sub_cancel, Nat.mul_comm, Nat.mul_add_div hp0, Nat.div_eq_of_lt hlt, Nat.add_zero]
      rw [hm, hv, hs]
      refine ⟨_, rfl, ?_⟩
      have hq := af_q_take hl hd w
      rw [List.length_cons] at hq
      rw [hq, Nat.add_sub_cancel]
      unfold tr
      rw [if_pos rfl]
      exact ⟨l, by omega, h2', rfl, rfl⟩
