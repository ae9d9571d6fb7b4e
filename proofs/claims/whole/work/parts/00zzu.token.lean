section
/-! tokens of a text: class and reference -/
def tx (f : Nat → Int32) (T : Nat → Nat) : Prop := ∀ p, f p = nI (T p) ∧ T p < 256
def wv (g : Nat → Nat) : Nat → Nat
  | 0 => 0
  | n + 1 => wv g n * 32 + g n
def dv (g : Nat → Nat) : Nat → Nat
  | 0 => 0
  | n + 1 => dv g n * 10 + g n
theorem in9 {i N : Nat} (h : i < N) (hN : N < 2147483648) : ¬ (nI i < 0 ∨ N ≤ i) := by
  have h2 := nI_in h hN
  rw [zd_cl (by omega)] at h2
  exact h2
theorem run_ex (P : Nat → Prop) (n : Nat) : ∀ (j p : Nat), p + j = n → ∃ e, p ≤ e ∧ e ≤ n ∧ (∀ k, p ≤ k → k < e → P k) ∧ (e < n → ¬ P e)
  | 0, p, h => ⟨p, Nat.le_refl _, by omega, fun k h1 h2 => by omega, fun h1 => by omega⟩
  | j + 1, p, h => by
    by_cases d : P p
    · obtain ⟨e, h1, h2, h3, h4⟩ := run_ex P n j (p + 1) (by omega)
      refine ⟨e, by omega, h2, fun k k1 k2 => ?_, h4⟩
      by_cases q : k = p
      · subst q; exact d
      · exact h3 k (by omega) k2
    · exact ⟨p, Nat.le_refl _, by omega, fun k h1 h2 => by omega, fun _ => d⟩
theorem X10_look_lt {n i : Nat} (hn : n ≤ 900) {f : Nat → Int32} (h : i < n) : F_X10_look (nI n) f (nI i) = some (f i) := by
  unfold F_X10_look
  rw [if_neg (by rw [zd_le (by omega) (by omega)]; omega), if_neg (nI_in (by omega) (by omega)), zd_cl (by omega)]
theorem X10_look_ge {n i : Nat} (hi : i < 100000) {f : Nat → Int32} (h : n ≤ i) : F_X10_look (nI n) f (nI i) = some (-1) := by
  unfold F_X10_look
  rw [if_pos (by rw [zd_le (by omega) (by omega)]; exact h)]
theorem X10_small {b : Nat} (hb : b < 256) : F_X10_isSmall (nI b) = some (nI (if 97 ≤ b ∧ b ≤ 122 then 1 else 0)) := by
  unfold F_X10_isSmall
  by_cases d : b < 97
  · rw [if_pos (by rw [zl_97, zd_lt (by omega) (by omega)]; exact d), if_neg (by omega)]; rfl
  · rw [if_neg (by rw [zl_97, zd_lt (by omega) (by omega)]; exact d)]
    by_cases q : 122 < b
    · rw [if_pos (by rw [zl_122, zd_lt (by omega) (by omega)]; exact q), if_neg (by omega)]; rfl
    · rw [if_neg (by rw [zl_122, zd_lt (by omega) (by omega)]; exact q), if_pos (by omega)]; rfl
theorem X10_digit {b : Nat} (hb : b < 256) : F_X10_isDigit (nI b) = some (nI (if 48 ≤ b ∧ b ≤ 57 then 1 else 0)) := by
  unfold F_X10_isDigit
  by_cases d : b < 48
  · rw [if_pos (by rw [zl_48, zd_lt (by omega) (by omega)]; exact d), if_neg (by omega)]; rfl
  · rw [if_neg (by rw [zl_48, zd_lt (by omega) (by omega)]; exact d)]
    by_cases q : 57 < b
    · rw [if_pos (by rw [zl_57, zd_lt (by omega) (by omega)]; exact q), if_neg (by omega)]; rfl
    · rw [if_neg (by rw [zl_57, zd_lt (by omega) (by omega)]; exact q), if_pos (by omega)]; rfl
theorem X10_small_no : F_X10_isSmall (-1) = some (nI 0) := by
  unfold F_X10_isSmall; rw [if_pos (by decide)]; rfl
theorem X10_digit_no : F_X10_isDigit (-1) = some (nI 0) := by
  unfold F_X10_isDigit; rw [if_pos (by decide)]; rfl
/-! blanks -/
theorem X7_skip {fu n : Nat} (hn : n ≤ 900) {f : Nat → Int32} {T : Nat → Nat} (ht : tx f T) {wh : Int32} {wo : Int64} {p : Nat} (hp : p ≤ n) (hs : p < n → ¬ T p = 32) : ∀ (j kf i : Nat), j < kf → i + j = p → (∀ k, i ≤ k → k < p → T k = 32) →
    F_X7_next_b5 fu (nI n) wh wo f kf (nI i) = F_X7_next_b30 fu (nI n) wh wo f (nI p)
  | 0, kf, i, hj, hi, h => by
    obtain ⟨g, rfl⟩ : ∃ g, kf = g + 1 := ⟨kf - 1, by omega⟩
    have : i = p := by omega
    subst this
    rw [F_X7_next_b5]
    by_cases d : n ≤ i
    · rw [if_pos (by rw [zd_le (by omega) (by omega)]; exact d)]
    · have e32 : ¬ f i = (32 : Int32) := by
        rw [(ht i).1, zl_32, zd_eq (by have := (ht i).2; omega) (by omega)]
        exact hs (by omega)
      rw [if_neg (by rw [zd_le (by omega) (by omega)]; exact d), if_neg (nI_in (by omega) (by omega)), zd_cl (by omega), if_neg e32]
  | j + 1, kf, i, hj, hi, h => by
    obtain ⟨g, rfl⟩ : ∃ g, kf = g + 1 := ⟨kf - 1, by omega⟩
    have j1 : nI i + (1 : Int32) = nI (i + 1) := by rw [zl_1, zq_add]
    have e32 : f i = (32 : Int32) := by rw [(ht i).1, h i (Nat.le_refl _) (by omega)]; rfl
    rw [F_X7_next_b5, if_neg (by rw [zd_le (by omega) (by omega)]; omega), if_neg (nI_in (by omega) (by omega)), zd_cl (by omega), if_pos e32, j1]
    exact X7_skip hn ht hp hs j g (i + 1) (by omega) (by omega) (fun k h1 h2 => h k (by omega) h2)
theorem X10_skip {fu n : Nat} (hn : n ≤ 900) {f le : Nat → Int32} {T : Nat → Nat} (ht : tx f T) {p : Nat} (hp : p ≤ n) : ∀ (j kf i : Nat), j < kf → i + j = p → (∀ k, i ≤ k → k < p → T k = 32) →
    ∃ g, F_X10_next_b5 fu (nI n) f le kf (nI i) = F_X10_next_b5 fu (nI n) f le (g + 1) (nI p)
  | 0, kf, i, hj, hi, h => by
    obtain ⟨g, rfl⟩ : ∃ g, kf = g + 1 := ⟨kf - 1, by omega⟩
    have : i = p := by omega
    subst this
    exact ⟨g, rfl⟩
  | j + 1, kf, i, hj, hi, h => by
    obtain ⟨g, rfl⟩ : ∃ g, kf = g + 1 := ⟨kf - 1, by omega⟩
    have j1 : nI i + (1 : Int32) = nI (i + 1) := by rw [zl_1, zq_add]
    have e32 : f i = (32 : Int32) := by rw [(ht i).1, h i (Nat.le_refl _) (by omega)]; rfl
    obtain ⟨g2, hg⟩ := X10_skip (fu := fu) (le := le) hn ht hp j g (i + 1) (by omega) (by omega) (fun k h1 h2 => h k (by omega) h2)
    refine ⟨g2, ?_⟩
    rw [← hg, F_X10_next_b5, X10_look_lt hn (by omega), z_b1, if_pos e32, j1]
/-! words -/
def let_ (b : Nat) : Prop := 97 ≤ b ∧ b ≤ 122
def dig_ (b : Nat) : Prop := 48 ≤ b ∧ b ≤ 57
theorem X7_word {n : Nat} (hn : n ≤ 900) {f : Nat → Int32} {T : Nat → Nat} (ht : tx f T) {p e : Nat} (he : e ≤ n) (hl : ∀ k, p ≤ k → k < e → let_ (T k)) (hx : e < n → ¬ let_ (T e)) : ∀ (j kf i : Nat), j < kf → i + j = e → p ≤ i →
    F_X7_readWord_b10 (nI n) (nI p) f kf (lN (wv (fun k => T (p + k) - 96) (i - p))) (nI i) = some (nI e, nI (if e - p ≤ 8 then 1 else 5), lN (wv (fun k => T (p + k) - 96) (e - p)))
  | 0, kf, i, hj, hi, hp => by
    obtain ⟨g, rfl⟩ : ∃ g, kf = g + 1 := ⟨kf - 1, by omega⟩
    have : i = e := by omega
    subst this
    have hend : F_X7_readWord_b71 (nI p) (lN (wv (fun k => T (p + k) - 96) (i - p))) (nI i) = some (nI i, nI (if i - p ≤ 8 then 1 else 5), lN (wv (fun k => T (p + k) - 96) (i - p))) := by
      unfold F_X7_readWord_b71 F_X7_readWord_b93
      rw [zq_sub hp, zl_8]
      by_cases d : i - p ≤ 8
      · rw [if_neg (by rw [zd_lt (by omega) (by omega)]; omega), if_pos d]; rfl
      · rw [if_pos (by rw [zd_lt (by omega) (by omega)]; omega), if_neg d]; rfl
    rw [F_X7_readWord_b10, hend]
    by_cases d : n ≤ i
    · rw [if_pos (by rw [zd_le (by omega) (by omega)]; exact d)]
    · have hb := (ht i).2
      have hno := hx (by omega)
      unfold let_ at hno
      rw [if_neg (by rw [zd_le (by omega) (by omega)]; exact d), if_neg (nI_in (by omega) (by omega)), zd_cl (by omega), (ht i).1, zl_97, zl_122]
      by_cases d1 : T i < 97
      · rw [if_pos (by rw [zd_lt (by omega) (by omega)]; exact d1)]
      · rw [if_neg (by rw [zd_lt (by omega) (by omega)]; exact d1), if_neg (in9 (by omega) (by omega)), if_pos (by rw [zd_lt (by omega) (by omega)]; omega)]
  | j + 1, kf, i, hj, hi, hp => by
    obtain ⟨g, rfl⟩ : ∃ g, kf = g + 1 := ⟨kf - 1, by omega⟩
    have j1 : nI i + (1 : Int32) = nI (i + 1) := by rw [zl_1, zq_add]
    have hb := (ht i).2
    have hl' := hl i hp (by omega)
    unfold let_ at hl'
    have e1 : nI (T i) - nI 97 + nI 1 = nI (T i - 96) := by rw [zq_sub hl'.1, zq_add]; congr 1; omega
    have e2 : lN (wv (fun k => T (p + k) - 96) (i - p)) * lN 32 + lN (T i - 96) = lN (wv (fun k => T (p + k) - 96) (i + 1 - p)) := by
      rw [zL_mul, zL_add]
      congr 1
      rw [show i + 1 - p = (i - p) + 1 by omega, wv, show p + (i - p) = i by omega]
    rw [F_X7_readWord_b10, if_neg (by rw [zd_le (by omega) (by omega)]; omega), if_neg (nI_in (by omega) (by omega)), zd_cl (by omega), (ht i).1, zl_97, zl_122, if_neg (by rw [zd_lt (by omega) (by omega)]; omega), if_neg (in9 (by omega) (by omega)), if_neg (by rw [zd_lt (by omega) (by omega)]; omega), if_neg (in9 (by omega) (by omega)), zl_1, e1, zI_64 (by omega), zL_32, e2, zq_add]
    exact X7_word hn ht he hl hx j g (i + 1) (by omega) (by omega) (by omega)
theorem X10_word {n : Nat} (hn : n ≤ 900) {f : Nat → Int32} {T : Nat → Nat} (ht : tx f T) {p e : Nat} {w0 : Int32} (he : e ≤ n) (hl : ∀ k, p ≤ k → k < e → let_ (T k)) (hx : e < n → ¬ let_ (T e)) : ∀ (j kf i : Nat) (le : Nat → Int32), j < kf → i + j = e → p ≤ i → (∀ k, k < 8 → k < i - p → le k = f (p + k)) →
    ∃ le', F_X10_next_b67 (nI n) (nI p) w0 f kf (nI (i - p)) le (nI i) = some (nI p, nI e, nI (if e - p ≤ 8 then 2 else 1), w0, nI (e - p), le') ∧ ∀ k, k < 8 → k < e - p → le' k = f (p + k)
  | 0, kf, i, le, hj, hi, hp, hle => by
    obtain ⟨g, rfl⟩ : ∃ g, kf = g + 1 := ⟨kf - 1, by omega⟩
    have : i = e := by omega
    subst this
    refine ⟨le, ?_, hle⟩
    have hend : ∃ c, F_X10_look (nI n) f (nI i) = some c ∧ F_X10_isSmall c = some (nI 0) := by
      by_cases d : n ≤ i
      · exact ⟨-1, X10_look_ge (by omega) d, X10_small_no⟩
      · refine ⟨f i, X10_look_lt hn (by omega), ?_⟩
        have hno := hx (by omega)
        unfold let_ at hno
        rw [(ht i).1, X10_small (ht i).2, if_neg hno]
    obtain ⟨c, c1, c2⟩ := hend
    rw [F_X10_next_b67, c1, z_b1, c2, z_b1, if_pos n0_0]
    unfold F_X10_next_b137
    by_cases d : i - p ≤ 8
    · rw [if_pos (by rw [zl_8, zd_le (by omega) (by omega)]; omega), if_pos d]; rfl
    · rw [if_neg (by rw [zl_8, zd_le (by omega) (by omega)]; omega), if_neg d]; rfl
  | j + 1, kf, i, le, hj, hi, hp, hle => by
    obtain ⟨g, rfl⟩ : ∃ g, kf = g + 1 := ⟨kf - 1, by omega⟩
    have j1 : nI i + (1 : Int32) = nI (i + 1) := by rw [zl_1, zq_add]
    have j2 : nI (i - p) + (1 : Int32) = nI (i + 1 - p) := by rw [zl_1, zq_add]; congr 1; omega
    have hl' := hl i hp (by omega)
    unfold let_ at hl'
    have c1 := X10_look_lt (f := f) hn (show i < n by omega)
    have c2 : F_X10_isSmall (f i) = some (nI 1) := by rw [(ht i).1, X10_small (ht i).2, if_pos hl']
    rw [F_X10_next_b67, c1, z_b1, c2, z_b1, if_neg n1_0, zl_8, z_b1]
    unfold F_X10_next_b101
    rw [j1, j2]
    by_cases d : 8 ≤ i - p
    · rw [if_pos (by rw [zd_le (by omega) (by omega)]; omega)]
      exact X10_word hn ht he hl hx j g (i + 1) le (by omega) (by omega) (by omega) (fun k h1 h2 => hle k h1 (by omega))
    · rw [if_neg (by rw [zd_le (by omega) (by omega)]; omega), if_neg (nI_in (by omega) (by omega)), zd_cl (by omega)]
      refine X10_word hn ht he hl hx j g (i + 1) _ (by omega) (by omega) (by omega) (fun k h1 h2 => ?_)
      rw [z_upd]
      by_cases q : k = i - p
      · rw [if_pos q, q, show p + (i - p) = i by omega]
      · rw [if_neg q]; exact hle k h1 (by omega)
/-! wholes -/
theorem X7_whole {n : Nat} (hn : n ≤ 900) {f : Nat → Int32} {T : Nat → Nat} (ht : tx f T) {p e : Nat} (he : e ≤ n) (hl : ∀ k, p ≤ k → k < e → dig_ (T k)) (hx : e < n → ¬ dig_ (T e)) : ∀ (j kf i : Nat), j < kf → i + j = e → p ≤ i →
    F_X7_readWhole_b10 (nI n) (nI p) f kf (nI (dv (fun k => T (p + k) - 48) (i - p))) (nI i) = some (nI e, nI (if e - p ≤ 3 then 2 else 5), nI (dv (fun k => T (p + k) - 48) (e - p)))
  | 0, kf, i, hj, hi, hp => by
    obtain ⟨g, rfl⟩ : ∃ g, kf = g + 1 := ⟨kf - 1, by omega⟩
    have : i = e := by omega
    subst this
    have hend : F_X7_readWhole_b67 (nI p) (nI (dv (fun k => T (p + k) - 48) (i - p))) (nI i) = some (nI i, nI (if i - p ≤ 3 then 2 else 5), nI (dv (fun k => T (p + k) - 48) (i - p))) := by
      unfold F_X7_readWhole_b67 F_X7_readWhole_b88
      rw [zq_sub hp, zl_3]
      by_cases d : i - p ≤ 3
      · rw [if_neg (by rw [zd_lt (by omega) (by omega)]; omega), if_pos d]; rfl
      · rw [if_pos (by rw [zd_lt (by omega) (by omega)]; omega), if_neg d]; rfl
    rw [F_X7_readWhole_b10, hend]
    by_cases d : n ≤ i
    · rw [if_pos (by rw [zd_le (by omega) (by omega)]; exact d)]
    · have hb := (ht i).2
      have hno := hx (by omega)
      unfold dig_ at hno
      rw [if_neg (by rw [zd_le (by omega) (by omega)]; exact d), if_neg (nI_in (by omega) (by omega)), zd_cl (by omega), (ht i).1, zl_48, zl_57]
      by_cases d1 : T i < 48
      · rw [if_pos (by rw [zd_lt (by omega) (by omega)]; exact d1)]
      · rw [if_neg (by rw [zd_lt (by omega) (by omega)]; exact d1), if_neg (in9 (by omega) (by omega)), if_pos (by rw [zd_lt (by omega) (by omega)]; omega)]
  | j + 1, kf, i, hj, hi, hp => by
    obtain ⟨g, rfl⟩ : ∃ g, kf = g + 1 := ⟨kf - 1, by omega⟩
    have hb := (ht i).2
    have hl' := hl i hp (by omega)
    unfold dig_ at hl'
    have e2 : nI (dv (fun k => T (p + k) - 48) (i - p)) * nI 10 + (nI (T i) - nI 48) = nI (dv (fun k => T (p + k) - 48) (i + 1 - p)) := by
      rw [zq_mul, zq_sub hl'.1, zq_add]
      congr 1
      rw [show i + 1 - p = (i - p) + 1 by omega, dv, show p + (i - p) = i by omega]
    rw [F_X7_readWhole_b10, if_neg (by rw [zd_le (by omega) (by omega)]; omega), if_neg (nI_in (by omega) (by omega)), zd_cl (by omega), (ht i).1, zl_48, zl_57, if_neg (by rw [zd_lt (by omega) (by omega)]; omega), if_neg (in9 (by omega) (by omega)), if_neg (by rw [zd_lt (by omega) (by omega)]; omega), if_neg (in9 (by omega) (by omega)), zl_10, zl_1, e2, zq_add]
    exact X7_whole hn ht he hl hx j g (i + 1) (by omega) (by omega) (by omega)
theorem X10_whole {n : Nat} (hn : n ≤ 900) {f le : Nat → Int32} {T : Nat → Nat} (ht : tx f T) {p e : Nat} {ns : Int32} (he : e ≤ n) (hl : ∀ k, p ≤ k → k < e → dig_ (T k)) (hx : e < n → ¬ dig_ (T e)) : ∀ (j kf i : Nat) (w : Int32), j < kf → i + j = e → p ≤ i → (i - p ≤ 3 → w = nI (dv (fun k => T (p + k) - 48) (i - p))) →
    ∃ w', F_X10_next_b152 (nI n) (nI p) ns f le kf w (nI i) (nI (i - p)) = some (nI p, nI e, nI (if e - p ≤ 3 then 3 else 1), w', ns, le) ∧ (e - p ≤ 3 → w' = nI (dv (fun k => T (p + k) - 48) (e - p)))
  | 0, kf, i, w, hj, hi, hp, hw => by
    obtain ⟨g, rfl⟩ : ∃ g, kf = g + 1 := ⟨kf - 1, by omega⟩
    have : i = e := by omega
    subst this
    refine ⟨w, ?_, hw⟩
    have hend : ∃ c, F_X10_look (nI n) f (nI i) = some c ∧ F_X10_isDigit c = some (nI 0) := by
      by_cases d : n ≤ i
      · exact ⟨-1, X10_look_ge (by omega) d, X10_digit_no⟩
      · refine ⟨f i, X10_look_lt hn (by omega), ?_⟩
        have hno := hx (by omega)
        unfold dig_ at hno
        rw [(ht i).1, X10_digit (ht i).2, if_neg hno]
    obtain ⟨c, c1, c2⟩ := hend
    rw [F_X10_next_b152, c1, z_b1, c2, z_b1, if_pos n0_0]
    unfold F_X10_next_b213
    by_cases d : i - p ≤ 3
    · rw [if_pos (by rw [zl_3, zd_le (by omega) (by omega)]; omega), if_pos d]; rfl
    · rw [if_neg (by rw [zl_3, zd_le (by omega) (by omega)]; omega), if_neg d]; rfl
  | j + 1, kf, i, w, hj, hi, hp, hw => by
    obtain ⟨g, rfl⟩ : ∃ g, kf = g + 1 := ⟨kf - 1, by omega⟩
    have j1 : nI i + (1 : Int32) = nI (i + 1) := by rw [zl_1, zq_add]
    have j2 : nI (i - p) + (1 : Int32) = nI (i + 1 - p) := by rw [zl_1, zq_add]; congr 1; omega
    have hl' := hl i hp (by omega)
    unfold dig_ at hl'
    have c1 := X10_look_lt (f := f) hn (show i < n by omega)
    have c2 : F_X10_isDigit (f i) = some (nI 1) := by rw [(ht i).1, X10_digit (ht i).2, if_pos hl']
    rw [F_X10_next_b152, c1, z_b1, c2, z_b1, if_neg n1_0, zl_3, z_b1]
    unfold F_X10_next_b188
    rw [j1, j2]
    by_cases d : 3 ≤ i - p
    · rw [if_pos (by rw [zd_le (by omega) (by omega)]; omega)]
      exact X10_whole hn ht he hl hx j g (i + 1) w (by omega) (by omega) (by omega) (fun h1 => by omega)
    · rw [if_neg (by rw [zd_le (by omega) (by omega)]; omega)]
      refine X10_whole hn ht he hl hx j g (i + 1) _ (by omega) (by omega) (by omega) (fun h1 => ?_)
      rw [hw (by omega), (ht i).1, zl_10, zl_48, zq_mul, zq_add, zq_sub (by omega)]
      congr 1
      rw [show i + 1 - p = (i - p) + 1 by omega, dv, show p + (i - p) = i by omega]
      omega
theorem dv_le {g : Nat → Nat} (hg : ∀ k, g k ≤ 9) : ∀ n, n ≤ 3 → dv g n ≤ 999
  | 0, _ => by rw [dv]; omega
  | 1, _ => by rw [dv, dv]; have := hg 0; omega
  | 2, _ => by rw [dv, dv, dv]; have := hg 0; have := hg 1; omega
  | 3, _ => by rw [dv, dv, dv, dv]; have := hg 0; have := hg 1; have := hg 2; omega
/-! a token: k its sort (0 end, 1 word, 2 whole, 3 ;, 4 comma, 5 none), from p to e -/
def rtk (k : Nat) : Nat := if k = 0 then 0 else if k = 1 then 2 else if k = 2 then 3 else if k = 3 then 59 else if k = 4 then 44 else 1
def TK (n : Nat) (f : Nat → Int32) (T : Nat → Nat) (k p e w : Nat) (bh so pl wh : Int32) (wo : Int64) (at' en tok wr ns : Int32) (le : Nat → Int32) : Prop :=
  k ≤ 5 ∧ p ≤ e ∧ e ≤ n ∧ (k ≠ 0 → p < e) ∧ (bh = nI e ∧ so = nI k ∧ pl = nI p) ∧ (at' = nI p ∧ en = nI e ∧ tok = nI (rtk k)) ∧
  (k = 1 → e - p ≤ 8 ∧ ns = nI (e - p) ∧ wo = lN (wv (fun j => T (p + j) - 96) (e - p)) ∧ ∀ j, j < e - p → le j = f (p + j) ∧ let_ (T (p + j))) ∧
  (k = 2 → w ≤ 999 ∧ wh = nI w ∧ wr = nI w)
theorem next_both {fu : Nat} (hfu : 20000 ≤ fu) {n : Nat} (hn : n ≤ 900) {f : Nat → Int32} {T : Nat → Nat} (ht : tx f T) {e0 : Nat} (he0 : e0 ≤ n) (wh : Int32) (wo : Int64) (le : Nat → Int32) :
    ∃ k p e w bh so pl wh' wo' at' en tok wr ns le', e0 ≤ p ∧ F_X7_next fu (nI n) (nI e0) wh wo f = some (bh, so, pl, wh', wo') ∧ F_X10_next fu (nI n) (nI e0) f le = some (at', en, tok, wr, ns, le') ∧ TK n f T k p e w bh so pl wh' wo' at' en tok wr ns le' := by
  obtain ⟨p, hp0, hpn, hb, hs⟩ := run_ex (fun k => T k = 32) n (n - e0) e0 (by omega)
  obtain ⟨g, hg⟩ := X10_skip (fu := fu) (le := le) hn ht hpn (p - e0) fu e0 (by omega) (by omega) hb
  have h7 := X7_skip (fu := fu) (wh := wh) (wo := wo) hn ht hpn hs (p - e0) fu e0 (by omega) (by omega) hb
  unfold F_X7_next F_X10_next
  rw [h7, hg, F_X10_next_b5]
  unfold F_X7_next_b30
  by_cases d : n ≤ p
  · have c1 := X10_look_ge (n := n) (f := f) (show p < 100000 by omega) d
    rw [if_pos (by rw [zd_le (by omega) (by omega)]; exact d)]
    unfold F_X7_next_b53
    rw [if_neg (by rw [zd_lt (by omega) (by omega)]; omega), c1, z_b1, if_neg (by decide), z_b1, if_pos rfl]
    exact ⟨0, p, p, 0, _, _, _, _, _, _, _, _, _, _, _, hp0, rfl, rfl, by omega, Nat.le_refl _, hpn, fun h => absurd rfl h, ⟨rfl, rfl, rfl⟩, ⟨rfl, rfl, rfl⟩, fun h => by omega, fun h => by omega⟩
  · have c1 := X10_look_lt (f := f) hn (show p < n by omega)
    have hT := (ht p).2
    have e32 : ¬ f p = (32 : Int32) := by rw [(ht p).1, zl_32, zd_eq (by omega) (by omega)]; exact hs (by omega)
    have em1 : ¬ f p = (-1 : Int32) := by rw [(ht p).1]; intro h; have := congrArg Int32.toInt h; rw [nI_toInt (by omega)] at this; have e1 : (-1 : Int32).toInt = -1 := by decide
                                          omega
    rw [if_neg (by rw [zd_le (by omega) (by omega)]; exact d), if_neg (nI_in (by omega) (by omega)), zd_cl (by omega), c1, z_b1, if_neg e32, z_b1, if_neg em1, (ht p).1, X10_small hT, z_b1]
    unfold F_X7_next_b53
    rw [if_pos (by rw [zd_lt (by omega) (by omega)]; omega)]
    by_cases dl : let_ (T p)
    · obtain ⟨e, q1, q2, q3, q4⟩ := run_ex (fun k => let_ (T k)) n (n - p) p (by omega)
      have hpe : p < e := by
        rcases Nat.lt_or_ge p e with h | h
        · exact h
        · have : e = p := by omega
          subst this
          exact absurd dl (q4 (by omega))
      have r7 := X7_word hn ht q2 q3 q4 (e - p) fu p (by omega) (by omega) (Nat.le_refl _)
      obtain ⟨le', r10, hle⟩ := X10_word hn ht (w0 := 0) q2 q3 q4 (e - p) fu p le (by omega) (by omega) (Nat.le_refl _) (fun k h1 h2 => by omega)
      rw [Nat.sub_self] at r7 r10
      have r7' : F_X7_readWord fu (nI n) (nI p) f = _ := r7
      have r10' : F_X10_next_b67 (nI n) (nI p) 0 f fu 0 le (nI p) = _ := r10
      have dl' := dl
      unfold let_ at dl'
      rw [if_pos dl', if_neg n1_0, r10', if_neg (by rw [zl_97, zd_lt (by omega) (by omega)]; omega), if_neg (by rw [zl_122, zd_lt (by omega) (by omega)]; omega), r7', z_b3]
      by_cases d8 : e - p ≤ 8
      · refine ⟨1, p, e, 0, _, _, _, _, _, _, _, _, _, _, le', hp0, rfl, rfl, by omega, by omega, q2, fun _ => hpe, ⟨rfl, by rw [if_pos d8], rfl⟩, ⟨rfl, rfl, by rw [if_pos d8]; rfl⟩, fun _ => ⟨d8, rfl, rfl, fun j hj => ⟨hle j (by omega) hj, q3 (p + j) (by omega) (by omega)⟩⟩, fun h => by omega⟩
      · exact ⟨5, p, e, 0, _, _, _, _, _, _, _, _, _, _, le', hp0, rfl, rfl, by omega, by omega, q2, fun _ => hpe, ⟨rfl, by rw [if_neg d8], rfl⟩, ⟨rfl, rfl, by rw [if_neg d8]; rfl⟩, fun h => by omega, fun h => by omega⟩
    · have dl' := dl
      unfold let_ at dl'
      rw [if_neg dl', if_pos n0_0, X10_digit hT, z_b1]
      have hb94 : (if nI (T p) < (97 : Int32) then F_X7_next_b94 fu (nI n) (nI p) wh wo f (nI p) (nI (T p)) else if (122 : Int32) < nI (T p) then F_X7_next_b94 fu (nI n) (nI p) wh wo f (nI p) (nI (T p)) else bnd3 (F_X7_readWord fu (nI n) (nI p) f) fun u88_0 u88_1 u88_2 => some (u88_0, u88_1, nI p, wh, u88_2)) = F_X7_next_b94 fu (nI n) (nI p) wh wo f (nI p) (nI (T p)) := by
        by_cases d1 : T p < 97
        · rw [if_pos (by rw [zl_97, zd_lt (by omega) (by omega)]; exact d1)]
        · rw [if_neg (by rw [zl_97, zd_lt (by omega) (by omega)]; exact d1), if_pos (by rw [zl_122, zd_lt (by omega) (by omega)]; omega)]
      rw [hb94]
      unfold F_X7_next_b94
      by_cases dd : dig_ (T p)
      · obtain ⟨e, q1, q2, q3, q4⟩ := run_ex (fun k => dig_ (T k)) n (n - p) p (by omega)
        have hpe : p < e := by
          rcases Nat.lt_or_ge p e with h | h
          · exact h
          · have : e = p := by omega
            subst this
            exact absurd dd (q4 (by omega))
        have r7 := X7_whole hn ht q2 q3 q4 (e - p) fu p (by omega) (by omega) (Nat.le_refl _)
        obtain ⟨w', r10, hw'⟩ := X10_whole (le := le) (ns := 0) hn ht q2 q3 q4 (e - p) fu p 0 (by omega) (by omega) (Nat.le_refl _) (fun _ => by rw [Nat.sub_self]; rfl)
        rw [Nat.sub_self] at r7 r10
        have r7' : F_X7_readWhole fu (nI n) (nI p) f = _ := r7
        have r10' : F_X10_next_b152 (nI n) (nI p) 0 f le fu 0 (nI p) 0 = _ := r10
        have dd' := dd
        unfold dig_ at dd'
        rw [if_pos dd', if_neg n1_0, r10', if_neg (by rw [zl_48, zd_lt (by omega) (by omega)]; omega), if_neg (by rw [zl_57, zd_lt (by omega) (by omega)]; omega), r7', z_b3]
        by_cases d3 : e - p ≤ 3
        · have hdv : dv (fun k => T (p + k) - 48) (e - p) ≤ 999 := by
            have hv : ∀ m, m ≤ e - p → dv (fun k => T (p + k) - 48) m = dv (fun k => if k < e - p then T (p + k) - 48 else 0) m := by
              intro m
              induction m with
              | zero => intro _; rfl
              | succ m ih => intro h; rw [dv, dv, ih (by omega)]; simp only [show m < e - p by omega, ↓reduceIte]
            rw [hv _ (Nat.le_refl _)]
            refine dv_le (fun k => ?_) _ d3
            show (if k < e - p then T (p + k) - 48 else 0) ≤ 9
            by_cases q : k < e - p
            · rw [if_pos q]
              have := q3 (p + k) (by omega) (by omega)
              unfold dig_ at this
              omega
            · rw [if_neg q]; omega
          refine ⟨2, p, e, dv (fun k => T (p + k) - 48) (e - p), _, _, _, _, _, _, _, _, w', _, _, hp0, rfl, rfl, by omega, by omega, q2, fun _ => hpe, ⟨rfl, by rw [if_pos d3], rfl⟩, ⟨rfl, rfl, by rw [if_pos d3]; rfl⟩, fun h => by omega, fun _ => ⟨hdv, rfl, hw' d3⟩⟩
        · exact ⟨5, p, e, 0, _, _, _, _, _, _, _, _, _, _, _, hp0, rfl, rfl, by omega, by omega, q2, fun _ => hpe, ⟨rfl, by rw [if_neg d3], rfl⟩, ⟨rfl, rfl, by rw [if_neg d3]; rfl⟩, fun h => by omega, fun h => by omega⟩
      · have dd' := dd
        unfold dig_ at dd'
        have hb113 : (if nI (T p) < (48 : Int32) then F_X7_next_b113 (nI p) wh wo (nI p) (nI (T p)) else if (57 : Int32) < nI (T p) then F_X7_next_b113 (nI p) wh wo (nI p) (nI (T p)) else bnd3 (F_X7_readWhole fu (nI n) (nI p) f) fun u107_0 u107_1 u107_2 => some (u107_0, u107_1, nI p, u107_2, wo)) = F_X7_next_b113 (nI p) wh wo (nI p) (nI (T p)) := by
          by_cases d1 : T p < 48
          · rw [if_pos (by rw [zl_48, zd_lt (by omega) (by omega)]; exact d1)]
          · rw [if_neg (by rw [zl_48, zd_lt (by omega) (by omega)]; exact d1), if_pos (by rw [zl_57, zd_lt (by omega) (by omega)]; omega)]
        have j1 : nI p + (1 : Int32) = nI (p + 1) := by rw [zl_1, zq_add]
        rw [if_neg dd', if_pos n0_0, hb113]
        unfold F_X7_next_b113 F_X7_next_b135 F_X10_next_b239 F_X10_next_b244
        have q59 : (nI (T p) = nI 59) ↔ T p = 59 := by rw [zd_eq (by omega) (by omega)]
        have q44 : (nI (T p) = nI 44) ↔ T p = 44 := by rw [zd_eq (by omega) (by omega)]
        rw [j1, zl_59, zl_44]
        by_cases c59 : T p = 59
        · rw [if_pos (q59.mpr c59), if_pos (q59.mpr c59)]
          exact ⟨3, p, p + 1, 0, _, _, _, _, _, _, _, _, _, _, _, hp0, rfl, rfl, by omega, by omega, by omega, fun _ => by omega, ⟨rfl, rfl, rfl⟩, ⟨rfl, rfl, by rw [c59]; rfl⟩, fun h => by omega, fun h => by omega⟩
        · rw [if_neg (fun h => c59 (q59.mp h)), if_neg (fun h => c59 (q59.mp h))]
          by_cases c44 : T p = 44
          · rw [if_pos (q44.mpr c44), if_pos (q44.mpr c44)]
            exact ⟨4, p, p + 1, 0, _, _, _, _, _, _, _, _, _, _, _, hp0, rfl, rfl, by omega, by omega, by omega, fun _ => by omega, ⟨rfl, rfl, rfl⟩, ⟨rfl, rfl, by rw [c44]; rfl⟩, fun h => by omega, fun h => by omega⟩
          · rw [if_neg (fun h => c44 (q44.mp h)), if_neg (fun h => c44 (q44.mp h))]
            exact ⟨5, p, p + 1, 0, _, _, _, _, _, _, _, _, _, _, _, hp0, rfl, rfl, by omega, by omega, by omega, fun _ => by omega, ⟨rfl, rfl, rfl⟩, ⟨rfl, rfl, rfl⟩, fun h => by omega, fun h => by omega⟩
end
