/-! Layer 2: numbers in one form: nI n, lN n; what a written number is; comparisons decided by omega -/
theorem zl_0 : (0 : Int32) = nI 0 := rfl
theorem zl_1 : (1 : Int32) = nI 1 := rfl
theorem zl_2 : (2 : Int32) = nI 2 := rfl
theorem zl_3 : (3 : Int32) = nI 3 := rfl
theorem zl_4 : (4 : Int32) = nI 4 := rfl
theorem zl_5 : (5 : Int32) = nI 5 := rfl
theorem zl_6 : (6 : Int32) = nI 6 := rfl
theorem zl_7 : (7 : Int32) = nI 7 := rfl
theorem zl_8 : (8 : Int32) = nI 8 := rfl
theorem zl_9 : (9 : Int32) = nI 9 := rfl
theorem zl_10 : (10 : Int32) = nI 10 := rfl
theorem zl_12 : (12 : Int32) = nI 12 := rfl
theorem zl_14 : (14 : Int32) = nI 14 := rfl
theorem zl_15 : (15 : Int32) = nI 15 := rfl
theorem zl_16 : (16 : Int32) = nI 16 := rfl
theorem zl_17 : (17 : Int32) = nI 17 := rfl
theorem zl_18 : (18 : Int32) = nI 18 := rfl
theorem zl_20 : (20 : Int32) = nI 20 := rfl
theorem zl_24 : (24 : Int32) = nI 24 := rfl
theorem zl_31 : (31 : Int32) = nI 31 := rfl
theorem zl_32 : (32 : Int32) = nI 32 := rfl
theorem zl_44 : (44 : Int32) = nI 44 := rfl
theorem zl_48 : (48 : Int32) = nI 48 := rfl
theorem zl_57 : (57 : Int32) = nI 57 := rfl
theorem zl_59 : (59 : Int32) = nI 59 := rfl
theorem zl_63 : (63 : Int32) = nI 63 := rfl
theorem zl_64 : (64 : Int32) = nI 64 := rfl
theorem zl_70 : (70 : Int32) = nI 70 := rfl
theorem zl_74 : (74 : Int32) = nI 74 := rfl
theorem zl_75 : (75 : Int32) = nI 75 := rfl
theorem zl_97 : (97 : Int32) = nI 97 := rfl
theorem zl_99 : (99 : Int32) = nI 99 := rfl
theorem zl_100 : (100 : Int32) = nI 100 := rfl
theorem zl_122 : (122 : Int32) = nI 122 := rfl
theorem zl_140 : (140 : Int32) = nI 140 := rfl
theorem zl_141 : (141 : Int32) = nI 141 := rfl
theorem zl_142 : (142 : Int32) = nI 142 := rfl
theorem zl_255 : (255 : Int32) = nI 255 := rfl
theorem zl_900 : (900 : Int32) = nI 900 := rfl
theorem zl_999 : (999 : Int32) = nI 999 := rfl
theorem zl_1000 : (1000 : Int32) = nI 1000 := rfl
theorem zl_1998 : (1998 : Int32) = nI 1998 := rfl
theorem zl_6000 : (6000 : Int32) = nI 6000 := rfl
theorem zl_6001 : (6001 : Int32) = nI 6001 := rfl
theorem zl_16383 : (16383 : Int32) = nI 16383 := rfl
theorem zl_16384 : (16384 : Int32) = nI 16384 := rfl
theorem zl_65536 : (65536 : Int32) = nI 65536 := rfl
theorem zl_65537 : (65537 : Int32) = nI 65537 := rfl
theorem zL_0 : (0 : Int64) = lN 0 := rfl
theorem zL_1 : (1 : Int64) = lN 1 := rfl
theorem zL_9 : (9 : Int64) = lN 9 := rfl
theorem zL_10 : (10 : Int64) = lN 10 := rfl
theorem zL_18 : (18 : Int64) = lN 18 := rfl
theorem zL_31 : (31 : Int64) = lN 31 := rfl
theorem zL_32 : (32 : Int64) = lN 32 := rfl
theorem zL_63 : (63 : Int64) = lN 63 := rfl
theorem zL_99 : (99 : Int64) = lN 99 := rfl
theorem zL_16383 : (16383 : Int64) = lN 16383 := rfl
theorem zL_1000000 : (1000000 : Int64) = lN 1000000 := rfl
theorem zL_1000003 : (1000003 : Int64) = lN 1000003 := rfl
theorem zL_1000000000000000000 : (1000000000000000000 : Int64) = lN 1000000000000000000 := rfl
theorem zq_mul (a b : Nat) : nI a * nI b = nI (a * b) := by
  apply Int32.toBitVec_inj.1
  show BitVec.ofNat 32 a * BitVec.ofNat 32 b = BitVec.ofNat 32 (a * b)
  rw [BitVec.ofNat_mul]
theorem zq_add (a b : Nat) : nI a + nI b = nI (a + b) := nI_add a b
theorem zq_sub {a b : Nat} (h : b ≤ a) : nI a - nI b = nI (a - b) := by
  have e : nI a = nI (a - b) + nI b := by rw [nI_add]; congr 1; omega
  rw [e, Int32.add_sub_cancel]
theorem zd_lt {a b : Nat} (ha : a < 2147483648) (hb : b < 2147483648) : (nI a < nI b) = (a < b) := propext (nI_ltI ha hb)
theorem zd_le {a b : Nat} (ha : a < 2147483648) (hb : b < 2147483648) : (nI a ≤ nI b) = (a ≤ b) := propext (nI_leI ha hb)
theorem zd_eq {a b : Nat} (ha : a < 2147483648) (hb : b < 2147483648) : (nI a = nI b) = (a = b) := propext (nI_eq ha hb)
theorem zd_cl {a : Nat} (ha : a < 2147483648) : (nI a).toNatClampNeg = a := nI_clamp ha
theorem zd_ti {a : Nat} (ha : a < 2147483648) : (nI a).toInt = (a : Int) := nI_toInt ha
theorem zd_neg {a : Nat} (ha : a < 2147483648) : (-nI a).toInt = -(a : Int) := by
  rw [fb_negI (by rw [nI_toInt ha]; omega), nI_toInt ha]
theorem zm_lt {a b : Nat} (h0 : 0 < a) (ha : a < 2147483648) (hb : b < 2147483648) : (-nI a < nI b) = True := by
  rw [Int32.lt_iff_toInt_lt, zd_neg ha, nI_toInt hb]; exact eq_true (by omega)
theorem zm_le {a b : Nat} (h0 : 0 < a) (ha : a < 2147483648) (hb : b < 2147483648) : (-nI a ≤ nI b) = True := by
  rw [Int32.le_iff_toInt_le, zd_neg ha, nI_toInt hb]; exact eq_true (by omega)
theorem zm_gt {a b : Nat} (h0 : 0 < a) (ha : a < 2147483648) (hb : b < 2147483648) : (nI b < -nI a) = False := by
  rw [Int32.lt_iff_toInt_lt, zd_neg ha, nI_toInt hb]; exact eq_false (by omega)
theorem zm_ge {a b : Nat} (h0 : 0 < a) (ha : a < 2147483648) (hb : b < 2147483648) : (nI b ≤ -nI a) = False := by
  rw [Int32.le_iff_toInt_le, zd_neg ha, nI_toInt hb]; exact eq_false (by omega)
theorem zm_eq {a b : Nat} (h0 : 0 < a) (ha : a < 2147483648) (hb : b < 2147483648) : (nI b = -nI a) = False := by
  rw [← Int32.toInt_inj, zd_neg ha, nI_toInt hb]; exact eq_false (by omega)
theorem zm_qe {a b : Nat} (h0 : 0 < a) (ha : a < 2147483648) (hb : b < 2147483648) : (-nI a = nI b) = False := by
  rw [← Int32.toInt_inj, zd_neg ha, nI_toInt hb]; exact eq_false (by omega)
theorem zm_mm {a b : Nat} (ha : a < 2147483648) (hb : b < 2147483648) : (-nI a = -nI b) = (a = b) := by
  rw [← Int32.toInt_inj, zd_neg ha, zd_neg hb]; exact propext ⟨fun h => by omega, fun h => by omega⟩
theorem zt_lt {a b : Nat} (h : a < b) : (a < b) = True := eq_true h
theorem zf_lt {a b : Nat} (h : b ≤ a) : (a < b) = False := eq_false (Nat.not_lt.mpr h)
theorem zt_le {a b : Nat} (h : a ≤ b) : (a ≤ b) = True := eq_true h
theorem zf_le {a b : Nat} (h : b < a) : (a ≤ b) = False := eq_false (Nat.not_le.mpr h)
theorem zt_eq {a b : Nat} (h : a = b) : (a = b) = True := eq_true h
theorem zf_eq {a b : Nat} (h : a ≠ b) : (a = b) = False := eq_false h
theorem z_upd (f : Nat → Int32) (k : Nat) (x : Int32) (j : Nat) : upd f k x j = if j = k then x else f j := rfl
theorem z_updL (f : Nat → Int64) (k : Nat) (x : Int64) (j : Nat) : vp_updL f k x j = if j = k then x else f j := rfl
theorem z_b1 {α δ : Type} (a : α) (k : α → Option δ) : bnd1 (some a) k = k a := rfl
theorem zq_and (a b : Nat) : nI a &&& nI b = nI (a &&& b) := fa_and a b
theorem zq_or (a b : Nat) : nI a ||| nI b = nI (a ||| b) := fa_or a b
theorem zq_xor (a b : Nat) : nI a ^^^ nI b = nI (a ^^^ b) := nx_xor a b
theorem zs_and31 {k : Nat} (h : k < 32) : nI k &&& nI 31 = nI k := by
  rw [show (31 : Nat) = 2 ^ 5 - 1 from rfl, fa_mask, Nat.mod_eq_of_lt h]
theorem zs_l : ∀ n, n < 32 → ((nI n).toBitVec.smod 32).toNat = n := by decide +kernel
theorem zs_shl {k : Nat} (n : Nat) (hk : k < 32) : nI n <<< nI k = nI (n * 2 ^ k) := by
  apply Int32.toBitVec_inj.1
  show BitVec.ofNat 32 n <<< ((nI k).toBitVec.smod 32).toNat = BitVec.ofNat 32 (n * 2 ^ k)
  rw [zs_l k hk]
  apply BitVec.eq_of_toNat_eq
  rw [BitVec.toNat_shiftLeft, BitVec.toNat_ofNat, BitVec.toNat_ofNat, Nat.shiftLeft_eq, Nat.mod_mul_mod]
theorem zs_shr {n k : Nat} (hn : n < 2147483648) (hk : k < 32) : nI n >>> nI k = nI (n / 2 ^ k) := by
  apply Int32.toInt_inj.1
  have hd : n / 2 ^ k < 2147483648 := Nat.lt_of_le_of_lt (Nat.div_le_self _ _) hn
  rw [nI_toInt hd]
  show ((BitVec.ofNat 32 n).sshiftRight ((nI k).toBitVec.smod 32).toNat).toInt = _
  rw [zs_l k hk, BitVec.toInt_sshiftRight, show (BitVec.ofNat 32 n).toInt = (nI n).toInt from rfl, nI_toInt hn, Int.shiftRight_eq_div_pow]
  norm_cast
/-! Int64 -/
theorem zL_mul (a b : Nat) : lN a * lN b = lN (a * b) := lN_mul a b
theorem zL_add (a b : Nat) : lN a + lN b = lN (a + b) := lN_add a b
theorem zL_sub {a b : Nat} (h : b ≤ a) : lN a - lN b = lN (a - b) := lN_sub h
theorem zL_ti {a : Nat} (h : a < 9223372036854775808) : (lN a).toInt = (a : Int) := pf_lI h
theorem zL_lt {a b : Nat} (ha : a < 9223372036854775808) (hb : b < 9223372036854775808) : (lN a < lN b) = (a < b) := by
  rw [Int64.lt_iff_toInt_lt, zL_ti ha, zL_ti hb]; exact propext ⟨fun h => by omega, fun h => by omega⟩
theorem zL_le {a b : Nat} (ha : a < 9223372036854775808) (hb : b < 9223372036854775808) : (lN a ≤ lN b) = (a ≤ b) := by
  rw [Int64.le_iff_toInt_le, zL_ti ha, zL_ti hb]; exact propext ⟨fun h => by omega, fun h => by omega⟩
theorem zL_eq {a b : Nat} (ha : a < 9223372036854775808) (hb : b < 9223372036854775808) : (lN a = lN b) = (a = b) := propext (fb_lN_inj ha hb)
theorem zL_div {a b : Nat} (ha : a < 9223372036854775808) (hb : b < 9223372036854775808) (h0 : 0 < b) : lN a / lN b = lN (a / b) := by
  apply Int64.toInt_inj.1
  have hd : a / b < 9223372036854775808 := Nat.lt_of_le_of_lt (Nat.div_le_self _ _) ha
  rw [Int64.toInt_div_of_ne_right _ _ (by intro h; have := congrArg Int64.toInt h; rw [zL_ti hb] at this; have e : (-1 : Int64).toInt = -1 := by decide
                                          omega), zL_ti ha, zL_ti hb, zL_ti hd, Int.tdiv_eq_ediv_of_nonneg (by omega)]
  norm_cast
theorem zL_rem {a b : Nat} (ha : a < 9223372036854775808) (hb : b < 9223372036854775808) (h0 : 0 < b) : lN a - lN a / lN b * lN b = lN (a % b) := by
  rw [zL_div ha hb h0, zL_mul, zL_sub (Nat.div_mul_le_self a b)]
  congr 1
  have := Nat.div_add_mod a b
  rw [Nat.mul_comm] at this
  omega
theorem zL_i (n : Nat) : (lN n).toInt32 = nI n := lN_i n
theorem zI_64 {n : Nat} (h : n < 2147483648) : (nI n).toInt64 = lN n := nI_l h
theorem zI_div {a b : Nat} (ha : a < 2147483648) (hb : b < 2147483648) : nI a / nI b = nI (a / b) := by
  apply Int32.toInt_inj.1
  have hd : a / b < 2147483648 := Nat.lt_of_le_of_lt (Nat.div_le_self _ _) ha
  rw [Int32.toInt_div_of_ne_right _ _ (by intro h; have := congrArg Int32.toInt h; rw [nI_toInt hb] at this; have e : (-1 : Int32).toInt = -1 := by decide
                                          omega), nI_toInt ha, nI_toInt hb, nI_toInt hd, Int.tdiv_eq_ediv_of_nonneg (by omega)]
  norm_cast
theorem zI_rem {a b : Nat} (ha : a < 2147483648) (hb : b < 2147483648) : nI a - nI a / nI b * nI b = nI (a % b) := by
  rw [zI_div ha hb, zq_mul, zq_sub (Nat.div_mul_le_self a b)]
  congr 1
  have := Nat.div_add_mod a b
  rw [Nat.mul_comm] at this
  omega
theorem zc_lt {a b : Nat} (ha : a < 9223372036854775808) (hb : b < 9223372036854775808) (h : a < b) : lg_cmp (lN a) (lN b) = -1 := by
  have h1 : ¬ lN a > lN b := by show ¬ lN b < lN a; rw [zL_lt hb ha]; omega
  have h2 : ¬ lN a = lN b := by rw [zL_eq ha hb]; omega
  rw [lg_cmp, if_neg h1, if_neg h2]
theorem zc_eq {a : Nat} : lg_cmp (lN a) (lN a) = 0 := by
  have h1 : ¬ lN a > lN a := Int64.lt_irrefl
  rw [lg_cmp, if_neg h1, if_pos rfl]
theorem zc_gt {a b : Nat} (ha : a < 9223372036854775808) (hb : b < 9223372036854775808) (h : b < a) : lg_cmp (lN a) (lN b) = 1 := by
  have h1 : lN a > lN b := by show lN b < lN a; rw [zL_lt hb ha]; exact h
  rw [lg_cmp, if_pos h1]
theorem zc_lt0 {a b : Nat} (ha : a < 9223372036854775808) (hb : b < 9223372036854775808) : (lg_cmp (lN a) (lN b) < 0) = (a < b) := by
  rcases Nat.lt_trichotomy a b with h | h | h
  · rw [zc_lt ha hb h]; exact propext ⟨fun _ => h, fun _ => by decide⟩
  · rw [h, zc_eq]; exact propext ⟨fun h => absurd h (by decide), fun h => absurd h (Nat.lt_irrefl _)⟩
  · rw [zc_gt ha hb h]; exact propext ⟨fun h => absurd h (by decide), fun h2 => by omega⟩
theorem zc_eq0 {a b : Nat} (ha : a < 9223372036854775808) (hb : b < 9223372036854775808) : (lg_cmp (lN a) (lN b) = 0) = (a = b) := by
  rcases Nat.lt_trichotomy a b with h | h | h
  · rw [zc_lt ha hb h]; exact propext ⟨fun h => absurd h (by decide), fun _ => by omega⟩
  · rw [h, zc_eq]; exact propext ⟨fun _ => rfl, fun _ => rfl⟩
  · rw [zc_gt ha hb h]; exact propext ⟨fun h => absurd h (by decide), fun h2 => by omega⟩
theorem zc_ge0 {a b : Nat} (ha : a < 9223372036854775808) (hb : b < 9223372036854775808) : (0 ≤ lg_cmp (lN a) (lN b)) = (b ≤ a) := by
  rcases Nat.lt_trichotomy a b with h | h | h
  · rw [zc_lt ha hb h]; exact propext ⟨fun h => absurd h (by decide), fun _ => by omega⟩
  · rw [h, zc_eq]; exact propext ⟨fun _ => Nat.le_refl _, fun _ => by decide⟩
  · rw [zc_gt ha hb h]; exact propext ⟨fun _ => by omega, fun h2 => by decide⟩
theorem zc_le0 {a b : Nat} (ha : a < 9223372036854775808) (hb : b < 9223372036854775808) : (lg_cmp (lN a) (lN b) ≤ 0) = (a ≤ b) := by
  rcases Nat.lt_trichotomy a b with h | h | h
  · rw [zc_lt ha hb h]; exact propext ⟨fun _ => by omega, fun _ => by decide⟩
  · rw [h, zc_eq]; exact propext ⟨fun _ => Nat.le_refl _, fun _ => by decide⟩
  · rw [zc_gt ha hb h]; exact propext ⟨fun h => absurd h (by decide), fun h2 => by omega⟩
theorem z_b2 {α0 α1 δ : Type} (a0 : α0) (a1 : α1) (k : α0 → α1 → Option δ) : bnd2 (some (a0, a1)) k = k a0 a1 := rfl
theorem z_b3 {α0 α1 α2 δ : Type} (a0 : α0) (a1 : α1) (a2 : α2) (k : α0 → α1 → α2 → Option δ) : bnd3 (some (a0, a1, a2)) k = k a0 a1 a2 := rfl
theorem z_b4 {α0 α1 α2 α3 δ : Type} (a0 : α0) (a1 : α1) (a2 : α2) (a3 : α3) (k : α0 → α1 → α2 → α3 → Option δ) : bnd4 (some (a0, a1, a2, a3)) k = k a0 a1 a2 a3 := rfl
theorem z_b5 {α0 α1 α2 α3 α4 δ : Type} (a0 : α0) (a1 : α1) (a2 : α2) (a3 : α3) (a4 : α4) (k : α0 → α1 → α2 → α3 → α4 → Option δ) : bnd5 (some (a0, a1, a2, a3, a4)) k = k a0 a1 a2 a3 a4 := rfl
theorem z_b6 {α0 α1 α2 α3 α4 α5 δ : Type} (a0 : α0) (a1 : α1) (a2 : α2) (a3 : α3) (a4 : α4) (a5 : α5) (k : α0 → α1 → α2 → α3 → α4 → α5 → Option δ) : bnd6 (some (a0, a1, a2, a3, a4, a5)) k = k a0 a1 a2 a3 a4 a5 := rfl
theorem z_b7 {α0 α1 α2 α3 α4 α5 α6 δ : Type} (a0 : α0) (a1 : α1) (a2 : α2) (a3 : α3) (a4 : α4) (a5 : α5) (a6 : α6) (k : α0 → α1 → α2 → α3 → α4 → α5 → α6 → Option δ) : bnd7 (some (a0, a1, a2, a3, a4, a5, a6)) k = k a0 a1 a2 a3 a4 a5 a6 := rfl
theorem z_b8 {α0 α1 α2 α3 α4 α5 α6 α7 δ : Type} (a0 : α0) (a1 : α1) (a2 : α2) (a3 : α3) (a4 : α4) (a5 : α5) (a6 : α6) (a7 : α7) (k : α0 → α1 → α2 → α3 → α4 → α5 → α6 → α7 → Option δ) : bnd8 (some (a0, a1, a2, a3, a4, a5, a6, a7)) k = k a0 a1 a2 a3 a4 a5 a6 a7 := rfl
theorem z_b9 {α0 α1 α2 α3 α4 α5 α6 α7 α8 δ : Type} (a0 : α0) (a1 : α1) (a2 : α2) (a3 : α3) (a4 : α4) (a5 : α5) (a6 : α6) (a7 : α7) (a8 : α8) (k : α0 → α1 → α2 → α3 → α4 → α5 → α6 → α7 → α8 → Option δ) : bnd9 (some (a0, a1, a2, a3, a4, a5, a6, a7, a8)) k = k a0 a1 a2 a3 a4 a5 a6 a7 a8 := rfl
theorem z_b10 {α0 α1 α2 α3 α4 α5 α6 α7 α8 α9 δ : Type} (a0 : α0) (a1 : α1) (a2 : α2) (a3 : α3) (a4 : α4) (a5 : α5) (a6 : α6) (a7 : α7) (a8 : α8) (a9 : α9) (k : α0 → α1 → α2 → α3 → α4 → α5 → α6 → α7 → α8 → α9 → Option δ) : bnd10 (some (a0, a1, a2, a3, a4, a5, a6, a7, a8, a9)) k = k a0 a1 a2 a3 a4 a5 a6 a7 a8 a9 := rfl
theorem z_b11 {α0 α1 α2 α3 α4 α5 α6 α7 α8 α9 α10 δ : Type} (a0 : α0) (a1 : α1) (a2 : α2) (a3 : α3) (a4 : α4) (a5 : α5) (a6 : α6) (a7 : α7) (a8 : α8) (a9 : α9) (a10 : α10) (k : α0 → α1 → α2 → α3 → α4 → α5 → α6 → α7 → α8 → α9 → α10 → Option δ) : bnd11 (some (a0, a1, a2, a3, a4, a5, a6, a7, a8, a9, a10)) k = k a0 a1 a2 a3 a4 a5 a6 a7 a8 a9 a10 := rfl
theorem z_b12 {α0 α1 α2 α3 α4 α5 α6 α7 α8 α9 α10 α11 δ : Type} (a0 : α0) (a1 : α1) (a2 : α2) (a3 : α3) (a4 : α4) (a5 : α5) (a6 : α6) (a7 : α7) (a8 : α8) (a9 : α9) (a10 : α10) (a11 : α11) (k : α0 → α1 → α2 → α3 → α4 → α5 → α6 → α7 → α8 → α9 → α10 → α11 → Option δ) : bnd12 (some (a0, a1, a2, a3, a4, a5, a6, a7, a8, a9, a10, a11)) k = k a0 a1 a2 a3 a4 a5 a6 a7 a8 a9 a10 a11 := rfl
theorem z_b13 {α0 α1 α2 α3 α4 α5 α6 α7 α8 α9 α10 α11 α12 δ : Type} (a0 : α0) (a1 : α1) (a2 : α2) (a3 : α3) (a4 : α4) (a5 : α5) (a6 : α6) (a7 : α7) (a8 : α8) (a9 : α9) (a10 : α10) (a11 : α11) (a12 : α12) (k : α0 → α1 → α2 → α3 → α4 → α5 → α6 → α7 → α8 → α9 → α10 → α11 → α12 → Option δ) : bnd13 (some (a0, a1, a2, a3, a4, a5, a6, a7, a8, a9, a10, a11, a12)) k = k a0 a1 a2 a3 a4 a5 a6 a7 a8 a9 a10 a11 a12 := rfl
theorem z_b14 {α0 α1 α2 α3 α4 α5 α6 α7 α8 α9 α10 α11 α12 α13 δ : Type} (a0 : α0) (a1 : α1) (a2 : α2) (a3 : α3) (a4 : α4) (a5 : α5) (a6 : α6) (a7 : α7) (a8 : α8) (a9 : α9) (a10 : α10) (a11 : α11) (a12 : α12) (a13 : α13) (k : α0 → α1 → α2 → α3 → α4 → α5 → α6 → α7 → α8 → α9 → α10 → α11 → α12 → α13 → Option δ) : bnd14 (some (a0, a1, a2, a3, a4, a5, a6, a7, a8, a9, a10, a11, a12, a13)) k = k a0 a1 a2 a3 a4 a5 a6 a7 a8 a9 a10 a11 a12 a13 := rfl
theorem z_b15 {α0 α1 α2 α3 α4 α5 α6 α7 α8 α9 α10 α11 α12 α13 α14 δ : Type} (a0 : α0) (a1 : α1) (a2 : α2) (a3 : α3) (a4 : α4) (a5 : α5) (a6 : α6) (a7 : α7) (a8 : α8) (a9 : α9) (a10 : α10) (a11 : α11) (a12 : α12) (a13 : α13) (a14 : α14) (k : α0 → α1 → α2 → α3 → α4 → α5 → α6 → α7 → α8 → α9 → α10 → α11 → α12 → α13 → α14 → Option δ) : bnd15 (some (a0, a1, a2, a3, a4, a5, a6, a7, a8, a9, a10, a11, a12, a13, a14)) k = k a0 a1 a2 a3 a4 a5 a6 a7 a8 a9 a10 a11 a12 a13 a14 := rfl
theorem z_b16 {α0 α1 α2 α3 α4 α5 α6 α7 α8 α9 α10 α11 α12 α13 α14 α15 δ : Type} (a0 : α0) (a1 : α1) (a2 : α2) (a3 : α3) (a4 : α4) (a5 : α5) (a6 : α6) (a7 : α7) (a8 : α8) (a9 : α9) (a10 : α10) (a11 : α11) (a12 : α12) (a13 : α13) (a14 : α14) (a15 : α15) (k : α0 → α1 → α2 → α3 → α4 → α5 → α6 → α7 → α8 → α9 → α10 → α11 → α12 → α13 → α14 → α15 → Option δ) : bnd16 (some (a0, a1, a2, a3, a4, a5, a6, a7, a8, a9, a10, a11, a12, a13, a14, a15)) k = k a0 a1 a2 a3 a4 a5 a6 a7 a8 a9 a10 a11 a12 a13 a14 a15 := rfl
theorem z_b17 {α0 α1 α2 α3 α4 α5 α6 α7 α8 α9 α10 α11 α12 α13 α14 α15 α16 δ : Type} (a0 : α0) (a1 : α1) (a2 : α2) (a3 : α3) (a4 : α4) (a5 : α5) (a6 : α6) (a7 : α7) (a8 : α8) (a9 : α9) (a10 : α10) (a11 : α11) (a12 : α12) (a13 : α13) (a14 : α14) (a15 : α15) (a16 : α16) (k : α0 → α1 → α2 → α3 → α4 → α5 → α6 → α7 → α8 → α9 → α10 → α11 → α12 → α13 → α14 → α15 → α16 → Option δ) : bnd17 (some (a0, a1, a2, a3, a4, a5, a6, a7, a8, a9, a10, a11, a12, a13, a14, a15, a16)) k = k a0 a1 a2 a3 a4 a5 a6 a7 a8 a9 a10 a11 a12 a13 a14 a15 a16 := rfl
theorem z_b18 {α0 α1 α2 α3 α4 α5 α6 α7 α8 α9 α10 α11 α12 α13 α14 α15 α16 α17 δ : Type} (a0 : α0) (a1 : α1) (a2 : α2) (a3 : α3) (a4 : α4) (a5 : α5) (a6 : α6) (a7 : α7) (a8 : α8) (a9 : α9) (a10 : α10) (a11 : α11) (a12 : α12) (a13 : α13) (a14 : α14) (a15 : α15) (a16 : α16) (a17 : α17) (k : α0 → α1 → α2 → α3 → α4 → α5 → α6 → α7 → α8 → α9 → α10 → α11 → α12 → α13 → α14 → α15 → α16 → α17 → Option δ) : bnd18 (some (a0, a1, a2, a3, a4, a5, a6, a7, a8, a9, a10, a11, a12, a13, a14, a15, a16, a17)) k = k a0 a1 a2 a3 a4 a5 a6 a7 a8 a9 a10 a11 a12 a13 a14 a15 a16 a17 := rfl
theorem z_b19 {α0 α1 α2 α3 α4 α5 α6 α7 α8 α9 α10 α11 α12 α13 α14 α15 α16 α17 α18 δ : Type} (a0 : α0) (a1 : α1) (a2 : α2) (a3 : α3) (a4 : α4) (a5 : α5) (a6 : α6) (a7 : α7) (a8 : α8) (a9 : α9) (a10 : α10) (a11 : α11) (a12 : α12) (a13 : α13) (a14 : α14) (a15 : α15) (a16 : α16) (a17 : α17) (a18 : α18) (k : α0 → α1 → α2 → α3 → α4 → α5 → α6 → α7 → α8 → α9 → α10 → α11 → α12 → α13 → α14 → α15 → α16 → α17 → α18 → Option δ) : bnd19 (some (a0, a1, a2, a3, a4, a5, a6, a7, a8, a9, a10, a11, a12, a13, a14, a15, a16, a17, a18)) k = k a0 a1 a2 a3 a4 a5 a6 a7 a8 a9 a10 a11 a12 a13 a14 a15 a16 a17 a18 := rfl
theorem z_b20 {α0 α1 α2 α3 α4 α5 α6 α7 α8 α9 α10 α11 α12 α13 α14 α15 α16 α17 α18 α19 δ : Type} (a0 : α0) (a1 : α1) (a2 : α2) (a3 : α3) (a4 : α4) (a5 : α5) (a6 : α6) (a7 : α7) (a8 : α8) (a9 : α9) (a10 : α10) (a11 : α11) (a12 : α12) (a13 : α13) (a14 : α14) (a15 : α15) (a16 : α16) (a17 : α17) (a18 : α18) (a19 : α19) (k : α0 → α1 → α2 → α3 → α4 → α5 → α6 → α7 → α8 → α9 → α10 → α11 → α12 → α13 → α14 → α15 → α16 → α17 → α18 → α19 → Option δ) : bnd20 (some (a0, a1, a2, a3, a4, a5, a6, a7, a8, a9, a10, a11, a12, a13, a14, a15, a16, a17, a18, a19)) k = k a0 a1 a2 a3 a4 a5 a6 a7 a8 a9 a10 a11 a12 a13 a14 a15 a16 a17 a18 a19 := rfl
