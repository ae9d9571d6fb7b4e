/-! counting ones -/
theorem kush {a s : Nat} (ha : a < 2147483648) (hs : s < 32) : kushr (nI a) (nI s) = nI (a / 2 ^ s) := by
  have h1 : ∀ s, s < 32 → (nI s).toUInt32 &&& Int32.toUInt32 31 = UInt32.ofNat s := by decide +kernel
  unfold kushr
  rw [h1 s hs]
  have h2 : (nI a).toUInt32 = UInt32.ofNat a := rfl
  have h3 : UInt32.ofNat a >>> UInt32.ofNat s = UInt32.ofNat (a / 2 ^ s) := by
    apply UInt32.toNat_inj.1
    rw [UInt32.toNat_shiftRight, UInt32.toNat_ofNat', UInt32.toNat_ofNat', UInt32.toNat_ofNat', Nat.shiftRight_eq_div_pow, Nat.mod_eq_of_lt (by omega : a < 2 ^ 32), Nat.mod_eq_of_lt (by omega : s < 2 ^ 32), Nat.mod_eq_of_lt hs, Nat.mod_eq_of_lt]
    exact Nat.lt_of_le_of_lt (Nat.div_le_self _ _) (by omega)
  rw [h2, h3]
  rfl
theorem msplit {n s a w m1 m2 : Nat} (ha : a < 2 ^ n) (hm : m1 < 2 ^ n) (hk : ∀ j, j < n → n ≤ j + s → m1.testBit j = false) : ((2 ^ n * w + a) >>> s) &&& (2 ^ n * m2 + m1) = 2 ^ n * ((w >>> s) &&& m2) + ((a >>> s) &&& m1) := by
  apply Nat.eq_of_testBit_eq
  intro j
  have h1 : ((a >>> s) &&& m1) < 2 ^ n := Nat.and_lt_two_pow _ hm
  rw [Nat.testBit_and, Nat.testBit_shiftRight, Nat.testBit_two_pow_mul_add _ ha, Nat.testBit_two_pow_mul_add _ hm, Nat.testBit_two_pow_mul_add _ h1]
  by_cases c : j < n
  · rw [if_pos c, if_pos c, Nat.testBit_and, Nat.testBit_shiftRight]
    by_cases d : s + j < n
    · rw [if_pos d]
    · rw [hk j c (by omega)]
      simp
  · rw [if_neg c, if_neg c, if_neg (by omega), Nat.testBit_and, Nat.testBit_shiftRight]
    congr 2
    omega
def y1 (a : Nat) : Nat := (a >>> 1) &&& 85
def g1 (a : Nat) : Nat := a - y1 a
def g2 (a : Nat) : Nat := (g1 a &&& 51) + ((g1 a >>> 2) &&& 51)
theorem byte_ok : ∀ a, a < 256 → y1 a ≤ a ∧ g2 a ≤ 68 ∧ g2 a % 16 ≤ 4 ∧ (g2 a + g2 a / 16) % 16 = fb_ct a.testBit 8 := by decide +kernel
theorem nib_ok : ∀ a, a < 16 → (a >>> 1) &&& 21845 = y1 a ∧ g1 a &&& 13107 = g1 a &&& 51 ∧ (g1 a >>> 2) &&& 13107 = (g1 a >>> 2) &&& 51 ∧ g2 a ≤ 4 ∧ (g2 a + g2 a / 16) &&& 3855 = g2 a ∧ g2 a = fb_ct a.testBit 4 := by decide +kernel
theorem lo_false (n s m1 : Nat) (h : (List.range n).all (fun j => decide (j + s < n) || !m1.testBit j) = true) : ∀ j, j < n → n ≤ j + s → m1.testBit j = false := by
  intro j hj hs
  rw [List.all_eq_true] at h
  have := h j (List.mem_range.mpr hj)
  simp at this
  rcases this with h | h
  · omega
  · exact h
theorem and_split {a b c m1 m2 m3 s : Nat} (ha : a < 256) (hb : b < 256) (h1 : m1 < 256) (h2 : m2 < 256) (k1 : ∀ j, j < 8 → 8 ≤ j + s → m1.testBit j = false) (k2 : ∀ j, j < 8 → 8 ≤ j + s → m2.testBit j = false) :
    ((65536 * c + 256 * b + a) >>> s) &&& (65536 * m3 + 256 * m2 + m1) = 65536 * ((c >>> s) &&& m3) + 256 * ((b >>> s) &&& m2) + ((a >>> s) &&& m1) := by
  have e1 : 65536 * c + 256 * b + a = 2 ^ 8 * (2 ^ 8 * c + b) + a := by omega
  have e2 : 65536 * m3 + 256 * m2 + m1 = 2 ^ 8 * (2 ^ 8 * m3 + m2) + m1 := by omega
  rw [e1, e2, msplit (n := 8) ha h1 k1, msplit (n := 8) hb h2 k2]
  omega
theorem bits_split {a b c : Nat} (ha : a < 256) (hb : b < 256) (hc : c < 16) : fb_ct (65536 * c + 256 * b + a).testBit 20 = fb_ct a.testBit 8 + fb_ct b.testBit 8 + fb_ct c.testBit 4 := by
  have e1 : 65536 * c + 256 * b + a = 2 ^ 8 * (2 ^ 8 * c + b) + a := by omega
  rw [show (20 : Nat) = 8 + (8 + 4) from rfl, fb_ct_split, fb_ct_split, e1]
  have q1 : fb_ct (2 ^ 8 * (2 ^ 8 * c + b) + a).testBit 8 = fb_ct a.testBit 8 := fb_ct_cong (fun k hk => by rw [Nat.testBit_two_pow_mul_add _ ha, if_pos hk])
  have q2 : fb_ct (fun k => (2 ^ 8 * (2 ^ 8 * c + b) + a).testBit (8 + k)) 8 = fb_ct b.testBit 8 := fb_ct_cong (fun k hk => by
    rw [Nat.testBit_two_pow_mul_add _ ha, if_neg (by omega), Nat.testBit_two_pow_mul_add _ hb, if_pos (by omega), Nat.add_sub_cancel_left])
  have q3 : fb_ct (fun k => (2 ^ 8 * (2 ^ 8 * c + b) + a).testBit (8 + (8 + k))) 4 = fb_ct c.testBit 4 := fb_ct_cong (fun k hk => by
    rw [Nat.testBit_two_pow_mul_add _ ha, if_neg (by omega), Nat.testBit_two_pow_mul_add _ hb, if_neg (by omega), Nat.add_sub_cancel_left, Nat.add_sub_cancel_left])
  rw [q1, q2, q3]
  omega
theorem J6_bits {v : Nat} (hv : v < 2 ^ 20) : F_J6_bitCount_0f7a4 (nI v) = some (nI (fb_ct v.testBit 20)) := by
  obtain ⟨a, b, c, ha, hb, hc, rfl⟩ : ∃ a b c, a < 256 ∧ b < 256 ∧ c < 16 ∧ v = 65536 * c + 256 * b + a := ⟨v % 256, v / 256 % 256, v / 65536, by omega, by omega, by omega, by omega⟩
  obtain ⟨a1, a2, a3, a4⟩ := byte_ok a ha
  obtain ⟨b1, b2, b3, b4⟩ := byte_ok b hb
  obtain ⟨c1, c2, c3, c4⟩ := byte_ok c (by omega)
  obtain ⟨d1, d2, d3, d4, d5, d6⟩ := nib_ok c hc
  unfold F_J6_bitCount_0f7a4
  have s1 : kushr (nI (65536 * c + 256 * b + a)) 1 &&& 1431655765 = nI (65536 * y1 c + 256 * y1 b + y1 a) := by
    have h1 : kushr (nI (65536 * c + 256 * b + a)) 1 = nI ((65536 * c + 256 * b + a) >>> 1) := by
      rw [zl_1, kush (by omega) (by omega), Nat.shiftRight_eq_div_pow]
    have h2 : (1431655765 : Int32) = nI (65536 * 21845 + 256 * 85 + 85) := rfl
    rw [h1, h2, zq_and, and_split ha hb (by omega) (by omega) (lo_false 8 1 85 (by decide)) (lo_false 8 1 85 (by decide)), d1]
    rfl
  have e1 : nI (65536 * c + 256 * b + a) - nI (65536 * y1 c + 256 * y1 b + y1 a) = nI (65536 * g1 c + 256 * g1 b + g1 a) := by
    rw [zq_sub (by omega)]
    congr 1
    unfold g1
    omega
  rw [s1, e1]
  have ga : g1 a < 256 := by unfold g1; omega
  have gb : g1 b < 256 := by unfold g1; omega
  have gc : g1 c < 16 := by unfold g1; omega
  have s2 : nI (65536 * g1 c + 256 * g1 b + g1 a) &&& 858993459 = nI (65536 * (g1 c &&& 51) + 256 * (g1 b &&& 51) + (g1 a &&& 51)) := by
    have h2 : (858993459 : Int32) = nI (65536 * 13107 + 256 * 51 + 51) := rfl
    have := and_split (s := 0) (m3 := 13107) (c := g1 c) ga gb (by omega : 51 < 256) (by omega : 51 < 256) (lo_false 8 0 51 (by decide)) (lo_false 8 0 51 (by decide))
    rw [Nat.shiftRight_zero, Nat.shiftRight_zero, Nat.shiftRight_zero, Nat.shiftRight_zero] at this
    rw [h2, zq_and, this, d2]
  have s3 : kushr (nI (65536 * g1 c + 256 * g1 b + g1 a)) 2 &&& (858993459 : Int32) = nI (65536 * ((g1 c >>> 2) &&& 51) + 256 * ((g1 b >>> 2) &&& 51) + ((g1 a >>> 2) &&& 51)) := by
    have h1 : kushr (nI (65536 * g1 c + 256 * g1 b + g1 a)) 2 = nI ((65536 * g1 c + 256 * g1 b + g1 a) >>> 2) := by
      rw [show (2 : Int32) = nI 2 from rfl, kush (by omega) (by omega), Nat.shiftRight_eq_div_pow]
    have h2 : (858993459 : Int32) = nI (65536 * 13107 + 256 * 51 + 51) := rfl
    rw [h1, h2, zq_and, and_split ga gb (by omega) (by omega) (lo_false 8 2 51 (by decide)) (lo_false 8 2 51 (by decide)), d3]
  rw [s2, s3]
  have e2 : nI (65536 * (g1 c &&& 51) + 256 * (g1 b &&& 51) + (g1 a &&& 51)) + nI (65536 * ((g1 c >>> 2) &&& 51) + 256 * ((g1 b >>> 2) &&& 51) + ((g1 a >>> 2) &&& 51)) = nI (65536 * g2 c + 256 * g2 b + g2 a) := by
    rw [zq_add]
    congr 1
    unfold g2
    omega
  rw [e2]
  generalize g2 a = A at *
  generalize g2 b = B at *
  generalize g2 c = C at *
  have s4 : (nI (65536 * C + 256 * B + A) + kushr (nI (65536 * C + 256 * B + A)) 4) &&& 252645135 = nI (65536 * C + 256 * ((B + B / 16) % 16) + (A + A / 16) % 16) := by
    have h1 : kushr (nI (65536 * C + 256 * B + A)) 4 = nI ((65536 * C + 256 * B + A) / 16) := by
      rw [show (4 : Int32) = nI 4 from rfl, kush (by omega) (by omega)]
    have h2 : (252645135 : Int32) = nI (65536 * 3855 + 256 * 15 + 15) := rfl
    have h3 : (65536 * C + 256 * B + A) + (65536 * C + 256 * B + A) / 16 = 65536 * (C + C / 16) + 256 * (B + B / 16 + 16 * (C % 16)) + (A + A / 16 + 16 * (B % 16)) := by omega
    have := and_split (s := 0) (a := A + A / 16 + 16 * (B % 16)) (b := B + B / 16 + 16 * (C % 16)) (c := C + C / 16) (m3 := 3855) (by omega) (by omega) (by omega : 15 < 256) (by omega : 15 < 256) (lo_false 8 0 15 (by decide)) (lo_false 8 0 15 (by decide))
    rw [Nat.shiftRight_zero, Nat.shiftRight_zero, Nat.shiftRight_zero, Nat.shiftRight_zero] at this
    rw [h1, h2, zq_add, zq_and, h3, this, d5]
    congr 1
    have m1 : ∀ x, x &&& 15 = x % 16 := fun x => Nat.and_two_pow_sub_one_eq_mod x 4
    rw [m1, m1]
    omega
  rw [s4, a4, b4, d6]
  generalize hP : fb_ct a.testBit 8 = P at *
  generalize hQ : fb_ct b.testBit 8 = Q at *
  generalize hR : fb_ct c.testBit 4 = R at *
  have hP8 : P ≤ 8 := by rw [← hP]; exact fb_ct_le _ _
  have hQ8 : Q ≤ 8 := by rw [← hQ]; exact fb_ct_le _ _
  have hR4 : R ≤ 4 := by rw [← hR]; exact fb_ct_le _ _
  have h8 : kushr (nI (65536 * R + 256 * Q + P)) 8 = nI (256 * R + Q) := by
    rw [show (8 : Int32) = nI 8 from rfl, kush (by omega) (by omega)]
    congr 1
    omega
  have e5 : nI (65536 * R + 256 * Q + P) + nI (256 * R + Q) = nI (65536 * R + 256 * (Q + R) + (P + Q)) := by
    rw [zq_add]; congr 1; omega
  have h16 : kushr (nI (65536 * R + 256 * (Q + R) + (P + Q))) 16 = nI R := by
    rw [show (16 : Int32) = nI 16 from rfl, kush (by omega) (by omega)]
    congr 1
    omega
  have h63 : (63 : Int32) = nI 63 := rfl
  rw [h8, e5, h16, zq_add, h63, zq_and, bits_split ha hb hc, hP, hQ, hR]
  congr 2
  have m2 : ∀ x, x &&& 63 = x % 64 := fun x => Nat.and_two_pow_sub_one_eq_mod x 6
  rw [m2]
  omega
theorem X10_bits4 {v : Nat} (hv : v < 2 ^ 20) : ∀ (j kf i : Nat), j < kf → i + j = 20 → F_X10_bits_b4 (nI v) kf (nI (fb_ct v.testBit i)) (nI i) = some (nI (fb_ct v.testBit 20))
  | 0, kf, i, hj, hi => by
    obtain ⟨g, rfl⟩ : ∃ g, kf = g + 1 := ⟨kf - 1, by omega⟩
    have : i = 20 := by omega
    subst this
    rw [F_X10_bits_b4, if_pos (by decide)]
  | j + 1, kf, i, hj, hi => by
    obtain ⟨g, rfl⟩ : ∃ g, kf = g + 1 := ⟨kf - 1, by omega⟩
    have ih := X10_bits4 hv j g (i + 1) (by omega) (by omega)
    have hb : ((nI v >>> (nI i &&& 31)) &&& 1) = nI (v / 2 ^ i % 2) := zs_bit (by omega) (by omega)
    have i1 : nI i + (1 : Int32) = nI (i + 1) := by rw [zl_1, zq_add]
    rw [fb_ct_succ, Nat.testBit_eq_decide_div_mod_eq] at ih
    have e : (if decide (v / 2 ^ i % 2 = 1) = true then 1 else 0) = v / 2 ^ i % 2 := by
      rcases Nat.mod_two_eq_zero_or_one (v / 2 ^ i) with h | h <;> rw [h] <;> rfl
    rw [e] at ih
    rw [F_X10_bits_b4, if_neg (by rw [zl_20, zd_le (by omega) (by omega)]; omega), hb, zq_add, i1]
    exact ih
theorem X10_bits {fu v : Nat} (hfu : 20000 ≤ fu) (hv : v < 2 ^ 20) : F_X10_bits fu (nI v) = some (nI (fb_ct v.testBit 20)) := X10_bits4 hv 20 fu 0 (by omega) (by omega)
