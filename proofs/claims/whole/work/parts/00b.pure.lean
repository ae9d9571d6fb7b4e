def F_J7_fill_53178_b5  (n0 : Nat) (v1 : Int32) (v3 : Int32) : Nat → (Nat → Int32) → Int32 → Option ((Nat → Int32))
  | 0, _, _ => none
  | kf + 1, f_a0, v2 =>
    if v3 ≤ v2 then
      some f_a0
    else
    if v2 < 0 ∨ n0 ≤ v2.toNatClampNeg then none else
    (F_J7_fill_53178_b5 n0 v1 v3 kf) (upd f_a0 v2.toNatClampNeg v1) ((v2 + (1 : Int32)))
def F_J7_fill_53178 (fu : Nat) (n0 : Nat) (f_a0 : Nat → Int32) (v1 : Int32) : Option ((Nat → Int32)) :=
  F_J7_fill_53178_b5 n0 v1 (Int32.ofNat n0) fu f_a0 (0 : Int32)
def F_J7_fill_d0a16_b6  (n0 : Nat) (v1 : Int64) (v4 : Int32) : Nat → (Nat → Int64) → Int32 → Option ((Nat → Int64))
  | 0, _, _ => none
  | kf + 1, f_a0, v3 =>
    if v4 ≤ v3 then
      some f_a0
    else
    if v3 < 0 ∨ n0 ≤ v3.toNatClampNeg then none else
    (F_J7_fill_d0a16_b6 n0 v1 v4 kf) (vp_updL f_a0 v3.toNatClampNeg v1) ((v3 + (1 : Int32)))
def F_J7_fill_d0a16 (fu : Nat) (n0 : Nat) (f_a0 : Nat → Int64) (v1 : Int64) : Option ((Nat → Int64)) :=
  F_J7_fill_d0a16_b6 n0 v1 (Int32.ofNat n0) fu f_a0 (0 : Int32)
def F_J6_bitCount_0f7a4 (v0 : Int32) : Option (Int32) :=
  some (((((((((v0 - ((kushr v0 (1 : Int32)) &&& (1431655765 : Int32))) &&& (858993459 : Int32)) + ((kushr (v0 - ((kushr v0 (1 : Int32)) &&& (1431655765 : Int32))) (2 : Int32)) &&& (858993459 : Int32))) + (kushr (((v0 - ((kushr v0 (1 : Int32)) &&& (1431655765 : Int32))) &&& (858993459 : Int32)) + ((kushr (v0 - ((kushr v0 (1 : Int32)) &&& (1431655765 : Int32))) (2 : Int32)) &&& (858993459 : Int32))) (4 : Int32))) &&& (252645135 : Int32)) + (kushr (((((v0 - ((kushr v0 (1 : Int32)) &&& (1431655765 : Int32))) &&& (858993459 : Int32)) + ((kushr (v0 - ((kushr v0 (1 : Int32)) &&& (1431655765 : Int32))) (2 : Int32)) &&& (858993459 : Int32))) + (kushr (((v0 - ((kushr v0 (1 : Int32)) &&& (1431655765 : Int32))) &&& (858993459 : Int32)) + ((kushr (v0 - ((kushr v0 (1 : Int32)) &&& (1431655765 : Int32))) (2 : Int32)) &&& (858993459 : Int32))) (4 : Int32))) &&& (252645135 : Int32)) (8 : Int32))) + (kushr ((((((v0 - ((kushr v0 (1 : Int32)) &&& (1431655765 : Int32))) &&& (858993459 : Int32)) + ((kushr (v0 - ((kushr v0 (1 : Int32)) &&& (1431655765 : Int32))) (2 : Int32)) &&& (858993459 : Int32))) + (kushr (((v0 - ((kushr v0 (1 : Int32)) &&& (1431655765 : Int32))) &&& (858993459 : Int32)) + ((kushr (v0 - ((kushr v0 (1 : Int32)) &&& (1431655765 : Int32))) (2 : Int32)) &&& (858993459 : Int32))) (4 : Int32))) &&& (252645135 : Int32)) + (kushr (((((v0 - ((kushr v0 (1 : Int32)) &&& (1431655765 : Int32))) &&& (858993459 : Int32)) + ((kushr (v0 - ((kushr v0 (1 : Int32)) &&& (1431655765 : Int32))) (2 : Int32)) &&& (858993459 : Int32))) + (kushr (((v0 - ((kushr v0 (1 : Int32)) &&& (1431655765 : Int32))) &&& (858993459 : Int32)) + ((kushr (v0 - ((kushr v0 (1 : Int32)) &&& (1431655765 : Int32))) (2 : Int32)) &&& (858993459 : Int32))) (4 : Int32))) &&& (252645135 : Int32)) (8 : Int32))) (16 : Int32))) &&& (63 : Int32)))
def F_X8_atFirst (v0 : Int32) : Option (Int32) :=
  if v0 = (4 : Int32) then
    some (9 : Int32)
  else
    some (0 : Int32)
def F_X8_counted (v0 : Int32) (v1 : Int32) : Option (Int32) :=
  if v1 = 0 then
    if (99 : Int32) ≤ v0 then
      some v0
    else
      some ((v0 + (1 : Int32)))
  else
  if v1 = (1 : Int32) then
    if v0 ≤ 0 then
      some v0
    else
      some ((v0 - (1 : Int32)))
  else
    some v0
def F_X8_purse (v0 : Int32) (v1 : Int32) : Option (Int32) :=
  if v1 = 0 then
    some v0
  else
    some (((18 : Int32) - v0))
def F_X8_queued (v0 : Int32) : Option (Int32) :=
  some ((v0 &&& (7 : Int32)))
def F_X8_says (v0 : Int32) (v1 : Int32) (v2 : Int32) (v3 : Int32) : Option (Int32) :=
  if v0 = (0 : Int32) then
    if v2 = 0 then
      some (0 : Int32)
    else
      some v1
  else
  if v0 = (1 : Int32) then
    if v2 = 0 then
      bnd1 (F_X8_queued v1) fun r47 =>
      if (6 : Int32) ≤ r47 then
        some (0 : Int32)
      else
        some (1 : Int32)
    else
    bnd1 (F_X8_queued v1) fun r62 =>
    if r62 ≤ 0 then
      some (0 : Int32)
    else
      some (((1 : Int32) + ((v1 >>> ((3 : Int32) &&& 31)) &&& (15 : Int32))))
  else
  if v0 = (2 : Int32) then
    if v2 = 0 then
      some (((1 : Int32) - ((v1 >>> (v3 &&& 31)) &&& (1 : Int32))))
    else
      some (((v1 >>> (v3 &&& 31)) &&& (1 : Int32)))
  else
  if v0 = (3 : Int32) then
    bnd1 (F_X8_counted v1 v2) fun r103 =>
    some r103
  else
  if v2 = (2 : Int32) then
    some v1
  else
  bnd1 (F_X8_purse v1 v2) fun r116 =>
  if r116 < v3 then
    some (0 : Int32)
  else
    some (1 : Int32)
def F_X8_after (v0 : Int32) (v1 : Int32) (v2 : Int32) (v3 : Int32) : Option (Int32) :=
  if v2 = (2 : Int32) then
    some v1
  else
  bnd1 (F_X8_queued v1) fun r8 =>
  if v0 = (0 : Int32) then
    some v3
  else
  if v0 = (1 : Int32) then
    if v2 = 0 then
      if (6 : Int32) ≤ r8 then
        some v1
      else
        some (((v1 + (1 : Int32)) + (v3 <<< (((3 : Int32) + ((4 : Int32) * r8)) &&& 31))))
    else
    if r8 ≤ 0 then
      some v1
    else
      some ((((v1 >>> ((7 : Int32) &&& 31)) <<< ((3 : Int32) &&& 31)) ||| (r8 - (1 : Int32))))
  else
  if v0 = (2 : Int32) then
    if v2 = 0 then
      some ((v1 ||| ((1 : Int32) <<< (v3 &&& 31))))
    else
      some ((v1 &&& (((1 : Int32) <<< (v3 &&& 31)) ^^^ (-1 : Int32))))
  else
  if v0 = (3 : Int32) then
    bnd1 (F_X8_counted v1 v2) fun r117 =>
    some r117
  else
  bnd1 (F_X8_purse v1 v2) fun r123 =>
  if v3 ≤ r123 then
    if v2 = 0 then
      some (v1 - v3)
    else
      some (v1 + v3)
  else
    some v1
def F_X8_actAt (v0 : Int32) (v1 : Int32) : Option (Int32) :=
  if v1 = 0 then
    some (0 : Int32)
  else
  if v1 = (1 : Int32) then
    if v0 = 0 then
      some (2 : Int32)
    else
      some (1 : Int32)
  else
    some (2 : Int32)
def F_X8_actCount_b9   : Option (Int32) :=
  some (2 : Int32)
def F_X8_actCount (v0 : Int32) : Option (Int32) :=
  if v0 = 0 then
    F_X8_actCount_b9
  else
  if v0 = (1 : Int32) then
    F_X8_actCount_b9
  else
    some (3 : Int32)
def F_X8_hasWhole_b36  (v1 : Int32) : Option (Int32) :=
  if v1 = 0 then
    some (1 : Int32)
  else
    some (0 : Int32)
def F_X8_hasWhole (v0 : Int32) (v1 : Int32) : Option (Int32) :=
  if v0 = (0 : Int32) then
    F_X8_hasWhole_b36 v1
  else
  if v0 = (1 : Int32) then
    F_X8_hasWhole_b36 v1
  else
  if v0 = (2 : Int32) then
    some (1 : Int32)
  else
  if v0 = (3 : Int32) then
    some (0 : Int32)
  else
  if v0 = (4 : Int32) then
    if v1 = (2 : Int32) then
      some (0 : Int32)
    else
      some (1 : Int32)
  else
    some (0 : Int32)
def F_X8_does_b29   : Option (Int32) :=
  some (1 : Int32)
def F_X8_does (v0 : Int32) (v1 : Int32) : Option (Int32) :=
  if v1 = (1 : Int32) then
    if v0 = 0 then
      some (0 : Int32)
    else
      some (1 : Int32)
  else
  if v1 = 0 then
    F_X8_does_b29
  else
  if v1 = (2 : Int32) then
    if v0 = (1 : Int32) then
      some (0 : Int32)
    else
      F_X8_does_b29
  else
    some (0 : Int32)
def F_X5_kindOf (f_a0_kinds : Nat → Int32) (v1 : Int32) : Option (Int32) :=
  if v1 < 0 then
    some (0 : Int32)
  else
  if (3 : Int32) ≤ v1 then
    some (0 : Int32)
  else
  if v1 < 0 ∨ 3 ≤ v1.toNatClampNeg then none else
  some (f_a0_kinds v1.toNatClampNeg)
def F_X5_addTill (a0_tills : Int32) (f_a0_kinds : Nat → Int32) (v1 : Int32) : Option (Int32 × (Nat → Int32)) :=
  if (3 : Int32) ≤ a0_tills then
    some (a0_tills, f_a0_kinds)
  else
  if a0_tills < 0 ∨ 3 ≤ a0_tills.toNatClampNeg then none else
  some ((a0_tills + (1 : Int32)), (upd f_a0_kinds a0_tills.toNatClampNeg v1))
def F_X5_clear  : Option (Int32 × Int32 × Int32 × Int32) :=
  some ((0 : Int32), (0 : Int32), (0 : Int32), (0 : Int32))
def F_X5_takeOver (a1_told : Int32) (a1_tills : Int32) (a1_cashiers : Int32) (a1_late : Int32) (f_a1_kinds : Nat → Int32) (f_a0_kinds : Nat → Int32) : Option (Int32 × Int32 × Int32 × Int32 × (Nat → Int32)) :=
  if ¬ (a1_told = 0 ∨ a1_told = 1) then none else
  some (a1_told, a1_tills, a1_cashiers, a1_late, (va_cpy f_a1_kinds f_a0_kinds (0 : Int32).toNatClampNeg (0 : Int32).toNatClampNeg (3 : Int32).toNatClampNeg))
def F_X5_hasTill (a0_tills : Int32) (v1 : Int32) : Option (Int32) :=
  if v1 < 0 then
    some (0 : Int32)
  else
  if a0_tills ≤ v1 then
    some (0 : Int32)
  else
    some (1 : Int32)
def F_X5_hasCashier (a0_cashiers : Int32) (v1 : Int32) : Option (Int32) :=
  if v1 < 0 then
    some (0 : Int32)
  else
  if a0_cashiers ≤ v1 then
    some (0 : Int32)
  else
    some (1 : Int32)
def F_X0_clear  : Option (Int32) :=
  some (0 : Int32)
def F_X0_takeOver (a1_n : Int32) (f_a1_cashiers : Nat → Int32) (f_a0_cashiers : Nat → Int32) (f_a1_tills : Nat → Int32) (f_a0_tills : Nat → Int32) (f_a1_acts : Nat → Int32) (f_a0_acts : Nat → Int32) (f_a1_wholes : Nat → Int32) (f_a0_wholes : Nat → Int32) (f_a1_begins : Nat → Int32) (f_a0_begins : Nat → Int32) (f_a1_ends : Nat → Int32) (f_a0_ends : Nat → Int32) (f_a1_answers : Nat → Int32) (f_a0_answers : Nat → Int32) : Option (Int32 × (Nat → Int32) × (Nat → Int32) × (Nat → Int32) × (Nat → Int32) × (Nat → Int32) × (Nat → Int32) × (Nat → Int32)) :=
  some (a1_n, (va_cpy f_a1_cashiers f_a0_cashiers (0 : Int32).toNatClampNeg (0 : Int32).toNatClampNeg (20 : Int32).toNatClampNeg), (va_cpy f_a1_tills f_a0_tills (0 : Int32).toNatClampNeg (0 : Int32).toNatClampNeg (20 : Int32).toNatClampNeg), (va_cpy f_a1_acts f_a0_acts (0 : Int32).toNatClampNeg (0 : Int32).toNatClampNeg (20 : Int32).toNatClampNeg), (va_cpy f_a1_wholes f_a0_wholes (0 : Int32).toNatClampNeg (0 : Int32).toNatClampNeg (20 : Int32).toNatClampNeg), (va_cpy f_a1_begins f_a0_begins (0 : Int32).toNatClampNeg (0 : Int32).toNatClampNeg (20 : Int32).toNatClampNeg), (va_cpy f_a1_ends f_a0_ends (0 : Int32).toNatClampNeg (0 : Int32).toNatClampNeg (20 : Int32).toNatClampNeg), (va_cpy f_a1_answers f_a0_answers (0 : Int32).toNatClampNeg (0 : Int32).toNatClampNeg (20 : Int32).toNatClampNeg))
def F_X0_has (a0_n : Int32) (v1 : Int32) : Option (Int32) :=
  if v1 < 0 then
    some (0 : Int32)
  else
  if a0_n ≤ v1 then
    some (0 : Int32)
  else
  if (20 : Int32) ≤ v1 then
    some (0 : Int32)
  else
    some (1 : Int32)
def F_X0_addOpen (a0_n : Int32) (f_a0_cashiers : Nat → Int32) (f_a0_tills : Nat → Int32) (f_a0_acts : Nat → Int32) (f_a0_wholes : Nat → Int32) (f_a0_begins : Nat → Int32) (f_a0_ends : Nat → Int32) (f_a0_answers : Nat → Int32) (v1 : Int32) (v2 : Int32) (v3 : Int32) (v4 : Int32) (v5 : Int32) : Option (Int32 × Int32 × (Nat → Int32) × (Nat → Int32) × (Nat → Int32) × (Nat → Int32) × (Nat → Int32) × (Nat → Int32) × (Nat → Int32)) :=
  if a0_n < (20 : Int32) then
    if a0_n < 0 ∨ 20 ≤ a0_n.toNatClampNeg then none else
    if a0_n < 0 ∨ 20 ≤ a0_n.toNatClampNeg then none else
    if a0_n < 0 ∨ 20 ≤ a0_n.toNatClampNeg then none else
    if a0_n < 0 ∨ 20 ≤ a0_n.toNatClampNeg then none else
    if a0_n < 0 ∨ 20 ≤ a0_n.toNatClampNeg then none else
    if a0_n < 0 ∨ 20 ≤ a0_n.toNatClampNeg then none else
    if a0_n < 0 ∨ 20 ≤ a0_n.toNatClampNeg then none else
    some (((a0_n + (1 : Int32)) - (1 : Int32)), (a0_n + (1 : Int32)), (upd f_a0_cashiers a0_n.toNatClampNeg v1), (upd f_a0_tills a0_n.toNatClampNeg v2), (upd f_a0_acts a0_n.toNatClampNeg v3), (upd f_a0_wholes a0_n.toNatClampNeg v4), (upd f_a0_begins a0_n.toNatClampNeg v5), (upd f_a0_ends a0_n.toNatClampNeg (-2 : Int32)), (upd f_a0_answers a0_n.toNatClampNeg (-2 : Int32)))
  else
    some ((-1 : Int32), a0_n, f_a0_cashiers, f_a0_tills, f_a0_acts, f_a0_wholes, f_a0_begins, f_a0_ends, f_a0_answers)
def F_X0_close (a0_n : Int32) (f_a0_ends : Nat → Int32) (f_a0_answers : Nat → Int32) (v1 : Int32) (v2 : Int32) (v3 : Int32) : Option ((Nat → Int32) × (Nat → Int32)) :=
  bnd1 (F_X0_has a0_n v1) fun r2 =>
  if r2 = 0 then
    some (f_a0_ends, f_a0_answers)
  else
  if v1 < 0 ∨ 20 ≤ v1.toNatClampNeg then none else
  if v1 < 0 ∨ 20 ≤ v1.toNatClampNeg then none else
  some ((upd f_a0_ends v1.toNatClampNeg v2), (upd f_a0_answers v1.toNatClampNeg v3))
def F_X0_reopen (a0_n : Int32) (f_a0_ends : Nat → Int32) (f_a0_answers : Nat → Int32) (v1 : Int32) : Option ((Nat → Int32) × (Nat → Int32)) :=
  bnd2 (F_X0_close a0_n f_a0_ends f_a0_answers v1 (-2 : Int32) (-2 : Int32)) fun u6_0 u6_1 =>
  some (u6_0, u6_1)
def F_X0_at (n0 : Nat) (f_a0 : Nat → Int32) (v1 : Int32) : Option (Int32) :=
  if v1 < 0 then
    some (0 : Int32)
  else
  if (Int32.ofNat n0) ≤ v1 then
    some (0 : Int32)
  else
  if v1 < 0 ∨ n0 ≤ v1.toNatClampNeg then none else
  some (f_a0 v1.toNatClampNeg)
def F_X0_answerOf (f_a0_answers : Nat → Int32) (v1 : Int32) : Option (Int32) :=
  bnd1 (F_X0_at 20 f_a0_answers v1) fun r5 =>
  some r5
def F_X0_endOf (f_a0_ends : Nat → Int32) (v1 : Int32) : Option (Int32) :=
  bnd1 (F_X0_at 20 f_a0_ends v1) fun r5 =>
  some r5
def F_X0_tellAnother (a0_n : Int32) (f_a0_answers : Nat → Int32) (f_a0_ends : Nat → Int32) (v1 : Int32) (v2 : Int32) : Option (Int32 × (Nat → Int32) × (Nat → Int32)) :=
  bnd1 (F_X0_answerOf f_a0_answers v1) fun r2 =>
  bnd1 (F_X0_endOf f_a0_ends v1) fun r10 =>
  bnd2 (F_X0_close a0_n f_a0_ends f_a0_answers v1 r10 v2) fun u14_0 u14_1 =>
  some (r2, u14_1, u14_0)
def F_X0_dropFrom_b2  (n0 : Nat) : Nat → (Nat → Int32) → Int32 → Option ((Nat → Int32))
  | 0, _, _ => none
  | kf + 1, f_a0, v2 =>
    if (Int32.ofNat n0) ≤ (v2 + (1 : Int32)) then
      some f_a0
    else
    if (v2 + (1 : Int32)) < 0 ∨ n0 ≤ ((v2 + (1 : Int32))).toNatClampNeg then none else
    if v2 < 0 ∨ n0 ≤ v2.toNatClampNeg then none else
    (F_X0_dropFrom_b2 n0 kf) ((upd f_a0 v2.toNatClampNeg (f_a0 ((v2 + (1 : Int32))).toNatClampNeg))) ((v2 + (1 : Int32)))
def F_X0_dropFrom (fu : Nat) (n0 : Nat) (f_a0 : Nat → Int32) (v1 : Int32) : Option ((Nat → Int32)) :=
  F_X0_dropFrom_b2 n0 fu f_a0 v1
def F_X0_drop (fu : Nat) (a0_n : Int32) (f_a0_cashiers : Nat → Int32) (f_a0_tills : Nat → Int32) (f_a0_acts : Nat → Int32) (f_a0_wholes : Nat → Int32) (f_a0_begins : Nat → Int32) (f_a0_ends : Nat → Int32) (f_a0_answers : Nat → Int32) (v1 : Int32) : Option (Int32 × (Nat → Int32) × (Nat → Int32) × (Nat → Int32) × (Nat → Int32) × (Nat → Int32) × (Nat → Int32) × (Nat → Int32)) :=
  bnd1 (F_X0_has a0_n v1) fun r2 =>
  if r2 = 0 then
    some (a0_n, f_a0_cashiers, f_a0_tills, f_a0_acts, f_a0_wholes, f_a0_begins, f_a0_ends, f_a0_answers)
  else
  bnd1 (F_X0_dropFrom fu 20 f_a0_cashiers v1) fun u14_0 =>
  bnd1 (F_X0_dropFrom fu 20 f_a0_tills v1) fun u22_0 =>
  bnd1 (F_X0_dropFrom fu 20 f_a0_acts v1) fun u30_0 =>
  bnd1 (F_X0_dropFrom fu 20 f_a0_wholes v1) fun u38_0 =>
  bnd1 (F_X0_dropFrom fu 20 f_a0_begins v1) fun u46_0 =>
  bnd1 (F_X0_dropFrom fu 20 f_a0_ends v1) fun u54_0 =>
  bnd1 (F_X0_dropFrom fu 20 f_a0_answers v1) fun u62_0 =>
  some ((a0_n - (1 : Int32)), u14_0, u22_0, u30_0, u38_0, u46_0, u54_0, u62_0)
def F_X0_cashierOf (f_a0_cashiers : Nat → Int32) (v1 : Int32) : Option (Int32) :=
  bnd1 (F_X0_at 20 f_a0_cashiers v1) fun r5 =>
  some r5
def F_X0_tillOf (f_a0_tills : Nat → Int32) (v1 : Int32) : Option (Int32) :=
  bnd1 (F_X0_at 20 f_a0_tills v1) fun r5 =>
  some r5
def F_X0_actOf (f_a0_acts : Nat → Int32) (v1 : Int32) : Option (Int32) :=
  bnd1 (F_X0_at 20 f_a0_acts v1) fun r5 =>
  some r5
def F_X0_wholeOf (f_a0_wholes : Nat → Int32) (v1 : Int32) : Option (Int32) :=
  bnd1 (F_X0_at 20 f_a0_wholes v1) fun r5 =>
  some r5
def F_X0_beginOf (f_a0_begins : Nat → Int32) (v1 : Int32) : Option (Int32) :=
  bnd1 (F_X0_at 20 f_a0_begins v1) fun r5 =>
  some r5
def F_X0_isOpen (f_a0_ends : Nat → Int32) (v1 : Int32) : Option (Int32) :=
  bnd1 (F_X0_endOf f_a0_ends v1) fun r2 =>
  if r2 = (-2 : Int32) then
    some (1 : Int32)
  else
    some (0 : Int32)
def F_X0_seen (f_a0_cashiers : Nat → Int32) (f_a0_tills : Nat → Int32) (f_a0_acts : Nat → Int32) (f_a0_wholes : Nat → Int32) (f_a0_begins : Nat → Int32) (f_a0_ends : Nat → Int32) (f_a0_answers : Nat → Int32) (v1 : Int32) (v2 : Int32) : Option (Int32) :=
  if v2 = (0 : Int32) then
    bnd1 (F_X0_cashierOf f_a0_cashiers v1) fun r42 =>
    some r42
  else
  if v2 = (1 : Int32) then
    bnd1 (F_X0_tillOf f_a0_tills v1) fun r48 =>
    some r48
  else
  if v2 = (2 : Int32) then
    bnd1 (F_X0_actOf f_a0_acts v1) fun r54 =>
    some r54
  else
  if v2 = (3 : Int32) then
    bnd1 (F_X0_wholeOf f_a0_wholes v1) fun r60 =>
    some r60
  else
  if v2 = (4 : Int32) then
    bnd1 (F_X0_beginOf f_a0_begins v1) fun r66 =>
    some r66
  else
  if v2 = (5 : Int32) then
    bnd1 (F_X0_endOf f_a0_ends v1) fun r72 =>
    some r72
  else
  bnd1 (F_X0_answerOf f_a0_answers v1) fun r78 =>
  some r78
def F_X0_allOnes (a0_n : Int32) : Option (Int32) :=
  some ((((1 : Int32) <<< (a0_n &&& 31)) - (1 : Int32)))
def F_X0_endedOnes_b26 (k4 : Int32 → Int32 → Option (Int32)) (a0_n : Int32) (f_a0_ends : Nat → Int32) (v1 : Int32) (v2 : Int32) : Option (Int32) :=
  k4 v1 ((v2 + (1 : Int32)))
def F_X0_endedOnes_b4  (a0_n : Int32) (f_a0_ends : Nat → Int32) : Nat → Int32 → Int32 → Option (Int32)
  | 0, _, _ => none
  | kf + 1, v1, v2 =>
    if a0_n ≤ v2 then
      some v1
    else
    bnd1 (F_X0_isOpen f_a0_ends v2) fun r14 =>
    if r14 = 0 then
      F_X0_endedOnes_b26 (F_X0_endedOnes_b4 a0_n f_a0_ends kf) a0_n f_a0_ends ((v1 ||| ((1 : Int32) <<< (v2 &&& 31)))) v2
    else
      F_X0_endedOnes_b26 (F_X0_endedOnes_b4 a0_n f_a0_ends kf) a0_n f_a0_ends v1 v2
def F_X0_endedOnes (fu : Nat) (a0_n : Int32) (f_a0_ends : Nat → Int32) : Option (Int32) :=
  F_X0_endedOnes_b4 a0_n f_a0_ends fu (0 : Int32) (0 : Int32)
def F_X0_onesOfTill_b27 (k4 : Int32 → Int32 → Option (Int32)) (a0_n : Int32) (f_a0_tills : Nat → Int32) (v1 : Int32) (v2 : Int32) (v3 : Int32) : Option (Int32) :=
  k4 v2 ((v3 + (1 : Int32)))
def F_X0_onesOfTill_b4  (a0_n : Int32) (f_a0_tills : Nat → Int32) (v1 : Int32) : Nat → Int32 → Int32 → Option (Int32)
  | 0, _, _ => none
  | kf + 1, v2, v3 =>
    if a0_n ≤ v3 then
      some v2
    else
    bnd1 (F_X0_tillOf f_a0_tills v3) fun r14 =>
    if r14 = v1 then
      F_X0_onesOfTill_b27 (F_X0_onesOfTill_b4 a0_n f_a0_tills v1 kf) a0_n f_a0_tills v1 ((v2 ||| ((1 : Int32) <<< (v3 &&& 31)))) v3
    else
      F_X0_onesOfTill_b27 (F_X0_onesOfTill_b4 a0_n f_a0_tills v1 kf) a0_n f_a0_tills v1 v2 v3
def F_X0_onesOfTill (fu : Nat) (a0_n : Int32) (f_a0_tills : Nat → Int32) (v1 : Int32) : Option (Int32) :=
  F_X0_onesOfTill_b4 a0_n f_a0_tills v1 fu (0 : Int32) (0 : Int32)
def F_X0_onesBegunBy_b27 (k4 : Int32 → Int32 → Option (Int32)) (a0_n : Int32) (f_a0_begins : Nat → Int32) (v1 : Int32) (v2 : Int32) (v3 : Int32) : Option (Int32) :=
  k4 v2 ((v3 + (1 : Int32)))
def F_X0_onesBegunBy_b4  (a0_n : Int32) (f_a0_begins : Nat → Int32) (v1 : Int32) : Nat → Int32 → Int32 → Option (Int32)
  | 0, _, _ => none
  | kf + 1, v2, v3 =>
    if a0_n ≤ v3 then
      some v2
    else
    bnd1 (F_X0_beginOf f_a0_begins v3) fun r14 =>
    if v1 < r14 then
      F_X0_onesBegunBy_b27 (F_X0_onesBegunBy_b4 a0_n f_a0_begins v1 kf) a0_n f_a0_begins v1 v2 v3
    else
      F_X0_onesBegunBy_b27 (F_X0_onesBegunBy_b4 a0_n f_a0_begins v1 kf) a0_n f_a0_begins v1 ((v2 ||| ((1 : Int32) <<< (v3 &&& 31)))) v3
def F_X0_onesBegunBy (fu : Nat) (a0_n : Int32) (f_a0_begins : Nat → Int32) (v1 : Int32) : Option (Int32) :=
  F_X0_onesBegunBy_b4 a0_n f_a0_begins v1 fu (0 : Int32) (0 : Int32)
def F_X0_firstEndedBut_b47 (k4 : Int32 → Int32 → Option (Int32)) (a0_n : Int32) (f_a0_ends : Nat → Int32) (v1 : Int32) (v2 : Int32) (v3 : Int32) : Option (Int32) :=
  k4 v2 ((v3 + (1 : Int32)))
def F_X0_firstEndedBut_b45 (k4 : Int32 → Int32 → Option (Int32)) (a0_n : Int32) (f_a0_ends : Nat → Int32) (v1 : Int32) (v3 : Int32) : Option (Int32) :=
  F_X0_firstEndedBut_b47 k4 a0_n f_a0_ends v1 v3 v3
def F_X0_firstEndedBut_b4  (a0_n : Int32) (f_a0_ends : Nat → Int32) (v1 : Int32) : Nat → Int32 → Int32 → Option (Int32)
  | 0, _, _ => none
  | kf + 1, v2, v3 =>
    if a0_n ≤ v3 then
      some v2
    else
    bnd1 (F_X0_isOpen f_a0_ends v3) fun r14 =>
    if r14 = 0 then
      if ((v1 >>> (v3 &&& 31)) &&& (1 : Int32)) = 0 then
        if v2 < 0 then
          F_X0_firstEndedBut_b45 (F_X0_firstEndedBut_b4 a0_n f_a0_ends v1 kf) a0_n f_a0_ends v1 v3
        else
        bnd1 (F_X0_endOf f_a0_ends v3) fun r34 =>
        bnd1 (F_X0_endOf f_a0_ends v2) fun r39 =>
        if r39 ≤ r34 then
          F_X0_firstEndedBut_b47 (F_X0_firstEndedBut_b4 a0_n f_a0_ends v1 kf) a0_n f_a0_ends v1 v2 v3
        else
          F_X0_firstEndedBut_b45 (F_X0_firstEndedBut_b4 a0_n f_a0_ends v1 kf) a0_n f_a0_ends v1 v3
      else
        F_X0_firstEndedBut_b47 (F_X0_firstEndedBut_b4 a0_n f_a0_ends v1 kf) a0_n f_a0_ends v1 v2 v3
    else
      F_X0_firstEndedBut_b47 (F_X0_firstEndedBut_b4 a0_n f_a0_ends v1 kf) a0_n f_a0_ends v1 v2 v3
def F_X0_firstEndedBut (fu : Nat) (a0_n : Int32) (f_a0_ends : Nat → Int32) (v1 : Int32) : Option (Int32) :=
  F_X0_firstEndedBut_b4 a0_n f_a0_ends v1 fu (-1 : Int32) (0 : Int32)
def F_X0_lastOf_b7  (f_a0_cashiers : Nat → Int32) (v1 : Int32) : Nat → Int32 → Option (Int32)
  | 0, _ => none
  | kf + 1, v2 =>
    if v2 < 0 then
      some (-1 : Int32)
    else
    bnd1 (F_X0_cashierOf f_a0_cashiers v2) fun r13 =>
    if r13 = v1 then
      some v2
    else
      (F_X0_lastOf_b7 f_a0_cashiers v1 kf) ((v2 + (-1 : Int32)))
def F_X0_lastOf (fu : Nat) (a0_n : Int32) (f_a0_cashiers : Nat → Int32) (v1 : Int32) : Option (Int32) :=
  F_X0_lastOf_b7 f_a0_cashiers v1 fu ((a0_n - (1 : Int32)))
def F_X0_openAt_b29 (k4 : Int32 → Int32 → Option (Int32)) (a0_n : Int32) (f_a0_ends : Nat → Int32) (v2 : Int32) (v3 : Int32) : Option (Int32) :=
  k4 v2 ((v3 + (1 : Int32)))
def F_X0_openAt_b4  (a0_n : Int32) (f_a0_ends : Nat → Int32) : Nat → Int32 → Int32 → Option (Int32)
  | 0, _, _ => none
  | kf + 1, v2, v3 =>
    if a0_n ≤ v3 then
      some (-1 : Int32)
    else
    bnd1 (F_X0_isOpen f_a0_ends v3) fun r14 =>
    if r14 = 0 then
      F_X0_openAt_b29 (F_X0_openAt_b4 a0_n f_a0_ends kf) a0_n f_a0_ends v2 v3
    else
    if v2 = 0 then
      some v3
    else
      F_X0_openAt_b29 (F_X0_openAt_b4 a0_n f_a0_ends kf) a0_n f_a0_ends ((v2 + (-1 : Int32))) v3
def F_X0_openAt (fu : Nat) (a0_n : Int32) (f_a0_ends : Nat → Int32) (v1 : Int32) : Option (Int32) :=
  F_X0_openAt_b4 a0_n f_a0_ends fu v1 (0 : Int32)
def F_X4_endedAhead_b53 (k6 : Int32 → Int32 → Option (Int32)) (a1_n : Int32) (a0_timed : Int32) (f_a1_begins : Nat → Int32) (f_a1_ends : Nat → Int32) (v2 : Int32) (v3 : Int32) (v4 : Int32) (v5 : Int32) : Option (Int32) :=
  k6 v4 ((v5 + (1 : Int32)))
def F_X4_endedAhead_b6  (a1_n : Int32) (a0_timed : Int32) (f_a1_begins : Nat → Int32) (f_a1_ends : Nat → Int32) (v2 : Int32) (v3 : Int32) : Nat → Int32 → Int32 → Option (Int32)
  | 0, _, _ => none
  | kf + 1, v4, v5 =>
    if a1_n ≤ v5 then
      some v4
    else
    if ((a0_timed >>> (v5 &&& 31)) &&& (1 : Int32)) = (1 : Int32) then
      bnd1 (F_X0_beginOf f_a1_begins v2) fun r30 =>
      bnd1 (F_X0_endOf f_a1_ends v5) fun r36 =>
      if (r30 - r36) ≤ v3 then
        F_X4_endedAhead_b53 (F_X4_endedAhead_b6 a1_n a0_timed f_a1_begins f_a1_ends v2 v3 kf) a1_n a0_timed f_a1_begins f_a1_ends v2 v3 v4 v5
      else
        F_X4_endedAhead_b53 (F_X4_endedAhead_b6 a1_n a0_timed f_a1_begins f_a1_ends v2 v3 kf) a1_n a0_timed f_a1_begins f_a1_ends v2 v3 ((v4 ||| ((1 : Int32) <<< (v5 &&& 31)))) v5
    else
      F_X4_endedAhead_b53 (F_X4_endedAhead_b6 a1_n a0_timed f_a1_begins f_a1_ends v2 v3 kf) a1_n a0_timed f_a1_begins f_a1_ends v2 v3 v4 v5
def F_X4_endedAhead (fu : Nat) (a1_n : Int32) (a0_timed : Int32) (f_a1_begins : Nat → Int32) (f_a1_ends : Nat → Int32) (v2 : Int32) (v3 : Int32) : Option (Int32) :=
  F_X4_endedAhead_b6 a1_n a0_timed f_a1_begins f_a1_ends v2 v3 fu (0 : Int32) (0 : Int32)
def F_X4_bind_b88 (k10 : (Nat → Int32) → (Nat → Int32) → Int32 → Option ((Nat → Int32) × (Nat → Int32))) (fu : Nat) (a0_there : Int32) (a0_timed : Int32) (f_a0_own : Nat → Int32) (a1_n : Int32) (f_a1_cashiers : Nat → Int32) (f_a1_begins : Nat → Int32) (f_a1_ends : Nat → Int32) (f_a0_ahead : Nat → Int32) (v2 : Int32) (v3 : Int32) : Option ((Nat → Int32) × (Nat → Int32)) :=
  k10 f_a0_own f_a0_ahead ((v3 + (1 : Int32)))
def F_X4_bind_b10  (fu : Nat) (a0_there : Int32) (a0_timed : Int32) (a1_n : Int32) (f_a1_cashiers : Nat → Int32) (f_a1_begins : Nat → Int32) (f_a1_ends : Nat → Int32) (v2 : Int32) : Nat → (Nat → Int32) → (Nat → Int32) → Int32 → Option ((Nat → Int32) × (Nat → Int32))
  | 0, _, _, _ => none
  | kf + 1, f_a0_own, f_a0_ahead, v3 =>
    if a1_n ≤ v3 then
      some (f_a0_own, f_a0_ahead)
    else
    if (20 : Int32) ≤ v3 then
      some (f_a0_own, f_a0_ahead)
    else
    bnd1 (F_X0_cashierOf f_a1_cashiers v3) fun r26 =>
    if ((a0_there >>> (v3 &&& 31)) &&& (1 : Int32)) = (1 : Int32) then
      if r26 < 0 then
        F_X4_bind_b88 (F_X4_bind_b10 fu a0_there a0_timed a1_n f_a1_cashiers f_a1_begins f_a1_ends v2 kf) fu a0_there a0_timed f_a0_own a1_n f_a1_cashiers f_a1_begins f_a1_ends f_a0_ahead v2 v3
      else
      if (4 : Int32) ≤ r26 then
        F_X4_bind_b88 (F_X4_bind_b10 fu a0_there a0_timed a1_n f_a1_cashiers f_a1_begins f_a1_ends v2 kf) fu a0_there a0_timed f_a0_own a1_n f_a1_cashiers f_a1_begins f_a1_ends f_a0_ahead v2 v3
      else
      if r26 < 0 ∨ 4 ≤ r26.toNatClampNeg then none else
      bnd1 (F_X4_endedAhead fu a1_n a0_timed f_a1_begins f_a1_ends v3 v2) fun r70 =>
      if v3 < 0 ∨ 20 ≤ v3.toNatClampNeg then none else
      if r26 < 0 ∨ 4 ≤ r26.toNatClampNeg then none else
      if r26 < 0 ∨ 4 ≤ r26.toNatClampNeg then none else
      F_X4_bind_b88 (F_X4_bind_b10 fu a0_there a0_timed a1_n f_a1_cashiers f_a1_begins f_a1_ends v2 kf) fu a0_there a0_timed ((upd f_a0_own r26.toNatClampNeg ((f_a0_own r26.toNatClampNeg) ||| ((1 : Int32) <<< (v3 &&& 31))))) a1_n f_a1_cashiers f_a1_begins f_a1_ends ((upd f_a0_ahead v3.toNatClampNeg ((f_a0_own r26.toNatClampNeg) ||| r70))) v2 v3
    else
      F_X4_bind_b88 (F_X4_bind_b10 fu a0_there a0_timed a1_n f_a1_cashiers f_a1_begins f_a1_ends v2 kf) fu a0_there a0_timed f_a0_own a1_n f_a1_cashiers f_a1_begins f_a1_ends f_a0_ahead v2 v3
def F_X4_bind (fu : Nat) (a0_there : Int32) (a0_timed : Int32) (f_a0_own : Nat → Int32) (a1_n : Int32) (f_a1_cashiers : Nat → Int32) (f_a1_begins : Nat → Int32) (f_a1_ends : Nat → Int32) (f_a0_ahead : Nat → Int32) (v2 : Int32) : Option ((Nat → Int32) × (Nat → Int32)) :=
  bnd1 (F_J7_fill_53178 fu 4 f_a0_own (0 : Int32)) fun u5_0 =>
  F_X4_bind_b10 fu a0_there a0_timed a1_n f_a1_cashiers f_a1_begins f_a1_ends v2 fu u5_0 f_a0_ahead (0 : Int32)
def F_X4_gapOf (v0 : Int32) (v1 : Int32) : Option (Int32) :=
  if v0 = (1 : Int32) then
    some (1000 : Int32)
  else
  if v0 = (2 : Int32) then
    some v1
  else
    some (0 : Int32)
def F_X4_takeSome (v1 : Int32) (v2 : Int32) : Option (Int32 × Int32 × Int32 × Int32) :=
  some (v1, (v1 &&& v2), (v1 &&& v2), (v1 &&& v2))
def F_X4_takeAll (fu : Nat) (a1_n : Int32) (f_a1_ends : Nat → Int32) : Option (Int32 × Int32 × Int32 × Int32) :=
  bnd1 (F_X0_allOnes a1_n) fun r2 =>
  bnd1 (F_X0_endedOnes fu a1_n f_a1_ends) fun r6 =>
  bnd4 (F_X4_takeSome r2 r6) fun u9_0 u9_1 u9_2 u9_3 =>
  some (u9_0, u9_1, u9_2, u9_3)
def F_X4_nextOf_b39  (f_a0_ahead : Nat → Int32) (v2 : Int32) (t0 : Int32) : Option (Int32) :=
  if t0 < 0 then
    some (-1 : Int32)
  else
  if (20 : Int32) ≤ t0 then
    some (-1 : Int32)
  else
  if t0 < 0 ∨ 20 ≤ t0.toNatClampNeg then none else
  if ((f_a0_ahead t0.toNatClampNeg) &&& (v2 ^^^ (-1 : Int32))) = 0 then
    some t0
  else
    some (-1 : Int32)
def F_X4_nextOf (f_a0_own : Nat → Int32) (f_a0_ahead : Nat → Int32) (v1 : Int32) (v2 : Int32) : Option (Int32) :=
  if v1 < 0 then
    some (-1 : Int32)
  else
  if v1 < (4 : Int32) then
    if v1 < 0 ∨ 4 ≤ v1.toNatClampNeg then none else
    if ((f_a0_own v1.toNatClampNeg) &&& (v2 ^^^ (-1 : Int32))) = 0 then
      F_X4_nextOf_b39 f_a0_ahead v2 (-1 : Int32)
    else
    bnd1 (F_J6_bitCount_0f7a4 (((((f_a0_own v1.toNatClampNeg) &&& (v2 ^^^ (-1 : Int32))) &&& (-((f_a0_own v1.toNatClampNeg) &&& (v2 ^^^ (-1 : Int32))))) - (1 : Int32)))) fun r36 =>
    F_X4_nextOf_b39 f_a0_ahead v2 r36
  else
    some (-1 : Int32)
def F_X4_isEnd (a0_must : Int32) (v1 : Int32) : Option (Int32) :=
  if (a0_must &&& (v1 ^^^ (-1 : Int32))) = 0 then
    some (1 : Int32)
  else
    some (0 : Int32)
def F_X6_alike_b23  (f_a0_tills : Nat → Int32) (v1 : Int32) (v2 : Int32) : Nat → Int32 → Option (Int32)
  | 0, _ => none
  | kf + 1, v4 =>
    if (3 : Int32) ≤ v4 then
      some (1 : Int32)
    else
    if ((v1 * (3 : Int32)) + v4) < 0 ∨ 18003 ≤ (((v1 * (3 : Int32)) + v4)).toNatClampNeg then none else
    if ((v2 * (3 : Int32)) + v4) < 0 ∨ 18003 ≤ (((v2 * (3 : Int32)) + v4)).toNatClampNeg then none else
    if (f_a0_tills (((v1 * (3 : Int32)) + v4)).toNatClampNeg) = (f_a0_tills (((v2 * (3 : Int32)) + v4)).toNatClampNeg) then
      (F_X6_alike_b23 f_a0_tills v1 v2 kf) ((v4 + (1 : Int32)))
    else
      some (0 : Int32)
def F_X6_alike (fu : Nat) (f_a0_done : Nat → Int32) (f_a0_tills : Nat → Int32) (v1 : Int32) (v2 : Int32) (v3 : Int32) : Option (Int32) :=
  if v1 < 0 ∨ 6001 ≤ v1.toNatClampNeg then none else
  if v2 < 0 ∨ 6001 ≤ v2.toNatClampNeg then none else
  if (((f_a0_done v1.toNatClampNeg) ^^^ (f_a0_done v2.toNatClampNeg)) &&& v3) = 0 then
    F_X6_alike_b23 f_a0_tills v1 v2 fu (0 : Int32)
  else
    some (0 : Int32)
def F_X6_find_b107  (a0_base : Int32) (f_a0_table : Nat → Int32) (v1 : Int32) (v5 : Int32) : Option (Int32 × (Nat → Int32)) :=
  if v5 < 0 ∨ 16384 ≤ v5.toNatClampNeg then none else
  some (v1, (upd f_a0_table v5.toNatClampNeg (a0_base + v1)))
def F_X6_find_b72  (fu : Nat) (a0_base : Int32) (f_a0_done : Nat → Int32) (f_a0_tills : Nat → Int32) (f_a0_table : Nat → Int32) (v1 : Int32) (v2 : Int32) : Nat → Int32 → Int32 → Option (Int32 × (Nat → Int32))
  | 0, _, _ => none
  | kf + 1, v5, v6 =>
    if (16384 : Int32) ≤ v6 then
      some ((-1 : Int32), f_a0_table)
    else
    if v5 < 0 ∨ 16384 ≤ v5.toNatClampNeg then none else
    if ((f_a0_table v5.toNatClampNeg) - a0_base) < 0 then
      F_X6_find_b107 a0_base f_a0_table v1 v5
    else
    if ((f_a0_table v5.toNatClampNeg) - a0_base) < (6001 : Int32) then
      bnd1 (F_X6_alike fu f_a0_done f_a0_tills (((f_a0_table v5.toNatClampNeg) - a0_base)) v1 v2) fun r127 =>
      if r127 = 0 then
        (F_X6_find_b72 fu a0_base f_a0_done f_a0_tills f_a0_table v1 v2 kf) (((v5 + (1 : Int32)) &&& (16383 : Int32))) ((v6 + (1 : Int32)))
      else
        some (((f_a0_table v5.toNatClampNeg) - a0_base), f_a0_table)
    else
      F_X6_find_b107 a0_base f_a0_table v1 v5
def F_X6_find_b20  (fu : Nat) (a0_base : Int32) (f_a0_done : Nat → Int32) (f_a0_tills : Nat → Int32) (f_a0_table : Nat → Int32) (v1 : Int32) (v2 : Int32) (v3 : Int32) : Nat → Int32 → Int32 → Option (Int32 × (Nat → Int32))
  | 0, _, _ => none
  | kf + 1, v4, v5 =>
    if (3 : Int32) ≤ v5 then
      F_X6_find_b72 fu a0_base f_a0_done f_a0_tills f_a0_table v1 v2 fu (((v4 ^^^ (kushr v4 (14 : Int32))) &&& (16383 : Int32))) (0 : Int32)
    else
    if (v3 + v5) < 0 ∨ 18003 ≤ (v3 + v5).toNatClampNeg then none else
    (F_X6_find_b20 fu a0_base f_a0_done f_a0_tills f_a0_table v1 v2 v3 kf) ((((v4 ^^^ (kushr v4 (15 : Int32))) ^^^ (f_a0_tills (v3 + v5).toNatClampNeg)) * (695872825 : Int32))) ((v5 + (1 : Int32)))
def F_X6_find (fu : Nat) (a0_base : Int32) (f_a0_done : Nat → Int32) (f_a0_tills : Nat → Int32) (f_a0_table : Nat → Int32) (v1 : Int32) (v2 : Int32) : Option (Int32 × (Nat → Int32)) :=
  if v1 < 0 ∨ 6001 ≤ v1.toNatClampNeg then none else
  F_X6_find_b20 fu a0_base f_a0_done f_a0_tills f_a0_table v1 v2 ((v1 * (3 : Int32))) fu ((((f_a0_done v1.toNatClampNeg) &&& v2) * (739982445 : Int32))) (0 : Int32)
def F_X6_begin_b9  (fu : Nat) (a0_base : Int32) (f_a0_done : Nat → Int32) (f_a0_table : Nat → Int32) (f_a0_shop_kinds : Nat → Int32) : Nat → (Nat → Int32) → Int32 → Option (Int32 × (Nat → Int32) × (Nat → Int32) × (Nat → Int32))
  | 0, _, _ => none
  | kf + 1, f_a0_tills, v1 =>
    if (3 : Int32) ≤ v1 then
      bnd2 (F_X6_find fu a0_base f_a0_done f_a0_tills f_a0_table (0 : Int32) (-1 : Int32)) fun r40 u40_0 =>
      some ((1 : Int32), f_a0_done, f_a0_tills, u40_0)
    else
    bnd1 (F_X5_kindOf f_a0_shop_kinds v1) fun r24 =>
    bnd1 (F_X8_atFirst r24) fun r27 =>
    if v1 < 0 ∨ 18003 ≤ v1.toNatClampNeg then none else
    (F_X6_begin_b9 fu a0_base f_a0_done f_a0_table f_a0_shop_kinds kf) (upd f_a0_tills v1.toNatClampNeg r27) ((v1 + (1 : Int32)))
def F_X6_begin (fu : Nat) (a0_base : Int32) (f_a0_done : Nat → Int32) (f_a0_tills : Nat → Int32) (f_a0_table : Nat → Int32) (f_a0_shop_kinds : Nat → Int32) : Option (Int32 × (Nat → Int32) × (Nat → Int32) × (Nat → Int32)) :=
  F_X6_begin_b9 fu a0_base ((upd f_a0_done (0 : Int32).toNatClampNeg (0 : Int32))) f_a0_table f_a0_shop_kinds fu f_a0_tills (0 : Int32)
def F_X6_forget (fu : Nat) (a0_base : Int32) (f_a0_table : Nat → Int32) : Option (Int32 × (Nat → Int32)) :=
  if a0_base ≤ (2000000000 : Int32) then
    some ((a0_base + (6001 : Int32)), f_a0_table)
  else
  bnd1 (F_J7_fill_53178 fu 16384 f_a0_table (0 : Int32)) fun u14_0 =>
  some ((1 : Int32), u14_0)
def F_X6_isOtherwise_b46  (f_a0_shop_kinds : Nat → Int32) (f_a0_calls_acts : Nat → Int32) (f_a0_calls_wholes : Nat → Int32) (f_a0_calls_answers : Nat → Int32) (v2 : Int32) (v4 : Int32) (t0 : Int32) : Option (Int32) :=
  bnd1 (F_X5_kindOf f_a0_shop_kinds v4) fun r54 =>
  bnd1 (F_X0_actOf f_a0_calls_acts v2) fun r64 =>
  bnd1 (F_X0_wholeOf f_a0_calls_wholes v2) fun r72 =>
  bnd1 (F_X8_says r54 t0 r64 r72) fun r75 =>
  bnd1 (F_X0_answerOf f_a0_calls_answers v2) fun r83 =>
  if r75 = r83 then
    some (0 : Int32)
  else
    some (1 : Int32)
def F_X6_isOtherwise_b45  (f_a0_shop_kinds : Nat → Int32) (f_a0_calls_acts : Nat → Int32) (f_a0_calls_wholes : Nat → Int32) (f_a0_calls_answers : Nat → Int32) (v2 : Int32) (v4 : Int32) : Option (Int32) :=
  F_X6_isOtherwise_b46 f_a0_shop_kinds f_a0_calls_acts f_a0_calls_wholes f_a0_calls_answers v2 v4 (0 : Int32)
def F_X6_isOtherwise (f_a0_calls_tills : Nat → Int32) (f_a0_tills : Nat → Int32) (f_a0_shop_kinds : Nat → Int32) (f_a0_calls_acts : Nat → Int32) (f_a0_calls_wholes : Nat → Int32) (f_a0_calls_answers : Nat → Int32) (v1 : Int32) (v2 : Int32) (v3 : Int32) : Option (Int32) :=
  if ((v3 >>> (v2 &&& 31)) &&& (1 : Int32)) = 0 then
    some (0 : Int32)
  else
  bnd1 (F_X0_tillOf f_a0_calls_tills v2) fun r15 =>
  if r15 < 0 then
    F_X6_isOtherwise_b45 f_a0_shop_kinds f_a0_calls_acts f_a0_calls_wholes f_a0_calls_answers v2 r15
  else
  if (3 : Int32) ≤ r15 then
    F_X6_isOtherwise_b45 f_a0_shop_kinds f_a0_calls_acts f_a0_calls_wholes f_a0_calls_answers v2 r15
  else
  if ((v1 * (3 : Int32)) + r15) < 0 ∨ 18003 ≤ (((v1 * (3 : Int32)) + r15)).toNatClampNeg then none else
  F_X6_isOtherwise_b46 f_a0_shop_kinds f_a0_calls_acts f_a0_calls_wholes f_a0_calls_answers v2 r15 ((f_a0_tills (((v1 * (3 : Int32)) + r15)).toNatClampNeg))
def F_X6_leadOn_b146  (fu : Nat) (a0_base : Int32) (a0_count : Int32) (f_a0_tills : Nat → Int32) (f_a0_done : Nat → Int32) (f_a0_table : Nat → Int32) (v1 : Int32) (v2 : Int32) : Option (Int32 × Int32 × (Nat → Int32) × (Nat → Int32) × (Nat → Int32)) :=
  if v1 < 0 ∨ 6001 ≤ v1.toNatClampNeg then none else
  if a0_count < 0 ∨ 6001 ≤ a0_count.toNatClampNeg then none else
  bnd2 (F_X6_find fu a0_base ((upd f_a0_done a0_count.toNatClampNeg ((f_a0_done v1.toNatClampNeg) ||| ((1 : Int32) <<< (v2 &&& 31))))) f_a0_tills f_a0_table a0_count (-1 : Int32)) fun r171 u171_0 =>
  if r171 = a0_count then
    some (r171, (a0_count + (1 : Int32)), f_a0_tills, (upd f_a0_done a0_count.toNatClampNeg ((f_a0_done v1.toNatClampNeg) ||| ((1 : Int32) <<< (v2 &&& 31)))), u171_0)
  else
    some (r171, a0_count, f_a0_tills, (upd f_a0_done a0_count.toNatClampNeg ((f_a0_done v1.toNatClampNeg) ||| ((1 : Int32) <<< (v2 &&& 31)))), u171_0)
def F_X6_leadOn_b47  (fu : Nat) (a0_base : Int32) (a0_count : Int32) (f_a0_calls_tills : Nat → Int32) (f_a0_shop_kinds : Nat → Int32) (f_a0_calls_acts : Nat → Int32) (f_a0_calls_wholes : Nat → Int32) (f_a0_done : Nat → Int32) (f_a0_table : Nat → Int32) (v1 : Int32) (v2 : Int32) (v3 : Int32) (v4 : Int32) : Nat → (Nat → Int32) → Int32 → Option (Int32 × Int32 × (Nat → Int32) × (Nat → Int32) × (Nat → Int32))
  | 0, _, _ => none
  | kf + 1, f_a0_tills, v5 =>
    if (3 : Int32) ≤ v5 then
      bnd1 (F_X0_tillOf f_a0_calls_tills v2) fun r83 =>
      if r83 < 0 then
        F_X6_leadOn_b146 fu a0_base a0_count f_a0_tills f_a0_done f_a0_table v1 v2
      else
      if (3 : Int32) ≤ r83 then
        F_X6_leadOn_b146 fu a0_base a0_count f_a0_tills f_a0_done f_a0_table v1 v2
      else
      bnd1 (F_X5_kindOf f_a0_shop_kinds r83) fun r114 =>
      if (v3 + r83) < 0 ∨ 18003 ≤ (v3 + r83).toNatClampNeg then none else
      bnd1 (F_X0_actOf f_a0_calls_acts v2) fun r131 =>
      bnd1 (F_X0_wholeOf f_a0_calls_wholes v2) fun r139 =>
      bnd1 (F_X8_after r114 ((f_a0_tills (v3 + r83).toNatClampNeg)) r131 r139) fun r142 =>
      if (v4 + r83) < 0 ∨ 18003 ≤ (v4 + r83).toNatClampNeg then none else
      F_X6_leadOn_b146 fu a0_base a0_count ((upd f_a0_tills (v4 + r83).toNatClampNeg r142)) f_a0_done f_a0_table v1 v2
    else
    if (v3 + v5) < 0 ∨ 18003 ≤ (v3 + v5).toNatClampNeg then none else
    if (v4 + v5) < 0 ∨ 18003 ≤ (v4 + v5).toNatClampNeg then none else
    (F_X6_leadOn_b47 fu a0_base a0_count f_a0_calls_tills f_a0_shop_kinds f_a0_calls_acts f_a0_calls_wholes f_a0_done f_a0_table v1 v2 v3 v4 kf) ((upd f_a0_tills (v4 + v5).toNatClampNeg (f_a0_tills (v3 + v5).toNatClampNeg))) ((v5 + (1 : Int32)))
def F_X6_leadOn (fu : Nat) (a0_base : Int32) (a0_count : Int32) (a0_rules_strict : Int32) (f_a0_calls_tills : Nat → Int32) (f_a0_tills : Nat → Int32) (f_a0_shop_kinds : Nat → Int32) (f_a0_calls_acts : Nat → Int32) (f_a0_calls_wholes : Nat → Int32) (f_a0_calls_answers : Nat → Int32) (f_a0_done : Nat → Int32) (f_a0_table : Nat → Int32) (v1 : Int32) (v2 : Int32) : Option (Int32 × Int32 × (Nat → Int32) × (Nat → Int32) × (Nat → Int32)) :=
  if v2 < 0 then
    some ((-1 : Int32), a0_count, f_a0_tills, f_a0_done, f_a0_table)
  else
  if (6000 : Int32) < a0_count then
    some ((-1 : Int32), a0_count, f_a0_tills, f_a0_done, f_a0_table)
  else
  bnd1 (F_X6_isOtherwise f_a0_calls_tills f_a0_tills f_a0_shop_kinds f_a0_calls_acts f_a0_calls_wholes f_a0_calls_answers v1 v2 a0_rules_strict) fun r24 =>
  if r24 = 0 then
    F_X6_leadOn_b47 fu a0_base a0_count f_a0_calls_tills f_a0_shop_kinds f_a0_calls_acts f_a0_calls_wholes f_a0_done f_a0_table v1 v2 ((v1 * (3 : Int32))) ((a0_count * (3 : Int32))) fu f_a0_tills (0 : Int32)
  else
    some ((-1 : Int32), a0_count, f_a0_tills, f_a0_done, f_a0_table)
def F_X6_explore_b32 (k15 : Int32 → (Nat → Int32) → (Nat → Int32) → (Nat → Int32) → (Nat → Int32) → Int32 → Option (Int32 × Int32 × Int32 × (Nat → Int32) × (Nat → Int32) × (Nat → Int32) × (Nat → Int32))) (fu : Nat) (a0_base : Int32) (f_a0_shop_kinds : Nat → Int32) (a0_rules_strict : Int32) (f_a0_rules_own : Nat → Int32) (f_a0_rules_ahead : Nat → Int32) (f_a1_tills : Nat → Int32) (f_a1_acts : Nat → Int32) (f_a1_wholes : Nat → Int32) (f_a1_answers : Nat → Int32) (v2 : Int32) : Nat → Int32 → (Nat → Int32) → (Nat → Int32) → (Nat → Int32) → (Nat → Int32) → Int32 → Option (Int32 × Int32 × Int32 × (Nat → Int32) × (Nat → Int32) × (Nat → Int32) × (Nat → Int32))
  | 0, _, _, _, _, _, _ => none
  | kf + 1, a0_count, f_a0_table, f_a0_done, f_a0_tills, f_a0_leads, v3 =>
    if (4 : Int32) ≤ v3 then
      if a0_count ≤ (6000 : Int32) then
        k15 a0_count f_a0_table f_a0_done f_a0_tills f_a0_leads ((v2 + (1 : Int32)))
      else
        some ((0 : Int32), a0_base, a0_count, f_a0_table, f_a0_done, f_a0_tills, f_a0_leads)
    else
    if v2 < 0 ∨ 6001 ≤ v2.toNatClampNeg then none else
    bnd1 (F_X4_nextOf f_a0_rules_own f_a0_rules_ahead v3 (f_a0_done v2.toNatClampNeg)) fun r59 =>
    bnd5 (F_X6_leadOn fu a0_base a0_count a0_rules_strict f_a1_tills f_a0_tills f_a0_shop_kinds f_a1_acts f_a1_wholes f_a1_answers f_a0_done f_a0_table v2 r59) fun r62 u62_0 u62_1 u62_2 u62_3 =>
    if ((v2 * (4 : Int32)) + v3) < 0 ∨ 24004 ≤ (((v2 * (4 : Int32)) + v3)).toNatClampNeg then none else
    (F_X6_explore_b32 k15 fu a0_base f_a0_shop_kinds a0_rules_strict f_a0_rules_own f_a0_rules_ahead f_a1_tills f_a1_acts f_a1_wholes f_a1_answers v2 kf) u62_0 u62_3 u62_2 u62_1 ((upd f_a0_leads (((v2 * (4 : Int32)) + v3)).toNatClampNeg r62)) ((v3 + (1 : Int32)))
def F_X6_explore_b15  (fu : Nat) (a0_base : Int32) (f_a0_shop_kinds : Nat → Int32) (a0_rules_strict : Int32) (f_a0_rules_own : Nat → Int32) (f_a0_rules_ahead : Nat → Int32) (f_a1_tills : Nat → Int32) (f_a1_acts : Nat → Int32) (f_a1_wholes : Nat → Int32) (f_a1_answers : Nat → Int32) : Nat → Int32 → (Nat → Int32) → (Nat → Int32) → (Nat → Int32) → (Nat → Int32) → Int32 → Option (Int32 × Int32 × Int32 × (Nat → Int32) × (Nat → Int32) × (Nat → Int32) × (Nat → Int32))
  | 0, _, _, _, _, _, _ => none
  | kf + 1, a0_count, f_a0_table, f_a0_done, f_a0_tills, f_a0_leads, v2 =>
    if a0_count ≤ v2 then
      some ((1 : Int32), a0_base, a0_count, f_a0_table, f_a0_done, f_a0_tills, f_a0_leads)
    else
    if (6000 : Int32) ≤ v2 then
      some ((1 : Int32), a0_base, a0_count, f_a0_table, f_a0_done, f_a0_tills, f_a0_leads)
    else
      F_X6_explore_b32 (F_X6_explore_b15 fu a0_base f_a0_shop_kinds a0_rules_strict f_a0_rules_own f_a0_rules_ahead f_a1_tills f_a1_acts f_a1_wholes f_a1_answers kf) fu a0_base f_a0_shop_kinds a0_rules_strict f_a0_rules_own f_a0_rules_ahead f_a1_tills f_a1_acts f_a1_wholes f_a1_answers v2 fu a0_count f_a0_table f_a0_done f_a0_tills f_a0_leads (0 : Int32)
def F_X6_explore (fu : Nat) (a0_base : Int32) (f_a0_table : Nat → Int32) (f_a0_done : Nat → Int32) (f_a0_tills : Nat → Int32) (f_a0_shop_kinds : Nat → Int32) (a0_rules_strict : Int32) (f_a0_rules_own : Nat → Int32) (f_a0_rules_ahead : Nat → Int32) (f_a1_tills : Nat → Int32) (f_a1_acts : Nat → Int32) (f_a1_wholes : Nat → Int32) (f_a1_answers : Nat → Int32) (f_a0_leads : Nat → Int32) : Option (Int32 × Int32 × Int32 × (Nat → Int32) × (Nat → Int32) × (Nat → Int32) × (Nat → Int32)) :=
  bnd2 (F_X6_forget fu a0_base f_a0_table) fun u6_0 u6_1 =>
  bnd4 (F_X6_begin fu u6_0 f_a0_done f_a0_tills u6_1 f_a0_shop_kinds) fun u10_0 u10_1 u10_2 u10_3 =>
  F_X6_explore_b15 fu u6_0 f_a0_shop_kinds a0_rules_strict f_a0_rules_own f_a0_rules_ahead f_a1_tills f_a1_acts f_a1_wholes f_a1_answers fu u10_0 u10_3 u10_1 u10_2 f_a0_leads (0 : Int32)
def F_X6_countWays_b79 (k7 : (Nat → Int64) → Int32 → Option (Int64 × (Nat → Int64))) (k33 : Int64 → Int32 → Option (Int64 × (Nat → Int64))) (fu : Nat) (a0_count : Int32) (f_a0_ways : Nat → Int64) (f_a0_done : Nat → Int32) (f_a0_leads : Nat → Int32) (v1 : Int32) (v2 : Int32) (t0 : Int64) (v5 : Int32) (t1 : Int64) : Option (Int64 × (Nat → Int64)) :=
  k33 (t1 + t0) ((v5 + (1 : Int32)))
def F_X6_countWays_b78 (k7 : (Nat → Int64) → Int32 → Option (Int64 × (Nat → Int64))) (k33 : Int64 → Int32 → Option (Int64 × (Nat → Int64))) (fu : Nat) (a0_count : Int32) (f_a0_ways : Nat → Int64) (f_a0_done : Nat → Int32) (f_a0_leads : Nat → Int32) (v1 : Int32) (v2 : Int32) (t0 : Int64) (v5 : Int32) : Option (Int64 × (Nat → Int64)) :=
  F_X6_countWays_b79 k7 k33 fu a0_count f_a0_ways f_a0_done f_a0_leads v1 v2 (0 : Int64) v5 t0
def F_X6_countWays_b33 (k7 : (Nat → Int64) → Int32 → Option (Int64 × (Nat → Int64))) (fu : Nat) (a0_count : Int32) (f_a0_ways : Nat → Int64) (f_a0_done : Nat → Int32) (f_a0_leads : Nat → Int32) (v1 : Int32) (v2 : Int32) : Nat → Int64 → Int32 → Option (Int64 × (Nat → Int64))
  | 0, _, _ => none
  | kf + 1, v3, v5 =>
    if (4 : Int32) ≤ v5 then
      if v2 < 0 ∨ 6001 ≤ v2.toNatClampNeg then none else
      k7 ((vp_updL f_a0_ways v2.toNatClampNeg (if (1000000000000000000 : Int64) < v3 then (1000000000000000000 : Int64) else v3))) ((v2 + (-1 : Int32)))
    else
    if ((v2 * (4 : Int32)) + v5) < 0 ∨ 24004 ≤ (((v2 * (4 : Int32)) + v5)).toNatClampNeg then none else
    if (f_a0_leads (((v2 * (4 : Int32)) + v5)).toNatClampNeg) ≤ v2 then
      F_X6_countWays_b78 k7 (F_X6_countWays_b33 k7 fu a0_count f_a0_ways f_a0_done f_a0_leads v1 v2 kf) fu a0_count f_a0_ways f_a0_done f_a0_leads v1 v2 v3 v5
    else
    if a0_count ≤ (f_a0_leads (((v2 * (4 : Int32)) + v5)).toNatClampNeg) then
      F_X6_countWays_b78 k7 (F_X6_countWays_b33 k7 fu a0_count f_a0_ways f_a0_done f_a0_leads v1 v2 kf) fu a0_count f_a0_ways f_a0_done f_a0_leads v1 v2 v3 v5
    else
    if (f_a0_leads (((v2 * (4 : Int32)) + v5)).toNatClampNeg) < 0 ∨ 6001 ≤ ((f_a0_leads (((v2 * (4 : Int32)) + v5)).toNatClampNeg)).toNatClampNeg then none else
    F_X6_countWays_b79 k7 (F_X6_countWays_b33 k7 fu a0_count f_a0_ways f_a0_done f_a0_leads v1 v2 kf) fu a0_count f_a0_ways f_a0_done f_a0_leads v1 v2 ((f_a0_ways ((f_a0_leads (((v2 * (4 : Int32)) + v5)).toNatClampNeg)).toNatClampNeg)) v5 v3
def F_X6_countWays_b29 (k7 : (Nat → Int64) → Int32 → Option (Int64 × (Nat → Int64))) (fu : Nat) (a0_count : Int32) (f_a0_ways : Nat → Int64) (f_a0_done : Nat → Int32) (f_a0_leads : Nat → Int32) (v1 : Int32) (v2 : Int32) (t0 : Int64) : Option (Int64 × (Nat → Int64)) :=
  F_X6_countWays_b33 k7 fu a0_count f_a0_ways f_a0_done f_a0_leads v1 v2 fu t0 (0 : Int32)
def F_X6_countWays_b7  (fu : Nat) (a0_count : Int32) (f_a0_done : Nat → Int32) (f_a0_leads : Nat → Int32) (v1 : Int32) : Nat → (Nat → Int64) → Int32 → Option (Int64 × (Nat → Int64))
  | 0, _, _ => none
  | kf + 1, f_a0_ways, v2 =>
    if v2 < 0 then
      some ((f_a0_ways (0 : Int32).toNatClampNeg), f_a0_ways)
    else
    if v2 < 0 ∨ 6001 ≤ v2.toNatClampNeg then none else
    if (v1 &&& ((f_a0_done v2.toNatClampNeg) ^^^ (-1 : Int32))) = 0 then
      F_X6_countWays_b29 (F_X6_countWays_b7 fu a0_count f_a0_done f_a0_leads v1 kf) fu a0_count f_a0_ways f_a0_done f_a0_leads v1 v2 (1 : Int64)
    else
      F_X6_countWays_b29 (F_X6_countWays_b7 fu a0_count f_a0_done f_a0_leads v1 kf) fu a0_count f_a0_ways f_a0_done f_a0_leads v1 v2 (0 : Int64)
def F_X6_countWays (fu : Nat) (a0_count : Int32) (f_a0_ways : Nat → Int64) (f_a0_done : Nat → Int32) (f_a0_leads : Nat → Int32) (v1 : Int32) : Option (Int64 × (Nat → Int64)) :=
  F_X6_countWays_b7 fu a0_count f_a0_done f_a0_leads v1 fu f_a0_ways ((a0_count - (1 : Int32)))
def F_X6_times (v0 : Int64) (v2 : Int64) : Option (Int64) :=
  if (lg_cmp v0 (0 : Int64)) ≤ 0 then
    some (0 : Int64)
  else
  if 0 < (lg_cmp v2 (0 : Int64)) then
    if v2 = 0 then none else
    if (lg_cmp v0 ((1000000000000000000 : Int64) / v2)) ≤ 0 then
      some (v0 * v2)
    else
      some (1000000000000000000 : Int64)
  else
    some (0 : Int64)
def F_X6_countEnds_b45 (k8 : (Nat → Int32) → Int32 → Int32 → Option (Int32 × Int32 × (Nat → Int32))) (fu : Nat) (a0_base : Int32) (a0_count : Int32) (f_a0_table : Nat → Int32) (f_a0_done : Nat → Int32) (a0_rules_must : Int32) (f_a0_tills : Nat → Int32) (v1 : Int32) (v2 : Int32) : Option (Int32 × Int32 × (Nat → Int32)) :=
  k8 f_a0_table v1 ((v2 + (1 : Int32)))
def F_X6_countEnds_b8  (fu : Nat) (a0_base : Int32) (a0_count : Int32) (f_a0_done : Nat → Int32) (a0_rules_must : Int32) (f_a0_tills : Nat → Int32) : Nat → (Nat → Int32) → Int32 → Int32 → Option (Int32 × Int32 × (Nat → Int32))
  | 0, _, _, _ => none
  | kf + 1, f_a0_table, v1, v2 =>
    if a0_count ≤ v2 then
      some (v1, a0_base, f_a0_table)
    else
    if v2 < 0 ∨ 6001 ≤ v2.toNatClampNeg then none else
    bnd1 (F_X4_isEnd a0_rules_must (f_a0_done v2.toNatClampNeg)) fun r26 =>
    if r26 = 0 then
      F_X6_countEnds_b45 (F_X6_countEnds_b8 fu a0_base a0_count f_a0_done a0_rules_must f_a0_tills kf) fu a0_base a0_count f_a0_table f_a0_done a0_rules_must f_a0_tills v1 v2
    else
    bnd2 (F_X6_find fu a0_base f_a0_done f_a0_tills f_a0_table v2 (0 : Int32)) fun r35 u35_0 =>
    if r35 = v2 then
      F_X6_countEnds_b45 (F_X6_countEnds_b8 fu a0_base a0_count f_a0_done a0_rules_must f_a0_tills kf) fu a0_base a0_count u35_0 f_a0_done a0_rules_must f_a0_tills ((v1 + (1 : Int32))) v2
    else
      F_X6_countEnds_b45 (F_X6_countEnds_b8 fu a0_base a0_count f_a0_done a0_rules_must f_a0_tills kf) fu a0_base a0_count u35_0 f_a0_done a0_rules_must f_a0_tills v1 v2
def F_X6_countEnds (fu : Nat) (a0_base : Int32) (a0_count : Int32) (f_a0_table : Nat → Int32) (f_a0_done : Nat → Int32) (a0_rules_must : Int32) (f_a0_tills : Nat → Int32) : Option (Int32 × Int32 × (Nat → Int32)) :=
  bnd2 (F_X6_forget fu a0_base f_a0_table) fun u1_0 u1_1 =>
  F_X6_countEnds_b8 fu u1_0 a0_count f_a0_done a0_rules_must f_a0_tills fu u1_1 (0 : Int32) (0 : Int32)
def F_X6_has (a0_count : Int32) (v1 : Int32) : Option (Int32) :=
  if v1 < 0 then
    some (0 : Int32)
  else
  if a0_count ≤ v1 then
    some (0 : Int32)
  else
  if (6001 : Int32) ≤ v1 then
    some (0 : Int32)
  else
    some (1 : Int32)
def F_X6_callAt (a0_count : Int32) (f_a0_done : Nat → Int32) (f_a0_rules_own : Nat → Int32) (f_a0_rules_ahead : Nat → Int32) (v1 : Int32) (v2 : Int32) : Option (Int32) :=
  bnd1 (F_X6_has a0_count v1) fun r2 =>
  if r2 = 0 then
    some (-1 : Int32)
  else
  if v1 < 0 ∨ 6001 ≤ v1.toNatClampNeg then none else
  bnd1 (F_X4_nextOf f_a0_rules_own f_a0_rules_ahead v2 (f_a0_done v1.toNatClampNeg)) fun r19 =>
  some r19
def F_X6_leadAt (a0_count : Int32) (f_a0_leads : Nat → Int32) (v1 : Int32) (v2 : Int32) : Option (Int32) :=
  bnd1 (F_X6_has a0_count v1) fun r2 =>
  if r2 = 0 then
    some (-1 : Int32)
  else
  if v2 < 0 then
    some (-1 : Int32)
  else
  if (4 : Int32) ≤ v2 then
    some (-1 : Int32)
  else
  if ((v1 * (4 : Int32)) + v2) < 0 ∨ 24004 ≤ (((v1 * (4 : Int32)) + v2)).toNatClampNeg then none else
  some ((f_a0_leads (((v1 * (4 : Int32)) + v2)).toNatClampNeg))
def F_X6_leadsToEnd (a0_count : Int32) (f_a0_ways : Nat → Int64) (v1 : Int32) : Option (Int32) :=
  bnd1 (F_X6_has a0_count v1) fun r2 =>
  if r2 = 0 then
    some (0 : Int32)
  else
  if v1 < 0 ∨ 6001 ≤ v1.toNatClampNeg then none else
  if (lg_cmp (f_a0_ways v1.toNatClampNeg) (0 : Int64)) ≤ 0 then
    some (0 : Int32)
  else
    some (1 : Int32)
def F_X6_doneAt (a0_count : Int32) (f_a0_done : Nat → Int32) (v1 : Int32) : Option (Int32) :=
  bnd1 (F_X6_has a0_count v1) fun r2 =>
  if r2 = 0 then
    some (0 : Int32)
  else
  if v1 < 0 ∨ 6001 ≤ v1.toNatClampNeg then none else
  some (f_a0_done v1.toNatClampNeg)
def F_X6_answerAt (a0_count : Int32) (f_a0_calls_tills : Nat → Int32) (f_a0_shop_kinds : Nat → Int32) (f_a0_tills : Nat → Int32) (f_a0_calls_acts : Nat → Int32) (f_a0_calls_wholes : Nat → Int32) (v1 : Int32) (v2 : Int32) : Option (Int32) :=
  bnd1 (F_X0_tillOf f_a0_calls_tills v2) fun r5 =>
  bnd1 (F_X6_has a0_count v1) fun r11 =>
  if r11 = 0 then
    some (-1 : Int32)
  else
  if r5 < 0 then
    some (-1 : Int32)
  else
  if r5 < (3 : Int32) then
    bnd1 (F_X5_kindOf f_a0_shop_kinds r5) fun r33 =>
    if ((v1 * (3 : Int32)) + r5) < 0 ∨ 18003 ≤ (((v1 * (3 : Int32)) + r5)).toNatClampNeg then none else
    bnd1 (F_X0_actOf f_a0_calls_acts v2) fun r51 =>
    bnd1 (F_X0_wholeOf f_a0_calls_wholes v2) fun r59 =>
    bnd1 (F_X8_says r33 ((f_a0_tills (((v1 * (3 : Int32)) + r5)).toNatClampNeg)) r51 r59) fun r62 =>
    some r62
  else
    some (-1 : Int32)
def F_X6_setsThatCan_b173 (k22 : (Nat → Int64) → Int64 → Int32 → Option (Int64 × (Nat → Int64))) (k61 : (Nat → Int64) → Int32 → Option (Int64 × (Nat → Int64))) (fu : Nat) (n1 : Nat) (a0_count : Int32) (f_a0_ways : Nat → Int64) (f_a0_done : Nat → Int32) (a0_rules_must : Int32) (f_a0_leads : Nat → Int32) (f_a0_rules_own : Nat → Int32) (f_a0_rules_ahead : Nat → Int32) (f_a1 : Nat → Int64) (f_a0_calls_tills : Nat → Int32) (f_a0_tills : Nat → Int32) (f_a0_shop_kinds : Nat → Int32) (f_a0_calls_acts : Nat → Int32) (f_a0_calls_wholes : Nat → Int32) (f_a0_calls_answers : Nat → Int32) (v2 : Int32) (v3 : Int64) (v5 : Int32) (v6 : Int32) : Option (Int64 × (Nat → Int64)) :=
  k61 f_a0_ways ((v6 + (1 : Int32)))
def F_X6_setsThatCan_b171 (k22 : (Nat → Int64) → Int64 → Int32 → Option (Int64 × (Nat → Int64))) (k61 : (Nat → Int64) → Int32 → Option (Int64 × (Nat → Int64))) (fu : Nat) (n1 : Nat) (a0_count : Int32) (f_a0_ways : Nat → Int64) (f_a0_done : Nat → Int32) (a0_rules_must : Int32) (f_a0_leads : Nat → Int32) (f_a0_rules_own : Nat → Int32) (f_a0_rules_ahead : Nat → Int32) (f_a1 : Nat → Int64) (f_a0_calls_tills : Nat → Int32) (f_a0_tills : Nat → Int32) (f_a0_shop_kinds : Nat → Int32) (f_a0_calls_acts : Nat → Int32) (f_a0_calls_wholes : Nat → Int32) (f_a0_calls_answers : Nat → Int32) (v2 : Int32) (v3 : Int64) (v5 : Int32) (v6 : Int32) (t0 : Int64) (t1 : Int64) (t2 : Int32) : Option (Int64 × (Nat → Int64)) :=
  if t2 < 0 ∨ 6001 ≤ t2.toNatClampNeg then none else
  F_X6_setsThatCan_b173 k22 k61 fu n1 a0_count ((vp_updL f_a0_ways t2.toNatClampNeg (t1 ||| t0))) f_a0_done a0_rules_must f_a0_leads f_a0_rules_own f_a0_rules_ahead f_a1 f_a0_calls_tills f_a0_tills f_a0_shop_kinds f_a0_calls_acts f_a0_calls_wholes f_a0_calls_answers v2 v3 v5 v6
def F_X6_setsThatCan_b61 (k22 : (Nat → Int64) → Int64 → Int32 → Option (Int64 × (Nat → Int64))) (fu : Nat) (n1 : Nat) (a0_count : Int32) (f_a0_done : Nat → Int32) (a0_rules_must : Int32) (f_a0_leads : Nat → Int32) (f_a0_rules_own : Nat → Int32) (f_a0_rules_ahead : Nat → Int32) (f_a1 : Nat → Int64) (f_a0_calls_tills : Nat → Int32) (f_a0_tills : Nat → Int32) (f_a0_shop_kinds : Nat → Int32) (f_a0_calls_acts : Nat → Int32) (f_a0_calls_wholes : Nat → Int32) (f_a0_calls_answers : Nat → Int32) (v2 : Int32) (v3 : Int64) (v5 : Int32) : Nat → (Nat → Int64) → Int32 → Option (Int64 × (Nat → Int64))
  | 0, _, _ => none
  | kf + 1, f_a0_ways, v6 =>
    if (4 : Int32) ≤ v6 then
      k22 f_a0_ways v3 ((v5 + (1 : Int32)))
    else
    if ((v5 * (4 : Int32)) + v6) < 0 ∨ 24004 ≤ (((v5 * (4 : Int32)) + v6)).toNatClampNeg then none else
    if v5 < 0 ∨ 6001 ≤ v5.toNatClampNeg then none else
    bnd1 (F_X4_nextOf f_a0_rules_own f_a0_rules_ahead v6 (f_a0_done v5.toNatClampNeg)) fun r94 =>
    if (f_a0_leads (((v5 * (4 : Int32)) + v6)).toNatClampNeg) < 0 then
      F_X6_setsThatCan_b173 k22 (F_X6_setsThatCan_b61 k22 fu n1 a0_count f_a0_done a0_rules_must f_a0_leads f_a0_rules_own f_a0_rules_ahead f_a1 f_a0_calls_tills f_a0_tills f_a0_shop_kinds f_a0_calls_acts f_a0_calls_wholes f_a0_calls_answers v2 v3 v5 kf) fu n1 a0_count f_a0_ways f_a0_done a0_rules_must f_a0_leads f_a0_rules_own f_a0_rules_ahead f_a1 f_a0_calls_tills f_a0_tills f_a0_shop_kinds f_a0_calls_acts f_a0_calls_wholes f_a0_calls_answers v2 v3 v5 v6
    else
    if a0_count ≤ (f_a0_leads (((v5 * (4 : Int32)) + v6)).toNatClampNeg) then
      F_X6_setsThatCan_b173 k22 (F_X6_setsThatCan_b61 k22 fu n1 a0_count f_a0_done a0_rules_must f_a0_leads f_a0_rules_own f_a0_rules_ahead f_a1 f_a0_calls_tills f_a0_tills f_a0_shop_kinds f_a0_calls_acts f_a0_calls_wholes f_a0_calls_answers v2 v3 v5 kf) fu n1 a0_count f_a0_ways f_a0_done a0_rules_must f_a0_leads f_a0_rules_own f_a0_rules_ahead f_a1 f_a0_calls_tills f_a0_tills f_a0_shop_kinds f_a0_calls_acts f_a0_calls_wholes f_a0_calls_answers v2 v3 v5 v6
    else
    if r94 < 0 then
      F_X6_setsThatCan_b173 k22 (F_X6_setsThatCan_b61 k22 fu n1 a0_count f_a0_done a0_rules_must f_a0_leads f_a0_rules_own f_a0_rules_ahead f_a1 f_a0_calls_tills f_a0_tills f_a0_shop_kinds f_a0_calls_acts f_a0_calls_wholes f_a0_calls_answers v2 v3 v5 kf) fu n1 a0_count f_a0_ways f_a0_done a0_rules_must f_a0_leads f_a0_rules_own f_a0_rules_ahead f_a1 f_a0_calls_tills f_a0_tills f_a0_shop_kinds f_a0_calls_acts f_a0_calls_wholes f_a0_calls_answers v2 v3 v5 v6
    else
    if (Int32.ofNat n1) ≤ r94 then
      F_X6_setsThatCan_b173 k22 (F_X6_setsThatCan_b61 k22 fu n1 a0_count f_a0_done a0_rules_must f_a0_leads f_a0_rules_own f_a0_rules_ahead f_a1 f_a0_calls_tills f_a0_tills f_a0_shop_kinds f_a0_calls_acts f_a0_calls_wholes f_a0_calls_answers v2 v3 v5 kf) fu n1 a0_count f_a0_ways f_a0_done a0_rules_must f_a0_leads f_a0_rules_own f_a0_rules_ahead f_a1 f_a0_calls_tills f_a0_tills f_a0_shop_kinds f_a0_calls_acts f_a0_calls_wholes f_a0_calls_answers v2 v3 v5 v6
    else
    if (f_a0_leads (((v5 * (4 : Int32)) + v6)).toNatClampNeg) < 0 ∨ 6001 ≤ ((f_a0_leads (((v5 * (4 : Int32)) + v6)).toNatClampNeg)).toNatClampNeg then none else
    bnd1 (F_X6_isOtherwise f_a0_calls_tills f_a0_tills f_a0_shop_kinds f_a0_calls_acts f_a0_calls_wholes f_a0_calls_answers v5 r94 v2) fun r139 =>
    if r139 = 0 then
      if v5 < 0 ∨ 6001 ≤ v5.toNatClampNeg then none else
      F_X6_setsThatCan_b171 k22 (F_X6_setsThatCan_b61 k22 fu n1 a0_count f_a0_done a0_rules_must f_a0_leads f_a0_rules_own f_a0_rules_ahead f_a1 f_a0_calls_tills f_a0_tills f_a0_shop_kinds f_a0_calls_acts f_a0_calls_wholes f_a0_calls_answers v2 v3 v5 kf) fu n1 a0_count f_a0_ways f_a0_done a0_rules_must f_a0_leads f_a0_rules_own f_a0_rules_ahead f_a1 f_a0_calls_tills f_a0_tills f_a0_shop_kinds f_a0_calls_acts f_a0_calls_wholes f_a0_calls_answers v2 v3 v5 v6 (f_a0_ways v5.toNatClampNeg) ((f_a0_ways ((f_a0_leads (((v5 * (4 : Int32)) + v6)).toNatClampNeg)).toNatClampNeg)) ((f_a0_leads (((v5 * (4 : Int32)) + v6)).toNatClampNeg))
    else
    if v5 < 0 ∨ 6001 ≤ v5.toNatClampNeg then none else
    if r94 < 0 ∨ n1 ≤ r94.toNatClampNeg then none else
    F_X6_setsThatCan_b171 k22 (F_X6_setsThatCan_b61 k22 fu n1 a0_count f_a0_done a0_rules_must f_a0_leads f_a0_rules_own f_a0_rules_ahead f_a1 f_a0_calls_tills f_a0_tills f_a0_shop_kinds f_a0_calls_acts f_a0_calls_wholes f_a0_calls_answers v2 v3 v5 kf) fu n1 a0_count f_a0_ways f_a0_done a0_rules_must f_a0_leads f_a0_rules_own f_a0_rules_ahead f_a1 f_a0_calls_tills f_a0_tills f_a0_shop_kinds f_a0_calls_acts f_a0_calls_wholes f_a0_calls_answers v2 v3 v5 v6 (((f_a0_ways v5.toNatClampNeg) &&& ((f_a1 r94.toNatClampNeg) ^^^ (-1 : Int64)))) ((f_a0_ways ((f_a0_leads (((v5 * (4 : Int32)) + v6)).toNatClampNeg)).toNatClampNeg)) ((f_a0_leads (((v5 * (4 : Int32)) + v6)).toNatClampNeg))
def F_X6_setsThatCan_b58 (k22 : (Nat → Int64) → Int64 → Int32 → Option (Int64 × (Nat → Int64))) (fu : Nat) (n1 : Nat) (a0_count : Int32) (f_a0_ways : Nat → Int64) (f_a0_done : Nat → Int32) (a0_rules_must : Int32) (f_a0_leads : Nat → Int32) (f_a0_rules_own : Nat → Int32) (f_a0_rules_ahead : Nat → Int32) (f_a1 : Nat → Int64) (f_a0_calls_tills : Nat → Int32) (f_a0_tills : Nat → Int32) (f_a0_shop_kinds : Nat → Int32) (f_a0_calls_acts : Nat → Int32) (f_a0_calls_wholes : Nat → Int32) (f_a0_calls_answers : Nat → Int32) (v2 : Int32) (v3 : Int64) (v5 : Int32) : Option (Int64 × (Nat → Int64)) :=
  F_X6_setsThatCan_b61 k22 fu n1 a0_count f_a0_done a0_rules_must f_a0_leads f_a0_rules_own f_a0_rules_ahead f_a1 f_a0_calls_tills f_a0_tills f_a0_shop_kinds f_a0_calls_acts f_a0_calls_wholes f_a0_calls_answers v2 v3 v5 fu f_a0_ways (0 : Int32)
def F_X6_setsThatCan_b22  (fu : Nat) (n1 : Nat) (a0_count : Int32) (f_a0_done : Nat → Int32) (a0_rules_must : Int32) (f_a0_leads : Nat → Int32) (f_a0_rules_own : Nat → Int32) (f_a0_rules_ahead : Nat → Int32) (f_a1 : Nat → Int64) (f_a0_calls_tills : Nat → Int32) (f_a0_tills : Nat → Int32) (f_a0_shop_kinds : Nat → Int32) (f_a0_calls_acts : Nat → Int32) (f_a0_calls_wholes : Nat → Int32) (f_a0_calls_answers : Nat → Int32) (v2 : Int32) : Nat → (Nat → Int64) → Int64 → Int32 → Option (Int64 × (Nat → Int64))
  | 0, _, _, _ => none
  | kf + 1, f_a0_ways, v3, v5 =>
    if a0_count ≤ v5 then
      some (v3, f_a0_ways)
    else
    if v5 < 0 ∨ 6001 ≤ v5.toNatClampNeg then none else
    bnd1 (F_X4_isEnd a0_rules_must (f_a0_done v5.toNatClampNeg)) fun r42 =>
    if r42 = 0 then
      F_X6_setsThatCan_b58 (F_X6_setsThatCan_b22 fu n1 a0_count f_a0_done a0_rules_must f_a0_leads f_a0_rules_own f_a0_rules_ahead f_a1 f_a0_calls_tills f_a0_tills f_a0_shop_kinds f_a0_calls_acts f_a0_calls_wholes f_a0_calls_answers v2 kf) fu n1 a0_count f_a0_ways f_a0_done a0_rules_must f_a0_leads f_a0_rules_own f_a0_rules_ahead f_a1 f_a0_calls_tills f_a0_tills f_a0_shop_kinds f_a0_calls_acts f_a0_calls_wholes f_a0_calls_answers v2 v3 v5
    else
    if v5 < 0 ∨ 6001 ≤ v5.toNatClampNeg then none else
    F_X6_setsThatCan_b58 (F_X6_setsThatCan_b22 fu n1 a0_count f_a0_done a0_rules_must f_a0_leads f_a0_rules_own f_a0_rules_ahead f_a1 f_a0_calls_tills f_a0_tills f_a0_shop_kinds f_a0_calls_acts f_a0_calls_wholes f_a0_calls_answers v2 kf) fu n1 a0_count f_a0_ways f_a0_done a0_rules_must f_a0_leads f_a0_rules_own f_a0_rules_ahead f_a1 f_a0_calls_tills f_a0_tills f_a0_shop_kinds f_a0_calls_acts f_a0_calls_wholes f_a0_calls_answers v2 ((v3 ||| (f_a0_ways v5.toNatClampNeg))) v5
def F_X6_setsThatCan (fu : Nat) (n1 : Nat) (a0_count : Int32) (f_a0_ways : Nat → Int64) (f_a0_done : Nat → Int32) (a0_rules_must : Int32) (f_a0_leads : Nat → Int32) (f_a0_rules_own : Nat → Int32) (f_a0_rules_ahead : Nat → Int32) (f_a1 : Nat → Int64) (f_a0_calls_tills : Nat → Int32) (f_a0_tills : Nat → Int32) (f_a0_shop_kinds : Nat → Int32) (f_a0_calls_acts : Nat → Int32) (f_a0_calls_wholes : Nat → Int32) (f_a0_calls_answers : Nat → Int32) (v2 : Int32) : Option (Int64 × (Nat → Int64)) :=
  bnd1 (F_J7_fill_d0a16 fu 6001 f_a0_ways (0 : Int64)) fun u5_0 =>
  F_X6_setsThatCan_b22 fu n1 a0_count f_a0_done a0_rules_must f_a0_leads f_a0_rules_own f_a0_rules_ahead f_a1 f_a0_calls_tills f_a0_tills f_a0_shop_kinds f_a0_calls_acts f_a0_calls_wholes f_a0_calls_answers v2 fu ((vp_updL u5_0 (0 : Int32).toNatClampNeg (-1 : Int64))) (0 : Int64) (0 : Int32)
def F_X1_explore (fu : Nat) (a1_n : Int32) (f_a1_ends : Nat → Int32) (a0_shop_late : Int32) (f_a0_rules_own : Nat → Int32) (f_a1_cashiers : Nat → Int32) (f_a1_begins : Nat → Int32) (f_a0_rules_ahead : Nat → Int32) (a0_stands_base : Int32) (f_a0_stands_table : Nat → Int32) (f_a0_stands_done : Nat → Int32) (f_a0_stands_tills : Nat → Int32) (f_a0_shop_kinds : Nat → Int32) (f_a1_tills : Nat → Int32) (f_a1_acts : Nat → Int32) (f_a1_wholes : Nat → Int32) (f_a1_answers : Nat → Int32) (f_a0_stands_leads : Nat → Int32) (v2 : Int32) : Option (Int32 × Int32 × Int32 × Int32 × Int32 × (Nat → Int32) × (Nat → Int32) × Int32 × Int32 × (Nat → Int32) × (Nat → Int32) × (Nat → Int32) × (Nat → Int32)) :=
  bnd4 (F_X4_takeAll fu a1_n f_a1_ends) fun u5_0 u5_1 u5_2 u5_3 =>
  bnd1 (F_X4_gapOf v2 a0_shop_late) fun r21 =>
  bnd2 (F_X4_bind fu u5_0 u5_3 f_a0_rules_own a1_n f_a1_cashiers f_a1_begins f_a1_ends f_a0_rules_ahead r21) fun u24_0 u24_1 =>
  bnd7 (F_X6_explore fu a0_stands_base f_a0_stands_table f_a0_stands_done f_a0_stands_tills f_a0_shop_kinds u5_2 u24_0 u24_1 f_a1_tills f_a1_acts f_a1_wholes f_a1_answers f_a0_stands_leads) fun r32 u32_1 u32_2 u32_3 u32_4 u32_5 u32_6 =>
  if ¬ (r32 = 0 ∨ r32 = 1) then none else
  some (r32, u5_0, u5_1, u5_2, u5_3, u24_0, u24_1, u32_1, u32_2, u32_3, u32_4, u32_5, u32_6)
def F_X1_countWays (fu : Nat) (a0_rules_there : Int32) (a0_rules_must : Int32) (a0_rules_strict : Int32) (a0_rules_timed : Int32) (f_a0_rules_own : Nat → Int32) (a1_n : Int32) (f_a1_cashiers : Nat → Int32) (f_a1_begins : Nat → Int32) (f_a1_ends : Nat → Int32) (f_a0_rules_ahead : Nat → Int32) (a0_stands_base : Int32) (f_a0_stands_table : Nat → Int32) (f_a0_stands_done : Nat → Int32) (f_a0_stands_tills : Nat → Int32) (f_a0_shop_kinds : Nat → Int32) (f_a1_tills : Nat → Int32) (f_a1_acts : Nat → Int32) (f_a1_wholes : Nat → Int32) (f_a1_answers : Nat → Int32) (f_a0_stands_leads : Nat → Int32) (f_a0_stands_ways : Nat → Int64) (v2 : Int32) : Option (Int64 × (Nat → Int32) × (Nat → Int32) × Int32 × Int32 × (Nat → Int32) × (Nat → Int32) × (Nat → Int32) × (Nat → Int32) × (Nat → Int64)) :=
  bnd2 (F_X4_bind fu a0_rules_there a0_rules_timed f_a0_rules_own a1_n f_a1_cashiers f_a1_begins f_a1_ends f_a0_rules_ahead v2) fun u6_0 u6_1 =>
  bnd7 (F_X6_explore fu a0_stands_base f_a0_stands_table f_a0_stands_done f_a0_stands_tills f_a0_shop_kinds a0_rules_strict u6_0 u6_1 f_a1_tills f_a1_acts f_a1_wholes f_a1_answers f_a0_stands_leads) fun r14 u14_1 u14_2 u14_3 u14_4 u14_5 u14_6 =>
  if r14 = 0 then
    some ((-10 : Int64), u6_0, u6_1, u14_1, u14_2, u14_3, u14_4, u14_5, u14_6, f_a0_stands_ways)
  else
  bnd2 (F_X6_countWays fu u14_2 f_a0_stands_ways u14_4 u14_6 a0_rules_must) fun r31 u31_0 =>
  some (r31, u6_0, u6_1, u14_1, u14_2, u14_3, u14_4, u14_5, u14_6, u31_0)
def F_X1_countOrders_b35  (fu : Nat) (a1 : Nat) (a1_n : Int32) (f_a1_ends : Nat → Int32) (a0_shop_tills : Int32) (a0_shop_late : Int32) (f_a1_cashiers : Nat → Int32) (f_a1_begins : Nat → Int32) (f_a0_shop_kinds : Nat → Int32) (f_a1_tills : Nat → Int32) (f_a1_acts : Nat → Int32) (f_a1_wholes : Nat → Int32) (f_a1_answers : Nat → Int32) : Nat → Nat → Int32 → Int32 → Int32 → Int32 → (Nat → Int32) → (Nat → Int32) → Int32 → Int32 → (Nat → Int32) → (Nat → Int32) → (Nat → Int32) → (Nat → Int32) → (Nat → Int64) → Int64 → Int32 → Option (Int64 × Int32 × Int32 × Int32 × Int32 × (Nat → Int32) × (Nat → Int32) × Nat × Int32 × Int32 × (Nat → Int32) × (Nat → Int32) × (Nat → Int32) × (Nat → Int32) × (Nat → Int64))
  | 0, _, _, _, _, _, _, _, _, _, _, _, _, _, _, _, _ => none
  | kf + 1, a0_stands_calls, a0_rules_there, a0_rules_must, a0_rules_strict, a0_rules_timed, f_a0_rules_own, f_a0_rules_ahead, a0_stands_base, a0_stands_count, f_a0_stands_table, f_a0_stands_done, f_a0_stands_tills, f_a0_stands_leads, f_a0_stands_ways, v3, v5 =>
    if a0_shop_tills ≤ v5 then
      some (v3, a0_rules_there, a0_rules_must, a0_rules_strict, a0_rules_timed, f_a0_rules_own, f_a0_rules_ahead, a0_stands_calls, a0_stands_base, a0_stands_count, f_a0_stands_table, f_a0_stands_done, f_a0_stands_tills, f_a0_stands_leads, f_a0_stands_ways)
    else
    bnd1 (F_X0_onesOfTill fu a1_n f_a1_tills v5) fun r54 =>
    bnd1 (F_X0_endedOnes fu a1_n f_a1_ends) fun r58 =>
    bnd4 (F_X4_takeSome r54 r58) fun u61_0 u61_1 u61_2 u61_3 =>
    bnd1 (F_X4_gapOf (0 : Int32) a0_shop_late) fun r74 =>
    bnd10 (F_X1_countWays fu u61_0 u61_1 u61_2 u61_3 f_a0_rules_own a1_n f_a1_cashiers f_a1_begins f_a1_ends f_a0_rules_ahead a0_stands_base f_a0_stands_table f_a0_stands_done f_a0_stands_tills f_a0_shop_kinds f_a1_tills f_a1_acts f_a1_wholes f_a1_answers f_a0_stands_leads f_a0_stands_ways r74) fun r77 u77_0 u77_1 u77_3 u77_4 u77_5 u77_6 u77_7 u77_8 u77_9 =>
    if 0 ≤ (lg_cmp r77 (0 : Int64)) then
      bnd1 (F_X6_times v3 r77) fun r96 =>
      (F_X1_countOrders_b35 fu a1 a1_n f_a1_ends a0_shop_tills a0_shop_late f_a1_cashiers f_a1_begins f_a0_shop_kinds f_a1_tills f_a1_acts f_a1_wholes f_a1_answers kf) a1 u61_0 u61_1 u61_2 u61_3 u77_0 u77_1 u77_3 u77_4 u77_5 u77_6 u77_7 u77_8 u77_9 r96 ((v5 + (1 : Int32)))
    else
      some ((-10 : Int64), u61_0, u61_1, u61_2, u61_3, u77_0, u77_1, a1, u77_3, u77_4, u77_5, u77_6, u77_7, u77_8, u77_9)
def F_X1_countOrders (fu : Nat) (a1 : Nat) (a0_stands_calls : Nat) (a1_n : Int32) (f_a1_ends : Nat → Int32) (a0_rules_there : Int32) (a0_rules_must : Int32) (a0_rules_strict : Int32) (a0_rules_timed : Int32) (a0_shop_tills : Int32) (a0_shop_late : Int32) (f_a0_rules_own : Nat → Int32) (f_a1_cashiers : Nat → Int32) (f_a1_begins : Nat → Int32) (f_a0_rules_ahead : Nat → Int32) (a0_stands_base : Int32) (a0_stands_count : Int32) (f_a0_stands_table : Nat → Int32) (f_a0_stands_done : Nat → Int32) (f_a0_stands_tills : Nat → Int32) (f_a0_shop_kinds : Nat → Int32) (f_a1_tills : Nat → Int32) (f_a1_acts : Nat → Int32) (f_a1_wholes : Nat → Int32) (f_a1_answers : Nat → Int32) (f_a0_stands_leads : Nat → Int32) (f_a0_stands_ways : Nat → Int64) (v2 : Int32) : Option (Int64 × Int32 × Int32 × Int32 × Int32 × (Nat → Int32) × (Nat → Int32) × Nat × Int32 × Int32 × (Nat → Int32) × (Nat → Int32) × (Nat → Int32) × (Nat → Int32) × (Nat → Int64)) :=
  if v2 = (3 : Int32) then
    F_X1_countOrders_b35 fu a1 a1_n f_a1_ends a0_shop_tills a0_shop_late f_a1_cashiers f_a1_begins f_a0_shop_kinds f_a1_tills f_a1_acts f_a1_wholes f_a1_answers fu a0_stands_calls a0_rules_there a0_rules_must a0_rules_strict a0_rules_timed f_a0_rules_own f_a0_rules_ahead a0_stands_base a0_stands_count f_a0_stands_table f_a0_stands_done f_a0_stands_tills f_a0_stands_leads f_a0_stands_ways (1 : Int64) (0 : Int32)
  else
  bnd4 (F_X4_takeAll fu a1_n f_a1_ends) fun u10_0 u10_1 u10_2 u10_3 =>
  bnd1 (F_X4_gapOf v2 a0_shop_late) fun r23 =>
  bnd10 (F_X1_countWays fu u10_0 u10_1 u10_2 u10_3 f_a0_rules_own a1_n f_a1_cashiers f_a1_begins f_a1_ends f_a0_rules_ahead a0_stands_base f_a0_stands_table f_a0_stands_done f_a0_stands_tills f_a0_shop_kinds f_a1_tills f_a1_acts f_a1_wholes f_a1_answers f_a0_stands_leads f_a0_stands_ways r23) fun r26 u26_0 u26_1 u26_3 u26_4 u26_5 u26_6 u26_7 u26_8 u26_9 =>
  some (r26, u10_0, u10_1, u10_2, u10_3, u26_0, u26_1, a1, u26_3, u26_4, u26_5, u26_6, u26_7, u26_8, u26_9)
def F_X1_countOrdersOfTill (fu : Nat) (a1_n : Int32) (f_a1_tills : Nat → Int32) (f_a1_ends : Nat → Int32) (a0_shop_late : Int32) (f_a0_rules_own : Nat → Int32) (f_a1_cashiers : Nat → Int32) (f_a1_begins : Nat → Int32) (f_a0_rules_ahead : Nat → Int32) (a0_stands_base : Int32) (f_a0_stands_table : Nat → Int32) (f_a0_stands_done : Nat → Int32) (f_a0_stands_tills : Nat → Int32) (f_a0_shop_kinds : Nat → Int32) (f_a1_acts : Nat → Int32) (f_a1_wholes : Nat → Int32) (f_a1_answers : Nat → Int32) (f_a0_stands_leads : Nat → Int32) (f_a0_stands_ways : Nat → Int64) (v2 : Int32) : Option (Int64 × Int32 × Int32 × Int32 × Int32 × (Nat → Int32) × (Nat → Int32) × Int32 × Int32 × (Nat → Int32) × (Nat → Int32) × (Nat → Int32) × (Nat → Int32) × (Nat → Int64)) :=
  bnd1 (F_X0_onesOfTill fu a1_n f_a1_tills v2) fun r6 =>
  bnd1 (F_X0_endedOnes fu a1_n f_a1_ends) fun r10 =>
  bnd4 (F_X4_takeSome r6 r10) fun u13_0 u13_1 u13_2 u13_3 =>
  bnd1 (F_X4_gapOf (0 : Int32) a0_shop_late) fun r26 =>
  bnd10 (F_X1_countWays fu u13_0 u13_1 u13_2 u13_3 f_a0_rules_own a1_n f_a1_cashiers f_a1_begins f_a1_ends f_a0_rules_ahead a0_stands_base f_a0_stands_table f_a0_stands_done f_a0_stands_tills f_a0_shop_kinds f_a1_tills f_a1_acts f_a1_wholes f_a1_answers f_a0_stands_leads f_a0_stands_ways r26) fun r29 u29_0 u29_1 u29_3 u29_4 u29_5 u29_6 u29_7 u29_8 u29_9 =>
  some (r29, u13_0, u13_1, u13_2, u13_3, u29_0, u29_1, u29_3, u29_4, u29_5, u29_6, u29_7, u29_8, u29_9)
def F_X1_countStands (fu : Nat) (a1_n : Int32) (f_a1_ends : Nat → Int32) (a0_shop_late : Int32) (f_a0_rules_own : Nat → Int32) (f_a1_cashiers : Nat → Int32) (f_a1_begins : Nat → Int32) (f_a0_rules_ahead : Nat → Int32) (a0_stands_base : Int32) (f_a0_stands_table : Nat → Int32) (f_a0_stands_done : Nat → Int32) (f_a0_stands_tills : Nat → Int32) (f_a0_shop_kinds : Nat → Int32) (f_a1_tills : Nat → Int32) (f_a1_acts : Nat → Int32) (f_a1_wholes : Nat → Int32) (f_a1_answers : Nat → Int32) (f_a0_stands_leads : Nat → Int32) (v2 : Int32) : Option (Int32 × Int32 × Int32 × Int32 × Int32 × (Nat → Int32) × (Nat → Int32) × Int32 × Int32 × (Nat → Int32) × (Nat → Int32) × (Nat → Int32) × (Nat → Int32)) :=
  bnd13 (F_X1_explore fu a1_n f_a1_ends a0_shop_late f_a0_rules_own f_a1_cashiers f_a1_begins f_a0_rules_ahead a0_stands_base f_a0_stands_table f_a0_stands_done f_a0_stands_tills f_a0_shop_kinds f_a1_tills f_a1_acts f_a1_wholes f_a1_answers f_a0_stands_leads v2) fun r3 u3_0 u3_1 u3_2 u3_3 u3_4 u3_5 u3_7 u3_8 u3_9 u3_10 u3_11 u3_12 =>
  if r3 = 0 then
    some ((-10 : Int32), u3_0, u3_1, u3_2, u3_3, u3_4, u3_5, u3_7, u3_8, u3_9, u3_10, u3_11, u3_12)
  else
    some (u3_8, u3_0, u3_1, u3_2, u3_3, u3_4, u3_5, u3_7, u3_8, u3_9, u3_10, u3_11, u3_12)
def F_X1_countEnds (fu : Nat) (a1_n : Int32) (f_a1_ends : Nat → Int32) (a0_shop_late : Int32) (f_a0_rules_own : Nat → Int32) (f_a1_cashiers : Nat → Int32) (f_a1_begins : Nat → Int32) (f_a0_rules_ahead : Nat → Int32) (a0_stands_base : Int32) (f_a0_stands_table : Nat → Int32) (f_a0_stands_done : Nat → Int32) (f_a0_stands_tills : Nat → Int32) (f_a0_shop_kinds : Nat → Int32) (f_a1_tills : Nat → Int32) (f_a1_acts : Nat → Int32) (f_a1_wholes : Nat → Int32) (f_a1_answers : Nat → Int32) (f_a0_stands_leads : Nat → Int32) (v2 : Int32) : Option (Int32 × Int32 × Int32 × Int32 × Int32 × (Nat → Int32) × (Nat → Int32) × Int32 × Int32 × (Nat → Int32) × (Nat → Int32) × (Nat → Int32) × (Nat → Int32)) :=
  bnd13 (F_X1_explore fu a1_n f_a1_ends a0_shop_late f_a0_rules_own f_a1_cashiers f_a1_begins f_a0_rules_ahead a0_stands_base f_a0_stands_table f_a0_stands_done f_a0_stands_tills f_a0_shop_kinds f_a1_tills f_a1_acts f_a1_wholes f_a1_answers f_a0_stands_leads v2) fun r3 u3_0 u3_1 u3_2 u3_3 u3_4 u3_5 u3_7 u3_8 u3_9 u3_10 u3_11 u3_12 =>
  if r3 = 0 then
    some ((-10 : Int32), u3_0, u3_1, u3_2, u3_3, u3_4, u3_5, u3_7, u3_8, u3_9, u3_10, u3_11, u3_12)
  else
  bnd3 (F_X6_countEnds fu u3_7 u3_8 u3_9 u3_10 u3_1 u3_11) fun r13 u13_0 u13_1 =>
  some (r13, u3_0, u3_1, u3_2, u3_3, u3_4, u3_5, u13_0, u3_8, u13_1, u3_10, u3_11, u3_12)
def F_X1_pathAt (f_a0_path : Nat → Int32) (v1 : Int32) : Option (Int32) :=
  if v1 < 0 then
    some (-1 : Int32)
  else
  if (20 : Int32) ≤ v1 then
    some (-1 : Int32)
  else
  if v1 < 0 ∨ 20 ≤ v1.toNatClampNeg then none else
  some (f_a0_path v1.toNatClampNeg)
def F_X1_firstLead_b59 (k4 : Int32 → Int32 → Option (Int32)) (a0_stands_count : Int32) (f_a0_stands_leads : Nat → Int32) (f_a0_stands_ways : Nat → Int64) (f_a0_stands_done : Nat → Int32) (f_a0_rules_own : Nat → Int32) (f_a0_rules_ahead : Nat → Int32) (v1 : Int32) (v2 : Int32) (v3 : Int32) : Option (Int32) :=
  k4 v2 ((v3 + (1 : Int32)))
def F_X1_firstLead_b57 (k4 : Int32 → Int32 → Option (Int32)) (a0_stands_count : Int32) (f_a0_stands_leads : Nat → Int32) (f_a0_stands_ways : Nat → Int64) (f_a0_stands_done : Nat → Int32) (f_a0_rules_own : Nat → Int32) (f_a0_rules_ahead : Nat → Int32) (v1 : Int32) (v3 : Int32) : Option (Int32) :=
  F_X1_firstLead_b59 k4 a0_stands_count f_a0_stands_leads f_a0_stands_ways f_a0_stands_done f_a0_rules_own f_a0_rules_ahead v1 v3 v3
def F_X1_firstLead_b4  (a0_stands_count : Int32) (f_a0_stands_leads : Nat → Int32) (f_a0_stands_ways : Nat → Int64) (f_a0_stands_done : Nat → Int32) (f_a0_rules_own : Nat → Int32) (f_a0_rules_ahead : Nat → Int32) (v1 : Int32) : Nat → Int32 → Int32 → Option (Int32)
  | 0, _, _ => none
  | kf + 1, v2, v3 =>
    if (4 : Int32) ≤ v3 then
      some v2
    else
    bnd1 (F_X6_leadAt a0_stands_count f_a0_stands_leads v1 v3) fun r19 =>
    bnd1 (F_X6_leadsToEnd a0_stands_count f_a0_stands_ways r19) fun r22 =>
    if r22 = 0 then
      F_X1_firstLead_b59 (F_X1_firstLead_b4 a0_stands_count f_a0_stands_leads f_a0_stands_ways f_a0_stands_done f_a0_rules_own f_a0_rules_ahead v1 kf) a0_stands_count f_a0_stands_leads f_a0_stands_ways f_a0_stands_done f_a0_rules_own f_a0_rules_ahead v1 v2 v3
    else
    if v2 < 0 then
      F_X1_firstLead_b57 (F_X1_firstLead_b4 a0_stands_count f_a0_stands_leads f_a0_stands_ways f_a0_stands_done f_a0_rules_own f_a0_rules_ahead v1 kf) a0_stands_count f_a0_stands_leads f_a0_stands_ways f_a0_stands_done f_a0_rules_own f_a0_rules_ahead v1 v3
    else
    bnd1 (F_X6_callAt a0_stands_count f_a0_stands_done f_a0_rules_own f_a0_rules_ahead v1 v3) fun r42 =>
    bnd1 (F_X6_callAt a0_stands_count f_a0_stands_done f_a0_rules_own f_a0_rules_ahead v1 v2) fun r51 =>
    if r51 ≤ r42 then
      F_X1_firstLead_b59 (F_X1_firstLead_b4 a0_stands_count f_a0_stands_leads f_a0_stands_ways f_a0_stands_done f_a0_rules_own f_a0_rules_ahead v1 kf) a0_stands_count f_a0_stands_leads f_a0_stands_ways f_a0_stands_done f_a0_rules_own f_a0_rules_ahead v1 v2 v3
    else
      F_X1_firstLead_b57 (F_X1_firstLead_b4 a0_stands_count f_a0_stands_leads f_a0_stands_ways f_a0_stands_done f_a0_rules_own f_a0_rules_ahead v1 kf) a0_stands_count f_a0_stands_leads f_a0_stands_ways f_a0_stands_done f_a0_rules_own f_a0_rules_ahead v1 v3
def F_X1_firstLead (fu : Nat) (a0_stands_count : Int32) (f_a0_stands_leads : Nat → Int32) (f_a0_stands_ways : Nat → Int64) (f_a0_stands_done : Nat → Int32) (f_a0_rules_own : Nat → Int32) (f_a0_rules_ahead : Nat → Int32) (v1 : Int32) : Option (Int32) :=
  F_X1_firstLead_b4 a0_stands_count f_a0_stands_leads f_a0_stands_ways f_a0_stands_done f_a0_rules_own f_a0_rules_ahead v1 fu (-1 : Int32) (0 : Int32)
def F_X1_findFirst_b42  (fu : Nat) (a0_rules_there : Int32) (a0_rules_must : Int32) (a0_rules_strict : Int32) (a0_rules_timed : Int32) (f_a0_rules_own : Nat → Int32) (f_a0_rules_ahead : Nat → Int32) (a0_stands_base : Int32) (a0_stands_count : Int32) (f_a0_stands_table : Nat → Int32) (f_a0_stands_done : Nat → Int32) (f_a0_stands_tills : Nat → Int32) (f_a0_stands_leads : Nat → Int32) (f_a0_stands_ways : Nat → Int64) : Nat → (Nat → Int32) → Int32 → Int32 → Int32 → Option (Int32 × Int32 × Int32 × Int32 × Int32 × (Nat → Int32) × (Nat → Int32) × Int32 × Int32 × (Nat → Int32) × (Nat → Int32) × (Nat → Int32) × (Nat → Int32) × (Nat → Int64) × (Nat → Int32))
  | 0, _, _, _, _ => none
  | kf + 1, f_a0_path, v3, v4, v5 =>
    if (20 : Int32) ≤ v5 then
      some (v4, a0_rules_there, a0_rules_must, a0_rules_strict, a0_rules_timed, f_a0_rules_own, f_a0_rules_ahead, a0_stands_base, a0_stands_count, f_a0_stands_table, f_a0_stands_done, f_a0_stands_tills, f_a0_stands_leads, f_a0_stands_ways, f_a0_path)
    else
    bnd1 (F_X6_doneAt a0_stands_count f_a0_stands_done v3) fun r58 =>
    bnd1 (F_X4_isEnd a0_rules_must r58) fun r61 =>
    if r61 = 0 then
      bnd1 (F_X1_firstLead fu a0_stands_count f_a0_stands_leads f_a0_stands_ways f_a0_stands_done f_a0_rules_own f_a0_rules_ahead v3) fun r69 =>
      bnd1 (F_X6_callAt a0_stands_count f_a0_stands_done f_a0_rules_own f_a0_rules_ahead v3 r69) fun r87 =>
      if v5 < 0 ∨ 20 ≤ v5.toNatClampNeg then none else
      bnd1 (F_X6_leadAt a0_stands_count f_a0_stands_leads v3 r69) fun r98 =>
      (F_X1_findFirst_b42 fu a0_rules_there a0_rules_must a0_rules_strict a0_rules_timed f_a0_rules_own f_a0_rules_ahead a0_stands_base a0_stands_count f_a0_stands_table f_a0_stands_done f_a0_stands_tills f_a0_stands_leads f_a0_stands_ways kf) (upd f_a0_path v5.toNatClampNeg r87) r98 ((v5 + (1 : Int32))) ((v5 + (1 : Int32)))
    else
      some (v4, a0_rules_there, a0_rules_must, a0_rules_strict, a0_rules_timed, f_a0_rules_own, f_a0_rules_ahead, a0_stands_base, a0_stands_count, f_a0_stands_table, f_a0_stands_done, f_a0_stands_tills, f_a0_stands_leads, f_a0_stands_ways, f_a0_path)
def F_X1_findFirst (fu : Nat) (a1_n : Int32) (f_a1_ends : Nat → Int32) (a0_shop_late : Int32) (f_a0_rules_own : Nat → Int32) (f_a1_cashiers : Nat → Int32) (f_a1_begins : Nat → Int32) (f_a0_rules_ahead : Nat → Int32) (a0_stands_base : Int32) (f_a0_stands_table : Nat → Int32) (f_a0_stands_done : Nat → Int32) (f_a0_stands_tills : Nat → Int32) (f_a0_shop_kinds : Nat → Int32) (f_a1_tills : Nat → Int32) (f_a1_acts : Nat → Int32) (f_a1_wholes : Nat → Int32) (f_a1_answers : Nat → Int32) (f_a0_stands_leads : Nat → Int32) (f_a0_stands_ways : Nat → Int64) (f_a0_path : Nat → Int32) (v2 : Int32) : Option (Int32 × Int32 × Int32 × Int32 × Int32 × (Nat → Int32) × (Nat → Int32) × Int32 × Int32 × (Nat → Int32) × (Nat → Int32) × (Nat → Int32) × (Nat → Int32) × (Nat → Int64) × (Nat → Int32)) :=
  bnd13 (F_X1_explore fu a1_n f_a1_ends a0_shop_late f_a0_rules_own f_a1_cashiers f_a1_begins f_a0_rules_ahead a0_stands_base f_a0_stands_table f_a0_stands_done f_a0_stands_tills f_a0_shop_kinds f_a1_tills f_a1_acts f_a1_wholes f_a1_answers f_a0_stands_leads v2) fun r3 u3_0 u3_1 u3_2 u3_3 u3_4 u3_5 u3_7 u3_8 u3_9 u3_10 u3_11 u3_12 =>
  if r3 = 0 then
    some ((-10 : Int32), u3_0, u3_1, u3_2, u3_3, u3_4, u3_5, u3_7, u3_8, u3_9, u3_10, u3_11, u3_12, f_a0_stands_ways, f_a0_path)
  else
  bnd2 (F_X6_countWays fu u3_8 f_a0_stands_ways u3_10 u3_12 u3_1) fun r23 u23_0 =>
  if (lg_cmp r23 (0 : Int64)) = 0 then
    some ((-11 : Int32), u3_0, u3_1, u3_2, u3_3, u3_4, u3_5, u3_7, u3_8, u3_9, u3_10, u3_11, u3_12, u23_0, f_a0_path)
  else
    F_X1_findFirst_b42 fu u3_0 u3_1 u3_2 u3_3 u3_4 u3_5 u3_7 u3_8 u3_9 u3_10 u3_11 u3_12 u23_0 fu f_a0_path (0 : Int32) (0 : Int32) (0 : Int32)
def F_X1_findFirsts_b73 (k32 : Int32 → Int32 → Option (Int32 × Int32 × Int32 × Int32 × Int32 × (Nat → Int32) × (Nat → Int32) × Int32 × Int32 × (Nat → Int32) × (Nat → Int32) × (Nat → Int32) × (Nat → Int32) × (Nat → Int64))) (a0_rules_there : Int32) (a0_rules_must : Int32) (a0_rules_strict : Int32) (a0_rules_timed : Int32) (f_a0_rules_own : Nat → Int32) (f_a0_rules_ahead : Nat → Int32) (a0_stands_base : Int32) (a0_stands_count : Int32) (f_a0_stands_table : Nat → Int32) (f_a0_stands_done : Nat → Int32) (f_a0_stands_tills : Nat → Int32) (f_a0_stands_leads : Nat → Int32) (f_a0_stands_ways : Nat → Int64) (v3 : Int32) (v4 : Int32) : Option (Int32 × Int32 × Int32 × Int32 × Int32 × (Nat → Int32) × (Nat → Int32) × Int32 × Int32 × (Nat → Int32) × (Nat → Int32) × (Nat → Int32) × (Nat → Int32) × (Nat → Int64)) :=
  k32 v3 ((v4 + (1 : Int32)))
def F_X1_findFirsts_b32  (a0_rules_there : Int32) (a0_rules_must : Int32) (a0_rules_strict : Int32) (a0_rules_timed : Int32) (f_a0_rules_own : Nat → Int32) (f_a0_rules_ahead : Nat → Int32) (a0_stands_base : Int32) (a0_stands_count : Int32) (f_a0_stands_table : Nat → Int32) (f_a0_stands_done : Nat → Int32) (f_a0_stands_tills : Nat → Int32) (f_a0_stands_leads : Nat → Int32) (f_a0_stands_ways : Nat → Int64) : Nat → Int32 → Int32 → Option (Int32 × Int32 × Int32 × Int32 × Int32 × (Nat → Int32) × (Nat → Int32) × Int32 × Int32 × (Nat → Int32) × (Nat → Int32) × (Nat → Int32) × (Nat → Int32) × (Nat → Int64))
  | 0, _, _ => none
  | kf + 1, v3, v4 =>
    if (4 : Int32) ≤ v4 then
      some (v3, a0_rules_there, a0_rules_must, a0_rules_strict, a0_rules_timed, f_a0_rules_own, f_a0_rules_ahead, a0_stands_base, a0_stands_count, f_a0_stands_table, f_a0_stands_done, f_a0_stands_tills, f_a0_stands_leads, f_a0_stands_ways)
    else
    bnd1 (F_X6_leadAt a0_stands_count f_a0_stands_leads (0 : Int32) v4) fun r49 =>
    bnd1 (F_X6_leadsToEnd a0_stands_count f_a0_stands_ways r49) fun r52 =>
    if r52 = 0 then
      F_X1_findFirsts_b73 (F_X1_findFirsts_b32 a0_rules_there a0_rules_must a0_rules_strict a0_rules_timed f_a0_rules_own f_a0_rules_ahead a0_stands_base a0_stands_count f_a0_stands_table f_a0_stands_done f_a0_stands_tills f_a0_stands_leads f_a0_stands_ways kf) a0_rules_there a0_rules_must a0_rules_strict a0_rules_timed f_a0_rules_own f_a0_rules_ahead a0_stands_base a0_stands_count f_a0_stands_table f_a0_stands_done f_a0_stands_tills f_a0_stands_leads f_a0_stands_ways v3 v4
    else
    bnd1 (F_X6_callAt a0_stands_count f_a0_stands_done f_a0_rules_own f_a0_rules_ahead (0 : Int32) v4) fun r67 =>
    F_X1_findFirsts_b73 (F_X1_findFirsts_b32 a0_rules_there a0_rules_must a0_rules_strict a0_rules_timed f_a0_rules_own f_a0_rules_ahead a0_stands_base a0_stands_count f_a0_stands_table f_a0_stands_done f_a0_stands_tills f_a0_stands_leads f_a0_stands_ways kf) a0_rules_there a0_rules_must a0_rules_strict a0_rules_timed f_a0_rules_own f_a0_rules_ahead a0_stands_base a0_stands_count f_a0_stands_table f_a0_stands_done f_a0_stands_tills f_a0_stands_leads f_a0_stands_ways ((v3 ||| ((1 : Int32) <<< (r67 &&& 31)))) v4
def F_X1_findFirsts (fu : Nat) (a1_n : Int32) (f_a1_ends : Nat → Int32) (a0_shop_late : Int32) (f_a0_rules_own : Nat → Int32) (f_a1_cashiers : Nat → Int32) (f_a1_begins : Nat → Int32) (f_a0_rules_ahead : Nat → Int32) (a0_stands_base : Int32) (f_a0_stands_table : Nat → Int32) (f_a0_stands_done : Nat → Int32) (f_a0_stands_tills : Nat → Int32) (f_a0_shop_kinds : Nat → Int32) (f_a1_tills : Nat → Int32) (f_a1_acts : Nat → Int32) (f_a1_wholes : Nat → Int32) (f_a1_answers : Nat → Int32) (f_a0_stands_leads : Nat → Int32) (f_a0_stands_ways : Nat → Int64) (v2 : Int32) : Option (Int32 × Int32 × Int32 × Int32 × Int32 × (Nat → Int32) × (Nat → Int32) × Int32 × Int32 × (Nat → Int32) × (Nat → Int32) × (Nat → Int32) × (Nat → Int32) × (Nat → Int64)) :=
  bnd13 (F_X1_explore fu a1_n f_a1_ends a0_shop_late f_a0_rules_own f_a1_cashiers f_a1_begins f_a0_rules_ahead a0_stands_base f_a0_stands_table f_a0_stands_done f_a0_stands_tills f_a0_shop_kinds f_a1_tills f_a1_acts f_a1_wholes f_a1_answers f_a0_stands_leads v2) fun r3 u3_0 u3_1 u3_2 u3_3 u3_4 u3_5 u3_7 u3_8 u3_9 u3_10 u3_11 u3_12 =>
  if r3 = 0 then
    some ((-10 : Int32), u3_0, u3_1, u3_2, u3_3, u3_4, u3_5, u3_7, u3_8, u3_9, u3_10, u3_11, u3_12, f_a0_stands_ways)
  else
  bnd2 (F_X6_countWays fu u3_8 f_a0_stands_ways u3_10 u3_12 u3_1) fun r23 u23_0 =>
  F_X1_findFirsts_b32 u3_0 u3_1 u3_2 u3_3 u3_4 u3_5 u3_7 u3_8 u3_9 u3_10 u3_11 u3_12 u23_0 fu (0 : Int32) (0 : Int32)
def F_X1_comesAhead_b92 (k35 : Int32 → Option (Int32 × Int32 × Int32 × Int32 × Int32 × (Nat → Int32) × (Nat → Int32) × Int32 × Int32 × (Nat → Int32) × (Nat → Int32) × (Nat → Int32) × (Nat → Int32) × (Nat → Int64))) (a0_rules_there : Int32) (a0_rules_must : Int32) (a0_rules_strict : Int32) (a0_rules_timed : Int32) (f_a0_rules_own : Nat → Int32) (f_a0_rules_ahead : Nat → Int32) (a0_stands_base : Int32) (a0_stands_count : Int32) (f_a0_stands_table : Nat → Int32) (f_a0_stands_done : Nat → Int32) (f_a0_stands_tills : Nat → Int32) (f_a0_stands_leads : Nat → Int32) (f_a0_stands_ways : Nat → Int64) (v3 : Int32) (v4 : Int32) (v5 : Int32) : Option (Int32 × Int32 × Int32 × Int32 × Int32 × (Nat → Int32) × (Nat → Int32) × Int32 × Int32 × (Nat → Int32) × (Nat → Int32) × (Nat → Int32) × (Nat → Int32) × (Nat → Int64)) :=
  k35 ((v5 + (1 : Int32)))
def F_X1_comesAhead_b35  (a0_rules_there : Int32) (a0_rules_must : Int32) (a0_rules_strict : Int32) (a0_rules_timed : Int32) (f_a0_rules_own : Nat → Int32) (f_a0_rules_ahead : Nat → Int32) (a0_stands_base : Int32) (a0_stands_count : Int32) (f_a0_stands_table : Nat → Int32) (f_a0_stands_done : Nat → Int32) (f_a0_stands_tills : Nat → Int32) (f_a0_stands_leads : Nat → Int32) (f_a0_stands_ways : Nat → Int64) (v3 : Int32) (v4 : Int32) : Nat → Int32 → Option (Int32 × Int32 × Int32 × Int32 × Int32 × (Nat → Int32) × (Nat → Int32) × Int32 × Int32 × (Nat → Int32) × (Nat → Int32) × (Nat → Int32) × (Nat → Int32) × (Nat → Int64))
  | 0, _ => none
  | kf + 1, v5 =>
    if a0_stands_count ≤ v5 then
      some ((0 : Int32), a0_rules_there, a0_rules_must, a0_rules_strict, a0_rules_timed, f_a0_rules_own, f_a0_rules_ahead, a0_stands_base, a0_stands_count, f_a0_stands_table, f_a0_stands_done, f_a0_stands_tills, f_a0_stands_leads, f_a0_stands_ways)
    else
    bnd1 (F_X6_doneAt a0_stands_count f_a0_stands_done v5) fun r53 =>
    if ((r53 >>> (v3 &&& 31)) &&& (1 : Int32)) = (1 : Int32) then
      if ((r53 >>> (v4 &&& 31)) &&& (1 : Int32)) = 0 then
        bnd1 (F_X6_leadsToEnd a0_stands_count f_a0_stands_ways v5) fun r84 =>
        if r84 = 0 then
          F_X1_comesAhead_b92 (F_X1_comesAhead_b35 a0_rules_there a0_rules_must a0_rules_strict a0_rules_timed f_a0_rules_own f_a0_rules_ahead a0_stands_base a0_stands_count f_a0_stands_table f_a0_stands_done f_a0_stands_tills f_a0_stands_leads f_a0_stands_ways v3 v4 kf) a0_rules_there a0_rules_must a0_rules_strict a0_rules_timed f_a0_rules_own f_a0_rules_ahead a0_stands_base a0_stands_count f_a0_stands_table f_a0_stands_done f_a0_stands_tills f_a0_stands_leads f_a0_stands_ways v3 v4 v5
        else
          some ((1 : Int32), a0_rules_there, a0_rules_must, a0_rules_strict, a0_rules_timed, f_a0_rules_own, f_a0_rules_ahead, a0_stands_base, a0_stands_count, f_a0_stands_table, f_a0_stands_done, f_a0_stands_tills, f_a0_stands_leads, f_a0_stands_ways)
      else
        F_X1_comesAhead_b92 (F_X1_comesAhead_b35 a0_rules_there a0_rules_must a0_rules_strict a0_rules_timed f_a0_rules_own f_a0_rules_ahead a0_stands_base a0_stands_count f_a0_stands_table f_a0_stands_done f_a0_stands_tills f_a0_stands_leads f_a0_stands_ways v3 v4 kf) a0_rules_there a0_rules_must a0_rules_strict a0_rules_timed f_a0_rules_own f_a0_rules_ahead a0_stands_base a0_stands_count f_a0_stands_table f_a0_stands_done f_a0_stands_tills f_a0_stands_leads f_a0_stands_ways v3 v4 v5
    else
      F_X1_comesAhead_b92 (F_X1_comesAhead_b35 a0_rules_there a0_rules_must a0_rules_strict a0_rules_timed f_a0_rules_own f_a0_rules_ahead a0_stands_base a0_stands_count f_a0_stands_table f_a0_stands_done f_a0_stands_tills f_a0_stands_leads f_a0_stands_ways v3 v4 kf) a0_rules_there a0_rules_must a0_rules_strict a0_rules_timed f_a0_rules_own f_a0_rules_ahead a0_stands_base a0_stands_count f_a0_stands_table f_a0_stands_done f_a0_stands_tills f_a0_stands_leads f_a0_stands_ways v3 v4 v5
def F_X1_comesAhead (fu : Nat) (a1_n : Int32) (f_a1_ends : Nat → Int32) (a0_shop_late : Int32) (f_a0_rules_own : Nat → Int32) (f_a1_cashiers : Nat → Int32) (f_a1_begins : Nat → Int32) (f_a0_rules_ahead : Nat → Int32) (a0_stands_base : Int32) (f_a0_stands_table : Nat → Int32) (f_a0_stands_done : Nat → Int32) (f_a0_stands_tills : Nat → Int32) (f_a0_shop_kinds : Nat → Int32) (f_a1_tills : Nat → Int32) (f_a1_acts : Nat → Int32) (f_a1_wholes : Nat → Int32) (f_a1_answers : Nat → Int32) (f_a0_stands_leads : Nat → Int32) (f_a0_stands_ways : Nat → Int64) (v2 : Int32) (v3 : Int32) (v4 : Int32) : Option (Int32 × Int32 × Int32 × Int32 × Int32 × (Nat → Int32) × (Nat → Int32) × Int32 × Int32 × (Nat → Int32) × (Nat → Int32) × (Nat → Int32) × (Nat → Int32) × (Nat → Int64)) :=
  bnd13 (F_X1_explore fu a1_n f_a1_ends a0_shop_late f_a0_rules_own f_a1_cashiers f_a1_begins f_a0_rules_ahead a0_stands_base f_a0_stands_table f_a0_stands_done f_a0_stands_tills f_a0_shop_kinds f_a1_tills f_a1_acts f_a1_wholes f_a1_answers f_a0_stands_leads v2) fun r3 u3_0 u3_1 u3_2 u3_3 u3_4 u3_5 u3_7 u3_8 u3_9 u3_10 u3_11 u3_12 =>
  if r3 = 0 then
    some ((-10 : Int32), u3_0, u3_1, u3_2, u3_3, u3_4, u3_5, u3_7, u3_8, u3_9, u3_10, u3_11, u3_12, f_a0_stands_ways)
  else
  bnd2 (F_X6_countWays fu u3_8 f_a0_stands_ways u3_10 u3_12 ((u3_1 ||| ((1 : Int32) <<< (v4 &&& 31))))) fun r28 u28_0 =>
  F_X1_comesAhead_b35 u3_0 u3_1 u3_2 u3_3 u3_4 u3_5 u3_7 u3_8 u3_9 u3_10 u3_11 u3_12 u28_0 v3 v4 fu (0 : Int32)
def F_X1_findBad_b5  (fu : Nat) (a1 : Nat) (a1_n : Int32) (f_a1_ends : Nat → Int32) (f_a1_begins : Nat → Int32) (a0_shop_late : Int32) (f_a1_cashiers : Nat → Int32) (f_a0_shop_kinds : Nat → Int32) (f_a1_tills : Nat → Int32) (f_a1_acts : Nat → Int32) (f_a1_wholes : Nat → Int32) (f_a1_answers : Nat → Int32) (v2 : Int32) : Nat → Nat → Int32 → Int32 → Int32 → Int32 → (Nat → Int32) → (Nat → Int32) → Int32 → Int32 → (Nat → Int32) → (Nat → Int32) → (Nat → Int32) → (Nat → Int32) → (Nat → Int64) → Int32 → Int32 → Option (Int32 × Int32 × Int32 × Int32 × Int32 × (Nat → Int32) × (Nat → Int32) × Nat × Int32 × Int32 × (Nat → Int32) × (Nat → Int32) × (Nat → Int32) × (Nat → Int32) × (Nat → Int64))
  | 0, _, _, _, _, _, _, _, _, _, _, _, _, _, _, _, _ => none
  | kf + 1, a0_stands_calls, a0_rules_there, a0_rules_must, a0_rules_strict, a0_rules_timed, f_a0_rules_own, f_a0_rules_ahead, a0_stands_base, a0_stands_count, f_a0_stands_table, f_a0_stands_done, f_a0_stands_tills, f_a0_stands_leads, f_a0_stands_ways, v3, v4 =>
    if a1_n ≤ v4 then
      some ((-2 : Int32), a0_rules_there, a0_rules_must, a0_rules_strict, a0_rules_timed, f_a0_rules_own, f_a0_rules_ahead, a0_stands_calls, a0_stands_base, a0_stands_count, f_a0_stands_table, f_a0_stands_done, f_a0_stands_tills, f_a0_stands_leads, f_a0_stands_ways)
    else
    bnd1 (F_X0_firstEndedBut fu a1_n f_a1_ends v3) fun r16 =>
    if 0 ≤ r16 then
      bnd1 (F_X0_endOf f_a1_ends r16) fun r44 =>
      bnd1 (F_X0_onesBegunBy fu a1_n f_a1_begins r44) fun r47 =>
      bnd4 (F_X4_takeSome r47 ((v3 ||| ((1 : Int32) <<< (r16 &&& 31))))) fun u51_0 u51_1 u51_2 u51_3 =>
      bnd1 (F_X4_gapOf v2 a0_shop_late) fun r64 =>
      bnd10 (F_X1_countWays fu u51_0 u51_1 u51_2 u51_3 f_a0_rules_own a1_n f_a1_cashiers f_a1_begins f_a1_ends f_a0_rules_ahead a0_stands_base f_a0_stands_table f_a0_stands_done f_a0_stands_tills f_a0_shop_kinds f_a1_tills f_a1_acts f_a1_wholes f_a1_answers f_a0_stands_leads f_a0_stands_ways r64) fun r67 u67_0 u67_1 u67_3 u67_4 u67_5 u67_6 u67_7 u67_8 u67_9 =>
      if 0 < (lg_cmp r67 (0 : Int64)) then
        (F_X1_findBad_b5 fu a1 a1_n f_a1_ends f_a1_begins a0_shop_late f_a1_cashiers f_a0_shop_kinds f_a1_tills f_a1_acts f_a1_wholes f_a1_answers v2 kf) a1 u51_0 u51_1 u51_2 u51_3 u67_0 u67_1 u67_3 u67_4 u67_5 u67_6 u67_7 u67_8 u67_9 ((v3 ||| ((1 : Int32) <<< (r16 &&& 31)))) ((v4 + (1 : Int32)))
      else
      if 0 ≤ (lg_cmp r67 (0 : Int64)) then
        some (r16, u51_0, u51_1, u51_2, u51_3, u67_0, u67_1, a1, u67_3, u67_4, u67_5, u67_6, u67_7, u67_8, u67_9)
      else
        some ((-10 : Int32), u51_0, u51_1, u51_2, u51_3, u67_0, u67_1, a1, u67_3, u67_4, u67_5, u67_6, u67_7, u67_8, u67_9)
    else
      some ((-2 : Int32), a0_rules_there, a0_rules_must, a0_rules_strict, a0_rules_timed, f_a0_rules_own, f_a0_rules_ahead, a0_stands_calls, a0_stands_base, a0_stands_count, f_a0_stands_table, f_a0_stands_done, f_a0_stands_tills, f_a0_stands_leads, f_a0_stands_ways)
def F_X1_findBad (fu : Nat) (a1 : Nat) (a0_stands_calls : Nat) (a1_n : Int32) (f_a1_ends : Nat → Int32) (f_a1_begins : Nat → Int32) (a0_rules_there : Int32) (a0_rules_must : Int32) (a0_rules_strict : Int32) (a0_rules_timed : Int32) (a0_shop_late : Int32) (f_a0_rules_own : Nat → Int32) (f_a1_cashiers : Nat → Int32) (f_a0_rules_ahead : Nat → Int32) (a0_stands_base : Int32) (a0_stands_count : Int32) (f_a0_stands_table : Nat → Int32) (f_a0_stands_done : Nat → Int32) (f_a0_stands_tills : Nat → Int32) (f_a0_shop_kinds : Nat → Int32) (f_a1_tills : Nat → Int32) (f_a1_acts : Nat → Int32) (f_a1_wholes : Nat → Int32) (f_a1_answers : Nat → Int32) (f_a0_stands_leads : Nat → Int32) (f_a0_stands_ways : Nat → Int64) (v2 : Int32) : Option (Int32 × Int32 × Int32 × Int32 × Int32 × (Nat → Int32) × (Nat → Int32) × Nat × Int32 × Int32 × (Nat → Int32) × (Nat → Int32) × (Nat → Int32) × (Nat → Int32) × (Nat → Int64)) :=
  F_X1_findBad_b5 fu a1 a1_n f_a1_ends f_a1_begins a0_shop_late f_a1_cashiers f_a0_shop_kinds f_a1_tills f_a1_acts f_a1_wholes f_a1_answers v2 fu a0_stands_calls a0_rules_there a0_rules_must a0_rules_strict a0_rules_timed f_a0_rules_own f_a0_rules_ahead a0_stands_base a0_stands_count f_a0_stands_table f_a0_stands_done f_a0_stands_tills f_a0_stands_leads f_a0_stands_ways (0 : Int32) (0 : Int32)
def F_X1_findMends_b90 (k4 : Nat → Int32 → Int32 → Int32 → Int32 → (Nat → Int32) → (Nat → Int32) → Int32 → Int32 → (Nat → Int32) → (Nat → Int32) → (Nat → Int32) → (Nat → Int32) → (Nat → Int64) → Int32 → Int32 → Option (Int32 × Int32 × Int32 × Int32 × Int32 × (Nat → Int32) × (Nat → Int32) × Nat × Int32 × Int32 × (Nat → Int32) × (Nat → Int32) × (Nat → Int32) × (Nat → Int32) × (Nat → Int64))) (fu : Nat) (a1 : Nat) (a0_stands_calls : Nat) (a1_n : Int32) (f_a1_ends : Nat → Int32) (a0_rules_there : Int32) (a0_rules_must : Int32) (a0_rules_strict : Int32) (a0_rules_timed : Int32) (a0_shop_late : Int32) (f_a0_rules_own : Nat → Int32) (f_a1_cashiers : Nat → Int32) (f_a1_begins : Nat → Int32) (f_a0_rules_ahead : Nat → Int32) (a0_stands_base : Int32) (a0_stands_count : Int32) (f_a0_stands_table : Nat → Int32) (f_a0_stands_done : Nat → Int32) (f_a0_stands_tills : Nat → Int32) (f_a0_shop_kinds : Nat → Int32) (f_a1_tills : Nat → Int32) (f_a1_acts : Nat → Int32) (f_a1_wholes : Nat → Int32) (f_a1_answers : Nat → Int32) (f_a0_stands_leads : Nat → Int32) (f_a0_stands_ways : Nat → Int64) (v2 : Int32) (v3 : Int32) : Option (Int32 × Int32 × Int32 × Int32 × Int32 × (Nat → Int32) × (Nat → Int32) × Nat × Int32 × Int32 × (Nat → Int32) × (Nat → Int32) × (Nat → Int32) × (Nat → Int32) × (Nat → Int64)) :=
  k4 a0_stands_calls a0_rules_there a0_rules_must a0_rules_strict a0_rules_timed f_a0_rules_own f_a0_rules_ahead a0_stands_base a0_stands_count f_a0_stands_table f_a0_stands_done f_a0_stands_tills f_a0_stands_leads f_a0_stands_ways v2 ((v3 + (1 : Int32)))
def F_X1_findMends_b88 (k4 : Nat → Int32 → Int32 → Int32 → Int32 → (Nat → Int32) → (Nat → Int32) → Int32 → Int32 → (Nat → Int32) → (Nat → Int32) → (Nat → Int32) → (Nat → Int32) → (Nat → Int64) → Int32 → Int32 → Option (Int32 × Int32 × Int32 × Int32 × Int32 × (Nat → Int32) × (Nat → Int32) × Nat × Int32 × Int32 × (Nat → Int32) × (Nat → Int32) × (Nat → Int32) × (Nat → Int32) × (Nat → Int64))) (fu : Nat) (a1 : Nat) (a1_n : Int32) (f_a1_ends : Nat → Int32) (a0_rules_there : Int32) (a0_rules_must : Int32) (a0_rules_strict : Int32) (a0_rules_timed : Int32) (a0_shop_late : Int32) (f_a0_rules_own : Nat → Int32) (f_a1_cashiers : Nat → Int32) (f_a1_begins : Nat → Int32) (f_a0_rules_ahead : Nat → Int32) (a0_stands_base : Int32) (a0_stands_count : Int32) (f_a0_stands_table : Nat → Int32) (f_a0_stands_done : Nat → Int32) (f_a0_stands_tills : Nat → Int32) (f_a0_shop_kinds : Nat → Int32) (f_a1_tills : Nat → Int32) (f_a1_acts : Nat → Int32) (f_a1_wholes : Nat → Int32) (f_a1_answers : Nat → Int32) (f_a0_stands_leads : Nat → Int32) (f_a0_stands_ways : Nat → Int64) (v3 : Int32) (t0 : Int32) (t1 : Int32) : Option (Int32 × Int32 × Int32 × Int32 × Int32 × (Nat → Int32) × (Nat → Int32) × Nat × Int32 × Int32 × (Nat → Int32) × (Nat → Int32) × (Nat → Int32) × (Nat → Int32) × (Nat → Int64)) :=
  F_X1_findMends_b90 k4 fu a1 a1 a1_n f_a1_ends a0_rules_there a0_rules_must a0_rules_strict a0_rules_timed a0_shop_late f_a0_rules_own f_a1_cashiers f_a1_begins f_a0_rules_ahead a0_stands_base a0_stands_count f_a0_stands_table f_a0_stands_done f_a0_stands_tills f_a0_shop_kinds f_a1_tills f_a1_acts f_a1_wholes f_a1_answers f_a0_stands_leads f_a0_stands_ways (t1 ||| t0) v3
def F_X1_findMends_b4  (fu : Nat) (a1 : Nat) (a1_n : Int32) (f_a1_ends : Nat → Int32) (a0_shop_late : Int32) (f_a1_cashiers : Nat → Int32) (f_a1_begins : Nat → Int32) (f_a0_shop_kinds : Nat → Int32) (f_a1_tills : Nat → Int32) (f_a1_acts : Nat → Int32) (f_a1_wholes : Nat → Int32) (f_a1_answers : Nat → Int32) : Nat → Nat → Int32 → Int32 → Int32 → Int32 → (Nat → Int32) → (Nat → Int32) → Int32 → Int32 → (Nat → Int32) → (Nat → Int32) → (Nat → Int32) → (Nat → Int32) → (Nat → Int64) → Int32 → Int32 → Option (Int32 × Int32 × Int32 × Int32 × Int32 × (Nat → Int32) × (Nat → Int32) × Nat × Int32 × Int32 × (Nat → Int32) × (Nat → Int32) × (Nat → Int32) × (Nat → Int32) × (Nat → Int64))
  | 0, _, _, _, _, _, _, _, _, _, _, _, _, _, _, _, _ => none
  | kf + 1, a0_stands_calls, a0_rules_there, a0_rules_must, a0_rules_strict, a0_rules_timed, f_a0_rules_own, f_a0_rules_ahead, a0_stands_base, a0_stands_count, f_a0_stands_table, f_a0_stands_done, f_a0_stands_tills, f_a0_stands_leads, f_a0_stands_ways, v2, v3 =>
    if a1_n ≤ v3 then
      some (v2, a0_rules_there, a0_rules_must, a0_rules_strict, a0_rules_timed, f_a0_rules_own, f_a0_rules_ahead, a0_stands_calls, a0_stands_base, a0_stands_count, f_a0_stands_table, f_a0_stands_done, f_a0_stands_tills, f_a0_stands_leads, f_a0_stands_ways)
    else
    bnd1 (F_X0_isOpen f_a1_ends v3) fun r14 =>
    if r14 = 0 then
      bnd4 (F_X4_takeAll fu a1_n f_a1_ends) fun u25_0 u25_1 u25_2 u25_3 =>
      bnd1 (F_X4_gapOf (0 : Int32) a0_shop_late) fun r55 =>
      bnd10 (F_X1_countWays fu u25_0 u25_1 u25_2 ((u25_3 &&& (((1 : Int32) <<< (v3 &&& 31)) ^^^ (-1 : Int32)))) f_a0_rules_own a1_n f_a1_cashiers f_a1_begins f_a1_ends f_a0_rules_ahead a0_stands_base f_a0_stands_table f_a0_stands_done f_a0_stands_tills f_a0_shop_kinds f_a1_tills f_a1_acts f_a1_wholes f_a1_answers f_a0_stands_leads f_a0_stands_ways r55) fun r58 u58_0 u58_1 u58_3 u58_4 u58_5 u58_6 u58_7 u58_8 u58_9 =>
      if 0 ≤ (lg_cmp r58 (0 : Int64)) then
        if (lg_cmp r58 (0 : Int64)) ≤ 0 then
          F_X1_findMends_b88 (F_X1_findMends_b4 fu a1 a1_n f_a1_ends a0_shop_late f_a1_cashiers f_a1_begins f_a0_shop_kinds f_a1_tills f_a1_acts f_a1_wholes f_a1_answers kf) fu a1 a1_n f_a1_ends u25_0 u25_1 u25_2 ((u25_3 &&& (((1 : Int32) <<< (v3 &&& 31)) ^^^ (-1 : Int32)))) a0_shop_late u58_0 f_a1_cashiers f_a1_begins u58_1 u58_3 u58_4 u58_5 u58_6 u58_7 f_a0_shop_kinds f_a1_tills f_a1_acts f_a1_wholes f_a1_answers u58_8 u58_9 v3 (0 : Int32) v2
        else
          F_X1_findMends_b88 (F_X1_findMends_b4 fu a1 a1_n f_a1_ends a0_shop_late f_a1_cashiers f_a1_begins f_a0_shop_kinds f_a1_tills f_a1_acts f_a1_wholes f_a1_answers kf) fu a1 a1_n f_a1_ends u25_0 u25_1 u25_2 ((u25_3 &&& (((1 : Int32) <<< (v3 &&& 31)) ^^^ (-1 : Int32)))) a0_shop_late u58_0 f_a1_cashiers f_a1_begins u58_1 u58_3 u58_4 u58_5 u58_6 u58_7 f_a0_shop_kinds f_a1_tills f_a1_acts f_a1_wholes f_a1_answers u58_8 u58_9 v3 (((1 : Int32) <<< (v3 &&& 31))) v2
      else
        some ((-10 : Int32), u25_0, u25_1, u25_2, (u25_3 &&& (((1 : Int32) <<< (v3 &&& 31)) ^^^ (-1 : Int32))), u58_0, u58_1, a1, u58_3, u58_4, u58_5, u58_6, u58_7, u58_8, u58_9)
    else
      F_X1_findMends_b90 (F_X1_findMends_b4 fu a1 a1_n f_a1_ends a0_shop_late f_a1_cashiers f_a1_begins f_a0_shop_kinds f_a1_tills f_a1_acts f_a1_wholes f_a1_answers kf) fu a1 a0_stands_calls a1_n f_a1_ends a0_rules_there a0_rules_must a0_rules_strict a0_rules_timed a0_shop_late f_a0_rules_own f_a1_cashiers f_a1_begins f_a0_rules_ahead a0_stands_base a0_stands_count f_a0_stands_table f_a0_stands_done f_a0_stands_tills f_a0_shop_kinds f_a1_tills f_a1_acts f_a1_wholes f_a1_answers f_a0_stands_leads f_a0_stands_ways v2 v3
def F_X1_findMends (fu : Nat) (a1 : Nat) (a0_stands_calls : Nat) (a1_n : Int32) (f_a1_ends : Nat → Int32) (a0_rules_there : Int32) (a0_rules_must : Int32) (a0_rules_strict : Int32) (a0_rules_timed : Int32) (a0_shop_late : Int32) (f_a0_rules_own : Nat → Int32) (f_a1_cashiers : Nat → Int32) (f_a1_begins : Nat → Int32) (f_a0_rules_ahead : Nat → Int32) (a0_stands_base : Int32) (a0_stands_count : Int32) (f_a0_stands_table : Nat → Int32) (f_a0_stands_done : Nat → Int32) (f_a0_stands_tills : Nat → Int32) (f_a0_shop_kinds : Nat → Int32) (f_a1_tills : Nat → Int32) (f_a1_acts : Nat → Int32) (f_a1_wholes : Nat → Int32) (f_a1_answers : Nat → Int32) (f_a0_stands_leads : Nat → Int32) (f_a0_stands_ways : Nat → Int64) : Option (Int32 × Int32 × Int32 × Int32 × Int32 × (Nat → Int32) × (Nat → Int32) × Nat × Int32 × Int32 × (Nat → Int32) × (Nat → Int32) × (Nat → Int32) × (Nat → Int32) × (Nat → Int64)) :=
  F_X1_findMends_b4 fu a1 a1_n f_a1_ends a0_shop_late f_a1_cashiers f_a1_begins f_a0_shop_kinds f_a1_tills f_a1_acts f_a1_wholes f_a1_answers fu a0_stands_calls a0_rules_there a0_rules_must a0_rules_strict a0_rules_timed f_a0_rules_own f_a0_rules_ahead a0_stands_base a0_stands_count f_a0_stands_table f_a0_stands_done f_a0_stands_tills f_a0_stands_leads f_a0_stands_ways (0 : Int32) (0 : Int32)
def F_X1_frees_b45 (k2 : Int32 → Option (Int32)) (k12 : Int32 → Option (Int32)) (fu : Nat) (a0_n : Int32) (f_a0_ends : Nat → Int32) (f_a0_begins : Nat → Int32) (v1 : Int32) (v2 : Int32) (v3 : Int32) : Option (Int32) :=
  k12 ((v3 + (1 : Int32)))
def F_X1_frees_b12 (k2 : Int32 → Option (Int32)) (fu : Nat) (a0_n : Int32) (f_a0_ends : Nat → Int32) (f_a0_begins : Nat → Int32) (v1 : Int32) (v2 : Int32) : Nat → Int32 → Option (Int32)
  | 0, _ => none
  | kf + 1, v3 =>
    if a0_n ≤ v3 then
      k2 ((v2 + (1 : Int32)))
    else
    bnd1 (F_X0_isOpen f_a0_ends v2) fun r22 =>
    if r22 = 0 then
      bnd1 (F_X0_beginOf f_a0_begins v3) fun r30 =>
      bnd1 (F_X0_endOf f_a0_ends v2) fun r35 =>
      if (r30 - r35) = v1 then
        some (1 : Int32)
      else
        F_X1_frees_b45 k2 (F_X1_frees_b12 k2 fu a0_n f_a0_ends f_a0_begins v1 v2 kf) fu a0_n f_a0_ends f_a0_begins v1 v2 v3
    else
      F_X1_frees_b45 k2 (F_X1_frees_b12 k2 fu a0_n f_a0_ends f_a0_begins v1 v2 kf) fu a0_n f_a0_ends f_a0_begins v1 v2 v3
def F_X1_frees_b2  (fu : Nat) (a0_n : Int32) (f_a0_ends : Nat → Int32) (f_a0_begins : Nat → Int32) (v1 : Int32) : Nat → Int32 → Option (Int32)
  | 0, _ => none
  | kf + 1, v2 =>
    if a0_n ≤ v2 then
      some (0 : Int32)
    else
      F_X1_frees_b12 (F_X1_frees_b2 fu a0_n f_a0_ends f_a0_begins v1 kf) fu a0_n f_a0_ends f_a0_begins v1 v2 fu (0 : Int32)
def F_X1_frees (fu : Nat) (a0_n : Int32) (f_a0_ends : Nat → Int32) (f_a0_begins : Nat → Int32) (v1 : Int32) : Option (Int32) :=
  F_X1_frees_b2 fu a0_n f_a0_ends f_a0_begins v1 fu (0 : Int32)
def F_X1_findEnough_b54 (k10 : Nat → (Nat → Int32) → (Nat → Int32) → Int32 → Int32 → (Nat → Int32) → (Nat → Int32) → (Nat → Int32) → (Nat → Int32) → (Nat → Int64) → Int32 → Option (Int32 × Int32 × Int32 × Int32 × Int32 × (Nat → Int32) × (Nat → Int32) × Nat × Int32 × Int32 × (Nat → Int32) × (Nat → Int32) × (Nat → Int32) × (Nat → Int32) × (Nat → Int64))) (fu : Nat) (a1 : Nat) (a0_stands_calls : Nat) (a1_n : Int32) (f_a1_ends : Nat → Int32) (a0_rules_there : Int32) (a0_rules_must : Int32) (a0_rules_strict : Int32) (a0_rules_timed : Int32) (f_a1_begins : Nat → Int32) (f_a0_rules_own : Nat → Int32) (f_a1_cashiers : Nat → Int32) (f_a0_rules_ahead : Nat → Int32) (a0_stands_base : Int32) (a0_stands_count : Int32) (f_a0_stands_table : Nat → Int32) (f_a0_stands_done : Nat → Int32) (f_a0_stands_tills : Nat → Int32) (f_a0_shop_kinds : Nat → Int32) (f_a1_tills : Nat → Int32) (f_a1_acts : Nat → Int32) (f_a1_wholes : Nat → Int32) (f_a1_answers : Nat → Int32) (f_a0_stands_leads : Nat → Int32) (f_a0_stands_ways : Nat → Int64) (v2 : Int32) : Option (Int32 × Int32 × Int32 × Int32 × Int32 × (Nat → Int32) × (Nat → Int32) × Nat × Int32 × Int32 × (Nat → Int32) × (Nat → Int32) × (Nat → Int32) × (Nat → Int32) × (Nat → Int64)) :=
  k10 a0_stands_calls f_a0_rules_own f_a0_rules_ahead a0_stands_base a0_stands_count f_a0_stands_table f_a0_stands_done f_a0_stands_tills f_a0_stands_leads f_a0_stands_ways ((v2 + (1 : Int32)))
def F_X1_findEnough_b28 (k10 : Nat → (Nat → Int32) → (Nat → Int32) → Int32 → Int32 → (Nat → Int32) → (Nat → Int32) → (Nat → Int32) → (Nat → Int32) → (Nat → Int64) → Int32 → Option (Int32 × Int32 × Int32 × Int32 × Int32 × (Nat → Int32) × (Nat → Int32) × Nat × Int32 × Int32 × (Nat → Int32) × (Nat → Int32) × (Nat → Int32) × (Nat → Int32) × (Nat → Int64))) (fu : Nat) (a1 : Nat) (a1_n : Int32) (f_a1_ends : Nat → Int32) (a0_rules_there : Int32) (a0_rules_must : Int32) (a0_rules_strict : Int32) (a0_rules_timed : Int32) (f_a1_begins : Nat → Int32) (f_a0_rules_own : Nat → Int32) (f_a1_cashiers : Nat → Int32) (f_a0_rules_ahead : Nat → Int32) (a0_stands_base : Int32) (f_a0_stands_table : Nat → Int32) (f_a0_stands_done : Nat → Int32) (f_a0_stands_tills : Nat → Int32) (f_a0_shop_kinds : Nat → Int32) (f_a1_tills : Nat → Int32) (f_a1_acts : Nat → Int32) (f_a1_wholes : Nat → Int32) (f_a1_answers : Nat → Int32) (f_a0_stands_leads : Nat → Int32) (f_a0_stands_ways : Nat → Int64) (v2 : Int32) : Option (Int32 × Int32 × Int32 × Int32 × Int32 × (Nat → Int32) × (Nat → Int32) × Nat × Int32 × Int32 × (Nat → Int32) × (Nat → Int32) × (Nat → Int32) × (Nat → Int32) × (Nat → Int64)) :=
  bnd10 (F_X1_countWays fu a0_rules_there a0_rules_must a0_rules_strict a0_rules_timed f_a0_rules_own a1_n f_a1_cashiers f_a1_begins f_a1_ends f_a0_rules_ahead a0_stands_base f_a0_stands_table f_a0_stands_done f_a0_stands_tills f_a0_shop_kinds f_a1_tills f_a1_acts f_a1_wholes f_a1_answers f_a0_stands_leads f_a0_stands_ways v2) fun r31 u31_0 u31_1 u31_3 u31_4 u31_5 u31_6 u31_7 u31_8 u31_9 =>
  if (lg_cmp r31 (0 : Int64)) = 0 then
    F_X1_findEnough_b54 k10 fu a1 a1 a1_n f_a1_ends a0_rules_there a0_rules_must a0_rules_strict a0_rules_timed f_a1_begins u31_0 f_a1_cashiers u31_1 u31_3 u31_4 u31_5 u31_6 u31_7 f_a0_shop_kinds f_a1_tills f_a1_acts f_a1_wholes f_a1_answers u31_8 u31_9 v2
  else
  if 0 ≤ (lg_cmp r31 (0 : Int64)) then
    some (v2, a0_rules_there, a0_rules_must, a0_rules_strict, a0_rules_timed, u31_0, u31_1, a1, u31_3, u31_4, u31_5, u31_6, u31_7, u31_8, u31_9)
  else
    some ((-10 : Int32), a0_rules_there, a0_rules_must, a0_rules_strict, a0_rules_timed, u31_0, u31_1, a1, u31_3, u31_4, u31_5, u31_6, u31_7, u31_8, u31_9)
def F_X1_findEnough_b10  (fu : Nat) (a1 : Nat) (a1_n : Int32) (f_a1_ends : Nat → Int32) (a0_rules_there : Int32) (a0_rules_must : Int32) (a0_rules_strict : Int32) (a0_rules_timed : Int32) (f_a1_begins : Nat → Int32) (f_a1_cashiers : Nat → Int32) (f_a0_shop_kinds : Nat → Int32) (f_a1_tills : Nat → Int32) (f_a1_acts : Nat → Int32) (f_a1_wholes : Nat → Int32) (f_a1_answers : Nat → Int32) : Nat → Nat → (Nat → Int32) → (Nat → Int32) → Int32 → Int32 → (Nat → Int32) → (Nat → Int32) → (Nat → Int32) → (Nat → Int32) → (Nat → Int64) → Int32 → Option (Int32 × Int32 × Int32 × Int32 × Int32 × (Nat → Int32) × (Nat → Int32) × Nat × Int32 × Int32 × (Nat → Int32) × (Nat → Int32) × (Nat → Int32) × (Nat → Int32) × (Nat → Int64))
  | 0, _, _, _, _, _, _, _, _, _, _, _ => none
  | kf + 1, a0_stands_calls, f_a0_rules_own, f_a0_rules_ahead, a0_stands_base, a0_stands_count, f_a0_stands_table, f_a0_stands_done, f_a0_stands_tills, f_a0_stands_leads, f_a0_stands_ways, v2 =>
    if (99 : Int32) < v2 then
      some ((-2 : Int32), a0_rules_there, a0_rules_must, a0_rules_strict, a0_rules_timed, f_a0_rules_own, f_a0_rules_ahead, a0_stands_calls, a0_stands_base, a0_stands_count, f_a0_stands_table, f_a0_stands_done, f_a0_stands_tills, f_a0_stands_leads, f_a0_stands_ways)
    else
    if v2 = 0 then
      F_X1_findEnough_b28 (F_X1_findEnough_b10 fu a1 a1_n f_a1_ends a0_rules_there a0_rules_must a0_rules_strict a0_rules_timed f_a1_begins f_a1_cashiers f_a0_shop_kinds f_a1_tills f_a1_acts f_a1_wholes f_a1_answers kf) fu a1 a1_n f_a1_ends a0_rules_there a0_rules_must a0_rules_strict a0_rules_timed f_a1_begins f_a0_rules_own f_a1_cashiers f_a0_rules_ahead a0_stands_base f_a0_stands_table f_a0_stands_done f_a0_stands_tills f_a0_shop_kinds f_a1_tills f_a1_acts f_a1_wholes f_a1_answers f_a0_stands_leads f_a0_stands_ways v2
    else
    bnd1 (F_X1_frees fu a1_n f_a1_ends f_a1_begins v2) fun r22 =>
    if r22 = 0 then
      F_X1_findEnough_b54 (F_X1_findEnough_b10 fu a1 a1_n f_a1_ends a0_rules_there a0_rules_must a0_rules_strict a0_rules_timed f_a1_begins f_a1_cashiers f_a0_shop_kinds f_a1_tills f_a1_acts f_a1_wholes f_a1_answers kf) fu a1 a0_stands_calls a1_n f_a1_ends a0_rules_there a0_rules_must a0_rules_strict a0_rules_timed f_a1_begins f_a0_rules_own f_a1_cashiers f_a0_rules_ahead a0_stands_base a0_stands_count f_a0_stands_table f_a0_stands_done f_a0_stands_tills f_a0_shop_kinds f_a1_tills f_a1_acts f_a1_wholes f_a1_answers f_a0_stands_leads f_a0_stands_ways v2
    else
      F_X1_findEnough_b28 (F_X1_findEnough_b10 fu a1 a1_n f_a1_ends a0_rules_there a0_rules_must a0_rules_strict a0_rules_timed f_a1_begins f_a1_cashiers f_a0_shop_kinds f_a1_tills f_a1_acts f_a1_wholes f_a1_answers kf) fu a1 a1_n f_a1_ends a0_rules_there a0_rules_must a0_rules_strict a0_rules_timed f_a1_begins f_a0_rules_own f_a1_cashiers f_a0_rules_ahead a0_stands_base f_a0_stands_table f_a0_stands_done f_a0_stands_tills f_a0_shop_kinds f_a1_tills f_a1_acts f_a1_wholes f_a1_answers f_a0_stands_leads f_a0_stands_ways v2
def F_X1_findEnough (fu : Nat) (a1 : Nat) (a0_stands_calls : Nat) (a1_n : Int32) (f_a1_ends : Nat → Int32) (f_a1_begins : Nat → Int32) (f_a0_rules_own : Nat → Int32) (f_a1_cashiers : Nat → Int32) (f_a0_rules_ahead : Nat → Int32) (a0_stands_base : Int32) (a0_stands_count : Int32) (f_a0_stands_table : Nat → Int32) (f_a0_stands_done : Nat → Int32) (f_a0_stands_tills : Nat → Int32) (f_a0_shop_kinds : Nat → Int32) (f_a1_tills : Nat → Int32) (f_a1_acts : Nat → Int32) (f_a1_wholes : Nat → Int32) (f_a1_answers : Nat → Int32) (f_a0_stands_leads : Nat → Int32) (f_a0_stands_ways : Nat → Int64) : Option (Int32 × Int32 × Int32 × Int32 × Int32 × (Nat → Int32) × (Nat → Int32) × Nat × Int32 × Int32 × (Nat → Int32) × (Nat → Int32) × (Nat → Int32) × (Nat → Int32) × (Nat → Int64)) :=
  bnd4 (F_X4_takeAll fu a1_n f_a1_ends) fun u5_0 u5_1 u5_2 u5_3 =>
  F_X1_findEnough_b10 fu a1 a1_n f_a1_ends u5_0 u5_1 u5_2 u5_3 f_a1_begins f_a1_cashiers f_a0_shop_kinds f_a1_tills f_a1_acts f_a1_wholes f_a1_answers fu a0_stands_calls f_a0_rules_own f_a0_rules_ahead a0_stands_base a0_stands_count f_a0_stands_table f_a0_stands_done f_a0_stands_tills f_a0_stands_leads f_a0_stands_ways (0 : Int32)
def F_X1_answerOnTheWay_b49 (k2 : Int32 → Option (Int32)) (a0_stands_count : Int32) (f_a0_stands_done : Nat → Int32) (f_a0_rules_own : Nat → Int32) (f_a0_rules_ahead : Nat → Int32) (f_a0_stands_leads : Nat → Int32) (f_a0_stands_ways : Nat → Int64) (f_a0_stands_calls_tills : Nat → Int32) (f_a0_shop_kinds : Nat → Int32) (f_a0_stands_tills : Nat → Int32) (f_a0_stands_calls_acts : Nat → Int32) (f_a0_stands_calls_wholes : Nat → Int32) (v1 : Int32) (v2 : Int32) (v3 : Int32) : Option (Int32) :=
  k2 ((v3 + (1 : Int32)))
def F_X1_answerOnTheWay_b2  (a0_stands_count : Int32) (f_a0_stands_done : Nat → Int32) (f_a0_rules_own : Nat → Int32) (f_a0_rules_ahead : Nat → Int32) (f_a0_stands_leads : Nat → Int32) (f_a0_stands_ways : Nat → Int64) (f_a0_stands_calls_tills : Nat → Int32) (f_a0_shop_kinds : Nat → Int32) (f_a0_stands_tills : Nat → Int32) (f_a0_stands_calls_acts : Nat → Int32) (f_a0_stands_calls_wholes : Nat → Int32) (v1 : Int32) (v2 : Int32) : Nat → Int32 → Option (Int32)
  | 0, _ => none
  | kf + 1, v3 =>
    if (4 : Int32) ≤ v3 then
      some (-1 : Int32)
    else
    bnd1 (F_X6_callAt a0_stands_count f_a0_stands_done f_a0_rules_own f_a0_rules_ahead v1 v3) fun r13 =>
    if r13 = v2 then
      bnd1 (F_X6_leadAt a0_stands_count f_a0_stands_leads v1 v3) fun r30 =>
      bnd1 (F_X6_leadsToEnd a0_stands_count f_a0_stands_ways r30) fun r33 =>
      if r33 = 0 then
        F_X1_answerOnTheWay_b49 (F_X1_answerOnTheWay_b2 a0_stands_count f_a0_stands_done f_a0_rules_own f_a0_rules_ahead f_a0_stands_leads f_a0_stands_ways f_a0_stands_calls_tills f_a0_shop_kinds f_a0_stands_tills f_a0_stands_calls_acts f_a0_stands_calls_wholes v1 v2 kf) a0_stands_count f_a0_stands_done f_a0_rules_own f_a0_rules_ahead f_a0_stands_leads f_a0_stands_ways f_a0_stands_calls_tills f_a0_shop_kinds f_a0_stands_tills f_a0_stands_calls_acts f_a0_stands_calls_wholes v1 v2 v3
      else
      bnd1 (F_X6_answerAt a0_stands_count f_a0_stands_calls_tills f_a0_shop_kinds f_a0_stands_tills f_a0_stands_calls_acts f_a0_stands_calls_wholes v1 v2) fun r45 =>
      some r45
    else
      F_X1_answerOnTheWay_b49 (F_X1_answerOnTheWay_b2 a0_stands_count f_a0_stands_done f_a0_rules_own f_a0_rules_ahead f_a0_stands_leads f_a0_stands_ways f_a0_stands_calls_tills f_a0_shop_kinds f_a0_stands_tills f_a0_stands_calls_acts f_a0_stands_calls_wholes v1 v2 kf) a0_stands_count f_a0_stands_done f_a0_rules_own f_a0_rules_ahead f_a0_stands_leads f_a0_stands_ways f_a0_stands_calls_tills f_a0_shop_kinds f_a0_stands_tills f_a0_stands_calls_acts f_a0_stands_calls_wholes v1 v2 v3
def F_X1_answerOnTheWay (fu : Nat) (a0_stands_count : Int32) (f_a0_stands_done : Nat → Int32) (f_a0_rules_own : Nat → Int32) (f_a0_rules_ahead : Nat → Int32) (f_a0_stands_leads : Nat → Int32) (f_a0_stands_ways : Nat → Int64) (f_a0_stands_calls_tills : Nat → Int32) (f_a0_shop_kinds : Nat → Int32) (f_a0_stands_tills : Nat → Int32) (f_a0_stands_calls_acts : Nat → Int32) (f_a0_stands_calls_wholes : Nat → Int32) (v1 : Int32) (v2 : Int32) : Option (Int32) :=
  F_X1_answerOnTheWay_b2 a0_stands_count f_a0_stands_done f_a0_rules_own f_a0_rules_ahead f_a0_stands_leads f_a0_stands_ways f_a0_stands_calls_tills f_a0_shop_kinds f_a0_stands_tills f_a0_stands_calls_acts f_a0_stands_calls_wholes v1 v2 fu (0 : Int32)
def F_X1_findCould_b144 (k87 : (Nat → Int32) → Int32 → Int32 → Option (Int32 × Int32 × Int32 × Int32 × Int32 × (Nat → Int32) × (Nat → Int32) × Int32 × Int32 × (Nat → Int32) × (Nat → Int32) × (Nat → Int32) × (Nat → Int32) × (Nat → Int64) × (Nat → Int32))) (fu : Nat) (a0_rules_there : Int32) (a0_rules_must : Int32) (a0_rules_strict : Int32) (a0_rules_timed : Int32) (f_a0_rules_own : Nat → Int32) (f_a0_rules_ahead : Nat → Int32) (a0_stands_base : Int32) (a0_stands_count : Int32) (f_a0_stands_table : Nat → Int32) (f_a0_stands_done : Nat → Int32) (f_a0_stands_tills : Nat → Int32) (f_a0_shop_kinds : Nat → Int32) (f_a1_tills : Nat → Int32) (f_a1_acts : Nat → Int32) (f_a1_wholes : Nat → Int32) (f_a0_stands_leads : Nat → Int32) (f_a0_stands_ways : Nat → Int64) (f_a0_could : Nat → Int32) (v3 : Int32) (v4 : Int32) (v5 : Int32) : Option (Int32 × Int32 × Int32 × Int32 × Int32 × (Nat → Int32) × (Nat → Int32) × Int32 × Int32 × (Nat → Int32) × (Nat → Int32) × (Nat → Int32) × (Nat → Int32) × (Nat → Int64) × (Nat → Int32)) :=
  k87 f_a0_could v4 ((v5 + (1 : Int32)))
def F_X1_findCould_b87  (fu : Nat) (a0_rules_there : Int32) (a0_rules_must : Int32) (a0_rules_strict : Int32) (a0_rules_timed : Int32) (f_a0_rules_own : Nat → Int32) (f_a0_rules_ahead : Nat → Int32) (a0_stands_base : Int32) (a0_stands_count : Int32) (f_a0_stands_table : Nat → Int32) (f_a0_stands_done : Nat → Int32) (f_a0_stands_tills : Nat → Int32) (f_a0_shop_kinds : Nat → Int32) (f_a1_tills : Nat → Int32) (f_a1_acts : Nat → Int32) (f_a1_wholes : Nat → Int32) (f_a0_stands_leads : Nat → Int32) (f_a0_stands_ways : Nat → Int64) (v3 : Int32) : Nat → (Nat → Int32) → Int32 → Int32 → Option (Int32 × Int32 × Int32 × Int32 × Int32 × (Nat → Int32) × (Nat → Int32) × Int32 × Int32 × (Nat → Int32) × (Nat → Int32) × (Nat → Int32) × (Nat → Int32) × (Nat → Int64) × (Nat → Int32))
  | 0, _, _, _ => none
  | kf + 1, f_a0_could, v4, v5 =>
    if a0_stands_count ≤ v5 then
      some (v4, a0_rules_there, a0_rules_must, a0_rules_strict, a0_rules_timed, f_a0_rules_own, f_a0_rules_ahead, a0_stands_base, a0_stands_count, f_a0_stands_table, f_a0_stands_done, f_a0_stands_tills, f_a0_stands_leads, f_a0_stands_ways, f_a0_could)
    else
    bnd1 (F_X1_answerOnTheWay fu a0_stands_count f_a0_stands_done f_a0_rules_own f_a0_rules_ahead f_a0_stands_leads f_a0_stands_ways f_a1_tills f_a0_shop_kinds f_a0_stands_tills f_a1_acts f_a1_wholes v5 v3) fun r103 =>
    if r103 < 0 then
      F_X1_findCould_b144 (F_X1_findCould_b87 fu a0_rules_there a0_rules_must a0_rules_strict a0_rules_timed f_a0_rules_own f_a0_rules_ahead a0_stands_base a0_stands_count f_a0_stands_table f_a0_stands_done f_a0_stands_tills f_a0_shop_kinds f_a1_tills f_a1_acts f_a1_wholes f_a0_stands_leads f_a0_stands_ways v3 kf) fu a0_rules_there a0_rules_must a0_rules_strict a0_rules_timed f_a0_rules_own f_a0_rules_ahead a0_stands_base a0_stands_count f_a0_stands_table f_a0_stands_done f_a0_stands_tills f_a0_shop_kinds f_a1_tills f_a1_acts f_a1_wholes f_a0_stands_leads f_a0_stands_ways f_a0_could v3 v4 v5
    else
    if (100 : Int32) ≤ r103 then
      F_X1_findCould_b144 (F_X1_findCould_b87 fu a0_rules_there a0_rules_must a0_rules_strict a0_rules_timed f_a0_rules_own f_a0_rules_ahead a0_stands_base a0_stands_count f_a0_stands_table f_a0_stands_done f_a0_stands_tills f_a0_shop_kinds f_a1_tills f_a1_acts f_a1_wholes f_a0_stands_leads f_a0_stands_ways v3 kf) fu a0_rules_there a0_rules_must a0_rules_strict a0_rules_timed f_a0_rules_own f_a0_rules_ahead a0_stands_base a0_stands_count f_a0_stands_table f_a0_stands_done f_a0_stands_tills f_a0_shop_kinds f_a1_tills f_a1_acts f_a1_wholes f_a0_stands_leads f_a0_stands_ways f_a0_could v3 v4 v5
    else
    if r103 < 0 ∨ 100 ≤ r103.toNatClampNeg then none else
    if (f_a0_could r103.toNatClampNeg) = 0 then
      if r103 < 0 ∨ 100 ≤ r103.toNatClampNeg then none else
      F_X1_findCould_b144 (F_X1_findCould_b87 fu a0_rules_there a0_rules_must a0_rules_strict a0_rules_timed f_a0_rules_own f_a0_rules_ahead a0_stands_base a0_stands_count f_a0_stands_table f_a0_stands_done f_a0_stands_tills f_a0_shop_kinds f_a1_tills f_a1_acts f_a1_wholes f_a0_stands_leads f_a0_stands_ways v3 kf) fu a0_rules_there a0_rules_must a0_rules_strict a0_rules_timed f_a0_rules_own f_a0_rules_ahead a0_stands_base a0_stands_count f_a0_stands_table f_a0_stands_done f_a0_stands_tills f_a0_shop_kinds f_a1_tills f_a1_acts f_a1_wholes f_a0_stands_leads f_a0_stands_ways ((upd f_a0_could r103.toNatClampNeg (1 : Int32))) v3 ((v4 + (1 : Int32))) v5
    else
      F_X1_findCould_b144 (F_X1_findCould_b87 fu a0_rules_there a0_rules_must a0_rules_strict a0_rules_timed f_a0_rules_own f_a0_rules_ahead a0_stands_base a0_stands_count f_a0_stands_table f_a0_stands_done f_a0_stands_tills f_a0_shop_kinds f_a1_tills f_a1_acts f_a1_wholes f_a0_stands_leads f_a0_stands_ways v3 kf) fu a0_rules_there a0_rules_must a0_rules_strict a0_rules_timed f_a0_rules_own f_a0_rules_ahead a0_stands_base a0_stands_count f_a0_stands_table f_a0_stands_done f_a0_stands_tills f_a0_shop_kinds f_a1_tills f_a1_acts f_a1_wholes f_a0_stands_leads f_a0_stands_ways f_a0_could v3 v4 v5
def F_X1_findCould (fu : Nat) (a1_n : Int32) (f_a1_ends : Nat → Int32) (a0_shop_late : Int32) (f_a0_rules_own : Nat → Int32) (f_a1_cashiers : Nat → Int32) (f_a1_begins : Nat → Int32) (f_a0_rules_ahead : Nat → Int32) (a0_stands_base : Int32) (f_a0_stands_table : Nat → Int32) (f_a0_stands_done : Nat → Int32) (f_a0_stands_tills : Nat → Int32) (f_a0_shop_kinds : Nat → Int32) (f_a1_tills : Nat → Int32) (f_a1_acts : Nat → Int32) (f_a1_wholes : Nat → Int32) (f_a1_answers : Nat → Int32) (f_a0_stands_leads : Nat → Int32) (f_a0_stands_ways : Nat → Int64) (f_a0_could : Nat → Int32) (v2 : Int32) (v3 : Int32) : Option (Int32 × Int32 × Int32 × Int32 × Int32 × (Nat → Int32) × (Nat → Int32) × Int32 × Int32 × (Nat → Int32) × (Nat → Int32) × (Nat → Int32) × (Nat → Int32) × (Nat → Int64) × (Nat → Int32)) :=
  bnd4 (F_X4_takeAll fu a1_n f_a1_ends) fun u5_0 u5_1 u5_2 u5_3 =>
  bnd1 (F_X4_gapOf v2 a0_shop_late) fun r38 =>
  bnd2 (F_X4_bind fu u5_0 u5_3 f_a0_rules_own a1_n f_a1_cashiers f_a1_begins f_a1_ends f_a0_rules_ahead r38) fun u41_0 u41_1 =>
  bnd7 (F_X6_explore fu a0_stands_base f_a0_stands_table f_a0_stands_done f_a0_stands_tills f_a0_shop_kinds ((u5_2 &&& (((1 : Int32) <<< (v3 &&& 31)) ^^^ (-1 : Int32)))) u41_0 u41_1 f_a1_tills f_a1_acts f_a1_wholes f_a1_answers f_a0_stands_leads) fun r49 u49_1 u49_2 u49_3 u49_4 u49_5 u49_6 =>
  if r49 = 0 then
    some ((-10 : Int32), u5_0, u5_1, (u5_2 &&& (((1 : Int32) <<< (v3 &&& 31)) ^^^ (-1 : Int32))), u5_3, u41_0, u41_1, u49_1, u49_2, u49_3, u49_4, u49_5, u49_6, f_a0_stands_ways, f_a0_could)
  else
  bnd2 (F_X6_countWays fu u49_2 f_a0_stands_ways u49_4 u49_6 u5_1) fun r69 u69_0 =>
  bnd1 (F_J7_fill_53178 fu 100 f_a0_could (0 : Int32)) fun u78_0 =>
  F_X1_findCould_b87 fu u5_0 u5_1 ((u5_2 &&& (((1 : Int32) <<< (v3 &&& 31)) ^^^ (-1 : Int32)))) u5_3 u41_0 u41_1 u49_1 u49_2 u49_3 u49_4 u49_5 f_a0_shop_kinds f_a1_tills f_a1_acts f_a1_wholes u49_6 u69_0 v3 fu u78_0 (0 : Int32) (0 : Int32)
def F_X1_leastCould_b2  (f_a0_could : Nat → Int32) : Nat → Int32 → Option (Int32)
  | 0, _ => none
  | kf + 1, v1 =>
    if (100 : Int32) ≤ v1 then
      some (-11 : Int32)
    else
    if v1 < 0 ∨ 100 ≤ v1.toNatClampNeg then none else
    if (f_a0_could v1.toNatClampNeg) = (1 : Int32) then
      some v1
    else
      (F_X1_leastCould_b2 f_a0_could kf) ((v1 + (1 : Int32)))
def F_X1_leastCould (fu : Nat) (f_a0_could : Nat → Int32) : Option (Int32) :=
  F_X1_leastCould_b2 f_a0_could fu (0 : Int32)
def F_X1_greatestCould_b8  (f_a0_could : Nat → Int32) : Nat → Int32 → Option (Int32)
  | 0, _ => none
  | kf + 1, v1 =>
    if v1 < 0 then
      some (-11 : Int32)
    else
    if v1 < 0 ∨ 100 ≤ v1.toNatClampNeg then none else
    if (f_a0_could v1.toNatClampNeg) = (1 : Int32) then
      some v1
    else
      (F_X1_greatestCould_b8 f_a0_could kf) ((v1 + (-1 : Int32)))
def F_X1_greatestCould (fu : Nat) (f_a0_could : Nat → Int32) : Option (Int32) :=
  F_X1_greatestCould_b8 f_a0_could fu (((100 : Int32) - (1 : Int32)))
def F_X1_addSet_b52 (k22 : (Nat → Int64) → Int32 → Option (Int32 × (Nat → Int32) × (Nat → Int64))) (a0_setCount : Int32) (f_a0_sets : Nat → Int32) (f_a0_setsOf : Nat → Int64) (v1 : Int32) (v2 : Int32) : Option (Int32 × (Nat → Int32) × (Nat → Int64)) :=
  k22 f_a0_setsOf ((v2 + (1 : Int32)))
def F_X1_addSet_b22  (a0_setCount : Int32) (f_a0_sets : Nat → Int32) (v1 : Int32) : Nat → (Nat → Int64) → Int32 → Option (Int32 × (Nat → Int32) × (Nat → Int64))
  | 0, _, _ => none
  | kf + 1, f_a0_setsOf, v2 =>
    if (20 : Int32) ≤ v2 then
      some ((a0_setCount + (1 : Int32)), f_a0_sets, f_a0_setsOf)
    else
    if ((v1 >>> (v2 &&& 31)) &&& (1 : Int32)) = (1 : Int32) then
      if v2 < 0 ∨ 20 ≤ v2.toNatClampNeg then none else
      if v2 < 0 ∨ 20 ≤ v2.toNatClampNeg then none else
      F_X1_addSet_b52 (F_X1_addSet_b22 a0_setCount f_a0_sets v1 kf) a0_setCount f_a0_sets ((vp_updL f_a0_setsOf v2.toNatClampNeg ((f_a0_setsOf v2.toNatClampNeg) ||| ((1 : Int64) <<< (a0_setCount.toInt64 &&& 63))))) v1 v2
    else
      F_X1_addSet_b52 (F_X1_addSet_b22 a0_setCount f_a0_sets v1 kf) a0_setCount f_a0_sets f_a0_setsOf v1 v2
def F_X1_addSet (fu : Nat) (a0_setCount : Int32) (f_a0_sets : Nat → Int32) (f_a0_setsOf : Nat → Int64) (v1 : Int32) : Option (Int32 × (Nat → Int32) × (Nat → Int64)) :=
  if a0_setCount < (64 : Int32) then
    if a0_setCount < 0 ∨ 64 ≤ a0_setCount.toNatClampNeg then none else
    F_X1_addSet_b22 a0_setCount (upd f_a0_sets a0_setCount.toNatClampNeg v1) v1 fu f_a0_setsOf (0 : Int32)
  else
    some (a0_setCount, f_a0_sets, f_a0_setsOf)
def F_X1_dropSets (fu : Nat) (f_a0_setsOf : Nat → Int64) : Option (Int32 × (Nat → Int64)) :=
  bnd1 (F_J7_fill_d0a16 fu 20 f_a0_setsOf (0 : Int64)) fun u10_0 =>
  some ((0 : Int32), u10_0)
def F_X1_firstSetThatCannot_b30  (a0_setCount : Int32) (f_a0_stands_ways : Nat → Int64) (f_a0_sets : Nat → Int32) (v1 : Int64) : Nat → Int32 → Option (Int32 × (Nat → Int64))
  | 0, _ => none
  | kf + 1, v3 =>
    if a0_setCount ≤ v3 then
      some ((0 : Int32), f_a0_stands_ways)
    else
    if (64 : Int32) ≤ v3 then
      some ((0 : Int32), f_a0_stands_ways)
    else
    if (lg_cmp ((v1 >>> (v3.toInt64 &&& 63)) &&& (1 : Int64)) (0 : Int64)) = 0 then
      if v3 < 0 ∨ 64 ≤ v3.toNatClampNeg then none else
      some ((f_a0_sets v3.toNatClampNeg), f_a0_stands_ways)
    else
      (F_X1_firstSetThatCannot_b30 a0_setCount f_a0_stands_ways f_a0_sets v1 kf) ((v3 + (1 : Int32)))
def F_X1_firstSetThatCannot (fu : Nat) (a0_setCount : Int32) (a0_rules_must : Int32) (a0_stands_count : Int32) (f_a0_stands_ways : Nat → Int64) (f_a0_stands_done : Nat → Int32) (f_a0_stands_leads : Nat → Int32) (f_a0_rules_own : Nat → Int32) (f_a0_rules_ahead : Nat → Int32) (f_a0_setsOf : Nat → Int64) (f_a0_stands_calls_tills : Nat → Int32) (f_a0_stands_tills : Nat → Int32) (f_a0_shop_kinds : Nat → Int32) (f_a0_stands_calls_acts : Nat → Int32) (f_a0_stands_calls_wholes : Nat → Int32) (f_a0_stands_calls_answers : Nat → Int32) (f_a0_sets : Nat → Int32) : Option (Int32 × (Nat → Int64)) :=
  if a0_setCount = 0 then
    some ((0 : Int32), f_a0_stands_ways)
  else
  bnd2 (F_X6_setsThatCan fu 20 a0_stands_count f_a0_stands_ways f_a0_stands_done a0_rules_must f_a0_stands_leads f_a0_rules_own f_a0_rules_ahead f_a0_setsOf f_a0_stands_calls_tills f_a0_stands_tills f_a0_shop_kinds f_a0_stands_calls_acts f_a0_stands_calls_wholes f_a0_stands_calls_answers a0_rules_must) fun r24 u24_0 =>
  F_X1_firstSetThatCannot_b30 a0_setCount u24_0 f_a0_sets r24 fu (0 : Int32)
def F_X1_firstCore_b66 (k2 : Int32 → (Nat → Int32) → (Nat → Int64) → (Nat → Int64) → Int32 → Option (Int32 × Int32 × (Nat → Int32) × (Nat → Int64) × (Nat → Int64))) (fu : Nat) (a0_setCount : Int32) (a0_rules_must : Int32) (f_a0_sets : Nat → Int32) (f_a0_setsOf : Nat → Int64) (a0_stands_count : Int32) (f_a0_stands_ways : Nat → Int64) (f_a0_stands_done : Nat → Int32) (f_a0_stands_leads : Nat → Int32) (f_a0_rules_own : Nat → Int32) (f_a0_rules_ahead : Nat → Int32) (f_a0_stands_calls_tills : Nat → Int32) (f_a0_stands_tills : Nat → Int32) (f_a0_shop_kinds : Nat → Int32) (f_a0_stands_calls_acts : Nat → Int32) (f_a0_stands_calls_wholes : Nat → Int32) (f_a0_stands_calls_answers : Nat → Int32) (v1 : Int32) (v2 : Int32) (v3 : Int32) : Option (Int32 × Int32 × (Nat → Int32) × (Nat → Int64) × (Nat → Int64)) :=
  k2 a0_setCount f_a0_sets f_a0_setsOf f_a0_stands_ways ((v3 + (1 : Int32)))
def F_X1_firstCore_b48 (k2 : Int32 → (Nat → Int32) → (Nat → Int64) → (Nat → Int64) → Int32 → Option (Int32 × Int32 × (Nat → Int32) × (Nat → Int64) × (Nat → Int64))) (fu : Nat) (a0_setCount : Int32) (a0_rules_must : Int32) (f_a0_sets : Nat → Int32) (f_a0_setsOf : Nat → Int64) (a0_stands_count : Int32) (f_a0_stands_ways : Nat → Int64) (f_a0_stands_done : Nat → Int32) (f_a0_stands_leads : Nat → Int32) (f_a0_rules_own : Nat → Int32) (f_a0_rules_ahead : Nat → Int32) (f_a0_stands_calls_tills : Nat → Int32) (f_a0_stands_tills : Nat → Int32) (f_a0_shop_kinds : Nat → Int32) (f_a0_stands_calls_acts : Nat → Int32) (f_a0_stands_calls_wholes : Nat → Int32) (f_a0_stands_calls_answers : Nat → Int32) (v1 : Int32) (v2 : Int32) (v3 : Int32) : Option (Int32 × Int32 × (Nat → Int32) × (Nat → Int64) × (Nat → Int64)) :=
  bnd2 (F_X1_firstSetThatCannot fu a0_setCount a0_rules_must a0_stands_count f_a0_stands_ways f_a0_stands_done f_a0_stands_leads f_a0_rules_own f_a0_rules_ahead f_a0_setsOf f_a0_stands_calls_tills f_a0_stands_tills f_a0_shop_kinds f_a0_stands_calls_acts f_a0_stands_calls_wholes f_a0_stands_calls_answers f_a0_sets) fun r49 u49_0 =>
  bnd2 (F_X1_dropSets fu f_a0_setsOf) fun u55_0 u55_1 =>
  if r49 = 0 then
    F_X1_firstCore_b66 k2 fu u55_0 a0_rules_must f_a0_sets u55_1 a0_stands_count u49_0 f_a0_stands_done f_a0_stands_leads f_a0_rules_own f_a0_rules_ahead f_a0_stands_calls_tills f_a0_stands_tills f_a0_shop_kinds f_a0_stands_calls_acts f_a0_stands_calls_wholes f_a0_stands_calls_answers v1 v2 v3
  else
    some (r49, u55_0, f_a0_sets, u55_1, u49_0)
def F_X1_firstCore_b34 (k2 : Int32 → (Nat → Int32) → (Nat → Int64) → (Nat → Int64) → Int32 → Option (Int32 × Int32 × (Nat → Int32) × (Nat → Int64) × (Nat → Int64))) (fu : Nat) (a0_setCount : Int32) (a0_rules_must : Int32) (f_a0_sets : Nat → Int32) (f_a0_setsOf : Nat → Int64) (a0_stands_count : Int32) (f_a0_stands_ways : Nat → Int64) (f_a0_stands_done : Nat → Int32) (f_a0_stands_leads : Nat → Int32) (f_a0_rules_own : Nat → Int32) (f_a0_rules_ahead : Nat → Int32) (f_a0_stands_calls_tills : Nat → Int32) (f_a0_stands_tills : Nat → Int32) (f_a0_shop_kinds : Nat → Int32) (f_a0_stands_calls_acts : Nat → Int32) (f_a0_stands_calls_wholes : Nat → Int32) (f_a0_stands_calls_answers : Nat → Int32) (v1 : Int32) (v2 : Int32) (v3 : Int32) : Option (Int32 × Int32 × (Nat → Int32) × (Nat → Int64) × (Nat → Int64)) :=
  if a0_setCount = (64 : Int32) then
    F_X1_firstCore_b48 k2 fu a0_setCount a0_rules_must f_a0_sets f_a0_setsOf a0_stands_count f_a0_stands_ways f_a0_stands_done f_a0_stands_leads f_a0_rules_own f_a0_rules_ahead f_a0_stands_calls_tills f_a0_stands_tills f_a0_shop_kinds f_a0_stands_calls_acts f_a0_stands_calls_wholes f_a0_stands_calls_answers v1 v2 v3
  else
  if v3 = v2 then
    F_X1_firstCore_b48 k2 fu a0_setCount a0_rules_must f_a0_sets f_a0_setsOf a0_stands_count f_a0_stands_ways f_a0_stands_done f_a0_stands_leads f_a0_rules_own f_a0_rules_ahead f_a0_stands_calls_tills f_a0_stands_tills f_a0_shop_kinds f_a0_stands_calls_acts f_a0_stands_calls_wholes f_a0_stands_calls_answers v1 v2 v3
  else
    F_X1_firstCore_b66 k2 fu a0_setCount a0_rules_must f_a0_sets f_a0_setsOf a0_stands_count f_a0_stands_ways f_a0_stands_done f_a0_stands_leads f_a0_rules_own f_a0_rules_ahead f_a0_stands_calls_tills f_a0_stands_tills f_a0_shop_kinds f_a0_stands_calls_acts f_a0_stands_calls_wholes f_a0_stands_calls_answers v1 v2 v3
def F_X1_firstCore_b2  (fu : Nat) (a0_rules_must : Int32) (a0_stands_count : Int32) (f_a0_stands_done : Nat → Int32) (f_a0_stands_leads : Nat → Int32) (f_a0_rules_own : Nat → Int32) (f_a0_rules_ahead : Nat → Int32) (f_a0_stands_calls_tills : Nat → Int32) (f_a0_stands_tills : Nat → Int32) (f_a0_shop_kinds : Nat → Int32) (f_a0_stands_calls_acts : Nat → Int32) (f_a0_stands_calls_wholes : Nat → Int32) (f_a0_stands_calls_answers : Nat → Int32) (v1 : Int32) (v2 : Int32) : Nat → Int32 → (Nat → Int32) → (Nat → Int64) → (Nat → Int64) → Int32 → Option (Int32 × Int32 × (Nat → Int32) × (Nat → Int64) × (Nat → Int64))
  | 0, _, _, _, _, _ => none
  | kf + 1, a0_setCount, f_a0_sets, f_a0_setsOf, f_a0_stands_ways, v3 =>
    if v2 < v3 then
      some ((0 : Int32), a0_setCount, f_a0_sets, f_a0_setsOf, f_a0_stands_ways)
    else
    bnd1 (F_J6_bitCount_0f7a4 v3) fun r8 =>
    if r8 = v1 then
      if (v3 &&& (a0_rules_must ^^^ (-1 : Int32))) = 0 then
        bnd3 (F_X1_addSet fu a0_setCount f_a0_sets f_a0_setsOf v3) fun u31_0 u31_1 u31_2 =>
        F_X1_firstCore_b34 (F_X1_firstCore_b2 fu a0_rules_must a0_stands_count f_a0_stands_done f_a0_stands_leads f_a0_rules_own f_a0_rules_ahead f_a0_stands_calls_tills f_a0_stands_tills f_a0_shop_kinds f_a0_stands_calls_acts f_a0_stands_calls_wholes f_a0_stands_calls_answers v1 v2 kf) fu u31_0 a0_rules_must u31_1 u31_2 a0_stands_count f_a0_stands_ways f_a0_stands_done f_a0_stands_leads f_a0_rules_own f_a0_rules_ahead f_a0_stands_calls_tills f_a0_stands_tills f_a0_shop_kinds f_a0_stands_calls_acts f_a0_stands_calls_wholes f_a0_stands_calls_answers v1 v2 v3
      else
        F_X1_firstCore_b34 (F_X1_firstCore_b2 fu a0_rules_must a0_stands_count f_a0_stands_done f_a0_stands_leads f_a0_rules_own f_a0_rules_ahead f_a0_stands_calls_tills f_a0_stands_tills f_a0_shop_kinds f_a0_stands_calls_acts f_a0_stands_calls_wholes f_a0_stands_calls_answers v1 v2 kf) fu a0_setCount a0_rules_must f_a0_sets f_a0_setsOf a0_stands_count f_a0_stands_ways f_a0_stands_done f_a0_stands_leads f_a0_rules_own f_a0_rules_ahead f_a0_stands_calls_tills f_a0_stands_tills f_a0_shop_kinds f_a0_stands_calls_acts f_a0_stands_calls_wholes f_a0_stands_calls_answers v1 v2 v3
    else
      F_X1_firstCore_b34 (F_X1_firstCore_b2 fu a0_rules_must a0_stands_count f_a0_stands_done f_a0_stands_leads f_a0_rules_own f_a0_rules_ahead f_a0_stands_calls_tills f_a0_stands_tills f_a0_shop_kinds f_a0_stands_calls_acts f_a0_stands_calls_wholes f_a0_stands_calls_answers v1 v2 kf) fu a0_setCount a0_rules_must f_a0_sets f_a0_setsOf a0_stands_count f_a0_stands_ways f_a0_stands_done f_a0_stands_leads f_a0_rules_own f_a0_rules_ahead f_a0_stands_calls_tills f_a0_stands_tills f_a0_shop_kinds f_a0_stands_calls_acts f_a0_stands_calls_wholes f_a0_stands_calls_answers v1 v2 v3
def F_X1_firstCore (fu : Nat) (a0_setCount : Int32) (a0_rules_must : Int32) (f_a0_sets : Nat → Int32) (f_a0_setsOf : Nat → Int64) (a0_stands_count : Int32) (f_a0_stands_ways : Nat → Int64) (f_a0_stands_done : Nat → Int32) (f_a0_stands_leads : Nat → Int32) (f_a0_rules_own : Nat → Int32) (f_a0_rules_ahead : Nat → Int32) (f_a0_stands_calls_tills : Nat → Int32) (f_a0_stands_tills : Nat → Int32) (f_a0_shop_kinds : Nat → Int32) (f_a0_stands_calls_acts : Nat → Int32) (f_a0_stands_calls_wholes : Nat → Int32) (f_a0_stands_calls_answers : Nat → Int32) (v1 : Int32) (v2 : Int32) : Option (Int32 × Int32 × (Nat → Int32) × (Nat → Int64) × (Nat → Int64)) :=
  F_X1_firstCore_b2 fu a0_rules_must a0_stands_count f_a0_stands_done f_a0_stands_leads f_a0_rules_own f_a0_rules_ahead f_a0_stands_calls_tills f_a0_stands_tills f_a0_shop_kinds f_a0_stands_calls_acts f_a0_stands_calls_wholes f_a0_stands_calls_answers v1 v2 fu a0_setCount f_a0_sets f_a0_setsOf f_a0_stands_ways (1 : Int32)
def F_X1_findCore_b92  (fu : Nat) (a1 : Nat) (a1_n : Int32) (a0_rules_there : Int32) (a0_rules_must : Int32) (a0_rules_strict : Int32) (a0_rules_timed : Int32) (f_a0_rules_own : Nat → Int32) (f_a0_rules_ahead : Nat → Int32) (a0_stands_base : Int32) (a0_stands_count : Int32) (f_a0_stands_table : Nat → Int32) (f_a0_stands_done : Nat → Int32) (f_a0_stands_tills : Nat → Int32) (f_a0_shop_kinds : Nat → Int32) (f_a1_tills : Nat → Int32) (f_a1_acts : Nat → Int32) (f_a1_wholes : Nat → Int32) (f_a1_answers : Nat → Int32) (f_a0_stands_leads : Nat → Int32) : Nat → Int32 → (Nat → Int64) → (Nat → Int32) → (Nat → Int64) → Int32 → Option (Int32 × Int32 × Int32 × Int32 × Int32 × Int32 × (Nat → Int32) × (Nat → Int32) × Nat × Int32 × Int32 × (Nat → Int32) × (Nat → Int32) × (Nat → Int32) × (Nat → Int32) × (Nat → Int64) × (Nat → Int32) × (Nat → Int64))
  | 0, _, _, _, _, _ => none
  | kf + 1, a0_setCount, f_a0_setsOf, f_a0_sets, f_a0_stands_ways, v3 =>
    if (3 : Int32) < v3 then
      some ((-3 : Int32), a0_setCount, a0_rules_there, a0_rules_must, a0_rules_strict, a0_rules_timed, f_a0_rules_own, f_a0_rules_ahead, a1, a0_stands_base, a0_stands_count, f_a0_stands_table, f_a0_stands_done, f_a0_stands_tills, f_a0_stands_leads, f_a0_setsOf, f_a0_sets, f_a0_stands_ways)
    else
    bnd1 (F_X0_allOnes a1_n) fun r100 =>
    bnd5 (F_X1_firstCore fu a0_setCount a0_rules_must f_a0_sets f_a0_setsOf a0_stands_count f_a0_stands_ways f_a0_stands_done f_a0_stands_leads f_a0_rules_own f_a0_rules_ahead f_a1_tills f_a0_stands_tills f_a0_shop_kinds f_a1_acts f_a1_wholes f_a1_answers v3 r100) fun r103 u103_0 u103_1 u103_2 u103_3 =>
    if r103 = 0 then
      (F_X1_findCore_b92 fu a1 a1_n a0_rules_there a0_rules_must a0_rules_strict a0_rules_timed f_a0_rules_own f_a0_rules_ahead a0_stands_base a0_stands_count f_a0_stands_table f_a0_stands_done f_a0_stands_tills f_a0_shop_kinds f_a1_tills f_a1_acts f_a1_wholes f_a1_answers f_a0_stands_leads kf) u103_0 u103_2 u103_1 u103_3 ((v3 + (1 : Int32)))
    else
      some (r103, u103_0, a0_rules_there, a0_rules_must, a0_rules_strict, a0_rules_timed, f_a0_rules_own, f_a0_rules_ahead, a1, a0_stands_base, a0_stands_count, f_a0_stands_table, f_a0_stands_done, f_a0_stands_tills, f_a0_stands_leads, u103_2, u103_1, u103_3)
def F_X1_findCore (fu : Nat) (a1 : Nat) (a0_stands_calls : Nat) (a1_n : Int32) (a0_setCount : Int32) (f_a1_ends : Nat → Int32) (a0_rules_there : Int32) (a0_rules_must : Int32) (a0_rules_strict : Int32) (a0_rules_timed : Int32) (a0_shop_late : Int32) (f_a0_rules_own : Nat → Int32) (f_a1_cashiers : Nat → Int32) (f_a1_begins : Nat → Int32) (f_a0_rules_ahead : Nat → Int32) (a0_stands_base : Int32) (a0_stands_count : Int32) (f_a0_stands_table : Nat → Int32) (f_a0_stands_done : Nat → Int32) (f_a0_stands_tills : Nat → Int32) (f_a0_shop_kinds : Nat → Int32) (f_a1_tills : Nat → Int32) (f_a1_acts : Nat → Int32) (f_a1_wholes : Nat → Int32) (f_a1_answers : Nat → Int32) (f_a0_stands_leads : Nat → Int32) (f_a0_setsOf : Nat → Int64) (f_a0_sets : Nat → Int32) (f_a0_stands_ways : Nat → Int64) (v2 : Int32) : Option (Int32 × Int32 × Int32 × Int32 × Int32 × Int32 × (Nat → Int32) × (Nat → Int32) × Nat × Int32 × Int32 × (Nat → Int32) × (Nat → Int32) × (Nat → Int32) × (Nat → Int32) × (Nat → Int64) × (Nat → Int32) × (Nat → Int64)) :=
  if a1_n ≤ (12 : Int32) then
    bnd4 (F_X4_takeAll fu a1_n f_a1_ends) fun u17_0 u17_1 u17_2 u17_3 =>
    bnd1 (F_X4_gapOf v2 a0_shop_late) fun r41 =>
    bnd2 (F_X4_bind fu u17_0 u17_3 f_a0_rules_own a1_n f_a1_cashiers f_a1_begins f_a1_ends f_a0_rules_ahead r41) fun u44_0 u44_1 =>
    bnd7 (F_X6_explore fu a0_stands_base f_a0_stands_table f_a0_stands_done f_a0_stands_tills f_a0_shop_kinds (0 : Int32) u44_0 u44_1 f_a1_tills f_a1_acts f_a1_wholes f_a1_answers f_a0_stands_leads) fun r52 u52_1 u52_2 u52_3 u52_4 u52_5 u52_6 =>
    if r52 = 0 then
      some ((-10 : Int32), a0_setCount, u17_0, u17_1, (0 : Int32), u17_3, u44_0, u44_1, a1, u52_1, u52_2, u52_3, u52_4, u52_5, u52_6, f_a0_setsOf, f_a0_sets, f_a0_stands_ways)
    else
    bnd2 (F_X1_dropSets fu f_a0_setsOf) fun u62_0 u62_1 =>
    bnd3 (F_X1_addSet fu u62_0 f_a0_sets u62_1 u17_1) fun u73_0 u73_1 u73_2 =>
    bnd2 (F_X1_firstSetThatCannot fu u73_0 u17_1 u52_2 f_a0_stands_ways u52_4 u52_6 u44_0 u44_1 u73_2 f_a1_tills u52_5 f_a0_shop_kinds f_a1_acts f_a1_wholes f_a1_answers u73_1) fun r77 u77_0 =>
    if r77 = 0 then
      some ((-2 : Int32), u73_0, u17_0, u17_1, (0 : Int32), u17_3, u44_0, u44_1, a1, u52_1, u52_2, u52_3, u52_4, u52_5, u52_6, u73_2, u73_1, u77_0)
    else
    bnd2 (F_X1_dropSets fu u73_2) fun u87_0 u87_1 =>
    F_X1_findCore_b92 fu a1 a1_n u17_0 u17_1 (0 : Int32) u17_3 u44_0 u44_1 u52_1 u52_2 u52_3 u52_4 u52_5 f_a0_shop_kinds f_a1_tills f_a1_acts f_a1_wholes f_a1_answers u52_6 fu u87_0 u87_1 u73_1 u77_0 (1 : Int32)
  else
    some ((-10 : Int32), a0_setCount, a0_rules_there, a0_rules_must, a0_rules_strict, a0_rules_timed, f_a0_rules_own, f_a0_rules_ahead, a0_stands_calls, a0_stands_base, a0_stands_count, f_a0_stands_table, f_a0_stands_done, f_a0_stands_tills, f_a0_stands_leads, f_a0_setsOf, f_a0_sets, f_a0_stands_ways)
def F_X2_isOne (v0 : Int32) : Option (Int32) :=
  if v0 < 0 then
    some (0 : Int32)
  else
  if (2 : Int32) < v0 then
    some (0 : Int32)
  else
    some (1 : Int32)
def F_X2_draw (a0_seed : Int32) (v1 : Int32) : Option (Int32 × Int32) :=
  if v1 ≤ 0 then
    some ((0 : Int32), ((((75 : Int32) * a0_seed) + (74 : Int32)) - (((75 : Int32) * a0_seed) + (74 : Int32)) / (65537 : Int32) * (65537 : Int32)))
  else
  if v1 = 0 then none else
  some ((((((75 : Int32) * a0_seed) + (74 : Int32)) - (((75 : Int32) * a0_seed) + (74 : Int32)) / (65537 : Int32) * (65537 : Int32)) - ((((75 : Int32) * a0_seed) + (74 : Int32)) - (((75 : Int32) * a0_seed) + (74 : Int32)) / (65537 : Int32) * (65537 : Int32)) / v1 * v1), ((((75 : Int32) * a0_seed) + (74 : Int32)) - (((75 : Int32) * a0_seed) + (74 : Int32)) / (65537 : Int32) * (65537 : Int32)))
def F_X2_actOn (f_a2_tills : Nat → Int32) (f_a0_tills : Nat → Int32) (f_a0_shop_kinds : Nat → Int32) (f_a2_acts : Nat → Int32) (f_a2_wholes : Nat → Int32) (v1 : Int32) (v3 : Int32) : Option (Int32 × (Nat → Int32)) :=
  bnd1 (F_X0_tillOf f_a2_tills v3) fun r2 =>
  if ((v1 * (3 : Int32)) + r2) < 0 then
    some ((0 : Int32), f_a0_tills)
  else
  if ((v1 * (3 : Int32)) + r2) < (15 : Int32) then
    bnd1 (F_X5_kindOf f_a0_shop_kinds r2) fun r38 =>
    if ((v1 * (3 : Int32)) + r2) < 0 ∨ 15 ≤ (((v1 * (3 : Int32)) + r2)).toNatClampNeg then none else
    bnd1 (F_X0_actOf f_a2_acts v3) fun r64 =>
    bnd1 (F_X0_wholeOf f_a2_wholes v3) fun r69 =>
    bnd1 (F_X8_after r38 ((f_a0_tills (((v1 * (3 : Int32)) + r2)).toNatClampNeg)) r64 r69) fun r72 =>
    if ((v1 * (3 : Int32)) + r2) < 0 ∨ 15 ≤ (((v1 * (3 : Int32)) + r2)).toNatClampNeg then none else
    bnd1 (F_X0_actOf f_a2_acts v3) fun r82 =>
    bnd1 (F_X0_wholeOf f_a2_wholes v3) fun r87 =>
    bnd1 (F_X8_says r38 ((f_a0_tills (((v1 * (3 : Int32)) + r2)).toNatClampNeg)) r82 r87) fun r90 =>
    some (r90, (upd f_a0_tills (((v1 * (3 : Int32)) + r2)).toNatClampNeg r72))
  else
    some ((0 : Int32), f_a0_tills)
def F_X2_actOnTwo_b27  (a0_seed : Int32) (f_a1_tills : Nat → Int32) (f_a0_tills : Nat → Int32) (f_a0_shop_kinds : Nat → Int32) (f_a1_acts : Nat → Int32) (f_a1_wholes : Nat → Int32) (v2 : Int32) (t0 : Int32) (v4 : Int32) : Option (Int32 × Int32 × (Nat → Int32)) :=
  bnd2 (F_X2_actOn f_a1_tills f_a0_tills f_a0_shop_kinds f_a1_acts f_a1_wholes v4 v2) fun r34 u34_0 =>
  bnd1 (F_X0_actOf f_a1_acts v2) fun r41 =>
  if r41 = (2 : Int32) then
    some (r34, a0_seed, u34_0)
  else
  bnd2 (F_X2_actOn f_a1_tills u34_0 f_a0_shop_kinds f_a1_acts f_a1_wholes t0 v2) fun r53 u53_0 =>
  some (r34, a0_seed, u53_0)
def F_X2_actOnTwo_b15  (a0_seed : Int32) (f_a1_tills : Nat → Int32) (f_a0_tills : Nat → Int32) (f_a0_shop_kinds : Nat → Int32) (f_a1_acts : Nat → Int32) (f_a1_wholes : Nat → Int32) (v2 : Int32) (v3 : Int32) (t0 : Int32) : Option (Int32 × Int32 × (Nat → Int32)) :=
  if v3 = (2 : Int32) then
    F_X2_actOnTwo_b27 a0_seed f_a1_tills f_a0_tills f_a0_shop_kinds f_a1_acts f_a1_wholes v2 (1 : Int32) t0
  else
    F_X2_actOnTwo_b27 a0_seed f_a1_tills f_a0_tills f_a0_shop_kinds f_a1_acts f_a1_wholes v2 (2 : Int32) t0
def F_X2_actOnTwo (a0_seed : Int32) (f_a1_tills : Nat → Int32) (f_a0_tills : Nat → Int32) (f_a0_shop_kinds : Nat → Int32) (f_a1_acts : Nat → Int32) (f_a1_wholes : Nat → Int32) (v2 : Int32) : Option (Int32 × Int32 × (Nat → Int32)) :=
  bnd2 (F_X2_draw a0_seed (3 : Int32)) fun r2 u2_0 =>
  if r2 = 0 then
    F_X2_actOnTwo_b15 u2_0 f_a1_tills f_a0_tills f_a0_shop_kinds f_a1_acts f_a1_wholes v2 r2 (1 : Int32)
  else
    F_X2_actOnTwo_b15 u2_0 f_a1_tills f_a0_tills f_a0_shop_kinds f_a1_acts f_a1_wholes v2 r2 (0 : Int32)
def F_X2_act (f_a1_acts : Nat → Int32) (f_a1_tills : Nat → Int32) (a0_seed : Int32) (f_a0_tills : Nat → Int32) (f_a0_shop_kinds : Nat → Int32) (f_a1_wholes : Nat → Int32) (v2 : Int32) (v3 : Int32) (v4 : Int32) : Option (Int32 × Int32 × (Nat → Int32)) :=
  if v3 = (2 : Int32) then
    bnd3 (F_X2_actOnTwo a0_seed f_a1_tills f_a0_tills f_a0_shop_kinds f_a1_acts f_a1_wholes v2) fun r8 u8_0 u8_1 =>
    some (r8, u8_0, u8_1)
  else
  if v3 = 0 then
    bnd2 (F_X2_actOn f_a1_tills f_a0_tills f_a0_shop_kinds f_a1_acts f_a1_wholes (0 : Int32) v2) fun r20 u20_0 =>
    some (r20, a0_seed, u20_0)
  else
  bnd1 (F_X0_actOf f_a1_acts v2) fun r26 =>
  if r26 = (2 : Int32) then
    bnd2 (F_X2_actOn f_a1_tills f_a0_tills f_a0_shop_kinds f_a1_acts f_a1_wholes (((1 : Int32) + v4)) v2) fun r40 u40_0 =>
    some (r40, a0_seed, u40_0)
  else
  bnd2 (F_X2_actOn f_a1_tills f_a0_tills f_a0_shop_kinds f_a1_acts f_a1_wholes (0 : Int32) v2) fun r48 u48_0 =>
  if (((1 : Int32) + v4) * (3 : Int32)) < 0 ∨ 15 < ((((1 : Int32) + v4) * (3 : Int32))).toNatClampNeg + (3 : Int32).toNatClampNeg then none else
  some (r48, a0_seed, (va_cpy u48_0 u48_0 (0 : Int32).toNatClampNeg ((((1 : Int32) + v4) * (3 : Int32))).toNatClampNeg (3 : Int32).toNatClampNeg))
def F_X2_begin_b60  (a0_seed : Int32) (a1_n : Int32) (f_a1_cashiers : Nat → Int32) (f_a1_tills : Nat → Int32) (f_a1_acts : Nat → Int32) (f_a1_wholes : Nat → Int32) (f_a1_begins : Nat → Int32) (f_a1_ends : Nat → Int32) (f_a1_answers : Nat → Int32) (v2 : Int32) (v3 : Int32) (v4 : Int32) (v6 : Int32) (t0 : Int32) : Option (Int32 × Int32 × Int32 × (Nat → Int32) × (Nat → Int32) × (Nat → Int32) × (Nat → Int32) × (Nat → Int32) × (Nat → Int32) × (Nat → Int32)) :=
  bnd9 (F_X0_addOpen a1_n f_a1_cashiers f_a1_tills f_a1_acts f_a1_wholes f_a1_begins f_a1_ends f_a1_answers v2 v4 v6 t0 v3) fun r71 u71_0 u71_1 u71_2 u71_3 u71_4 u71_5 u71_6 u71_7 =>
  some (r71, a0_seed, u71_0, u71_1, u71_2, u71_3, u71_4, u71_5, u71_6, u71_7)
def F_X2_begin (a0_seed : Int32) (a0_shop_tills : Int32) (f_a0_shop_kinds : Nat → Int32) (a1_n : Int32) (f_a1_cashiers : Nat → Int32) (f_a1_tills : Nat → Int32) (f_a1_acts : Nat → Int32) (f_a1_wholes : Nat → Int32) (f_a1_begins : Nat → Int32) (f_a1_ends : Nat → Int32) (f_a1_answers : Nat → Int32) (v2 : Int32) (v3 : Int32) : Option (Int32 × Int32 × Int32 × (Nat → Int32) × (Nat → Int32) × (Nat → Int32) × (Nat → Int32) × (Nat → Int32) × (Nat → Int32) × (Nat → Int32)) :=
  bnd2 (F_X2_draw a0_seed a0_shop_tills) fun r8 u8_0 =>
  bnd1 (F_X5_kindOf f_a0_shop_kinds r8) fun r19 =>
  bnd1 (F_X8_actCount r19) fun r29 =>
  bnd2 (F_X2_draw u8_0 r29) fun r32 u32_0 =>
  bnd1 (F_X8_actAt r19 r32) fun r35 =>
  bnd1 (F_X8_hasWhole r19 r35) fun r44 =>
  if r44 = 0 then
    F_X2_begin_b60 u32_0 a1_n f_a1_cashiers f_a1_tills f_a1_acts f_a1_wholes f_a1_begins f_a1_ends f_a1_answers v2 v3 r8 r35 (0 : Int32)
  else
  bnd2 (F_X2_draw u32_0 (10 : Int32)) fun r53 u53_0 =>
  F_X2_begin_b60 u53_0 a1_n f_a1_cashiers f_a1_tills f_a1_acts f_a1_wholes f_a1_begins f_a1_ends f_a1_answers v2 v3 r8 r35 r53
def F_X2_minuteOf (a0_seed : Int32) (f_a0_phases : Nat → Int32) (a2_n : Int32) (a0_shop_tills : Int32) (f_a0_shop_kinds : Nat → Int32) (f_a2_cashiers : Nat → Int32) (f_a2_tills : Nat → Int32) (f_a2_acts : Nat → Int32) (f_a2_wholes : Nat → Int32) (f_a2_begins : Nat → Int32) (f_a2_ends : Nat → Int32) (f_a2_answers : Nat → Int32) (f_a0_doing : Nat → Int32) (f_a0_tills : Nat → Int32) (f_a0_answers : Nat → Int32) (v1 : Int32) (v3 : Int32) (v4 : Int32) (v5 : Int32) : Option (Int32 × Int32 × (Nat → Int32) × Int32 × (Nat → Int32) × (Nat → Int32) × (Nat → Int32) × (Nat → Int32) × (Nat → Int32) × (Nat → Int32) × (Nat → Int32) × (Nat → Int32) × (Nat → Int32) × (Nat → Int32)) :=
  if v1 < 0 ∨ 4 ≤ v1.toNatClampNeg then none else
  if (f_a0_phases v1.toNatClampNeg) = (0 : Int32) then
    if v4 ≤ a2_n then
      some ((0 : Int32), a0_seed, f_a0_phases, a2_n, f_a2_cashiers, f_a2_tills, f_a2_acts, f_a2_wholes, f_a2_begins, f_a2_ends, f_a2_answers, f_a0_doing, f_a0_tills, f_a0_answers)
    else
    bnd10 (F_X2_begin a0_seed a0_shop_tills f_a0_shop_kinds a2_n f_a2_cashiers f_a2_tills f_a2_acts f_a2_wholes f_a2_begins f_a2_ends f_a2_answers v1 v5) fun r51 u51_0 u51_1 u51_2 u51_3 u51_4 u51_5 u51_6 u51_7 u51_8 =>
    if v1 < 0 ∨ 4 ≤ v1.toNatClampNeg then none else
    if v1 < 0 ∨ 4 ≤ v1.toNatClampNeg then none else
    some ((0 : Int32), u51_0, (upd f_a0_phases v1.toNatClampNeg (1 : Int32)), u51_1, u51_2, u51_3, u51_4, u51_5, u51_6, u51_7, u51_8, (upd f_a0_doing v1.toNatClampNeg r51), f_a0_tills, f_a0_answers)
  else
  if (f_a0_phases v1.toNatClampNeg) = (1 : Int32) then
    if v1 < 0 ∨ 4 ≤ v1.toNatClampNeg then none else
    bnd3 (F_X2_act f_a2_acts f_a2_tills a0_seed f_a0_tills f_a0_shop_kinds f_a2_wholes (f_a0_doing v1.toNatClampNeg) v3 v1) fun r79 u79_0 u79_1 =>
    if v1 < 0 ∨ 4 ≤ v1.toNatClampNeg then none else
    if v1 < 0 ∨ 4 ≤ v1.toNatClampNeg then none else
    some ((0 : Int32), u79_0, (upd f_a0_phases v1.toNatClampNeg (2 : Int32)), a2_n, f_a2_cashiers, f_a2_tills, f_a2_acts, f_a2_wholes, f_a2_begins, f_a2_ends, f_a2_answers, f_a0_doing, u79_1, (upd f_a0_answers v1.toNatClampNeg r79))
  else
  if v1 < 0 ∨ 4 ≤ v1.toNatClampNeg then none else
  if v1 < 0 ∨ 4 ≤ v1.toNatClampNeg then none else
  bnd2 (F_X0_close a2_n f_a2_ends f_a2_answers (f_a0_doing v1.toNatClampNeg) v5 (f_a0_answers v1.toNatClampNeg)) fun u107_0 u107_1 =>
  if v1 < 0 ∨ 4 ≤ v1.toNatClampNeg then none else
  some ((1 : Int32), a0_seed, (upd f_a0_phases v1.toNatClampNeg (0 : Int32)), a2_n, f_a2_cashiers, f_a2_tills, f_a2_acts, f_a2_wholes, f_a2_begins, u107_0, u107_1, f_a0_doing, f_a0_tills, f_a0_answers)
def F_X2_run_b113 (k64 : Int32 → Int32 → (Nat → Int32) → (Nat → Int32) → (Nat → Int32) → (Nat → Int32) → (Nat → Int32) → (Nat → Int32) → (Nat → Int32) → (Nat → Int32) → (Nat → Int32) → (Nat → Int32) → (Nat → Int32) → Int32 → Int32 → Option (Int32 × Int32 × Int32 × (Nat → Int32) × (Nat → Int32) × (Nat → Int32) × (Nat → Int32) × (Nat → Int32) × (Nat → Int32) × (Nat → Int32) × (Nat → Int32) × (Nat → Int32) × (Nat → Int32) × (Nat → Int32))) (a0_seed : Int32) (a1_n : Int32) (f_a0_phases : Nat → Int32) (f_a0_tills : Nat → Int32) (a0_shop_tills : Int32) (a0_shop_cashiers : Int32) (f_a0_shop_kinds : Nat → Int32) (f_a1_cashiers : Nat → Int32) (f_a1_tills : Nat → Int32) (f_a1_acts : Nat → Int32) (f_a1_wholes : Nat → Int32) (f_a1_begins : Nat → Int32) (f_a1_ends : Nat → Int32) (f_a1_answers : Nat → Int32) (f_a0_doing : Nat → Int32) (f_a0_answers : Nat → Int32) (v2 : Int32) (v3 : Int32) (v5 : Int32) (v6 : Int32) : Option (Int32 × Int32 × Int32 × (Nat → Int32) × (Nat → Int32) × (Nat → Int32) × (Nat → Int32) × (Nat → Int32) × (Nat → Int32) × (Nat → Int32) × (Nat → Int32) × (Nat → Int32) × (Nat → Int32) × (Nat → Int32)) :=
  if v5 = v3 then
    some (v6, a0_seed, a1_n, f_a0_phases, f_a0_tills, f_a1_cashiers, f_a1_tills, f_a1_acts, f_a1_wholes, f_a1_begins, f_a1_ends, f_a1_answers, f_a0_doing, f_a0_answers)
  else
    k64 a0_seed a1_n f_a0_phases f_a0_tills f_a1_cashiers f_a1_tills f_a1_acts f_a1_wholes f_a1_begins f_a1_ends f_a1_answers f_a0_doing f_a0_answers v5 ((v6 + (1 : Int32)))
def F_X2_run_b64  (a0_shop_tills : Int32) (a0_shop_cashiers : Int32) (f_a0_shop_kinds : Nat → Int32) (v2 : Int32) (v3 : Int32) : Nat → Int32 → Int32 → (Nat → Int32) → (Nat → Int32) → (Nat → Int32) → (Nat → Int32) → (Nat → Int32) → (Nat → Int32) → (Nat → Int32) → (Nat → Int32) → (Nat → Int32) → (Nat → Int32) → (Nat → Int32) → Int32 → Int32 → Option (Int32 × Int32 × Int32 × (Nat → Int32) × (Nat → Int32) × (Nat → Int32) × (Nat → Int32) × (Nat → Int32) × (Nat → Int32) × (Nat → Int32) × (Nat → Int32) × (Nat → Int32) × (Nat → Int32) × (Nat → Int32))
  | 0, _, _, _, _, _, _, _, _, _, _, _, _, _, _, _ => none
  | kf + 1, a0_seed, a1_n, f_a0_phases, f_a0_tills, f_a1_cashiers, f_a1_tills, f_a1_acts, f_a1_wholes, f_a1_begins, f_a1_ends, f_a1_answers, f_a0_doing, f_a0_answers, v5, v6 =>
    if (999 : Int32) < v6 then
      some ((999 : Int32), a0_seed, a1_n, f_a0_phases, f_a0_tills, f_a1_cashiers, f_a1_tills, f_a1_acts, f_a1_wholes, f_a1_begins, f_a1_ends, f_a1_answers, f_a0_doing, f_a0_answers)
    else
    bnd2 (F_X2_draw a0_seed a0_shop_cashiers) fun r80 u80_0 =>
    if r80 < 0 then
      F_X2_run_b113 (F_X2_run_b64 a0_shop_tills a0_shop_cashiers f_a0_shop_kinds v2 v3 kf) u80_0 a1_n f_a0_phases f_a0_tills a0_shop_tills a0_shop_cashiers f_a0_shop_kinds f_a1_cashiers f_a1_tills f_a1_acts f_a1_wholes f_a1_begins f_a1_ends f_a1_answers f_a0_doing f_a0_answers v2 v3 v5 v6
    else
    if (4 : Int32) ≤ r80 then
      F_X2_run_b113 (F_X2_run_b64 a0_shop_tills a0_shop_cashiers f_a0_shop_kinds v2 v3 kf) u80_0 a1_n f_a0_phases f_a0_tills a0_shop_tills a0_shop_cashiers f_a0_shop_kinds f_a1_cashiers f_a1_tills f_a1_acts f_a1_wholes f_a1_begins f_a1_ends f_a1_answers f_a0_doing f_a0_answers v2 v3 v5 v6
    else
    bnd14 (F_X2_minuteOf u80_0 f_a0_phases a1_n a0_shop_tills f_a0_shop_kinds f_a1_cashiers f_a1_tills f_a1_acts f_a1_wholes f_a1_begins f_a1_ends f_a1_answers f_a0_doing f_a0_tills f_a0_answers r80 v2 v3 v6) fun r104 u104_0 u104_1 u104_2 u104_3 u104_4 u104_5 u104_6 u104_7 u104_8 u104_9 u104_10 u104_11 u104_12 =>
    if r104 = 0 then
      F_X2_run_b113 (F_X2_run_b64 a0_shop_tills a0_shop_cashiers f_a0_shop_kinds v2 v3 kf) u104_0 u104_2 u104_1 u104_11 a0_shop_tills a0_shop_cashiers f_a0_shop_kinds u104_3 u104_4 u104_5 u104_6 u104_7 u104_8 u104_9 u104_10 u104_12 v2 v3 v5 v6
    else
      F_X2_run_b113 (F_X2_run_b64 a0_shop_tills a0_shop_cashiers f_a0_shop_kinds v2 v3 kf) u104_0 u104_2 u104_1 u104_11 a0_shop_tills a0_shop_cashiers f_a0_shop_kinds u104_3 u104_4 u104_5 u104_6 u104_7 u104_8 u104_9 u104_10 u104_12 v2 v3 ((v5 + (1 : Int32))) v6
def F_X2_run_b21  (fu : Nat) (a0_seed : Int32) (a1_n : Int32) (f_a0_phases : Nat → Int32) (a0_shop_tills : Int32) (a0_shop_cashiers : Int32) (f_a0_shop_kinds : Nat → Int32) (f_a1_cashiers : Nat → Int32) (f_a1_tills : Nat → Int32) (f_a1_acts : Nat → Int32) (f_a1_wholes : Nat → Int32) (f_a1_begins : Nat → Int32) (f_a1_ends : Nat → Int32) (f_a1_answers : Nat → Int32) (f_a0_doing : Nat → Int32) (f_a0_answers : Nat → Int32) (v2 : Int32) (v3 : Int32) : Nat → (Nat → Int32) → Int32 → Option (Int32 × Int32 × Int32 × (Nat → Int32) × (Nat → Int32) × (Nat → Int32) × (Nat → Int32) × (Nat → Int32) × (Nat → Int32) × (Nat → Int32) × (Nat → Int32) × (Nat → Int32) × (Nat → Int32) × (Nat → Int32))
  | 0, _, _ => none
  | kf + 1, f_a0_tills, v5 =>
    if (15 : Int32) ≤ v5 then
      F_X2_run_b64 a0_shop_tills a0_shop_cashiers f_a0_shop_kinds v2 v3 fu a0_seed a1_n f_a0_phases f_a0_tills f_a1_cashiers f_a1_tills f_a1_acts f_a1_wholes f_a1_begins f_a1_ends f_a1_answers f_a0_doing f_a0_answers (0 : Int32) (1 : Int32)
    else
    bnd1 (F_X5_kindOf f_a0_shop_kinds ((v5 - v5 / (3 : Int32) * (3 : Int32)))) fun r45 =>
    bnd1 (F_X8_atFirst r45) fun r48 =>
    if v5 < 0 ∨ 15 ≤ v5.toNatClampNeg then none else
    (F_X2_run_b21 fu a0_seed a1_n f_a0_phases a0_shop_tills a0_shop_cashiers f_a0_shop_kinds f_a1_cashiers f_a1_tills f_a1_acts f_a1_wholes f_a1_begins f_a1_ends f_a1_answers f_a0_doing f_a0_answers v2 v3 kf) (upd f_a0_tills v5.toNatClampNeg r48) ((v5 + (1 : Int32)))
def F_X2_run (fu : Nat) (f_a0_phases : Nat → Int32) (f_a0_tills : Nat → Int32) (a0_shop_tills : Int32) (a0_shop_cashiers : Int32) (f_a0_shop_kinds : Nat → Int32) (f_a1_cashiers : Nat → Int32) (f_a1_tills : Nat → Int32) (f_a1_acts : Nat → Int32) (f_a1_wholes : Nat → Int32) (f_a1_begins : Nat → Int32) (f_a1_ends : Nat → Int32) (f_a1_answers : Nat → Int32) (f_a0_doing : Nat → Int32) (f_a0_answers : Nat → Int32) (v2 : Int32) (v3 : Int32) (v4 : Int32) : Option (Int32 × Int32 × Int32 × (Nat → Int32) × (Nat → Int32) × (Nat → Int32) × (Nat → Int32) × (Nat → Int32) × (Nat → Int32) × (Nat → Int32) × (Nat → Int32) × (Nat → Int32) × (Nat → Int32) × (Nat → Int32)) :=
  bnd1 (F_X0_clear) fun u7_0 =>
  bnd1 (F_J7_fill_53178 fu 4 f_a0_phases (0 : Int32)) fun u15_0 =>
  F_X2_run_b21 fu v4 u7_0 u15_0 a0_shop_tills a0_shop_cashiers f_a0_shop_kinds f_a1_cashiers f_a1_tills f_a1_acts f_a1_wholes f_a1_begins f_a1_ends f_a1_answers f_a0_doing f_a0_answers v2 v3 fu f_a0_tills (0 : Int32)
def F_X7_is_b28  (a0_place : Int32) (f_a0_bytes : Nat → Int32) (v1 : Nat) : Nat → Int32 → Option (Int32)
  | 0, _ => none
  | kf + 1, v2 =>
    if (sLen v1) ≤ v2 then
      some (1 : Int32)
    else
    if v2 < 0 ∨ lenS.getD v1 0 ≤ v2.toNatClampNeg then none else
    if (a0_place + v2) < 0 ∨ 900 ≤ (a0_place + v2).toNatClampNeg then none else
    if (sCh v1 v2.toNatClampNeg) = (f_a0_bytes (a0_place + v2).toNatClampNeg) then
      (F_X7_is_b28 a0_place f_a0_bytes v1 kf) ((v2 + (1 : Int32)))
    else
      some (0 : Int32)
def F_X7_is (fu : Nat) (a0_behind : Int32) (a0_sort : Int32) (a0_place : Int32) (f_a0_bytes : Nat → Int32) (v1 : Nat) : Option (Int32) :=
  if a0_sort = (1 : Int32) then
    if (a0_behind - a0_place) = (sLen v1) then
      F_X7_is_b28 a0_place f_a0_bytes v1 fu (0 : Int32)
    else
      some (0 : Int32)
  else
    some (0 : Int32)
def F_X7_readWhole_b88  (a0_behind : Int32) (a0_whole : Int32) (t0 : Int32) : Option (Int32 × Int32 × Int32) :=
  some (a0_behind, t0, a0_whole)
def F_X7_readWhole_b67  (a0_place : Int32) (a0_whole : Int32) (v1 : Int32) : Option (Int32 × Int32 × Int32) :=
  if (3 : Int32) < (v1 - a0_place) then
    F_X7_readWhole_b88 v1 a0_whole (5 : Int32)
  else
    F_X7_readWhole_b88 v1 a0_whole (2 : Int32)
def F_X7_readWhole_b10  (a0_length : Int32) (a0_place : Int32) (f_a0_bytes : Nat → Int32) : Nat → Int32 → Int32 → Option (Int32 × Int32 × Int32)
  | 0, _, _ => none
  | kf + 1, a0_whole, v1 =>
    if a0_length ≤ v1 then
      F_X7_readWhole_b67 a0_place a0_whole v1
    else
    if v1 < 0 ∨ 900 ≤ v1.toNatClampNeg then none else
    if (f_a0_bytes v1.toNatClampNeg) < (48 : Int32) then
      F_X7_readWhole_b67 a0_place a0_whole v1
    else
    if v1 < 0 ∨ 900 ≤ v1.toNatClampNeg then none else
    if (57 : Int32) < (f_a0_bytes v1.toNatClampNeg) then
      F_X7_readWhole_b67 a0_place a0_whole v1
    else
    if v1 < 0 ∨ 900 ≤ v1.toNatClampNeg then none else
    (F_X7_readWhole_b10 a0_length a0_place f_a0_bytes kf) (((a0_whole * (10 : Int32)) + ((f_a0_bytes v1.toNatClampNeg) - (48 : Int32)))) ((v1 + (1 : Int32)))
def F_X7_readWhole (fu : Nat) (a0_length : Int32) (a0_place : Int32) (f_a0_bytes : Nat → Int32) : Option (Int32 × Int32 × Int32) :=
  F_X7_readWhole_b10 a0_length a0_place f_a0_bytes fu (0 : Int32) a0_place
def F_X7_readWord_b93  (a0_behind : Int32) (a0_word : Int64) (t0 : Int32) : Option (Int32 × Int32 × Int64) :=
  some (a0_behind, t0, a0_word)
def F_X7_readWord_b71  (a0_place : Int32) (a0_word : Int64) (v1 : Int32) : Option (Int32 × Int32 × Int64) :=
  if (8 : Int32) < (v1 - a0_place) then
    F_X7_readWord_b93 v1 a0_word (5 : Int32)
  else
    F_X7_readWord_b93 v1 a0_word (1 : Int32)
def F_X7_readWord_b10  (a0_length : Int32) (a0_place : Int32) (f_a0_bytes : Nat → Int32) : Nat → Int64 → Int32 → Option (Int32 × Int32 × Int64)
  | 0, _, _ => none
  | kf + 1, a0_word, v1 =>
    if a0_length ≤ v1 then
      F_X7_readWord_b71 a0_place a0_word v1
    else
    if v1 < 0 ∨ 900 ≤ v1.toNatClampNeg then none else
    if (f_a0_bytes v1.toNatClampNeg) < (97 : Int32) then
      F_X7_readWord_b71 a0_place a0_word v1
    else
    if v1 < 0 ∨ 900 ≤ v1.toNatClampNeg then none else
    if (122 : Int32) < (f_a0_bytes v1.toNatClampNeg) then
      F_X7_readWord_b71 a0_place a0_word v1
    else
    if v1 < 0 ∨ 900 ≤ v1.toNatClampNeg then none else
    (F_X7_readWord_b10 a0_length a0_place f_a0_bytes kf) (((a0_word * (32 : Int64)) + (((f_a0_bytes v1.toNatClampNeg) - (97 : Int32)) + (1 : Int32)).toInt64)) ((v1 + (1 : Int32)))
def F_X7_readWord (fu : Nat) (a0_length : Int32) (a0_place : Int32) (f_a0_bytes : Nat → Int32) : Option (Int32 × Int32 × Int64) :=
  F_X7_readWord_b10 a0_length a0_place f_a0_bytes fu (0 : Int64) a0_place
def F_X7_next_b135  (a0_place : Int32) (a0_whole : Int32) (a0_word : Int64) (v1 : Int32) (t0 : Int32) : Option (Int32 × Int32 × Int32 × Int32 × Int64) :=
  some ((v1 + (1 : Int32)), t0, a0_place, a0_whole, a0_word)
def F_X7_next_b113  (a0_place : Int32) (a0_whole : Int32) (a0_word : Int64) (v1 : Int32) (v2 : Int32) : Option (Int32 × Int32 × Int32 × Int32 × Int64) :=
  if v2 = (59 : Int32) then
    F_X7_next_b135 a0_place a0_whole a0_word v1 (3 : Int32)
  else
  if v2 = (44 : Int32) then
    F_X7_next_b135 a0_place a0_whole a0_word v1 (4 : Int32)
  else
    F_X7_next_b135 a0_place a0_whole a0_word v1 (5 : Int32)
def F_X7_next_b94  (fu : Nat) (a0_length : Int32) (a0_place : Int32) (a0_whole : Int32) (a0_word : Int64) (f_a0_bytes : Nat → Int32) (v1 : Int32) (v2 : Int32) : Option (Int32 × Int32 × Int32 × Int32 × Int64) :=
  if v2 < (48 : Int32) then
    F_X7_next_b113 a0_place a0_whole a0_word v1 v2
  else
  if (57 : Int32) < v2 then
    F_X7_next_b113 a0_place a0_whole a0_word v1 v2
  else
  bnd3 (F_X7_readWhole fu a0_length a0_place f_a0_bytes) fun u107_0 u107_1 u107_2 =>
  some (u107_0, u107_1, a0_place, u107_2, a0_word)
def F_X7_next_b53  (fu : Nat) (a0_length : Int32) (a0_place : Int32) (a0_whole : Int32) (a0_word : Int64) (f_a0_bytes : Nat → Int32) (v1 : Int32) (t0 : Int32) : Option (Int32 × Int32 × Int32 × Int32 × Int64) :=
  if v1 < a0_length then
    if t0 < (97 : Int32) then
      F_X7_next_b94 fu a0_length a0_place a0_whole a0_word f_a0_bytes v1 t0
    else
    if (122 : Int32) < t0 then
      F_X7_next_b94 fu a0_length a0_place a0_whole a0_word f_a0_bytes v1 t0
    else
    bnd3 (F_X7_readWord fu a0_length a0_place f_a0_bytes) fun u88_0 u88_1 u88_2 =>
    some (u88_0, u88_1, a0_place, a0_whole, u88_2)
  else
    some (v1, (0 : Int32), a0_place, a0_whole, a0_word)
def F_X7_next_b30  (fu : Nat) (a0_length : Int32) (a0_whole : Int32) (a0_word : Int64) (f_a0_bytes : Nat → Int32) (v1 : Int32) : Option (Int32 × Int32 × Int32 × Int32 × Int64) :=
  if a0_length ≤ v1 then
    F_X7_next_b53 fu a0_length v1 a0_whole a0_word f_a0_bytes v1 (0 : Int32)
  else
  if v1 < 0 ∨ 900 ≤ v1.toNatClampNeg then none else
  F_X7_next_b53 fu a0_length v1 a0_whole a0_word f_a0_bytes v1 (f_a0_bytes v1.toNatClampNeg)
def F_X7_next_b5  (fu : Nat) (a0_length : Int32) (a0_whole : Int32) (a0_word : Int64) (f_a0_bytes : Nat → Int32) : Nat → Int32 → Option (Int32 × Int32 × Int32 × Int32 × Int64)
  | 0, _ => none
  | kf + 1, v1 =>
    if a0_length ≤ v1 then
      F_X7_next_b30 fu a0_length a0_whole a0_word f_a0_bytes v1
    else
    if v1 < 0 ∨ 900 ≤ v1.toNatClampNeg then none else
    if (f_a0_bytes v1.toNatClampNeg) = (32 : Int32) then
      (F_X7_next_b5 fu a0_length a0_whole a0_word f_a0_bytes kf) ((v1 + (1 : Int32)))
    else
      F_X7_next_b30 fu a0_length a0_whole a0_word f_a0_bytes v1
def F_X7_next (fu : Nat) (a0_length : Int32) (a0_behind : Int32) (a0_whole : Int32) (a0_word : Int64) (f_a0_bytes : Nat → Int32) : Option (Int32 × Int32 × Int32 × Int32 × Int64) :=
  F_X7_next_b5 fu a0_length a0_whole a0_word f_a0_bytes fu a0_behind
def F_X7_isName (fu : Nat) (a0_behind : Int32) (a0_sort : Int32) (a0_place : Int32) (f_a0_bytes : Nat → Int32) : Option (Int32) :=
  if a0_sort = (1 : Int32) then
    bnd1 (F_X7_is fu a0_behind a0_sort a0_place f_a0_bytes 3) fun r11 =>
    if r11 = 0 then
      bnd1 (F_X7_is fu a0_behind a0_sort a0_place f_a0_bytes 4) fun r20 =>
      if r20 = 0 then
        bnd1 (F_X7_is fu a0_behind a0_sort a0_place f_a0_bytes 5) fun r29 =>
        if r29 = 0 then
          bnd1 (F_X7_is fu a0_behind a0_sort a0_place f_a0_bytes 6) fun r38 =>
          if r38 = 0 then
            bnd1 (F_X7_is fu a0_behind a0_sort a0_place f_a0_bytes 7) fun r47 =>
            if r47 = 0 then
              some (1 : Int32)
            else
              some (0 : Int32)
          else
            some (0 : Int32)
        else
          some (0 : Int32)
      else
        some (0 : Int32)
    else
      some (0 : Int32)
  else
    some (0 : Int32)
def F_X7_beginText_b17  (fu : Nat) (a0_whole : Int32) (a0_word : Int64) (f_a0_bytes : Nat → Int32) (t0 : Int32) : Option (Int32 × Int32 × Int32 × Int32 × Int32 × Int32 × Int64) :=
  bnd5 (F_X7_next fu t0 (0 : Int32) a0_whole a0_word f_a0_bytes) fun u31_0 u31_1 u31_2 u31_3 u31_4 =>
  some (t0, u31_0, (0 : Int32), u31_1, u31_2, u31_3, u31_4)
def F_X7_beginText (fu : Nat) (a0_fed : Int32) (a0_whole : Int32) (a0_word : Int64) (f_a0_bytes : Nat → Int32) (v1 : Int32) : Option (Int32 × Int32 × Int32 × Int32 × Int32 × Int32 × Int64) :=
  if 0 ≤ v1 then
    F_X7_beginText_b17 fu a0_whole a0_word f_a0_bytes (if a0_fed < v1 then a0_fed else v1)
  else
    F_X7_beginText_b17 fu a0_whole a0_word f_a0_bytes (0 : Int32)
def F_X7_hasRoom (a0_fed : Int32) (v1 : Int32) : Option (Int32) :=
  if ((900 : Int32) - a0_fed) < v1 then
    some (0 : Int32)
  else
    some (1 : Int32)
def F_X7_addFour_b43 (k3 : Int32 → (Nat → Int32) → Int32 → Option (Int32 × (Nat → Int32))) (a0_fed : Int32) (f_a0_bytes : Nat → Int32) (v1 : Int32) (v2 : Int32) : Option (Int32 × (Nat → Int32)) :=
  k3 a0_fed f_a0_bytes ((v2 + (-8 : Int32)))
def F_X7_addFour_b3  (v1 : Int32) : Nat → Int32 → (Nat → Int32) → Int32 → Option (Int32 × (Nat → Int32))
  | 0, _, _, _ => none
  | kf + 1, a0_fed, f_a0_bytes, v2 =>
    if v2 < 0 then
      some (a0_fed, f_a0_bytes)
    else
    if (900 : Int32) ≤ a0_fed then
      F_X7_addFour_b43 (F_X7_addFour_b3 v1 kf) a0_fed f_a0_bytes v1 v2
    else
    if a0_fed < 0 ∨ 900 ≤ a0_fed.toNatClampNeg then none else
    F_X7_addFour_b43 (F_X7_addFour_b3 v1 kf) ((a0_fed + (1 : Int32))) ((upd f_a0_bytes a0_fed.toNatClampNeg ((v1 >>> (v2 &&& 31)) &&& (255 : Int32)))) v1 v2
def F_X7_addFour (fu : Nat) (a0_fed : Int32) (f_a0_bytes : Nat → Int32) (v1 : Int32) : Option (Int32 × (Nat → Int32)) :=
  F_X7_addFour_b3 v1 fu a0_fed f_a0_bytes (24 : Int32)
def F_X3_faulty (a0_tape_place : Int32) (v1 : Int32) : Option (Int32 × Int32 × Int32) :=
  some ((0 : Int32), v1, a0_tape_place)
def F_X3_mustBeWhole_b47  (a0_fault : Int32) (a0_place : Int32) : Option (Int32 × Int32 × Int32) :=
  some ((1 : Int32), a0_fault, a0_place)
def F_X3_mustBeWhole_b39  (a0_tape_place : Int32) : Option (Int32 × Int32 × Int32) :=
  bnd3 (F_X3_faulty a0_tape_place (4 : Int32)) fun r41 u41_0 u41_1 =>
  if r41 = 0 then
    some ((0 : Int32), u41_0, u41_1)
  else
    F_X3_mustBeWhole_b47 u41_0 u41_1
def F_X3_mustBeWhole (a0_fault : Int32) (a0_place : Int32) (a0_tape_sort : Int32) (a0_tape_place : Int32) (a0_tape_whole : Int32) (v1 : Int32) (v2 : Int32) : Option (Int32 × Int32 × Int32) :=
  if a0_tape_sort = (2 : Int32) then
    if a0_tape_whole < v1 then
      F_X3_mustBeWhole_b39 a0_tape_place
    else
    if a0_tape_whole ≤ v2 then
      F_X3_mustBeWhole_b47 a0_fault a0_place
    else
      F_X3_mustBeWhole_b39 a0_tape_place
  else
  bnd3 (F_X3_faulty a0_tape_place (1 : Int32)) fun r13 u13_0 u13_1 =>
  if ¬ (r13 = 0 ∨ r13 = 1) then none else
  some (r13, u13_0, u13_1)
def F_X3_callAct_b62  (fu : Nat) (a0_fault : Int32) (a0_place : Int32) (a0_actWhole : Int32) (a0_tape_length : Int32) (a0_tape_behind : Int32) (a0_tape_sort : Int32) (a0_tape_place : Int32) (a0_tape_whole : Int32) (a0_tape_word : Int64) (f_a0_tape_bytes : Nat → Int32) (v1 : Int32) (t0 : Int32) : Option (Int32 × Int32 × Int32 × Int32 × Int32 × Int32 × Int32 × Int32 × Int32 × Int64) :=
  bnd1 (F_X8_does v1 t0) fun r70 =>
  if r70 = 0 then
    bnd3 (F_X3_faulty a0_tape_place (1 : Int32)) fun r78 u78_0 u78_1 =>
    if ¬ (r78 = 0 ∨ r78 = 1) then none else
    some (r78, u78_0, u78_1, t0, a0_actWhole, a0_tape_behind, a0_tape_sort, a0_tape_place, a0_tape_whole, a0_tape_word)
  else
  bnd5 (F_X7_next fu a0_tape_length a0_tape_behind a0_tape_whole a0_tape_word f_a0_tape_bytes) fun u86_0 u86_1 u86_2 u86_3 u86_4 =>
  bnd1 (F_X8_hasWhole v1 t0) fun r99 =>
  if r99 = 0 then
    some ((1 : Int32), a0_fault, a0_place, t0, (0 : Int32), u86_0, u86_1, u86_2, u86_3, u86_4)
  else
  bnd3 (F_X3_mustBeWhole a0_fault a0_place u86_1 u86_2 u86_3 (0 : Int32) (9 : Int32)) fun r109 u109_0 u109_1 =>
  if r109 = 0 then
    some ((0 : Int32), u109_0, u109_1, t0, (0 : Int32), u86_0, u86_1, u86_2, u86_3, u86_4)
  else
  bnd5 (F_X7_next fu a0_tape_length u86_0 u86_3 u86_4 f_a0_tape_bytes) fun u132_0 u132_1 u132_2 u132_3 u132_4 =>
  some ((1 : Int32), u109_0, u109_1, t0, u86_3, u132_0, u132_1, u132_2, u132_3, u132_4)
def F_X3_callAct (fu : Nat) (a0_fault : Int32) (a0_place : Int32) (a0_till : Int32) (a0_actWhole : Int32) (f_a0_shop_kinds : Nat → Int32) (a0_tape_length : Int32) (a0_tape_behind : Int32) (a0_tape_sort : Int32) (a0_tape_place : Int32) (a0_tape_whole : Int32) (a0_tape_word : Int64) (f_a0_tape_bytes : Nat → Int32) : Option (Int32 × Int32 × Int32 × Int32 × Int32 × Int32 × Int32 × Int32 × Int32 × Int64) :=
  bnd1 (F_X5_kindOf f_a0_shop_kinds a0_till) fun r8 =>
  bnd1 (F_X7_is fu a0_tape_behind a0_tape_sort a0_tape_place f_a0_tape_bytes 16) fun r19 =>
  if r19 = 0 then
    bnd1 (F_X7_is fu a0_tape_behind a0_tape_sort a0_tape_place f_a0_tape_bytes 17) fun r35 =>
    if r35 = 0 then
      bnd1 (F_X7_is fu a0_tape_behind a0_tape_sort a0_tape_place f_a0_tape_bytes 18) fun r51 =>
      if r51 = 0 then
        F_X3_callAct_b62 fu a0_fault a0_place a0_actWhole a0_tape_length a0_tape_behind a0_tape_sort a0_tape_place a0_tape_whole a0_tape_word f_a0_tape_bytes r8 (-1 : Int32)
      else
        F_X3_callAct_b62 fu a0_fault a0_place a0_actWhole a0_tape_length a0_tape_behind a0_tape_sort a0_tape_place a0_tape_whole a0_tape_word f_a0_tape_bytes r8 (2 : Int32)
    else
      F_X3_callAct_b62 fu a0_fault a0_place a0_actWhole a0_tape_length a0_tape_behind a0_tape_sort a0_tape_place a0_tape_whole a0_tape_word f_a0_tape_bytes r8 (1 : Int32)
  else
    F_X3_callAct_b62 fu a0_fault a0_place a0_actWhole a0_tape_length a0_tape_behind a0_tape_sort a0_tape_place a0_tape_whole a0_tape_word f_a0_tape_bytes r8 (0 : Int32)
def F_X3_find_b2  (n1 : Nat) (f_a1 : Nat → Int64) (a0_tape_word : Int64) (v2 : Int32) : Nat → Int32 → Option (Int32)
  | 0, _ => none
  | kf + 1, v3 =>
    if v2 ≤ v3 then
      some (-1 : Int32)
    else
    if (Int32.ofNat n1) ≤ v3 then
      some (-1 : Int32)
    else
    if v3 < 0 ∨ n1 ≤ v3.toNatClampNeg then none else
    if (lg_cmp (f_a1 v3.toNatClampNeg) a0_tape_word) = 0 then
      some v3
    else
      (F_X3_find_b2 n1 f_a1 a0_tape_word v2 kf) ((v3 + (1 : Int32)))
def F_X3_find (fu : Nat) (n1 : Nat) (f_a1 : Nat → Int64) (a0_tape_word : Int64) (v2 : Int32) : Option (Int32) :=
  F_X3_find_b2 n1 f_a1 a0_tape_word v2 fu (0 : Int32)
def F_X3_callCashier_b81  (fu : Nat) (a0_fault : Int32) (a0_place : Int32) (a0_cashier : Int32) (a0_tape_length : Int32) (a0_tape_behind : Int32) (a0_tape_whole : Int32) (a0_tape_word : Int64) (f_a0_tape_bytes : Nat → Int32) : Option (Int32 × Int32 × Int32 × Int32 × Int32 × Int32 × Int32 × Int32 × Int64) :=
  bnd5 (F_X7_next fu a0_tape_length a0_tape_behind a0_tape_whole a0_tape_word f_a0_tape_bytes) fun u85_0 u85_1 u85_2 u85_3 u85_4 =>
  some ((1 : Int32), a0_fault, a0_place, a0_cashier, u85_0, u85_1, u85_2, u85_3, u85_4)
def F_X3_callCashier (fu : Nat) (a0_fault : Int32) (a0_place : Int32) (a0_cashier : Int32) (a0_tape_length : Int32) (a0_tape_behind : Int32) (a0_tape_sort : Int32) (a0_tape_place : Int32) (a0_tape_whole : Int32) (a0_tape_word : Int64) (f_a0_tape_bytes : Nat → Int32) (a0_shop_cashiers : Int32) (f_a0_cashierNames : Nat → Int64) (a0_calls_n : Int32) (f_a0_calls_cashiers : Nat → Int32) (f_a0_calls_ends : Nat → Int32) : Option (Int32 × Int32 × Int32 × Int32 × Int32 × Int32 × Int32 × Int32 × Int64) :=
  bnd1 (F_X7_isName fu a0_tape_behind a0_tape_sort a0_tape_place f_a0_tape_bytes) fun r4 =>
  if r4 = 0 then
    bnd3 (F_X3_faulty a0_tape_place (1 : Int32)) fun r12 u12_0 u12_1 =>
    if ¬ (r12 = 0 ∨ r12 = 1) then none else
    some (r12, u12_0, u12_1, a0_cashier, a0_tape_behind, a0_tape_sort, a0_tape_place, a0_tape_whole, a0_tape_word)
  else
  bnd1 (F_X3_find fu 4 f_a0_cashierNames a0_tape_word a0_shop_cashiers) fun r29 =>
  if 0 ≤ r29 then
    bnd1 (F_X0_lastOf fu a0_calls_n f_a0_calls_cashiers r29) fun r56 =>
    if r56 < 0 then
      F_X3_callCashier_b81 fu a0_fault a0_place r29 a0_tape_length a0_tape_behind a0_tape_whole a0_tape_word f_a0_tape_bytes
    else
    bnd1 (F_X0_isOpen f_a0_calls_ends r56) fun r69 =>
    if r69 = 0 then
      F_X3_callCashier_b81 fu a0_fault a0_place r29 a0_tape_length a0_tape_behind a0_tape_whole a0_tape_word f_a0_tape_bytes
    else
    bnd3 (F_X3_faulty a0_tape_place (4 : Int32)) fun r77 u77_0 u77_1 =>
    if ¬ (r77 = 0 ∨ r77 = 1) then none else
    some (r77, u77_0, u77_1, r29, a0_tape_behind, a0_tape_sort, a0_tape_place, a0_tape_whole, a0_tape_word)
  else
  bnd3 (F_X3_faulty a0_tape_place (2 : Int32)) fun r44 u44_0 u44_1 =>
  if ¬ (r44 = 0 ∨ r44 = 1) then none else
  some (r44, u44_0, u44_1, r29, a0_tape_behind, a0_tape_sort, a0_tape_place, a0_tape_whole, a0_tape_word)
def F_X3_callTill (fu : Nat) (a0_fault : Int32) (a0_place : Int32) (a0_till : Int32) (a0_tape_length : Int32) (a0_tape_behind : Int32) (a0_tape_sort : Int32) (a0_tape_place : Int32) (a0_tape_whole : Int32) (a0_tape_word : Int64) (f_a0_tape_bytes : Nat → Int32) (a0_shop_tills : Int32) (f_a0_tillNames : Nat → Int64) : Option (Int32 × Int32 × Int32 × Int32 × Int32 × Int32 × Int32 × Int32 × Int64) :=
  bnd1 (F_X7_isName fu a0_tape_behind a0_tape_sort a0_tape_place f_a0_tape_bytes) fun r4 =>
  if r4 = 0 then
    bnd3 (F_X3_faulty a0_tape_place (1 : Int32)) fun r12 u12_0 u12_1 =>
    if ¬ (r12 = 0 ∨ r12 = 1) then none else
    some (r12, u12_0, u12_1, a0_till, a0_tape_behind, a0_tape_sort, a0_tape_place, a0_tape_whole, a0_tape_word)
  else
  bnd1 (F_X3_find fu 3 f_a0_tillNames a0_tape_word a0_shop_tills) fun r29 =>
  if 0 ≤ r29 then
    bnd5 (F_X7_next fu a0_tape_length a0_tape_behind a0_tape_whole a0_tape_word f_a0_tape_bytes) fun u52_0 u52_1 u52_2 u52_3 u52_4 =>
    some ((1 : Int32), a0_fault, a0_place, r29, u52_0, u52_1, u52_2, u52_3, u52_4)
  else
  bnd3 (F_X3_faulty a0_tape_place (2 : Int32)) fun r44 u44_0 u44_1 =>
  if ¬ (r44 = 0 ∨ r44 = 1) then none else
  some (r44, u44_0, u44_1, r29, a0_tape_behind, a0_tape_sort, a0_tape_place, a0_tape_whole, a0_tape_word)
def F_X3_mustBe (fu : Nat) (a0_fault : Int32) (a0_place : Int32) (a0_tape_length : Int32) (a0_tape_behind : Int32) (a0_tape_sort : Int32) (a0_tape_place : Int32) (a0_tape_whole : Int32) (a0_tape_word : Int64) (f_a0_tape_bytes : Nat → Int32) (v1 : Nat) : Option (Int32 × Int32 × Int32 × Int32 × Int32 × Int32 × Int32 × Int64) :=
  bnd1 (F_X7_is fu a0_tape_behind a0_tape_sort a0_tape_place f_a0_tape_bytes v1) fun r5 =>
  if r5 = 0 then
    bnd3 (F_X3_faulty a0_tape_place (1 : Int32)) fun r13 u13_0 u13_1 =>
    if ¬ (r13 = 0 ∨ r13 = 1) then none else
    some (r13, u13_0, u13_1, a0_tape_behind, a0_tape_sort, a0_tape_place, a0_tape_whole, a0_tape_word)
  else
  bnd5 (F_X7_next fu a0_tape_length a0_tape_behind a0_tape_whole a0_tape_word f_a0_tape_bytes) fun u21_0 u21_1 u21_2 u21_3 u21_4 =>
  some ((1 : Int32), a0_fault, a0_place, u21_0, u21_1, u21_2, u21_3, u21_4)
def F_X3_callTimes_b40  (fu : Nat) (a0_fault : Int32) (a0_place : Int32) (a0_cashier : Int32) (a0_till : Int32) (a0_act : Int32) (a0_actWhole : Int32) (a0_calls_n : Int32) (f_a0_calls_cashiers : Nat → Int32) (a0_tape_length : Int32) (a0_tape_behind : Int32) (a0_tape_sort : Int32) (a0_tape_place : Int32) (a0_tape_whole : Int32) (a0_tape_word : Int64) (f_a0_tape_bytes : Nat → Int32) (f_a0_calls_ends : Nat → Int32) (f_a0_calls_tills : Nat → Int32) (f_a0_calls_acts : Nat → Int32) (f_a0_calls_wholes : Nat → Int32) (f_a0_calls_begins : Nat → Int32) (f_a0_calls_answers : Nat → Int32) (t0 : Int32) : Option (Int32 × Int32 × Int32 × Int32 × (Nat → Int32) × Int32 × Int32 × Int32 × Int32 × Int64 × (Nat → Int32) × (Nat → Int32) × (Nat → Int32) × (Nat → Int32) × (Nat → Int32) × (Nat → Int32)) :=
  bnd3 (F_X3_mustBeWhole a0_fault a0_place a0_tape_sort a0_tape_place a0_tape_whole t0 (999 : Int32)) fun r43 u43_0 u43_1 =>
  if r43 = 0 then
    some ((0 : Int32), u43_0, u43_1, a0_calls_n, f_a0_calls_cashiers, a0_tape_behind, a0_tape_sort, a0_tape_place, a0_tape_whole, a0_tape_word, f_a0_calls_ends, f_a0_calls_tills, f_a0_calls_acts, f_a0_calls_wholes, f_a0_calls_begins, f_a0_calls_answers)
  else
  bnd5 (F_X7_next fu a0_tape_length a0_tape_behind a0_tape_whole a0_tape_word f_a0_tape_bytes) fun u63_0 u63_1 u63_2 u63_3 u63_4 =>
  bnd9 (F_X0_addOpen a0_calls_n f_a0_calls_cashiers f_a0_calls_tills f_a0_calls_acts f_a0_calls_wholes f_a0_calls_begins f_a0_calls_ends f_a0_calls_answers a0_cashier a0_till a0_act a0_actWhole a0_tape_whole) fun r87 u87_0 u87_1 u87_2 u87_3 u87_4 u87_5 u87_6 u87_7 =>
  bnd1 (F_X7_is fu u63_0 u63_1 u63_2 f_a0_tape_bytes 20) fun r97 =>
  if r97 = 0 then
    bnd8 (F_X3_mustBe fu u43_0 u43_1 a0_tape_length u63_0 u63_1 u63_2 u63_3 u63_4 f_a0_tape_bytes 21) fun r115 u115_0 u115_1 u115_2 u115_3 u115_4 u115_5 u115_6 =>
    if r115 = 0 then
      some ((0 : Int32), u115_0, u115_1, u87_0, u87_1, u115_2, u115_3, u115_4, u115_5, u115_6, u87_6, u87_2, u87_3, u87_4, u87_5, u87_7)
    else
    bnd3 (F_X3_mustBeWhole u115_0 u115_1 u115_3 u115_4 u115_5 a0_tape_whole (999 : Int32)) fun r126 u126_0 u126_1 =>
    if r126 = 0 then
      some ((0 : Int32), u126_0, u126_1, u87_0, u87_1, u115_2, u115_3, u115_4, u115_5, u115_6, u87_6, u87_2, u87_3, u87_4, u87_5, u87_7)
    else
    bnd5 (F_X7_next fu a0_tape_length u115_2 u115_5 u115_6 f_a0_tape_bytes) fun u147_0 u147_1 u147_2 u147_3 u147_4 =>
    bnd8 (F_X3_mustBe fu u126_0 u126_1 a0_tape_length u147_0 u147_1 u147_2 u147_3 u147_4 f_a0_tape_bytes 22) fun r153 u153_0 u153_1 u153_2 u153_3 u153_4 u153_5 u153_6 =>
    if r153 = 0 then
      some ((0 : Int32), u153_0, u153_1, u87_0, u87_1, u153_2, u153_3, u153_4, u153_5, u153_6, u87_6, u87_2, u87_3, u87_4, u87_5, u87_7)
    else
    bnd3 (F_X3_mustBeWhole u153_0 u153_1 u153_3 u153_4 u153_5 (0 : Int32) (99 : Int32)) fun r163 u163_0 u163_1 =>
    if r163 = 0 then
      some ((0 : Int32), u163_0, u163_1, u87_0, u87_1, u153_2, u153_3, u153_4, u153_5, u153_6, u87_6, u87_2, u87_3, u87_4, u87_5, u87_7)
    else
    bnd2 (F_X0_close u87_0 u87_6 u87_7 r87 u115_5 u153_5) fun u185_0 u185_1 =>
    bnd5 (F_X7_next fu a0_tape_length u153_2 u153_5 u153_6 f_a0_tape_bytes) fun u192_0 u192_1 u192_2 u192_3 u192_4 =>
    some ((1 : Int32), u163_0, u163_1, u87_0, u87_1, u192_0, u192_1, u192_2, u192_3, u192_4, u185_0, u87_2, u87_3, u87_4, u87_5, u185_1)
  else
  bnd5 (F_X7_next fu a0_tape_length u63_0 u63_3 u63_4 f_a0_tape_bytes) fun u107_0 u107_1 u107_2 u107_3 u107_4 =>
  some ((1 : Int32), u43_0, u43_1, u87_0, u87_1, u107_0, u107_1, u107_2, u107_3, u107_4, u87_6, u87_2, u87_3, u87_4, u87_5, u87_7)
def F_X3_callTimes (fu : Nat) (a0_fault : Int32) (a0_place : Int32) (a0_cashier : Int32) (a0_till : Int32) (a0_act : Int32) (a0_actWhole : Int32) (a0_calls_n : Int32) (f_a0_calls_cashiers : Nat → Int32) (a0_tape_length : Int32) (a0_tape_behind : Int32) (a0_tape_sort : Int32) (a0_tape_place : Int32) (a0_tape_whole : Int32) (a0_tape_word : Int64) (f_a0_tape_bytes : Nat → Int32) (f_a0_calls_ends : Nat → Int32) (f_a0_calls_tills : Nat → Int32) (f_a0_calls_acts : Nat → Int32) (f_a0_calls_wholes : Nat → Int32) (f_a0_calls_begins : Nat → Int32) (f_a0_calls_answers : Nat → Int32) : Option (Int32 × Int32 × Int32 × Int32 × (Nat → Int32) × Int32 × Int32 × Int32 × Int32 × Int64 × (Nat → Int32) × (Nat → Int32) × (Nat → Int32) × (Nat → Int32) × (Nat → Int32) × (Nat → Int32)) :=
  bnd1 (F_X0_lastOf fu a0_calls_n f_a0_calls_cashiers a0_cashier) fun r8 =>
  bnd8 (F_X3_mustBe fu a0_fault a0_place a0_tape_length a0_tape_behind a0_tape_sort a0_tape_place a0_tape_whole a0_tape_word f_a0_tape_bytes 19) fun r15 u15_0 u15_1 u15_2 u15_3 u15_4 u15_5 u15_6 =>
  if r15 = 0 then
    some ((0 : Int32), u15_0, u15_1, a0_calls_n, f_a0_calls_cashiers, u15_2, u15_3, u15_4, u15_5, u15_6, f_a0_calls_ends, f_a0_calls_tills, f_a0_calls_acts, f_a0_calls_wholes, f_a0_calls_begins, f_a0_calls_answers)
  else
  if 0 ≤ r8 then
    bnd1 (F_X0_endOf f_a0_calls_ends r8) fun r35 =>
    F_X3_callTimes_b40 fu u15_0 u15_1 a0_cashier a0_till a0_act a0_actWhole a0_calls_n f_a0_calls_cashiers a0_tape_length u15_2 u15_3 u15_4 u15_5 u15_6 f_a0_tape_bytes f_a0_calls_ends f_a0_calls_tills f_a0_calls_acts f_a0_calls_wholes f_a0_calls_begins f_a0_calls_answers ((r35 + (1 : Int32)))
  else
    F_X3_callTimes_b40 fu u15_0 u15_1 a0_cashier a0_till a0_act a0_actWhole a0_calls_n f_a0_calls_cashiers a0_tape_length u15_2 u15_3 u15_4 u15_5 u15_6 f_a0_tape_bytes f_a0_calls_ends f_a0_calls_tills f_a0_calls_acts f_a0_calls_wholes f_a0_calls_begins f_a0_calls_answers (0 : Int32)
def F_X3_callLine (fu : Nat) (a0_fault : Int32) (a0_place : Int32) (a0_cashier : Int32) (a0_till : Int32) (a0_act : Int32) (a0_actWhole : Int32) (a0_calls_n : Int32) (a0_tape_length : Int32) (a0_tape_behind : Int32) (a0_tape_sort : Int32) (a0_tape_place : Int32) (a0_tape_whole : Int32) (a0_tape_word : Int64) (f_a0_tape_bytes : Nat → Int32) (a0_shop_tills : Int32) (a0_shop_cashiers : Int32) (f_a0_cashierNames : Nat → Int64) (f_a0_calls_cashiers : Nat → Int32) (f_a0_calls_ends : Nat → Int32) (f_a0_tillNames : Nat → Int64) (f_a0_shop_kinds : Nat → Int32) (f_a0_calls_tills : Nat → Int32) (f_a0_calls_acts : Nat → Int32) (f_a0_calls_wholes : Nat → Int32) (f_a0_calls_begins : Nat → Int32) (f_a0_calls_answers : Nat → Int32) : Option (Int32 × Int32 × Int32 × Int32 × Int32 × Int32 × Int32 × Int32 × Int32 × Int32 × Int32 × Int32 × Int64 × (Nat → Int32) × (Nat → Int32) × (Nat → Int32) × (Nat → Int32) × (Nat → Int32) × (Nat → Int32) × (Nat → Int32)) :=
  if a0_calls_n < (20 : Int32) then
    bnd5 (F_X7_next fu a0_tape_length a0_tape_behind a0_tape_whole a0_tape_word f_a0_tape_bytes) fun u22_0 u22_1 u22_2 u22_3 u22_4 =>
    bnd9 (F_X3_callCashier fu a0_fault a0_place a0_cashier a0_tape_length u22_0 u22_1 u22_2 u22_3 u22_4 f_a0_tape_bytes a0_shop_cashiers f_a0_cashierNames a0_calls_n f_a0_calls_cashiers f_a0_calls_ends) fun r26 u26_0 u26_1 u26_2 u26_3 u26_4 u26_5 u26_6 u26_7 =>
    if r26 = 0 then
      some ((0 : Int32), u26_0, u26_1, u26_2, a0_till, a0_act, a0_actWhole, a0_calls_n, u26_3, u26_4, u26_5, u26_6, u26_7, f_a0_calls_cashiers, f_a0_calls_ends, f_a0_calls_tills, f_a0_calls_acts, f_a0_calls_wholes, f_a0_calls_begins, f_a0_calls_answers)
    else
    bnd9 (F_X3_callTill fu u26_0 u26_1 a0_till a0_tape_length u26_3 u26_4 u26_5 u26_6 u26_7 f_a0_tape_bytes a0_shop_tills f_a0_tillNames) fun r33 u33_0 u33_1 u33_2 u33_3 u33_4 u33_5 u33_6 u33_7 =>
    if r33 = 0 then
      some ((0 : Int32), u33_0, u33_1, u26_2, u33_2, a0_act, a0_actWhole, a0_calls_n, u33_3, u33_4, u33_5, u33_6, u33_7, f_a0_calls_cashiers, f_a0_calls_ends, f_a0_calls_tills, f_a0_calls_acts, f_a0_calls_wholes, f_a0_calls_begins, f_a0_calls_answers)
    else
    bnd10 (F_X3_callAct fu u33_0 u33_1 u33_2 a0_actWhole f_a0_shop_kinds a0_tape_length u33_3 u33_4 u33_5 u33_6 u33_7 f_a0_tape_bytes) fun r40 u40_0 u40_1 u40_2 u40_3 u40_4 u40_5 u40_6 u40_7 u40_8 =>
    if r40 = 0 then
      some ((0 : Int32), u40_0, u40_1, u26_2, u33_2, u40_2, u40_3, a0_calls_n, u40_4, u40_5, u40_6, u40_7, u40_8, f_a0_calls_cashiers, f_a0_calls_ends, f_a0_calls_tills, f_a0_calls_acts, f_a0_calls_wholes, f_a0_calls_begins, f_a0_calls_answers)
    else
    bnd16 (F_X3_callTimes fu u40_0 u40_1 u26_2 u33_2 u40_2 u40_3 a0_calls_n f_a0_calls_cashiers a0_tape_length u40_4 u40_5 u40_6 u40_7 u40_8 f_a0_tape_bytes f_a0_calls_ends f_a0_calls_tills f_a0_calls_acts f_a0_calls_wholes f_a0_calls_begins f_a0_calls_answers) fun r47 u47_0 u47_1 u47_2 u47_3 u47_4 u47_5 u47_6 u47_7 u47_8 u47_9 u47_10 u47_11 u47_12 u47_13 u47_14 =>
    if r47 = 0 then
      some ((0 : Int32), u47_0, u47_1, u26_2, u33_2, u40_2, u40_3, u47_2, u47_4, u47_5, u47_6, u47_7, u47_8, u47_3, u47_9, u47_10, u47_11, u47_12, u47_13, u47_14)
    else
      some ((1 : Int32), u47_0, u47_1, u26_2, u33_2, u40_2, u40_3, u47_2, u47_4, u47_5, u47_6, u47_7, u47_8, u47_3, u47_9, u47_10, u47_11, u47_12, u47_13, u47_14)
  else
  bnd3 (F_X3_faulty a0_tape_place (5 : Int32)) fun r14 u14_0 u14_1 =>
  if ¬ (r14 = 0 ∨ r14 = 1) then none else
  some (r14, u14_0, u14_1, a0_cashier, a0_till, a0_act, a0_actWhole, a0_calls_n, a0_tape_behind, a0_tape_sort, a0_tape_place, a0_tape_whole, a0_tape_word, f_a0_calls_cashiers, f_a0_calls_ends, f_a0_calls_tills, f_a0_calls_acts, f_a0_calls_wholes, f_a0_calls_begins, f_a0_calls_answers)
def F_X3_mustBeNew_b70  (a0_fault : Int32) (a0_place : Int32) : Option (Int32 × Int32 × Int32) :=
  some ((1 : Int32), a0_fault, a0_place)
def F_X3_mustBeNew_b57  (a0_fault : Int32) (a0_place : Int32) (a0_tape_place : Int32) (t0 : Int32) : Option (Int32 × Int32 × Int32) :=
  if t0 = 0 then
    F_X3_mustBeNew_b70 a0_fault a0_place
  else
  bnd3 (F_X3_faulty a0_tape_place (3 : Int32)) fun r64 u64_0 u64_1 =>
  if r64 = 0 then
    some ((0 : Int32), u64_0, u64_1)
  else
    F_X3_mustBeNew_b70 u64_0 u64_1
def F_X3_mustBeNew_b52  (a0_fault : Int32) (a0_place : Int32) (a0_tape_place : Int32) : Option (Int32 × Int32 × Int32) :=
  F_X3_mustBeNew_b57 a0_fault a0_place a0_tape_place (1 : Int32)
def F_X3_mustBeNew (fu : Nat) (a0_fault : Int32) (a0_place : Int32) (a0_tape_behind : Int32) (a0_tape_sort : Int32) (a0_tape_place : Int32) (a0_tape_word : Int64) (f_a0_tape_bytes : Nat → Int32) (a0_shop_tills : Int32) (a0_shop_cashiers : Int32) (f_a0_tillNames : Nat → Int64) (f_a0_cashierNames : Nat → Int64) : Option (Int32 × Int32 × Int32) :=
  bnd1 (F_X7_isName fu a0_tape_behind a0_tape_sort a0_tape_place f_a0_tape_bytes) fun r4 =>
  if r4 = 0 then
    bnd3 (F_X3_faulty a0_tape_place (1 : Int32)) fun r12 u12_0 u12_1 =>
    if ¬ (r12 = 0 ∨ r12 = 1) then none else
    some (r12, u12_0, u12_1)
  else
  bnd1 (F_X3_find fu 3 f_a0_tillNames a0_tape_word a0_shop_tills) fun r28 =>
  if 0 ≤ r28 then
    F_X3_mustBeNew_b52 a0_fault a0_place a0_tape_place
  else
  bnd1 (F_X3_find fu 4 f_a0_cashierNames a0_tape_word a0_shop_cashiers) fun r46 =>
  if r46 < 0 then
    F_X3_mustBeNew_b57 a0_fault a0_place a0_tape_place (0 : Int32)
  else
    F_X3_mustBeNew_b52 a0_fault a0_place a0_tape_place
def F_X3_cashierLine_b2  (fu : Nat) (a0_tape_length : Int32) (f_a0_tape_bytes : Nat → Int32) (a0_shop_tills : Int32) (f_a0_tillNames : Nat → Int64) : Nat → Int32 → Int32 → Int32 → Int32 → Int32 → Int32 → Int64 → Int32 → (Nat → Int64) → Int32 → Option (Int32 × Int32 × Int32 × Int32 × Int32 × Int32 × Int32 × Int64 × Int32 × (Nat → Int64))
  | 0, _, _, _, _, _, _, _, _, _, _ => none
  | kf + 1, a0_fault, a0_place, a0_tape_behind, a0_tape_sort, a0_tape_place, a0_tape_whole, a0_tape_word, a0_shop_cashiers, f_a0_cashierNames, v1 =>
    if (4 : Int32) < v1 then
      bnd3 (F_X3_faulty a0_tape_place (5 : Int32)) fun r100 u100_0 u100_1 =>
      if ¬ (r100 = 0 ∨ r100 = 1) then none else
      some (r100, u100_0, u100_1, a0_tape_behind, a0_tape_sort, a0_tape_place, a0_tape_whole, a0_tape_word, a0_shop_cashiers, f_a0_cashierNames)
    else
    bnd5 (F_X7_next fu a0_tape_length a0_tape_behind a0_tape_whole a0_tape_word f_a0_tape_bytes) fun u11_0 u11_1 u11_2 u11_3 u11_4 =>
    bnd3 (F_X3_mustBeNew fu a0_fault a0_place u11_0 u11_1 u11_2 u11_4 f_a0_tape_bytes a0_shop_tills a0_shop_cashiers f_a0_tillNames f_a0_cashierNames) fun r15 u15_0 u15_1 =>
    if r15 = 0 then
      some ((0 : Int32), u15_0, u15_1, u11_0, u11_1, u11_2, u11_3, u11_4, a0_shop_cashiers, f_a0_cashierNames)
    else
    if a0_shop_cashiers < (4 : Int32) then
      if a0_shop_cashiers < 0 ∨ 4 ≤ a0_shop_cashiers.toNatClampNeg then none else
      bnd5 (F_X7_next fu a0_tape_length u11_0 u11_3 u11_4 f_a0_tape_bytes) fun u76_0 u76_1 u76_2 u76_3 u76_4 =>
      if u76_1 = (4 : Int32) then
        (F_X3_cashierLine_b2 fu a0_tape_length f_a0_tape_bytes a0_shop_tills f_a0_tillNames kf) u15_0 u15_1 u76_0 u76_1 u76_2 u76_3 u76_4 ((a0_shop_cashiers + (1 : Int32))) (vp_updL f_a0_cashierNames a0_shop_cashiers.toNatClampNeg u11_4) ((v1 + (1 : Int32)))
      else
        some ((1 : Int32), u15_0, u15_1, u76_0, u76_1, u76_2, u76_3, u76_4, (a0_shop_cashiers + (1 : Int32)), (vp_updL f_a0_cashierNames a0_shop_cashiers.toNatClampNeg u11_4))
    else
    bnd3 (F_X3_faulty u11_2 (5 : Int32)) fun r36 u36_0 u36_1 =>
    if ¬ (r36 = 0 ∨ r36 = 1) then none else
    some (r36, u36_0, u36_1, u11_0, u11_1, u11_2, u11_3, u11_4, a0_shop_cashiers, f_a0_cashierNames)
def F_X3_cashierLine (fu : Nat) (a0_fault : Int32) (a0_place : Int32) (a0_tape_length : Int32) (a0_tape_behind : Int32) (a0_tape_sort : Int32) (a0_tape_place : Int32) (a0_tape_whole : Int32) (a0_tape_word : Int64) (f_a0_tape_bytes : Nat → Int32) (a0_shop_tills : Int32) (a0_shop_cashiers : Int32) (f_a0_tillNames : Nat → Int64) (f_a0_cashierNames : Nat → Int64) : Option (Int32 × Int32 × Int32 × Int32 × Int32 × Int32 × Int32 × Int64 × Int32 × (Nat → Int64)) :=
  F_X3_cashierLine_b2 fu a0_tape_length f_a0_tape_bytes a0_shop_tills f_a0_tillNames fu a0_fault a0_place a0_tape_behind a0_tape_sort a0_tape_place a0_tape_whole a0_tape_word a0_shop_cashiers f_a0_cashierNames (0 : Int32)
def F_X3_lawLine (fu : Nat) (a0_lawTold : Int32) (a0_fault : Int32) (a0_place : Int32) (a0_tape_length : Int32) (a0_tape_behind : Int32) (a0_tape_sort : Int32) (a0_tape_place : Int32) (a0_tape_whole : Int32) (a0_tape_word : Int64) (f_a0_tape_bytes : Nat → Int32) (a0_shop_late : Int32) : Option (Int32 × Int32 × Int32 × Int32 × Int32 × Int32 × Int32 × Int32 × Int64 × Int32) :=
  if a0_lawTold = 0 then
    bnd5 (F_X7_next fu a0_tape_length a0_tape_behind a0_tape_whole a0_tape_word f_a0_tape_bytes) fun u17_0 u17_1 u17_2 u17_3 u17_4 =>
    bnd8 (F_X3_mustBe fu a0_fault a0_place a0_tape_length u17_0 u17_1 u17_2 u17_3 u17_4 f_a0_tape_bytes 1) fun r23 u23_0 u23_1 u23_2 u23_3 u23_4 u23_5 u23_6 =>
    if r23 = 0 then
      some ((0 : Int32), a0_lawTold, u23_0, u23_1, u23_2, u23_3, u23_4, u23_5, u23_6, a0_shop_late)
    else
    bnd3 (F_X3_mustBeWhole u23_0 u23_1 u23_3 u23_4 u23_5 (0 : Int32) (99 : Int32)) fun r33 u33_0 u33_1 =>
    if r33 = 0 then
      some ((0 : Int32), a0_lawTold, u33_0, u33_1, u23_2, u23_3, u23_4, u23_5, u23_6, a0_shop_late)
    else
    bnd5 (F_X7_next fu a0_tape_length u23_2 u23_5 u23_6 f_a0_tape_bytes) fun u64_0 u64_1 u64_2 u64_3 u64_4 =>
    some ((1 : Int32), (1 : Int32), u33_0, u33_1, u64_0, u64_1, u64_2, u64_3, u64_4, u23_5)
  else
  bnd3 (F_X3_faulty a0_tape_place (3 : Int32)) fun r9 u9_0 u9_1 =>
  if ¬ (r9 = 0 ∨ r9 = 1) then none else
  some (r9, a0_lawTold, u9_0, u9_1, a0_tape_behind, a0_tape_sort, a0_tape_place, a0_tape_whole, a0_tape_word, a0_shop_late)
def F_X3_kindHere (fu : Nat) (a0_tape_behind : Int32) (a0_tape_sort : Int32) (a0_tape_place : Int32) (f_a0_tape_bytes : Nat → Int32) : Option (Int32) :=
  bnd1 (F_X7_is fu a0_tape_behind a0_tape_sort a0_tape_place f_a0_tape_bytes 9) fun r6 =>
  if r6 = 0 then
    bnd1 (F_X7_is fu a0_tape_behind a0_tape_sort a0_tape_place f_a0_tape_bytes 10) fun r20 =>
    if r20 = 0 then
      bnd1 (F_X7_is fu a0_tape_behind a0_tape_sort a0_tape_place f_a0_tape_bytes 11) fun r34 =>
      if r34 = 0 then
        bnd1 (F_X7_is fu a0_tape_behind a0_tape_sort a0_tape_place f_a0_tape_bytes 12) fun r48 =>
        if r48 = 0 then
          bnd1 (F_X7_is fu a0_tape_behind a0_tape_sort a0_tape_place f_a0_tape_bytes 13) fun r62 =>
          if r62 = 0 then
            some (-1 : Int32)
          else
            some (4 : Int32)
        else
          some (3 : Int32)
      else
        some (2 : Int32)
    else
      some (1 : Int32)
  else
    some (0 : Int32)
def F_X3_tillLine (fu : Nat) (a0_fault : Int32) (a0_place : Int32) (a0_shop_tills : Int32) (a0_shop_cashiers : Int32) (a0_tape_length : Int32) (a0_tape_behind : Int32) (a0_tape_sort : Int32) (a0_tape_place : Int32) (a0_tape_whole : Int32) (a0_tape_word : Int64) (f_a0_tape_bytes : Nat → Int32) (f_a0_tillNames : Nat → Int64) (f_a0_cashierNames : Nat → Int64) (f_a0_shop_kinds : Nat → Int32) : Option (Int32 × Int32 × Int32 × Int32 × Int32 × Int32 × Int32 × Int32 × Int64 × (Nat → Int64) × (Nat → Int32)) :=
  if a0_shop_tills < (3 : Int32) then
    bnd5 (F_X7_next fu a0_tape_length a0_tape_behind a0_tape_whole a0_tape_word f_a0_tape_bytes) fun u21_0 u21_1 u21_2 u21_3 u21_4 =>
    bnd3 (F_X3_mustBeNew fu a0_fault a0_place u21_0 u21_1 u21_2 u21_4 f_a0_tape_bytes a0_shop_tills a0_shop_cashiers f_a0_tillNames f_a0_cashierNames) fun r25 u25_0 u25_1 =>
    if r25 = 0 then
      some ((0 : Int32), u25_0, u25_1, a0_shop_tills, u21_0, u21_1, u21_2, u21_3, u21_4, f_a0_tillNames, f_a0_shop_kinds)
    else
    if a0_shop_tills < 0 ∨ 3 ≤ a0_shop_tills.toNatClampNeg then none else
    bnd5 (F_X7_next fu a0_tape_length u21_0 u21_3 u21_4 f_a0_tape_bytes) fun u56_0 u56_1 u56_2 u56_3 u56_4 =>
    bnd8 (F_X3_mustBe fu u25_0 u25_1 a0_tape_length u56_0 u56_1 u56_2 u56_3 u56_4 f_a0_tape_bytes 8) fun r62 u62_0 u62_1 u62_2 u62_3 u62_4 u62_5 u62_6 =>
    if r62 = 0 then
      some ((0 : Int32), u62_0, u62_1, a0_shop_tills, u62_2, u62_3, u62_4, u62_5, u62_6, (vp_updL f_a0_tillNames a0_shop_tills.toNatClampNeg u21_4), f_a0_shop_kinds)
    else
    bnd1 (F_X3_kindHere fu u62_2 u62_3 u62_4 f_a0_tape_bytes) fun r71 =>
    if 0 ≤ r71 then
      bnd2 (F_X5_addTill a0_shop_tills f_a0_shop_kinds r71) fun u90_0 u90_1 =>
      bnd5 (F_X7_next fu a0_tape_length u62_2 u62_5 u62_6 f_a0_tape_bytes) fun u97_0 u97_1 u97_2 u97_3 u97_4 =>
      some ((1 : Int32), u62_0, u62_1, u90_0, u97_0, u97_1, u97_2, u97_3, u97_4, (vp_updL f_a0_tillNames a0_shop_tills.toNatClampNeg u21_4), u90_1)
    else
    bnd3 (F_X3_faulty u62_4 (1 : Int32)) fun r81 u81_0 u81_1 =>
    if ¬ (r81 = 0 ∨ r81 = 1) then none else
    some (r81, u81_0, u81_1, a0_shop_tills, u62_2, u62_3, u62_4, u62_5, u62_6, (vp_updL f_a0_tillNames a0_shop_tills.toNatClampNeg u21_4), f_a0_shop_kinds)
  else
  bnd3 (F_X3_faulty a0_tape_place (5 : Int32)) fun r13 u13_0 u13_1 =>
  if ¬ (r13 = 0 ∨ r13 = 1) then none else
  some (r13, u13_0, u13_1, a0_shop_tills, a0_tape_behind, a0_tape_sort, a0_tape_place, a0_tape_whole, a0_tape_word, f_a0_tillNames, f_a0_shop_kinds)
def F_X3_line (fu : Nat) (a0_lawTold : Int32) (a0_fault : Int32) (a0_place : Int32) (a0_cashier : Int32) (a0_till : Int32) (a0_act : Int32) (a0_actWhole : Int32) (a0_tape_length : Int32) (a0_tape_behind : Int32) (a0_tape_sort : Int32) (a0_tape_place : Int32) (a0_tape_whole : Int32) (a0_tape_word : Int64) (f_a0_tape_bytes : Nat → Int32) (a0_calls_n : Int32) (a0_shop_tills : Int32) (a0_shop_cashiers : Int32) (a0_shop_late : Int32) (f_a0_cashierNames : Nat → Int64) (f_a0_calls_cashiers : Nat → Int32) (f_a0_calls_ends : Nat → Int32) (f_a0_tillNames : Nat → Int64) (f_a0_shop_kinds : Nat → Int32) (f_a0_calls_tills : Nat → Int32) (f_a0_calls_acts : Nat → Int32) (f_a0_calls_wholes : Nat → Int32) (f_a0_calls_begins : Nat → Int32) (f_a0_calls_answers : Nat → Int32) : Option (Int32 × Int32 × Int32 × Int32 × Int32 × Int32 × Int32 × Int32 × Int32 × Int32 × Int32 × Int32 × Int64 × Int32 × Int32 × Int32 × Int32 × (Nat → Int64) × (Nat → Int32) × (Nat → Int32) × (Nat → Int64) × (Nat → Int32) × (Nat → Int32) × (Nat → Int32) × (Nat → Int32) × (Nat → Int32) × (Nat → Int32)) :=
  bnd1 (F_X7_is fu a0_tape_behind a0_tape_sort a0_tape_place f_a0_tape_bytes 0) fun r6 =>
  if r6 = 0 then
    bnd1 (F_X7_is fu a0_tape_behind a0_tape_sort a0_tape_place f_a0_tape_bytes 2) fun r23 =>
    if r23 = 0 then
      bnd1 (F_X7_is fu a0_tape_behind a0_tape_sort a0_tape_place f_a0_tape_bytes 14) fun r40 =>
      if r40 = 0 then
        bnd1 (F_X7_is fu a0_tape_behind a0_tape_sort a0_tape_place f_a0_tape_bytes 15) fun r57 =>
        if r57 = 0 then
          bnd3 (F_X3_faulty a0_tape_place (1 : Int32)) fun r70 u70_0 u70_1 =>
          if ¬ (r70 = 0 ∨ r70 = 1) then none else
          some (r70, a0_lawTold, u70_0, u70_1, a0_cashier, a0_till, a0_act, a0_actWhole, a0_tape_behind, a0_tape_sort, a0_tape_place, a0_tape_whole, a0_tape_word, a0_calls_n, a0_shop_tills, a0_shop_cashiers, a0_shop_late, f_a0_cashierNames, f_a0_calls_cashiers, f_a0_calls_ends, f_a0_tillNames, f_a0_shop_kinds, f_a0_calls_tills, f_a0_calls_acts, f_a0_calls_wholes, f_a0_calls_begins, f_a0_calls_answers)
        else
        bnd20 (F_X3_callLine fu a0_fault a0_place a0_cashier a0_till a0_act a0_actWhole a0_calls_n a0_tape_length a0_tape_behind a0_tape_sort a0_tape_place a0_tape_whole a0_tape_word f_a0_tape_bytes a0_shop_tills a0_shop_cashiers f_a0_cashierNames f_a0_calls_cashiers f_a0_calls_ends f_a0_tillNames f_a0_shop_kinds f_a0_calls_tills f_a0_calls_acts f_a0_calls_wholes f_a0_calls_begins f_a0_calls_answers) fun r64 u64_0 u64_1 u64_2 u64_3 u64_4 u64_5 u64_6 u64_7 u64_8 u64_9 u64_10 u64_11 u64_12 u64_13 u64_14 u64_15 u64_16 u64_17 u64_18 =>
        if ¬ (r64 = 0 ∨ r64 = 1) then none else
        some (r64, a0_lawTold, u64_0, u64_1, u64_2, u64_3, u64_4, u64_5, u64_7, u64_8, u64_9, u64_10, u64_11, u64_6, a0_shop_tills, a0_shop_cashiers, a0_shop_late, f_a0_cashierNames, u64_12, u64_13, f_a0_tillNames, f_a0_shop_kinds, u64_14, u64_15, u64_16, u64_17, u64_18)
      else
      bnd10 (F_X3_cashierLine fu a0_fault a0_place a0_tape_length a0_tape_behind a0_tape_sort a0_tape_place a0_tape_whole a0_tape_word f_a0_tape_bytes a0_shop_tills a0_shop_cashiers f_a0_tillNames f_a0_cashierNames) fun r47 u47_0 u47_1 u47_2 u47_3 u47_4 u47_5 u47_6 u47_7 u47_8 =>
      if ¬ (r47 = 0 ∨ r47 = 1) then none else
      some (r47, a0_lawTold, u47_0, u47_1, a0_cashier, a0_till, a0_act, a0_actWhole, u47_2, u47_3, u47_4, u47_5, u47_6, a0_calls_n, a0_shop_tills, u47_7, a0_shop_late, u47_8, f_a0_calls_cashiers, f_a0_calls_ends, f_a0_tillNames, f_a0_shop_kinds, f_a0_calls_tills, f_a0_calls_acts, f_a0_calls_wholes, f_a0_calls_begins, f_a0_calls_answers)
    else
    bnd11 (F_X3_tillLine fu a0_fault a0_place a0_shop_tills a0_shop_cashiers a0_tape_length a0_tape_behind a0_tape_sort a0_tape_place a0_tape_whole a0_tape_word f_a0_tape_bytes f_a0_tillNames f_a0_cashierNames f_a0_shop_kinds) fun r30 u30_0 u30_1 u30_2 u30_3 u30_4 u30_5 u30_6 u30_7 u30_8 u30_9 =>
    if ¬ (r30 = 0 ∨ r30 = 1) then none else
    some (r30, a0_lawTold, u30_0, u30_1, a0_cashier, a0_till, a0_act, a0_actWhole, u30_3, u30_4, u30_5, u30_6, u30_7, a0_calls_n, u30_2, a0_shop_cashiers, a0_shop_late, f_a0_cashierNames, f_a0_calls_cashiers, f_a0_calls_ends, u30_8, u30_9, f_a0_calls_tills, f_a0_calls_acts, f_a0_calls_wholes, f_a0_calls_begins, f_a0_calls_answers)
  else
  bnd10 (F_X3_lawLine fu a0_lawTold a0_fault a0_place a0_tape_length a0_tape_behind a0_tape_sort a0_tape_place a0_tape_whole a0_tape_word f_a0_tape_bytes a0_shop_late) fun r13 u13_0 u13_1 u13_2 u13_3 u13_4 u13_5 u13_6 u13_7 u13_8 =>
  if ¬ (r13 = 0 ∨ r13 = 1) then none else
  some (r13, u13_0, u13_1, u13_2, a0_cashier, a0_till, a0_act, a0_actWhole, u13_3, u13_4, u13_5, u13_6, u13_7, a0_calls_n, a0_shop_tills, a0_shop_cashiers, u13_8, f_a0_cashierNames, f_a0_calls_cashiers, f_a0_calls_ends, f_a0_tillNames, f_a0_shop_kinds, f_a0_calls_tills, f_a0_calls_acts, f_a0_calls_wholes, f_a0_calls_begins, f_a0_calls_answers)
def F_X3_mayEnd_b43  (a0_tape_place : Int32) (a0_shop_told : Int32) : Option (Int32 × Int32 × Int32 × Int32) :=
  bnd3 (F_X3_faulty a0_tape_place (6 : Int32)) fun r46 u46_0 u46_1 =>
  if ¬ (r46 = 0 ∨ r46 = 1) then none else
  some (r46, u46_0, u46_1, a0_shop_told)
def F_X3_mayEnd (a0_lawTold : Int32) (a0_fault : Int32) (a0_place : Int32) (a0_tape_sort : Int32) (a0_tape_place : Int32) (a0_shop_told : Int32) (a0_shop_tills : Int32) (a0_shop_cashiers : Int32) : Option (Int32 × Int32 × Int32 × Int32) :=
  if a0_tape_sort = 0 then
    if a0_lawTold = 0 then
      F_X3_mayEnd_b43 a0_tape_place a0_shop_told
    else
    if a0_shop_tills = 0 then
      F_X3_mayEnd_b43 a0_tape_place a0_shop_told
    else
    if a0_shop_cashiers = 0 then
      F_X3_mayEnd_b43 a0_tape_place a0_shop_told
    else
      some ((1 : Int32), a0_fault, a0_place, (1 : Int32))
  else
  bnd3 (F_X3_faulty a0_tape_place (1 : Int32)) fun r12 u12_0 u12_1 =>
  if ¬ (r12 = 0 ∨ r12 = 1) then none else
  some (r12, u12_0, u12_1, a0_shop_told)
def F_X3_read_b39  (fu : Nat) (a0_shop_told : Int32) (a0_tape_length : Int32) (a0_tape_fed : Int32) (f_a0_tape_bytes : Nat → Int32) (v1 : Int32) : Nat → Int32 → Int32 → Int32 → Int32 → Int32 → Int32 → Int32 → Int32 → Int32 → Int32 → Int32 → Int32 → Int32 → Int32 → Int32 → Int64 → (Nat → Int64) → (Nat → Int32) → (Nat → Int32) → (Nat → Int64) → (Nat → Int32) → (Nat → Int32) → (Nat → Int32) → (Nat → Int32) → (Nat → Int32) → (Nat → Int32) → Int32 → Option (Int32 × Int32 × Int32 × Int32 × Int32 × Int32 × Int32 × Int32 × Int32 × Int32 × Int32 × Int32 × Int32 × Int32 × Int32 × Int32 × Int32 × Int32 × Int32 × Int64 × (Nat → Int64) × (Nat → Int32) × (Nat → Int32) × (Nat → Int64) × (Nat → Int32) × (Nat → Int32) × (Nat → Int32) × (Nat → Int32) × (Nat → Int32) × (Nat → Int32))
  | 0, _, _, _, _, _, _, _, _, _, _, _, _, _, _, _, _, _, _, _, _, _, _, _, _, _, _, _ => none
  | kf + 1, a0_lawTold, a0_fault, a0_place, a0_cashier, a0_till, a0_act, a0_actWhole, a0_shop_tills, a0_shop_cashiers, a0_shop_late, a0_calls_n, a0_tape_behind, a0_tape_sort, a0_tape_place, a0_tape_whole, a0_tape_word, f_a0_cashierNames, f_a0_calls_cashiers, f_a0_calls_ends, f_a0_tillNames, f_a0_shop_kinds, f_a0_calls_tills, f_a0_calls_acts, f_a0_calls_wholes, f_a0_calls_begins, f_a0_calls_answers, v2 =>
    if v1 < v2 then
      bnd3 (F_X3_faulty a0_tape_place (1 : Int32)) fun r84 u84_0 u84_1 =>
      if ¬ (r84 = 0 ∨ r84 = 1) then none else
      some (r84, a0_lawTold, u84_0, u84_1, a0_cashier, a0_till, a0_act, a0_actWhole, a0_shop_told, a0_shop_tills, a0_shop_cashiers, a0_shop_late, a0_calls_n, a0_tape_length, a0_tape_behind, a0_tape_fed, a0_tape_sort, a0_tape_place, a0_tape_whole, a0_tape_word, f_a0_cashierNames, f_a0_calls_cashiers, f_a0_calls_ends, f_a0_tillNames, f_a0_shop_kinds, f_a0_calls_tills, f_a0_calls_acts, f_a0_calls_wholes, f_a0_calls_begins, f_a0_calls_answers)
    else
    bnd27 (F_X3_line fu a0_lawTold a0_fault a0_place a0_cashier a0_till a0_act a0_actWhole a0_tape_length a0_tape_behind a0_tape_sort a0_tape_place a0_tape_whole a0_tape_word f_a0_tape_bytes a0_calls_n a0_shop_tills a0_shop_cashiers a0_shop_late f_a0_cashierNames f_a0_calls_cashiers f_a0_calls_ends f_a0_tillNames f_a0_shop_kinds f_a0_calls_tills f_a0_calls_acts f_a0_calls_wholes f_a0_calls_begins f_a0_calls_answers) fun r45 u45_0 u45_1 u45_2 u45_3 u45_4 u45_5 u45_6 u45_7 u45_8 u45_9 u45_10 u45_11 u45_12 u45_13 u45_14 u45_15 u45_16 u45_17 u45_18 u45_19 u45_20 u45_21 u45_22 u45_23 u45_24 u45_25 =>
    if r45 = 0 then
      some ((0 : Int32), u45_0, u45_1, u45_2, u45_3, u45_4, u45_5, u45_6, a0_shop_told, u45_13, u45_14, u45_15, u45_12, a0_tape_length, u45_7, a0_tape_fed, u45_8, u45_9, u45_10, u45_11, u45_16, u45_17, u45_18, u45_19, u45_20, u45_21, u45_22, u45_23, u45_24, u45_25)
    else
    if u45_8 = (3 : Int32) then
      bnd5 (F_X7_next fu a0_tape_length u45_7 u45_10 u45_11 f_a0_tape_bytes) fun u73_0 u73_1 u73_2 u73_3 u73_4 =>
      (F_X3_read_b39 fu a0_shop_told a0_tape_length a0_tape_fed f_a0_tape_bytes v1 kf) u45_0 u45_1 u45_2 u45_3 u45_4 u45_5 u45_6 u45_13 u45_14 u45_15 u45_12 u73_0 u73_1 u73_2 u73_3 u73_4 u45_16 u45_17 u45_18 u45_19 u45_20 u45_21 u45_22 u45_23 u45_24 u45_25 ((v2 + (1 : Int32)))
    else
    bnd4 (F_X3_mayEnd u45_0 u45_1 u45_2 u45_8 u45_9 a0_shop_told u45_13 u45_14) fun r65 u65_0 u65_1 u65_2 =>
    if ¬ (r65 = 0 ∨ r65 = 1) then none else
    some (r65, u45_0, u65_0, u65_1, u45_3, u45_4, u45_5, u45_6, u65_2, u45_13, u45_14, u45_15, u45_12, a0_tape_length, u45_7, a0_tape_fed, u45_8, u45_9, u45_10, u45_11, u45_16, u45_17, u45_18, u45_19, u45_20, u45_21, u45_22, u45_23, u45_24, u45_25)
def F_X3_read (fu : Nat) (a0_cashier : Int32) (a0_till : Int32) (a0_act : Int32) (a0_actWhole : Int32) (a0_tape_fed : Int32) (a0_tape_whole : Int32) (a0_tape_word : Int64) (f_a0_tape_bytes : Nat → Int32) (f_a0_cashierNames : Nat → Int64) (f_a0_calls_cashiers : Nat → Int32) (f_a0_calls_ends : Nat → Int32) (f_a0_tillNames : Nat → Int64) (f_a0_shop_kinds : Nat → Int32) (f_a0_calls_tills : Nat → Int32) (f_a0_calls_acts : Nat → Int32) (f_a0_calls_wholes : Nat → Int32) (f_a0_calls_begins : Nat → Int32) (f_a0_calls_answers : Nat → Int32) (v1 : Int32) : Option (Int32 × Int32 × Int32 × Int32 × Int32 × Int32 × Int32 × Int32 × Int32 × Int32 × Int32 × Int32 × Int32 × Int32 × Int32 × Int32 × Int32 × Int32 × Int32 × Int64 × (Nat → Int64) × (Nat → Int32) × (Nat → Int32) × (Nat → Int64) × (Nat → Int32) × (Nat → Int32) × (Nat → Int32) × (Nat → Int32) × (Nat → Int32) × (Nat → Int32)) :=
  bnd4 (F_X5_clear) fun u4_0 u4_1 u4_2 u4_3 =>
  bnd1 (F_X0_clear) fun u11_0 =>
  bnd7 (F_X7_beginText fu a0_tape_fed a0_tape_whole a0_tape_word f_a0_tape_bytes v1) fun u34_0 u34_1 u34_2 u34_3 u34_4 u34_5 u34_6 =>
  F_X3_read_b39 fu u4_0 u34_0 u34_2 f_a0_tape_bytes v1 fu (0 : Int32) (0 : Int32) (-1 : Int32) a0_cashier a0_till a0_act a0_actWhole u4_1 u4_2 u4_3 u11_0 u34_1 u34_3 u34_4 u34_5 u34_6 f_a0_cashierNames f_a0_calls_cashiers f_a0_calls_ends f_a0_tillNames f_a0_shop_kinds f_a0_calls_tills f_a0_calls_acts f_a0_calls_wholes f_a0_calls_begins f_a0_calls_answers (0 : Int32)
def F_X9_feed (fu : Nat) (a0_reader_tape_fed : Int32) (f_a0_reader_tape_bytes : Nat → Int32) (v1 : Int32) (v2 : Int32) (v3 : Int32) (v4 : Int32) (v5 : Int32) : Option (Int32 × Int32 × (Nat → Int32)) :=
  bnd1 (F_X7_hasRoom a0_reader_tape_fed (20 : Int32)) fun r13 =>
  if r13 = 0 then
    some ((-1 : Int32), a0_reader_tape_fed, f_a0_reader_tape_bytes)
  else
  bnd2 (F_X7_addFour fu a0_reader_tape_fed f_a0_reader_tape_bytes v1) fun u24_0 u24_1 =>
  bnd2 (F_X7_addFour fu u24_0 u24_1 v2) fun u30_0 u30_1 =>
  bnd2 (F_X7_addFour fu u30_0 u30_1 v3) fun u36_0 u36_1 =>
  bnd2 (F_X7_addFour fu u36_0 u36_1 v4) fun u43_0 u43_1 =>
  bnd2 (F_X7_addFour fu u43_0 u43_1 v5) fun u50_0 u50_1 =>
  some (u50_0, u50_0, u50_1)
def F_X9_refused (v1 : Int32) : Option (Int32 × Int32) :=
  some ((-1 : Int32), v1)
def F_X9_answered (v1 : Int32) : Option (Int32 × Int32) :=
  if v1 = (-10 : Int32) then
    bnd2 (F_X9_refused (3 : Int32)) fun r8 u8_0 =>
    some (r8, u8_0)
  else
  if v1 = (-11 : Int32) then
    bnd2 (F_X9_refused (6 : Int32)) fun r21 u21_0 =>
    some (r21, u21_0)
  else
    some (v1, (0 : Int32))
def F_X9_book_b18  (a0_markCount : Int32) (a0_seedNow : Int32) (a0_reader_lawTold : Int32) (a0_reader_fault : Int32) (a0_reader_place : Int32) (a0_reader_cashier : Int32) (a0_reader_till : Int32) (a0_reader_act : Int32) (a0_reader_actWhole : Int32) (a0_reader_tape_length : Int32) (a0_reader_tape_behind : Int32) (a0_reader_tape_fed : Int32) (a0_reader_tape_sort : Int32) (a0_reader_tape_place : Int32) (a0_reader_tape_whole : Int32) (a0_reader_tape_word : Int64) (a0_reader_shop_told : Int32) (a0_reader_shop_tills : Int32) (a0_reader_shop_cashiers : Int32) (a0_reader_shop_late : Int32) (a0_reader_calls_n : Int32) (f_a0_reader_cashierNames : Nat → Int64) (f_a0_reader_calls_cashiers : Nat → Int32) (f_a0_reader_calls_ends : Nat → Int32) (f_a0_reader_tillNames : Nat → Int64) (f_a0_reader_shop_kinds : Nat → Int32) (f_a0_reader_calls_tills : Nat → Int32) (f_a0_reader_calls_acts : Nat → Int32) (f_a0_reader_calls_wholes : Nat → Int32) (f_a0_reader_calls_begins : Nat → Int32) (f_a0_reader_calls_answers : Nat → Int32) (a0_shop_told : Int32) (a0_shop_tills : Int32) (a0_shop_cashiers : Int32) (a0_shop_late : Int32) (f_a0_shop_kinds : Nat → Int32) (a0_calls_n : Int32) (f_a0_calls_cashiers : Nat → Int32) (f_a0_calls_tills : Nat → Int32) (f_a0_calls_acts : Nat → Int32) (f_a0_calls_wholes : Nat → Int32) (f_a0_calls_begins : Nat → Int32) (f_a0_calls_ends : Nat → Int32) (f_a0_calls_answers : Nat → Int32) : Option (Int32 × Int32 × Int32 × Int32 × Int32 × Int32 × Int32 × Int32 × Int32 × Int32 × Int32 × Int32 × Int32 × Int32 × Int32 × Int32 × Int32 × Int64 × Int32 × Int32 × Int32 × Int32 × Int32 × (Nat → Int64) × (Nat → Int32) × (Nat → Int32) × (Nat → Int64) × (Nat → Int32) × (Nat → Int32) × (Nat → Int32) × (Nat → Int32) × (Nat → Int32) × (Nat → Int32) × Int32 × Int32 × Int32 × Int32 × (Nat → Int32) × Int32 × (Nat → Int32) × (Nat → Int32) × (Nat → Int32) × (Nat → Int32) × (Nat → Int32) × (Nat → Int32) × (Nat → Int32)) :=
  bnd2 (F_X9_refused (2 : Int32)) fun r20 u20_0 =>
  some (r20, a0_markCount, a0_seedNow, u20_0, a0_reader_lawTold, a0_reader_fault, a0_reader_place, a0_reader_cashier, a0_reader_till, a0_reader_act, a0_reader_actWhole, a0_reader_tape_length, a0_reader_tape_behind, a0_reader_tape_fed, a0_reader_tape_sort, a0_reader_tape_place, a0_reader_tape_whole, a0_reader_tape_word, a0_reader_shop_told, a0_reader_shop_tills, a0_reader_shop_cashiers, a0_reader_shop_late, a0_reader_calls_n, f_a0_reader_cashierNames, f_a0_reader_calls_cashiers, f_a0_reader_calls_ends, f_a0_reader_tillNames, f_a0_reader_shop_kinds, f_a0_reader_calls_tills, f_a0_reader_calls_acts, f_a0_reader_calls_wholes, f_a0_reader_calls_begins, f_a0_reader_calls_answers, a0_shop_told, a0_shop_tills, a0_shop_cashiers, a0_shop_late, f_a0_shop_kinds, a0_calls_n, f_a0_calls_cashiers, f_a0_calls_tills, f_a0_calls_acts, f_a0_calls_wholes, f_a0_calls_begins, f_a0_calls_ends, f_a0_calls_answers)
def F_X9_book (fu : Nat) (a0_markCount : Int32) (a0_seedNow : Int32) (a0_reader_lawTold : Int32) (a0_reader_fault : Int32) (a0_reader_place : Int32) (a0_reader_cashier : Int32) (a0_reader_till : Int32) (a0_reader_act : Int32) (a0_reader_actWhole : Int32) (a0_reader_tape_length : Int32) (a0_reader_tape_behind : Int32) (a0_reader_tape_fed : Int32) (a0_reader_tape_sort : Int32) (a0_reader_tape_place : Int32) (a0_reader_tape_whole : Int32) (a0_reader_tape_word : Int64) (a0_reader_shop_told : Int32) (a0_reader_shop_tills : Int32) (a0_reader_shop_cashiers : Int32) (a0_reader_shop_late : Int32) (a0_reader_calls_n : Int32) (f_a0_reader_tape_bytes : Nat → Int32) (f_a0_reader_cashierNames : Nat → Int64) (f_a0_reader_calls_cashiers : Nat → Int32) (f_a0_reader_calls_ends : Nat → Int32) (f_a0_reader_tillNames : Nat → Int64) (f_a0_reader_shop_kinds : Nat → Int32) (f_a0_reader_calls_tills : Nat → Int32) (f_a0_reader_calls_acts : Nat → Int32) (f_a0_reader_calls_wholes : Nat → Int32) (f_a0_reader_calls_begins : Nat → Int32) (f_a0_reader_calls_answers : Nat → Int32) (a0_shop_told : Int32) (a0_shop_tills : Int32) (a0_shop_cashiers : Int32) (a0_shop_late : Int32) (f_a0_shop_kinds : Nat → Int32) (a0_calls_n : Int32) (f_a0_calls_cashiers : Nat → Int32) (f_a0_calls_tills : Nat → Int32) (f_a0_calls_acts : Nat → Int32) (f_a0_calls_wholes : Nat → Int32) (f_a0_calls_begins : Nat → Int32) (f_a0_calls_ends : Nat → Int32) (f_a0_calls_answers : Nat → Int32) (v1 : Int32) : Option (Int32 × Int32 × Int32 × Int32 × Int32 × Int32 × Int32 × Int32 × Int32 × Int32 × Int32 × Int32 × Int32 × Int32 × Int32 × Int32 × Int32 × Int64 × Int32 × Int32 × Int32 × Int32 × Int32 × (Nat → Int64) × (Nat → Int32) × (Nat → Int32) × (Nat → Int64) × (Nat → Int32) × (Nat → Int32) × (Nat → Int32) × (Nat → Int32) × (Nat → Int32) × (Nat → Int32) × Int32 × Int32 × Int32 × Int32 × (Nat → Int32) × Int32 × (Nat → Int32) × (Nat → Int32) × (Nat → Int32) × (Nat → Int32) × (Nat → Int32) × (Nat → Int32) × (Nat → Int32)) :=
  if v1 < 0 then
    F_X9_book_b18 a0_markCount a0_seedNow a0_reader_lawTold a0_reader_fault a0_reader_place a0_reader_cashier a0_reader_till a0_reader_act a0_reader_actWhole a0_reader_tape_length a0_reader_tape_behind a0_reader_tape_fed a0_reader_tape_sort a0_reader_tape_place a0_reader_tape_whole a0_reader_tape_word a0_reader_shop_told a0_reader_shop_tills a0_reader_shop_cashiers a0_reader_shop_late a0_reader_calls_n f_a0_reader_cashierNames f_a0_reader_calls_cashiers f_a0_reader_calls_ends f_a0_reader_tillNames f_a0_reader_shop_kinds f_a0_reader_calls_tills f_a0_reader_calls_acts f_a0_reader_calls_wholes f_a0_reader_calls_begins f_a0_reader_calls_answers a0_shop_told a0_shop_tills a0_shop_cashiers a0_shop_late f_a0_shop_kinds a0_calls_n f_a0_calls_cashiers f_a0_calls_tills f_a0_calls_acts f_a0_calls_wholes f_a0_calls_begins f_a0_calls_ends f_a0_calls_answers
  else
  if v1 ≤ a0_reader_tape_fed then
    bnd30 (F_X3_read fu a0_reader_cashier a0_reader_till a0_reader_act a0_reader_actWhole a0_reader_tape_fed a0_reader_tape_whole a0_reader_tape_word f_a0_reader_tape_bytes f_a0_reader_cashierNames f_a0_reader_calls_cashiers f_a0_reader_calls_ends f_a0_reader_tillNames f_a0_reader_shop_kinds f_a0_reader_calls_tills f_a0_reader_calls_acts f_a0_reader_calls_wholes f_a0_reader_calls_begins f_a0_reader_calls_answers v1) fun r29 u29_0 u29_1 u29_2 u29_3 u29_4 u29_5 u29_6 u29_7 u29_8 u29_9 u29_10 u29_11 u29_12 u29_13 u29_14 u29_15 u29_16 u29_17 u29_18 u29_19 u29_20 u29_21 u29_22 u29_23 u29_24 u29_25 u29_26 u29_27 u29_28 =>
    if r29 = 0 then
      bnd2 (F_X9_refused (4 : Int32)) fun r37 u37_0 =>
      some (r37, a0_markCount, a0_seedNow, u37_0, u29_0, u29_1, u29_2, u29_3, u29_4, u29_5, u29_6, u29_12, u29_13, u29_14, u29_15, u29_16, u29_17, u29_18, u29_7, u29_8, u29_9, u29_10, u29_11, u29_19, u29_20, u29_21, u29_22, u29_23, u29_24, u29_25, u29_26, u29_27, u29_28, a0_shop_told, a0_shop_tills, a0_shop_cashiers, a0_shop_late, f_a0_shop_kinds, a0_calls_n, f_a0_calls_cashiers, f_a0_calls_tills, f_a0_calls_acts, f_a0_calls_wholes, f_a0_calls_begins, f_a0_calls_ends, f_a0_calls_answers)
    else
    bnd5 (F_X5_takeOver u29_7 u29_8 u29_9 u29_10 u29_23 f_a0_shop_kinds) fun u52_0 u52_1 u52_2 u52_3 u52_4 =>
    bnd8 (F_X0_takeOver u29_11 u29_20 f_a0_calls_cashiers u29_24 f_a0_calls_tills u29_25 f_a0_calls_acts u29_26 f_a0_calls_wholes u29_27 f_a0_calls_begins u29_21 f_a0_calls_ends u29_28 f_a0_calls_answers) fun u66_0 u66_1 u66_2 u66_3 u66_4 u66_5 u66_6 u66_7 =>
    bnd2 (F_X9_answered u66_0) fun r87 u87_0 =>
    some (r87, (0 : Int32), (0 : Int32), u87_0, u29_0, u29_1, u29_2, u29_3, u29_4, u29_5, u29_6, u29_12, u29_13, u29_14, u29_15, u29_16, u29_17, u29_18, u29_7, u29_8, u29_9, u29_10, u29_11, u29_19, u29_20, u29_21, u29_22, u29_23, u29_24, u29_25, u29_26, u29_27, u29_28, u52_0, u52_1, u52_2, u52_3, u52_4, u66_0, u66_1, u66_2, u66_3, u66_4, u66_5, u66_6, u66_7)
  else
    F_X9_book_b18 a0_markCount a0_seedNow a0_reader_lawTold a0_reader_fault a0_reader_place a0_reader_cashier a0_reader_till a0_reader_act a0_reader_actWhole a0_reader_tape_length a0_reader_tape_behind a0_reader_tape_fed a0_reader_tape_sort a0_reader_tape_place a0_reader_tape_whole a0_reader_tape_word a0_reader_shop_told a0_reader_shop_tills a0_reader_shop_cashiers a0_reader_shop_late a0_reader_calls_n f_a0_reader_cashierNames f_a0_reader_calls_cashiers f_a0_reader_calls_ends f_a0_reader_tillNames f_a0_reader_shop_kinds f_a0_reader_calls_tills f_a0_reader_calls_acts f_a0_reader_calls_wholes f_a0_reader_calls_begins f_a0_reader_calls_answers a0_shop_told a0_shop_tills a0_shop_cashiers a0_shop_late f_a0_shop_kinds a0_calls_n f_a0_calls_cashiers f_a0_calls_tills f_a0_calls_acts f_a0_calls_wholes f_a0_calls_begins f_a0_calls_ends f_a0_calls_answers
def F_X9_fault (a0_reader_fault : Int32) : Option (Int32) :=
  some a0_reader_fault
def F_X9_where (a0_lastTrouble : Int32) (a0_reader_place : Int32) : Option (Int32) :=
  if a0_lastTrouble = (4 : Int32) then
    some a0_reader_place
  else
    some (-1 : Int32)
def F_X9_hasKind (a0_shop_told : Int32) (v1 : Int32) (v2 : Int32) : Option (Int32) :=
  if a0_shop_told = 0 then
    some (0 : Int32)
  else
  if v1 < 0 then
    some (0 : Int32)
  else
  if v2 < v1 then
    some (0 : Int32)
  else
    some (1 : Int32)
def F_X9_can_b51  (a0_judge_stands_calls : Nat) (a0_judge_rules_there : Int32) (a0_judge_rules_must : Int32) (a0_judge_rules_strict : Int32) (a0_judge_rules_timed : Int32) (f_a0_judge_rules_own : Nat → Int32) (f_a0_judge_rules_ahead : Nat → Int32) (a0_judge_stands_base : Int32) (a0_judge_stands_count : Int32) (f_a0_judge_stands_table : Nat → Int32) (f_a0_judge_stands_done : Nat → Int32) (f_a0_judge_stands_tills : Nat → Int32) (f_a0_judge_stands_leads : Nat → Int32) (f_a0_judge_stands_ways : Nat → Int64) (t0 : Int32) : Option (Int32 × Int32 × Int32 × Int32 × Int32 × Int32 × (Nat → Int32) × (Nat → Int32) × Nat × Int32 × Int32 × (Nat → Int32) × (Nat → Int32) × (Nat → Int32) × (Nat → Int32) × (Nat → Int64)) :=
  bnd2 (F_X9_answered t0) fun r51 u51_0 =>
  some (r51, u51_0, a0_judge_rules_there, a0_judge_rules_must, a0_judge_rules_strict, a0_judge_rules_timed, f_a0_judge_rules_own, f_a0_judge_rules_ahead, a0_judge_stands_calls, a0_judge_stands_base, a0_judge_stands_count, f_a0_judge_stands_table, f_a0_judge_stands_done, f_a0_judge_stands_tills, f_a0_judge_stands_leads, f_a0_judge_stands_ways)
def F_X9_can (fu : Nat) (a0_calls : Nat) (a0_judge_stands_calls : Nat) (a0_shop_told : Int32) (a0_shop_tills : Int32) (a0_shop_late : Int32) (a0_calls_n : Int32) (f_a0_calls_ends : Nat → Int32) (a0_judge_rules_there : Int32) (a0_judge_rules_must : Int32) (a0_judge_rules_strict : Int32) (a0_judge_rules_timed : Int32) (f_a0_judge_rules_own : Nat → Int32) (f_a0_calls_cashiers : Nat → Int32) (f_a0_calls_begins : Nat → Int32) (f_a0_judge_rules_ahead : Nat → Int32) (a0_judge_stands_base : Int32) (a0_judge_stands_count : Int32) (f_a0_judge_stands_table : Nat → Int32) (f_a0_judge_stands_done : Nat → Int32) (f_a0_judge_stands_tills : Nat → Int32) (f_a0_shop_kinds : Nat → Int32) (f_a0_calls_tills : Nat → Int32) (f_a0_calls_acts : Nat → Int32) (f_a0_calls_wholes : Nat → Int32) (f_a0_calls_answers : Nat → Int32) (f_a0_judge_stands_leads : Nat → Int32) (f_a0_judge_stands_ways : Nat → Int64) (v1 : Int32) : Option (Int32 × Int32 × Int32 × Int32 × Int32 × Int32 × (Nat → Int32) × (Nat → Int32) × Nat × Int32 × Int32 × (Nat → Int32) × (Nat → Int32) × (Nat → Int32) × (Nat → Int32) × (Nat → Int64)) :=
  bnd1 (F_X9_hasKind a0_shop_told v1 (3 : Int32)) fun r3 =>
  if r3 = 0 then
    bnd2 (F_X9_refused (1 : Int32)) fun r11 u11_0 =>
    some (r11, u11_0, a0_judge_rules_there, a0_judge_rules_must, a0_judge_rules_strict, a0_judge_rules_timed, f_a0_judge_rules_own, f_a0_judge_rules_ahead, a0_judge_stands_calls, a0_judge_stands_base, a0_judge_stands_count, f_a0_judge_stands_table, f_a0_judge_stands_done, f_a0_judge_stands_tills, f_a0_judge_stands_leads, f_a0_judge_stands_ways)
  else
  bnd15 (F_X1_countOrders fu a0_calls a0_judge_stands_calls a0_calls_n f_a0_calls_ends a0_judge_rules_there a0_judge_rules_must a0_judge_rules_strict a0_judge_rules_timed a0_shop_tills a0_shop_late f_a0_judge_rules_own f_a0_calls_cashiers f_a0_calls_begins f_a0_judge_rules_ahead a0_judge_stands_base a0_judge_stands_count f_a0_judge_stands_table f_a0_judge_stands_done f_a0_judge_stands_tills f_a0_shop_kinds f_a0_calls_tills f_a0_calls_acts f_a0_calls_wholes f_a0_calls_answers f_a0_judge_stands_leads f_a0_judge_stands_ways v1) fun r24 u24_0 u24_1 u24_2 u24_3 u24_4 u24_5 u24_6 u24_7 u24_8 u24_9 u24_10 u24_11 u24_12 u24_13 =>
  if 0 ≤ (lg_cmp r24 (0 : Int64)) then
    if (lg_cmp r24 (0 : Int64)) ≤ 0 then
      F_X9_can_b51 u24_6 u24_0 u24_1 u24_2 u24_3 u24_4 u24_5 u24_7 u24_8 u24_9 u24_10 u24_11 u24_12 u24_13 (0 : Int32)
    else
      F_X9_can_b51 u24_6 u24_0 u24_1 u24_2 u24_3 u24_4 u24_5 u24_7 u24_8 u24_9 u24_10 u24_11 u24_12 u24_13 (1 : Int32)
  else
    F_X9_can_b51 u24_6 u24_0 u24_1 u24_2 u24_3 u24_4 u24_5 u24_7 u24_8 u24_9 u24_10 u24_11 u24_12 u24_13 (-10 : Int32)
def F_X9_orders (fu : Nat) (a0_calls : Nat) (a0_judge_stands_calls : Nat) (a0_shop_told : Int32) (a0_shop_tills : Int32) (a0_shop_late : Int32) (a0_calls_n : Int32) (f_a0_calls_ends : Nat → Int32) (a0_judge_rules_there : Int32) (a0_judge_rules_must : Int32) (a0_judge_rules_strict : Int32) (a0_judge_rules_timed : Int32) (f_a0_judge_rules_own : Nat → Int32) (f_a0_calls_cashiers : Nat → Int32) (f_a0_calls_begins : Nat → Int32) (f_a0_judge_rules_ahead : Nat → Int32) (a0_judge_stands_base : Int32) (a0_judge_stands_count : Int32) (f_a0_judge_stands_table : Nat → Int32) (f_a0_judge_stands_done : Nat → Int32) (f_a0_judge_stands_tills : Nat → Int32) (f_a0_shop_kinds : Nat → Int32) (f_a0_calls_tills : Nat → Int32) (f_a0_calls_acts : Nat → Int32) (f_a0_calls_wholes : Nat → Int32) (f_a0_calls_answers : Nat → Int32) (f_a0_judge_stands_leads : Nat → Int32) (f_a0_judge_stands_ways : Nat → Int64) (v1 : Int32) : Option (Int64 × Int32 × Int32 × Int32 × Int32 × Int32 × (Nat → Int32) × (Nat → Int32) × Nat × Int32 × Int32 × (Nat → Int32) × (Nat → Int32) × (Nat → Int32) × (Nat → Int32) × (Nat → Int64)) :=
  bnd1 (F_X9_hasKind a0_shop_told v1 (3 : Int32)) fun r3 =>
  if r3 = 0 then
    bnd2 (F_X9_refused (1 : Int32)) fun r11 u11_0 =>
    some (r11.toInt64, u11_0, a0_judge_rules_there, a0_judge_rules_must, a0_judge_rules_strict, a0_judge_rules_timed, f_a0_judge_rules_own, f_a0_judge_rules_ahead, a0_judge_stands_calls, a0_judge_stands_base, a0_judge_stands_count, f_a0_judge_stands_table, f_a0_judge_stands_done, f_a0_judge_stands_tills, f_a0_judge_stands_leads, f_a0_judge_stands_ways)
  else
  bnd15 (F_X1_countOrders fu a0_calls a0_judge_stands_calls a0_calls_n f_a0_calls_ends a0_judge_rules_there a0_judge_rules_must a0_judge_rules_strict a0_judge_rules_timed a0_shop_tills a0_shop_late f_a0_judge_rules_own f_a0_calls_cashiers f_a0_calls_begins f_a0_judge_rules_ahead a0_judge_stands_base a0_judge_stands_count f_a0_judge_stands_table f_a0_judge_stands_done f_a0_judge_stands_tills f_a0_shop_kinds f_a0_calls_tills f_a0_calls_acts f_a0_calls_wholes f_a0_calls_answers f_a0_judge_stands_leads f_a0_judge_stands_ways v1) fun r25 u25_0 u25_1 u25_2 u25_3 u25_4 u25_5 u25_6 u25_7 u25_8 u25_9 u25_10 u25_11 u25_12 u25_13 =>
  if 0 ≤ (lg_cmp r25 (0 : Int64)) then
    some (r25, (0 : Int32), u25_0, u25_1, u25_2, u25_3, u25_4, u25_5, u25_6, u25_7, u25_8, u25_9, u25_10, u25_11, u25_12, u25_13)
  else
  bnd2 (F_X9_refused (3 : Int32)) fun r37 u37_0 =>
  some (r37.toInt64, u37_0, u25_0, u25_1, u25_2, u25_3, u25_4, u25_5, u25_6, u25_7, u25_8, u25_9, u25_10, u25_11, u25_12, u25_13)
def F_X9_size (fu : Nat) (a0_calls : Nat) (a0_judge_stands_calls : Nat) (a0_shop_told : Int32) (a0_shop_late : Int32) (a0_calls_n : Int32) (f_a0_calls_ends : Nat → Int32) (a0_judge_rules_there : Int32) (a0_judge_rules_must : Int32) (a0_judge_rules_strict : Int32) (a0_judge_rules_timed : Int32) (f_a0_judge_rules_own : Nat → Int32) (f_a0_calls_cashiers : Nat → Int32) (f_a0_calls_begins : Nat → Int32) (f_a0_judge_rules_ahead : Nat → Int32) (a0_judge_stands_base : Int32) (a0_judge_stands_count : Int32) (f_a0_judge_stands_table : Nat → Int32) (f_a0_judge_stands_done : Nat → Int32) (f_a0_judge_stands_tills : Nat → Int32) (f_a0_shop_kinds : Nat → Int32) (f_a0_calls_tills : Nat → Int32) (f_a0_calls_acts : Nat → Int32) (f_a0_calls_wholes : Nat → Int32) (f_a0_calls_answers : Nat → Int32) (f_a0_judge_stands_leads : Nat → Int32) (f_a0_judge_stands_ways : Nat → Int64) (f_a0_judge_path : Nat → Int32) (v1 : Int32) : Option (Int32 × Int32 × Int32 × Int32 × Int32 × Int32 × (Nat → Int32) × (Nat → Int32) × Nat × Int32 × Int32 × (Nat → Int32) × (Nat → Int32) × (Nat → Int32) × (Nat → Int32) × (Nat → Int64) × (Nat → Int32)) :=
  bnd1 (F_X9_hasKind a0_shop_told v1 (2 : Int32)) fun r3 =>
  if r3 = 0 then
    bnd2 (F_X9_refused (1 : Int32)) fun r30 u30_0 =>
    some (r30, u30_0, a0_judge_rules_there, a0_judge_rules_must, a0_judge_rules_strict, a0_judge_rules_timed, f_a0_judge_rules_own, f_a0_judge_rules_ahead, a0_judge_stands_calls, a0_judge_stands_base, a0_judge_stands_count, f_a0_judge_stands_table, f_a0_judge_stands_done, f_a0_judge_stands_tills, f_a0_judge_stands_leads, f_a0_judge_stands_ways, f_a0_judge_path)
  else
  bnd15 (F_X1_findFirst fu a0_calls_n f_a0_calls_ends a0_shop_late f_a0_judge_rules_own f_a0_calls_cashiers f_a0_calls_begins f_a0_judge_rules_ahead a0_judge_stands_base f_a0_judge_stands_table f_a0_judge_stands_done f_a0_judge_stands_tills f_a0_shop_kinds f_a0_calls_tills f_a0_calls_acts f_a0_calls_wholes f_a0_calls_answers f_a0_judge_stands_leads f_a0_judge_stands_ways f_a0_judge_path v1) fun r19 u19_0 u19_1 u19_2 u19_3 u19_4 u19_5 u19_7 u19_8 u19_9 u19_10 u19_11 u19_12 u19_13 u19_14 =>
  bnd2 (F_X9_answered r19) fun r22 u22_0 =>
  some (r22, u22_0, u19_0, u19_1, u19_2, u19_3, u19_4, u19_5, a0_calls, u19_7, u19_8, u19_9, u19_10, u19_11, u19_12, u19_13, u19_14)
def F_X9_order_b13  (a0_judge_stands_calls : Nat) (a0_judge_rules_there : Int32) (a0_judge_rules_must : Int32) (a0_judge_rules_strict : Int32) (a0_judge_rules_timed : Int32) (f_a0_judge_rules_own : Nat → Int32) (f_a0_judge_rules_ahead : Nat → Int32) (a0_judge_stands_base : Int32) (a0_judge_stands_count : Int32) (f_a0_judge_stands_table : Nat → Int32) (f_a0_judge_stands_done : Nat → Int32) (f_a0_judge_stands_tills : Nat → Int32) (f_a0_judge_stands_leads : Nat → Int32) (f_a0_judge_stands_ways : Nat → Int64) (f_a0_judge_path : Nat → Int32) : Option (Int32 × Int32 × Int32 × Int32 × Int32 × Int32 × (Nat → Int32) × (Nat → Int32) × Nat × Int32 × Int32 × (Nat → Int32) × (Nat → Int32) × (Nat → Int32) × (Nat → Int32) × (Nat → Int64) × (Nat → Int32)) :=
  bnd2 (F_X9_refused (1 : Int32)) fun r15 u15_0 =>
  some (r15, u15_0, a0_judge_rules_there, a0_judge_rules_must, a0_judge_rules_strict, a0_judge_rules_timed, f_a0_judge_rules_own, f_a0_judge_rules_ahead, a0_judge_stands_calls, a0_judge_stands_base, a0_judge_stands_count, f_a0_judge_stands_table, f_a0_judge_stands_done, f_a0_judge_stands_tills, f_a0_judge_stands_leads, f_a0_judge_stands_ways, f_a0_judge_path)
def F_X9_order (fu : Nat) (a0_calls : Nat) (a0_judge_stands_calls : Nat) (a0_shop_told : Int32) (a0_shop_late : Int32) (a0_calls_n : Int32) (f_a0_calls_ends : Nat → Int32) (a0_judge_rules_there : Int32) (a0_judge_rules_must : Int32) (a0_judge_rules_strict : Int32) (a0_judge_rules_timed : Int32) (f_a0_judge_rules_own : Nat → Int32) (f_a0_calls_cashiers : Nat → Int32) (f_a0_calls_begins : Nat → Int32) (f_a0_judge_rules_ahead : Nat → Int32) (a0_judge_stands_base : Int32) (a0_judge_stands_count : Int32) (f_a0_judge_stands_table : Nat → Int32) (f_a0_judge_stands_done : Nat → Int32) (f_a0_judge_stands_tills : Nat → Int32) (f_a0_shop_kinds : Nat → Int32) (f_a0_calls_tills : Nat → Int32) (f_a0_calls_acts : Nat → Int32) (f_a0_calls_wholes : Nat → Int32) (f_a0_calls_answers : Nat → Int32) (f_a0_judge_stands_leads : Nat → Int32) (f_a0_judge_stands_ways : Nat → Int64) (f_a0_judge_path : Nat → Int32) (v1 : Int32) (v2 : Int32) : Option (Int32 × Int32 × Int32 × Int32 × Int32 × Int32 × (Nat → Int32) × (Nat → Int32) × Nat × Int32 × Int32 × (Nat → Int32) × (Nat → Int32) × (Nat → Int32) × (Nat → Int32) × (Nat → Int64) × (Nat → Int32)) :=
  bnd1 (F_X9_hasKind a0_shop_told v1 (2 : Int32)) fun r3 =>
  if r3 = 0 then
    F_X9_order_b13 a0_judge_stands_calls a0_judge_rules_there a0_judge_rules_must a0_judge_rules_strict a0_judge_rules_timed f_a0_judge_rules_own f_a0_judge_rules_ahead a0_judge_stands_base a0_judge_stands_count f_a0_judge_stands_table f_a0_judge_stands_done f_a0_judge_stands_tills f_a0_judge_stands_leads f_a0_judge_stands_ways f_a0_judge_path
  else
  if 0 ≤ v2 then
    bnd15 (F_X1_findFirst fu a0_calls_n f_a0_calls_ends a0_shop_late f_a0_judge_rules_own f_a0_calls_cashiers f_a0_calls_begins f_a0_judge_rules_ahead a0_judge_stands_base f_a0_judge_stands_table f_a0_judge_stands_done f_a0_judge_stands_tills f_a0_shop_kinds f_a0_calls_tills f_a0_calls_acts f_a0_calls_wholes f_a0_calls_answers f_a0_judge_stands_leads f_a0_judge_stands_ways f_a0_judge_path v1) fun r28 u28_0 u28_1 u28_2 u28_3 u28_4 u28_5 u28_7 u28_8 u28_9 u28_10 u28_11 u28_12 u28_13 u28_14 =>
    if 0 ≤ r28 then
      if r28 ≤ v2 then
        bnd2 (F_X9_refused (1 : Int32)) fun r64 u64_0 =>
        some (r64, u64_0, u28_0, u28_1, u28_2, u28_3, u28_4, u28_5, a0_calls, u28_7, u28_8, u28_9, u28_10, u28_11, u28_12, u28_13, u28_14)
      else
      bnd1 (F_X1_pathAt u28_14 v2) fun r53 =>
      bnd2 (F_X9_answered r53) fun r56 u56_0 =>
      some (r56, u56_0, u28_0, u28_1, u28_2, u28_3, u28_4, u28_5, a0_calls, u28_7, u28_8, u28_9, u28_10, u28_11, u28_12, u28_13, u28_14)
    else
    bnd2 (F_X9_answered r28) fun r38 u38_0 =>
    some (r38, u38_0, u28_0, u28_1, u28_2, u28_3, u28_4, u28_5, a0_calls, u28_7, u28_8, u28_9, u28_10, u28_11, u28_12, u28_13, u28_14)
  else
    F_X9_order_b13 a0_judge_stands_calls a0_judge_rules_there a0_judge_rules_must a0_judge_rules_strict a0_judge_rules_timed f_a0_judge_rules_own f_a0_judge_rules_ahead a0_judge_stands_base a0_judge_stands_count f_a0_judge_stands_table f_a0_judge_stands_done f_a0_judge_stands_tills f_a0_judge_stands_leads f_a0_judge_stands_ways f_a0_judge_path
def F_X9_stands (fu : Nat) (a0_calls : Nat) (a0_judge_stands_calls : Nat) (a0_shop_told : Int32) (a0_shop_late : Int32) (a0_calls_n : Int32) (f_a0_calls_ends : Nat → Int32) (a0_judge_rules_there : Int32) (a0_judge_rules_must : Int32) (a0_judge_rules_strict : Int32) (a0_judge_rules_timed : Int32) (f_a0_judge_rules_own : Nat → Int32) (f_a0_calls_cashiers : Nat → Int32) (f_a0_calls_begins : Nat → Int32) (f_a0_judge_rules_ahead : Nat → Int32) (a0_judge_stands_base : Int32) (a0_judge_stands_count : Int32) (f_a0_judge_stands_table : Nat → Int32) (f_a0_judge_stands_done : Nat → Int32) (f_a0_judge_stands_tills : Nat → Int32) (f_a0_shop_kinds : Nat → Int32) (f_a0_calls_tills : Nat → Int32) (f_a0_calls_acts : Nat → Int32) (f_a0_calls_wholes : Nat → Int32) (f_a0_calls_answers : Nat → Int32) (f_a0_judge_stands_leads : Nat → Int32) (v1 : Int32) : Option (Int32 × Int32 × Int32 × Int32 × Int32 × Int32 × (Nat → Int32) × (Nat → Int32) × Nat × Int32 × Int32 × (Nat → Int32) × (Nat → Int32) × (Nat → Int32) × (Nat → Int32)) :=
  bnd1 (F_X9_hasKind a0_shop_told v1 (2 : Int32)) fun r3 =>
  if r3 = 0 then
    bnd2 (F_X9_refused (1 : Int32)) fun r30 u30_0 =>
    some (r30, u30_0, a0_judge_rules_there, a0_judge_rules_must, a0_judge_rules_strict, a0_judge_rules_timed, f_a0_judge_rules_own, f_a0_judge_rules_ahead, a0_judge_stands_calls, a0_judge_stands_base, a0_judge_stands_count, f_a0_judge_stands_table, f_a0_judge_stands_done, f_a0_judge_stands_tills, f_a0_judge_stands_leads)
  else
  bnd13 (F_X1_countStands fu a0_calls_n f_a0_calls_ends a0_shop_late f_a0_judge_rules_own f_a0_calls_cashiers f_a0_calls_begins f_a0_judge_rules_ahead a0_judge_stands_base f_a0_judge_stands_table f_a0_judge_stands_done f_a0_judge_stands_tills f_a0_shop_kinds f_a0_calls_tills f_a0_calls_acts f_a0_calls_wholes f_a0_calls_answers f_a0_judge_stands_leads v1) fun r19 u19_0 u19_1 u19_2 u19_3 u19_4 u19_5 u19_7 u19_8 u19_9 u19_10 u19_11 u19_12 =>
  bnd2 (F_X9_answered r19) fun r22 u22_0 =>
  some (r22, u22_0, u19_0, u19_1, u19_2, u19_3, u19_4, u19_5, a0_calls, u19_7, u19_8, u19_9, u19_10, u19_11, u19_12)
def F_X9_ends (fu : Nat) (a0_calls : Nat) (a0_judge_stands_calls : Nat) (a0_shop_told : Int32) (a0_shop_late : Int32) (a0_calls_n : Int32) (f_a0_calls_ends : Nat → Int32) (a0_judge_rules_there : Int32) (a0_judge_rules_must : Int32) (a0_judge_rules_strict : Int32) (a0_judge_rules_timed : Int32) (f_a0_judge_rules_own : Nat → Int32) (f_a0_calls_cashiers : Nat → Int32) (f_a0_calls_begins : Nat → Int32) (f_a0_judge_rules_ahead : Nat → Int32) (a0_judge_stands_base : Int32) (a0_judge_stands_count : Int32) (f_a0_judge_stands_table : Nat → Int32) (f_a0_judge_stands_done : Nat → Int32) (f_a0_judge_stands_tills : Nat → Int32) (f_a0_shop_kinds : Nat → Int32) (f_a0_calls_tills : Nat → Int32) (f_a0_calls_acts : Nat → Int32) (f_a0_calls_wholes : Nat → Int32) (f_a0_calls_answers : Nat → Int32) (f_a0_judge_stands_leads : Nat → Int32) (v1 : Int32) : Option (Int32 × Int32 × Int32 × Int32 × Int32 × Int32 × (Nat → Int32) × (Nat → Int32) × Nat × Int32 × Int32 × (Nat → Int32) × (Nat → Int32) × (Nat → Int32) × (Nat → Int32)) :=
  bnd1 (F_X9_hasKind a0_shop_told v1 (2 : Int32)) fun r3 =>
  if r3 = 0 then
    bnd2 (F_X9_refused (1 : Int32)) fun r30 u30_0 =>
    some (r30, u30_0, a0_judge_rules_there, a0_judge_rules_must, a0_judge_rules_strict, a0_judge_rules_timed, f_a0_judge_rules_own, f_a0_judge_rules_ahead, a0_judge_stands_calls, a0_judge_stands_base, a0_judge_stands_count, f_a0_judge_stands_table, f_a0_judge_stands_done, f_a0_judge_stands_tills, f_a0_judge_stands_leads)
  else
  bnd13 (F_X1_countEnds fu a0_calls_n f_a0_calls_ends a0_shop_late f_a0_judge_rules_own f_a0_calls_cashiers f_a0_calls_begins f_a0_judge_rules_ahead a0_judge_stands_base f_a0_judge_stands_table f_a0_judge_stands_done f_a0_judge_stands_tills f_a0_shop_kinds f_a0_calls_tills f_a0_calls_acts f_a0_calls_wholes f_a0_calls_answers f_a0_judge_stands_leads v1) fun r19 u19_0 u19_1 u19_2 u19_3 u19_4 u19_5 u19_7 u19_8 u19_9 u19_10 u19_11 u19_12 =>
  bnd2 (F_X9_answered r19) fun r22 u22_0 =>
  some (r22, u22_0, u19_0, u19_1, u19_2, u19_3, u19_4, u19_5, a0_calls, u19_7, u19_8, u19_9, u19_10, u19_11, u19_12)
def F_X9_firsts (fu : Nat) (a0_calls : Nat) (a0_judge_stands_calls : Nat) (a0_shop_told : Int32) (a0_shop_late : Int32) (a0_calls_n : Int32) (f_a0_calls_ends : Nat → Int32) (a0_judge_rules_there : Int32) (a0_judge_rules_must : Int32) (a0_judge_rules_strict : Int32) (a0_judge_rules_timed : Int32) (f_a0_judge_rules_own : Nat → Int32) (f_a0_calls_cashiers : Nat → Int32) (f_a0_calls_begins : Nat → Int32) (f_a0_judge_rules_ahead : Nat → Int32) (a0_judge_stands_base : Int32) (a0_judge_stands_count : Int32) (f_a0_judge_stands_table : Nat → Int32) (f_a0_judge_stands_done : Nat → Int32) (f_a0_judge_stands_tills : Nat → Int32) (f_a0_shop_kinds : Nat → Int32) (f_a0_calls_tills : Nat → Int32) (f_a0_calls_acts : Nat → Int32) (f_a0_calls_wholes : Nat → Int32) (f_a0_calls_answers : Nat → Int32) (f_a0_judge_stands_leads : Nat → Int32) (f_a0_judge_stands_ways : Nat → Int64) (v1 : Int32) : Option (Int32 × Int32 × Int32 × Int32 × Int32 × Int32 × (Nat → Int32) × (Nat → Int32) × Nat × Int32 × Int32 × (Nat → Int32) × (Nat → Int32) × (Nat → Int32) × (Nat → Int32) × (Nat → Int64)) :=
  bnd1 (F_X9_hasKind a0_shop_told v1 (2 : Int32)) fun r3 =>
  if r3 = 0 then
    bnd2 (F_X9_refused (1 : Int32)) fun r30 u30_0 =>
    some (r30, u30_0, a0_judge_rules_there, a0_judge_rules_must, a0_judge_rules_strict, a0_judge_rules_timed, f_a0_judge_rules_own, f_a0_judge_rules_ahead, a0_judge_stands_calls, a0_judge_stands_base, a0_judge_stands_count, f_a0_judge_stands_table, f_a0_judge_stands_done, f_a0_judge_stands_tills, f_a0_judge_stands_leads, f_a0_judge_stands_ways)
  else
  bnd14 (F_X1_findFirsts fu a0_calls_n f_a0_calls_ends a0_shop_late f_a0_judge_rules_own f_a0_calls_cashiers f_a0_calls_begins f_a0_judge_rules_ahead a0_judge_stands_base f_a0_judge_stands_table f_a0_judge_stands_done f_a0_judge_stands_tills f_a0_shop_kinds f_a0_calls_tills f_a0_calls_acts f_a0_calls_wholes f_a0_calls_answers f_a0_judge_stands_leads f_a0_judge_stands_ways v1) fun r19 u19_0 u19_1 u19_2 u19_3 u19_4 u19_5 u19_7 u19_8 u19_9 u19_10 u19_11 u19_12 u19_13 =>
  bnd2 (F_X9_answered r19) fun r22 u22_0 =>
  some (r22, u22_0, u19_0, u19_1, u19_2, u19_3, u19_4, u19_5, a0_calls, u19_7, u19_8, u19_9, u19_10, u19_11, u19_12, u19_13)
def F_X9_ahead_b36  (a0_judge_stands_calls : Nat) (a0_judge_rules_there : Int32) (a0_judge_rules_must : Int32) (a0_judge_rules_strict : Int32) (a0_judge_rules_timed : Int32) (f_a0_judge_rules_own : Nat → Int32) (f_a0_judge_rules_ahead : Nat → Int32) (a0_judge_stands_base : Int32) (a0_judge_stands_count : Int32) (f_a0_judge_stands_table : Nat → Int32) (f_a0_judge_stands_done : Nat → Int32) (f_a0_judge_stands_tills : Nat → Int32) (f_a0_judge_stands_leads : Nat → Int32) (f_a0_judge_stands_ways : Nat → Int64) : Option (Int32 × Int32 × Int32 × Int32 × Int32 × Int32 × (Nat → Int32) × (Nat → Int32) × Nat × Int32 × Int32 × (Nat → Int32) × (Nat → Int32) × (Nat → Int32) × (Nat → Int32) × (Nat → Int64)) :=
  bnd2 (F_X9_refused (1 : Int32)) fun r38 u38_0 =>
  some (r38, u38_0, a0_judge_rules_there, a0_judge_rules_must, a0_judge_rules_strict, a0_judge_rules_timed, f_a0_judge_rules_own, f_a0_judge_rules_ahead, a0_judge_stands_calls, a0_judge_stands_base, a0_judge_stands_count, f_a0_judge_stands_table, f_a0_judge_stands_done, f_a0_judge_stands_tills, f_a0_judge_stands_leads, f_a0_judge_stands_ways)
def F_X9_ahead (fu : Nat) (a0_calls : Nat) (a0_judge_stands_calls : Nat) (a0_shop_told : Int32) (a0_shop_late : Int32) (a0_calls_n : Int32) (f_a0_calls_ends : Nat → Int32) (a0_judge_rules_there : Int32) (a0_judge_rules_must : Int32) (a0_judge_rules_strict : Int32) (a0_judge_rules_timed : Int32) (f_a0_judge_rules_own : Nat → Int32) (f_a0_calls_cashiers : Nat → Int32) (f_a0_calls_begins : Nat → Int32) (f_a0_judge_rules_ahead : Nat → Int32) (a0_judge_stands_base : Int32) (a0_judge_stands_count : Int32) (f_a0_judge_stands_table : Nat → Int32) (f_a0_judge_stands_done : Nat → Int32) (f_a0_judge_stands_tills : Nat → Int32) (f_a0_shop_kinds : Nat → Int32) (f_a0_calls_tills : Nat → Int32) (f_a0_calls_acts : Nat → Int32) (f_a0_calls_wholes : Nat → Int32) (f_a0_calls_answers : Nat → Int32) (f_a0_judge_stands_leads : Nat → Int32) (f_a0_judge_stands_ways : Nat → Int64) (v1 : Int32) (v2 : Int32) (v3 : Int32) : Option (Int32 × Int32 × Int32 × Int32 × Int32 × Int32 × (Nat → Int32) × (Nat → Int32) × Nat × Int32 × Int32 × (Nat → Int32) × (Nat → Int32) × (Nat → Int32) × (Nat → Int32) × (Nat → Int64)) :=
  bnd1 (F_X9_hasKind a0_shop_told v1 (2 : Int32)) fun r3 =>
  if r3 = 0 then
    F_X9_ahead_b36 a0_judge_stands_calls a0_judge_rules_there a0_judge_rules_must a0_judge_rules_strict a0_judge_rules_timed f_a0_judge_rules_own f_a0_judge_rules_ahead a0_judge_stands_base a0_judge_stands_count f_a0_judge_stands_table f_a0_judge_stands_done f_a0_judge_stands_tills f_a0_judge_stands_leads f_a0_judge_stands_ways
  else
  bnd1 (F_X0_has a0_calls_n v2) fun r14 =>
  if r14 = 0 then
    F_X9_ahead_b36 a0_judge_stands_calls a0_judge_rules_there a0_judge_rules_must a0_judge_rules_strict a0_judge_rules_timed f_a0_judge_rules_own f_a0_judge_rules_ahead a0_judge_stands_base a0_judge_stands_count f_a0_judge_stands_table f_a0_judge_stands_done f_a0_judge_stands_tills f_a0_judge_stands_leads f_a0_judge_stands_ways
  else
  bnd1 (F_X0_has a0_calls_n v3) fun r25 =>
  if r25 = 0 then
    F_X9_ahead_b36 a0_judge_stands_calls a0_judge_rules_there a0_judge_rules_must a0_judge_rules_strict a0_judge_rules_timed f_a0_judge_rules_own f_a0_judge_rules_ahead a0_judge_stands_base a0_judge_stands_count f_a0_judge_stands_table f_a0_judge_stands_done f_a0_judge_stands_tills f_a0_judge_stands_leads f_a0_judge_stands_ways
  else
  if v2 = v3 then
    F_X9_ahead_b36 a0_judge_stands_calls a0_judge_rules_there a0_judge_rules_must a0_judge_rules_strict a0_judge_rules_timed f_a0_judge_rules_own f_a0_judge_rules_ahead a0_judge_stands_base a0_judge_stands_count f_a0_judge_stands_table f_a0_judge_stands_done f_a0_judge_stands_tills f_a0_judge_stands_leads f_a0_judge_stands_ways
  else
  bnd14 (F_X1_comesAhead fu a0_calls_n f_a0_calls_ends a0_shop_late f_a0_judge_rules_own f_a0_calls_cashiers f_a0_calls_begins f_a0_judge_rules_ahead a0_judge_stands_base f_a0_judge_stands_table f_a0_judge_stands_done f_a0_judge_stands_tills f_a0_shop_kinds f_a0_calls_tills f_a0_calls_acts f_a0_calls_wholes f_a0_calls_answers f_a0_judge_stands_leads f_a0_judge_stands_ways v1 v2 v3) fun r54 u54_0 u54_1 u54_2 u54_3 u54_4 u54_5 u54_7 u54_8 u54_9 u54_10 u54_11 u54_12 u54_13 =>
  bnd2 (F_X9_answered r54) fun r57 u57_0 =>
  some (r57, u57_0, u54_0, u54_1, u54_2, u54_3, u54_4, u54_5, a0_calls, u54_7, u54_8, u54_9, u54_10, u54_11, u54_12, u54_13)
def F_X9_each_b53  (a0_calls : Nat) (a0_judge_rules_there : Int32) (a0_judge_rules_must : Int32) (a0_judge_rules_strict : Int32) (a0_judge_rules_timed : Int32) (f_a0_judge_rules_own : Nat → Int32) (f_a0_judge_rules_ahead : Nat → Int32) (a0_judge_stands_base : Int32) (a0_judge_stands_count : Int32) (f_a0_judge_stands_table : Nat → Int32) (f_a0_judge_stands_done : Nat → Int32) (f_a0_judge_stands_tills : Nat → Int32) (f_a0_judge_stands_leads : Nat → Int32) (f_a0_judge_stands_ways : Nat → Int64) (t0 : Int32) : Option (Int32 × Int32 × Int32 × Int32 × Int32 × Int32 × (Nat → Int32) × (Nat → Int32) × Nat × Int32 × Int32 × (Nat → Int32) × (Nat → Int32) × (Nat → Int32) × (Nat → Int32) × (Nat → Int64)) :=
  bnd2 (F_X9_answered t0) fun r53 u53_0 =>
  some (r53, u53_0, a0_judge_rules_there, a0_judge_rules_must, a0_judge_rules_strict, a0_judge_rules_timed, f_a0_judge_rules_own, f_a0_judge_rules_ahead, a0_calls, a0_judge_stands_base, a0_judge_stands_count, f_a0_judge_stands_table, f_a0_judge_stands_done, f_a0_judge_stands_tills, f_a0_judge_stands_leads, f_a0_judge_stands_ways)
def F_X9_each (fu : Nat) (a0_calls : Nat) (a0_judge_stands_calls : Nat) (a0_shop_tills : Int32) (a0_shop_late : Int32) (a0_calls_n : Int32) (f_a0_calls_tills : Nat → Int32) (f_a0_calls_ends : Nat → Int32) (a0_judge_rules_there : Int32) (a0_judge_rules_must : Int32) (a0_judge_rules_strict : Int32) (a0_judge_rules_timed : Int32) (f_a0_judge_rules_own : Nat → Int32) (f_a0_calls_cashiers : Nat → Int32) (f_a0_calls_begins : Nat → Int32) (f_a0_judge_rules_ahead : Nat → Int32) (a0_judge_stands_base : Int32) (a0_judge_stands_count : Int32) (f_a0_judge_stands_table : Nat → Int32) (f_a0_judge_stands_done : Nat → Int32) (f_a0_judge_stands_tills : Nat → Int32) (f_a0_shop_kinds : Nat → Int32) (f_a0_calls_acts : Nat → Int32) (f_a0_calls_wholes : Nat → Int32) (f_a0_calls_answers : Nat → Int32) (f_a0_judge_stands_leads : Nat → Int32) (f_a0_judge_stands_ways : Nat → Int64) (v1 : Int32) : Option (Int32 × Int32 × Int32 × Int32 × Int32 × Int32 × (Nat → Int32) × (Nat → Int32) × Nat × Int32 × Int32 × (Nat → Int32) × (Nat → Int32) × (Nat → Int32) × (Nat → Int32) × (Nat → Int64)) :=
  bnd1 (F_X5_hasTill a0_shop_tills v1) fun r5 =>
  if r5 = 0 then
    bnd2 (F_X9_refused (1 : Int32)) fun r13 u13_0 =>
    some (r13, u13_0, a0_judge_rules_there, a0_judge_rules_must, a0_judge_rules_strict, a0_judge_rules_timed, f_a0_judge_rules_own, f_a0_judge_rules_ahead, a0_judge_stands_calls, a0_judge_stands_base, a0_judge_stands_count, f_a0_judge_stands_table, f_a0_judge_stands_done, f_a0_judge_stands_tills, f_a0_judge_stands_leads, f_a0_judge_stands_ways)
  else
  bnd14 (F_X1_countOrdersOfTill fu a0_calls_n f_a0_calls_tills f_a0_calls_ends a0_shop_late f_a0_judge_rules_own f_a0_calls_cashiers f_a0_calls_begins f_a0_judge_rules_ahead a0_judge_stands_base f_a0_judge_stands_table f_a0_judge_stands_done f_a0_judge_stands_tills f_a0_shop_kinds f_a0_calls_acts f_a0_calls_wholes f_a0_calls_answers f_a0_judge_stands_leads f_a0_judge_stands_ways v1) fun r26 u26_0 u26_1 u26_2 u26_3 u26_4 u26_5 u26_7 u26_8 u26_9 u26_10 u26_11 u26_12 u26_13 =>
  if 0 ≤ (lg_cmp r26 (0 : Int64)) then
    if (lg_cmp r26 (0 : Int64)) ≤ 0 then
      F_X9_each_b53 a0_calls u26_0 u26_1 u26_2 u26_3 u26_4 u26_5 u26_7 u26_8 u26_9 u26_10 u26_11 u26_12 u26_13 (0 : Int32)
    else
      F_X9_each_b53 a0_calls u26_0 u26_1 u26_2 u26_3 u26_4 u26_5 u26_7 u26_8 u26_9 u26_10 u26_11 u26_12 u26_13 (1 : Int32)
  else
    F_X9_each_b53 a0_calls u26_0 u26_1 u26_2 u26_3 u26_4 u26_5 u26_7 u26_8 u26_9 u26_10 u26_11 u26_12 u26_13 (-10 : Int32)
def F_X9_bad (fu : Nat) (a0_calls : Nat) (a0_judge_stands_calls : Nat) (a0_shop_told : Int32) (a0_shop_late : Int32) (a0_calls_n : Int32) (f_a0_calls_ends : Nat → Int32) (f_a0_calls_begins : Nat → Int32) (a0_judge_rules_there : Int32) (a0_judge_rules_must : Int32) (a0_judge_rules_strict : Int32) (a0_judge_rules_timed : Int32) (f_a0_judge_rules_own : Nat → Int32) (f_a0_calls_cashiers : Nat → Int32) (f_a0_judge_rules_ahead : Nat → Int32) (a0_judge_stands_base : Int32) (a0_judge_stands_count : Int32) (f_a0_judge_stands_table : Nat → Int32) (f_a0_judge_stands_done : Nat → Int32) (f_a0_judge_stands_tills : Nat → Int32) (f_a0_shop_kinds : Nat → Int32) (f_a0_calls_tills : Nat → Int32) (f_a0_calls_acts : Nat → Int32) (f_a0_calls_wholes : Nat → Int32) (f_a0_calls_answers : Nat → Int32) (f_a0_judge_stands_leads : Nat → Int32) (f_a0_judge_stands_ways : Nat → Int64) (v1 : Int32) : Option (Int32 × Int32 × Int32 × Int32 × Int32 × Int32 × (Nat → Int32) × (Nat → Int32) × Nat × Int32 × Int32 × (Nat → Int32) × (Nat → Int32) × (Nat → Int32) × (Nat → Int32) × (Nat → Int64)) :=
  bnd1 (F_X9_hasKind a0_shop_told v1 (2 : Int32)) fun r3 =>
  if r3 = 0 then
    bnd2 (F_X9_refused (1 : Int32)) fun r30 u30_0 =>
    some (r30, u30_0, a0_judge_rules_there, a0_judge_rules_must, a0_judge_rules_strict, a0_judge_rules_timed, f_a0_judge_rules_own, f_a0_judge_rules_ahead, a0_judge_stands_calls, a0_judge_stands_base, a0_judge_stands_count, f_a0_judge_stands_table, f_a0_judge_stands_done, f_a0_judge_stands_tills, f_a0_judge_stands_leads, f_a0_judge_stands_ways)
  else
  bnd15 (F_X1_findBad fu a0_calls a0_judge_stands_calls a0_calls_n f_a0_calls_ends f_a0_calls_begins a0_judge_rules_there a0_judge_rules_must a0_judge_rules_strict a0_judge_rules_timed a0_shop_late f_a0_judge_rules_own f_a0_calls_cashiers f_a0_judge_rules_ahead a0_judge_stands_base a0_judge_stands_count f_a0_judge_stands_table f_a0_judge_stands_done f_a0_judge_stands_tills f_a0_shop_kinds f_a0_calls_tills f_a0_calls_acts f_a0_calls_wholes f_a0_calls_answers f_a0_judge_stands_leads f_a0_judge_stands_ways v1) fun r19 u19_0 u19_1 u19_2 u19_3 u19_4 u19_5 u19_6 u19_7 u19_8 u19_9 u19_10 u19_11 u19_12 u19_13 =>
  bnd2 (F_X9_answered r19) fun r22 u22_0 =>
  some (r22, u22_0, u19_0, u19_1, u19_2, u19_3, u19_4, u19_5, u19_6, u19_7, u19_8, u19_9, u19_10, u19_11, u19_12, u19_13)
def F_X9_core (fu : Nat) (a0_calls : Nat) (a0_judge_stands_calls : Nat) (a0_shop_told : Int32) (a0_shop_late : Int32) (a0_calls_n : Int32) (a0_judge_setCount : Int32) (f_a0_calls_ends : Nat → Int32) (a0_judge_rules_there : Int32) (a0_judge_rules_must : Int32) (a0_judge_rules_strict : Int32) (a0_judge_rules_timed : Int32) (f_a0_judge_rules_own : Nat → Int32) (f_a0_calls_cashiers : Nat → Int32) (f_a0_calls_begins : Nat → Int32) (f_a0_judge_rules_ahead : Nat → Int32) (a0_judge_stands_base : Int32) (a0_judge_stands_count : Int32) (f_a0_judge_stands_table : Nat → Int32) (f_a0_judge_stands_done : Nat → Int32) (f_a0_judge_stands_tills : Nat → Int32) (f_a0_shop_kinds : Nat → Int32) (f_a0_calls_tills : Nat → Int32) (f_a0_calls_acts : Nat → Int32) (f_a0_calls_wholes : Nat → Int32) (f_a0_calls_answers : Nat → Int32) (f_a0_judge_stands_leads : Nat → Int32) (f_a0_judge_setsOf : Nat → Int64) (f_a0_judge_sets : Nat → Int32) (f_a0_judge_stands_ways : Nat → Int64) (v1 : Int32) : Option (Int32 × Int32 × Int32 × Int32 × Int32 × Int32 × Int32 × (Nat → Int32) × (Nat → Int32) × Nat × Int32 × Int32 × (Nat → Int32) × (Nat → Int32) × (Nat → Int32) × (Nat → Int32) × (Nat → Int64) × (Nat → Int32) × (Nat → Int64)) :=
  bnd1 (F_X9_hasKind a0_shop_told v1 (2 : Int32)) fun r3 =>
  if r3 = 0 then
    bnd2 (F_X9_refused (1 : Int32)) fun r30 u30_0 =>
    some (r30, u30_0, a0_judge_setCount, a0_judge_rules_there, a0_judge_rules_must, a0_judge_rules_strict, a0_judge_rules_timed, f_a0_judge_rules_own, f_a0_judge_rules_ahead, a0_judge_stands_calls, a0_judge_stands_base, a0_judge_stands_count, f_a0_judge_stands_table, f_a0_judge_stands_done, f_a0_judge_stands_tills, f_a0_judge_stands_leads, f_a0_judge_setsOf, f_a0_judge_sets, f_a0_judge_stands_ways)
  else
  bnd18 (F_X1_findCore fu a0_calls a0_judge_stands_calls a0_calls_n a0_judge_setCount f_a0_calls_ends a0_judge_rules_there a0_judge_rules_must a0_judge_rules_strict a0_judge_rules_timed a0_shop_late f_a0_judge_rules_own f_a0_calls_cashiers f_a0_calls_begins f_a0_judge_rules_ahead a0_judge_stands_base a0_judge_stands_count f_a0_judge_stands_table f_a0_judge_stands_done f_a0_judge_stands_tills f_a0_shop_kinds f_a0_calls_tills f_a0_calls_acts f_a0_calls_wholes f_a0_calls_answers f_a0_judge_stands_leads f_a0_judge_setsOf f_a0_judge_sets f_a0_judge_stands_ways v1) fun r19 u19_0 u19_1 u19_2 u19_3 u19_4 u19_5 u19_6 u19_7 u19_8 u19_9 u19_10 u19_11 u19_12 u19_13 u19_14 u19_15 u19_16 =>
  bnd2 (F_X9_answered r19) fun r22 u22_0 =>
  some (r22, u22_0, u19_0, u19_1, u19_2, u19_3, u19_4, u19_5, u19_6, u19_7, u19_8, u19_9, u19_10, u19_11, u19_12, u19_13, u19_14, u19_15, u19_16)
def F_X9_mends_b47  (a0_judge_stands_calls : Nat) (a0_judge_rules_there : Int32) (a0_judge_rules_must : Int32) (a0_judge_rules_strict : Int32) (a0_judge_rules_timed : Int32) (f_a0_judge_rules_own : Nat → Int32) (f_a0_judge_rules_ahead : Nat → Int32) (a0_judge_stands_base : Int32) (a0_judge_stands_count : Int32) (f_a0_judge_stands_table : Nat → Int32) (f_a0_judge_stands_done : Nat → Int32) (f_a0_judge_stands_tills : Nat → Int32) (f_a0_judge_stands_leads : Nat → Int32) (f_a0_judge_stands_ways : Nat → Int64) (t0 : Int32) : Option (Int32 × Int32 × Int32 × Int32 × Int32 × Int32 × (Nat → Int32) × (Nat → Int32) × Nat × Int32 × Int32 × (Nat → Int32) × (Nat → Int32) × (Nat → Int32) × (Nat → Int32) × (Nat → Int64)) :=
  bnd2 (F_X9_refused t0) fun r47 u47_0 =>
  some (r47, u47_0, a0_judge_rules_there, a0_judge_rules_must, a0_judge_rules_strict, a0_judge_rules_timed, f_a0_judge_rules_own, f_a0_judge_rules_ahead, a0_judge_stands_calls, a0_judge_stands_base, a0_judge_stands_count, f_a0_judge_stands_table, f_a0_judge_stands_done, f_a0_judge_stands_tills, f_a0_judge_stands_leads, f_a0_judge_stands_ways)
def F_X9_mends (fu : Nat) (a0_calls : Nat) (a0_judge_stands_calls : Nat) (a0_shop_told : Int32) (a0_shop_tills : Int32) (a0_shop_late : Int32) (a0_calls_n : Int32) (f_a0_calls_ends : Nat → Int32) (a0_judge_rules_there : Int32) (a0_judge_rules_must : Int32) (a0_judge_rules_strict : Int32) (a0_judge_rules_timed : Int32) (f_a0_judge_rules_own : Nat → Int32) (f_a0_calls_cashiers : Nat → Int32) (f_a0_calls_begins : Nat → Int32) (f_a0_judge_rules_ahead : Nat → Int32) (a0_judge_stands_base : Int32) (a0_judge_stands_count : Int32) (f_a0_judge_stands_table : Nat → Int32) (f_a0_judge_stands_done : Nat → Int32) (f_a0_judge_stands_tills : Nat → Int32) (f_a0_shop_kinds : Nat → Int32) (f_a0_calls_tills : Nat → Int32) (f_a0_calls_acts : Nat → Int32) (f_a0_calls_wholes : Nat → Int32) (f_a0_calls_answers : Nat → Int32) (f_a0_judge_stands_leads : Nat → Int32) (f_a0_judge_stands_ways : Nat → Int64) : Option (Int32 × Int32 × Int32 × Int32 × Int32 × Int32 × (Nat → Int32) × (Nat → Int32) × Nat × Int32 × Int32 × (Nat → Int32) × (Nat → Int32) × (Nat → Int32) × (Nat → Int32) × (Nat → Int64)) :=
  if a0_shop_told = 0 then
    bnd2 (F_X9_refused (1 : Int32)) fun r12 u12_0 =>
    some (r12, u12_0, a0_judge_rules_there, a0_judge_rules_must, a0_judge_rules_strict, a0_judge_rules_timed, f_a0_judge_rules_own, f_a0_judge_rules_ahead, a0_judge_stands_calls, a0_judge_stands_base, a0_judge_stands_count, f_a0_judge_stands_table, f_a0_judge_stands_done, f_a0_judge_stands_tills, f_a0_judge_stands_leads, f_a0_judge_stands_ways)
  else
  bnd15 (F_X1_countOrders fu a0_calls a0_judge_stands_calls a0_calls_n f_a0_calls_ends a0_judge_rules_there a0_judge_rules_must a0_judge_rules_strict a0_judge_rules_timed a0_shop_tills a0_shop_late f_a0_judge_rules_own f_a0_calls_cashiers f_a0_calls_begins f_a0_judge_rules_ahead a0_judge_stands_base a0_judge_stands_count f_a0_judge_stands_table f_a0_judge_stands_done f_a0_judge_stands_tills f_a0_shop_kinds f_a0_calls_tills f_a0_calls_acts f_a0_calls_wholes f_a0_calls_answers f_a0_judge_stands_leads f_a0_judge_stands_ways (0 : Int32)) fun r25 u25_0 u25_1 u25_2 u25_3 u25_4 u25_5 u25_6 u25_7 u25_8 u25_9 u25_10 u25_11 u25_12 u25_13 =>
  if (lg_cmp r25 (0 : Int64)) = 0 then
    bnd15 (F_X1_findMends fu a0_calls u25_6 a0_calls_n f_a0_calls_ends u25_0 u25_1 u25_2 u25_3 a0_shop_late u25_4 f_a0_calls_cashiers f_a0_calls_begins u25_5 u25_7 u25_8 u25_9 u25_10 u25_11 f_a0_shop_kinds f_a0_calls_tills f_a0_calls_acts f_a0_calls_wholes f_a0_calls_answers u25_12 u25_13) fun r60 u60_0 u60_1 u60_2 u60_3 u60_4 u60_5 u60_6 u60_7 u60_8 u60_9 u60_10 u60_11 u60_12 u60_13 =>
    bnd2 (F_X9_answered r60) fun r63 u63_0 =>
    some (r63, u63_0, u60_0, u60_1, u60_2, u60_3, u60_4, u60_5, u60_6, u60_7, u60_8, u60_9, u60_10, u60_11, u60_12, u60_13)
  else
  if 0 ≤ (lg_cmp r25 (0 : Int64)) then
    F_X9_mends_b47 u25_6 u25_0 u25_1 u25_2 u25_3 u25_4 u25_5 u25_7 u25_8 u25_9 u25_10 u25_11 u25_12 u25_13 (5 : Int32)
  else
    F_X9_mends_b47 u25_6 u25_0 u25_1 u25_2 u25_3 u25_4 u25_5 u25_7 u25_8 u25_9 u25_10 u25_11 u25_12 u25_13 (3 : Int32)
def F_X9_enough (fu : Nat) (a0_calls : Nat) (a0_judge_stands_calls : Nat) (a0_shop_told : Int32) (a0_calls_n : Int32) (f_a0_calls_ends : Nat → Int32) (a0_judge_rules_there : Int32) (a0_judge_rules_must : Int32) (a0_judge_rules_strict : Int32) (a0_judge_rules_timed : Int32) (f_a0_calls_begins : Nat → Int32) (f_a0_judge_rules_own : Nat → Int32) (f_a0_calls_cashiers : Nat → Int32) (f_a0_judge_rules_ahead : Nat → Int32) (a0_judge_stands_base : Int32) (a0_judge_stands_count : Int32) (f_a0_judge_stands_table : Nat → Int32) (f_a0_judge_stands_done : Nat → Int32) (f_a0_judge_stands_tills : Nat → Int32) (f_a0_shop_kinds : Nat → Int32) (f_a0_calls_tills : Nat → Int32) (f_a0_calls_acts : Nat → Int32) (f_a0_calls_wholes : Nat → Int32) (f_a0_calls_answers : Nat → Int32) (f_a0_judge_stands_leads : Nat → Int32) (f_a0_judge_stands_ways : Nat → Int64) : Option (Int32 × Int32 × Int32 × Int32 × Int32 × Int32 × (Nat → Int32) × (Nat → Int32) × Nat × Int32 × Int32 × (Nat → Int32) × (Nat → Int32) × (Nat → Int32) × (Nat → Int32) × (Nat → Int64)) :=
  if a0_shop_told = 0 then
    bnd2 (F_X9_refused (1 : Int32)) fun r30 u30_0 =>
    some (r30, u30_0, a0_judge_rules_there, a0_judge_rules_must, a0_judge_rules_strict, a0_judge_rules_timed, f_a0_judge_rules_own, f_a0_judge_rules_ahead, a0_judge_stands_calls, a0_judge_stands_base, a0_judge_stands_count, f_a0_judge_stands_table, f_a0_judge_stands_done, f_a0_judge_stands_tills, f_a0_judge_stands_leads, f_a0_judge_stands_ways)
  else
  bnd15 (F_X1_findEnough fu a0_calls a0_judge_stands_calls a0_calls_n f_a0_calls_ends f_a0_calls_begins f_a0_judge_rules_own f_a0_calls_cashiers f_a0_judge_rules_ahead a0_judge_stands_base a0_judge_stands_count f_a0_judge_stands_table f_a0_judge_stands_done f_a0_judge_stands_tills f_a0_shop_kinds f_a0_calls_tills f_a0_calls_acts f_a0_calls_wholes f_a0_calls_answers f_a0_judge_stands_leads f_a0_judge_stands_ways) fun r19 u19_0 u19_1 u19_2 u19_3 u19_4 u19_5 u19_6 u19_7 u19_8 u19_9 u19_10 u19_11 u19_12 u19_13 =>
  bnd2 (F_X9_answered r19) fun r22 u22_0 =>
  some (r22, u22_0, u19_0, u19_1, u19_2, u19_3, u19_4, u19_5, u19_6, u19_7, u19_8, u19_9, u19_10, u19_11, u19_12, u19_13)
def F_X9_could_b20  (a0_judge_stands_calls : Nat) (a0_judge_rules_there : Int32) (a0_judge_rules_must : Int32) (a0_judge_rules_strict : Int32) (a0_judge_rules_timed : Int32) (f_a0_judge_rules_own : Nat → Int32) (f_a0_judge_rules_ahead : Nat → Int32) (a0_judge_stands_base : Int32) (a0_judge_stands_count : Int32) (f_a0_judge_stands_table : Nat → Int32) (f_a0_judge_stands_done : Nat → Int32) (f_a0_judge_stands_tills : Nat → Int32) (f_a0_judge_stands_leads : Nat → Int32) (f_a0_judge_stands_ways : Nat → Int64) (f_a0_judge_could : Nat → Int32) : Option (Int32 × Int32 × Int32 × Int32 × Int32 × Int32 × (Nat → Int32) × (Nat → Int32) × Nat × Int32 × Int32 × (Nat → Int32) × (Nat → Int32) × (Nat → Int32) × (Nat → Int32) × (Nat → Int64) × (Nat → Int32)) :=
  bnd2 (F_X9_refused (1 : Int32)) fun r22 u22_0 =>
  some (r22, u22_0, a0_judge_rules_there, a0_judge_rules_must, a0_judge_rules_strict, a0_judge_rules_timed, f_a0_judge_rules_own, f_a0_judge_rules_ahead, a0_judge_stands_calls, a0_judge_stands_base, a0_judge_stands_count, f_a0_judge_stands_table, f_a0_judge_stands_done, f_a0_judge_stands_tills, f_a0_judge_stands_leads, f_a0_judge_stands_ways, f_a0_judge_could)
def F_X9_could (fu : Nat) (a0_calls : Nat) (a0_judge_stands_calls : Nat) (a0_shop_told : Int32) (a0_shop_late : Int32) (a0_calls_n : Int32) (f_a0_calls_ends : Nat → Int32) (a0_judge_rules_there : Int32) (a0_judge_rules_must : Int32) (a0_judge_rules_strict : Int32) (a0_judge_rules_timed : Int32) (f_a0_judge_rules_own : Nat → Int32) (f_a0_calls_cashiers : Nat → Int32) (f_a0_calls_begins : Nat → Int32) (f_a0_judge_rules_ahead : Nat → Int32) (a0_judge_stands_base : Int32) (a0_judge_stands_count : Int32) (f_a0_judge_stands_table : Nat → Int32) (f_a0_judge_stands_done : Nat → Int32) (f_a0_judge_stands_tills : Nat → Int32) (f_a0_shop_kinds : Nat → Int32) (f_a0_calls_tills : Nat → Int32) (f_a0_calls_acts : Nat → Int32) (f_a0_calls_wholes : Nat → Int32) (f_a0_calls_answers : Nat → Int32) (f_a0_judge_stands_leads : Nat → Int32) (f_a0_judge_stands_ways : Nat → Int64) (f_a0_judge_could : Nat → Int32) (v1 : Int32) (v2 : Int32) : Option (Int32 × Int32 × Int32 × Int32 × Int32 × Int32 × (Nat → Int32) × (Nat → Int32) × Nat × Int32 × Int32 × (Nat → Int32) × (Nat → Int32) × (Nat → Int32) × (Nat → Int32) × (Nat → Int64) × (Nat → Int32)) :=
  bnd1 (F_X9_hasKind a0_shop_told v1 (2 : Int32)) fun r3 =>
  if r3 = 0 then
    F_X9_could_b20 a0_judge_stands_calls a0_judge_rules_there a0_judge_rules_must a0_judge_rules_strict a0_judge_rules_timed f_a0_judge_rules_own f_a0_judge_rules_ahead a0_judge_stands_base a0_judge_stands_count f_a0_judge_stands_table f_a0_judge_stands_done f_a0_judge_stands_tills f_a0_judge_stands_leads f_a0_judge_stands_ways f_a0_judge_could
  else
  bnd1 (F_X0_has a0_calls_n v2) fun r14 =>
  if r14 = 0 then
    F_X9_could_b20 a0_judge_stands_calls a0_judge_rules_there a0_judge_rules_must a0_judge_rules_strict a0_judge_rules_timed f_a0_judge_rules_own f_a0_judge_rules_ahead a0_judge_stands_base a0_judge_stands_count f_a0_judge_stands_table f_a0_judge_stands_done f_a0_judge_stands_tills f_a0_judge_stands_leads f_a0_judge_stands_ways f_a0_judge_could
  else
  bnd15 (F_X1_findCould fu a0_calls_n f_a0_calls_ends a0_shop_late f_a0_judge_rules_own f_a0_calls_cashiers f_a0_calls_begins f_a0_judge_rules_ahead a0_judge_stands_base f_a0_judge_stands_table f_a0_judge_stands_done f_a0_judge_stands_tills f_a0_shop_kinds f_a0_calls_tills f_a0_calls_acts f_a0_calls_wholes f_a0_calls_answers f_a0_judge_stands_leads f_a0_judge_stands_ways f_a0_judge_could v1 v2) fun r37 u37_0 u37_1 u37_2 u37_3 u37_4 u37_5 u37_7 u37_8 u37_9 u37_10 u37_11 u37_12 u37_13 u37_14 =>
  bnd2 (F_X9_answered r37) fun r40 u40_0 =>
  some (r40, u40_0, u37_0, u37_1, u37_2, u37_3, u37_4, u37_5, a0_calls, u37_7, u37_8, u37_9, u37_10, u37_11, u37_12, u37_13, u37_14)
def F_X9_couldTell_b85  (a0_calls : Nat) (a0_judge_rules_there : Int32) (a0_judge_rules_must : Int32) (a0_judge_rules_strict : Int32) (a0_judge_rules_timed : Int32) (f_a0_judge_rules_own : Nat → Int32) (f_a0_judge_rules_ahead : Nat → Int32) (a0_judge_stands_base : Int32) (a0_judge_stands_count : Int32) (f_a0_judge_stands_table : Nat → Int32) (f_a0_judge_stands_done : Nat → Int32) (f_a0_judge_stands_tills : Nat → Int32) (f_a0_judge_stands_leads : Nat → Int32) (f_a0_judge_stands_ways : Nat → Int64) (f_a0_judge_could : Nat → Int32) (t0 : Int32) : Option (Int32 × Int32 × Int32 × Int32 × Int32 × Int32 × (Nat → Int32) × (Nat → Int32) × Nat × Int32 × Int32 × (Nat → Int32) × (Nat → Int32) × (Nat → Int32) × (Nat → Int32) × (Nat → Int64) × (Nat → Int32)) :=
  bnd2 (F_X9_answered t0) fun r85 u85_0 =>
  some (r85, u85_0, a0_judge_rules_there, a0_judge_rules_must, a0_judge_rules_strict, a0_judge_rules_timed, f_a0_judge_rules_own, f_a0_judge_rules_ahead, a0_calls, a0_judge_stands_base, a0_judge_stands_count, f_a0_judge_stands_table, f_a0_judge_stands_done, f_a0_judge_stands_tills, f_a0_judge_stands_leads, f_a0_judge_stands_ways, f_a0_judge_could)
def F_X9_couldTell_b59  (a0_calls : Nat) (a0_judge_rules_there : Int32) (a0_judge_rules_must : Int32) (a0_judge_rules_strict : Int32) (a0_judge_rules_timed : Int32) (f_a0_judge_rules_own : Nat → Int32) (f_a0_judge_rules_ahead : Nat → Int32) (a0_judge_stands_base : Int32) (a0_judge_stands_count : Int32) (f_a0_judge_stands_table : Nat → Int32) (f_a0_judge_stands_done : Nat → Int32) (f_a0_judge_stands_tills : Nat → Int32) (f_a0_judge_stands_leads : Nat → Int32) (f_a0_judge_stands_ways : Nat → Int64) (f_a0_judge_could : Nat → Int32) (t0 : Int32) : Option (Int32 × Int32 × Int32 × Int32 × Int32 × Int32 × (Nat → Int32) × (Nat → Int32) × Nat × Int32 × Int32 × (Nat → Int32) × (Nat → Int32) × (Nat → Int32) × (Nat → Int32) × (Nat → Int64) × (Nat → Int32)) :=
  bnd2 (F_X9_answered t0) fun r59 u59_0 =>
  some (r59, u59_0, a0_judge_rules_there, a0_judge_rules_must, a0_judge_rules_strict, a0_judge_rules_timed, f_a0_judge_rules_own, f_a0_judge_rules_ahead, a0_calls, a0_judge_stands_base, a0_judge_stands_count, f_a0_judge_stands_table, f_a0_judge_stands_done, f_a0_judge_stands_tills, f_a0_judge_stands_leads, f_a0_judge_stands_ways, f_a0_judge_could)
def F_X9_couldTell_b20  (a0_judge_stands_calls : Nat) (a0_judge_rules_there : Int32) (a0_judge_rules_must : Int32) (a0_judge_rules_strict : Int32) (a0_judge_rules_timed : Int32) (f_a0_judge_rules_own : Nat → Int32) (f_a0_judge_rules_ahead : Nat → Int32) (a0_judge_stands_base : Int32) (a0_judge_stands_count : Int32) (f_a0_judge_stands_table : Nat → Int32) (f_a0_judge_stands_done : Nat → Int32) (f_a0_judge_stands_tills : Nat → Int32) (f_a0_judge_stands_leads : Nat → Int32) (f_a0_judge_stands_ways : Nat → Int64) (f_a0_judge_could : Nat → Int32) : Option (Int32 × Int32 × Int32 × Int32 × Int32 × Int32 × (Nat → Int32) × (Nat → Int32) × Nat × Int32 × Int32 × (Nat → Int32) × (Nat → Int32) × (Nat → Int32) × (Nat → Int32) × (Nat → Int64) × (Nat → Int32)) :=
  bnd2 (F_X9_refused (1 : Int32)) fun r22 u22_0 =>
  some (r22, u22_0, a0_judge_rules_there, a0_judge_rules_must, a0_judge_rules_strict, a0_judge_rules_timed, f_a0_judge_rules_own, f_a0_judge_rules_ahead, a0_judge_stands_calls, a0_judge_stands_base, a0_judge_stands_count, f_a0_judge_stands_table, f_a0_judge_stands_done, f_a0_judge_stands_tills, f_a0_judge_stands_leads, f_a0_judge_stands_ways, f_a0_judge_could)
def F_X9_couldTell (fu : Nat) (a0_calls : Nat) (a0_judge_stands_calls : Nat) (a0_shop_told : Int32) (a0_shop_late : Int32) (a0_calls_n : Int32) (f_a0_calls_ends : Nat → Int32) (a0_judge_rules_there : Int32) (a0_judge_rules_must : Int32) (a0_judge_rules_strict : Int32) (a0_judge_rules_timed : Int32) (f_a0_judge_rules_own : Nat → Int32) (f_a0_calls_cashiers : Nat → Int32) (f_a0_calls_begins : Nat → Int32) (f_a0_judge_rules_ahead : Nat → Int32) (a0_judge_stands_base : Int32) (a0_judge_stands_count : Int32) (f_a0_judge_stands_table : Nat → Int32) (f_a0_judge_stands_done : Nat → Int32) (f_a0_judge_stands_tills : Nat → Int32) (f_a0_shop_kinds : Nat → Int32) (f_a0_calls_tills : Nat → Int32) (f_a0_calls_acts : Nat → Int32) (f_a0_calls_wholes : Nat → Int32) (f_a0_calls_answers : Nat → Int32) (f_a0_judge_stands_leads : Nat → Int32) (f_a0_judge_stands_ways : Nat → Int64) (f_a0_judge_could : Nat → Int32) (v1 : Int32) (v2 : Int32) (v3 : Int32) : Option (Int32 × Int32 × Int32 × Int32 × Int32 × Int32 × (Nat → Int32) × (Nat → Int32) × Nat × Int32 × Int32 × (Nat → Int32) × (Nat → Int32) × (Nat → Int32) × (Nat → Int32) × (Nat → Int64) × (Nat → Int32)) :=
  bnd1 (F_X9_hasKind a0_shop_told v1 (2 : Int32)) fun r3 =>
  if r3 = 0 then
    F_X9_couldTell_b20 a0_judge_stands_calls a0_judge_rules_there a0_judge_rules_must a0_judge_rules_strict a0_judge_rules_timed f_a0_judge_rules_own f_a0_judge_rules_ahead a0_judge_stands_base a0_judge_stands_count f_a0_judge_stands_table f_a0_judge_stands_done f_a0_judge_stands_tills f_a0_judge_stands_leads f_a0_judge_stands_ways f_a0_judge_could
  else
  bnd1 (F_X0_has a0_calls_n v2) fun r14 =>
  if r14 = 0 then
    F_X9_couldTell_b20 a0_judge_stands_calls a0_judge_rules_there a0_judge_rules_must a0_judge_rules_strict a0_judge_rules_timed f_a0_judge_rules_own f_a0_judge_rules_ahead a0_judge_stands_base a0_judge_stands_count f_a0_judge_stands_table f_a0_judge_stands_done f_a0_judge_stands_tills f_a0_judge_stands_leads f_a0_judge_stands_ways f_a0_judge_could
  else
  bnd15 (F_X1_findCould fu a0_calls_n f_a0_calls_ends a0_shop_late f_a0_judge_rules_own f_a0_calls_cashiers f_a0_calls_begins f_a0_judge_rules_ahead a0_judge_stands_base f_a0_judge_stands_table f_a0_judge_stands_done f_a0_judge_stands_tills f_a0_shop_kinds f_a0_calls_tills f_a0_calls_acts f_a0_calls_wholes f_a0_calls_answers f_a0_judge_stands_leads f_a0_judge_stands_ways f_a0_judge_could v1 v2) fun r36 u36_0 u36_1 u36_2 u36_3 u36_4 u36_5 u36_7 u36_8 u36_9 u36_10 u36_11 u36_12 u36_13 u36_14 =>
  if 0 < r36 then
    if v3 = 0 then
      bnd1 (F_X1_leastCould fu u36_14) fun r82 =>
      F_X9_couldTell_b85 a0_calls u36_0 u36_1 u36_2 u36_3 u36_4 u36_5 u36_7 u36_8 u36_9 u36_10 u36_11 u36_12 u36_13 u36_14 r82
    else
    bnd1 (F_X1_greatestCould fu u36_14) fun r72 =>
    F_X9_couldTell_b85 a0_calls u36_0 u36_1 u36_2 u36_3 u36_4 u36_5 u36_7 u36_8 u36_9 u36_10 u36_11 u36_12 u36_13 u36_14 r72
  else
  if 0 ≤ r36 then
    F_X9_couldTell_b59 a0_calls u36_0 u36_1 u36_2 u36_3 u36_4 u36_5 u36_7 u36_8 u36_9 u36_10 u36_11 u36_12 u36_13 u36_14 (-11 : Int32)
  else
    F_X9_couldTell_b59 a0_calls u36_0 u36_1 u36_2 u36_3 u36_4 u36_5 u36_7 u36_8 u36_9 u36_10 u36_11 u36_12 u36_13 u36_14 r36
def F_X9_allowed (v1 : Int32) : Option (Int32 × Int32) :=
  if v1 = 0 then
    some ((1 : Int32), v1)
  else
    some ((0 : Int32), v1)
def F_X9_seed_b26  (a0_seedNow : Int32) : Option (Int32 × Int32 × Int32) :=
  bnd2 (F_X9_allowed (2 : Int32)) fun r28 u28_0 =>
  if ¬ (r28 = 0 ∨ r28 = 1) then none else
  some (r28, a0_seedNow, u28_0)
def F_X9_seed (a0_seedNow : Int32) (a0_shop_told : Int32) (v1 : Int32) : Option (Int32 × Int32 × Int32) :=
  if a0_shop_told = 0 then
    bnd2 (F_X9_allowed (1 : Int32)) fun r12 u12_0 =>
    if ¬ (r12 = 0 ∨ r12 = 1) then none else
    some (r12, a0_seedNow, u12_0)
  else
  if v1 < 0 then
    F_X9_seed_b26 a0_seedNow
  else
  if v1 ≤ (65536 : Int32) then
    bnd2 (F_X9_allowed (0 : Int32)) fun r39 u39_0 =>
    if ¬ (r39 = 0 ∨ r39 = 1) then none else
    some (r39, v1, u39_0)
  else
    F_X9_seed_b26 a0_seedNow
def F_X9_make_b34  (a0_seedNow : Int32) (a0_maker_seed : Int32) (a0_calls_n : Int32) (f_a0_maker_phases : Nat → Int32) (f_a0_maker_tills : Nat → Int32) (f_a0_calls_cashiers : Nat → Int32) (f_a0_calls_tills : Nat → Int32) (f_a0_calls_acts : Nat → Int32) (f_a0_calls_wholes : Nat → Int32) (f_a0_calls_begins : Nat → Int32) (f_a0_calls_ends : Nat → Int32) (f_a0_calls_answers : Nat → Int32) (f_a0_maker_doing : Nat → Int32) (f_a0_maker_answers : Nat → Int32) : Option (Int32 × Int32 × Int32 × Int32 × Int32 × (Nat → Int32) × (Nat → Int32) × (Nat → Int32) × (Nat → Int32) × (Nat → Int32) × (Nat → Int32) × (Nat → Int32) × (Nat → Int32) × (Nat → Int32) × (Nat → Int32) × (Nat → Int32)) :=
  bnd2 (F_X9_refused (2 : Int32)) fun r36 u36_0 =>
  some (r36, a0_seedNow, u36_0, a0_maker_seed, a0_calls_n, f_a0_maker_phases, f_a0_maker_tills, f_a0_calls_cashiers, f_a0_calls_tills, f_a0_calls_acts, f_a0_calls_wholes, f_a0_calls_begins, f_a0_calls_ends, f_a0_calls_answers, f_a0_maker_doing, f_a0_maker_answers)
def F_X9_make_b17  (a0_seedNow : Int32) (a0_maker_seed : Int32) (a0_calls_n : Int32) (f_a0_maker_phases : Nat → Int32) (f_a0_maker_tills : Nat → Int32) (f_a0_calls_cashiers : Nat → Int32) (f_a0_calls_tills : Nat → Int32) (f_a0_calls_acts : Nat → Int32) (f_a0_calls_wholes : Nat → Int32) (f_a0_calls_begins : Nat → Int32) (f_a0_calls_ends : Nat → Int32) (f_a0_calls_answers : Nat → Int32) (f_a0_maker_doing : Nat → Int32) (f_a0_maker_answers : Nat → Int32) : Option (Int32 × Int32 × Int32 × Int32 × Int32 × (Nat → Int32) × (Nat → Int32) × (Nat → Int32) × (Nat → Int32) × (Nat → Int32) × (Nat → Int32) × (Nat → Int32) × (Nat → Int32) × (Nat → Int32) × (Nat → Int32) × (Nat → Int32)) :=
  bnd2 (F_X9_refused (1 : Int32)) fun r19 u19_0 =>
  some (r19, a0_seedNow, u19_0, a0_maker_seed, a0_calls_n, f_a0_maker_phases, f_a0_maker_tills, f_a0_calls_cashiers, f_a0_calls_tills, f_a0_calls_acts, f_a0_calls_wholes, f_a0_calls_begins, f_a0_calls_ends, f_a0_calls_answers, f_a0_maker_doing, f_a0_maker_answers)
def F_X9_make (fu : Nat) (a0_seedNow : Int32) (a0_shop_told : Int32) (a0_shop_tills : Int32) (a0_shop_cashiers : Int32) (a0_maker_seed : Int32) (a0_calls_n : Int32) (f_a0_maker_phases : Nat → Int32) (f_a0_maker_tills : Nat → Int32) (f_a0_shop_kinds : Nat → Int32) (f_a0_calls_cashiers : Nat → Int32) (f_a0_calls_tills : Nat → Int32) (f_a0_calls_acts : Nat → Int32) (f_a0_calls_wholes : Nat → Int32) (f_a0_calls_begins : Nat → Int32) (f_a0_calls_ends : Nat → Int32) (f_a0_calls_answers : Nat → Int32) (f_a0_maker_doing : Nat → Int32) (f_a0_maker_answers : Nat → Int32) (v1 : Int32) (v2 : Int32) : Option (Int32 × Int32 × Int32 × Int32 × Int32 × (Nat → Int32) × (Nat → Int32) × (Nat → Int32) × (Nat → Int32) × (Nat → Int32) × (Nat → Int32) × (Nat → Int32) × (Nat → Int32) × (Nat → Int32) × (Nat → Int32) × (Nat → Int32)) :=
  if a0_shop_told = 0 then
    F_X9_make_b17 a0_seedNow a0_maker_seed a0_calls_n f_a0_maker_phases f_a0_maker_tills f_a0_calls_cashiers f_a0_calls_tills f_a0_calls_acts f_a0_calls_wholes f_a0_calls_begins f_a0_calls_ends f_a0_calls_answers f_a0_maker_doing f_a0_maker_answers
  else
  bnd1 (F_X2_isOne v1) fun r11 =>
  if r11 = 0 then
    F_X9_make_b17 a0_seedNow a0_maker_seed a0_calls_n f_a0_maker_phases f_a0_maker_tills f_a0_calls_cashiers f_a0_calls_tills f_a0_calls_acts f_a0_calls_wholes f_a0_calls_begins f_a0_calls_ends f_a0_calls_answers f_a0_maker_doing f_a0_maker_answers
  else
  if v2 < (1 : Int32) then
    F_X9_make_b34 a0_seedNow a0_maker_seed a0_calls_n f_a0_maker_phases f_a0_maker_tills f_a0_calls_cashiers f_a0_calls_tills f_a0_calls_acts f_a0_calls_wholes f_a0_calls_begins f_a0_calls_ends f_a0_calls_answers f_a0_maker_doing f_a0_maker_answers
  else
  if v2 ≤ (20 : Int32) then
    bnd14 (F_X2_run fu f_a0_maker_phases f_a0_maker_tills a0_shop_tills a0_shop_cashiers f_a0_shop_kinds f_a0_calls_cashiers f_a0_calls_tills f_a0_calls_acts f_a0_calls_wholes f_a0_calls_begins f_a0_calls_ends f_a0_calls_answers f_a0_maker_doing f_a0_maker_answers v1 v2 a0_seedNow) fun r54 u54_0 u54_1 u54_2 u54_3 u54_4 u54_5 u54_6 u54_7 u54_8 u54_9 u54_10 u54_11 u54_12 =>
    bnd2 (F_X9_answered r54) fun r71 u71_0 =>
    some (r71, u54_0, u71_0, u54_0, u54_1, u54_2, u54_3, u54_4, u54_5, u54_6, u54_7, u54_8, u54_9, u54_10, u54_11, u54_12)
  else
    F_X9_make_b34 a0_seedNow a0_maker_seed a0_calls_n f_a0_maker_phases f_a0_maker_tills f_a0_calls_cashiers f_a0_calls_tills f_a0_calls_acts f_a0_calls_wholes f_a0_calls_begins f_a0_calls_ends f_a0_calls_answers f_a0_maker_doing f_a0_maker_answers
def F_X9_breaks_b101  (a0_judge_stands_calls : Nat) (a0_maker_seed : Int32) (a0_made_n : Int32) (f_a0_maker_phases : Nat → Int32) (f_a0_maker_tills : Nat → Int32) (f_a0_made_cashiers : Nat → Int32) (f_a0_made_tills : Nat → Int32) (f_a0_made_acts : Nat → Int32) (f_a0_made_wholes : Nat → Int32) (f_a0_made_begins : Nat → Int32) (f_a0_made_ends : Nat → Int32) (f_a0_made_answers : Nat → Int32) (f_a0_maker_doing : Nat → Int32) (f_a0_maker_answers : Nat → Int32) (a0_judge_rules_there : Int32) (a0_judge_rules_must : Int32) (a0_judge_rules_strict : Int32) (a0_judge_rules_timed : Int32) (f_a0_judge_rules_own : Nat → Int32) (f_a0_judge_rules_ahead : Nat → Int32) (a0_judge_stands_base : Int32) (a0_judge_stands_count : Int32) (f_a0_judge_stands_table : Nat → Int32) (f_a0_judge_stands_done : Nat → Int32) (f_a0_judge_stands_tills : Nat → Int32) (f_a0_judge_stands_leads : Nat → Int32) (f_a0_judge_stands_ways : Nat → Int64) (t0 : Int32) : Option (Int32 × Int32 × Int32 × Int32 × (Nat → Int32) × (Nat → Int32) × (Nat → Int32) × (Nat → Int32) × (Nat → Int32) × (Nat → Int32) × (Nat → Int32) × (Nat → Int32) × (Nat → Int32) × (Nat → Int32) × (Nat → Int32) × Int32 × Int32 × Int32 × Int32 × (Nat → Int32) × (Nat → Int32) × Nat × Int32 × Int32 × (Nat → Int32) × (Nat → Int32) × (Nat → Int32) × (Nat → Int32) × (Nat → Int64)) :=
  bnd2 (F_X9_answered t0) fun r101 u101_0 =>
  some (r101, u101_0, a0_maker_seed, a0_made_n, f_a0_maker_phases, f_a0_maker_tills, f_a0_made_cashiers, f_a0_made_tills, f_a0_made_acts, f_a0_made_wholes, f_a0_made_begins, f_a0_made_ends, f_a0_made_answers, f_a0_maker_doing, f_a0_maker_answers, a0_judge_rules_there, a0_judge_rules_must, a0_judge_rules_strict, a0_judge_rules_timed, f_a0_judge_rules_own, f_a0_judge_rules_ahead, a0_judge_stands_calls, a0_judge_stands_base, a0_judge_stands_count, f_a0_judge_stands_table, f_a0_judge_stands_done, f_a0_judge_stands_tills, f_a0_judge_stands_leads, f_a0_judge_stands_ways)
def F_X9_breaks_b42  (fu : Nat) (a0_made : Nat) (a0_shop_tills : Int32) (a0_shop_cashiers : Int32) (a0_shop_late : Int32) (f_a0_shop_kinds : Nat → Int32) (v1 : Int32) (v2 : Int32) (v3 : Int32) : Nat → Nat → Int32 → Int32 → (Nat → Int32) → (Nat → Int32) → (Nat → Int32) → (Nat → Int32) → (Nat → Int32) → (Nat → Int32) → (Nat → Int32) → (Nat → Int32) → (Nat → Int32) → (Nat → Int32) → (Nat → Int32) → Int32 → Int32 → Int32 → Int32 → (Nat → Int32) → (Nat → Int32) → Int32 → Int32 → (Nat → Int32) → (Nat → Int32) → (Nat → Int32) → (Nat → Int32) → (Nat → Int64) → Int32 → Option (Int32 × Int32 × Int32 × Int32 × (Nat → Int32) × (Nat → Int32) × (Nat → Int32) × (Nat → Int32) × (Nat → Int32) × (Nat → Int32) × (Nat → Int32) × (Nat → Int32) × (Nat → Int32) × (Nat → Int32) × (Nat → Int32) × Int32 × Int32 × Int32 × Int32 × (Nat → Int32) × (Nat → Int32) × Nat × Int32 × Int32 × (Nat → Int32) × (Nat → Int32) × (Nat → Int32) × (Nat → Int32) × (Nat → Int64))
  | 0, _, _, _, _, _, _, _, _, _, _, _, _, _, _, _, _, _, _, _, _, _, _, _, _, _, _, _, _ => none
  | kf + 1, a0_judge_stands_calls, a0_maker_seed, a0_made_n, f_a0_maker_phases, f_a0_maker_tills, f_a0_made_cashiers, f_a0_made_tills, f_a0_made_acts, f_a0_made_wholes, f_a0_made_begins, f_a0_made_ends, f_a0_made_answers, f_a0_maker_doing, f_a0_maker_answers, a0_judge_rules_there, a0_judge_rules_must, a0_judge_rules_strict, a0_judge_rules_timed, f_a0_judge_rules_own, f_a0_judge_rules_ahead, a0_judge_stands_base, a0_judge_stands_count, f_a0_judge_stands_table, f_a0_judge_stands_done, f_a0_judge_stands_tills, f_a0_judge_stands_leads, f_a0_judge_stands_ways, v4 =>
    if (99 : Int32) < v4 then
      bnd2 (F_X9_answered (-2 : Int32)) fun r114 u114_0 =>
      some (r114, u114_0, a0_maker_seed, a0_made_n, f_a0_maker_phases, f_a0_maker_tills, f_a0_made_cashiers, f_a0_made_tills, f_a0_made_acts, f_a0_made_wholes, f_a0_made_begins, f_a0_made_ends, f_a0_made_answers, f_a0_maker_doing, f_a0_maker_answers, a0_judge_rules_there, a0_judge_rules_must, a0_judge_rules_strict, a0_judge_rules_timed, f_a0_judge_rules_own, f_a0_judge_rules_ahead, a0_judge_stands_calls, a0_judge_stands_base, a0_judge_stands_count, f_a0_judge_stands_table, f_a0_judge_stands_done, f_a0_judge_stands_tills, f_a0_judge_stands_leads, f_a0_judge_stands_ways)
    else
    bnd14 (F_X2_run fu f_a0_maker_phases f_a0_maker_tills a0_shop_tills a0_shop_cashiers f_a0_shop_kinds f_a0_made_cashiers f_a0_made_tills f_a0_made_acts f_a0_made_wholes f_a0_made_begins f_a0_made_ends f_a0_made_answers f_a0_maker_doing f_a0_maker_answers v2 v3 v4) fun r61 u61_0 u61_1 u61_2 u61_3 u61_4 u61_5 u61_6 u61_7 u61_8 u61_9 u61_10 u61_11 u61_12 =>
    bnd15 (F_X1_countOrders fu a0_made a0_judge_stands_calls u61_1 u61_9 a0_judge_rules_there a0_judge_rules_must a0_judge_rules_strict a0_judge_rules_timed a0_shop_tills a0_shop_late f_a0_judge_rules_own u61_4 u61_8 f_a0_judge_rules_ahead a0_judge_stands_base a0_judge_stands_count f_a0_judge_stands_table f_a0_judge_stands_done f_a0_judge_stands_tills f_a0_shop_kinds u61_5 u61_6 u61_7 u61_10 f_a0_judge_stands_leads f_a0_judge_stands_ways v1) fun r74 u74_0 u74_1 u74_2 u74_3 u74_4 u74_5 u74_6 u74_7 u74_8 u74_9 u74_10 u74_11 u74_12 u74_13 =>
    if 0 < (lg_cmp r74 (0 : Int64)) then
      (F_X9_breaks_b42 fu a0_made a0_shop_tills a0_shop_cashiers a0_shop_late f_a0_shop_kinds v1 v2 v3 kf) u74_6 u61_0 u61_1 u61_2 u61_3 u61_4 u61_5 u61_6 u61_7 u61_8 u61_9 u61_10 u61_11 u61_12 u74_0 u74_1 u74_2 u74_3 u74_4 u74_5 u74_7 u74_8 u74_9 u74_10 u74_11 u74_12 u74_13 ((v4 + (1 : Int32)))
    else
    if 0 ≤ (lg_cmp r74 (0 : Int64)) then
      F_X9_breaks_b101 u74_6 u61_0 u61_1 u61_2 u61_3 u61_4 u61_5 u61_6 u61_7 u61_8 u61_9 u61_10 u61_11 u61_12 u74_0 u74_1 u74_2 u74_3 u74_4 u74_5 u74_7 u74_8 u74_9 u74_10 u74_11 u74_12 u74_13 v4
    else
      F_X9_breaks_b101 u74_6 u61_0 u61_1 u61_2 u61_3 u61_4 u61_5 u61_6 u61_7 u61_8 u61_9 u61_10 u61_11 u61_12 u74_0 u74_1 u74_2 u74_3 u74_4 u74_5 u74_7 u74_8 u74_9 u74_10 u74_11 u74_12 u74_13 (-10 : Int32)
def F_X9_breaks_b33  (a0_judge_stands_calls : Nat) (a0_maker_seed : Int32) (a0_made_n : Int32) (f_a0_maker_phases : Nat → Int32) (f_a0_maker_tills : Nat → Int32) (f_a0_made_cashiers : Nat → Int32) (f_a0_made_tills : Nat → Int32) (f_a0_made_acts : Nat → Int32) (f_a0_made_wholes : Nat → Int32) (f_a0_made_begins : Nat → Int32) (f_a0_made_ends : Nat → Int32) (f_a0_made_answers : Nat → Int32) (f_a0_maker_doing : Nat → Int32) (f_a0_maker_answers : Nat → Int32) (a0_judge_rules_there : Int32) (a0_judge_rules_must : Int32) (a0_judge_rules_strict : Int32) (a0_judge_rules_timed : Int32) (f_a0_judge_rules_own : Nat → Int32) (f_a0_judge_rules_ahead : Nat → Int32) (a0_judge_stands_base : Int32) (a0_judge_stands_count : Int32) (f_a0_judge_stands_table : Nat → Int32) (f_a0_judge_stands_done : Nat → Int32) (f_a0_judge_stands_tills : Nat → Int32) (f_a0_judge_stands_leads : Nat → Int32) (f_a0_judge_stands_ways : Nat → Int64) : Option (Int32 × Int32 × Int32 × Int32 × (Nat → Int32) × (Nat → Int32) × (Nat → Int32) × (Nat → Int32) × (Nat → Int32) × (Nat → Int32) × (Nat → Int32) × (Nat → Int32) × (Nat → Int32) × (Nat → Int32) × (Nat → Int32) × Int32 × Int32 × Int32 × Int32 × (Nat → Int32) × (Nat → Int32) × Nat × Int32 × Int32 × (Nat → Int32) × (Nat → Int32) × (Nat → Int32) × (Nat → Int32) × (Nat → Int64)) :=
  bnd2 (F_X9_refused (2 : Int32)) fun r35 u35_0 =>
  some (r35, u35_0, a0_maker_seed, a0_made_n, f_a0_maker_phases, f_a0_maker_tills, f_a0_made_cashiers, f_a0_made_tills, f_a0_made_acts, f_a0_made_wholes, f_a0_made_begins, f_a0_made_ends, f_a0_made_answers, f_a0_maker_doing, f_a0_maker_answers, a0_judge_rules_there, a0_judge_rules_must, a0_judge_rules_strict, a0_judge_rules_timed, f_a0_judge_rules_own, f_a0_judge_rules_ahead, a0_judge_stands_calls, a0_judge_stands_base, a0_judge_stands_count, f_a0_judge_stands_table, f_a0_judge_stands_done, f_a0_judge_stands_tills, f_a0_judge_stands_leads, f_a0_judge_stands_ways)
def F_X9_breaks_b16  (a0_judge_stands_calls : Nat) (a0_maker_seed : Int32) (a0_made_n : Int32) (f_a0_maker_phases : Nat → Int32) (f_a0_maker_tills : Nat → Int32) (f_a0_made_cashiers : Nat → Int32) (f_a0_made_tills : Nat → Int32) (f_a0_made_acts : Nat → Int32) (f_a0_made_wholes : Nat → Int32) (f_a0_made_begins : Nat → Int32) (f_a0_made_ends : Nat → Int32) (f_a0_made_answers : Nat → Int32) (f_a0_maker_doing : Nat → Int32) (f_a0_maker_answers : Nat → Int32) (a0_judge_rules_there : Int32) (a0_judge_rules_must : Int32) (a0_judge_rules_strict : Int32) (a0_judge_rules_timed : Int32) (f_a0_judge_rules_own : Nat → Int32) (f_a0_judge_rules_ahead : Nat → Int32) (a0_judge_stands_base : Int32) (a0_judge_stands_count : Int32) (f_a0_judge_stands_table : Nat → Int32) (f_a0_judge_stands_done : Nat → Int32) (f_a0_judge_stands_tills : Nat → Int32) (f_a0_judge_stands_leads : Nat → Int32) (f_a0_judge_stands_ways : Nat → Int64) : Option (Int32 × Int32 × Int32 × Int32 × (Nat → Int32) × (Nat → Int32) × (Nat → Int32) × (Nat → Int32) × (Nat → Int32) × (Nat → Int32) × (Nat → Int32) × (Nat → Int32) × (Nat → Int32) × (Nat → Int32) × (Nat → Int32) × Int32 × Int32 × Int32 × Int32 × (Nat → Int32) × (Nat → Int32) × Nat × Int32 × Int32 × (Nat → Int32) × (Nat → Int32) × (Nat → Int32) × (Nat → Int32) × (Nat → Int64)) :=
  bnd2 (F_X9_refused (1 : Int32)) fun r18 u18_0 =>
  some (r18, u18_0, a0_maker_seed, a0_made_n, f_a0_maker_phases, f_a0_maker_tills, f_a0_made_cashiers, f_a0_made_tills, f_a0_made_acts, f_a0_made_wholes, f_a0_made_begins, f_a0_made_ends, f_a0_made_answers, f_a0_maker_doing, f_a0_maker_answers, a0_judge_rules_there, a0_judge_rules_must, a0_judge_rules_strict, a0_judge_rules_timed, f_a0_judge_rules_own, f_a0_judge_rules_ahead, a0_judge_stands_calls, a0_judge_stands_base, a0_judge_stands_count, f_a0_judge_stands_table, f_a0_judge_stands_done, f_a0_judge_stands_tills, f_a0_judge_stands_leads, f_a0_judge_stands_ways)
def F_X9_breaks (fu : Nat) (a0_made : Nat) (a0_judge_stands_calls : Nat) (a0_shop_told : Int32) (a0_shop_tills : Int32) (a0_shop_cashiers : Int32) (a0_shop_late : Int32) (a0_maker_seed : Int32) (a0_made_n : Int32) (f_a0_maker_phases : Nat → Int32) (f_a0_maker_tills : Nat → Int32) (f_a0_shop_kinds : Nat → Int32) (f_a0_made_cashiers : Nat → Int32) (f_a0_made_tills : Nat → Int32) (f_a0_made_acts : Nat → Int32) (f_a0_made_wholes : Nat → Int32) (f_a0_made_begins : Nat → Int32) (f_a0_made_ends : Nat → Int32) (f_a0_made_answers : Nat → Int32) (f_a0_maker_doing : Nat → Int32) (f_a0_maker_answers : Nat → Int32) (a0_judge_rules_there : Int32) (a0_judge_rules_must : Int32) (a0_judge_rules_strict : Int32) (a0_judge_rules_timed : Int32) (f_a0_judge_rules_own : Nat → Int32) (f_a0_judge_rules_ahead : Nat → Int32) (a0_judge_stands_base : Int32) (a0_judge_stands_count : Int32) (f_a0_judge_stands_table : Nat → Int32) (f_a0_judge_stands_done : Nat → Int32) (f_a0_judge_stands_tills : Nat → Int32) (f_a0_judge_stands_leads : Nat → Int32) (f_a0_judge_stands_ways : Nat → Int64) (v1 : Int32) (v2 : Int32) (v3 : Int32) : Option (Int32 × Int32 × Int32 × Int32 × (Nat → Int32) × (Nat → Int32) × (Nat → Int32) × (Nat → Int32) × (Nat → Int32) × (Nat → Int32) × (Nat → Int32) × (Nat → Int32) × (Nat → Int32) × (Nat → Int32) × (Nat → Int32) × Int32 × Int32 × Int32 × Int32 × (Nat → Int32) × (Nat → Int32) × Nat × Int32 × Int32 × (Nat → Int32) × (Nat → Int32) × (Nat → Int32) × (Nat → Int32) × (Nat → Int64)) :=
  bnd1 (F_X9_hasKind a0_shop_told v1 (3 : Int32)) fun r3 =>
  if r3 = 0 then
    F_X9_breaks_b16 a0_judge_stands_calls a0_maker_seed a0_made_n f_a0_maker_phases f_a0_maker_tills f_a0_made_cashiers f_a0_made_tills f_a0_made_acts f_a0_made_wholes f_a0_made_begins f_a0_made_ends f_a0_made_answers f_a0_maker_doing f_a0_maker_answers a0_judge_rules_there a0_judge_rules_must a0_judge_rules_strict a0_judge_rules_timed f_a0_judge_rules_own f_a0_judge_rules_ahead a0_judge_stands_base a0_judge_stands_count f_a0_judge_stands_table f_a0_judge_stands_done f_a0_judge_stands_tills f_a0_judge_stands_leads f_a0_judge_stands_ways
  else
  bnd1 (F_X2_isOne v2) fun r10 =>
  if r10 = 0 then
    F_X9_breaks_b16 a0_judge_stands_calls a0_maker_seed a0_made_n f_a0_maker_phases f_a0_maker_tills f_a0_made_cashiers f_a0_made_tills f_a0_made_acts f_a0_made_wholes f_a0_made_begins f_a0_made_ends f_a0_made_answers f_a0_maker_doing f_a0_maker_answers a0_judge_rules_there a0_judge_rules_must a0_judge_rules_strict a0_judge_rules_timed f_a0_judge_rules_own f_a0_judge_rules_ahead a0_judge_stands_base a0_judge_stands_count f_a0_judge_stands_table f_a0_judge_stands_done f_a0_judge_stands_tills f_a0_judge_stands_leads f_a0_judge_stands_ways
  else
  if v3 < (1 : Int32) then
    F_X9_breaks_b33 a0_judge_stands_calls a0_maker_seed a0_made_n f_a0_maker_phases f_a0_maker_tills f_a0_made_cashiers f_a0_made_tills f_a0_made_acts f_a0_made_wholes f_a0_made_begins f_a0_made_ends f_a0_made_answers f_a0_maker_doing f_a0_maker_answers a0_judge_rules_there a0_judge_rules_must a0_judge_rules_strict a0_judge_rules_timed f_a0_judge_rules_own f_a0_judge_rules_ahead a0_judge_stands_base a0_judge_stands_count f_a0_judge_stands_table f_a0_judge_stands_done f_a0_judge_stands_tills f_a0_judge_stands_leads f_a0_judge_stands_ways
  else
  if v3 ≤ (8 : Int32) then
    F_X9_breaks_b42 fu a0_made a0_shop_tills a0_shop_cashiers a0_shop_late f_a0_shop_kinds v1 v2 v3 fu a0_judge_stands_calls a0_maker_seed a0_made_n f_a0_maker_phases f_a0_maker_tills f_a0_made_cashiers f_a0_made_tills f_a0_made_acts f_a0_made_wholes f_a0_made_begins f_a0_made_ends f_a0_made_answers f_a0_maker_doing f_a0_maker_answers a0_judge_rules_there a0_judge_rules_must a0_judge_rules_strict a0_judge_rules_timed f_a0_judge_rules_own f_a0_judge_rules_ahead a0_judge_stands_base a0_judge_stands_count f_a0_judge_stands_table f_a0_judge_stands_done f_a0_judge_stands_tills f_a0_judge_stands_leads f_a0_judge_stands_ways (0 : Int32)
  else
    F_X9_breaks_b33 a0_judge_stands_calls a0_maker_seed a0_made_n f_a0_maker_phases f_a0_maker_tills f_a0_made_cashiers f_a0_made_tills f_a0_made_acts f_a0_made_wholes f_a0_made_begins f_a0_made_ends f_a0_made_answers f_a0_maker_doing f_a0_maker_answers a0_judge_rules_there a0_judge_rules_must a0_judge_rules_strict a0_judge_rules_timed f_a0_judge_rules_own f_a0_judge_rules_ahead a0_judge_stands_base a0_judge_stands_count f_a0_judge_stands_table f_a0_judge_stands_done f_a0_judge_stands_tills f_a0_judge_stands_leads f_a0_judge_stands_ways
def F_X9_answer_b27  (f_a0_calls_ends : Nat → Int32) (f_a0_calls_answers : Nat → Int32) : Option (Int32 × Int32 × (Nat → Int32) × (Nat → Int32)) :=
  bnd2 (F_X9_refused (2 : Int32)) fun r29 u29_0 =>
  some (r29, u29_0, f_a0_calls_ends, f_a0_calls_answers)
def F_X9_answer (a0_calls_n : Int32) (f_a0_calls_ends : Nat → Int32) (f_a0_calls_answers : Nat → Int32) (v1 : Int32) (v2 : Int32) : Option (Int32 × Int32 × (Nat → Int32) × (Nat → Int32)) :=
  bnd1 (F_X0_has a0_calls_n v1) fun r5 =>
  if r5 = 0 then
    bnd2 (F_X9_refused (1 : Int32)) fun r13 u13_0 =>
    some (r13, u13_0, f_a0_calls_ends, f_a0_calls_answers)
  else
  if v2 < 0 then
    F_X9_answer_b27 f_a0_calls_ends f_a0_calls_answers
  else
  if v2 ≤ (99 : Int32) then
    bnd1 (F_X0_isOpen f_a0_calls_ends v1) fun r38 =>
    if r38 = 0 then
      bnd3 (F_X0_tellAnother a0_calls_n f_a0_calls_answers f_a0_calls_ends v1 v2) fun r57 u57_0 u57_1 =>
      bnd2 (F_X9_answered r57) fun r60 u60_0 =>
      some (r60, u60_0, u57_1, u57_0)
    else
    bnd2 (F_X9_refused (5 : Int32)) fun r46 u46_0 =>
    some (r46, u46_0, f_a0_calls_ends, f_a0_calls_answers)
  else
    F_X9_answer_b27 f_a0_calls_ends f_a0_calls_answers
def F_X9_lose (fu : Nat) (a0_calls_n : Int32) (f_a0_calls_cashiers : Nat → Int32) (f_a0_calls_tills : Nat → Int32) (f_a0_calls_acts : Nat → Int32) (f_a0_calls_wholes : Nat → Int32) (f_a0_calls_begins : Nat → Int32) (f_a0_calls_ends : Nat → Int32) (f_a0_calls_answers : Nat → Int32) (v1 : Int32) : Option (Int32 × Int32 × Int32 × (Nat → Int32) × (Nat → Int32) × (Nat → Int32) × (Nat → Int32) × (Nat → Int32) × (Nat → Int32) × (Nat → Int32)) :=
  bnd1 (F_X0_has a0_calls_n v1) fun r5 =>
  if r5 = 0 then
    bnd2 (F_X9_allowed (1 : Int32)) fun r13 u13_0 =>
    if ¬ (r13 = 0 ∨ r13 = 1) then none else
    some (r13, u13_0, a0_calls_n, f_a0_calls_cashiers, f_a0_calls_tills, f_a0_calls_acts, f_a0_calls_wholes, f_a0_calls_begins, f_a0_calls_ends, f_a0_calls_answers)
  else
  bnd8 (F_X0_drop fu a0_calls_n f_a0_calls_cashiers f_a0_calls_tills f_a0_calls_acts f_a0_calls_wholes f_a0_calls_begins f_a0_calls_ends f_a0_calls_answers v1) fun u22_0 u22_1 u22_2 u22_3 u22_4 u22_5 u22_6 u22_7 =>
  bnd2 (F_X9_allowed (0 : Int32)) fun r27 u27_0 =>
  if ¬ (r27 = 0 ∨ r27 = 1) then none else
  some (r27, u27_0, u22_0, u22_1, u22_2, u22_3, u22_4, u22_5, u22_6, u22_7)
def F_X9_opens (fu : Nat) (a0_shop_cashiers : Int32) (a0_calls_n : Int32) (f_a0_calls_cashiers : Nat → Int32) (f_a0_calls_ends : Nat → Int32) (f_a0_calls_answers : Nat → Int32) (v1 : Int32) : Option (Int32 × Int32 × (Nat → Int32) × (Nat → Int32)) :=
  bnd1 (F_X5_hasCashier a0_shop_cashiers v1) fun r5 =>
  if r5 = 0 then
    bnd2 (F_X9_refused (1 : Int32)) fun r13 u13_0 =>
    some (r13, u13_0, f_a0_calls_ends, f_a0_calls_answers)
  else
  bnd1 (F_X0_lastOf fu a0_calls_n f_a0_calls_cashiers v1) fun r22 =>
  if 0 ≤ r22 then
    bnd1 (F_X0_isOpen f_a0_calls_ends r22) fun r42 =>
    if r42 = 0 then
      bnd2 (F_X0_reopen a0_calls_n f_a0_calls_ends f_a0_calls_answers r22) fun u59_0 u59_1 =>
      bnd2 (F_X9_answered r22) fun r64 u64_0 =>
      some (r64, u64_0, u59_0, u59_1)
    else
    bnd2 (F_X9_refused (5 : Int32)) fun r50 u50_0 =>
    some (r50, u50_0, f_a0_calls_ends, f_a0_calls_answers)
  else
  bnd2 (F_X9_refused (6 : Int32)) fun r33 u33_0 =>
  some (r33, u33_0, f_a0_calls_ends, f_a0_calls_answers)
def F_X9_late_b26  (a0_shop_late : Int32) : Option (Int32 × Int32 × Int32) :=
  bnd2 (F_X9_refused (2 : Int32)) fun r28 u28_0 =>
  some (r28, u28_0, a0_shop_late)
def F_X9_late (a0_shop_told : Int32) (a0_shop_late : Int32) (v1 : Int32) : Option (Int32 × Int32 × Int32) :=
  if a0_shop_told = 0 then
    bnd2 (F_X9_refused (1 : Int32)) fun r12 u12_0 =>
    some (r12, u12_0, a0_shop_late)
  else
  if v1 < 0 then
    F_X9_late_b26 a0_shop_late
  else
  if v1 ≤ (99 : Int32) then
    bnd2 (F_X9_answered a0_shop_late) fun r50 u50_0 =>
    some (r50, u50_0, v1)
  else
    F_X9_late_b26 a0_shop_late
def F_X9_call_b21   : Option (Int32 × Int32) :=
  bnd2 (F_X9_refused (1 : Int32)) fun r23 u23_0 =>
  some (r23, u23_0)
def F_X9_call (a0_calls_n : Int32) (f_a0_calls_cashiers : Nat → Int32) (f_a0_calls_tills : Nat → Int32) (f_a0_calls_acts : Nat → Int32) (f_a0_calls_wholes : Nat → Int32) (f_a0_calls_begins : Nat → Int32) (f_a0_calls_ends : Nat → Int32) (f_a0_calls_answers : Nat → Int32) (v1 : Int32) (v2 : Int32) : Option (Int32 × Int32) :=
  bnd1 (F_X0_has a0_calls_n v1) fun r5 =>
  if r5 = 0 then
    F_X9_call_b21
  else
  if v2 < 0 then
    F_X9_call_b21
  else
  if v2 ≤ (6 : Int32) then
    bnd1 (F_X0_seen f_a0_calls_cashiers f_a0_calls_tills f_a0_calls_acts f_a0_calls_wholes f_a0_calls_begins f_a0_calls_ends f_a0_calls_answers v1 v2) fun r34 =>
    bnd2 (F_X9_answered r34) fun r37 u37_0 =>
    some (r37, u37_0)
  else
    F_X9_call_b21
def F_X9_told (fu : Nat) (a0_markCount : Int32) (a0_seedNow : Int32) (a0_shop_tills : Int32) (a0_shop_cashiers : Int32) (a0_shop_late : Int32) (a0_calls_n : Int32) (f_a0_calls_ends : Nat → Int32) (a0_reader_tape_fed : Int32) (v1 : Int32) : Option (Int32) :=
  if v1 = (0 : Int32) then
    some a0_shop_tills
  else
  if v1 = (1 : Int32) then
    some a0_shop_cashiers
  else
  if v1 = (2 : Int32) then
    some a0_calls_n
  else
  if v1 = (3 : Int32) then
    bnd1 (F_X0_endedOnes fu a0_calls_n f_a0_calls_ends) fun r83 =>
    bnd1 (F_J6_bitCount_0f7a4 r83) fun r86 =>
    some (a0_calls_n - r86)
  else
  if v1 = (4 : Int32) then
    some a0_shop_late
  else
  if v1 = (5 : Int32) then
    some a0_seedNow
  else
  if v1 = (6 : Int32) then
    some a0_markCount
  else
  if v1 = (7 : Int32) then
    some a0_reader_tape_fed
  else
    some (-1 : Int32)
def F_X9_trouble (a0_lastTrouble : Int32) : Option (Int32) :=
  some a0_lastTrouble
