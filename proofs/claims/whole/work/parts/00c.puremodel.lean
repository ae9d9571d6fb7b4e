def F_X10_thrown (a0_thrown : Int32) : Option (Int32) :=
  some a0_thrown
def F_X10_good  : Option (Int32 × Int32) :=
  some ((0 : Int32), (0 : Int32))
def F_X10_no (v1 : Int32) : Option (Int32 × Int32) :=
  some ((-1 : Int32), v1)
def F_X10_isNot (v1 : Int32) : Option (Int32 × Int32) :=
  some ((0 : Int32), v1)
def F_X10_within (v0 : Int32) (v1 : Int32) (v2 : Int32) : Option (Int32) :=
  if v0 < v1 then
    some (0 : Int32)
  else
  if v2 < v0 then
    some (0 : Int32)
  else
    some (1 : Int32)
def F_X10_has (v0 : Int32) (v1 : Int32) : Option (Int32) :=
  if ((v0 >>> (v1 &&& 31)) &&& (1 : Int32)) = (1 : Int32) then
    some (1 : Int32)
  else
    some (0 : Int32)
def F_X10_bits_b4  (v0 : Int32) : Nat → Int32 → Int32 → Option (Int32)
  | 0, _, _ => none
  | kf + 1, v1, v2 =>
    if (20 : Int32) ≤ v2 then
      some v1
    else
      (F_X10_bits_b4 v0 kf) ((v1 + ((v0 >>> (v2 &&& 31)) &&& (1 : Int32)))) ((v2 + (1 : Int32)))
def F_X10_bits (fu : Nat) (v0 : Int32) : Option (Int32) :=
  F_X10_bits_b4 v0 fu (0 : Int32) (0 : Int32)
def F_X10_copy_b3  (n0 : Nat) (n2 : Nat) (f_a0 : Nat → Int32) (v1 : Int32) (v3 : Int32) (v4 : Int32) : Nat → (Nat → Int32) → Int32 → Option ((Nat → Int32))
  | 0, _, _ => none
  | kf + 1, f_a2, v5 =>
    if v4 ≤ v5 then
      some f_a2
    else
    if (v1 + v5) < 0 ∨ n0 ≤ (v1 + v5).toNatClampNeg then none else
    if (v3 + v5) < 0 ∨ n2 ≤ (v3 + v5).toNatClampNeg then none else
    (F_X10_copy_b3 n0 n2 f_a0 v1 v3 v4 kf) ((upd f_a2 (v3 + v5).toNatClampNeg (f_a0 (v1 + v5).toNatClampNeg))) ((v5 + (1 : Int32)))
def F_X10_copy (fu : Nat) (n0 : Nat) (n2 : Nat) (f_a0 : Nat → Int32) (f_a2 : Nat → Int32) (v1 : Int32) (v3 : Int32) (v4 : Int32) : Option ((Nat → Int32)) :=
  F_X10_copy_b3 n0 n2 f_a0 v1 v3 v4 fu f_a2 (0 : Int32)
def F_X10_feed_b76 (k23 : Int32 → (Nat → Int32) → Int32 → Option (Int32 × Int32 × Int32 × (Nat → Int32))) (a0_thrown : Int32) (a0_taped : Int32) (f_a0_tape : Nat → Int32) (v1 : Int32) (v2 : Int32) (v3 : Int32) (v4 : Int32) (v5 : Int32) (v6 : Int32) (t0 : Int32) : Option (Int32 × Int32 × Int32 × (Nat → Int32)) :=
  if a0_taped < 0 ∨ 900 ≤ a0_taped.toNatClampNeg then none else
  k23 ((a0_taped + (1 : Int32))) ((upd f_a0_tape a0_taped.toNatClampNeg ((t0 >>> (((24 : Int32) - ((8 : Int32) * (v6 - v6 / (4 : Int32) * (4 : Int32)))) &&& 31)) &&& (255 : Int32)))) ((v6 + (1 : Int32)))
def F_X10_feed_b23  (a0_thrown : Int32) (v1 : Int32) (v2 : Int32) (v3 : Int32) (v4 : Int32) (v5 : Int32) : Nat → Int32 → (Nat → Int32) → Int32 → Option (Int32 × Int32 × Int32 × (Nat → Int32))
  | 0, _, _, _ => none
  | kf + 1, a0_taped, f_a0_tape, v6 =>
    if (20 : Int32) ≤ v6 then
      some (a0_taped, a0_thrown, a0_taped, f_a0_tape)
    else
    if (4 : Int32) ≤ v6 then
      if (8 : Int32) ≤ v6 then
        if (12 : Int32) ≤ v6 then
          if (16 : Int32) ≤ v6 then
            F_X10_feed_b76 (F_X10_feed_b23 a0_thrown v1 v2 v3 v4 v5 kf) a0_thrown a0_taped f_a0_tape v1 v2 v3 v4 v5 v6 v5
          else
            F_X10_feed_b76 (F_X10_feed_b23 a0_thrown v1 v2 v3 v4 v5 kf) a0_thrown a0_taped f_a0_tape v1 v2 v3 v4 v5 v6 v4
        else
          F_X10_feed_b76 (F_X10_feed_b23 a0_thrown v1 v2 v3 v4 v5 kf) a0_thrown a0_taped f_a0_tape v1 v2 v3 v4 v5 v6 v3
      else
        F_X10_feed_b76 (F_X10_feed_b23 a0_thrown v1 v2 v3 v4 v5 kf) a0_thrown a0_taped f_a0_tape v1 v2 v3 v4 v5 v6 v2
    else
      F_X10_feed_b76 (F_X10_feed_b23 a0_thrown v1 v2 v3 v4 v5 kf) a0_thrown a0_taped f_a0_tape v1 v2 v3 v4 v5 v6 v1
def F_X10_feed (fu : Nat) (a0_taped : Int32) (f_a0_tape : Nat → Int32) (v1 : Int32) (v2 : Int32) (v3 : Int32) (v4 : Int32) (v5 : Int32) : Option (Int32 × Int32 × Int32 × (Nat → Int32)) :=
  if (a0_taped + (20 : Int32)) ≤ (900 : Int32) then
    F_X10_feed_b23 (0 : Int32) v1 v2 v3 v4 v5 fu a0_taped f_a0_tape (0 : Int32)
  else
    some ((-1 : Int32), (0 : Int32), a0_taped, f_a0_tape)
def F_X10_look (a0_size : Int32) (f_a0_tape : Nat → Int32) (v1 : Int32) : Option (Int32) :=
  if a0_size ≤ v1 then
    some (-1 : Int32)
  else
  if v1 < 0 ∨ 900 ≤ v1.toNatClampNeg then none else
  some (f_a0_tape v1.toNatClampNeg)
def F_X10_isSmall (v0 : Int32) : Option (Int32) :=
  if v0 < (97 : Int32) then
    some (0 : Int32)
  else
  if (122 : Int32) < v0 then
    some (0 : Int32)
  else
    some (1 : Int32)
def F_X10_isDigit (v0 : Int32) : Option (Int32) :=
  if v0 < (48 : Int32) then
    some (0 : Int32)
  else
  if (57 : Int32) < v0 then
    some (0 : Int32)
  else
    some (1 : Int32)
def F_X10_next_b244  (a0_at : Int32) (a0_end : Int32) (a0_whole : Int32) (a0_nameSize : Int32) (f_a0_letters : Nat → Int32) (t0 : Int32) : Option (Int32 × Int32 × Int32 × Int32 × Int32 × (Nat → Int32)) :=
  some (a0_at, a0_end, t0, a0_whole, a0_nameSize, f_a0_letters)
def F_X10_next_b239  (a0_at : Int32) (a0_end : Int32) (a0_whole : Int32) (a0_nameSize : Int32) (f_a0_letters : Nat → Int32) (v2 : Int32) : Option (Int32 × Int32 × Int32 × Int32 × Int32 × (Nat → Int32)) :=
  F_X10_next_b244 a0_at a0_end a0_whole a0_nameSize f_a0_letters v2
def F_X10_next_b213  (a0_at : Int32) (a0_end : Int32) (a0_whole : Int32) (a0_nameSize : Int32) (f_a0_letters : Nat → Int32) (t0 : Int32) : Option (Int32 × Int32 × Int32 × Int32 × Int32 × (Nat → Int32)) :=
  some (a0_at, a0_end, t0, a0_whole, a0_nameSize, f_a0_letters)
def F_X10_next_b188 (k152 : Int32 → Int32 → Int32 → Option (Int32 × Int32 × Int32 × Int32 × Int32 × (Nat → Int32))) (a0_size : Int32) (a0_at : Int32) (a0_whole : Int32) (a0_nameSize : Int32) (f_a0_tape : Nat → Int32) (f_a0_letters : Nat → Int32) (v1 : Int32) (v3 : Int32) : Option (Int32 × Int32 × Int32 × Int32 × Int32 × (Nat → Int32)) :=
  k152 a0_whole ((v1 + (1 : Int32))) ((v3 + (1 : Int32)))
def F_X10_next_b152  (a0_size : Int32) (a0_at : Int32) (a0_nameSize : Int32) (f_a0_tape : Nat → Int32) (f_a0_letters : Nat → Int32) : Nat → Int32 → Int32 → Int32 → Option (Int32 × Int32 × Int32 × Int32 × Int32 × (Nat → Int32))
  | 0, _, _, _ => none
  | kf + 1, a0_whole, v1, v3 =>
    bnd1 (F_X10_look a0_size f_a0_tape v1) fun r154 =>
    bnd1 (F_X10_isDigit r154) fun r157 =>
    if r157 = 0 then
      if v3 ≤ (3 : Int32) then
        F_X10_next_b213 a0_at v1 a0_whole a0_nameSize f_a0_letters (3 : Int32)
      else
        F_X10_next_b213 a0_at v1 a0_whole a0_nameSize f_a0_letters (1 : Int32)
    else
    if (3 : Int32) ≤ v3 then
      F_X10_next_b188 (F_X10_next_b152 a0_size a0_at a0_nameSize f_a0_tape f_a0_letters kf) a0_size a0_at a0_whole a0_nameSize f_a0_tape f_a0_letters v1 v3
    else
    bnd1 (F_X10_look a0_size f_a0_tape v1) fun r178 =>
    F_X10_next_b188 (F_X10_next_b152 a0_size a0_at a0_nameSize f_a0_tape f_a0_letters kf) a0_size a0_at (((((10 : Int32) * a0_whole) + r178) - (48 : Int32))) a0_nameSize f_a0_tape f_a0_letters v1 v3
def F_X10_next_b137  (a0_at : Int32) (a0_end : Int32) (a0_whole : Int32) (a0_nameSize : Int32) (f_a0_letters : Nat → Int32) (t0 : Int32) : Option (Int32 × Int32 × Int32 × Int32 × Int32 × (Nat → Int32)) :=
  some (a0_at, a0_end, t0, a0_whole, a0_nameSize, f_a0_letters)
def F_X10_next_b101 (k67 : Int32 → (Nat → Int32) → Int32 → Option (Int32 × Int32 × Int32 × Int32 × Int32 × (Nat → Int32))) (a0_size : Int32) (a0_at : Int32) (a0_whole : Int32) (a0_nameSize : Int32) (f_a0_tape : Nat → Int32) (f_a0_letters : Nat → Int32) (v1 : Int32) : Option (Int32 × Int32 × Int32 × Int32 × Int32 × (Nat → Int32)) :=
  k67 ((a0_nameSize + (1 : Int32))) f_a0_letters ((v1 + (1 : Int32)))
def F_X10_next_b67  (a0_size : Int32) (a0_at : Int32) (a0_whole : Int32) (f_a0_tape : Nat → Int32) : Nat → Int32 → (Nat → Int32) → Int32 → Option (Int32 × Int32 × Int32 × Int32 × Int32 × (Nat → Int32))
  | 0, _, _, _ => none
  | kf + 1, a0_nameSize, f_a0_letters, v1 =>
    bnd1 (F_X10_look a0_size f_a0_tape v1) fun r69 =>
    bnd1 (F_X10_isSmall r69) fun r72 =>
    if r72 = 0 then
      if a0_nameSize ≤ (8 : Int32) then
        F_X10_next_b137 a0_at v1 a0_whole a0_nameSize f_a0_letters (2 : Int32)
      else
        F_X10_next_b137 a0_at v1 a0_whole a0_nameSize f_a0_letters (1 : Int32)
    else
    if (8 : Int32) ≤ a0_nameSize then
      F_X10_next_b101 (F_X10_next_b67 a0_size a0_at a0_whole f_a0_tape kf) a0_size a0_at a0_whole a0_nameSize f_a0_tape f_a0_letters v1
    else
    bnd1 (F_X10_look a0_size f_a0_tape v1) fun r97 =>
    if a0_nameSize < 0 ∨ 8 ≤ a0_nameSize.toNatClampNeg then none else
    F_X10_next_b101 (F_X10_next_b67 a0_size a0_at a0_whole f_a0_tape kf) a0_size a0_at a0_whole a0_nameSize f_a0_tape (upd f_a0_letters a0_nameSize.toNatClampNeg r97) v1
def F_X10_next_b5  (fu : Nat) (a0_size : Int32) (f_a0_tape : Nat → Int32) (f_a0_letters : Nat → Int32) : Nat → Int32 → Option (Int32 × Int32 × Int32 × Int32 × Int32 × (Nat → Int32))
  | 0, _ => none
  | kf + 1, v1 =>
    bnd1 (F_X10_look a0_size f_a0_tape v1) fun r7 =>
    if r7 = (32 : Int32) then
      (F_X10_next_b5 fu a0_size f_a0_tape f_a0_letters kf) ((v1 + (1 : Int32)))
    else
    bnd1 (F_X10_look a0_size f_a0_tape v1) fun r28 =>
    if r28 = (-1 : Int32) then
      some (v1, v1, (0 : Int32), (0 : Int32), (0 : Int32), f_a0_letters)
    else
    bnd1 (F_X10_isSmall r28) fun r61 =>
    if r61 = 0 then
      bnd1 (F_X10_isDigit r28) fun r144 =>
      if r144 = 0 then
        if r28 = (59 : Int32) then
          F_X10_next_b239 v1 ((v1 + (1 : Int32))) (0 : Int32) (0 : Int32) f_a0_letters r28
        else
        if r28 = (44 : Int32) then
          F_X10_next_b239 v1 ((v1 + (1 : Int32))) (0 : Int32) (0 : Int32) f_a0_letters r28
        else
          F_X10_next_b244 v1 ((v1 + (1 : Int32))) (0 : Int32) (0 : Int32) f_a0_letters (1 : Int32)
      else
        F_X10_next_b152 a0_size v1 (0 : Int32) f_a0_tape f_a0_letters fu (0 : Int32) v1 (0 : Int32)
    else
      F_X10_next_b67 a0_size v1 (0 : Int32) f_a0_tape fu (0 : Int32) f_a0_letters v1
def F_X10_next (fu : Nat) (a0_size : Int32) (a0_end : Int32) (f_a0_tape : Nat → Int32) (f_a0_letters : Nat → Int32) : Option (Int32 × Int32 × Int32 × Int32 × Int32 × (Nat → Int32)) :=
  F_X10_next_b5 fu a0_size f_a0_tape f_a0_letters fu a0_end
def F_X10_wrong (a0_fault : Int32) (a0_place : Int32) (a0_failed : Int32) (v1 : Int32) (v2 : Int32) : Option (Int32 × Int32 × Int32) :=
  if a0_failed = 0 then
    some (v1, v2, (1 : Int32))
  else
    some (a0_fault, a0_place, a0_failed)
def F_X10_isWord_b63 (k32 : Int32 → Int32 → Option (Int32)) (a0_nameSize : Int32) (f_a0_letters : Nat → Int32) (v1 : Nat) (v3 : Int32) (t0 : Int32) : Option (Int32) :=
  k32 t0 ((v3 + (1 : Int32)))
def F_X10_isWord_b62 (k32 : Int32 → Int32 → Option (Int32)) (a0_nameSize : Int32) (f_a0_letters : Nat → Int32) (v1 : Nat) (v3 : Int32) : Option (Int32) :=
  F_X10_isWord_b63 k32 a0_nameSize f_a0_letters v1 v3 (0 : Int32)
def F_X10_isWord_b32  (a0_nameSize : Int32) (f_a0_letters : Nat → Int32) (v1 : Nat) : Nat → Int32 → Int32 → Option (Int32)
  | 0, _, _ => none
  | kf + 1, v2, v3 =>
    if a0_nameSize ≤ v3 then
      if ¬ (v2 = 0 ∨ v2 = 1) then none else
      some v2
    else
    if v2 = 0 then
      F_X10_isWord_b62 (F_X10_isWord_b32 a0_nameSize f_a0_letters v1 kf) a0_nameSize f_a0_letters v1 v3
    else
    if v3 < 0 ∨ 8 ≤ v3.toNatClampNeg then none else
    if v3 < 0 ∨ lenS.getD v1 0 ≤ v3.toNatClampNeg then none else
    if (f_a0_letters v3.toNatClampNeg) = (sCh v1 v3.toNatClampNeg) then
      F_X10_isWord_b63 (F_X10_isWord_b32 a0_nameSize f_a0_letters v1 kf) a0_nameSize f_a0_letters v1 v3 (1 : Int32)
    else
      F_X10_isWord_b62 (F_X10_isWord_b32 a0_nameSize f_a0_letters v1 kf) a0_nameSize f_a0_letters v1 v3
def F_X10_isWord (fu : Nat) (a0_token : Int32) (a0_nameSize : Int32) (a0_failed : Int32) (f_a0_letters : Nat → Int32) (v1 : Nat) : Option (Int32) :=
  if a0_failed = 0 then
    if a0_token = (2 : Int32) then
      if a0_nameSize = (sLen v1) then
        F_X10_isWord_b32 a0_nameSize f_a0_letters v1 fu (1 : Int32) (0 : Int32)
      else
        some (0 : Int32)
    else
      some (0 : Int32)
  else
    some (0 : Int32)
def F_X10_takes (fu : Nat) (a0_size : Int32) (a0_at : Int32) (a0_end : Int32) (a0_token : Int32) (a0_whole : Int32) (a0_nameSize : Int32) (a0_failed : Int32) (f_a0_letters : Nat → Int32) (f_a0_tape : Nat → Int32) (v1 : Nat) : Option (Int32 × Int32 × Int32 × Int32 × Int32 × Int32 × (Nat → Int32)) :=
  bnd1 (F_X10_isWord fu a0_token a0_nameSize a0_failed f_a0_letters v1) fun r2 =>
  if r2 = 0 then
    some ((0 : Int32), a0_at, a0_end, a0_token, a0_whole, a0_nameSize, f_a0_letters)
  else
  bnd6 (F_X10_next fu a0_size a0_end f_a0_tape f_a0_letters) fun u11_0 u11_1 u11_2 u11_3 u11_4 u11_5 =>
  some ((1 : Int32), u11_0, u11_1, u11_2, u11_3, u11_4, u11_5)
def F_X10_pass (fu : Nat) (a0_size : Int32) (a0_at : Int32) (a0_end : Int32) (a0_token : Int32) (a0_whole : Int32) (a0_nameSize : Int32) (a0_fault : Int32) (a0_place : Int32) (a0_failed : Int32) (f_a0_letters : Nat → Int32) (f_a0_tape : Nat → Int32) (v1 : Nat) : Option (Int32 × Int32 × Int32 × Int32 × Int32 × Int32 × Int32 × Int32 × (Nat → Int32)) :=
  if a0_failed = 0 then
    bnd7 (F_X10_takes fu a0_size a0_at a0_end a0_token a0_whole a0_nameSize a0_failed f_a0_letters f_a0_tape v1) fun r9 u9_0 u9_1 u9_2 u9_3 u9_4 u9_5 =>
    if r9 = 0 then
      bnd3 (F_X10_wrong a0_fault a0_place a0_failed (1 : Int32) u9_0) fun u21_0 u21_1 u21_2 =>
      some (u9_0, u9_1, u9_2, u9_3, u9_4, u21_0, u21_1, u21_2, u9_5)
    else
      some (u9_0, u9_1, u9_2, u9_3, u9_4, a0_fault, a0_place, a0_failed, u9_5)
  else
    some (a0_at, a0_end, a0_token, a0_whole, a0_nameSize, a0_fault, a0_place, a0_failed, f_a0_letters)
def F_X10_mustName_b63  (a0_at : Int32) (a0_fault : Int32) (a0_place : Int32) (a0_failed : Int32) : Option (Int32 × Int32 × Int32) :=
  bnd3 (F_X10_wrong a0_fault a0_place a0_failed (1 : Int32) a0_at) fun u69_0 u69_1 u69_2 =>
  some (u69_0, u69_1, u69_2)
def F_X10_mustName_b50  (a0_at : Int32) (a0_token : Int32) (a0_fault : Int32) (a0_place : Int32) (a0_failed : Int32) (t0 : Int32) : Option (Int32 × Int32 × Int32) :=
  if a0_token = (2 : Int32) then
    if t0 = 0 then
      some (a0_fault, a0_place, a0_failed)
    else
      F_X10_mustName_b63 a0_at a0_fault a0_place a0_failed
  else
    F_X10_mustName_b63 a0_at a0_fault a0_place a0_failed
def F_X10_mustName_b45  (a0_at : Int32) (a0_token : Int32) (a0_fault : Int32) (a0_place : Int32) (a0_failed : Int32) : Option (Int32 × Int32 × Int32) :=
  F_X10_mustName_b50 a0_at a0_token a0_fault a0_place a0_failed (1 : Int32)
def F_X10_mustName (fu : Nat) (a0_at : Int32) (a0_token : Int32) (a0_nameSize : Int32) (a0_fault : Int32) (a0_place : Int32) (a0_failed : Int32) (f_a0_letters : Nat → Int32) : Option (Int32 × Int32 × Int32) :=
  bnd1 (F_X10_isWord fu a0_token a0_nameSize a0_failed f_a0_letters 23) fun r3 =>
  if r3 = 0 then
    bnd1 (F_X10_isWord fu a0_token a0_nameSize a0_failed f_a0_letters 25) fun r12 =>
    if r12 = 0 then
      bnd1 (F_X10_isWord fu a0_token a0_nameSize a0_failed f_a0_letters 26) fun r21 =>
      if r21 = 0 then
        bnd1 (F_X10_isWord fu a0_token a0_nameSize a0_failed f_a0_letters 27) fun r30 =>
        if r30 = 0 then
          bnd1 (F_X10_isWord fu a0_token a0_nameSize a0_failed f_a0_letters 28) fun r39 =>
          if r39 = 0 then
            F_X10_mustName_b50 a0_at a0_token a0_fault a0_place a0_failed (0 : Int32)
          else
            F_X10_mustName_b45 a0_at a0_token a0_fault a0_place a0_failed
        else
          F_X10_mustName_b45 a0_at a0_token a0_fault a0_place a0_failed
      else
        F_X10_mustName_b45 a0_at a0_token a0_fault a0_place a0_failed
    else
      F_X10_mustName_b45 a0_at a0_token a0_fault a0_place a0_failed
  else
    F_X10_mustName_b45 a0_at a0_token a0_fault a0_place a0_failed
def F_X10_find_b91 (k2 : Int32 → Option (Int32)) (fu : Nat) (a0_nameSize : Int32) (f_a0_fresh : Nat → Int32) (f_a0_letters : Nat → Int32) (v1 : Int32) (v2 : Int32) : Option (Int32) :=
  if v2 = 0 then
    k2 ((v1 + (1 : Int32)))
  else
    some v1
def F_X10_find_b84 (k2 : Int32 → Option (Int32)) (k44 : Int32 → Int32 → Option (Int32)) (fu : Nat) (a0_nameSize : Int32) (f_a0_fresh : Nat → Int32) (f_a0_letters : Nat → Int32) (v1 : Int32) (t0 : Int32) (v3 : Int32) : Option (Int32) :=
  k44 t0 ((v3 + (1 : Int32)))
def F_X10_find_b44 (k2 : Int32 → Option (Int32)) (fu : Nat) (a0_nameSize : Int32) (f_a0_fresh : Nat → Int32) (f_a0_letters : Nat → Int32) (v1 : Int32) : Nat → Int32 → Int32 → Option (Int32)
  | 0, _, _ => none
  | kf + 1, v2, v3 =>
    if a0_nameSize ≤ v3 then
      F_X10_find_b91 k2 fu a0_nameSize f_a0_fresh f_a0_letters v1 v2
    else
    if v2 = 0 then
      F_X10_find_b91 k2 fu a0_nameSize f_a0_fresh f_a0_letters v1 v2
    else
    if (((14 : Int32) + ((8 : Int32) * v1)) + v3) < 0 ∨ 70 ≤ ((((14 : Int32) + ((8 : Int32) * v1)) + v3)).toNatClampNeg then none else
    if v3 < 0 ∨ 8 ≤ v3.toNatClampNeg then none else
    if (f_a0_fresh ((((14 : Int32) + ((8 : Int32) * v1)) + v3)).toNatClampNeg) = (f_a0_letters v3.toNatClampNeg) then
      F_X10_find_b84 k2 (F_X10_find_b44 k2 fu a0_nameSize f_a0_fresh f_a0_letters v1 kf) fu a0_nameSize f_a0_fresh f_a0_letters v1 (1 : Int32) v3
    else
      F_X10_find_b84 k2 (F_X10_find_b44 k2 fu a0_nameSize f_a0_fresh f_a0_letters v1 kf) fu a0_nameSize f_a0_fresh f_a0_letters v1 (0 : Int32) v3
def F_X10_find_b41 (k2 : Int32 → Option (Int32)) (fu : Nat) (a0_nameSize : Int32) (f_a0_fresh : Nat → Int32) (f_a0_letters : Nat → Int32) (v1 : Int32) (t0 : Int32) : Option (Int32) :=
  F_X10_find_b44 k2 fu a0_nameSize f_a0_fresh f_a0_letters v1 fu t0 (0 : Int32)
def F_X10_find_b40 (k2 : Int32 → Option (Int32)) (fu : Nat) (a0_nameSize : Int32) (f_a0_fresh : Nat → Int32) (f_a0_letters : Nat → Int32) (v1 : Int32) : Option (Int32) :=
  F_X10_find_b41 k2 fu a0_nameSize f_a0_fresh f_a0_letters v1 (0 : Int32)
def F_X10_find_b2  (fu : Nat) (a0_nameSize : Int32) (f_a0_fresh : Nat → Int32) (f_a0_letters : Nat → Int32) : Nat → Int32 → Option (Int32)
  | 0, _ => none
  | kf + 1, v1 =>
    if (7 : Int32) ≤ v1 then
      some (-1 : Int32)
    else
    if ((7 : Int32) + v1) < 0 ∨ 70 ≤ (((7 : Int32) + v1)).toNatClampNeg then none else
    if (f_a0_fresh (((7 : Int32) + v1)).toNatClampNeg) ≤ 0 then
      F_X10_find_b40 (F_X10_find_b2 fu a0_nameSize f_a0_fresh f_a0_letters kf) fu a0_nameSize f_a0_fresh f_a0_letters v1
    else
    if ((7 : Int32) + v1) < 0 ∨ 70 ≤ (((7 : Int32) + v1)).toNatClampNeg then none else
    if (f_a0_fresh (((7 : Int32) + v1)).toNatClampNeg) = a0_nameSize then
      F_X10_find_b41 (F_X10_find_b2 fu a0_nameSize f_a0_fresh f_a0_letters kf) fu a0_nameSize f_a0_fresh f_a0_letters v1 (1 : Int32)
    else
      F_X10_find_b40 (F_X10_find_b2 fu a0_nameSize f_a0_fresh f_a0_letters kf) fu a0_nameSize f_a0_fresh f_a0_letters v1
def F_X10_find (fu : Nat) (a0_nameSize : Int32) (f_a0_fresh : Nat → Int32) (f_a0_letters : Nat → Int32) : Option (Int32) :=
  F_X10_find_b2 fu a0_nameSize f_a0_fresh f_a0_letters fu (0 : Int32)
def F_X10_keepName_b2  (a0_nameSize : Int32) (f_a0_letters : Nat → Int32) (v1 : Int32) : Nat → (Nat → Int32) → Int32 → Option ((Nat → Int32))
  | 0, _, _ => none
  | kf + 1, f_a0_fresh, v2 =>
    if a0_nameSize ≤ v2 then
      if ((7 : Int32) + v1) < 0 ∨ 70 ≤ (((7 : Int32) + v1)).toNatClampNeg then none else
      some ((upd f_a0_fresh (((7 : Int32) + v1)).toNatClampNeg a0_nameSize))
    else
    if v2 < 0 ∨ 8 ≤ v2.toNatClampNeg then none else
    if (((14 : Int32) + ((8 : Int32) * v1)) + v2) < 0 ∨ 70 ≤ ((((14 : Int32) + ((8 : Int32) * v1)) + v2)).toNatClampNeg then none else
    (F_X10_keepName_b2 a0_nameSize f_a0_letters v1 kf) ((upd f_a0_fresh ((((14 : Int32) + ((8 : Int32) * v1)) + v2)).toNatClampNeg (f_a0_letters v2.toNatClampNeg))) ((v2 + (1 : Int32)))
def F_X10_keepName (fu : Nat) (a0_nameSize : Int32) (f_a0_fresh : Nat → Int32) (f_a0_letters : Nat → Int32) (v1 : Int32) : Option ((Nat → Int32)) :=
  F_X10_keepName_b2 a0_nameSize f_a0_letters v1 fu f_a0_fresh (0 : Int32)
def F_X10_named_b54  (a0_fault : Int32) (a0_place : Int32) (a0_failed : Int32) (v1 : Int32) (v2 : Int32) : Option (Int32 × Int32 × Int32 × Int32) :=
  if a0_failed = 0 then
    if v1 = 0 then
      some ((v2 - (3 : Int32)), a0_fault, a0_place, a0_failed)
    else
      some (v2, a0_fault, a0_place, a0_failed)
  else
    some ((0 : Int32), a0_fault, a0_place, a0_failed)
def F_X10_named_b45  (a0_at : Int32) (a0_fault : Int32) (a0_place : Int32) (a0_failed : Int32) (v1 : Int32) (v2 : Int32) : Option (Int32 × Int32 × Int32 × Int32) :=
  bnd3 (F_X10_wrong a0_fault a0_place a0_failed (2 : Int32) a0_at) fun u51_0 u51_1 u51_2 =>
  F_X10_named_b54 u51_0 u51_1 u51_2 v1 v2
def F_X10_named_b42  (a0_at : Int32) (a0_fault : Int32) (a0_place : Int32) (a0_failed : Int32) (v1 : Int32) (v2 : Int32) (t0 : Int32) (t1 : Int32) : Option (Int32 × Int32 × Int32 × Int32) :=
  if t1 = t0 then
    F_X10_named_b54 a0_fault a0_place a0_failed v1 v2
  else
    F_X10_named_b45 a0_at a0_fault a0_place a0_failed v1 v2
def F_X10_named (fu : Nat) (a0_at : Int32) (a0_token : Int32) (a0_nameSize : Int32) (a0_fault : Int32) (a0_place : Int32) (a0_failed : Int32) (f_a0_letters : Nat → Int32) (f_a0_fresh : Nat → Int32) (v1 : Int32) : Option (Int32 × Int32 × Int32 × Int32) :=
  if a0_failed = 0 then
    bnd3 (F_X10_mustName fu a0_at a0_token a0_nameSize a0_fault a0_place a0_failed f_a0_letters) fun u10_0 u10_1 u10_2 =>
    if u10_2 = 0 then
      bnd1 (F_X10_find fu a0_nameSize f_a0_fresh f_a0_letters) fun r23 =>
      if r23 < 0 then
        F_X10_named_b45 a0_at u10_0 u10_1 u10_2 v1 r23
      else
      if (3 : Int32) ≤ r23 then
        F_X10_named_b42 a0_at u10_0 u10_1 u10_2 v1 r23 (0 : Int32) v1
      else
        F_X10_named_b42 a0_at u10_0 u10_1 u10_2 v1 r23 (1 : Int32) v1
    else
      some ((0 : Int32), u10_0, u10_1, u10_2)
  else
    some ((0 : Int32), a0_fault, a0_place, a0_failed)
def F_X10_number (fu : Nat) (a0_size : Int32) (a0_at : Int32) (a0_end : Int32) (a0_token : Int32) (a0_whole : Int32) (a0_nameSize : Int32) (a0_fault : Int32) (a0_place : Int32) (a0_failed : Int32) (f_a0_tape : Nat → Int32) (f_a0_letters : Nat → Int32) (v1 : Int32) (v2 : Int32) : Option (Int32 × Int32 × Int32 × Int32 × Int32 × Int32 × Int32 × Int32 × Int32 × (Nat → Int32)) :=
  if a0_failed = 0 then
    if a0_token = (3 : Int32) then
      bnd1 (F_X10_within a0_whole v1 v2) fun r36 =>
      if r36 = 0 then
        bnd3 (F_X10_wrong a0_fault a0_place a0_failed (4 : Int32) a0_at) fun u48_0 u48_1 u48_2 =>
        some (v1, a0_at, a0_end, a0_token, a0_whole, a0_nameSize, u48_0, u48_1, u48_2, f_a0_letters)
      else
      bnd6 (F_X10_next fu a0_size a0_end f_a0_tape f_a0_letters) fun u54_0 u54_1 u54_2 u54_3 u54_4 u54_5 =>
      some (a0_whole, u54_0, u54_1, u54_2, u54_3, u54_4, a0_fault, a0_place, a0_failed, u54_5)
    else
    bnd3 (F_X10_wrong a0_fault a0_place a0_failed (1 : Int32) a0_at) fun u23_0 u23_1 u23_2 =>
    some (v1, a0_at, a0_end, a0_token, a0_whole, a0_nameSize, u23_0, u23_1, u23_2, f_a0_letters)
  else
    some (v1, a0_at, a0_end, a0_token, a0_whole, a0_nameSize, a0_fault, a0_place, a0_failed, f_a0_letters)
def F_X10_comma (fu : Nat) (a0_size : Int32) (a0_at : Int32) (a0_end : Int32) (a0_token : Int32) (a0_whole : Int32) (a0_nameSize : Int32) (a0_failed : Int32) (f_a0_tape : Nat → Int32) (f_a0_letters : Nat → Int32) : Option (Int32 × Int32 × Int32 × Int32 × Int32 × Int32 × (Nat → Int32)) :=
  if a0_failed = 0 then
    if a0_token = (44 : Int32) then
      bnd6 (F_X10_next fu a0_size a0_end f_a0_tape f_a0_letters) fun u19_0 u19_1 u19_2 u19_3 u19_4 u19_5 =>
      some ((1 : Int32), u19_0, u19_1, u19_2, u19_3, u19_4, u19_5)
    else
      some ((0 : Int32), a0_at, a0_end, a0_token, a0_whole, a0_nameSize, f_a0_letters)
  else
    some ((0 : Int32), a0_at, a0_end, a0_token, a0_whole, a0_nameSize, f_a0_letters)
def F_X10_begins_b23  (fu : Nat) (a0_size : Int32) (a0_at : Int32) (a0_end : Int32) (a0_token : Int32) (a0_whole : Int32) (a0_nameSize : Int32) (a0_fault : Int32) (a0_place : Int32) (a0_failed : Int32) (f_a0_letters : Nat → Int32) (f_a0_tape : Nat → Int32) : Option (Int32 × Int32 × Int32 × Int32 × Int32 × Int32 × Int32 × Int32 × Int32 × (Nat → Int32)) :=
  if a0_failed = 0 then
    bnd6 (F_X10_next fu a0_size a0_end f_a0_tape f_a0_letters) fun u31_0 u31_1 u31_2 u31_3 u31_4 u31_5 =>
    some ((1 : Int32), u31_0, u31_1, u31_2, u31_3, u31_4, a0_fault, a0_place, a0_failed, u31_5)
  else
    some ((1 : Int32), a0_at, a0_end, a0_token, a0_whole, a0_nameSize, a0_fault, a0_place, a0_failed, f_a0_letters)
def F_X10_begins (fu : Nat) (a0_size : Int32) (a0_at : Int32) (a0_end : Int32) (a0_token : Int32) (a0_whole : Int32) (a0_nameSize : Int32) (a0_fault : Int32) (a0_place : Int32) (a0_failed : Int32) (f_a0_letters : Nat → Int32) (f_a0_tape : Nat → Int32) (v1 : Nat) (v2 : Int32) (v3 : Int32) : Option (Int32 × Int32 × Int32 × Int32 × Int32 × Int32 × Int32 × Int32 × Int32 × (Nat → Int32)) :=
  bnd1 (F_X10_isWord fu a0_token a0_nameSize a0_failed f_a0_letters v1) fun r2 =>
  if r2 = 0 then
    some ((0 : Int32), a0_at, a0_end, a0_token, a0_whole, a0_nameSize, a0_fault, a0_place, a0_failed, f_a0_letters)
  else
  if v2 = 0 then
    bnd3 (F_X10_wrong a0_fault a0_place a0_failed v3 a0_at) fun u20_0 u20_1 u20_2 =>
    F_X10_begins_b23 fu a0_size a0_at a0_end a0_token a0_whole a0_nameSize u20_0 u20_1 u20_2 f_a0_letters f_a0_tape
  else
    F_X10_begins_b23 fu a0_size a0_at a0_end a0_token a0_whole a0_nameSize a0_fault a0_place a0_failed f_a0_letters f_a0_tape
def F_X10_hasWhole_b32   : Option (Int32) :=
  some (1 : Int32)
def F_X10_hasWhole_b22  (v0 : Int32) (v1 : Int32) : Option (Int32) :=
  if v0 = (4 : Int32) then
    if (2 : Int32) ≤ v1 then
      some (0 : Int32)
    else
      F_X10_hasWhole_b32
  else
    some (0 : Int32)
def F_X10_hasWhole_b13  (v0 : Int32) (v1 : Int32) : Option (Int32) :=
  if v0 = (1 : Int32) then
    if v1 = 0 then
      F_X10_hasWhole_b32
    else
      F_X10_hasWhole_b22 v0 v1
  else
    F_X10_hasWhole_b22 v0 v1
def F_X10_hasWhole (v0 : Int32) (v1 : Int32) : Option (Int32) :=
  if v0 = (2 : Int32) then
    F_X10_hasWhole_b32
  else
  if v0 = 0 then
    if v1 = 0 then
      F_X10_hasWhole_b32
    else
      F_X10_hasWhole_b13 v0 v1
  else
    F_X10_hasWhole_b13 v0 v1
def F_X10_latest_b33 (k4 : Int32 → Int32 → Option (Int32)) (f_a0_newCalls : Nat → Int32) (v1 : Int32) (v2 : Int32) (v3 : Int32) : Option (Int32) :=
  k4 v2 ((v3 + (1 : Int32)))
def F_X10_latest_b4  (f_a0_newCalls : Nat → Int32) (v1 : Int32) : Nat → Int32 → Int32 → Option (Int32)
  | 0, _, _ => none
  | kf + 1, v2, v3 =>
    if (f_a0_newCalls (141 : Int32).toNatClampNeg) ≤ v3 then
      some v2
    else
    if (((7 : Int32) * v3) + (0 : Int32)) < 0 ∨ 142 ≤ ((((7 : Int32) * v3) + (0 : Int32))).toNatClampNeg then none else
    if (f_a0_newCalls ((((7 : Int32) * v3) + (0 : Int32))).toNatClampNeg) = v1 then
      F_X10_latest_b33 (F_X10_latest_b4 f_a0_newCalls v1 kf) f_a0_newCalls v1 v3 v3
    else
      F_X10_latest_b33 (F_X10_latest_b4 f_a0_newCalls v1 kf) f_a0_newCalls v1 v2 v3
def F_X10_latest (fu : Nat) (f_a0_newCalls : Nat → Int32) (v1 : Int32) : Option (Int32) :=
  F_X10_latest_b4 f_a0_newCalls v1 fu (-1 : Int32) (0 : Int32)
def F_X10_callLine_b408  (a0_at : Int32) (a0_end : Int32) (a0_token : Int32) (a0_whole : Int32) (a0_nameSize : Int32) (a0_fault : Int32) (a0_place : Int32) (a0_failed : Int32) (f_a0_newCalls : Nat → Int32) (f_a0_letters : Nat → Int32) : Option (Int32 × Int32 × Int32 × Int32 × Int32 × Int32 × Int32 × Int32 × (Nat → Int32) × (Nat → Int32)) :=
  if a0_failed = 0 then
    some (a0_at, a0_end, a0_token, a0_whole, a0_nameSize, a0_fault, a0_place, a0_failed, (upd f_a0_newCalls (141 : Int32).toNatClampNeg ((f_a0_newCalls (141 : Int32).toNatClampNeg) + (1 : Int32))), f_a0_letters)
  else
    some (a0_at, a0_end, a0_token, a0_whole, a0_nameSize, a0_fault, a0_place, a0_failed, f_a0_newCalls, f_a0_letters)
def F_X10_callLine_b304  (fu : Nat) (a0_size : Int32) (a0_at : Int32) (a0_end : Int32) (a0_token : Int32) (a0_whole : Int32) (a0_nameSize : Int32) (a0_fault : Int32) (a0_place : Int32) (a0_failed : Int32) (f_a0_newCalls : Nat → Int32) (f_a0_letters : Nat → Int32) (f_a0_tape : Nat → Int32) (v1 : Int32) (t0 : Int32) : Option (Int32 × Int32 × Int32 × Int32 × Int32 × Int32 × Int32 × Int32 × (Nat → Int32) × (Nat → Int32)) :=
  bnd10 (F_X10_number fu a0_size a0_at a0_end a0_token a0_whole a0_nameSize a0_fault a0_place a0_failed f_a0_tape f_a0_letters t0 (999 : Int32)) fun r307 u307_0 u307_1 u307_2 u307_3 u307_4 u307_5 u307_6 u307_7 u307_8 =>
  if (v1 + (4 : Int32)) < 0 ∨ 142 ≤ ((v1 + (4 : Int32))).toNatClampNeg then none else
  if (v1 + (5 : Int32)) < 0 ∨ 142 ≤ ((v1 + (5 : Int32))).toNatClampNeg then none else
  if (v1 + (6 : Int32)) < 0 ∨ 142 ≤ ((v1 + (6 : Int32))).toNatClampNeg then none else
  if u307_7 = 0 then
    bnd7 (F_X10_takes fu a0_size u307_0 u307_1 u307_2 u307_3 u307_4 u307_7 u307_8 f_a0_tape 38) fun r355 u355_0 u355_1 u355_2 u355_3 u355_4 u355_5 =>
    if r355 = 0 then
      bnd9 (F_X10_pass fu a0_size u355_0 u355_1 u355_2 u355_3 u355_4 u307_5 u307_6 u307_7 u355_5 f_a0_tape 39) fun u365_0 u365_1 u365_2 u365_3 u365_4 u365_5 u365_6 u365_7 u365_8 =>
      bnd10 (F_X10_number fu a0_size u365_0 u365_1 u365_2 u365_3 u365_4 u365_5 u365_6 u365_7 f_a0_tape u365_8 r307 (999 : Int32)) fun r381 u381_0 u381_1 u381_2 u381_3 u381_4 u381_5 u381_6 u381_7 u381_8 =>
      if (v1 + (5 : Int32)) < 0 ∨ 142 ≤ ((v1 + (5 : Int32))).toNatClampNeg then none else
      bnd9 (F_X10_pass fu a0_size u381_0 u381_1 u381_2 u381_3 u381_4 u381_5 u381_6 u381_7 u381_8 f_a0_tape 40) fun u389_0 u389_1 u389_2 u389_3 u389_4 u389_5 u389_6 u389_7 u389_8 =>
      bnd10 (F_X10_number fu a0_size u389_0 u389_1 u389_2 u389_3 u389_4 u389_5 u389_6 u389_7 f_a0_tape u389_8 (0 : Int32) (99 : Int32)) fun r404 u404_0 u404_1 u404_2 u404_3 u404_4 u404_5 u404_6 u404_7 u404_8 =>
      if (v1 + (6 : Int32)) < 0 ∨ 142 ≤ ((v1 + (6 : Int32))).toNatClampNeg then none else
      F_X10_callLine_b408 u404_0 u404_1 u404_2 u404_3 u404_4 u404_5 u404_6 u404_7 ((upd ((upd ((upd ((upd ((upd f_a0_newCalls ((v1 + (4 : Int32))).toNatClampNeg r307)) ((v1 + (5 : Int32))).toNatClampNeg (-2 : Int32))) ((v1 + (6 : Int32))).toNatClampNeg (-2 : Int32))) ((v1 + (5 : Int32))).toNatClampNeg r381)) ((v1 + (6 : Int32))).toNatClampNeg r404)) u404_8
    else
      F_X10_callLine_b408 u355_0 u355_1 u355_2 u355_3 u355_4 u307_5 u307_6 u307_7 ((upd ((upd ((upd f_a0_newCalls ((v1 + (4 : Int32))).toNatClampNeg r307)) ((v1 + (5 : Int32))).toNatClampNeg (-2 : Int32))) ((v1 + (6 : Int32))).toNatClampNeg (-2 : Int32))) u355_5
  else
    some (u307_0, u307_1, u307_2, u307_3, u307_4, u307_5, u307_6, u307_7, (upd ((upd ((upd f_a0_newCalls ((v1 + (4 : Int32))).toNatClampNeg r307)) ((v1 + (5 : Int32))).toNatClampNeg (-2 : Int32))) ((v1 + (6 : Int32))).toNatClampNeg (-2 : Int32)), u307_8)
def F_X10_callLine_b275  (fu : Nat) (a0_size : Int32) (a0_at : Int32) (a0_end : Int32) (a0_token : Int32) (a0_whole : Int32) (a0_nameSize : Int32) (a0_fault : Int32) (a0_place : Int32) (a0_failed : Int32) (f_a0_newCalls : Nat → Int32) (f_a0_letters : Nat → Int32) (f_a0_tape : Nat → Int32) (v1 : Int32) (t0 : Int32) (v3 : Int32) (t1 : Int32) : Option (Int32 × Int32 × Int32 × Int32 × Int32 × Int32 × Int32 × Int32 × (Nat → Int32) × (Nat → Int32)) :=
  if t1 < 0 ∨ 142 ≤ t1.toNatClampNeg then none else
  bnd9 (F_X10_pass fu a0_size a0_at a0_end a0_token a0_whole a0_nameSize a0_fault a0_place a0_failed f_a0_letters f_a0_tape 28) fun u279_0 u279_1 u279_2 u279_3 u279_4 u279_5 u279_6 u279_7 u279_8 =>
  if 0 ≤ v3 then
    if (((7 : Int32) * v3) + (5 : Int32)) < 0 ∨ 142 ≤ ((((7 : Int32) * v3) + (5 : Int32))).toNatClampNeg then none else
    F_X10_callLine_b304 fu a0_size u279_0 u279_1 u279_2 u279_3 u279_4 u279_5 u279_6 u279_7 (upd f_a0_newCalls t1.toNatClampNeg t0) u279_8 f_a0_tape v1 ((((upd f_a0_newCalls t1.toNatClampNeg t0) ((((7 : Int32) * v3) + (5 : Int32))).toNatClampNeg) + (1 : Int32)))
  else
    F_X10_callLine_b304 fu a0_size u279_0 u279_1 u279_2 u279_3 u279_4 u279_5 u279_6 u279_7 (upd f_a0_newCalls t1.toNatClampNeg t0) u279_8 f_a0_tape v1 (0 : Int32)
def F_X10_callLine_b206  (fu : Nat) (a0_size : Int32) (a0_at : Int32) (a0_end : Int32) (a0_token : Int32) (a0_whole : Int32) (a0_nameSize : Int32) (a0_fault : Int32) (a0_place : Int32) (a0_failed : Int32) (f_a0_newCalls : Nat → Int32) (f_a0_letters : Nat → Int32) (f_a0_tape : Nat → Int32) (v1 : Int32) (v2 : Int32) (v3 : Int32) (v5 : Int32) (v6 : Int32) (v7 : Int32) : Option (Int32 × Int32 × Int32 × Int32 × Int32 × Int32 × Int32 × Int32 × (Nat → Int32) × (Nat → Int32)) :=
  if a0_failed = 0 then
    bnd6 (F_X10_next fu a0_size a0_end f_a0_tape f_a0_letters) fun u215_0 u215_1 u215_2 u215_3 u215_4 u215_5 =>
    if (v1 + (0 : Int32)) < 0 ∨ 142 ≤ ((v1 + (0 : Int32))).toNatClampNeg then none else
    if (v1 + (1 : Int32)) < 0 ∨ 142 ≤ ((v1 + (1 : Int32))).toNatClampNeg then none else
    if (v1 + (2 : Int32)) < 0 ∨ 142 ≤ ((v1 + (2 : Int32))).toNatClampNeg then none else
    bnd1 (F_X10_hasWhole v6 v7) fun r258 =>
    if r258 = 0 then
      F_X10_callLine_b275 fu a0_size u215_0 u215_1 u215_2 u215_3 u215_4 a0_fault a0_place a0_failed ((upd ((upd ((upd f_a0_newCalls ((v1 + (0 : Int32))).toNatClampNeg v2)) ((v1 + (1 : Int32))).toNatClampNeg v5)) ((v1 + (2 : Int32))).toNatClampNeg v7)) u215_5 f_a0_tape v1 (0 : Int32) v3 ((v1 + (3 : Int32)))
    else
    bnd10 (F_X10_number fu a0_size u215_0 u215_1 u215_2 u215_3 u215_4 a0_fault a0_place a0_failed f_a0_tape u215_5 (0 : Int32) (9 : Int32)) fun r268 u268_0 u268_1 u268_2 u268_3 u268_4 u268_5 u268_6 u268_7 u268_8 =>
    F_X10_callLine_b275 fu a0_size u268_0 u268_1 u268_2 u268_3 u268_4 u268_5 u268_6 u268_7 ((upd ((upd ((upd f_a0_newCalls ((v1 + (0 : Int32))).toNatClampNeg v2)) ((v1 + (1 : Int32))).toNatClampNeg v5)) ((v1 + (2 : Int32))).toNatClampNeg v7)) u268_8 f_a0_tape v1 r268 v3 ((v1 + (3 : Int32)))
  else
    some (a0_at, a0_end, a0_token, a0_whole, a0_nameSize, a0_fault, a0_place, a0_failed, f_a0_newCalls, f_a0_letters)
def F_X10_callLine_b197  (fu : Nat) (a0_size : Int32) (a0_at : Int32) (a0_end : Int32) (a0_token : Int32) (a0_whole : Int32) (a0_nameSize : Int32) (a0_fault : Int32) (a0_place : Int32) (a0_failed : Int32) (f_a0_newCalls : Nat → Int32) (f_a0_letters : Nat → Int32) (f_a0_tape : Nat → Int32) (v1 : Int32) (v2 : Int32) (v3 : Int32) (v5 : Int32) (v6 : Int32) (v7 : Int32) : Option (Int32 × Int32 × Int32 × Int32 × Int32 × Int32 × Int32 × Int32 × (Nat → Int32) × (Nat → Int32)) :=
  bnd3 (F_X10_wrong a0_fault a0_place a0_failed (1 : Int32) a0_at) fun u203_0 u203_1 u203_2 =>
  F_X10_callLine_b206 fu a0_size a0_at a0_end a0_token a0_whole a0_nameSize u203_0 u203_1 u203_2 f_a0_newCalls f_a0_letters f_a0_tape v1 v2 v3 v5 v6 v7
def F_X10_callLine_b185  (fu : Nat) (a0_size : Int32) (a0_at : Int32) (a0_end : Int32) (a0_token : Int32) (a0_whole : Int32) (a0_nameSize : Int32) (a0_fault : Int32) (a0_place : Int32) (a0_failed : Int32) (f_a0_newCalls : Nat → Int32) (f_a0_letters : Nat → Int32) (f_a0_tape : Nat → Int32) (v1 : Int32) (v2 : Int32) (v3 : Int32) (v5 : Int32) (v6 : Int32) (v7 : Int32) : Option (Int32 × Int32 × Int32 × Int32 × Int32 × Int32 × Int32 × Int32 × (Nat → Int32) × (Nat → Int32)) :=
  if v6 = (1 : Int32) then
    if v7 = (2 : Int32) then
      F_X10_callLine_b197 fu a0_size a0_at a0_end a0_token a0_whole a0_nameSize a0_fault a0_place a0_failed f_a0_newCalls f_a0_letters f_a0_tape v1 v2 v3 v5 v6 v7
    else
      F_X10_callLine_b206 fu a0_size a0_at a0_end a0_token a0_whole a0_nameSize a0_fault a0_place a0_failed f_a0_newCalls f_a0_letters f_a0_tape v1 v2 v3 v5 v6 v7
  else
    F_X10_callLine_b206 fu a0_size a0_at a0_end a0_token a0_whole a0_nameSize a0_fault a0_place a0_failed f_a0_newCalls f_a0_letters f_a0_tape v1 v2 v3 v5 v6 v7
def F_X10_callLine_b167  (fu : Nat) (a0_size : Int32) (a0_at : Int32) (a0_end : Int32) (a0_token : Int32) (a0_whole : Int32) (a0_nameSize : Int32) (a0_fault : Int32) (a0_place : Int32) (a0_failed : Int32) (f_a0_newCalls : Nat → Int32) (f_a0_letters : Nat → Int32) (f_a0_tape : Nat → Int32) (v1 : Int32) (v2 : Int32) (t0 : Int32) (v3 : Int32) (v5 : Int32) (v6 : Int32) : Option (Int32 × Int32 × Int32 × Int32 × Int32 × Int32 × Int32 × Int32 × (Nat → Int32) × (Nat → Int32)) :=
  if t0 < 0 then
    F_X10_callLine_b197 fu a0_size a0_at a0_end a0_token a0_whole a0_nameSize a0_fault a0_place a0_failed f_a0_newCalls f_a0_letters f_a0_tape v1 v2 v3 v5 v6 t0
  else
  if v6 = 0 then
    if t0 = (1 : Int32) then
      F_X10_callLine_b197 fu a0_size a0_at a0_end a0_token a0_whole a0_nameSize a0_fault a0_place a0_failed f_a0_newCalls f_a0_letters f_a0_tape v1 v2 v3 v5 v6 t0
    else
      F_X10_callLine_b185 fu a0_size a0_at a0_end a0_token a0_whole a0_nameSize a0_fault a0_place a0_failed f_a0_newCalls f_a0_letters f_a0_tape v1 v2 v3 v5 v6 t0
  else
    F_X10_callLine_b185 fu a0_size a0_at a0_end a0_token a0_whole a0_nameSize a0_fault a0_place a0_failed f_a0_newCalls f_a0_letters f_a0_tape v1 v2 v3 v5 v6 t0
def F_X10_callLine_b84  (fu : Nat) (a0_size : Int32) (a0_at : Int32) (a0_end : Int32) (a0_token : Int32) (a0_whole : Int32) (a0_nameSize : Int32) (a0_fault : Int32) (a0_place : Int32) (a0_failed : Int32) (f_a0_newCalls : Nat → Int32) (f_a0_letters : Nat → Int32) (f_a0_fresh : Nat → Int32) (f_a0_tape : Nat → Int32) (v1 : Int32) (v2 : Int32) (v3 : Int32) : Option (Int32 × Int32 × Int32 × Int32 × Int32 × Int32 × Int32 × Int32 × (Nat → Int32) × (Nat → Int32)) :=
  if a0_failed = 0 then
    bnd6 (F_X10_next fu a0_size a0_end f_a0_tape f_a0_letters) fun u93_0 u93_1 u93_2 u93_3 u93_4 u93_5 =>
    bnd4 (F_X10_named fu u93_0 u93_2 u93_4 a0_fault a0_place a0_failed u93_5 f_a0_fresh (1 : Int32)) fun r98 u98_0 u98_1 u98_2 =>
    if u98_2 = 0 then
      bnd6 (F_X10_next fu a0_size u93_1 f_a0_tape u93_5) fun u112_0 u112_1 u112_2 u112_3 u112_4 u112_5 =>
      if ((3 : Int32) + r98) < 0 ∨ 70 ≤ (((3 : Int32) + r98)).toNatClampNeg then none else
      bnd1 (F_X10_isWord fu u112_2 u112_4 u98_2 u112_5 35) fun r129 =>
      if r129 = 0 then
        bnd1 (F_X10_isWord fu u112_2 u112_4 u98_2 u112_5 36) fun r142 =>
        if r142 = 0 then
          bnd1 (F_X10_isWord fu u112_2 u112_4 u98_2 u112_5 37) fun r156 =>
          if r156 = 0 then
            F_X10_callLine_b167 fu a0_size u112_0 u112_1 u112_2 u112_3 u112_4 u98_0 u98_1 u98_2 f_a0_newCalls u112_5 f_a0_tape v1 v2 (-1 : Int32) v3 r98 ((f_a0_fresh (((3 : Int32) + r98)).toNatClampNeg))
          else
            F_X10_callLine_b167 fu a0_size u112_0 u112_1 u112_2 u112_3 u112_4 u98_0 u98_1 u98_2 f_a0_newCalls u112_5 f_a0_tape v1 v2 (2 : Int32) v3 r98 ((f_a0_fresh (((3 : Int32) + r98)).toNatClampNeg))
        else
          F_X10_callLine_b167 fu a0_size u112_0 u112_1 u112_2 u112_3 u112_4 u98_0 u98_1 u98_2 f_a0_newCalls u112_5 f_a0_tape v1 v2 (1 : Int32) v3 r98 ((f_a0_fresh (((3 : Int32) + r98)).toNatClampNeg))
      else
        F_X10_callLine_b167 fu a0_size u112_0 u112_1 u112_2 u112_3 u112_4 u98_0 u98_1 u98_2 f_a0_newCalls u112_5 f_a0_tape v1 v2 (0 : Int32) v3 r98 ((f_a0_fresh (((3 : Int32) + r98)).toNatClampNeg))
    else
      some (u93_0, u93_1, u93_2, u93_3, u93_4, u98_0, u98_1, u98_2, f_a0_newCalls, u93_5)
  else
    some (a0_at, a0_end, a0_token, a0_whole, a0_nameSize, a0_fault, a0_place, a0_failed, f_a0_newCalls, f_a0_letters)
def F_X10_callLine_b68  (fu : Nat) (a0_size : Int32) (a0_at : Int32) (a0_end : Int32) (a0_token : Int32) (a0_whole : Int32) (a0_nameSize : Int32) (a0_fault : Int32) (a0_place : Int32) (a0_failed : Int32) (f_a0_newCalls : Nat → Int32) (f_a0_letters : Nat → Int32) (f_a0_fresh : Nat → Int32) (f_a0_tape : Nat → Int32) (v1 : Int32) (v2 : Int32) (t0 : Int32) (v3 : Int32) : Option (Int32 × Int32 × Int32 × Int32 × Int32 × Int32 × Int32 × Int32 × (Nat → Int32) × (Nat → Int32)) :=
  if t0 = 0 then
    F_X10_callLine_b84 fu a0_size a0_at a0_end a0_token a0_whole a0_nameSize a0_fault a0_place a0_failed f_a0_newCalls f_a0_letters f_a0_fresh f_a0_tape v1 v2 v3
  else
  bnd3 (F_X10_wrong a0_fault a0_place a0_failed (4 : Int32) a0_at) fun u81_0 u81_1 u81_2 =>
  F_X10_callLine_b84 fu a0_size a0_at a0_end a0_token a0_whole a0_nameSize u81_0 u81_1 u81_2 f_a0_newCalls f_a0_letters f_a0_fresh f_a0_tape v1 v2 v3
def F_X10_callLine_b67  (fu : Nat) (a0_size : Int32) (a0_at : Int32) (a0_end : Int32) (a0_token : Int32) (a0_whole : Int32) (a0_nameSize : Int32) (a0_fault : Int32) (a0_place : Int32) (a0_failed : Int32) (f_a0_newCalls : Nat → Int32) (f_a0_letters : Nat → Int32) (f_a0_fresh : Nat → Int32) (f_a0_tape : Nat → Int32) (v1 : Int32) (v2 : Int32) (v3 : Int32) : Option (Int32 × Int32 × Int32 × Int32 × Int32 × Int32 × Int32 × Int32 × (Nat → Int32) × (Nat → Int32)) :=
  F_X10_callLine_b68 fu a0_size a0_at a0_end a0_token a0_whole a0_nameSize a0_fault a0_place a0_failed f_a0_newCalls f_a0_letters f_a0_fresh f_a0_tape v1 v2 (0 : Int32) v3
def F_X10_callLine_b42  (fu : Nat) (a0_size : Int32) (a0_at : Int32) (a0_end : Int32) (a0_token : Int32) (a0_whole : Int32) (a0_nameSize : Int32) (a0_fault : Int32) (a0_place : Int32) (a0_failed : Int32) (f_a0_newCalls : Nat → Int32) (f_a0_letters : Nat → Int32) (f_a0_fresh : Nat → Int32) (f_a0_tape : Nat → Int32) (v1 : Int32) (v2 : Int32) (t0 : Int32) : Option (Int32 × Int32 × Int32 × Int32 × Int32 × Int32 × Int32 × Int32 × (Nat → Int32) × (Nat → Int32)) :=
  if t0 < 0 then
    F_X10_callLine_b67 fu a0_size a0_at a0_end a0_token a0_whole a0_nameSize a0_fault a0_place a0_failed f_a0_newCalls f_a0_letters f_a0_fresh f_a0_tape v1 v2 t0
  else
  if (((7 : Int32) * t0) + (5 : Int32)) < 0 ∨ 142 ≤ ((((7 : Int32) * t0) + (5 : Int32))).toNatClampNeg then none else
  if (f_a0_newCalls ((((7 : Int32) * t0) + (5 : Int32))).toNatClampNeg) = (-2 : Int32) then
    F_X10_callLine_b68 fu a0_size a0_at a0_end a0_token a0_whole a0_nameSize a0_fault a0_place a0_failed f_a0_newCalls f_a0_letters f_a0_fresh f_a0_tape v1 v2 (1 : Int32) t0
  else
    F_X10_callLine_b67 fu a0_size a0_at a0_end a0_token a0_whole a0_nameSize a0_fault a0_place a0_failed f_a0_newCalls f_a0_letters f_a0_fresh f_a0_tape v1 v2 t0
def F_X10_callLine (fu : Nat) (a0_size : Int32) (a0_at : Int32) (a0_end : Int32) (a0_token : Int32) (a0_whole : Int32) (a0_nameSize : Int32) (a0_fault : Int32) (a0_place : Int32) (a0_failed : Int32) (f_a0_newCalls : Nat → Int32) (f_a0_letters : Nat → Int32) (f_a0_fresh : Nat → Int32) (f_a0_tape : Nat → Int32) : Option (Int32 × Int32 × Int32 × Int32 × Int32 × Int32 × Int32 × Int32 × (Nat → Int32) × (Nat → Int32)) :=
  if a0_failed = 0 then
    bnd4 (F_X10_named fu a0_at a0_token a0_nameSize a0_fault a0_place a0_failed f_a0_letters f_a0_fresh (0 : Int32)) fun r22 u22_0 u22_1 u22_2 =>
    if u22_2 = 0 then
      bnd1 (F_X10_latest fu f_a0_newCalls r22) fun r39 =>
      F_X10_callLine_b42 fu a0_size a0_at a0_end a0_token a0_whole a0_nameSize u22_0 u22_1 u22_2 f_a0_newCalls f_a0_letters f_a0_fresh f_a0_tape (((7 : Int32) * (f_a0_newCalls (141 : Int32).toNatClampNeg))) r22 r39
    else
      F_X10_callLine_b42 fu a0_size a0_at a0_end a0_token a0_whole a0_nameSize u22_0 u22_1 u22_2 f_a0_newCalls f_a0_letters f_a0_fresh f_a0_tape (((7 : Int32) * (f_a0_newCalls (141 : Int32).toNatClampNeg))) r22 (-1 : Int32)
  else
    some (a0_at, a0_end, a0_token, a0_whole, a0_nameSize, a0_fault, a0_place, a0_failed, f_a0_newCalls, f_a0_letters)
def F_X10_cashierLine_b71 (k13 : Int32 → Int32 → Int32 → Int32 → Int32 → Int32 → Int32 → Int32 → (Nat → Int32) → (Nat → Int32) → Int32 → Option (Int32 × Int32 × Int32 × Int32 × Int32 × Int32 × Int32 × Int32 × (Nat → Int32) × (Nat → Int32))) (fu : Nat) (a0_size : Int32) (a0_at : Int32) (a0_end : Int32) (a0_token : Int32) (a0_whole : Int32) (a0_nameSize : Int32) (a0_fault : Int32) (a0_place : Int32) (a0_failed : Int32) (f_a0_letters : Nat → Int32) (f_a0_fresh : Nat → Int32) (f_a0_tape : Nat → Int32) : Option (Int32 × Int32 × Int32 × Int32 × Int32 × Int32 × Int32 × Int32 × (Nat → Int32) × (Nat → Int32)) :=
  if a0_failed = 0 then
    bnd1 (F_X10_keepName fu a0_nameSize f_a0_fresh f_a0_letters (((3 : Int32) + (f_a0_fresh (6 : Int32).toNatClampNeg)))) fun u89_0 =>
    bnd6 (F_X10_next fu a0_size a0_end f_a0_tape f_a0_letters) fun u104_0 u104_1 u104_2 u104_3 u104_4 u104_5 =>
    bnd7 (F_X10_comma fu a0_size u104_0 u104_1 u104_2 u104_3 u104_4 a0_failed f_a0_tape u104_5) fun r108 u108_0 u108_1 u108_2 u108_3 u108_4 u108_5 =>
    k13 u108_0 u108_1 u108_2 u108_3 u108_4 a0_fault a0_place a0_failed u108_5 ((upd u89_0 (6 : Int32).toNatClampNeg ((u89_0 (6 : Int32).toNatClampNeg) + (1 : Int32)))) r108
  else
    some (a0_at, a0_end, a0_token, a0_whole, a0_nameSize, a0_fault, a0_place, a0_failed, f_a0_letters, f_a0_fresh)
def F_X10_cashierLine_b44 (k13 : Int32 → Int32 → Int32 → Int32 → Int32 → Int32 → Int32 → Int32 → (Nat → Int32) → (Nat → Int32) → Int32 → Option (Int32 × Int32 × Int32 × Int32 × Int32 × Int32 × Int32 × Int32 × (Nat → Int32) × (Nat → Int32))) (fu : Nat) (a0_size : Int32) (a0_at : Int32) (a0_end : Int32) (a0_token : Int32) (a0_whole : Int32) (a0_nameSize : Int32) (a0_fault : Int32) (a0_place : Int32) (a0_failed : Int32) (f_a0_letters : Nat → Int32) (f_a0_fresh : Nat → Int32) (f_a0_tape : Nat → Int32) : Option (Int32 × Int32 × Int32 × Int32 × Int32 × Int32 × Int32 × Int32 × (Nat → Int32) × (Nat → Int32)) :=
  if a0_failed = 0 then
    if (f_a0_fresh (6 : Int32).toNatClampNeg) = (4 : Int32) then
      bnd3 (F_X10_wrong a0_fault a0_place a0_failed (5 : Int32) a0_at) fun u68_0 u68_1 u68_2 =>
      F_X10_cashierLine_b71 k13 fu a0_size a0_at a0_end a0_token a0_whole a0_nameSize u68_0 u68_1 u68_2 f_a0_letters f_a0_fresh f_a0_tape
    else
      F_X10_cashierLine_b71 k13 fu a0_size a0_at a0_end a0_token a0_whole a0_nameSize a0_fault a0_place a0_failed f_a0_letters f_a0_fresh f_a0_tape
  else
    F_X10_cashierLine_b71 k13 fu a0_size a0_at a0_end a0_token a0_whole a0_nameSize a0_fault a0_place a0_failed f_a0_letters f_a0_fresh f_a0_tape
def F_X10_cashierLine_b13  (fu : Nat) (a0_size : Int32) (f_a0_tape : Nat → Int32) : Nat → Int32 → Int32 → Int32 → Int32 → Int32 → Int32 → Int32 → Int32 → (Nat → Int32) → (Nat → Int32) → Int32 → Option (Int32 × Int32 × Int32 × Int32 × Int32 × Int32 × Int32 × Int32 × (Nat → Int32) × (Nat → Int32))
  | 0, _, _, _, _, _, _, _, _, _, _, _ => none
  | kf + 1, a0_at, a0_end, a0_token, a0_whole, a0_nameSize, a0_fault, a0_place, a0_failed, f_a0_letters, f_a0_fresh, v1 =>
    if v1 = 0 then
      some (a0_at, a0_end, a0_token, a0_whole, a0_nameSize, a0_fault, a0_place, a0_failed, f_a0_letters, f_a0_fresh)
    else
    bnd3 (F_X10_mustName fu a0_at a0_token a0_nameSize a0_fault a0_place a0_failed f_a0_letters) fun u18_0 u18_1 u18_2 =>
    if u18_2 = 0 then
      bnd1 (F_X10_find fu a0_nameSize f_a0_fresh f_a0_letters) fun r29 =>
      if r29 < 0 then
        F_X10_cashierLine_b44 (F_X10_cashierLine_b13 fu a0_size f_a0_tape kf) fu a0_size a0_at a0_end a0_token a0_whole a0_nameSize u18_0 u18_1 u18_2 f_a0_letters f_a0_fresh f_a0_tape
      else
      bnd3 (F_X10_wrong u18_0 u18_1 u18_2 (3 : Int32) a0_at) fun u41_0 u41_1 u41_2 =>
      F_X10_cashierLine_b44 (F_X10_cashierLine_b13 fu a0_size f_a0_tape kf) fu a0_size a0_at a0_end a0_token a0_whole a0_nameSize u41_0 u41_1 u41_2 f_a0_letters f_a0_fresh f_a0_tape
    else
      F_X10_cashierLine_b44 (F_X10_cashierLine_b13 fu a0_size f_a0_tape kf) fu a0_size a0_at a0_end a0_token a0_whole a0_nameSize u18_0 u18_1 u18_2 f_a0_letters f_a0_fresh f_a0_tape
def F_X10_cashierLine_b12  (fu : Nat) (a0_size : Int32) (a0_at : Int32) (a0_end : Int32) (a0_token : Int32) (a0_whole : Int32) (a0_nameSize : Int32) (a0_fault : Int32) (a0_place : Int32) (a0_failed : Int32) (f_a0_letters : Nat → Int32) (f_a0_fresh : Nat → Int32) (f_a0_tape : Nat → Int32) (t0 : Int32) : Option (Int32 × Int32 × Int32 × Int32 × Int32 × Int32 × Int32 × Int32 × (Nat → Int32) × (Nat → Int32)) :=
  F_X10_cashierLine_b13 fu a0_size f_a0_tape fu a0_at a0_end a0_token a0_whole a0_nameSize a0_fault a0_place a0_failed f_a0_letters f_a0_fresh t0
def F_X10_cashierLine (fu : Nat) (a0_size : Int32) (a0_at : Int32) (a0_end : Int32) (a0_token : Int32) (a0_whole : Int32) (a0_nameSize : Int32) (a0_fault : Int32) (a0_place : Int32) (a0_failed : Int32) (f_a0_letters : Nat → Int32) (f_a0_fresh : Nat → Int32) (f_a0_tape : Nat → Int32) : Option (Int32 × Int32 × Int32 × Int32 × Int32 × Int32 × Int32 × Int32 × (Nat → Int32) × (Nat → Int32)) :=
  if a0_failed = 0 then
    F_X10_cashierLine_b12 fu a0_size a0_at a0_end a0_token a0_whole a0_nameSize a0_fault a0_place a0_failed f_a0_letters f_a0_fresh f_a0_tape (1 : Int32)
  else
    F_X10_cashierLine_b12 fu a0_size a0_at a0_end a0_token a0_whole a0_nameSize a0_fault a0_place a0_failed f_a0_letters f_a0_fresh f_a0_tape (0 : Int32)
def F_X10_lawLine (fu : Nat) (a0_size : Int32) (a0_at : Int32) (a0_end : Int32) (a0_token : Int32) (a0_whole : Int32) (a0_nameSize : Int32) (a0_fault : Int32) (a0_place : Int32) (a0_failed : Int32) (f_a0_letters : Nat → Int32) (f_a0_tape : Nat → Int32) (f_a0_fresh : Nat → Int32) : Option (Int32 × Int32 × Int32 × Int32 × Int32 × Int32 × Int32 × Int32 × (Nat → Int32) × (Nat → Int32)) :=
  bnd9 (F_X10_pass fu a0_size a0_at a0_end a0_token a0_whole a0_nameSize a0_fault a0_place a0_failed f_a0_letters f_a0_tape 24) fun u3_0 u3_1 u3_2 u3_3 u3_4 u3_5 u3_6 u3_7 u3_8 =>
  bnd10 (F_X10_number fu a0_size u3_0 u3_1 u3_2 u3_3 u3_4 u3_5 u3_6 u3_7 f_a0_tape u3_8 (0 : Int32) (99 : Int32)) fun r15 u15_0 u15_1 u15_2 u15_3 u15_4 u15_5 u15_6 u15_7 u15_8 =>
  if u15_7 = 0 then
    some (u15_0, u15_1, u15_2, u15_3, u15_4, u15_5, u15_6, u15_7, u15_8, (upd ((upd f_a0_fresh (0 : Int32).toNatClampNeg r15)) (1 : Int32).toNatClampNeg (1 : Int32)))
  else
    some (u15_0, u15_1, u15_2, u15_3, u15_4, u15_5, u15_6, u15_7, u15_8, (upd f_a0_fresh (0 : Int32).toNatClampNeg r15))
def F_X10_tillLine_b137  (fu : Nat) (a0_size : Int32) (a0_at : Int32) (a0_end : Int32) (a0_token : Int32) (a0_whole : Int32) (a0_nameSize : Int32) (a0_fault : Int32) (a0_place : Int32) (a0_failed : Int32) (f_a0_letters : Nat → Int32) (f_a0_fresh : Nat → Int32) (f_a0_tape : Nat → Int32) (v1 : Int32) (v2 : Int32) : Option (Int32 × Int32 × Int32 × Int32 × Int32 × Int32 × Int32 × Int32 × (Nat → Int32) × (Nat → Int32)) :=
  if a0_failed = 0 then
    bnd6 (F_X10_next fu a0_size a0_end f_a0_tape f_a0_letters) fun u146_0 u146_1 u146_2 u146_3 u146_4 u146_5 =>
    if ((3 : Int32) + v1) < 0 ∨ 70 ≤ (((3 : Int32) + v1)).toNatClampNeg then none else
    some (u146_0, u146_1, u146_2, u146_3, u146_4, a0_fault, a0_place, a0_failed, u146_5, (upd ((upd f_a0_fresh (((3 : Int32) + v1)).toNatClampNeg v2)) (2 : Int32).toNatClampNeg ((((upd f_a0_fresh (((3 : Int32) + v1)).toNatClampNeg v2)) (2 : Int32).toNatClampNeg) + (1 : Int32))))
  else
    some (a0_at, a0_end, a0_token, a0_whole, a0_nameSize, a0_fault, a0_place, a0_failed, f_a0_letters, f_a0_fresh)
def F_X10_tillLine_b123  (fu : Nat) (a0_size : Int32) (a0_at : Int32) (a0_end : Int32) (a0_token : Int32) (a0_whole : Int32) (a0_nameSize : Int32) (a0_fault : Int32) (a0_place : Int32) (a0_failed : Int32) (f_a0_letters : Nat → Int32) (f_a0_fresh : Nat → Int32) (f_a0_tape : Nat → Int32) (v1 : Int32) (t0 : Int32) : Option (Int32 × Int32 × Int32 × Int32 × Int32 × Int32 × Int32 × Int32 × (Nat → Int32) × (Nat → Int32)) :=
  if 0 ≤ t0 then
    F_X10_tillLine_b137 fu a0_size a0_at a0_end a0_token a0_whole a0_nameSize a0_fault a0_place a0_failed f_a0_letters f_a0_fresh f_a0_tape v1 t0
  else
  bnd3 (F_X10_wrong a0_fault a0_place a0_failed (1 : Int32) a0_at) fun u134_0 u134_1 u134_2 =>
  F_X10_tillLine_b137 fu a0_size a0_at a0_end a0_token a0_whole a0_nameSize u134_0 u134_1 u134_2 f_a0_letters f_a0_fresh f_a0_tape v1 t0
def F_X10_tillLine_b27  (fu : Nat) (a0_size : Int32) (a0_at : Int32) (a0_end : Int32) (a0_token : Int32) (a0_whole : Int32) (a0_nameSize : Int32) (a0_fault : Int32) (a0_place : Int32) (a0_failed : Int32) (f_a0_letters : Nat → Int32) (f_a0_fresh : Nat → Int32) (f_a0_tape : Nat → Int32) : Option (Int32 × Int32 × Int32 × Int32 × Int32 × Int32 × Int32 × Int32 × (Nat → Int32) × (Nat → Int32)) :=
  if a0_failed = 0 then
    bnd1 (F_X10_keepName fu a0_nameSize f_a0_fresh f_a0_letters ((f_a0_fresh (2 : Int32).toNatClampNeg))) fun u44_0 =>
    bnd6 (F_X10_next fu a0_size a0_end f_a0_tape f_a0_letters) fun u48_0 u48_1 u48_2 u48_3 u48_4 u48_5 =>
    bnd9 (F_X10_pass fu a0_size u48_0 u48_1 u48_2 u48_3 u48_4 a0_fault a0_place a0_failed u48_5 f_a0_tape 29) fun u54_0 u54_1 u54_2 u54_3 u54_4 u54_5 u54_6 u54_7 u54_8 =>
    bnd1 (F_X10_isWord fu u54_2 u54_4 u54_7 u54_8 30) fun r60 =>
    if r60 = 0 then
      bnd1 (F_X10_isWord fu u54_2 u54_4 u54_7 u54_8 31) fun r73 =>
      if r73 = 0 then
        bnd1 (F_X10_isWord fu u54_2 u54_4 u54_7 u54_8 32) fun r86 =>
        if r86 = 0 then
          bnd1 (F_X10_isWord fu u54_2 u54_4 u54_7 u54_8 33) fun r99 =>
          if r99 = 0 then
            bnd1 (F_X10_isWord fu u54_2 u54_4 u54_7 u54_8 34) fun r112 =>
            if r112 = 0 then
              F_X10_tillLine_b123 fu a0_size u54_0 u54_1 u54_2 u54_3 u54_4 u54_5 u54_6 u54_7 u54_8 u44_0 f_a0_tape ((f_a0_fresh (2 : Int32).toNatClampNeg)) (-1 : Int32)
            else
              F_X10_tillLine_b123 fu a0_size u54_0 u54_1 u54_2 u54_3 u54_4 u54_5 u54_6 u54_7 u54_8 u44_0 f_a0_tape ((f_a0_fresh (2 : Int32).toNatClampNeg)) (4 : Int32)
          else
            F_X10_tillLine_b123 fu a0_size u54_0 u54_1 u54_2 u54_3 u54_4 u54_5 u54_6 u54_7 u54_8 u44_0 f_a0_tape ((f_a0_fresh (2 : Int32).toNatClampNeg)) (3 : Int32)
        else
          F_X10_tillLine_b123 fu a0_size u54_0 u54_1 u54_2 u54_3 u54_4 u54_5 u54_6 u54_7 u54_8 u44_0 f_a0_tape ((f_a0_fresh (2 : Int32).toNatClampNeg)) (2 : Int32)
      else
        F_X10_tillLine_b123 fu a0_size u54_0 u54_1 u54_2 u54_3 u54_4 u54_5 u54_6 u54_7 u54_8 u44_0 f_a0_tape ((f_a0_fresh (2 : Int32).toNatClampNeg)) (1 : Int32)
    else
      F_X10_tillLine_b123 fu a0_size u54_0 u54_1 u54_2 u54_3 u54_4 u54_5 u54_6 u54_7 u54_8 u44_0 f_a0_tape ((f_a0_fresh (2 : Int32).toNatClampNeg)) (0 : Int32)
  else
    some (a0_at, a0_end, a0_token, a0_whole, a0_nameSize, a0_fault, a0_place, a0_failed, f_a0_letters, f_a0_fresh)
def F_X10_tillLine (fu : Nat) (a0_size : Int32) (a0_at : Int32) (a0_end : Int32) (a0_token : Int32) (a0_whole : Int32) (a0_nameSize : Int32) (a0_fault : Int32) (a0_place : Int32) (a0_failed : Int32) (f_a0_letters : Nat → Int32) (f_a0_fresh : Nat → Int32) (f_a0_tape : Nat → Int32) : Option (Int32 × Int32 × Int32 × Int32 × Int32 × Int32 × Int32 × Int32 × (Nat → Int32) × (Nat → Int32)) :=
  bnd3 (F_X10_mustName fu a0_at a0_token a0_nameSize a0_fault a0_place a0_failed f_a0_letters) fun u1_0 u1_1 u1_2 =>
  if u1_2 = 0 then
    bnd1 (F_X10_find fu a0_nameSize f_a0_fresh f_a0_letters) fun r12 =>
    if r12 < 0 then
      F_X10_tillLine_b27 fu a0_size a0_at a0_end a0_token a0_whole a0_nameSize u1_0 u1_1 u1_2 f_a0_letters f_a0_fresh f_a0_tape
    else
    bnd3 (F_X10_wrong u1_0 u1_1 u1_2 (3 : Int32) a0_at) fun u24_0 u24_1 u24_2 =>
    F_X10_tillLine_b27 fu a0_size a0_at a0_end a0_token a0_whole a0_nameSize u24_0 u24_1 u24_2 f_a0_letters f_a0_fresh f_a0_tape
  else
    F_X10_tillLine_b27 fu a0_size a0_at a0_end a0_token a0_whole a0_nameSize u1_0 u1_1 u1_2 f_a0_letters f_a0_fresh f_a0_tape
def F_X10_readLine_b102  (fu : Nat) (a0_size : Int32) (a0_at : Int32) (a0_end : Int32) (a0_token : Int32) (a0_whole : Int32) (a0_nameSize : Int32) (a0_fault : Int32) (a0_place : Int32) (a0_failed : Int32) (f_a0_fresh : Nat → Int32) (f_a0_letters : Nat → Int32) (f_a0_tape : Nat → Int32) (f_a0_newCalls : Nat → Int32) (t0 : Int32) : Option (Int32 × Int32 × Int32 × Int32 × Int32 × Int32 × Int32 × Int32 × (Nat → Int32) × (Nat → Int32) × (Nat → Int32)) :=
  bnd10 (F_X10_begins fu a0_size a0_at a0_end a0_token a0_whole a0_nameSize a0_fault a0_place a0_failed f_a0_letters f_a0_tape 27 t0 (5 : Int32)) fun r103 u103_0 u103_1 u103_2 u103_3 u103_4 u103_5 u103_6 u103_7 u103_8 =>
  if r103 = 0 then
    bnd3 (F_X10_wrong u103_5 u103_6 u103_7 (1 : Int32) u103_0) fun u122_0 u122_1 u122_2 =>
    some (u103_0, u103_1, u103_2, u103_3, u103_4, u122_0, u122_1, u122_2, f_a0_fresh, u103_8, f_a0_newCalls)
  else
  bnd10 (F_X10_callLine fu a0_size u103_0 u103_1 u103_2 u103_3 u103_4 u103_5 u103_6 u103_7 f_a0_newCalls u103_8 f_a0_fresh f_a0_tape) fun u110_0 u110_1 u110_2 u110_3 u110_4 u110_5 u110_6 u110_7 u110_8 u110_9 =>
  some (u110_0, u110_1, u110_2, u110_3, u110_4, u110_5, u110_6, u110_7, f_a0_fresh, u110_9, u110_8)
def F_X10_readLine_b49  (fu : Nat) (a0_size : Int32) (a0_at : Int32) (a0_end : Int32) (a0_token : Int32) (a0_whole : Int32) (a0_nameSize : Int32) (a0_fault : Int32) (a0_place : Int32) (a0_failed : Int32) (f_a0_fresh : Nat → Int32) (f_a0_letters : Nat → Int32) (f_a0_tape : Nat → Int32) (f_a0_newCalls : Nat → Int32) (t0 : Int32) : Option (Int32 × Int32 × Int32 × Int32 × Int32 × Int32 × Int32 × Int32 × (Nat → Int32) × (Nat → Int32) × (Nat → Int32)) :=
  bnd10 (F_X10_begins fu a0_size a0_at a0_end a0_token a0_whole a0_nameSize a0_fault a0_place a0_failed f_a0_letters f_a0_tape 25 t0 (5 : Int32)) fun r50 u50_0 u50_1 u50_2 u50_3 u50_4 u50_5 u50_6 u50_7 u50_8 =>
  if r50 = 0 then
    bnd10 (F_X10_begins fu a0_size u50_0 u50_1 u50_2 u50_3 u50_4 u50_5 u50_6 u50_7 u50_8 f_a0_tape 26 (1 : Int32) (1 : Int32)) fun r68 u68_0 u68_1 u68_2 u68_3 u68_4 u68_5 u68_6 u68_7 u68_8 =>
    if r68 = 0 then
      if (20 : Int32) ≤ (f_a0_newCalls (141 : Int32).toNatClampNeg) then
        F_X10_readLine_b102 fu a0_size u68_0 u68_1 u68_2 u68_3 u68_4 u68_5 u68_6 u68_7 f_a0_fresh u68_8 f_a0_tape f_a0_newCalls (0 : Int32)
      else
        F_X10_readLine_b102 fu a0_size u68_0 u68_1 u68_2 u68_3 u68_4 u68_5 u68_6 u68_7 f_a0_fresh u68_8 f_a0_tape f_a0_newCalls (1 : Int32)
    else
    bnd10 (F_X10_cashierLine fu a0_size u68_0 u68_1 u68_2 u68_3 u68_4 u68_5 u68_6 u68_7 u68_8 f_a0_fresh f_a0_tape) fun u75_0 u75_1 u75_2 u75_3 u75_4 u75_5 u75_6 u75_7 u75_8 u75_9 =>
    some (u75_0, u75_1, u75_2, u75_3, u75_4, u75_5, u75_6, u75_7, u75_9, u75_8, f_a0_newCalls)
  else
  bnd10 (F_X10_tillLine fu a0_size u50_0 u50_1 u50_2 u50_3 u50_4 u50_5 u50_6 u50_7 u50_8 f_a0_fresh f_a0_tape) fun u57_0 u57_1 u57_2 u57_3 u57_4 u57_5 u57_6 u57_7 u57_8 u57_9 =>
  some (u57_0, u57_1, u57_2, u57_3, u57_4, u57_5, u57_6, u57_7, u57_9, u57_8, f_a0_newCalls)
def F_X10_readLine_b17  (fu : Nat) (a0_size : Int32) (a0_at : Int32) (a0_end : Int32) (a0_token : Int32) (a0_whole : Int32) (a0_nameSize : Int32) (a0_fault : Int32) (a0_place : Int32) (a0_failed : Int32) (f_a0_fresh : Nat → Int32) (f_a0_letters : Nat → Int32) (f_a0_tape : Nat → Int32) (f_a0_newCalls : Nat → Int32) (t0 : Int32) : Option (Int32 × Int32 × Int32 × Int32 × Int32 × Int32 × Int32 × Int32 × (Nat → Int32) × (Nat → Int32) × (Nat → Int32)) :=
  bnd10 (F_X10_begins fu a0_size a0_at a0_end a0_token a0_whole a0_nameSize a0_fault a0_place a0_failed f_a0_letters f_a0_tape 23 t0 (3 : Int32)) fun r18 u18_0 u18_1 u18_2 u18_3 u18_4 u18_5 u18_6 u18_7 u18_8 =>
  if r18 = 0 then
    if (3 : Int32) ≤ (f_a0_fresh (2 : Int32).toNatClampNeg) then
      F_X10_readLine_b49 fu a0_size u18_0 u18_1 u18_2 u18_3 u18_4 u18_5 u18_6 u18_7 f_a0_fresh u18_8 f_a0_tape f_a0_newCalls (0 : Int32)
    else
      F_X10_readLine_b49 fu a0_size u18_0 u18_1 u18_2 u18_3 u18_4 u18_5 u18_6 u18_7 f_a0_fresh u18_8 f_a0_tape f_a0_newCalls (1 : Int32)
  else
  bnd10 (F_X10_lawLine fu a0_size u18_0 u18_1 u18_2 u18_3 u18_4 u18_5 u18_6 u18_7 u18_8 f_a0_tape f_a0_fresh) fun u25_0 u25_1 u25_2 u25_3 u25_4 u25_5 u25_6 u25_7 u25_8 u25_9 =>
  some (u25_0, u25_1, u25_2, u25_3, u25_4, u25_5, u25_6, u25_7, u25_9, u25_8, f_a0_newCalls)
def F_X10_readLine (fu : Nat) (a0_size : Int32) (a0_at : Int32) (a0_end : Int32) (a0_token : Int32) (a0_whole : Int32) (a0_nameSize : Int32) (a0_fault : Int32) (a0_place : Int32) (a0_failed : Int32) (f_a0_fresh : Nat → Int32) (f_a0_letters : Nat → Int32) (f_a0_tape : Nat → Int32) (f_a0_newCalls : Nat → Int32) : Option (Int32 × Int32 × Int32 × Int32 × Int32 × Int32 × Int32 × Int32 × (Nat → Int32) × (Nat → Int32) × (Nat → Int32)) :=
  if (f_a0_fresh (1 : Int32).toNatClampNeg) = 0 then
    F_X10_readLine_b17 fu a0_size a0_at a0_end a0_token a0_whole a0_nameSize a0_fault a0_place a0_failed f_a0_fresh f_a0_letters f_a0_tape f_a0_newCalls (1 : Int32)
  else
    F_X10_readLine_b17 fu a0_size a0_at a0_end a0_token a0_whole a0_nameSize a0_fault a0_place a0_failed f_a0_fresh f_a0_letters f_a0_tape f_a0_newCalls (0 : Int32)
def F_X10_book_b193  (fu : Nat) (a0_thrown : Int32) (a0_taped : Int32) (a0_size : Int32) (a0_at : Int32) (a0_end : Int32) (a0_token : Int32) (a0_whole : Int32) (a0_nameSize : Int32) (a0_fault : Int32) (a0_place : Int32) (a0_trouble : Int32) (a0_failed : Int32) (a0_hasBook : Int32) (a0_marks : Int32) (f_a0_fresh : Nat → Int32) (f_a0_letters : Nat → Int32) (f_a0_newCalls : Nat → Int32) (f_a0_r : Nat → Int32) (f_a0_st : Nat → Int32) : Option (Int32 × Int32 × Int32 × Int32 × Int32 × Int32 × Int32 × Int32 × Int32 × Int32 × Int32 × Int32 × Int32 × Int32 × Int32 × (Nat → Int32) × (Nat → Int32) × (Nat → Int32) × (Nat → Int32) × (Nat → Int32)) :=
  if a0_failed = 0 then
    bnd1 (F_X10_copy fu 70 70 f_a0_fresh f_a0_r (0 : Int32) (0 : Int32) (70 : Int32)) fun u218_0 =>
    bnd1 (F_X10_copy fu 142 142 f_a0_newCalls f_a0_st (0 : Int32) (0 : Int32) (142 : Int32)) fun u234_0 =>
    some ((u234_0 (141 : Int32).toNatClampNeg), a0_thrown, a0_taped, a0_size, a0_at, a0_end, a0_token, a0_whole, a0_nameSize, a0_fault, a0_place, a0_trouble, a0_failed, (1 : Int32), (0 : Int32), f_a0_fresh, f_a0_letters, f_a0_newCalls, u218_0, u234_0)
  else
  bnd2 (F_X10_no (4 : Int32)) fun r202 u202_0 =>
  some (r202, a0_thrown, a0_taped, a0_size, a0_at, a0_end, a0_token, a0_whole, a0_nameSize, a0_fault, a0_place, u202_0, a0_failed, a0_hasBook, a0_marks, f_a0_fresh, f_a0_letters, f_a0_newCalls, f_a0_r, f_a0_st)
def F_X10_book_b183  (fu : Nat) (a0_thrown : Int32) (a0_taped : Int32) (a0_size : Int32) (a0_at : Int32) (a0_end : Int32) (a0_token : Int32) (a0_whole : Int32) (a0_nameSize : Int32) (a0_fault : Int32) (a0_place : Int32) (a0_trouble : Int32) (a0_failed : Int32) (a0_hasBook : Int32) (a0_marks : Int32) (f_a0_fresh : Nat → Int32) (f_a0_letters : Nat → Int32) (f_a0_newCalls : Nat → Int32) (f_a0_r : Nat → Int32) (f_a0_st : Nat → Int32) : Option (Int32 × Int32 × Int32 × Int32 × Int32 × Int32 × Int32 × Int32 × Int32 × Int32 × Int32 × Int32 × Int32 × Int32 × Int32 × (Nat → Int32) × (Nat → Int32) × (Nat → Int32) × (Nat → Int32) × (Nat → Int32)) :=
  bnd3 (F_X10_wrong a0_fault a0_place a0_failed (6 : Int32) a0_at) fun u190_0 u190_1 u190_2 =>
  F_X10_book_b193 fu a0_thrown a0_taped a0_size a0_at a0_end a0_token a0_whole a0_nameSize u190_0 u190_1 a0_trouble u190_2 a0_hasBook a0_marks f_a0_fresh f_a0_letters f_a0_newCalls f_a0_r f_a0_st
def F_X10_book_b148  (fu : Nat) (a0_thrown : Int32) (a0_taped : Int32) (a0_size : Int32) (a0_at : Int32) (a0_end : Int32) (a0_token : Int32) (a0_whole : Int32) (a0_nameSize : Int32) (a0_fault : Int32) (a0_place : Int32) (a0_trouble : Int32) (a0_failed : Int32) (a0_hasBook : Int32) (a0_marks : Int32) (f_a0_fresh : Nat → Int32) (f_a0_letters : Nat → Int32) (f_a0_newCalls : Nat → Int32) (f_a0_r : Nat → Int32) (f_a0_st : Nat → Int32) : Option (Int32 × Int32 × Int32 × Int32 × Int32 × Int32 × Int32 × Int32 × Int32 × Int32 × Int32 × Int32 × Int32 × Int32 × Int32 × (Nat → Int32) × (Nat → Int32) × (Nat → Int32) × (Nat → Int32) × (Nat → Int32)) :=
  if a0_failed = 0 then
    if (f_a0_fresh (1 : Int32).toNatClampNeg) = 0 then
      F_X10_book_b183 fu a0_thrown a0_taped a0_size a0_at a0_end a0_token a0_whole a0_nameSize a0_fault a0_place a0_trouble a0_failed a0_hasBook a0_marks f_a0_fresh f_a0_letters f_a0_newCalls f_a0_r f_a0_st
    else
    if (f_a0_fresh (2 : Int32).toNatClampNeg) = 0 then
      F_X10_book_b183 fu a0_thrown a0_taped a0_size a0_at a0_end a0_token a0_whole a0_nameSize a0_fault a0_place a0_trouble a0_failed a0_hasBook a0_marks f_a0_fresh f_a0_letters f_a0_newCalls f_a0_r f_a0_st
    else
    if (f_a0_fresh (6 : Int32).toNatClampNeg) = 0 then
      F_X10_book_b183 fu a0_thrown a0_taped a0_size a0_at a0_end a0_token a0_whole a0_nameSize a0_fault a0_place a0_trouble a0_failed a0_hasBook a0_marks f_a0_fresh f_a0_letters f_a0_newCalls f_a0_r f_a0_st
    else
      F_X10_book_b193 fu a0_thrown a0_taped a0_size a0_at a0_end a0_token a0_whole a0_nameSize a0_fault a0_place a0_trouble a0_failed a0_hasBook a0_marks f_a0_fresh f_a0_letters f_a0_newCalls f_a0_r f_a0_st
  else
    F_X10_book_b193 fu a0_thrown a0_taped a0_size a0_at a0_end a0_token a0_whole a0_nameSize a0_fault a0_place a0_trouble a0_failed a0_hasBook a0_marks f_a0_fresh f_a0_letters f_a0_newCalls f_a0_r f_a0_st
def F_X10_book_b125  (fu : Nat) (a0_thrown : Int32) (a0_taped : Int32) (a0_size : Int32) (a0_at : Int32) (a0_end : Int32) (a0_token : Int32) (a0_whole : Int32) (a0_nameSize : Int32) (a0_fault : Int32) (a0_place : Int32) (a0_trouble : Int32) (a0_failed : Int32) (a0_hasBook : Int32) (a0_marks : Int32) (f_a0_fresh : Nat → Int32) (f_a0_letters : Nat → Int32) (f_a0_newCalls : Nat → Int32) (f_a0_r : Nat → Int32) (f_a0_st : Nat → Int32) : Option (Int32 × Int32 × Int32 × Int32 × Int32 × Int32 × Int32 × Int32 × Int32 × Int32 × Int32 × Int32 × Int32 × Int32 × Int32 × (Nat → Int32) × (Nat → Int32) × (Nat → Int32) × (Nat → Int32) × (Nat → Int32)) :=
  if a0_failed = 0 then
    if a0_token = 0 then
      F_X10_book_b148 fu a0_thrown a0_taped a0_size a0_at a0_end a0_token a0_whole a0_nameSize a0_fault a0_place a0_trouble a0_failed a0_hasBook a0_marks f_a0_fresh f_a0_letters f_a0_newCalls f_a0_r f_a0_st
    else
    bnd3 (F_X10_wrong a0_fault a0_place a0_failed (1 : Int32) a0_at) fun u145_0 u145_1 u145_2 =>
    F_X10_book_b148 fu a0_thrown a0_taped a0_size a0_at a0_end a0_token a0_whole a0_nameSize u145_0 u145_1 a0_trouble u145_2 a0_hasBook a0_marks f_a0_fresh f_a0_letters f_a0_newCalls f_a0_r f_a0_st
  else
    F_X10_book_b148 fu a0_thrown a0_taped a0_size a0_at a0_end a0_token a0_whole a0_nameSize a0_fault a0_place a0_trouble a0_failed a0_hasBook a0_marks f_a0_fresh f_a0_letters f_a0_newCalls f_a0_r f_a0_st
def F_X10_book_b98  (fu : Nat) (a0_thrown : Int32) (a0_taped : Int32) (a0_size : Int32) (a0_trouble : Int32) (a0_hasBook : Int32) (a0_marks : Int32) (f_a0_tape : Nat → Int32) (f_a0_r : Nat → Int32) (f_a0_st : Nat → Int32) : Nat → Int32 → Int32 → Int32 → Int32 → Int32 → Int32 → Int32 → Int32 → (Nat → Int32) → (Nat → Int32) → (Nat → Int32) → Option (Int32 × Int32 × Int32 × Int32 × Int32 × Int32 × Int32 × Int32 × Int32 × Int32 × Int32 × Int32 × Int32 × Int32 × Int32 × (Nat → Int32) × (Nat → Int32) × (Nat → Int32) × (Nat → Int32) × (Nat → Int32))
  | 0, _, _, _, _, _, _, _, _, _, _, _ => none
  | kf + 1, a0_at, a0_end, a0_token, a0_whole, a0_nameSize, a0_fault, a0_place, a0_failed, f_a0_fresh, f_a0_letters, f_a0_newCalls =>
    if a0_failed = 0 then
      if a0_token = (59 : Int32) then
        bnd6 (F_X10_next fu a0_size a0_end f_a0_tape f_a0_letters) fun u115_0 u115_1 u115_2 u115_3 u115_4 u115_5 =>
        bnd11 (F_X10_readLine fu a0_size u115_0 u115_1 u115_2 u115_3 u115_4 a0_fault a0_place a0_failed f_a0_fresh u115_5 f_a0_tape f_a0_newCalls) fun u119_0 u119_1 u119_2 u119_3 u119_4 u119_5 u119_6 u119_7 u119_8 u119_9 u119_10 =>
        (F_X10_book_b98 fu a0_thrown a0_taped a0_size a0_trouble a0_hasBook a0_marks f_a0_tape f_a0_r f_a0_st kf) u119_0 u119_1 u119_2 u119_3 u119_4 u119_5 u119_6 u119_7 u119_8 u119_9 u119_10
      else
        F_X10_book_b125 fu a0_thrown a0_taped a0_size a0_at a0_end a0_token a0_whole a0_nameSize a0_fault a0_place a0_trouble a0_failed a0_hasBook a0_marks f_a0_fresh f_a0_letters f_a0_newCalls f_a0_r f_a0_st
    else
      F_X10_book_b125 fu a0_thrown a0_taped a0_size a0_at a0_end a0_token a0_whole a0_nameSize a0_fault a0_place a0_trouble a0_failed a0_hasBook a0_marks f_a0_fresh f_a0_letters f_a0_newCalls f_a0_r f_a0_st
def F_X10_book_b60  (fu : Nat) (a0_thrown : Int32) (a0_taped : Int32) (a0_fault : Int32) (a0_place : Int32) (a0_trouble : Int32) (a0_failed : Int32) (a0_hasBook : Int32) (a0_marks : Int32) (f_a0_fresh : Nat → Int32) (f_a0_tape : Nat → Int32) (f_a0_letters : Nat → Int32) (f_a0_r : Nat → Int32) (f_a0_st : Nat → Int32) (v1 : Int32) : Nat → (Nat → Int32) → Int32 → Option (Int32 × Int32 × Int32 × Int32 × Int32 × Int32 × Int32 × Int32 × Int32 × Int32 × Int32 × Int32 × Int32 × Int32 × Int32 × (Nat → Int32) × (Nat → Int32) × (Nat → Int32) × (Nat → Int32) × (Nat → Int32))
  | 0, _, _ => none
  | kf + 1, f_a0_newCalls, v2 =>
    if (142 : Int32) ≤ v2 then
      bnd6 (F_X10_next fu v1 (0 : Int32) f_a0_tape f_a0_letters) fun u91_0 u91_1 u91_2 u91_3 u91_4 u91_5 =>
      bnd11 (F_X10_readLine fu v1 u91_0 u91_1 u91_2 u91_3 u91_4 a0_fault a0_place a0_failed f_a0_fresh u91_5 f_a0_tape f_a0_newCalls) fun u95_0 u95_1 u95_2 u95_3 u95_4 u95_5 u95_6 u95_7 u95_8 u95_9 u95_10 =>
      F_X10_book_b98 fu a0_thrown a0_taped v1 a0_trouble a0_hasBook a0_marks f_a0_tape f_a0_r f_a0_st fu u95_0 u95_1 u95_2 u95_3 u95_4 u95_5 u95_6 u95_7 u95_8 u95_9 u95_10
    else
    if v2 < 0 ∨ 142 ≤ v2.toNatClampNeg then none else
    (F_X10_book_b60 fu a0_thrown a0_taped a0_fault a0_place a0_trouble a0_failed a0_hasBook a0_marks f_a0_fresh f_a0_tape f_a0_letters f_a0_r f_a0_st v1 kf) ((upd f_a0_newCalls v2.toNatClampNeg (0 : Int32))) ((v2 + (1 : Int32)))
def F_X10_book_b39  (fu : Nat) (a0_thrown : Int32) (a0_taped : Int32) (a0_fault : Int32) (a0_place : Int32) (a0_trouble : Int32) (a0_failed : Int32) (a0_hasBook : Int32) (a0_marks : Int32) (f_a0_tape : Nat → Int32) (f_a0_letters : Nat → Int32) (f_a0_newCalls : Nat → Int32) (f_a0_r : Nat → Int32) (f_a0_st : Nat → Int32) (v1 : Int32) : Nat → (Nat → Int32) → Int32 → Option (Int32 × Int32 × Int32 × Int32 × Int32 × Int32 × Int32 × Int32 × Int32 × Int32 × Int32 × Int32 × Int32 × Int32 × Int32 × (Nat → Int32) × (Nat → Int32) × (Nat → Int32) × (Nat → Int32) × (Nat → Int32))
  | 0, _, _ => none
  | kf + 1, f_a0_fresh, v2 =>
    if (70 : Int32) ≤ v2 then
      F_X10_book_b60 fu a0_thrown a0_taped a0_fault a0_place a0_trouble a0_failed a0_hasBook a0_marks f_a0_fresh f_a0_tape f_a0_letters f_a0_r f_a0_st v1 fu f_a0_newCalls (0 : Int32)
    else
    if v2 < 0 ∨ 70 ≤ v2.toNatClampNeg then none else
    (F_X10_book_b39 fu a0_thrown a0_taped a0_fault a0_place a0_trouble a0_failed a0_hasBook a0_marks f_a0_tape f_a0_letters f_a0_newCalls f_a0_r f_a0_st v1 kf) ((upd f_a0_fresh v2.toNatClampNeg (0 : Int32))) ((v2 + (1 : Int32)))
def F_X10_book (fu : Nat) (a0_taped : Int32) (a0_size : Int32) (a0_at : Int32) (a0_end : Int32) (a0_token : Int32) (a0_whole : Int32) (a0_nameSize : Int32) (a0_fault : Int32) (a0_place : Int32) (a0_failed : Int32) (a0_hasBook : Int32) (a0_marks : Int32) (f_a0_fresh : Nat → Int32) (f_a0_tape : Nat → Int32) (f_a0_letters : Nat → Int32) (f_a0_newCalls : Nat → Int32) (f_a0_r : Nat → Int32) (f_a0_st : Nat → Int32) (v1 : Int32) : Option (Int32 × Int32 × Int32 × Int32 × Int32 × Int32 × Int32 × Int32 × Int32 × Int32 × Int32 × Int32 × Int32 × Int32 × Int32 × (Nat → Int32) × (Nat → Int32) × (Nat → Int32) × (Nat → Int32) × (Nat → Int32)) :=
  bnd2 (F_X10_good) fun u1_0 u1_1 =>
  bnd1 (F_X10_within v1 (0 : Int32) a0_taped) fun r10 =>
  if r10 = 0 then
    bnd2 (F_X10_no (2 : Int32)) fun r18 u18_0 =>
    some (r18, u1_0, a0_taped, a0_size, a0_at, a0_end, a0_token, a0_whole, a0_nameSize, a0_fault, a0_place, u18_0, a0_failed, a0_hasBook, a0_marks, f_a0_fresh, f_a0_letters, f_a0_newCalls, f_a0_r, f_a0_st)
  else
    F_X10_book_b39 fu u1_0 (0 : Int32) (0 : Int32) a0_place u1_1 (0 : Int32) a0_hasBook a0_marks f_a0_tape f_a0_letters f_a0_newCalls f_a0_r f_a0_st v1 fu f_a0_fresh (0 : Int32)
def F_X10_fault (a0_fault : Int32) : Option (Int32 × Int32) :=
  some (a0_fault, (0 : Int32))
def F_X10_where (a0_place : Int32) (a0_trouble : Int32) : Option (Int32 × Int32) :=
  if a0_trouble = (4 : Int32) then
    some (a0_place, (0 : Int32))
  else
    some ((-1 : Int32), (0 : Int32))
def F_X10_isCall (a0_hasBook : Int32) (f_a0_st : Nat → Int32) (v1 : Int32) : Option (Int32) :=
  if a0_hasBook = 0 then
    some (0 : Int32)
  else
  bnd1 (F_X10_within v1 (0 : Int32) (((f_a0_st (141 : Int32).toNatClampNeg) - (1 : Int32)))) fun r19 =>
  if r19 = 0 then
    some (0 : Int32)
  else
    some (1 : Int32)
def F_X10_isTill (a0_hasBook : Int32) (f_a0_r : Nat → Int32) (v1 : Int32) : Option (Int32) :=
  if a0_hasBook = 0 then
    some (0 : Int32)
  else
  bnd1 (F_X10_within v1 (0 : Int32) (((f_a0_r (2 : Int32).toNatClampNeg) - (1 : Int32)))) fun r17 =>
  if r17 = 0 then
    some (0 : Int32)
  else
    some (1 : Int32)
def F_X10_atFirst (v0 : Int32) : Option (Int64) :=
  if v0 = (4 : Int32) then
    some (9 : Int64)
  else
    some (0 : Int64)
def F_X10_queued_b85  (v5 : Int32) (v6 : Int64) : Nat → Int64 → Int32 → Option (Int64 × Int32)
  | 0, _, _ => none
  | kf + 1, v8, v10 =>
    if v5 ≤ v10 then
      if v8 = 0 then none else
      if v8 = 0 then none else
      some ((((v5 - (1 : Int32)).toInt64 * (1000000 : Int64)) + (v6 - v6 / v8 * v8)), ((1 : Int32) + (v6 / v8).toInt32))
    else
      (F_X10_queued_b85 v5 v6 kf) ((v8 * (10 : Int64))) ((v10 + (1 : Int32)))
def F_X10_queued_b32  (v1 : Int64) (v4 : Int32) (v5 : Int32) (v6 : Int64) (t0 : Int32) : Option (Int64 × Int32) :=
  if (6 : Int32) ≤ v5 then
    some (v1, t0)
  else
    some (((((v5 + (1 : Int32)).toInt64 * (1000000 : Int64)) + ((10 : Int64) * v6)) + v4.toInt64), t0)
def F_X10_queued (fu : Nat) (v1 : Int64) (v3 : Int32) (v4 : Int32) : Option (Int64 × Int32) :=
  if v3 = 0 then
    if (6 : Int32) ≤ (v1 / (1000000 : Int64)).toInt32 then
      F_X10_queued_b32 v1 v4 ((v1 / (1000000 : Int64)).toInt32) ((v1 - v1 / (1000000 : Int64) * (1000000 : Int64))) (0 : Int32)
    else
      F_X10_queued_b32 v1 v4 ((v1 / (1000000 : Int64)).toInt32) ((v1 - v1 / (1000000 : Int64) * (1000000 : Int64))) (1 : Int32)
  else
  if (v1 / (1000000 : Int64)).toInt32 = 0 then
    some (v1, (0 : Int32))
  else
    F_X10_queued_b85 ((v1 / (1000000 : Int64)).toInt32) ((v1 - v1 / (1000000 : Int64) * (1000000 : Int64))) fu (1 : Int64) (1 : Int32)
def F_X10_done_b263  (a0_answer : Int32) (v2 : Int64) : Option (Int64 × Int32) :=
  some (v2, a0_answer)
def F_X10_done_b247  (v2 : Int64) (v4 : Int32) (v5 : Int32) (t0 : Int32) : Option (Int64 × Int32) :=
  if v4 = (2 : Int32) then
    F_X10_done_b263 t0 v2
  else
  if t0 = 0 then
    F_X10_done_b263 t0 v2
  else
  if v4 = 0 then
    some ((v2 - v5.toInt64), t0)
  else
    some ((v2 + v5.toInt64), t0)
def F_X10_done_b235  (v2 : Int64) (v4 : Int32) (v5 : Int32) (t0_J : Int64) : Option (Int64 × Int32) :=
  if (lg_cmp t0_J v5.toInt64) < 0 then
    F_X10_done_b247 v2 v4 v5 (0 : Int32)
  else
    F_X10_done_b247 v2 v4 v5 (1 : Int32)
def F_X10_done_b197  (t0_J : Int64) : Option (Int64 × Int32) :=
  some (t0_J, t0_J.toInt32)
def F_X10_done_b196  (v2 : Int64) : Option (Int64 × Int32) :=
  F_X10_done_b197 v2
def F_X10_done_b117  (v2 : Int64) (v4 : Int32) (v5 : Int32) (t0 : Int32) : Option (Int64 × Int32) :=
  if v4 = 0 then
    some ((v2 ||| ((1 : Int64) <<< (v5.toInt64 &&& 63))), t0)
  else
  if v4 = (1 : Int32) then
    some ((v2 &&& (((1 : Int64) <<< (v5.toInt64 &&& 63)) ^^^ (-1 : Int64))), t0)
  else
    some (v2, t0)
def F_X10_done_b86  (v2 : Int64) (v4 : Int32) (v5 : Int32) (t0 : Int32) : Option (Int64 × Int32) :=
  if v4 = 0 then
    if t0 = 0 then
      F_X10_done_b117 v2 v4 v5 (1 : Int32)
    else
      F_X10_done_b117 v2 v4 v5 (0 : Int32)
  else
  if t0 = 0 then
    F_X10_done_b117 v2 v4 v5 (0 : Int32)
  else
    F_X10_done_b117 v2 v4 v5 (1 : Int32)
def F_X10_done_b44  (v2 : Int64) (v4 : Int32) (v5 : Int32) (t0 : Int32) : Option (Int64 × Int32) :=
  if v4 = 0 then
    some (v5.toInt64, t0)
  else
    some (v2, t0)
def F_X10_done (fu : Nat) (v1 : Int32) (v2 : Int64) (v4 : Int32) (v5 : Int32) : Option (Int64 × Int32) :=
  if v1 = (0 : Int32) then
    if v4 = 0 then
      F_X10_done_b44 v2 v4 v5 (0 : Int32)
    else
      F_X10_done_b44 v2 v4 v5 (v2.toInt32)
  else
  if v1 = (1 : Int32) then
    bnd2 (F_X10_queued fu v2 v4 v5) fun r66 u66_0 =>
    some (r66, u66_0)
  else
  if v1 = (2 : Int32) then
    if (lg_cmp ((v2 >>> (v5.toInt64 &&& 63)) &&& (1 : Int64)) (1 : Int64)) = 0 then
      F_X10_done_b86 v2 v4 v5 (1 : Int32)
    else
      F_X10_done_b86 v2 v4 v5 (0 : Int32)
  else
  if v1 = (3 : Int32) then
    if v4 = 0 then
      if 0 ≤ (lg_cmp v2 (99 : Int64)) then
        F_X10_done_b197 v2
      else
        F_X10_done_b197 ((v2 + (1 : Int64)))
    else
    if v4 = (1 : Int32) then
      if (lg_cmp v2 (0 : Int64)) ≤ 0 then
        F_X10_done_b196 v2
      else
        F_X10_done_b197 ((v2 - (1 : Int64)))
    else
      F_X10_done_b196 v2
  else
  if v4 = (2 : Int32) then
    F_X10_done_b247 v2 v4 v5 (v2.toInt32)
  else
  if v4 = 0 then
    F_X10_done_b235 v2 v4 v5 v2
  else
    F_X10_done_b235 v2 v4 v5 (((18 : Int64) - v2))
def F_X10_layCalls (fu : Nat) (f_a0_st : Nat → Int32) (f_a0_w : Nat → Int32) (f_a0_r : Nat → Int32) : Option (Int32 × Int32 × Int32 × Int32 × (Nat → Int32)) :=
  bnd1 (F_X10_copy fu 142 142 f_a0_st f_a0_w (0 : Int32) (0 : Int32) (142 : Int32)) fun u13_0 =>
  some ((((1 : Int32) <<< ((f_a0_st (141 : Int32).toNatClampNeg) &&& 31)) - (1 : Int32)), (0 : Int32), (-1 : Int32), (f_a0_r (0 : Int32).toNatClampNeg), u13_0)
def F_X10_isIn_b36   : Option (Int32) :=
  some (1 : Int32)
def F_X10_isIn (a0_there : Int32) (a0_onTill : Int32) (f_a0_w : Nat → Int32) (v1 : Int32) : Option (Int32) :=
  bnd1 (F_X10_has a0_there v1) fun r5 =>
  if r5 = 0 then
    some (0 : Int32)
  else
  if a0_onTill < 0 then
    F_X10_isIn_b36
  else
  if (((7 : Int32) * v1) + (1 : Int32)) < 0 ∨ 142 ≤ ((((7 : Int32) * v1) + (1 : Int32))).toNatClampNeg then none else
  if (f_a0_w ((((7 : Int32) * v1) + (1 : Int32))).toNatClampNeg) = a0_onTill then
    F_X10_isIn_b36
  else
    some (0 : Int32)
def F_X10_layRows_b84 (k22 : (Nat → Int32) → (Nat → Int32) → Int32 → Option ((Nat → Int32) × (Nat → Int32))) (a0_there : Int32) (a0_onTill : Int32) (f_a0_longOf : Nat → Int32) (f_a0_w : Nat → Int32) (f_a0_rowOf : Nat → Int32) (v1 : Int32) : Option ((Nat → Int32) × (Nat → Int32)) :=
  k22 f_a0_longOf f_a0_rowOf ((v1 + (1 : Int32)))
def F_X10_layRows_b22  (a0_there : Int32) (a0_onTill : Int32) (f_a0_w : Nat → Int32) : Nat → (Nat → Int32) → (Nat → Int32) → Int32 → Option ((Nat → Int32) × (Nat → Int32))
  | 0, _, _, _ => none
  | kf + 1, f_a0_longOf, f_a0_rowOf, v1 =>
    if (f_a0_w (141 : Int32).toNatClampNeg) ≤ v1 then
      some (f_a0_longOf, f_a0_rowOf)
    else
    bnd1 (F_X10_isIn a0_there a0_onTill f_a0_w v1) fun r36 =>
    if r36 = 0 then
      F_X10_layRows_b84 (F_X10_layRows_b22 a0_there a0_onTill f_a0_w kf) a0_there a0_onTill f_a0_longOf f_a0_w f_a0_rowOf v1
    else
    if (((7 : Int32) * v1) + (0 : Int32)) < 0 ∨ 142 ≤ ((((7 : Int32) * v1) + (0 : Int32))).toNatClampNeg then none else
    if (f_a0_w ((((7 : Int32) * v1) + (0 : Int32))).toNatClampNeg) < 0 ∨ 4 ≤ ((f_a0_w ((((7 : Int32) * v1) + (0 : Int32))).toNatClampNeg)).toNatClampNeg then none else
    if (((20 : Int32) * (f_a0_w ((((7 : Int32) * v1) + (0 : Int32))).toNatClampNeg)) + (f_a0_longOf ((f_a0_w ((((7 : Int32) * v1) + (0 : Int32))).toNatClampNeg)).toNatClampNeg)) < 0 ∨ 80 ≤ ((((20 : Int32) * (f_a0_w ((((7 : Int32) * v1) + (0 : Int32))).toNatClampNeg)) + (f_a0_longOf ((f_a0_w ((((7 : Int32) * v1) + (0 : Int32))).toNatClampNeg)).toNatClampNeg))).toNatClampNeg then none else
    if (f_a0_w ((((7 : Int32) * v1) + (0 : Int32))).toNatClampNeg) < 0 ∨ 4 ≤ ((f_a0_w ((((7 : Int32) * v1) + (0 : Int32))).toNatClampNeg)).toNatClampNeg then none else
    if (f_a0_w ((((7 : Int32) * v1) + (0 : Int32))).toNatClampNeg) < 0 ∨ 4 ≤ ((f_a0_w ((((7 : Int32) * v1) + (0 : Int32))).toNatClampNeg)).toNatClampNeg then none else
    F_X10_layRows_b84 (F_X10_layRows_b22 a0_there a0_onTill f_a0_w kf) a0_there a0_onTill ((upd f_a0_longOf ((f_a0_w ((((7 : Int32) * v1) + (0 : Int32))).toNatClampNeg)).toNatClampNeg ((f_a0_longOf ((f_a0_w ((((7 : Int32) * v1) + (0 : Int32))).toNatClampNeg)).toNatClampNeg) + (1 : Int32)))) f_a0_w ((upd f_a0_rowOf ((((20 : Int32) * (f_a0_w ((((7 : Int32) * v1) + (0 : Int32))).toNatClampNeg)) + (f_a0_longOf ((f_a0_w ((((7 : Int32) * v1) + (0 : Int32))).toNatClampNeg)).toNatClampNeg))).toNatClampNeg v1)) v1
def F_X10_layRows_b2  (fu : Nat) (a0_there : Int32) (a0_onTill : Int32) (f_a0_w : Nat → Int32) (f_a0_rowOf : Nat → Int32) : Nat → (Nat → Int32) → Int32 → Option ((Nat → Int32) × (Nat → Int32))
  | 0, _, _ => none
  | kf + 1, f_a0_longOf, v1 =>
    if (4 : Int32) ≤ v1 then
      F_X10_layRows_b22 a0_there a0_onTill f_a0_w fu f_a0_longOf f_a0_rowOf (0 : Int32)
    else
    if v1 < 0 ∨ 4 ≤ v1.toNatClampNeg then none else
    (F_X10_layRows_b2 fu a0_there a0_onTill f_a0_w f_a0_rowOf kf) ((upd f_a0_longOf v1.toNatClampNeg (0 : Int32))) ((v1 + (1 : Int32)))
def F_X10_layRows (fu : Nat) (a0_there : Int32) (a0_onTill : Int32) (f_a0_longOf : Nat → Int32) (f_a0_w : Nat → Int32) (f_a0_rowOf : Nat → Int32) : Option ((Nat → Int32) × (Nat → Int32)) :=
  F_X10_layRows_b2 fu a0_there a0_onTill f_a0_w f_a0_rowOf fu f_a0_longOf (0 : Int32)
def F_X10_mayCome_b137 (k33 : Int32 → Int32 → Option (Int32)) (fu : Nat) (f_a0_doneOf : Nat → Int32) (f_a0_longOf : Nat → Int32) (f_a0_rowOf : Nat → Int32) (f_a0_w : Nat → Int32) (v1 : Int32) (v2 : Int32) (v3 : Int32) (v4 : Int32) (v5 : Int32) : Option (Int32) :=
  k33 v4 ((v5 + (1 : Int32)))
def F_X10_mayCome_b129 (k33 : Int32 → Int32 → Option (Int32)) (k57 : Int32 → Int32 → Option (Int32)) (fu : Nat) (f_a0_doneOf : Nat → Int32) (f_a0_longOf : Nat → Int32) (f_a0_rowOf : Nat → Int32) (f_a0_w : Nat → Int32) (v1 : Int32) (v2 : Int32) (t0 : Int32) (v3 : Int32) (v5 : Int32) (v6 : Int32) : Option (Int32) :=
  k57 t0 ((v6 + (1 : Int32)))
def F_X10_mayCome_b124 (k33 : Int32 → Int32 → Option (Int32)) (k57 : Int32 → Int32 → Option (Int32)) (fu : Nat) (f_a0_doneOf : Nat → Int32) (f_a0_longOf : Nat → Int32) (f_a0_rowOf : Nat → Int32) (f_a0_w : Nat → Int32) (v1 : Int32) (v2 : Int32) (v3 : Int32) (v5 : Int32) (v6 : Int32) : Option (Int32) :=
  F_X10_mayCome_b129 k33 k57 fu f_a0_doneOf f_a0_longOf f_a0_rowOf f_a0_w v1 v2 (1 : Int32) v3 v5 v6
def F_X10_mayCome_b57 (k33 : Int32 → Int32 → Option (Int32)) (fu : Nat) (f_a0_doneOf : Nat → Int32) (f_a0_longOf : Nat → Int32) (f_a0_rowOf : Nat → Int32) (f_a0_w : Nat → Int32) (v1 : Int32) (v2 : Int32) (v3 : Int32) (v5 : Int32) : Nat → Int32 → Int32 → Option (Int32)
  | 0, _, _ => none
  | kf + 1, v4, v6 =>
    if v5 < 0 ∨ 4 ≤ v5.toNatClampNeg then none else
    if (f_a0_longOf v5.toNatClampNeg) ≤ v6 then
      F_X10_mayCome_b137 k33 fu f_a0_doneOf f_a0_longOf f_a0_rowOf f_a0_w v1 v2 v3 v4 v5
    else
    if v4 = 0 then
      F_X10_mayCome_b137 k33 fu f_a0_doneOf f_a0_longOf f_a0_rowOf f_a0_w v1 v2 v3 v4 v5
    else
    if (((20 : Int32) * v5) + v6) < 0 ∨ 80 ≤ ((((20 : Int32) * v5) + v6)).toNatClampNeg then none else
    if (((7 : Int32) * (f_a0_rowOf ((((20 : Int32) * v5) + v6)).toNatClampNeg)) + (5 : Int32)) < 0 ∨ 142 ≤ ((((7 : Int32) * (f_a0_rowOf ((((20 : Int32) * v5) + v6)).toNatClampNeg)) + (5 : Int32))).toNatClampNeg then none else
    if (f_a0_w ((((7 : Int32) * (f_a0_rowOf ((((20 : Int32) * v5) + v6)).toNatClampNeg)) + (5 : Int32))).toNatClampNeg) = (-2 : Int32) then
      F_X10_mayCome_b124 k33 (F_X10_mayCome_b57 k33 fu f_a0_doneOf f_a0_longOf f_a0_rowOf f_a0_w v1 v2 v3 v5 kf) fu f_a0_doneOf f_a0_longOf f_a0_rowOf f_a0_w v1 v2 v3 v5 v6
    else
    if (((7 : Int32) * v2) + (4 : Int32)) < 0 ∨ 142 ≤ ((((7 : Int32) * v2) + (4 : Int32))).toNatClampNeg then none else
    if ((f_a0_w ((((7 : Int32) * (f_a0_rowOf ((((20 : Int32) * v5) + v6)).toNatClampNeg)) + (5 : Int32))).toNatClampNeg) + v3) < (f_a0_w ((((7 : Int32) * v2) + (4 : Int32))).toNatClampNeg) then
      F_X10_mayCome_b129 k33 (F_X10_mayCome_b57 k33 fu f_a0_doneOf f_a0_longOf f_a0_rowOf f_a0_w v1 v2 v3 v5 kf) fu f_a0_doneOf f_a0_longOf f_a0_rowOf f_a0_w v1 v2 (0 : Int32) v3 v5 v6
    else
      F_X10_mayCome_b124 k33 (F_X10_mayCome_b57 k33 fu f_a0_doneOf f_a0_longOf f_a0_rowOf f_a0_w v1 v2 v3 v5 kf) fu f_a0_doneOf f_a0_longOf f_a0_rowOf f_a0_w v1 v2 v3 v5 v6
def F_X10_mayCome_b33  (fu : Nat) (f_a0_doneOf : Nat → Int32) (f_a0_longOf : Nat → Int32) (f_a0_rowOf : Nat → Int32) (f_a0_w : Nat → Int32) (v1 : Int32) (v2 : Int32) (v3 : Int32) : Nat → Int32 → Int32 → Option (Int32)
  | 0, _, _ => none
  | kf + 1, v4, v5 =>
    if (4 : Int32) ≤ v5 then
      if ¬ (v4 = 0 ∨ v4 = 1) then none else
      some v4
    else
    if v4 = 0 then
      if ¬ (v4 = 0 ∨ v4 = 1) then none else
      some v4
    else
    if (((4 : Int32) * v1) + v5) < 0 ∨ 24004 ≤ ((((4 : Int32) * v1) + v5)).toNatClampNeg then none else
    F_X10_mayCome_b57 (F_X10_mayCome_b33 fu f_a0_doneOf f_a0_longOf f_a0_rowOf f_a0_w v1 v2 v3 kf) fu f_a0_doneOf f_a0_longOf f_a0_rowOf f_a0_w v1 v2 v3 v5 fu v4 ((f_a0_doneOf ((((4 : Int32) * v1) + v5)).toNatClampNeg))
def F_X10_mayCome_b26  (fu : Nat) (f_a0_doneOf : Nat → Int32) (f_a0_longOf : Nat → Int32) (f_a0_rowOf : Nat → Int32) (f_a0_w : Nat → Int32) (v1 : Int32) (v2 : Int32) (t0 : Int32) : Option (Int32) :=
  F_X10_mayCome_b33 fu f_a0_doneOf f_a0_longOf f_a0_rowOf f_a0_w v1 v2 t0 fu (1 : Int32) (0 : Int32)
def F_X10_mayCome (fu : Nat) (a0_minutes : Int32) (a0_byKind : Int32) (f_a0_doneOf : Nat → Int32) (f_a0_longOf : Nat → Int32) (f_a0_rowOf : Nat → Int32) (f_a0_w : Nat → Int32) (v1 : Int32) (v2 : Int32) : Option (Int32) :=
  if a0_byKind = (1 : Int32) then
    some (1 : Int32)
  else
  if a0_byKind = (2 : Int32) then
    F_X10_mayCome_b26 fu f_a0_doneOf f_a0_longOf f_a0_rowOf f_a0_w v1 v2 a0_minutes
  else
    F_X10_mayCome_b26 fu f_a0_doneOf f_a0_longOf f_a0_rowOf f_a0_w v1 v2 (0 : Int32)
def F_X10_findStand_b203 (k82 : Int32 → Option (Int32 × Int32 × Int32 × (Nat → Int32))) (k160 : Int32 → Int32 → Option (Int32 × Int32 × Int32 × (Nat → Int32))) (fu : Nat) (a0_stands : Int32) (a0_isFull : Int32) (f_a0_doneOf : Nat → Int32) (f_a0_tills : Nat → Int64) (f_a0_slot : Nat → Int32) (v1 : Int32) (v4 : Int32) (v5 : Int32) (v7 : Int32) (t0 : Int32) : Option (Int32 × Int32 × Int32 × (Nat → Int32)) :=
  k160 t0 ((v7 + (1 : Int32)))
def F_X10_findStand_b202 (k82 : Int32 → Option (Int32 × Int32 × Int32 × (Nat → Int32))) (k160 : Int32 → Int32 → Option (Int32 × Int32 × Int32 × (Nat → Int32))) (fu : Nat) (a0_stands : Int32) (a0_isFull : Int32) (f_a0_doneOf : Nat → Int32) (f_a0_tills : Nat → Int64) (f_a0_slot : Nat → Int32) (v1 : Int32) (v4 : Int32) (v5 : Int32) (v7 : Int32) : Option (Int32 × Int32 × Int32 × (Nat → Int32)) :=
  F_X10_findStand_b203 k82 k160 fu a0_stands a0_isFull f_a0_doneOf f_a0_tills f_a0_slot v1 v4 v5 v7 (0 : Int32)
def F_X10_findStand_b160 (k82 : Int32 → Option (Int32 × Int32 × Int32 × (Nat → Int32))) (fu : Nat) (a0_stands : Int32) (a0_isFull : Int32) (f_a0_doneOf : Nat → Int32) (f_a0_tills : Nat → Int64) (f_a0_slot : Nat → Int32) (v1 : Int32) (v4 : Int32) (v5 : Int32) : Nat → Int32 → Int32 → Option (Int32 × Int32 × Int32 × (Nat → Int32))
  | 0, _, _ => none
  | kf + 1, v6, v7 =>
    if (3 : Int32) ≤ v7 then
      if v6 = 0 then
        k82 (((v4 + (1 : Int32)) &&& (16383 : Int32)))
      else
        some (v5, a0_stands, a0_isFull, f_a0_slot)
    else
    if v6 = 0 then
      F_X10_findStand_b202 k82 (F_X10_findStand_b160 k82 fu a0_stands a0_isFull f_a0_doneOf f_a0_tills f_a0_slot v1 v4 v5 kf) fu a0_stands a0_isFull f_a0_doneOf f_a0_tills f_a0_slot v1 v4 v5 v7
    else
    if (((3 : Int32) * v5) + v7) < 0 ∨ 18003 ≤ ((((3 : Int32) * v5) + v7)).toNatClampNeg then none else
    if (((3 : Int32) * v1) + v7) < 0 ∨ 18003 ≤ ((((3 : Int32) * v1) + v7)).toNatClampNeg then none else
    if (lg_cmp (f_a0_tills ((((3 : Int32) * v5) + v7)).toNatClampNeg) (f_a0_tills ((((3 : Int32) * v1) + v7)).toNatClampNeg)) = 0 then
      F_X10_findStand_b203 k82 (F_X10_findStand_b160 k82 fu a0_stands a0_isFull f_a0_doneOf f_a0_tills f_a0_slot v1 v4 v5 kf) fu a0_stands a0_isFull f_a0_doneOf f_a0_tills f_a0_slot v1 v4 v5 v7 (1 : Int32)
    else
      F_X10_findStand_b202 k82 (F_X10_findStand_b160 k82 fu a0_stands a0_isFull f_a0_doneOf f_a0_tills f_a0_slot v1 v4 v5 kf) fu a0_stands a0_isFull f_a0_doneOf f_a0_tills f_a0_slot v1 v4 v5 v7
def F_X10_findStand_b149 (k82 : Int32 → Option (Int32 × Int32 × Int32 × (Nat → Int32))) (k107 : Int32 → Int32 → Option (Int32 × Int32 × Int32 × (Nat → Int32))) (fu : Nat) (a0_stands : Int32) (a0_isFull : Int32) (f_a0_doneOf : Nat → Int32) (f_a0_tills : Nat → Int64) (f_a0_slot : Nat → Int32) (v1 : Int32) (v4 : Int32) (v5 : Int32) (v7 : Int32) (t0 : Int32) : Option (Int32 × Int32 × Int32 × (Nat → Int32)) :=
  k107 t0 ((v7 + (1 : Int32)))
def F_X10_findStand_b148 (k82 : Int32 → Option (Int32 × Int32 × Int32 × (Nat → Int32))) (k107 : Int32 → Int32 → Option (Int32 × Int32 × Int32 × (Nat → Int32))) (fu : Nat) (a0_stands : Int32) (a0_isFull : Int32) (f_a0_doneOf : Nat → Int32) (f_a0_tills : Nat → Int64) (f_a0_slot : Nat → Int32) (v1 : Int32) (v4 : Int32) (v5 : Int32) (v7 : Int32) : Option (Int32 × Int32 × Int32 × (Nat → Int32)) :=
  F_X10_findStand_b149 k82 k107 fu a0_stands a0_isFull f_a0_doneOf f_a0_tills f_a0_slot v1 v4 v5 v7 (0 : Int32)
def F_X10_findStand_b107 (k82 : Int32 → Option (Int32 × Int32 × Int32 × (Nat → Int32))) (fu : Nat) (a0_stands : Int32) (a0_isFull : Int32) (f_a0_doneOf : Nat → Int32) (f_a0_tills : Nat → Int64) (f_a0_slot : Nat → Int32) (v1 : Int32) (v4 : Int32) (v5 : Int32) : Nat → Int32 → Int32 → Option (Int32 × Int32 × Int32 × (Nat → Int32))
  | 0, _, _ => none
  | kf + 1, v6, v7 =>
    if (4 : Int32) ≤ v7 then
      F_X10_findStand_b160 k82 fu a0_stands a0_isFull f_a0_doneOf f_a0_tills f_a0_slot v1 v4 v5 fu v6 (0 : Int32)
    else
    if v6 = 0 then
      F_X10_findStand_b148 k82 (F_X10_findStand_b107 k82 fu a0_stands a0_isFull f_a0_doneOf f_a0_tills f_a0_slot v1 v4 v5 kf) fu a0_stands a0_isFull f_a0_doneOf f_a0_tills f_a0_slot v1 v4 v5 v7
    else
    if (((4 : Int32) * v5) + v7) < 0 ∨ 24004 ≤ ((((4 : Int32) * v5) + v7)).toNatClampNeg then none else
    if (((4 : Int32) * v1) + v7) < 0 ∨ 24004 ≤ ((((4 : Int32) * v1) + v7)).toNatClampNeg then none else
    if (f_a0_doneOf ((((4 : Int32) * v5) + v7)).toNatClampNeg) = (f_a0_doneOf ((((4 : Int32) * v1) + v7)).toNatClampNeg) then
      F_X10_findStand_b149 k82 (F_X10_findStand_b107 k82 fu a0_stands a0_isFull f_a0_doneOf f_a0_tills f_a0_slot v1 v4 v5 kf) fu a0_stands a0_isFull f_a0_doneOf f_a0_tills f_a0_slot v1 v4 v5 v7 (1 : Int32)
    else
      F_X10_findStand_b148 k82 (F_X10_findStand_b107 k82 fu a0_stands a0_isFull f_a0_doneOf f_a0_tills f_a0_slot v1 v4 v5 kf) fu a0_stands a0_isFull f_a0_doneOf f_a0_tills f_a0_slot v1 v4 v5 v7
def F_X10_findStand_b82  (fu : Nat) (a0_stands : Int32) (a0_isFull : Int32) (f_a0_doneOf : Nat → Int32) (f_a0_tills : Nat → Int64) (f_a0_slot : Nat → Int32) (v1 : Int32) : Nat → Int32 → Option (Int32 × Int32 × Int32 × (Nat → Int32))
  | 0, _ => none
  | kf + 1, v4 =>
    if v4 < 0 ∨ 16384 ≤ v4.toNatClampNeg then none else
    if (f_a0_slot v4.toNatClampNeg) < 0 then
      if v1 = (6000 : Int32) then
        some ((-1 : Int32), a0_stands, (1 : Int32), f_a0_slot)
      else
      if v4 < 0 ∨ 16384 ≤ v4.toNatClampNeg then none else
      some (v1, (a0_stands + (1 : Int32)), a0_isFull, (upd f_a0_slot v4.toNatClampNeg v1))
    else
    if v4 < 0 ∨ 16384 ≤ v4.toNatClampNeg then none else
    F_X10_findStand_b107 (F_X10_findStand_b82 fu a0_stands a0_isFull f_a0_doneOf f_a0_tills f_a0_slot v1 kf) fu a0_stands a0_isFull f_a0_doneOf f_a0_tills f_a0_slot v1 v4 (f_a0_slot v4.toNatClampNeg) fu (1 : Int32) (0 : Int32)
def F_X10_findStand_b39  (fu : Nat) (a0_stands : Int32) (a0_isFull : Int32) (f_a0_doneOf : Nat → Int32) (f_a0_tills : Nat → Int64) (f_a0_slot : Nat → Int32) (v1 : Int32) : Nat → Int64 → Int32 → Option (Int32 × Int32 × Int32 × (Nat → Int32))
  | 0, _, _ => none
  | kf + 1, v2, v4 =>
    if (3 : Int32) ≤ v4 then
      F_X10_findStand_b82 fu a0_stands a0_isFull f_a0_doneOf f_a0_tills f_a0_slot v1 fu (((v2 ^^^ (v2 >>> ((17 : Int32).toInt64 &&& 63))) &&& (16383 : Int64)).toInt32)
    else
    if (((3 : Int32) * v1) + v4) < 0 ∨ 18003 ≤ ((((3 : Int32) * v1) + v4)).toNatClampNeg then none else
    (F_X10_findStand_b39 fu a0_stands a0_isFull f_a0_doneOf f_a0_tills f_a0_slot v1 kf) ((((1000003 : Int64) * v2) + (f_a0_tills ((((3 : Int32) * v1) + v4)).toNatClampNeg))) ((v4 + (1 : Int32)))
def F_X10_findStand_b5  (fu : Nat) (a0_stands : Int32) (a0_isFull : Int32) (f_a0_doneOf : Nat → Int32) (f_a0_tills : Nat → Int64) (f_a0_slot : Nat → Int32) (v1 : Int32) : Nat → Int64 → Int32 → Option (Int32 × Int32 × Int32 × (Nat → Int32))
  | 0, _, _ => none
  | kf + 1, v2, v4 =>
    if (4 : Int32) ≤ v4 then
      F_X10_findStand_b39 fu a0_stands a0_isFull f_a0_doneOf f_a0_tills f_a0_slot v1 fu v2 (0 : Int32)
    else
    if (((4 : Int32) * v1) + v4) < 0 ∨ 24004 ≤ ((((4 : Int32) * v1) + v4)).toNatClampNeg then none else
    (F_X10_findStand_b5 fu a0_stands a0_isFull f_a0_doneOf f_a0_tills f_a0_slot v1 kf) ((((31 : Int64) * v2) + (f_a0_doneOf ((((4 : Int32) * v1) + v4)).toNatClampNeg).toInt64)) ((v4 + (1 : Int32)))
def F_X10_findStand (fu : Nat) (a0_stands : Int32) (a0_isFull : Int32) (f_a0_doneOf : Nat → Int32) (f_a0_tills : Nat → Int64) (f_a0_slot : Nat → Int32) (v1 : Int32) : Option (Int32 × Int32 × Int32 × (Nat → Int32)) :=
  F_X10_findStand_b5 fu a0_stands a0_isFull f_a0_doneOf f_a0_tills f_a0_slot v1 fu (0 : Int64) (0 : Int32)
def F_X10_isWhole_b68 (k4 : Int32 → Int32 → Option (Int32)) (k21 : Int32 → Int32 → Option (Int32)) (fu : Nat) (f_a0_doneOf : Nat → Int32) (f_a0_longOf : Nat → Int32) (f_a0_rowOf : Nat → Int32) (f_a0_w : Nat → Int32) (v1 : Int32) (v3 : Int32) (v4 : Int32) (t0 : Int32) : Option (Int32) :=
  k21 t0 ((v4 + (1 : Int32)))
def F_X10_isWhole_b67 (k4 : Int32 → Int32 → Option (Int32)) (k21 : Int32 → Int32 → Option (Int32)) (fu : Nat) (f_a0_doneOf : Nat → Int32) (f_a0_longOf : Nat → Int32) (f_a0_rowOf : Nat → Int32) (f_a0_w : Nat → Int32) (v1 : Int32) (v3 : Int32) (v4 : Int32) : Option (Int32) :=
  F_X10_isWhole_b68 k4 k21 fu f_a0_doneOf f_a0_longOf f_a0_rowOf f_a0_w v1 v3 v4 (0 : Int32)
def F_X10_isWhole_b21 (k4 : Int32 → Int32 → Option (Int32)) (fu : Nat) (f_a0_doneOf : Nat → Int32) (f_a0_longOf : Nat → Int32) (f_a0_rowOf : Nat → Int32) (f_a0_w : Nat → Int32) (v1 : Int32) (v3 : Int32) : Nat → Int32 → Int32 → Option (Int32)
  | 0, _, _ => none
  | kf + 1, v2, v4 =>
    if v3 < 0 ∨ 4 ≤ v3.toNatClampNeg then none else
    if (f_a0_longOf v3.toNatClampNeg) ≤ v4 then
      k4 v2 ((v3 + (1 : Int32)))
    else
    if v2 = 0 then
      F_X10_isWhole_b67 k4 (F_X10_isWhole_b21 k4 fu f_a0_doneOf f_a0_longOf f_a0_rowOf f_a0_w v1 v3 kf) fu f_a0_doneOf f_a0_longOf f_a0_rowOf f_a0_w v1 v3 v4
    else
    if (((20 : Int32) * v3) + v4) < 0 ∨ 80 ≤ ((((20 : Int32) * v3) + v4)).toNatClampNeg then none else
    if (((7 : Int32) * (f_a0_rowOf ((((20 : Int32) * v3) + v4)).toNatClampNeg)) + (5 : Int32)) < 0 ∨ 142 ≤ ((((7 : Int32) * (f_a0_rowOf ((((20 : Int32) * v3) + v4)).toNatClampNeg)) + (5 : Int32))).toNatClampNeg then none else
    if (f_a0_w ((((7 : Int32) * (f_a0_rowOf ((((20 : Int32) * v3) + v4)).toNatClampNeg)) + (5 : Int32))).toNatClampNeg) = (-2 : Int32) then
      F_X10_isWhole_b68 k4 (F_X10_isWhole_b21 k4 fu f_a0_doneOf f_a0_longOf f_a0_rowOf f_a0_w v1 v3 kf) fu f_a0_doneOf f_a0_longOf f_a0_rowOf f_a0_w v1 v3 v4 (1 : Int32)
    else
      F_X10_isWhole_b67 k4 (F_X10_isWhole_b21 k4 fu f_a0_doneOf f_a0_longOf f_a0_rowOf f_a0_w v1 v3 kf) fu f_a0_doneOf f_a0_longOf f_a0_rowOf f_a0_w v1 v3 v4
def F_X10_isWhole_b4  (fu : Nat) (f_a0_doneOf : Nat → Int32) (f_a0_longOf : Nat → Int32) (f_a0_rowOf : Nat → Int32) (f_a0_w : Nat → Int32) (v1 : Int32) : Nat → Int32 → Int32 → Option (Int32)
  | 0, _, _ => none
  | kf + 1, v2, v3 =>
    if (4 : Int32) ≤ v3 then
      if ¬ (v2 = 0 ∨ v2 = 1) then none else
      some v2
    else
    if (((4 : Int32) * v1) + v3) < 0 ∨ 24004 ≤ ((((4 : Int32) * v1) + v3)).toNatClampNeg then none else
    F_X10_isWhole_b21 (F_X10_isWhole_b4 fu f_a0_doneOf f_a0_longOf f_a0_rowOf f_a0_w v1 kf) fu f_a0_doneOf f_a0_longOf f_a0_rowOf f_a0_w v1 v3 fu v2 ((f_a0_doneOf ((((4 : Int32) * v1) + v3)).toNatClampNeg))
def F_X10_isWhole (fu : Nat) (f_a0_doneOf : Nat → Int32) (f_a0_longOf : Nat → Int32) (f_a0_rowOf : Nat → Int32) (f_a0_w : Nat → Int32) (v1 : Int32) : Option (Int32) :=
  F_X10_isWhole_b4 fu f_a0_doneOf f_a0_longOf f_a0_rowOf f_a0_w v1 fu (1 : Int32) (0 : Int32)
def F_X10_leadsOn_b271 (k229 : (Nat → Int64) → Int32 → Option (Int32 × Int32 × Int32 × (Nat → Int32) × (Nat → Int32) × (Nat → Int64) × (Nat → Int32) × (Nat → Int32))) (fu : Nat) (a0_answer : Int32) (a0_stands : Int32) (a0_isFull : Int32) (f_a0_nextOf : Nat → Int32) (f_a0_doneOf : Nat → Int32) (f_a0_tills : Nat → Int64) (f_a0_heard : Nat → Int32) (f_a0_slot : Nat → Int32) (v1 : Int32) (v3 : Int32) (v7 : Int32) (v8 : Int64) (v10 : Int32) (t1 : Int32) (t0_J : Int64) : Option (Int32 × Int32 × Int32 × (Nat → Int32) × (Nat → Int32) × (Nat → Int64) × (Nat → Int32) × (Nat → Int32)) :=
  if t1 < 0 ∨ 18003 ≤ t1.toNatClampNeg then none else
  k229 (vp_updL f_a0_tills t1.toNatClampNeg t0_J) ((v10 + (1 : Int32)))
def F_X10_leadsOn_b229  (fu : Nat) (a0_answer : Int32) (a0_stands : Int32) (a0_isFull : Int32) (f_a0_nextOf : Nat → Int32) (f_a0_doneOf : Nat → Int32) (f_a0_heard : Nat → Int32) (f_a0_slot : Nat → Int32) (v1 : Int32) (v3 : Int32) (v7 : Int32) (v8 : Int64) : Nat → (Nat → Int64) → Int32 → Option (Int32 × Int32 × Int32 × (Nat → Int32) × (Nat → Int32) × (Nat → Int64) × (Nat → Int32) × (Nat → Int32))
  | 0, _, _ => none
  | kf + 1, f_a0_tills, v10 =>
    if (3 : Int32) ≤ v10 then
      bnd4 (F_X10_findStand fu a0_stands a0_isFull f_a0_doneOf f_a0_tills f_a0_slot a0_stands) fun r288 u288_0 u288_1 u288_2 =>
      if v3 < 0 ∨ 24004 ≤ v3.toNatClampNeg then none else
      some (a0_answer, u288_0, u288_1, (upd f_a0_nextOf v3.toNatClampNeg r288), f_a0_doneOf, f_a0_tills, f_a0_heard, u288_2)
    else
    if v10 = v7 then
      F_X10_leadsOn_b271 (F_X10_leadsOn_b229 fu a0_answer a0_stands a0_isFull f_a0_nextOf f_a0_doneOf f_a0_heard f_a0_slot v1 v3 v7 v8 kf) fu a0_answer a0_stands a0_isFull f_a0_nextOf f_a0_doneOf f_a0_tills f_a0_heard f_a0_slot v1 v3 v7 v8 v10 ((((3 : Int32) * a0_stands) + v10)) v8
    else
    if (((3 : Int32) * v1) + v10) < 0 ∨ 18003 ≤ ((((3 : Int32) * v1) + v10)).toNatClampNeg then none else
    F_X10_leadsOn_b271 (F_X10_leadsOn_b229 fu a0_answer a0_stands a0_isFull f_a0_nextOf f_a0_doneOf f_a0_heard f_a0_slot v1 v3 v7 v8 kf) fu a0_answer a0_stands a0_isFull f_a0_nextOf f_a0_doneOf f_a0_tills f_a0_heard f_a0_slot v1 v3 v7 v8 v10 ((((3 : Int32) * a0_stands) + v10)) ((f_a0_tills ((((3 : Int32) * v1) + v10)).toNatClampNeg))
def F_X10_leadsOn_b218 (k177 : (Nat → Int32) → Int32 → Option (Int32 × Int32 × Int32 × (Nat → Int32) × (Nat → Int32) × (Nat → Int64) × (Nat → Int32) × (Nat → Int32))) (fu : Nat) (a0_answer : Int32) (a0_stands : Int32) (a0_isFull : Int32) (f_a0_nextOf : Nat → Int32) (f_a0_doneOf : Nat → Int32) (f_a0_tills : Nat → Int64) (f_a0_heard : Nat → Int32) (f_a0_slot : Nat → Int32) (v1 : Int32) (v2 : Int32) (v3 : Int32) (v7 : Int32) (v8 : Int64) (v10 : Int32) (t0 : Int32) (t1 : Int32) (t2 : Int32) : Option (Int32 × Int32 × Int32 × (Nat → Int32) × (Nat → Int32) × (Nat → Int64) × (Nat → Int32) × (Nat → Int32)) :=
  if t2 < 0 ∨ 24004 ≤ t2.toNatClampNeg then none else
  k177 ((upd f_a0_doneOf t2.toNatClampNeg (t1 + t0))) ((v10 + (1 : Int32)))
def F_X10_leadsOn_b177  (fu : Nat) (a0_answer : Int32) (a0_stands : Int32) (a0_isFull : Int32) (f_a0_nextOf : Nat → Int32) (f_a0_tills : Nat → Int64) (f_a0_heard : Nat → Int32) (f_a0_slot : Nat → Int32) (v1 : Int32) (v2 : Int32) (v3 : Int32) (v7 : Int32) (v8 : Int64) : Nat → (Nat → Int32) → Int32 → Option (Int32 × Int32 × Int32 × (Nat → Int32) × (Nat → Int32) × (Nat → Int64) × (Nat → Int32) × (Nat → Int32))
  | 0, _, _ => none
  | kf + 1, f_a0_doneOf, v10 =>
    if (4 : Int32) ≤ v10 then
      F_X10_leadsOn_b229 fu a0_answer a0_stands a0_isFull f_a0_nextOf f_a0_doneOf f_a0_heard f_a0_slot v1 v3 v7 v8 fu f_a0_tills (0 : Int32)
    else
    if (((4 : Int32) * v1) + v10) < 0 ∨ 24004 ≤ ((((4 : Int32) * v1) + v10)).toNatClampNeg then none else
    if v10 = v2 then
      F_X10_leadsOn_b218 (F_X10_leadsOn_b177 fu a0_answer a0_stands a0_isFull f_a0_nextOf f_a0_tills f_a0_heard f_a0_slot v1 v2 v3 v7 v8 kf) fu a0_answer a0_stands a0_isFull f_a0_nextOf f_a0_doneOf f_a0_tills f_a0_heard f_a0_slot v1 v2 v3 v7 v8 v10 (1 : Int32) ((f_a0_doneOf ((((4 : Int32) * v1) + v10)).toNatClampNeg)) ((((4 : Int32) * a0_stands) + v10))
    else
      F_X10_leadsOn_b218 (F_X10_leadsOn_b177 fu a0_answer a0_stands a0_isFull f_a0_nextOf f_a0_tills f_a0_heard f_a0_slot v1 v2 v3 v7 v8 kf) fu a0_answer a0_stands a0_isFull f_a0_nextOf f_a0_doneOf f_a0_tills f_a0_heard f_a0_slot v1 v2 v3 v7 v8 v10 (0 : Int32) ((f_a0_doneOf ((((4 : Int32) * v1) + v10)).toNatClampNeg)) ((((4 : Int32) * a0_stands) + v10))
def F_X10_leadsOn_b164  (fu : Nat) (a0_answer : Int32) (a0_stands : Int32) (a0_isFull : Int32) (f_a0_nextOf : Nat → Int32) (f_a0_doneOf : Nat → Int32) (f_a0_tills : Nat → Int64) (f_a0_heard : Nat → Int32) (f_a0_slot : Nat → Int32) (v1 : Int32) (v2 : Int32) (v3 : Int32) (v7 : Int32) (v8 : Int64) : Option (Int32 × Int32 × Int32 × (Nat → Int32) × (Nat → Int32) × (Nat → Int64) × (Nat → Int32) × (Nat → Int32)) :=
  if v3 < 0 ∨ 24004 ≤ v3.toNatClampNeg then none else
  F_X10_leadsOn_b177 fu a0_answer a0_stands a0_isFull f_a0_nextOf f_a0_tills (upd f_a0_heard v3.toNatClampNeg a0_answer) f_a0_slot v1 v2 v3 v7 v8 fu f_a0_doneOf (0 : Int32)
def F_X10_leadsOn (fu : Nat) (a0_answer : Int32) (a0_loose : Int32) (a0_minutes : Int32) (a0_byKind : Int32) (a0_stands : Int32) (a0_isFull : Int32) (f_a0_nextOf : Nat → Int32) (f_a0_doneOf : Nat → Int32) (f_a0_longOf : Nat → Int32) (f_a0_rowOf : Nat → Int32) (f_a0_w : Nat → Int32) (f_a0_r : Nat → Int32) (f_a0_tills : Nat → Int64) (f_a0_heard : Nat → Int32) (f_a0_slot : Nat → Int32) (v1 : Int32) (v2 : Int32) : Option (Int32 × Int32 × Int32 × (Nat → Int32) × (Nat → Int32) × (Nat → Int64) × (Nat → Int32) × (Nat → Int32)) :=
  if (((4 : Int32) * v1) + v2) < 0 ∨ 24004 ≤ ((((4 : Int32) * v1) + v2)).toNatClampNeg then none else
  if (((4 : Int32) * v1) + v2) < 0 ∨ 24004 ≤ ((((4 : Int32) * v1) + v2)).toNatClampNeg then none else
  if v2 < 0 ∨ 4 ≤ v2.toNatClampNeg then none else
  if (f_a0_doneOf ((((4 : Int32) * v1) + v2)).toNatClampNeg) = (f_a0_longOf v2.toNatClampNeg) then
    some (a0_answer, a0_stands, a0_isFull, (upd f_a0_nextOf ((((4 : Int32) * v1) + v2)).toNatClampNeg (-1 : Int32)), f_a0_doneOf, f_a0_tills, f_a0_heard, f_a0_slot)
  else
  if (((20 : Int32) * v2) + (f_a0_doneOf ((((4 : Int32) * v1) + v2)).toNatClampNeg)) < 0 ∨ 80 ≤ ((((20 : Int32) * v2) + (f_a0_doneOf ((((4 : Int32) * v1) + v2)).toNatClampNeg))).toNatClampNeg then none else
  bnd1 (F_X10_mayCome fu a0_minutes a0_byKind f_a0_doneOf f_a0_longOf f_a0_rowOf f_a0_w v1 ((f_a0_rowOf ((((20 : Int32) * v2) + (f_a0_doneOf ((((4 : Int32) * v1) + v2)).toNatClampNeg))).toNatClampNeg))) fun r51 =>
  if r51 = 0 then
    some (a0_answer, a0_stands, a0_isFull, (upd f_a0_nextOf ((((4 : Int32) * v1) + v2)).toNatClampNeg (-1 : Int32)), f_a0_doneOf, f_a0_tills, f_a0_heard, f_a0_slot)
  else
  if (((7 : Int32) * (f_a0_rowOf ((((20 : Int32) * v2) + (f_a0_doneOf ((((4 : Int32) * v1) + v2)).toNatClampNeg))).toNatClampNeg)) + (1 : Int32)) < 0 ∨ 142 ≤ ((((7 : Int32) * (f_a0_rowOf ((((20 : Int32) * v2) + (f_a0_doneOf ((((4 : Int32) * v1) + v2)).toNatClampNeg))).toNatClampNeg)) + (1 : Int32))).toNatClampNeg then none else
  if ((3 : Int32) + (f_a0_w ((((7 : Int32) * (f_a0_rowOf ((((20 : Int32) * v2) + (f_a0_doneOf ((((4 : Int32) * v1) + v2)).toNatClampNeg))).toNatClampNeg)) + (1 : Int32))).toNatClampNeg)) < 0 ∨ 70 ≤ (((3 : Int32) + (f_a0_w ((((7 : Int32) * (f_a0_rowOf ((((20 : Int32) * v2) + (f_a0_doneOf ((((4 : Int32) * v1) + v2)).toNatClampNeg))).toNatClampNeg)) + (1 : Int32))).toNatClampNeg))).toNatClampNeg then none else
  if (((3 : Int32) * v1) + (f_a0_w ((((7 : Int32) * (f_a0_rowOf ((((20 : Int32) * v2) + (f_a0_doneOf ((((4 : Int32) * v1) + v2)).toNatClampNeg))).toNatClampNeg)) + (1 : Int32))).toNatClampNeg)) < 0 ∨ 18003 ≤ ((((3 : Int32) * v1) + (f_a0_w ((((7 : Int32) * (f_a0_rowOf ((((20 : Int32) * v2) + (f_a0_doneOf ((((4 : Int32) * v1) + v2)).toNatClampNeg))).toNatClampNeg)) + (1 : Int32))).toNatClampNeg))).toNatClampNeg then none else
  if (((7 : Int32) * (f_a0_rowOf ((((20 : Int32) * v2) + (f_a0_doneOf ((((4 : Int32) * v1) + v2)).toNatClampNeg))).toNatClampNeg)) + (2 : Int32)) < 0 ∨ 142 ≤ ((((7 : Int32) * (f_a0_rowOf ((((20 : Int32) * v2) + (f_a0_doneOf ((((4 : Int32) * v1) + v2)).toNatClampNeg))).toNatClampNeg)) + (2 : Int32))).toNatClampNeg then none else
  if (((7 : Int32) * (f_a0_rowOf ((((20 : Int32) * v2) + (f_a0_doneOf ((((4 : Int32) * v1) + v2)).toNatClampNeg))).toNatClampNeg)) + (3 : Int32)) < 0 ∨ 142 ≤ ((((7 : Int32) * (f_a0_rowOf ((((20 : Int32) * v2) + (f_a0_doneOf ((((4 : Int32) * v1) + v2)).toNatClampNeg))).toNatClampNeg)) + (3 : Int32))).toNatClampNeg then none else
  bnd2 (F_X10_done fu ((f_a0_r (((3 : Int32) + (f_a0_w ((((7 : Int32) * (f_a0_rowOf ((((20 : Int32) * v2) + (f_a0_doneOf ((((4 : Int32) * v1) + v2)).toNatClampNeg))).toNatClampNeg)) + (1 : Int32))).toNatClampNeg))).toNatClampNeg)) ((f_a0_tills ((((3 : Int32) * v1) + (f_a0_w ((((7 : Int32) * (f_a0_rowOf ((((20 : Int32) * v2) + (f_a0_doneOf ((((4 : Int32) * v1) + v2)).toNatClampNeg))).toNatClampNeg)) + (1 : Int32))).toNatClampNeg))).toNatClampNeg)) ((f_a0_w ((((7 : Int32) * (f_a0_rowOf ((((20 : Int32) * v2) + (f_a0_doneOf ((((4 : Int32) * v1) + v2)).toNatClampNeg))).toNatClampNeg)) + (2 : Int32))).toNatClampNeg)) ((f_a0_w ((((7 : Int32) * (f_a0_rowOf ((((20 : Int32) * v2) + (f_a0_doneOf ((((4 : Int32) * v1) + v2)).toNatClampNeg))).toNatClampNeg)) + (3 : Int32))).toNatClampNeg))) fun r115 u115_0 =>
  if (((7 : Int32) * (f_a0_rowOf ((((20 : Int32) * v2) + (f_a0_doneOf ((((4 : Int32) * v1) + v2)).toNatClampNeg))).toNatClampNeg)) + (5 : Int32)) < 0 ∨ 142 ≤ ((((7 : Int32) * (f_a0_rowOf ((((20 : Int32) * v2) + (f_a0_doneOf ((((4 : Int32) * v1) + v2)).toNatClampNeg))).toNatClampNeg)) + (5 : Int32))).toNatClampNeg then none else
  if (f_a0_w ((((7 : Int32) * (f_a0_rowOf ((((20 : Int32) * v2) + (f_a0_doneOf ((((4 : Int32) * v1) + v2)).toNatClampNeg))).toNatClampNeg)) + (5 : Int32))).toNatClampNeg) = (-2 : Int32) then
    F_X10_leadsOn_b164 fu u115_0 a0_stands a0_isFull ((upd f_a0_nextOf ((((4 : Int32) * v1) + v2)).toNatClampNeg (-1 : Int32))) f_a0_doneOf f_a0_tills f_a0_heard f_a0_slot v1 v2 ((((4 : Int32) * v1) + v2)) ((f_a0_w ((((7 : Int32) * (f_a0_rowOf ((((20 : Int32) * v2) + (f_a0_doneOf ((((4 : Int32) * v1) + v2)).toNatClampNeg))).toNatClampNeg)) + (1 : Int32))).toNatClampNeg)) r115
  else
  bnd1 (F_X10_has a0_loose ((f_a0_rowOf ((((20 : Int32) * v2) + (f_a0_doneOf ((((4 : Int32) * v1) + v2)).toNatClampNeg))).toNatClampNeg))) fun r140 =>
  if r140 = 0 then
    if (((7 : Int32) * (f_a0_rowOf ((((20 : Int32) * v2) + (f_a0_doneOf ((((4 : Int32) * v1) + v2)).toNatClampNeg))).toNatClampNeg)) + (6 : Int32)) < 0 ∨ 142 ≤ ((((7 : Int32) * (f_a0_rowOf ((((20 : Int32) * v2) + (f_a0_doneOf ((((4 : Int32) * v1) + v2)).toNatClampNeg))).toNatClampNeg)) + (6 : Int32))).toNatClampNeg then none else
    if u115_0 = (f_a0_w ((((7 : Int32) * (f_a0_rowOf ((((20 : Int32) * v2) + (f_a0_doneOf ((((4 : Int32) * v1) + v2)).toNatClampNeg))).toNatClampNeg)) + (6 : Int32))).toNatClampNeg) then
      F_X10_leadsOn_b164 fu u115_0 a0_stands a0_isFull ((upd f_a0_nextOf ((((4 : Int32) * v1) + v2)).toNatClampNeg (-1 : Int32))) f_a0_doneOf f_a0_tills f_a0_heard f_a0_slot v1 v2 ((((4 : Int32) * v1) + v2)) ((f_a0_w ((((7 : Int32) * (f_a0_rowOf ((((20 : Int32) * v2) + (f_a0_doneOf ((((4 : Int32) * v1) + v2)).toNatClampNeg))).toNatClampNeg)) + (1 : Int32))).toNatClampNeg)) r115
    else
      some (u115_0, a0_stands, a0_isFull, (upd f_a0_nextOf ((((4 : Int32) * v1) + v2)).toNatClampNeg (-1 : Int32)), f_a0_doneOf, f_a0_tills, f_a0_heard, f_a0_slot)
  else
    F_X10_leadsOn_b164 fu u115_0 a0_stands a0_isFull ((upd f_a0_nextOf ((((4 : Int32) * v1) + v2)).toNatClampNeg (-1 : Int32))) f_a0_doneOf f_a0_tills f_a0_heard f_a0_slot v1 v2 ((((4 : Int32) * v1) + v2)) ((f_a0_w ((((7 : Int32) * (f_a0_rowOf ((((20 : Int32) * v2) + (f_a0_doneOf ((((4 : Int32) * v1) + v2)).toNatClampNeg))).toNatClampNeg)) + (1 : Int32))).toNatClampNeg)) r115
def F_X10_comes_b242 (k179 : (Nat → Int32) → Int32 → Option (Int32 × Int32 × Int32 × Int32 × Int32 × (Nat → Int32) × (Nat → Int32) × (Nat → Int32) × (Nat → Int32) × (Nat → Int64) × (Nat → Int32) × (Nat → Int32) × (Nat → Int32))) (k193 : Int32 → Int32 → Option (Int32 × Int32 × Int32 × Int32 × Int32 × (Nat → Int32) × (Nat → Int32) × (Nat → Int32) × (Nat → Int32) × (Nat → Int64) × (Nat → Int32) × (Nat → Int32) × (Nat → Int32))) (fu : Nat) (a0_answer : Int32) (a0_byKind : Int32) (a0_stands : Int32) (a0_isFull : Int32) (f_a0_longOf : Nat → Int32) (f_a0_w : Nat → Int32) (f_a0_rowOf : Nat → Int32) (f_a0_slot : Nat → Int32) (f_a0_doneOf : Nat → Int32) (f_a0_tills : Nat → Int64) (f_a0_nextOf : Nat → Int32) (f_a0_heard : Nat → Int32) (f_a0_leads : Nat → Int32) (v3 : Int32) (v5 : Int32) (t0_I : Int32) : Option (Int32 × Int32 × Int32 × Int32 × Int32 × (Nat → Int32) × (Nat → Int32) × (Nat → Int32) × (Nat → Int32) × (Nat → Int64) × (Nat → Int32) × (Nat → Int32) × (Nat → Int32)) :=
  k193 t0_I ((v5 + (1 : Int32)))
def F_X10_comes_b241 (k179 : (Nat → Int32) → Int32 → Option (Int32 × Int32 × Int32 × Int32 × Int32 × (Nat → Int32) × (Nat → Int32) × (Nat → Int32) × (Nat → Int32) × (Nat → Int64) × (Nat → Int32) × (Nat → Int32) × (Nat → Int32))) (k193 : Int32 → Int32 → Option (Int32 × Int32 × Int32 × Int32 × Int32 × (Nat → Int32) × (Nat → Int32) × (Nat → Int32) × (Nat → Int32) × (Nat → Int64) × (Nat → Int32) × (Nat → Int32) × (Nat → Int32))) (fu : Nat) (a0_answer : Int32) (a0_byKind : Int32) (a0_stands : Int32) (a0_isFull : Int32) (f_a0_longOf : Nat → Int32) (f_a0_w : Nat → Int32) (f_a0_rowOf : Nat → Int32) (f_a0_slot : Nat → Int32) (f_a0_doneOf : Nat → Int32) (f_a0_tills : Nat → Int64) (f_a0_nextOf : Nat → Int32) (f_a0_heard : Nat → Int32) (f_a0_leads : Nat → Int32) (v3 : Int32) (v5 : Int32) : Option (Int32 × Int32 × Int32 × Int32 × Int32 × (Nat → Int32) × (Nat → Int32) × (Nat → Int32) × (Nat → Int32) × (Nat → Int64) × (Nat → Int32) × (Nat → Int32) × (Nat → Int32)) :=
  F_X10_comes_b242 k179 k193 fu a0_answer a0_byKind a0_stands a0_isFull f_a0_longOf f_a0_w f_a0_rowOf f_a0_slot f_a0_doneOf f_a0_tills f_a0_nextOf f_a0_heard f_a0_leads v3 v5 (0 : Int32)
def F_X10_comes_b237 (k179 : (Nat → Int32) → Int32 → Option (Int32 × Int32 × Int32 × Int32 × Int32 × (Nat → Int32) × (Nat → Int32) × (Nat → Int32) × (Nat → Int32) × (Nat → Int64) × (Nat → Int32) × (Nat → Int32) × (Nat → Int32))) (k193 : Int32 → Int32 → Option (Int32 × Int32 × Int32 × Int32 × Int32 × (Nat → Int32) × (Nat → Int32) × (Nat → Int32) × (Nat → Int32) × (Nat → Int64) × (Nat → Int32) × (Nat → Int32) × (Nat → Int32))) (fu : Nat) (a0_answer : Int32) (a0_byKind : Int32) (a0_stands : Int32) (a0_isFull : Int32) (f_a0_longOf : Nat → Int32) (f_a0_w : Nat → Int32) (f_a0_rowOf : Nat → Int32) (f_a0_slot : Nat → Int32) (f_a0_doneOf : Nat → Int32) (f_a0_tills : Nat → Int64) (f_a0_nextOf : Nat → Int32) (f_a0_heard : Nat → Int32) (f_a0_leads : Nat → Int32) (v3 : Int32) (v5 : Int32) : Option (Int32 × Int32 × Int32 × Int32 × Int32 × (Nat → Int32) × (Nat → Int32) × (Nat → Int32) × (Nat → Int32) × (Nat → Int64) × (Nat → Int32) × (Nat → Int32) × (Nat → Int32)) :=
  F_X10_comes_b242 k179 k193 fu a0_answer a0_byKind a0_stands a0_isFull f_a0_longOf f_a0_w f_a0_rowOf f_a0_slot f_a0_doneOf f_a0_tills f_a0_nextOf f_a0_heard f_a0_leads v3 v5 (1 : Int32)
def F_X10_comes_b193 (k179 : (Nat → Int32) → Int32 → Option (Int32 × Int32 × Int32 × Int32 × Int32 × (Nat → Int32) × (Nat → Int32) × (Nat → Int32) × (Nat → Int32) × (Nat → Int64) × (Nat → Int32) × (Nat → Int32) × (Nat → Int32))) (fu : Nat) (a0_answer : Int32) (a0_byKind : Int32) (a0_stands : Int32) (a0_isFull : Int32) (f_a0_longOf : Nat → Int32) (f_a0_w : Nat → Int32) (f_a0_rowOf : Nat → Int32) (f_a0_slot : Nat → Int32) (f_a0_doneOf : Nat → Int32) (f_a0_tills : Nat → Int64) (f_a0_nextOf : Nat → Int32) (f_a0_heard : Nat → Int32) (f_a0_leads : Nat → Int32) (v3 : Int32) : Nat → Int32 → Int32 → Option (Int32 × Int32 × Int32 × Int32 × Int32 × (Nat → Int32) × (Nat → Int32) × (Nat → Int32) × (Nat → Int32) × (Nat → Int64) × (Nat → Int32) × (Nat → Int32) × (Nat → Int32))
  | 0, _, _ => none
  | kf + 1, v4, v5 =>
    if (4 : Int32) ≤ v5 then
      if v3 < 0 ∨ 6001 ≤ v3.toNatClampNeg then none else
      k179 ((upd f_a0_leads v3.toNatClampNeg (vp_nar .boolean v4))) ((v3 + (-1 : Int32)))
    else
    if v4 = 0 then
      if (((4 : Int32) * v3) + v5) < 0 ∨ 24004 ≤ ((((4 : Int32) * v3) + v5)).toNatClampNeg then none else
      if (f_a0_nextOf ((((4 : Int32) * v3) + v5)).toNatClampNeg) < 0 then
        F_X10_comes_b241 k179 (F_X10_comes_b193 k179 fu a0_answer a0_byKind a0_stands a0_isFull f_a0_longOf f_a0_w f_a0_rowOf f_a0_slot f_a0_doneOf f_a0_tills f_a0_nextOf f_a0_heard f_a0_leads v3 kf) fu a0_answer a0_byKind a0_stands a0_isFull f_a0_longOf f_a0_w f_a0_rowOf f_a0_slot f_a0_doneOf f_a0_tills f_a0_nextOf f_a0_heard f_a0_leads v3 v5
      else
      if (((4 : Int32) * v3) + v5) < 0 ∨ 24004 ≤ ((((4 : Int32) * v3) + v5)).toNatClampNeg then none else
      if (f_a0_nextOf ((((4 : Int32) * v3) + v5)).toNatClampNeg) < 0 ∨ 6001 ≤ ((f_a0_nextOf ((((4 : Int32) * v3) + v5)).toNatClampNeg)).toNatClampNeg then none else
      if (f_a0_leads ((f_a0_nextOf ((((4 : Int32) * v3) + v5)).toNatClampNeg)).toNatClampNeg) = 0 then
        F_X10_comes_b241 k179 (F_X10_comes_b193 k179 fu a0_answer a0_byKind a0_stands a0_isFull f_a0_longOf f_a0_w f_a0_rowOf f_a0_slot f_a0_doneOf f_a0_tills f_a0_nextOf f_a0_heard f_a0_leads v3 kf) fu a0_answer a0_byKind a0_stands a0_isFull f_a0_longOf f_a0_w f_a0_rowOf f_a0_slot f_a0_doneOf f_a0_tills f_a0_nextOf f_a0_heard f_a0_leads v3 v5
      else
        F_X10_comes_b237 k179 (F_X10_comes_b193 k179 fu a0_answer a0_byKind a0_stands a0_isFull f_a0_longOf f_a0_w f_a0_rowOf f_a0_slot f_a0_doneOf f_a0_tills f_a0_nextOf f_a0_heard f_a0_leads v3 kf) fu a0_answer a0_byKind a0_stands a0_isFull f_a0_longOf f_a0_w f_a0_rowOf f_a0_slot f_a0_doneOf f_a0_tills f_a0_nextOf f_a0_heard f_a0_leads v3 v5
    else
      F_X10_comes_b237 k179 (F_X10_comes_b193 k179 fu a0_answer a0_byKind a0_stands a0_isFull f_a0_longOf f_a0_w f_a0_rowOf f_a0_slot f_a0_doneOf f_a0_tills f_a0_nextOf f_a0_heard f_a0_leads v3 kf) fu a0_answer a0_byKind a0_stands a0_isFull f_a0_longOf f_a0_w f_a0_rowOf f_a0_slot f_a0_doneOf f_a0_tills f_a0_nextOf f_a0_heard f_a0_leads v3 v5
def F_X10_comes_b179  (fu : Nat) (a0_answer : Int32) (a0_byKind : Int32) (a0_stands : Int32) (a0_isFull : Int32) (f_a0_longOf : Nat → Int32) (f_a0_w : Nat → Int32) (f_a0_rowOf : Nat → Int32) (f_a0_slot : Nat → Int32) (f_a0_doneOf : Nat → Int32) (f_a0_tills : Nat → Int64) (f_a0_nextOf : Nat → Int32) (f_a0_heard : Nat → Int32) : Nat → (Nat → Int32) → Int32 → Option (Int32 × Int32 × Int32 × Int32 × Int32 × (Nat → Int32) × (Nat → Int32) × (Nat → Int32) × (Nat → Int32) × (Nat → Int64) × (Nat → Int32) × (Nat → Int32) × (Nat → Int32))
  | 0, _, _ => none
  | kf + 1, f_a0_leads, v3 =>
    if v3 < 0 then
      some ((1 : Int32), a0_answer, a0_byKind, a0_stands, a0_isFull, f_a0_longOf, f_a0_rowOf, f_a0_slot, f_a0_doneOf, f_a0_tills, f_a0_nextOf, f_a0_heard, f_a0_leads)
    else
    bnd1 (F_X10_isWhole fu f_a0_doneOf f_a0_longOf f_a0_rowOf f_a0_w v3) fun r185 =>
    F_X10_comes_b193 (F_X10_comes_b179 fu a0_answer a0_byKind a0_stands a0_isFull f_a0_longOf f_a0_w f_a0_rowOf f_a0_slot f_a0_doneOf f_a0_tills f_a0_nextOf f_a0_heard kf) fu a0_answer a0_byKind a0_stands a0_isFull f_a0_longOf f_a0_w f_a0_rowOf f_a0_slot f_a0_doneOf f_a0_tills f_a0_nextOf f_a0_heard f_a0_leads v3 fu r185 (0 : Int32)
def F_X10_comes_b163  (fu : Nat) (a0_answer : Int32) (a0_byKind : Int32) (a0_stands : Int32) (a0_isFull : Int32) (f_a0_longOf : Nat → Int32) (f_a0_w : Nat → Int32) (f_a0_rowOf : Nat → Int32) (f_a0_slot : Nat → Int32) (f_a0_doneOf : Nat → Int32) (f_a0_tills : Nat → Int64) (f_a0_nextOf : Nat → Int32) (f_a0_heard : Nat → Int32) (f_a0_leads : Nat → Int32) : Option (Int32 × Int32 × Int32 × Int32 × Int32 × (Nat → Int32) × (Nat → Int32) × (Nat → Int32) × (Nat → Int32) × (Nat → Int64) × (Nat → Int32) × (Nat → Int32) × (Nat → Int32)) :=
  if a0_isFull = 0 then
    F_X10_comes_b179 fu a0_answer a0_byKind a0_stands a0_isFull f_a0_longOf f_a0_w f_a0_rowOf f_a0_slot f_a0_doneOf f_a0_tills f_a0_nextOf f_a0_heard fu f_a0_leads ((a0_stands - (1 : Int32)))
  else
    some ((0 : Int32), a0_answer, a0_byKind, a0_stands, a0_isFull, f_a0_longOf, f_a0_rowOf, f_a0_slot, f_a0_doneOf, f_a0_tills, f_a0_nextOf, f_a0_heard, f_a0_leads)
def F_X10_comes_b157 (k113 : Int32 → Int32 → Int32 → (Nat → Int32) → (Nat → Int32) → (Nat → Int64) → (Nat → Int32) → (Nat → Int32) → Int32 → Option (Int32 × Int32 × Int32 × Int32 × Int32 × (Nat → Int32) × (Nat → Int32) × (Nat → Int32) × (Nat → Int32) × (Nat → Int64) × (Nat → Int32) × (Nat → Int32) × (Nat → Int32))) (fu : Nat) (a0_answer : Int32) (a0_loose : Int32) (a0_minutes : Int32) (a0_byKind : Int32) (a0_stands : Int32) (a0_isFull : Int32) (f_a0_longOf : Nat → Int32) (f_a0_w : Nat → Int32) (f_a0_rowOf : Nat → Int32) (f_a0_slot : Nat → Int32) (f_a0_doneOf : Nat → Int32) (f_a0_tills : Nat → Int64) (f_a0_r : Nat → Int32) (f_a0_nextOf : Nat → Int32) (f_a0_heard : Nat → Int32) (f_a0_leads : Nat → Int32) (v3 : Int32) : Option (Int32 × Int32 × Int32 × Int32 × Int32 × (Nat → Int32) × (Nat → Int32) × (Nat → Int32) × (Nat → Int32) × (Nat → Int64) × (Nat → Int32) × (Nat → Int32) × (Nat → Int32)) :=
  k113 a0_answer a0_stands a0_isFull f_a0_slot f_a0_doneOf f_a0_tills f_a0_nextOf f_a0_heard ((v3 + (1 : Int32)))
def F_X10_comes_b131 (k113 : Int32 → Int32 → Int32 → (Nat → Int32) → (Nat → Int32) → (Nat → Int64) → (Nat → Int32) → (Nat → Int32) → Int32 → Option (Int32 × Int32 × Int32 × Int32 × Int32 × (Nat → Int32) × (Nat → Int32) × (Nat → Int32) × (Nat → Int32) × (Nat → Int64) × (Nat → Int32) × (Nat → Int32) × (Nat → Int32))) (fu : Nat) (a0_loose : Int32) (a0_minutes : Int32) (a0_byKind : Int32) (f_a0_longOf : Nat → Int32) (f_a0_w : Nat → Int32) (f_a0_rowOf : Nat → Int32) (f_a0_r : Nat → Int32) (f_a0_leads : Nat → Int32) (v3 : Int32) : Nat → Int32 → Int32 → Int32 → (Nat → Int32) → (Nat → Int32) → (Nat → Int64) → (Nat → Int32) → (Nat → Int32) → Int32 → Option (Int32 × Int32 × Int32 × Int32 × Int32 × (Nat → Int32) × (Nat → Int32) × (Nat → Int32) × (Nat → Int32) × (Nat → Int64) × (Nat → Int32) × (Nat → Int32) × (Nat → Int32))
  | 0, _, _, _, _, _, _, _, _, _ => none
  | kf + 1, a0_answer, a0_stands, a0_isFull, f_a0_slot, f_a0_doneOf, f_a0_tills, f_a0_nextOf, f_a0_heard, v4 =>
    if (4 : Int32) ≤ v4 then
      F_X10_comes_b157 k113 fu a0_answer a0_loose a0_minutes a0_byKind a0_stands a0_isFull f_a0_longOf f_a0_w f_a0_rowOf f_a0_slot f_a0_doneOf f_a0_tills f_a0_r f_a0_nextOf f_a0_heard f_a0_leads v3
    else
    if a0_isFull = 0 then
      bnd8 (F_X10_leadsOn fu a0_answer a0_loose a0_minutes a0_byKind a0_stands a0_isFull f_a0_nextOf f_a0_doneOf f_a0_longOf f_a0_rowOf f_a0_w f_a0_r f_a0_tills f_a0_heard f_a0_slot v3 v4) fun u148_0 u148_1 u148_2 u148_3 u148_4 u148_5 u148_6 u148_7 =>
      (F_X10_comes_b131 k113 fu a0_loose a0_minutes a0_byKind f_a0_longOf f_a0_w f_a0_rowOf f_a0_r f_a0_leads v3 kf) u148_0 u148_1 u148_2 u148_7 u148_4 u148_5 u148_3 u148_6 ((v4 + (1 : Int32)))
    else
      F_X10_comes_b157 k113 fu a0_answer a0_loose a0_minutes a0_byKind a0_stands a0_isFull f_a0_longOf f_a0_w f_a0_rowOf f_a0_slot f_a0_doneOf f_a0_tills f_a0_r f_a0_nextOf f_a0_heard f_a0_leads v3
def F_X10_comes_b113  (fu : Nat) (a0_loose : Int32) (a0_minutes : Int32) (a0_byKind : Int32) (f_a0_longOf : Nat → Int32) (f_a0_w : Nat → Int32) (f_a0_rowOf : Nat → Int32) (f_a0_r : Nat → Int32) (f_a0_leads : Nat → Int32) : Nat → Int32 → Int32 → Int32 → (Nat → Int32) → (Nat → Int32) → (Nat → Int64) → (Nat → Int32) → (Nat → Int32) → Int32 → Option (Int32 × Int32 × Int32 × Int32 × Int32 × (Nat → Int32) × (Nat → Int32) × (Nat → Int32) × (Nat → Int32) × (Nat → Int64) × (Nat → Int32) × (Nat → Int32) × (Nat → Int32))
  | 0, _, _, _, _, _, _, _, _, _ => none
  | kf + 1, a0_answer, a0_stands, a0_isFull, f_a0_slot, f_a0_doneOf, f_a0_tills, f_a0_nextOf, f_a0_heard, v3 =>
    if a0_stands ≤ v3 then
      F_X10_comes_b163 fu a0_answer a0_byKind a0_stands a0_isFull f_a0_longOf f_a0_w f_a0_rowOf f_a0_slot f_a0_doneOf f_a0_tills f_a0_nextOf f_a0_heard f_a0_leads
    else
    if a0_isFull = 0 then
      F_X10_comes_b131 (F_X10_comes_b113 fu a0_loose a0_minutes a0_byKind f_a0_longOf f_a0_w f_a0_rowOf f_a0_r f_a0_leads kf) fu a0_loose a0_minutes a0_byKind f_a0_longOf f_a0_w f_a0_rowOf f_a0_r f_a0_leads v3 fu a0_answer a0_stands a0_isFull f_a0_slot f_a0_doneOf f_a0_tills f_a0_nextOf f_a0_heard (0 : Int32)
    else
      F_X10_comes_b163 fu a0_answer a0_byKind a0_stands a0_isFull f_a0_longOf f_a0_w f_a0_rowOf f_a0_slot f_a0_doneOf f_a0_tills f_a0_nextOf f_a0_heard f_a0_leads
def F_X10_comes_b98 (k63 : (Nat → Int64) → Int32 → Option (Int32 × Int32 × Int32 × Int32 × Int32 × (Nat → Int32) × (Nat → Int32) × (Nat → Int32) × (Nat → Int32) × (Nat → Int64) × (Nat → Int32) × (Nat → Int32) × (Nat → Int32))) (fu : Nat) (a0_answer : Int32) (a0_loose : Int32) (a0_minutes : Int32) (a0_byKind : Int32) (a0_stands : Int32) (a0_isFull : Int32) (f_a0_longOf : Nat → Int32) (f_a0_w : Nat → Int32) (f_a0_rowOf : Nat → Int32) (f_a0_slot : Nat → Int32) (f_a0_doneOf : Nat → Int32) (f_a0_tills : Nat → Int64) (f_a0_r : Nat → Int32) (f_a0_nextOf : Nat → Int32) (f_a0_heard : Nat → Int32) (f_a0_leads : Nat → Int32) (v2 : Int32) (t0 : Int64) (t1 : Int32) : Option (Int32 × Int32 × Int32 × Int32 × Int32 × (Nat → Int32) × (Nat → Int32) × (Nat → Int32) × (Nat → Int32) × (Nat → Int64) × (Nat → Int32) × (Nat → Int32) × (Nat → Int32)) :=
  if t1 < 0 ∨ 18003 ≤ t1.toNatClampNeg then none else
  k63 (vp_updL f_a0_tills t1.toNatClampNeg t0) ((v2 + (1 : Int32)))
def F_X10_comes_b63  (fu : Nat) (a0_answer : Int32) (a0_loose : Int32) (a0_minutes : Int32) (a0_byKind : Int32) (a0_stands : Int32) (a0_isFull : Int32) (f_a0_longOf : Nat → Int32) (f_a0_w : Nat → Int32) (f_a0_rowOf : Nat → Int32) (f_a0_slot : Nat → Int32) (f_a0_doneOf : Nat → Int32) (f_a0_r : Nat → Int32) (f_a0_nextOf : Nat → Int32) (f_a0_heard : Nat → Int32) (f_a0_leads : Nat → Int32) : Nat → (Nat → Int64) → Int32 → Option (Int32 × Int32 × Int32 × Int32 × Int32 × (Nat → Int32) × (Nat → Int32) × (Nat → Int32) × (Nat → Int32) × (Nat → Int64) × (Nat → Int32) × (Nat → Int32) × (Nat → Int32))
  | 0, _, _ => none
  | kf + 1, f_a0_tills, v2 =>
    if (3 : Int32) ≤ v2 then
      bnd4 (F_X10_findStand fu a0_stands a0_isFull f_a0_doneOf f_a0_tills f_a0_slot (0 : Int32)) fun r107 u107_0 u107_1 u107_2 =>
      F_X10_comes_b113 fu a0_loose a0_minutes a0_byKind f_a0_longOf f_a0_w f_a0_rowOf f_a0_r f_a0_leads fu a0_answer u107_0 u107_1 u107_2 f_a0_doneOf f_a0_tills f_a0_nextOf f_a0_heard r107
    else
    if (f_a0_r (2 : Int32).toNatClampNeg) ≤ v2 then
      F_X10_comes_b98 (F_X10_comes_b63 fu a0_answer a0_loose a0_minutes a0_byKind a0_stands a0_isFull f_a0_longOf f_a0_w f_a0_rowOf f_a0_slot f_a0_doneOf f_a0_r f_a0_nextOf f_a0_heard f_a0_leads kf) fu a0_answer a0_loose a0_minutes a0_byKind a0_stands a0_isFull f_a0_longOf f_a0_w f_a0_rowOf f_a0_slot f_a0_doneOf f_a0_tills f_a0_r f_a0_nextOf f_a0_heard f_a0_leads v2 (0 : Int64) v2
    else
    if ((3 : Int32) + v2) < 0 ∨ 70 ≤ (((3 : Int32) + v2)).toNatClampNeg then none else
    bnd1 (F_X10_atFirst ((f_a0_r (((3 : Int32) + v2)).toNatClampNeg))) fun r91 =>
    F_X10_comes_b98 (F_X10_comes_b63 fu a0_answer a0_loose a0_minutes a0_byKind a0_stands a0_isFull f_a0_longOf f_a0_w f_a0_rowOf f_a0_slot f_a0_doneOf f_a0_r f_a0_nextOf f_a0_heard f_a0_leads kf) fu a0_answer a0_loose a0_minutes a0_byKind a0_stands a0_isFull f_a0_longOf f_a0_w f_a0_rowOf f_a0_slot f_a0_doneOf f_a0_tills f_a0_r f_a0_nextOf f_a0_heard f_a0_leads v2 r91 v2
def F_X10_comes_b43  (fu : Nat) (a0_answer : Int32) (a0_loose : Int32) (a0_minutes : Int32) (a0_byKind : Int32) (a0_stands : Int32) (a0_isFull : Int32) (f_a0_longOf : Nat → Int32) (f_a0_w : Nat → Int32) (f_a0_rowOf : Nat → Int32) (f_a0_slot : Nat → Int32) (f_a0_tills : Nat → Int64) (f_a0_r : Nat → Int32) (f_a0_nextOf : Nat → Int32) (f_a0_heard : Nat → Int32) (f_a0_leads : Nat → Int32) : Nat → (Nat → Int32) → Int32 → Option (Int32 × Int32 × Int32 × Int32 × Int32 × (Nat → Int32) × (Nat → Int32) × (Nat → Int32) × (Nat → Int32) × (Nat → Int64) × (Nat → Int32) × (Nat → Int32) × (Nat → Int32))
  | 0, _, _ => none
  | kf + 1, f_a0_doneOf, v2 =>
    if (4 : Int32) ≤ v2 then
      F_X10_comes_b63 fu a0_answer a0_loose a0_minutes a0_byKind a0_stands a0_isFull f_a0_longOf f_a0_w f_a0_rowOf f_a0_slot f_a0_doneOf f_a0_r f_a0_nextOf f_a0_heard f_a0_leads fu f_a0_tills (0 : Int32)
    else
    if v2 < 0 ∨ 24004 ≤ v2.toNatClampNeg then none else
    (F_X10_comes_b43 fu a0_answer a0_loose a0_minutes a0_byKind a0_stands a0_isFull f_a0_longOf f_a0_w f_a0_rowOf f_a0_slot f_a0_tills f_a0_r f_a0_nextOf f_a0_heard f_a0_leads kf) ((upd f_a0_doneOf v2.toNatClampNeg (0 : Int32))) ((v2 + (1 : Int32)))
def F_X10_comes_b21  (fu : Nat) (a0_answer : Int32) (a0_loose : Int32) (a0_minutes : Int32) (a0_byKind : Int32) (a0_stands : Int32) (a0_isFull : Int32) (f_a0_longOf : Nat → Int32) (f_a0_w : Nat → Int32) (f_a0_rowOf : Nat → Int32) (f_a0_doneOf : Nat → Int32) (f_a0_tills : Nat → Int64) (f_a0_r : Nat → Int32) (f_a0_nextOf : Nat → Int32) (f_a0_heard : Nat → Int32) (f_a0_leads : Nat → Int32) : Nat → (Nat → Int32) → Int32 → Option (Int32 × Int32 × Int32 × Int32 × Int32 × (Nat → Int32) × (Nat → Int32) × (Nat → Int32) × (Nat → Int32) × (Nat → Int64) × (Nat → Int32) × (Nat → Int32) × (Nat → Int32))
  | 0, _, _ => none
  | kf + 1, f_a0_slot, v2 =>
    if (16384 : Int32) ≤ v2 then
      F_X10_comes_b43 fu a0_answer a0_loose a0_minutes a0_byKind a0_stands a0_isFull f_a0_longOf f_a0_w f_a0_rowOf f_a0_slot f_a0_tills f_a0_r f_a0_nextOf f_a0_heard f_a0_leads fu f_a0_doneOf (0 : Int32)
    else
    if v2 < 0 ∨ 16384 ≤ v2.toNatClampNeg then none else
    (F_X10_comes_b21 fu a0_answer a0_loose a0_minutes a0_byKind a0_stands a0_isFull f_a0_longOf f_a0_w f_a0_rowOf f_a0_doneOf f_a0_tills f_a0_r f_a0_nextOf f_a0_heard f_a0_leads kf) ((upd f_a0_slot v2.toNatClampNeg (-1 : Int32))) ((v2 + (1 : Int32)))
def F_X10_comes (fu : Nat) (a0_answer : Int32) (a0_there : Int32) (a0_loose : Int32) (a0_onTill : Int32) (a0_minutes : Int32) (f_a0_longOf : Nat → Int32) (f_a0_w : Nat → Int32) (f_a0_rowOf : Nat → Int32) (f_a0_slot : Nat → Int32) (f_a0_doneOf : Nat → Int32) (f_a0_tills : Nat → Int64) (f_a0_r : Nat → Int32) (f_a0_nextOf : Nat → Int32) (f_a0_heard : Nat → Int32) (f_a0_leads : Nat → Int32) (v1 : Int32) : Option (Int32 × Int32 × Int32 × Int32 × Int32 × (Nat → Int32) × (Nat → Int32) × (Nat → Int32) × (Nat → Int32) × (Nat → Int64) × (Nat → Int32) × (Nat → Int32) × (Nat → Int32)) :=
  bnd2 (F_X10_layRows fu a0_there a0_onTill f_a0_longOf f_a0_w f_a0_rowOf) fun u16_0 u16_1 =>
  F_X10_comes_b21 fu a0_answer a0_loose a0_minutes v1 (0 : Int32) (0 : Int32) u16_0 f_a0_w u16_1 f_a0_doneOf f_a0_tills f_a0_r f_a0_nextOf f_a0_heard f_a0_leads fu f_a0_slot (0 : Int32)
def F_X10_isKind (a0_hasBook : Int32) (v1 : Int32) (v2 : Int32) : Option (Int32) :=
  if a0_hasBook = 0 then
    some (0 : Int32)
  else
  bnd1 (F_X10_within v1 (0 : Int32) v2) fun r10 =>
  if r10 = 0 then
    some (0 : Int32)
  else
    some (1 : Int32)
def F_X10_goes_b85 (k38 : Int32 → Int32 → Int32 → Int32 → Int32 → Int32 → (Nat → Int32) → (Nat → Int32) → (Nat → Int32) → (Nat → Int32) → (Nat → Int64) → (Nat → Int32) → (Nat → Int32) → (Nat → Int32) → Int32 → Option (Int32 × Int32 × Int32 × Int32 × Int32 × Int32 × Int32 × Int32 × Int32 × Int32 × (Nat → Int32) × (Nat → Int32) × (Nat → Int32) × (Nat → Int32) × (Nat → Int32) × (Nat → Int64) × (Nat → Int32) × (Nat → Int32) × (Nat → Int32))) (fu : Nat) (a0_answer : Int32) (a0_there : Int32) (a0_loose : Int32) (a0_onTill : Int32) (a0_minutes : Int32) (a0_byKind : Int32) (a0_stands : Int32) (a0_isFull : Int32) (f_a0_w : Nat → Int32) (f_a0_r : Nat → Int32) (f_a0_longOf : Nat → Int32) (f_a0_rowOf : Nat → Int32) (f_a0_slot : Nat → Int32) (f_a0_doneOf : Nat → Int32) (f_a0_tills : Nat → Int64) (f_a0_nextOf : Nat → Int32) (f_a0_heard : Nat → Int32) (f_a0_leads : Nat → Int32) (v2 : Int32) (t0 : Int32) : Option (Int32 × Int32 × Int32 × Int32 × Int32 × Int32 × Int32 × Int32 × Int32 × Int32 × (Nat → Int32) × (Nat → Int32) × (Nat → Int32) × (Nat → Int32) × (Nat → Int32) × (Nat → Int64) × (Nat → Int32) × (Nat → Int32) × (Nat → Int32)) :=
  if ¬ (t0 = 0 ∨ t0 = 1) then none else
  k38 a0_answer a0_onTill a0_byKind a0_stands a0_isFull t0 f_a0_longOf f_a0_rowOf f_a0_slot f_a0_doneOf f_a0_tills f_a0_nextOf f_a0_heard f_a0_leads ((v2 + (1 : Int32)))
def F_X10_goes_b84 (k38 : Int32 → Int32 → Int32 → Int32 → Int32 → Int32 → (Nat → Int32) → (Nat → Int32) → (Nat → Int32) → (Nat → Int32) → (Nat → Int64) → (Nat → Int32) → (Nat → Int32) → (Nat → Int32) → Int32 → Option (Int32 × Int32 × Int32 × Int32 × Int32 × Int32 × Int32 × Int32 × Int32 × Int32 × (Nat → Int32) × (Nat → Int32) × (Nat → Int32) × (Nat → Int32) × (Nat → Int32) × (Nat → Int64) × (Nat → Int32) × (Nat → Int32) × (Nat → Int32))) (fu : Nat) (a0_answer : Int32) (a0_there : Int32) (a0_loose : Int32) (a0_onTill : Int32) (a0_minutes : Int32) (a0_byKind : Int32) (a0_stands : Int32) (a0_isFull : Int32) (f_a0_w : Nat → Int32) (f_a0_r : Nat → Int32) (f_a0_longOf : Nat → Int32) (f_a0_rowOf : Nat → Int32) (f_a0_slot : Nat → Int32) (f_a0_doneOf : Nat → Int32) (f_a0_tills : Nat → Int64) (f_a0_nextOf : Nat → Int32) (f_a0_heard : Nat → Int32) (f_a0_leads : Nat → Int32) (v2 : Int32) : Option (Int32 × Int32 × Int32 × Int32 × Int32 × Int32 × Int32 × Int32 × Int32 × Int32 × (Nat → Int32) × (Nat → Int32) × (Nat → Int32) × (Nat → Int32) × (Nat → Int32) × (Nat → Int64) × (Nat → Int32) × (Nat → Int32) × (Nat → Int32)) :=
  F_X10_goes_b85 k38 fu a0_answer a0_there a0_loose a0_onTill a0_minutes a0_byKind a0_stands a0_isFull f_a0_w f_a0_r f_a0_longOf f_a0_rowOf f_a0_slot f_a0_doneOf f_a0_tills f_a0_nextOf f_a0_heard f_a0_leads v2 (0 : Int32)
def F_X10_goes_b38  (fu : Nat) (a0_there : Int32) (a0_loose : Int32) (a0_minutes : Int32) (f_a0_w : Nat → Int32) (f_a0_r : Nat → Int32) : Nat → Int32 → Int32 → Int32 → Int32 → Int32 → Int32 → (Nat → Int32) → (Nat → Int32) → (Nat → Int32) → (Nat → Int32) → (Nat → Int64) → (Nat → Int32) → (Nat → Int32) → (Nat → Int32) → Int32 → Option (Int32 × Int32 × Int32 × Int32 × Int32 × Int32 × Int32 × Int32 × Int32 × Int32 × (Nat → Int32) × (Nat → Int32) × (Nat → Int32) × (Nat → Int32) × (Nat → Int32) × (Nat → Int64) × (Nat → Int32) × (Nat → Int32) × (Nat → Int32))
  | 0, _, _, _, _, _, _, _, _, _, _, _, _, _, _, _ => none
  | kf + 1, a0_answer, a0_onTill, a0_byKind, a0_stands, a0_isFull, a0_canBe, f_a0_longOf, f_a0_rowOf, f_a0_slot, f_a0_doneOf, f_a0_tills, f_a0_nextOf, f_a0_heard, f_a0_leads, v2 =>
    if (f_a0_r (2 : Int32).toNatClampNeg) ≤ v2 then
      some ((1 : Int32), a0_answer, a0_there, a0_loose, a0_onTill, a0_minutes, a0_byKind, a0_stands, a0_isFull, a0_canBe, f_a0_w, f_a0_longOf, f_a0_rowOf, f_a0_slot, f_a0_doneOf, f_a0_tills, f_a0_nextOf, f_a0_heard, f_a0_leads)
    else
    bnd13 (F_X10_comes fu a0_answer a0_there a0_loose v2 a0_minutes f_a0_longOf f_a0_w f_a0_rowOf f_a0_slot f_a0_doneOf f_a0_tills f_a0_r f_a0_nextOf f_a0_heard f_a0_leads (3 : Int32)) fun r55 u55_0 u55_1 u55_2 u55_3 u55_4 u55_5 u55_6 u55_7 u55_8 u55_9 u55_10 u55_11 =>
    if r55 = 0 then
      some ((0 : Int32), u55_0, a0_there, a0_loose, v2, a0_minutes, u55_1, u55_2, u55_3, a0_canBe, f_a0_w, u55_4, u55_5, u55_6, u55_7, u55_8, u55_9, u55_10, u55_11)
    else
    if a0_canBe = 0 then
      F_X10_goes_b84 (F_X10_goes_b38 fu a0_there a0_loose a0_minutes f_a0_w f_a0_r kf) fu u55_0 a0_there a0_loose v2 a0_minutes u55_1 u55_2 u55_3 f_a0_w f_a0_r u55_4 u55_5 u55_6 u55_7 u55_8 u55_9 u55_10 u55_11 v2
    else
    if (u55_11 (0 : Int32).toNatClampNeg) = 0 then
      F_X10_goes_b84 (F_X10_goes_b38 fu a0_there a0_loose a0_minutes f_a0_w f_a0_r kf) fu u55_0 a0_there a0_loose v2 a0_minutes u55_1 u55_2 u55_3 f_a0_w f_a0_r u55_4 u55_5 u55_6 u55_7 u55_8 u55_9 u55_10 u55_11 v2
    else
      F_X10_goes_b85 (F_X10_goes_b38 fu a0_there a0_loose a0_minutes f_a0_w f_a0_r kf) fu u55_0 a0_there a0_loose v2 a0_minutes u55_1 u55_2 u55_3 f_a0_w f_a0_r u55_4 u55_5 u55_6 u55_7 u55_8 u55_9 u55_10 u55_11 v2 (1 : Int32)
def F_X10_goes (fu : Nat) (a0_answer : Int32) (a0_byKind : Int32) (a0_stands : Int32) (a0_isFull : Int32) (a0_canBe : Int32) (f_a0_st : Nat → Int32) (f_a0_w : Nat → Int32) (f_a0_r : Nat → Int32) (f_a0_longOf : Nat → Int32) (f_a0_rowOf : Nat → Int32) (f_a0_slot : Nat → Int32) (f_a0_doneOf : Nat → Int32) (f_a0_tills : Nat → Int64) (f_a0_nextOf : Nat → Int32) (f_a0_heard : Nat → Int32) (f_a0_leads : Nat → Int32) (v1 : Int32) : Option (Int32 × Int32 × Int32 × Int32 × Int32 × Int32 × Int32 × Int32 × Int32 × Int32 × (Nat → Int32) × (Nat → Int32) × (Nat → Int32) × (Nat → Int32) × (Nat → Int32) × (Nat → Int64) × (Nat → Int32) × (Nat → Int32) × (Nat → Int32)) :=
  bnd5 (F_X10_layCalls fu f_a0_st f_a0_w f_a0_r) fun u1_0 u1_1 u1_2 u1_3 u1_4 =>
  if (3 : Int32) ≤ v1 then
    F_X10_goes_b38 fu u1_0 u1_1 u1_3 u1_4 f_a0_r fu a0_answer u1_2 a0_byKind a0_stands a0_isFull (1 : Int32) f_a0_longOf f_a0_rowOf f_a0_slot f_a0_doneOf f_a0_tills f_a0_nextOf f_a0_heard f_a0_leads (0 : Int32)
  else
  bnd13 (F_X10_comes fu a0_answer u1_0 u1_1 u1_2 u1_3 f_a0_longOf u1_4 f_a0_rowOf f_a0_slot f_a0_doneOf f_a0_tills f_a0_r f_a0_nextOf f_a0_heard f_a0_leads v1) fun r11 u11_0 u11_1 u11_2 u11_3 u11_4 u11_5 u11_6 u11_7 u11_8 u11_9 u11_10 u11_11 =>
  if r11 = 0 then
    some ((0 : Int32), u11_0, u1_0, u1_1, u1_2, u1_3, u11_1, u11_2, u11_3, a0_canBe, u1_4, u11_4, u11_5, u11_6, u11_7, u11_8, u11_9, u11_10, u11_11)
  else
  if ¬ ((u11_11 (0 : Int32).toNatClampNeg) = 0 ∨ (u11_11 (0 : Int32).toNatClampNeg) = 1) then none else
  some ((1 : Int32), u11_0, u1_0, u1_1, u1_2, u1_3, u11_1, u11_2, u11_3, (u11_11 (0 : Int32).toNatClampNeg), u1_4, u11_4, u11_5, u11_6, u11_7, u11_8, u11_9, u11_10, u11_11)
def F_X10_can (fu : Nat) (a0_hasBook : Int32) (a0_answer : Int32) (a0_there : Int32) (a0_loose : Int32) (a0_onTill : Int32) (a0_minutes : Int32) (a0_byKind : Int32) (a0_stands : Int32) (a0_isFull : Int32) (a0_canBe : Int32) (f_a0_st : Nat → Int32) (f_a0_w : Nat → Int32) (f_a0_r : Nat → Int32) (f_a0_longOf : Nat → Int32) (f_a0_rowOf : Nat → Int32) (f_a0_slot : Nat → Int32) (f_a0_doneOf : Nat → Int32) (f_a0_tills : Nat → Int64) (f_a0_nextOf : Nat → Int32) (f_a0_heard : Nat → Int32) (f_a0_leads : Nat → Int32) (v1 : Int32) : Option (Int32 × Int32 × Int32 × Int32 × Int32 × Int32 × Int32 × Int32 × Int32 × Int32 × Int32 × Int32 × (Nat → Int32) × (Nat → Int32) × (Nat → Int32) × (Nat → Int32) × (Nat → Int32) × (Nat → Int64) × (Nat → Int32) × (Nat → Int32) × (Nat → Int32)) :=
  bnd2 (F_X10_good) fun u1_0 u1_1 =>
  bnd1 (F_X10_isKind a0_hasBook v1 (3 : Int32)) fun r7 =>
  if r7 = 0 then
    bnd2 (F_X10_no (1 : Int32)) fun r15 u15_0 =>
    some (r15, u1_0, u15_0, a0_answer, a0_there, a0_loose, a0_onTill, a0_minutes, a0_byKind, a0_stands, a0_isFull, a0_canBe, f_a0_w, f_a0_longOf, f_a0_rowOf, f_a0_slot, f_a0_doneOf, f_a0_tills, f_a0_nextOf, f_a0_heard, f_a0_leads)
  else
  bnd19 (F_X10_goes fu a0_answer a0_byKind a0_stands a0_isFull a0_canBe f_a0_st f_a0_w f_a0_r f_a0_longOf f_a0_rowOf f_a0_slot f_a0_doneOf f_a0_tills f_a0_nextOf f_a0_heard f_a0_leads v1) fun r21 u21_0 u21_1 u21_2 u21_3 u21_4 u21_5 u21_6 u21_7 u21_8 u21_9 u21_10 u21_11 u21_12 u21_13 u21_14 u21_15 u21_16 u21_17 =>
  if r21 = 0 then
    bnd2 (F_X10_no (3 : Int32)) fun r29 u29_0 =>
    some (r29, u1_0, u29_0, u21_0, u21_1, u21_2, u21_3, u21_4, u21_5, u21_6, u21_7, u21_8, u21_9, u21_10, u21_11, u21_12, u21_13, u21_14, u21_15, u21_16, u21_17)
  else
  if u21_8 = 0 then
    some ((0 : Int32), u1_0, u1_1, u21_0, u21_1, u21_2, u21_3, u21_4, u21_5, u21_6, u21_7, u21_8, u21_9, u21_10, u21_11, u21_12, u21_13, u21_14, u21_15, u21_16, u21_17)
  else
    some ((1 : Int32), u1_0, u1_1, u21_0, u21_1, u21_2, u21_3, u21_4, u21_5, u21_6, u21_7, u21_8, u21_9, u21_10, u21_11, u21_12, u21_13, u21_14, u21_15, u21_16, u21_17)
def F_X10_atMost (v0 : Int64) : Option (Int64) :=
  if (lg_cmp v0 (1000000000000000000 : Int64)) ≤ 0 then
    some v0
  else
    some (1000000000000000000 : Int64)
def F_X10_countOrders_b64 (k7 : (Nat → Int64) → Int32 → Option (Int64 × (Nat → Int64))) (k28 : Int64 → Int32 → Option (Int64 × (Nat → Int64))) (fu : Nat) (f_a0_ways : Nat → Int64) (f_a0_doneOf : Nat → Int32) (f_a0_longOf : Nat → Int32) (f_a0_rowOf : Nat → Int32) (f_a0_w : Nat → Int32) (f_a0_nextOf : Nat → Int32) (v1 : Int32) (t0 : Int64) (v4 : Int32) (t1 : Int64) : Option (Int64 × (Nat → Int64)) :=
  bnd1 (F_X10_atMost (t1 + t0)) fun r65 =>
  k28 r65 ((v4 + (1 : Int32)))
def F_X10_countOrders_b28 (k7 : (Nat → Int64) → Int32 → Option (Int64 × (Nat → Int64))) (fu : Nat) (f_a0_ways : Nat → Int64) (f_a0_doneOf : Nat → Int32) (f_a0_longOf : Nat → Int32) (f_a0_rowOf : Nat → Int32) (f_a0_w : Nat → Int32) (f_a0_nextOf : Nat → Int32) (v1 : Int32) : Nat → Int64 → Int32 → Option (Int64 × (Nat → Int64))
  | 0, _, _ => none
  | kf + 1, v2, v4 =>
    if (4 : Int32) ≤ v4 then
      if v1 < 0 ∨ 6001 ≤ v1.toNatClampNeg then none else
      k7 (vp_updL f_a0_ways v1.toNatClampNeg v2) ((v1 + (-1 : Int32)))
    else
    if (((4 : Int32) * v1) + v4) < 0 ∨ 24004 ≤ ((((4 : Int32) * v1) + v4)).toNatClampNeg then none else
    if 0 ≤ (f_a0_nextOf ((((4 : Int32) * v1) + v4)).toNatClampNeg) then
      if (f_a0_nextOf ((((4 : Int32) * v1) + v4)).toNatClampNeg) < 0 ∨ 6001 ≤ ((f_a0_nextOf ((((4 : Int32) * v1) + v4)).toNatClampNeg)).toNatClampNeg then none else
      F_X10_countOrders_b64 k7 (F_X10_countOrders_b28 k7 fu f_a0_ways f_a0_doneOf f_a0_longOf f_a0_rowOf f_a0_w f_a0_nextOf v1 kf) fu f_a0_ways f_a0_doneOf f_a0_longOf f_a0_rowOf f_a0_w f_a0_nextOf v1 ((f_a0_ways ((f_a0_nextOf ((((4 : Int32) * v1) + v4)).toNatClampNeg)).toNatClampNeg)) v4 v2
    else
      F_X10_countOrders_b64 k7 (F_X10_countOrders_b28 k7 fu f_a0_ways f_a0_doneOf f_a0_longOf f_a0_rowOf f_a0_w f_a0_nextOf v1 kf) fu f_a0_ways f_a0_doneOf f_a0_longOf f_a0_rowOf f_a0_w f_a0_nextOf v1 (0 : Int64) v4 v2
def F_X10_countOrders_b24 (k7 : (Nat → Int64) → Int32 → Option (Int64 × (Nat → Int64))) (fu : Nat) (f_a0_ways : Nat → Int64) (f_a0_doneOf : Nat → Int32) (f_a0_longOf : Nat → Int32) (f_a0_rowOf : Nat → Int32) (f_a0_w : Nat → Int32) (f_a0_nextOf : Nat → Int32) (v1 : Int32) (t0 : Int64) : Option (Int64 × (Nat → Int64)) :=
  F_X10_countOrders_b28 k7 fu f_a0_ways f_a0_doneOf f_a0_longOf f_a0_rowOf f_a0_w f_a0_nextOf v1 fu t0 (0 : Int32)
def F_X10_countOrders_b7  (fu : Nat) (f_a0_doneOf : Nat → Int32) (f_a0_longOf : Nat → Int32) (f_a0_rowOf : Nat → Int32) (f_a0_w : Nat → Int32) (f_a0_nextOf : Nat → Int32) : Nat → (Nat → Int64) → Int32 → Option (Int64 × (Nat → Int64))
  | 0, _, _ => none
  | kf + 1, f_a0_ways, v1 =>
    if v1 < 0 then
      some ((f_a0_ways (0 : Int32).toNatClampNeg), f_a0_ways)
    else
    bnd1 (F_X10_isWhole fu f_a0_doneOf f_a0_longOf f_a0_rowOf f_a0_w v1) fun r13 =>
    if r13 = 0 then
      F_X10_countOrders_b24 (F_X10_countOrders_b7 fu f_a0_doneOf f_a0_longOf f_a0_rowOf f_a0_w f_a0_nextOf kf) fu f_a0_ways f_a0_doneOf f_a0_longOf f_a0_rowOf f_a0_w f_a0_nextOf v1 (0 : Int64)
    else
      F_X10_countOrders_b24 (F_X10_countOrders_b7 fu f_a0_doneOf f_a0_longOf f_a0_rowOf f_a0_w f_a0_nextOf kf) fu f_a0_ways f_a0_doneOf f_a0_longOf f_a0_rowOf f_a0_w f_a0_nextOf v1 (1 : Int64)
def F_X10_countOrders (fu : Nat) (a0_stands : Int32) (f_a0_ways : Nat → Int64) (f_a0_doneOf : Nat → Int32) (f_a0_longOf : Nat → Int32) (f_a0_rowOf : Nat → Int32) (f_a0_w : Nat → Int32) (f_a0_nextOf : Nat → Int32) : Option (Int64 × (Nat → Int64)) :=
  F_X10_countOrders_b7 fu f_a0_doneOf f_a0_longOf f_a0_rowOf f_a0_w f_a0_nextOf fu f_a0_ways ((a0_stands - (1 : Int32)))
def F_X10_product (v0 : Int64) (v2 : Int64) : Option (Int64) :=
  if (lg_cmp v0 (0 : Int64)) = 0 then
    some (0 : Int64)
  else
  if (lg_cmp v2 (0 : Int64)) = 0 then
    some (0 : Int64)
  else
  if v2 = 0 then none else
  if (lg_cmp v0 ((1000000000000000000 : Int64) / v2)) ≤ 0 then
    bnd1 (F_X10_atMost (v0 * v2)) fun r33 =>
    some r33
  else
    some (1000000000000000000 : Int64)
def F_X10_orders_b56  (fu : Nat) (a0_thrown : Int32) (a0_trouble : Int32) (a0_there : Int32) (a0_loose : Int32) (a0_minutes : Int32) (f_a0_w : Nat → Int32) (f_a0_r : Nat → Int32) : Nat → Int32 → Int32 → Int32 → Int32 → Int32 → (Nat → Int32) → (Nat → Int32) → (Nat → Int32) → (Nat → Int32) → (Nat → Int64) → (Nat → Int32) → (Nat → Int32) → (Nat → Int32) → (Nat → Int64) → Int64 → Int32 → Option (Int64 × Int32 × Int32 × Int32 × Int32 × Int32 × Int32 × Int32 × Int32 × Int32 × Int32 × (Nat → Int32) × (Nat → Int32) × (Nat → Int32) × (Nat → Int32) × (Nat → Int32) × (Nat → Int64) × (Nat → Int32) × (Nat → Int32) × (Nat → Int32) × (Nat → Int64))
  | 0, _, _, _, _, _, _, _, _, _, _, _, _, _, _, _, _ => none
  | kf + 1, a0_answer, a0_onTill, a0_byKind, a0_stands, a0_isFull, f_a0_longOf, f_a0_rowOf, f_a0_slot, f_a0_doneOf, f_a0_tills, f_a0_nextOf, f_a0_heard, f_a0_leads, f_a0_ways, v2, v4 =>
    if (f_a0_r (2 : Int32).toNatClampNeg) ≤ v4 then
      some (v2, a0_thrown, a0_trouble, a0_answer, a0_there, a0_loose, a0_onTill, a0_minutes, a0_byKind, a0_stands, a0_isFull, f_a0_w, f_a0_longOf, f_a0_rowOf, f_a0_slot, f_a0_doneOf, f_a0_tills, f_a0_nextOf, f_a0_heard, f_a0_leads, f_a0_ways)
    else
    bnd13 (F_X10_comes fu a0_answer a0_there a0_loose v4 a0_minutes f_a0_longOf f_a0_w f_a0_rowOf f_a0_slot f_a0_doneOf f_a0_tills f_a0_r f_a0_nextOf f_a0_heard f_a0_leads (3 : Int32)) fun r75 u75_0 u75_1 u75_2 u75_3 u75_4 u75_5 u75_6 u75_7 u75_8 u75_9 u75_10 u75_11 =>
    if r75 = 0 then
      bnd2 (F_X10_no (3 : Int32)) fun r83 u83_0 =>
      some (r83.toInt64, a0_thrown, u83_0, u75_0, a0_there, a0_loose, v4, a0_minutes, u75_1, u75_2, u75_3, f_a0_w, u75_4, u75_5, u75_6, u75_7, u75_8, u75_9, u75_10, u75_11, f_a0_ways)
    else
    bnd2 (F_X10_countOrders fu u75_2 f_a0_ways u75_7 u75_4 u75_5 f_a0_w u75_9) fun r90 u90_0 =>
    bnd1 (F_X10_product v2 r90) fun r93 =>
    (F_X10_orders_b56 fu a0_thrown a0_trouble a0_there a0_loose a0_minutes f_a0_w f_a0_r kf) u75_0 v4 u75_1 u75_2 u75_3 u75_4 u75_5 u75_6 u75_7 u75_8 u75_9 u75_10 u75_11 u90_0 r93 ((v4 + (1 : Int32)))
def F_X10_orders (fu : Nat) (a0_hasBook : Int32) (a0_answer : Int32) (a0_there : Int32) (a0_loose : Int32) (a0_onTill : Int32) (a0_minutes : Int32) (a0_byKind : Int32) (a0_stands : Int32) (a0_isFull : Int32) (f_a0_st : Nat → Int32) (f_a0_w : Nat → Int32) (f_a0_r : Nat → Int32) (f_a0_longOf : Nat → Int32) (f_a0_rowOf : Nat → Int32) (f_a0_slot : Nat → Int32) (f_a0_doneOf : Nat → Int32) (f_a0_tills : Nat → Int64) (f_a0_nextOf : Nat → Int32) (f_a0_heard : Nat → Int32) (f_a0_leads : Nat → Int32) (f_a0_ways : Nat → Int64) (v1 : Int32) : Option (Int64 × Int32 × Int32 × Int32 × Int32 × Int32 × Int32 × Int32 × Int32 × Int32 × Int32 × (Nat → Int32) × (Nat → Int32) × (Nat → Int32) × (Nat → Int32) × (Nat → Int32) × (Nat → Int64) × (Nat → Int32) × (Nat → Int32) × (Nat → Int32) × (Nat → Int64)) :=
  bnd2 (F_X10_good) fun u1_0 u1_1 =>
  bnd1 (F_X10_isKind a0_hasBook v1 (3 : Int32)) fun r7 =>
  if r7 = 0 then
    bnd2 (F_X10_no (1 : Int32)) fun r15 u15_0 =>
    some (r15.toInt64, u1_0, u15_0, a0_answer, a0_there, a0_loose, a0_onTill, a0_minutes, a0_byKind, a0_stands, a0_isFull, f_a0_w, f_a0_longOf, f_a0_rowOf, f_a0_slot, f_a0_doneOf, f_a0_tills, f_a0_nextOf, f_a0_heard, f_a0_leads, f_a0_ways)
  else
  bnd5 (F_X10_layCalls fu f_a0_st f_a0_w f_a0_r) fun u21_0 u21_1 u21_2 u21_3 u21_4 =>
  if (3 : Int32) ≤ v1 then
    F_X10_orders_b56 fu u1_0 u1_1 u21_0 u21_1 u21_3 u21_4 f_a0_r fu a0_answer u21_2 a0_byKind a0_stands a0_isFull f_a0_longOf f_a0_rowOf f_a0_slot f_a0_doneOf f_a0_tills f_a0_nextOf f_a0_heard f_a0_leads f_a0_ways (1 : Int64) (0 : Int32)
  else
  bnd13 (F_X10_comes fu a0_answer u21_0 u21_1 u21_2 u21_3 f_a0_longOf u21_4 f_a0_rowOf f_a0_slot f_a0_doneOf f_a0_tills f_a0_r f_a0_nextOf f_a0_heard f_a0_leads v1) fun r31 u31_0 u31_1 u31_2 u31_3 u31_4 u31_5 u31_6 u31_7 u31_8 u31_9 u31_10 u31_11 =>
  if r31 = 0 then
    bnd2 (F_X10_no (3 : Int32)) fun r46 u46_0 =>
    some (r46.toInt64, u1_0, u46_0, u31_0, u21_0, u21_1, u21_2, u21_3, u31_1, u31_2, u31_3, u21_4, u31_4, u31_5, u31_6, u31_7, u31_8, u31_9, u31_10, u31_11, f_a0_ways)
  else
  bnd2 (F_X10_countOrders fu u31_2 f_a0_ways u31_7 u31_4 u31_5 u21_4 u31_9) fun r38 u38_0 =>
  some (r38, u1_0, u1_1, u31_0, u21_0, u21_1, u21_2, u21_3, u31_1, u31_2, u31_3, u21_4, u31_4, u31_5, u31_6, u31_7, u31_8, u31_9, u31_10, u31_11, u38_0)
def F_X10_layFirst_b112 (k15 : (Nat → Int32) → Int32 → Int32 → Option (Int32 × (Nat → Int32))) (k31 : Int32 → Int32 → Int32 → Option (Int32 × (Nat → Int32))) (fu : Nat) (f_a0_leads : Nat → Int32) (f_a0_doneOf : Nat → Int32) (f_a0_longOf : Nat → Int32) (f_a0_rowOf : Nat → Int32) (f_a0_w : Nat → Int32) (f_a0_first : Nat → Int32) (f_a0_nextOf : Nat → Int32) (v1 : Int32) (v2 : Int32) (v3 : Int32) (v4 : Int32) (v5 : Int32) : Option (Int32 × (Nat → Int32)) :=
  k31 v3 v4 ((v5 + (1 : Int32)))
def F_X10_layFirst_b105 (k15 : (Nat → Int32) → Int32 → Int32 → Option (Int32 × (Nat → Int32))) (k31 : Int32 → Int32 → Int32 → Option (Int32 × (Nat → Int32))) (fu : Nat) (f_a0_leads : Nat → Int32) (f_a0_doneOf : Nat → Int32) (f_a0_longOf : Nat → Int32) (f_a0_rowOf : Nat → Int32) (f_a0_w : Nat → Int32) (f_a0_first : Nat → Int32) (f_a0_nextOf : Nat → Int32) (v1 : Int32) (v2 : Int32) (v5 : Int32) (v7 : Int32) : Option (Int32 × (Nat → Int32)) :=
  F_X10_layFirst_b112 k15 k31 fu f_a0_leads f_a0_doneOf f_a0_longOf f_a0_rowOf f_a0_w f_a0_first f_a0_nextOf v1 v2 v7 v5 v5
def F_X10_layFirst_b31 (k15 : (Nat → Int32) → Int32 → Int32 → Option (Int32 × (Nat → Int32))) (fu : Nat) (f_a0_leads : Nat → Int32) (f_a0_doneOf : Nat → Int32) (f_a0_longOf : Nat → Int32) (f_a0_rowOf : Nat → Int32) (f_a0_w : Nat → Int32) (f_a0_first : Nat → Int32) (f_a0_nextOf : Nat → Int32) (v1 : Int32) (v2 : Int32) : Nat → Int32 → Int32 → Int32 → Option (Int32 × (Nat → Int32))
  | 0, _, _, _ => none
  | kf + 1, v3, v4, v5 =>
    if (4 : Int32) ≤ v5 then
      if v1 < 0 ∨ 20 ≤ v1.toNatClampNeg then none else
      if (((4 : Int32) * v2) + v4) < 0 ∨ 24004 ≤ ((((4 : Int32) * v2) + v4)).toNatClampNeg then none else
      k15 (upd f_a0_first v1.toNatClampNeg v3) ((v1 + (1 : Int32))) ((f_a0_nextOf ((((4 : Int32) * v2) + v4)).toNatClampNeg))
    else
    if (((4 : Int32) * v2) + v5) < 0 ∨ 24004 ≤ ((((4 : Int32) * v2) + v5)).toNatClampNeg then none else
    if (f_a0_nextOf ((((4 : Int32) * v2) + v5)).toNatClampNeg) < 0 then
      F_X10_layFirst_b112 k15 (F_X10_layFirst_b31 k15 fu f_a0_leads f_a0_doneOf f_a0_longOf f_a0_rowOf f_a0_w f_a0_first f_a0_nextOf v1 v2 kf) fu f_a0_leads f_a0_doneOf f_a0_longOf f_a0_rowOf f_a0_w f_a0_first f_a0_nextOf v1 v2 v3 v4 v5
    else
    if (f_a0_nextOf ((((4 : Int32) * v2) + v5)).toNatClampNeg) < 0 ∨ 6001 ≤ ((f_a0_nextOf ((((4 : Int32) * v2) + v5)).toNatClampNeg)).toNatClampNeg then none else
    if (f_a0_leads ((f_a0_nextOf ((((4 : Int32) * v2) + v5)).toNatClampNeg)).toNatClampNeg) = 0 then
      F_X10_layFirst_b112 k15 (F_X10_layFirst_b31 k15 fu f_a0_leads f_a0_doneOf f_a0_longOf f_a0_rowOf f_a0_w f_a0_first f_a0_nextOf v1 v2 kf) fu f_a0_leads f_a0_doneOf f_a0_longOf f_a0_rowOf f_a0_w f_a0_first f_a0_nextOf v1 v2 v3 v4 v5
    else
    if (((4 : Int32) * v2) + v5) < 0 ∨ 24004 ≤ ((((4 : Int32) * v2) + v5)).toNatClampNeg then none else
    if (((20 : Int32) * v5) + (f_a0_doneOf ((((4 : Int32) * v2) + v5)).toNatClampNeg)) < 0 ∨ 80 ≤ ((((20 : Int32) * v5) + (f_a0_doneOf ((((4 : Int32) * v2) + v5)).toNatClampNeg))).toNatClampNeg then none else
    if v3 < 0 then
      F_X10_layFirst_b105 k15 (F_X10_layFirst_b31 k15 fu f_a0_leads f_a0_doneOf f_a0_longOf f_a0_rowOf f_a0_w f_a0_first f_a0_nextOf v1 v2 kf) fu f_a0_leads f_a0_doneOf f_a0_longOf f_a0_rowOf f_a0_w f_a0_first f_a0_nextOf v1 v2 v5 ((f_a0_rowOf ((((20 : Int32) * v5) + (f_a0_doneOf ((((4 : Int32) * v2) + v5)).toNatClampNeg))).toNatClampNeg))
    else
    if (f_a0_rowOf ((((20 : Int32) * v5) + (f_a0_doneOf ((((4 : Int32) * v2) + v5)).toNatClampNeg))).toNatClampNeg) ≤ v3 then
      F_X10_layFirst_b105 k15 (F_X10_layFirst_b31 k15 fu f_a0_leads f_a0_doneOf f_a0_longOf f_a0_rowOf f_a0_w f_a0_first f_a0_nextOf v1 v2 kf) fu f_a0_leads f_a0_doneOf f_a0_longOf f_a0_rowOf f_a0_w f_a0_first f_a0_nextOf v1 v2 v5 ((f_a0_rowOf ((((20 : Int32) * v5) + (f_a0_doneOf ((((4 : Int32) * v2) + v5)).toNatClampNeg))).toNatClampNeg))
    else
      F_X10_layFirst_b112 k15 (F_X10_layFirst_b31 k15 fu f_a0_leads f_a0_doneOf f_a0_longOf f_a0_rowOf f_a0_w f_a0_first f_a0_nextOf v1 v2 kf) fu f_a0_leads f_a0_doneOf f_a0_longOf f_a0_rowOf f_a0_w f_a0_first f_a0_nextOf v1 v2 v3 v4 v5
def F_X10_layFirst_b15  (fu : Nat) (f_a0_leads : Nat → Int32) (f_a0_doneOf : Nat → Int32) (f_a0_longOf : Nat → Int32) (f_a0_rowOf : Nat → Int32) (f_a0_w : Nat → Int32) (f_a0_nextOf : Nat → Int32) : Nat → (Nat → Int32) → Int32 → Int32 → Option (Int32 × (Nat → Int32))
  | 0, _, _, _ => none
  | kf + 1, f_a0_first, v1, v2 =>
    bnd1 (F_X10_isWhole fu f_a0_doneOf f_a0_longOf f_a0_rowOf f_a0_w v2) fun r17 =>
    if r17 = 0 then
      F_X10_layFirst_b31 (F_X10_layFirst_b15 fu f_a0_leads f_a0_doneOf f_a0_longOf f_a0_rowOf f_a0_w f_a0_nextOf kf) fu f_a0_leads f_a0_doneOf f_a0_longOf f_a0_rowOf f_a0_w f_a0_first f_a0_nextOf v1 v2 fu (-1 : Int32) (-1 : Int32) (0 : Int32)
    else
      some (v1, f_a0_first)
def F_X10_layFirst (fu : Nat) (f_a0_leads : Nat → Int32) (f_a0_doneOf : Nat → Int32) (f_a0_longOf : Nat → Int32) (f_a0_rowOf : Nat → Int32) (f_a0_w : Nat → Int32) (f_a0_first : Nat → Int32) (f_a0_nextOf : Nat → Int32) : Option (Int32 × (Nat → Int32)) :=
  if (f_a0_leads (0 : Int32).toNatClampNeg) = 0 then
    some ((-1 : Int32), f_a0_first)
  else
    F_X10_layFirst_b15 fu f_a0_leads f_a0_doneOf f_a0_longOf f_a0_rowOf f_a0_w f_a0_nextOf fu f_a0_first (0 : Int32) (0 : Int32)
def F_X10_size (fu : Nat) (a0_hasBook : Int32) (a0_answer : Int32) (a0_there : Int32) (a0_loose : Int32) (a0_onTill : Int32) (a0_minutes : Int32) (a0_byKind : Int32) (a0_stands : Int32) (a0_isFull : Int32) (a0_canBe : Int32) (f_a0_st : Nat → Int32) (f_a0_w : Nat → Int32) (f_a0_r : Nat → Int32) (f_a0_longOf : Nat → Int32) (f_a0_rowOf : Nat → Int32) (f_a0_slot : Nat → Int32) (f_a0_doneOf : Nat → Int32) (f_a0_tills : Nat → Int64) (f_a0_nextOf : Nat → Int32) (f_a0_heard : Nat → Int32) (f_a0_leads : Nat → Int32) (f_a0_first : Nat → Int32) (v1 : Int32) : Option (Int32 × Int32 × Int32 × Int32 × Int32 × Int32 × Int32 × Int32 × Int32 × Int32 × Int32 × Int32 × (Nat → Int32) × (Nat → Int32) × (Nat → Int32) × (Nat → Int32) × (Nat → Int32) × (Nat → Int64) × (Nat → Int32) × (Nat → Int32) × (Nat → Int32) × (Nat → Int32)) :=
  bnd2 (F_X10_good) fun u1_0 u1_1 =>
  bnd1 (F_X10_isKind a0_hasBook v1 (2 : Int32)) fun r7 =>
  if r7 = 0 then
    bnd2 (F_X10_no (1 : Int32)) fun r15 u15_0 =>
    some (r15, u1_0, u15_0, a0_answer, a0_there, a0_loose, a0_onTill, a0_minutes, a0_byKind, a0_stands, a0_isFull, a0_canBe, f_a0_w, f_a0_longOf, f_a0_rowOf, f_a0_slot, f_a0_doneOf, f_a0_tills, f_a0_nextOf, f_a0_heard, f_a0_leads, f_a0_first)
  else
  bnd19 (F_X10_goes fu a0_answer a0_byKind a0_stands a0_isFull a0_canBe f_a0_st f_a0_w f_a0_r f_a0_longOf f_a0_rowOf f_a0_slot f_a0_doneOf f_a0_tills f_a0_nextOf f_a0_heard f_a0_leads v1) fun r21 u21_0 u21_1 u21_2 u21_3 u21_4 u21_5 u21_6 u21_7 u21_8 u21_9 u21_10 u21_11 u21_12 u21_13 u21_14 u21_15 u21_16 u21_17 =>
  if r21 = 0 then
    bnd2 (F_X10_no (3 : Int32)) fun r29 u29_0 =>
    some (r29, u1_0, u29_0, u21_0, u21_1, u21_2, u21_3, u21_4, u21_5, u21_6, u21_7, u21_8, u21_9, u21_10, u21_11, u21_12, u21_13, u21_14, u21_15, u21_16, u21_17, f_a0_first)
  else
  bnd2 (F_X10_layFirst fu u21_17 u21_13 u21_10 u21_11 u21_9 f_a0_first u21_15) fun r34 u34_0 =>
  if 0 ≤ r34 then
    some (r34, u1_0, u1_1, u21_0, u21_1, u21_2, u21_3, u21_4, u21_5, u21_6, u21_7, u21_8, u21_9, u21_10, u21_11, u21_12, u21_13, u21_14, u21_15, u21_16, u21_17, u34_0)
  else
  bnd2 (F_X10_no (6 : Int32)) fun r45 u45_0 =>
  some (r45, u1_0, u45_0, u21_0, u21_1, u21_2, u21_3, u21_4, u21_5, u21_6, u21_7, u21_8, u21_9, u21_10, u21_11, u21_12, u21_13, u21_14, u21_15, u21_16, u21_17, u34_0)
def F_X10_order_b17  (a0_thrown : Int32) (a0_answer : Int32) (a0_there : Int32) (a0_loose : Int32) (a0_onTill : Int32) (a0_minutes : Int32) (a0_byKind : Int32) (a0_stands : Int32) (a0_isFull : Int32) (a0_canBe : Int32) (f_a0_w : Nat → Int32) (f_a0_longOf : Nat → Int32) (f_a0_rowOf : Nat → Int32) (f_a0_slot : Nat → Int32) (f_a0_doneOf : Nat → Int32) (f_a0_tills : Nat → Int64) (f_a0_nextOf : Nat → Int32) (f_a0_heard : Nat → Int32) (f_a0_leads : Nat → Int32) (f_a0_first : Nat → Int32) : Option (Int32 × Int32 × Int32 × Int32 × Int32 × Int32 × Int32 × Int32 × Int32 × Int32 × Int32 × Int32 × (Nat → Int32) × (Nat → Int32) × (Nat → Int32) × (Nat → Int32) × (Nat → Int32) × (Nat → Int64) × (Nat → Int32) × (Nat → Int32) × (Nat → Int32) × (Nat → Int32)) :=
  bnd2 (F_X10_no (1 : Int32)) fun r19 u19_0 =>
  some (r19, a0_thrown, u19_0, a0_answer, a0_there, a0_loose, a0_onTill, a0_minutes, a0_byKind, a0_stands, a0_isFull, a0_canBe, f_a0_w, f_a0_longOf, f_a0_rowOf, f_a0_slot, f_a0_doneOf, f_a0_tills, f_a0_nextOf, f_a0_heard, f_a0_leads, f_a0_first)
def F_X10_order (fu : Nat) (a0_hasBook : Int32) (a0_answer : Int32) (a0_there : Int32) (a0_loose : Int32) (a0_onTill : Int32) (a0_minutes : Int32) (a0_byKind : Int32) (a0_stands : Int32) (a0_isFull : Int32) (a0_canBe : Int32) (f_a0_st : Nat → Int32) (f_a0_w : Nat → Int32) (f_a0_r : Nat → Int32) (f_a0_longOf : Nat → Int32) (f_a0_rowOf : Nat → Int32) (f_a0_slot : Nat → Int32) (f_a0_doneOf : Nat → Int32) (f_a0_tills : Nat → Int64) (f_a0_nextOf : Nat → Int32) (f_a0_heard : Nat → Int32) (f_a0_leads : Nat → Int32) (f_a0_first : Nat → Int32) (v1 : Int32) (v2 : Int32) : Option (Int32 × Int32 × Int32 × Int32 × Int32 × Int32 × Int32 × Int32 × Int32 × Int32 × Int32 × Int32 × (Nat → Int32) × (Nat → Int32) × (Nat → Int32) × (Nat → Int32) × (Nat → Int32) × (Nat → Int64) × (Nat → Int32) × (Nat → Int32) × (Nat → Int32) × (Nat → Int32)) :=
  bnd2 (F_X10_good) fun u1_0 u1_1 =>
  bnd1 (F_X10_isKind a0_hasBook v1 (2 : Int32)) fun r7 =>
  if r7 = 0 then
    F_X10_order_b17 u1_0 a0_answer a0_there a0_loose a0_onTill a0_minutes a0_byKind a0_stands a0_isFull a0_canBe f_a0_w f_a0_longOf f_a0_rowOf f_a0_slot f_a0_doneOf f_a0_tills f_a0_nextOf f_a0_heard f_a0_leads f_a0_first
  else
  if 0 ≤ v2 then
    bnd19 (F_X10_goes fu a0_answer a0_byKind a0_stands a0_isFull a0_canBe f_a0_st f_a0_w f_a0_r f_a0_longOf f_a0_rowOf f_a0_slot f_a0_doneOf f_a0_tills f_a0_nextOf f_a0_heard f_a0_leads v1) fun r25 u25_0 u25_1 u25_2 u25_3 u25_4 u25_5 u25_6 u25_7 u25_8 u25_9 u25_10 u25_11 u25_12 u25_13 u25_14 u25_15 u25_16 u25_17 =>
    if r25 = 0 then
      bnd2 (F_X10_no (3 : Int32)) fun r33 u33_0 =>
      some (r33, u1_0, u33_0, u25_0, u25_1, u25_2, u25_3, u25_4, u25_5, u25_6, u25_7, u25_8, u25_9, u25_10, u25_11, u25_12, u25_13, u25_14, u25_15, u25_16, u25_17, f_a0_first)
    else
    bnd2 (F_X10_layFirst fu u25_17 u25_13 u25_10 u25_11 u25_9 f_a0_first u25_15) fun r38 u38_0 =>
    if 0 ≤ r38 then
      if r38 ≤ v2 then
        bnd2 (F_X10_no (1 : Int32)) fun r69 u69_0 =>
        some (r69, u1_0, u69_0, u25_0, u25_1, u25_2, u25_3, u25_4, u25_5, u25_6, u25_7, u25_8, u25_9, u25_10, u25_11, u25_12, u25_13, u25_14, u25_15, u25_16, u25_17, u38_0)
      else
      if v2 < 0 ∨ 20 ≤ v2.toNatClampNeg then none else
      some ((u38_0 v2.toNatClampNeg), u1_0, u1_1, u25_0, u25_1, u25_2, u25_3, u25_4, u25_5, u25_6, u25_7, u25_8, u25_9, u25_10, u25_11, u25_12, u25_13, u25_14, u25_15, u25_16, u25_17, u38_0)
    else
    bnd2 (F_X10_no (6 : Int32)) fun r49 u49_0 =>
    some (r49, u1_0, u49_0, u25_0, u25_1, u25_2, u25_3, u25_4, u25_5, u25_6, u25_7, u25_8, u25_9, u25_10, u25_11, u25_12, u25_13, u25_14, u25_15, u25_16, u25_17, u38_0)
  else
    F_X10_order_b17 u1_0 a0_answer a0_there a0_loose a0_onTill a0_minutes a0_byKind a0_stands a0_isFull a0_canBe f_a0_w f_a0_longOf f_a0_rowOf f_a0_slot f_a0_doneOf f_a0_tills f_a0_nextOf f_a0_heard f_a0_leads f_a0_first
def F_X10_stands (fu : Nat) (a0_hasBook : Int32) (a0_answer : Int32) (a0_there : Int32) (a0_loose : Int32) (a0_onTill : Int32) (a0_minutes : Int32) (a0_byKind : Int32) (a0_stands : Int32) (a0_isFull : Int32) (a0_canBe : Int32) (f_a0_st : Nat → Int32) (f_a0_w : Nat → Int32) (f_a0_r : Nat → Int32) (f_a0_longOf : Nat → Int32) (f_a0_rowOf : Nat → Int32) (f_a0_slot : Nat → Int32) (f_a0_doneOf : Nat → Int32) (f_a0_tills : Nat → Int64) (f_a0_nextOf : Nat → Int32) (f_a0_heard : Nat → Int32) (f_a0_leads : Nat → Int32) (v1 : Int32) : Option (Int32 × Int32 × Int32 × Int32 × Int32 × Int32 × Int32 × Int32 × Int32 × Int32 × Int32 × Int32 × (Nat → Int32) × (Nat → Int32) × (Nat → Int32) × (Nat → Int32) × (Nat → Int32) × (Nat → Int64) × (Nat → Int32) × (Nat → Int32) × (Nat → Int32)) :=
  bnd2 (F_X10_good) fun u1_0 u1_1 =>
  bnd1 (F_X10_isKind a0_hasBook v1 (2 : Int32)) fun r7 =>
  if r7 = 0 then
    bnd2 (F_X10_no (1 : Int32)) fun r15 u15_0 =>
    some (r15, u1_0, u15_0, a0_answer, a0_there, a0_loose, a0_onTill, a0_minutes, a0_byKind, a0_stands, a0_isFull, a0_canBe, f_a0_w, f_a0_longOf, f_a0_rowOf, f_a0_slot, f_a0_doneOf, f_a0_tills, f_a0_nextOf, f_a0_heard, f_a0_leads)
  else
  bnd19 (F_X10_goes fu a0_answer a0_byKind a0_stands a0_isFull a0_canBe f_a0_st f_a0_w f_a0_r f_a0_longOf f_a0_rowOf f_a0_slot f_a0_doneOf f_a0_tills f_a0_nextOf f_a0_heard f_a0_leads v1) fun r21 u21_0 u21_1 u21_2 u21_3 u21_4 u21_5 u21_6 u21_7 u21_8 u21_9 u21_10 u21_11 u21_12 u21_13 u21_14 u21_15 u21_16 u21_17 =>
  if r21 = 0 then
    bnd2 (F_X10_no (3 : Int32)) fun r36 u36_0 =>
    some (r36, u1_0, u36_0, u21_0, u21_1, u21_2, u21_3, u21_4, u21_5, u21_6, u21_7, u21_8, u21_9, u21_10, u21_11, u21_12, u21_13, u21_14, u21_15, u21_16, u21_17)
  else
    some (u21_6, u1_0, u1_1, u21_0, u21_1, u21_2, u21_3, u21_4, u21_5, u21_6, u21_7, u21_8, u21_9, u21_10, u21_11, u21_12, u21_13, u21_14, u21_15, u21_16, u21_17)
def F_X10_sameTills_b46 (k5 : Int32 → Int32 → Option (Int32)) (f_a0_tills : Nat → Int64) (v1 : Int32) (v2 : Int32) (v4 : Int32) (t0 : Int32) : Option (Int32) :=
  k5 t0 ((v4 + (1 : Int32)))
def F_X10_sameTills_b45 (k5 : Int32 → Int32 → Option (Int32)) (f_a0_tills : Nat → Int64) (v1 : Int32) (v2 : Int32) (v4 : Int32) : Option (Int32) :=
  F_X10_sameTills_b46 k5 f_a0_tills v1 v2 v4 (0 : Int32)
def F_X10_sameTills_b5  (f_a0_tills : Nat → Int64) (v1 : Int32) (v2 : Int32) : Nat → Int32 → Int32 → Option (Int32)
  | 0, _, _ => none
  | kf + 1, v3, v4 =>
    if (3 : Int32) ≤ v4 then
      if ¬ (v3 = 0 ∨ v3 = 1) then none else
      some v3
    else
    if v3 = 0 then
      F_X10_sameTills_b45 (F_X10_sameTills_b5 f_a0_tills v1 v2 kf) f_a0_tills v1 v2 v4
    else
    if (((3 : Int32) * v1) + v4) < 0 ∨ 18003 ≤ ((((3 : Int32) * v1) + v4)).toNatClampNeg then none else
    if (((3 : Int32) * v2) + v4) < 0 ∨ 18003 ≤ ((((3 : Int32) * v2) + v4)).toNatClampNeg then none else
    if (lg_cmp (f_a0_tills ((((3 : Int32) * v1) + v4)).toNatClampNeg) (f_a0_tills ((((3 : Int32) * v2) + v4)).toNatClampNeg)) = 0 then
      F_X10_sameTills_b46 (F_X10_sameTills_b5 f_a0_tills v1 v2 kf) f_a0_tills v1 v2 v4 (1 : Int32)
    else
      F_X10_sameTills_b45 (F_X10_sameTills_b5 f_a0_tills v1 v2 kf) f_a0_tills v1 v2 v4
def F_X10_sameTills (fu : Nat) (f_a0_tills : Nat → Int64) (v1 : Int32) (v2 : Int32) : Option (Int32) :=
  F_X10_sameTills_b5 f_a0_tills v1 v2 fu (1 : Int32) (0 : Int32)
def F_X10_ends_b118 (k37 : Int32 → Int32 → Option (Int32 × Int32 × Int32 × Int32 × Int32 × Int32 × Int32 × Int32 × Int32 × Int32 × Int32 × Int32 × (Nat → Int32) × (Nat → Int32) × (Nat → Int32) × (Nat → Int32) × (Nat → Int32) × (Nat → Int64) × (Nat → Int32) × (Nat → Int32) × (Nat → Int32))) (fu : Nat) (a0_thrown : Int32) (a0_trouble : Int32) (a0_answer : Int32) (a0_there : Int32) (a0_loose : Int32) (a0_onTill : Int32) (a0_minutes : Int32) (a0_byKind : Int32) (a0_stands : Int32) (a0_isFull : Int32) (a0_canBe : Int32) (f_a0_w : Nat → Int32) (f_a0_longOf : Nat → Int32) (f_a0_rowOf : Nat → Int32) (f_a0_slot : Nat → Int32) (f_a0_doneOf : Nat → Int32) (f_a0_tills : Nat → Int64) (f_a0_nextOf : Nat → Int32) (f_a0_heard : Nat → Int32) (f_a0_leads : Nat → Int32) (v2 : Int32) (v3 : Int32) : Option (Int32 × Int32 × Int32 × Int32 × Int32 × Int32 × Int32 × Int32 × Int32 × Int32 × Int32 × Int32 × (Nat → Int32) × (Nat → Int32) × (Nat → Int32) × (Nat → Int32) × (Nat → Int32) × (Nat → Int64) × (Nat → Int32) × (Nat → Int32) × (Nat → Int32)) :=
  k37 v2 ((v3 + (1 : Int32)))
def F_X10_ends_b116 (k37 : Int32 → Int32 → Option (Int32 × Int32 × Int32 × Int32 × Int32 × Int32 × Int32 × Int32 × Int32 × Int32 × Int32 × Int32 × (Nat → Int32) × (Nat → Int32) × (Nat → Int32) × (Nat → Int32) × (Nat → Int32) × (Nat → Int64) × (Nat → Int32) × (Nat → Int32) × (Nat → Int32))) (fu : Nat) (a0_thrown : Int32) (a0_trouble : Int32) (a0_answer : Int32) (a0_there : Int32) (a0_loose : Int32) (a0_onTill : Int32) (a0_minutes : Int32) (a0_byKind : Int32) (a0_stands : Int32) (a0_isFull : Int32) (a0_canBe : Int32) (f_a0_w : Nat → Int32) (f_a0_longOf : Nat → Int32) (f_a0_rowOf : Nat → Int32) (f_a0_slot : Nat → Int32) (f_a0_doneOf : Nat → Int32) (f_a0_tills : Nat → Int64) (f_a0_nextOf : Nat → Int32) (f_a0_heard : Nat → Int32) (f_a0_leads : Nat → Int32) (v3 : Int32) (t0 : Int32) (t1 : Int32) : Option (Int32 × Int32 × Int32 × Int32 × Int32 × Int32 × Int32 × Int32 × Int32 × Int32 × Int32 × Int32 × (Nat → Int32) × (Nat → Int32) × (Nat → Int32) × (Nat → Int32) × (Nat → Int32) × (Nat → Int64) × (Nat → Int32) × (Nat → Int32) × (Nat → Int32)) :=
  F_X10_ends_b118 k37 fu a0_thrown a0_trouble a0_answer a0_there a0_loose a0_onTill a0_minutes a0_byKind a0_stands a0_isFull a0_canBe f_a0_w f_a0_longOf f_a0_rowOf f_a0_slot f_a0_doneOf f_a0_tills f_a0_nextOf f_a0_heard f_a0_leads (t1 + t0) v3
def F_X10_ends_b105 (k37 : Int32 → Int32 → Option (Int32 × Int32 × Int32 × Int32 × Int32 × Int32 × Int32 × Int32 × Int32 × Int32 × Int32 × Int32 × (Nat → Int32) × (Nat → Int32) × (Nat → Int32) × (Nat → Int32) × (Nat → Int32) × (Nat → Int64) × (Nat → Int32) × (Nat → Int32) × (Nat → Int32))) (fu : Nat) (a0_thrown : Int32) (a0_trouble : Int32) (a0_answer : Int32) (a0_there : Int32) (a0_loose : Int32) (a0_onTill : Int32) (a0_minutes : Int32) (a0_byKind : Int32) (a0_stands : Int32) (a0_isFull : Int32) (a0_canBe : Int32) (f_a0_w : Nat → Int32) (f_a0_longOf : Nat → Int32) (f_a0_rowOf : Nat → Int32) (f_a0_slot : Nat → Int32) (f_a0_doneOf : Nat → Int32) (f_a0_tills : Nat → Int64) (f_a0_nextOf : Nat → Int32) (f_a0_heard : Nat → Int32) (f_a0_leads : Nat → Int32) (v2 : Int32) (v3 : Int32) (v4 : Int32) : Option (Int32 × Int32 × Int32 × Int32 × Int32 × Int32 × Int32 × Int32 × Int32 × Int32 × Int32 × Int32 × (Nat → Int32) × (Nat → Int32) × (Nat → Int32) × (Nat → Int32) × (Nat → Int32) × (Nat → Int64) × (Nat → Int32) × (Nat → Int32) × (Nat → Int32)) :=
  if v4 = 0 then
    F_X10_ends_b116 k37 fu a0_thrown a0_trouble a0_answer a0_there a0_loose a0_onTill a0_minutes a0_byKind a0_stands a0_isFull a0_canBe f_a0_w f_a0_longOf f_a0_rowOf f_a0_slot f_a0_doneOf f_a0_tills f_a0_nextOf f_a0_heard f_a0_leads v3 (0 : Int32) v2
  else
    F_X10_ends_b116 k37 fu a0_thrown a0_trouble a0_answer a0_there a0_loose a0_onTill a0_minutes a0_byKind a0_stands a0_isFull a0_canBe f_a0_w f_a0_longOf f_a0_rowOf f_a0_slot f_a0_doneOf f_a0_tills f_a0_nextOf f_a0_heard f_a0_leads v3 (1 : Int32) v2
def F_X10_ends_b97 (k37 : Int32 → Int32 → Option (Int32 × Int32 × Int32 × Int32 × Int32 × Int32 × Int32 × Int32 × Int32 × Int32 × Int32 × Int32 × (Nat → Int32) × (Nat → Int32) × (Nat → Int32) × (Nat → Int32) × (Nat → Int32) × (Nat → Int64) × (Nat → Int32) × (Nat → Int32) × (Nat → Int32))) (k62 : Int32 → Int32 → Option (Int32 × Int32 × Int32 × Int32 × Int32 × Int32 × Int32 × Int32 × Int32 × Int32 × Int32 × Int32 × (Nat → Int32) × (Nat → Int32) × (Nat → Int32) × (Nat → Int32) × (Nat → Int32) × (Nat → Int64) × (Nat → Int32) × (Nat → Int32) × (Nat → Int32))) (fu : Nat) (a0_thrown : Int32) (a0_trouble : Int32) (a0_answer : Int32) (a0_there : Int32) (a0_loose : Int32) (a0_onTill : Int32) (a0_minutes : Int32) (a0_byKind : Int32) (a0_stands : Int32) (a0_isFull : Int32) (a0_canBe : Int32) (f_a0_w : Nat → Int32) (f_a0_longOf : Nat → Int32) (f_a0_rowOf : Nat → Int32) (f_a0_slot : Nat → Int32) (f_a0_doneOf : Nat → Int32) (f_a0_tills : Nat → Int64) (f_a0_nextOf : Nat → Int32) (f_a0_heard : Nat → Int32) (f_a0_leads : Nat → Int32) (v2 : Int32) (v3 : Int32) (v5 : Int32) (t0 : Int32) : Option (Int32 × Int32 × Int32 × Int32 × Int32 × Int32 × Int32 × Int32 × Int32 × Int32 × Int32 × Int32 × (Nat → Int32) × (Nat → Int32) × (Nat → Int32) × (Nat → Int32) × (Nat → Int32) × (Nat → Int64) × (Nat → Int32) × (Nat → Int32) × (Nat → Int32)) :=
  k62 t0 ((v5 + (1 : Int32)))
def F_X10_ends_b92 (k37 : Int32 → Int32 → Option (Int32 × Int32 × Int32 × Int32 × Int32 × Int32 × Int32 × Int32 × Int32 × Int32 × Int32 × Int32 × (Nat → Int32) × (Nat → Int32) × (Nat → Int32) × (Nat → Int32) × (Nat → Int32) × (Nat → Int64) × (Nat → Int32) × (Nat → Int32) × (Nat → Int32))) (k62 : Int32 → Int32 → Option (Int32 × Int32 × Int32 × Int32 × Int32 × Int32 × Int32 × Int32 × Int32 × Int32 × Int32 × Int32 × (Nat → Int32) × (Nat → Int32) × (Nat → Int32) × (Nat → Int32) × (Nat → Int32) × (Nat → Int64) × (Nat → Int32) × (Nat → Int32) × (Nat → Int32))) (fu : Nat) (a0_thrown : Int32) (a0_trouble : Int32) (a0_answer : Int32) (a0_there : Int32) (a0_loose : Int32) (a0_onTill : Int32) (a0_minutes : Int32) (a0_byKind : Int32) (a0_stands : Int32) (a0_isFull : Int32) (a0_canBe : Int32) (f_a0_w : Nat → Int32) (f_a0_longOf : Nat → Int32) (f_a0_rowOf : Nat → Int32) (f_a0_slot : Nat → Int32) (f_a0_doneOf : Nat → Int32) (f_a0_tills : Nat → Int64) (f_a0_nextOf : Nat → Int32) (f_a0_heard : Nat → Int32) (f_a0_leads : Nat → Int32) (v2 : Int32) (v3 : Int32) (v5 : Int32) : Option (Int32 × Int32 × Int32 × Int32 × Int32 × Int32 × Int32 × Int32 × Int32 × Int32 × Int32 × Int32 × (Nat → Int32) × (Nat → Int32) × (Nat → Int32) × (Nat → Int32) × (Nat → Int32) × (Nat → Int64) × (Nat → Int32) × (Nat → Int32) × (Nat → Int32)) :=
  F_X10_ends_b97 k37 k62 fu a0_thrown a0_trouble a0_answer a0_there a0_loose a0_onTill a0_minutes a0_byKind a0_stands a0_isFull a0_canBe f_a0_w f_a0_longOf f_a0_rowOf f_a0_slot f_a0_doneOf f_a0_tills f_a0_nextOf f_a0_heard f_a0_leads v2 v3 v5 (1 : Int32)
def F_X10_ends_b62 (k37 : Int32 → Int32 → Option (Int32 × Int32 × Int32 × Int32 × Int32 × Int32 × Int32 × Int32 × Int32 × Int32 × Int32 × Int32 × (Nat → Int32) × (Nat → Int32) × (Nat → Int32) × (Nat → Int32) × (Nat → Int32) × (Nat → Int64) × (Nat → Int32) × (Nat → Int32) × (Nat → Int32))) (fu : Nat) (a0_thrown : Int32) (a0_trouble : Int32) (a0_answer : Int32) (a0_there : Int32) (a0_loose : Int32) (a0_onTill : Int32) (a0_minutes : Int32) (a0_byKind : Int32) (a0_stands : Int32) (a0_isFull : Int32) (a0_canBe : Int32) (f_a0_w : Nat → Int32) (f_a0_longOf : Nat → Int32) (f_a0_rowOf : Nat → Int32) (f_a0_slot : Nat → Int32) (f_a0_doneOf : Nat → Int32) (f_a0_tills : Nat → Int64) (f_a0_nextOf : Nat → Int32) (f_a0_heard : Nat → Int32) (f_a0_leads : Nat → Int32) (v2 : Int32) (v3 : Int32) : Nat → Int32 → Int32 → Option (Int32 × Int32 × Int32 × Int32 × Int32 × Int32 × Int32 × Int32 × Int32 × Int32 × Int32 × Int32 × (Nat → Int32) × (Nat → Int32) × (Nat → Int32) × (Nat → Int32) × (Nat → Int32) × (Nat → Int64) × (Nat → Int32) × (Nat → Int32) × (Nat → Int32))
  | 0, _, _ => none
  | kf + 1, v4, v5 =>
    if v3 ≤ v5 then
      F_X10_ends_b105 k37 fu a0_thrown a0_trouble a0_answer a0_there a0_loose a0_onTill a0_minutes a0_byKind a0_stands a0_isFull a0_canBe f_a0_w f_a0_longOf f_a0_rowOf f_a0_slot f_a0_doneOf f_a0_tills f_a0_nextOf f_a0_heard f_a0_leads v2 v3 v4
    else
    if v4 = 0 then
      F_X10_ends_b105 k37 fu a0_thrown a0_trouble a0_answer a0_there a0_loose a0_onTill a0_minutes a0_byKind a0_stands a0_isFull a0_canBe f_a0_w f_a0_longOf f_a0_rowOf f_a0_slot f_a0_doneOf f_a0_tills f_a0_nextOf f_a0_heard f_a0_leads v2 v3 v4
    else
    bnd1 (F_X10_isWhole fu f_a0_doneOf f_a0_longOf f_a0_rowOf f_a0_w v5) fun r76 =>
    if r76 = 0 then
      F_X10_ends_b92 k37 (F_X10_ends_b62 k37 fu a0_thrown a0_trouble a0_answer a0_there a0_loose a0_onTill a0_minutes a0_byKind a0_stands a0_isFull a0_canBe f_a0_w f_a0_longOf f_a0_rowOf f_a0_slot f_a0_doneOf f_a0_tills f_a0_nextOf f_a0_heard f_a0_leads v2 v3 kf) fu a0_thrown a0_trouble a0_answer a0_there a0_loose a0_onTill a0_minutes a0_byKind a0_stands a0_isFull a0_canBe f_a0_w f_a0_longOf f_a0_rowOf f_a0_slot f_a0_doneOf f_a0_tills f_a0_nextOf f_a0_heard f_a0_leads v2 v3 v5
    else
    bnd1 (F_X10_sameTills fu f_a0_tills v3 v5) fun r86 =>
    if r86 = 0 then
      F_X10_ends_b92 k37 (F_X10_ends_b62 k37 fu a0_thrown a0_trouble a0_answer a0_there a0_loose a0_onTill a0_minutes a0_byKind a0_stands a0_isFull a0_canBe f_a0_w f_a0_longOf f_a0_rowOf f_a0_slot f_a0_doneOf f_a0_tills f_a0_nextOf f_a0_heard f_a0_leads v2 v3 kf) fu a0_thrown a0_trouble a0_answer a0_there a0_loose a0_onTill a0_minutes a0_byKind a0_stands a0_isFull a0_canBe f_a0_w f_a0_longOf f_a0_rowOf f_a0_slot f_a0_doneOf f_a0_tills f_a0_nextOf f_a0_heard f_a0_leads v2 v3 v5
    else
      F_X10_ends_b97 k37 (F_X10_ends_b62 k37 fu a0_thrown a0_trouble a0_answer a0_there a0_loose a0_onTill a0_minutes a0_byKind a0_stands a0_isFull a0_canBe f_a0_w f_a0_longOf f_a0_rowOf f_a0_slot f_a0_doneOf f_a0_tills f_a0_nextOf f_a0_heard f_a0_leads v2 v3 kf) fu a0_thrown a0_trouble a0_answer a0_there a0_loose a0_onTill a0_minutes a0_byKind a0_stands a0_isFull a0_canBe f_a0_w f_a0_longOf f_a0_rowOf f_a0_slot f_a0_doneOf f_a0_tills f_a0_nextOf f_a0_heard f_a0_leads v2 v3 v5 (0 : Int32)
def F_X10_ends_b37  (fu : Nat) (a0_thrown : Int32) (a0_trouble : Int32) (a0_answer : Int32) (a0_there : Int32) (a0_loose : Int32) (a0_onTill : Int32) (a0_minutes : Int32) (a0_byKind : Int32) (a0_stands : Int32) (a0_isFull : Int32) (a0_canBe : Int32) (f_a0_w : Nat → Int32) (f_a0_longOf : Nat → Int32) (f_a0_rowOf : Nat → Int32) (f_a0_slot : Nat → Int32) (f_a0_doneOf : Nat → Int32) (f_a0_tills : Nat → Int64) (f_a0_nextOf : Nat → Int32) (f_a0_heard : Nat → Int32) (f_a0_leads : Nat → Int32) : Nat → Int32 → Int32 → Option (Int32 × Int32 × Int32 × Int32 × Int32 × Int32 × Int32 × Int32 × Int32 × Int32 × Int32 × Int32 × (Nat → Int32) × (Nat → Int32) × (Nat → Int32) × (Nat → Int32) × (Nat → Int32) × (Nat → Int64) × (Nat → Int32) × (Nat → Int32) × (Nat → Int32))
  | 0, _, _ => none
  | kf + 1, v2, v3 =>
    if a0_stands ≤ v3 then
      some (v2, a0_thrown, a0_trouble, a0_answer, a0_there, a0_loose, a0_onTill, a0_minutes, a0_byKind, a0_stands, a0_isFull, a0_canBe, f_a0_w, f_a0_longOf, f_a0_rowOf, f_a0_slot, f_a0_doneOf, f_a0_tills, f_a0_nextOf, f_a0_heard, f_a0_leads)
    else
    bnd1 (F_X10_isWhole fu f_a0_doneOf f_a0_longOf f_a0_rowOf f_a0_w v3) fun r47 =>
    if r47 = 0 then
      F_X10_ends_b118 (F_X10_ends_b37 fu a0_thrown a0_trouble a0_answer a0_there a0_loose a0_onTill a0_minutes a0_byKind a0_stands a0_isFull a0_canBe f_a0_w f_a0_longOf f_a0_rowOf f_a0_slot f_a0_doneOf f_a0_tills f_a0_nextOf f_a0_heard f_a0_leads kf) fu a0_thrown a0_trouble a0_answer a0_there a0_loose a0_onTill a0_minutes a0_byKind a0_stands a0_isFull a0_canBe f_a0_w f_a0_longOf f_a0_rowOf f_a0_slot f_a0_doneOf f_a0_tills f_a0_nextOf f_a0_heard f_a0_leads v2 v3
    else
      F_X10_ends_b62 (F_X10_ends_b37 fu a0_thrown a0_trouble a0_answer a0_there a0_loose a0_onTill a0_minutes a0_byKind a0_stands a0_isFull a0_canBe f_a0_w f_a0_longOf f_a0_rowOf f_a0_slot f_a0_doneOf f_a0_tills f_a0_nextOf f_a0_heard f_a0_leads kf) fu a0_thrown a0_trouble a0_answer a0_there a0_loose a0_onTill a0_minutes a0_byKind a0_stands a0_isFull a0_canBe f_a0_w f_a0_longOf f_a0_rowOf f_a0_slot f_a0_doneOf f_a0_tills f_a0_nextOf f_a0_heard f_a0_leads v2 v3 fu (1 : Int32) (0 : Int32)
def F_X10_ends (fu : Nat) (a0_hasBook : Int32) (a0_answer : Int32) (a0_there : Int32) (a0_loose : Int32) (a0_onTill : Int32) (a0_minutes : Int32) (a0_byKind : Int32) (a0_stands : Int32) (a0_isFull : Int32) (a0_canBe : Int32) (f_a0_st : Nat → Int32) (f_a0_w : Nat → Int32) (f_a0_r : Nat → Int32) (f_a0_longOf : Nat → Int32) (f_a0_rowOf : Nat → Int32) (f_a0_slot : Nat → Int32) (f_a0_doneOf : Nat → Int32) (f_a0_tills : Nat → Int64) (f_a0_nextOf : Nat → Int32) (f_a0_heard : Nat → Int32) (f_a0_leads : Nat → Int32) (v1 : Int32) : Option (Int32 × Int32 × Int32 × Int32 × Int32 × Int32 × Int32 × Int32 × Int32 × Int32 × Int32 × Int32 × (Nat → Int32) × (Nat → Int32) × (Nat → Int32) × (Nat → Int32) × (Nat → Int32) × (Nat → Int64) × (Nat → Int32) × (Nat → Int32) × (Nat → Int32)) :=
  bnd2 (F_X10_good) fun u1_0 u1_1 =>
  bnd1 (F_X10_isKind a0_hasBook v1 (2 : Int32)) fun r7 =>
  if r7 = 0 then
    bnd2 (F_X10_no (1 : Int32)) fun r15 u15_0 =>
    some (r15, u1_0, u15_0, a0_answer, a0_there, a0_loose, a0_onTill, a0_minutes, a0_byKind, a0_stands, a0_isFull, a0_canBe, f_a0_w, f_a0_longOf, f_a0_rowOf, f_a0_slot, f_a0_doneOf, f_a0_tills, f_a0_nextOf, f_a0_heard, f_a0_leads)
  else
  bnd19 (F_X10_goes fu a0_answer a0_byKind a0_stands a0_isFull a0_canBe f_a0_st f_a0_w f_a0_r f_a0_longOf f_a0_rowOf f_a0_slot f_a0_doneOf f_a0_tills f_a0_nextOf f_a0_heard f_a0_leads v1) fun r21 u21_0 u21_1 u21_2 u21_3 u21_4 u21_5 u21_6 u21_7 u21_8 u21_9 u21_10 u21_11 u21_12 u21_13 u21_14 u21_15 u21_16 u21_17 =>
  if r21 = 0 then
    bnd2 (F_X10_no (3 : Int32)) fun r29 u29_0 =>
    some (r29, u1_0, u29_0, u21_0, u21_1, u21_2, u21_3, u21_4, u21_5, u21_6, u21_7, u21_8, u21_9, u21_10, u21_11, u21_12, u21_13, u21_14, u21_15, u21_16, u21_17)
  else
    F_X10_ends_b37 fu u1_0 u1_1 u21_0 u21_1 u21_2 u21_3 u21_4 u21_5 u21_6 u21_7 u21_8 u21_9 u21_10 u21_11 u21_12 u21_13 u21_14 u21_15 u21_16 u21_17 fu (0 : Int32) (0 : Int32)
def F_X10_firsts_b81 (k37 : Int32 → Int32 → Option (Int32 × Int32 × Int32 × Int32 × Int32 × Int32 × Int32 × Int32 × Int32 × Int32 × Int32 × Int32 × (Nat → Int32) × (Nat → Int32) × (Nat → Int32) × (Nat → Int32) × (Nat → Int32) × (Nat → Int64) × (Nat → Int32) × (Nat → Int32) × (Nat → Int32))) (a0_thrown : Int32) (a0_trouble : Int32) (a0_answer : Int32) (a0_there : Int32) (a0_loose : Int32) (a0_onTill : Int32) (a0_minutes : Int32) (a0_byKind : Int32) (a0_stands : Int32) (a0_isFull : Int32) (a0_canBe : Int32) (f_a0_w : Nat → Int32) (f_a0_longOf : Nat → Int32) (f_a0_rowOf : Nat → Int32) (f_a0_slot : Nat → Int32) (f_a0_doneOf : Nat → Int32) (f_a0_tills : Nat → Int64) (f_a0_nextOf : Nat → Int32) (f_a0_heard : Nat → Int32) (f_a0_leads : Nat → Int32) (v3 : Int32) (t0 : Int32) (t1 : Int32) : Option (Int32 × Int32 × Int32 × Int32 × Int32 × Int32 × Int32 × Int32 × Int32 × Int32 × Int32 × Int32 × (Nat → Int32) × (Nat → Int32) × (Nat → Int32) × (Nat → Int32) × (Nat → Int32) × (Nat → Int64) × (Nat → Int32) × (Nat → Int32) × (Nat → Int32)) :=
  k37 (t1 ||| t0) ((v3 + (1 : Int32)))
def F_X10_firsts_b80 (k37 : Int32 → Int32 → Option (Int32 × Int32 × Int32 × Int32 × Int32 × Int32 × Int32 × Int32 × Int32 × Int32 × Int32 × Int32 × (Nat → Int32) × (Nat → Int32) × (Nat → Int32) × (Nat → Int32) × (Nat → Int32) × (Nat → Int64) × (Nat → Int32) × (Nat → Int32) × (Nat → Int32))) (a0_thrown : Int32) (a0_trouble : Int32) (a0_answer : Int32) (a0_there : Int32) (a0_loose : Int32) (a0_onTill : Int32) (a0_minutes : Int32) (a0_byKind : Int32) (a0_stands : Int32) (a0_isFull : Int32) (a0_canBe : Int32) (f_a0_w : Nat → Int32) (f_a0_longOf : Nat → Int32) (f_a0_rowOf : Nat → Int32) (f_a0_slot : Nat → Int32) (f_a0_doneOf : Nat → Int32) (f_a0_tills : Nat → Int64) (f_a0_nextOf : Nat → Int32) (f_a0_heard : Nat → Int32) (f_a0_leads : Nat → Int32) (v3 : Int32) (t0 : Int32) : Option (Int32 × Int32 × Int32 × Int32 × Int32 × Int32 × Int32 × Int32 × Int32 × Int32 × Int32 × Int32 × (Nat → Int32) × (Nat → Int32) × (Nat → Int32) × (Nat → Int32) × (Nat → Int32) × (Nat → Int64) × (Nat → Int32) × (Nat → Int32) × (Nat → Int32)) :=
  F_X10_firsts_b81 k37 a0_thrown a0_trouble a0_answer a0_there a0_loose a0_onTill a0_minutes a0_byKind a0_stands a0_isFull a0_canBe f_a0_w f_a0_longOf f_a0_rowOf f_a0_slot f_a0_doneOf f_a0_tills f_a0_nextOf f_a0_heard f_a0_leads v3 (0 : Int32) t0
def F_X10_firsts_b37  (a0_thrown : Int32) (a0_trouble : Int32) (a0_answer : Int32) (a0_there : Int32) (a0_loose : Int32) (a0_onTill : Int32) (a0_minutes : Int32) (a0_byKind : Int32) (a0_stands : Int32) (a0_isFull : Int32) (a0_canBe : Int32) (f_a0_w : Nat → Int32) (f_a0_longOf : Nat → Int32) (f_a0_rowOf : Nat → Int32) (f_a0_slot : Nat → Int32) (f_a0_doneOf : Nat → Int32) (f_a0_tills : Nat → Int64) (f_a0_nextOf : Nat → Int32) (f_a0_heard : Nat → Int32) (f_a0_leads : Nat → Int32) : Nat → Int32 → Int32 → Option (Int32 × Int32 × Int32 × Int32 × Int32 × Int32 × Int32 × Int32 × Int32 × Int32 × Int32 × Int32 × (Nat → Int32) × (Nat → Int32) × (Nat → Int32) × (Nat → Int32) × (Nat → Int32) × (Nat → Int64) × (Nat → Int32) × (Nat → Int32) × (Nat → Int32))
  | 0, _, _ => none
  | kf + 1, v2, v3 =>
    if (4 : Int32) ≤ v3 then
      some (v2, a0_thrown, a0_trouble, a0_answer, a0_there, a0_loose, a0_onTill, a0_minutes, a0_byKind, a0_stands, a0_isFull, a0_canBe, f_a0_w, f_a0_longOf, f_a0_rowOf, f_a0_slot, f_a0_doneOf, f_a0_tills, f_a0_nextOf, f_a0_heard, f_a0_leads)
    else
    if v3 < 0 ∨ 24004 ≤ v3.toNatClampNeg then none else
    if (f_a0_nextOf v3.toNatClampNeg) < 0 then
      F_X10_firsts_b80 (F_X10_firsts_b37 a0_thrown a0_trouble a0_answer a0_there a0_loose a0_onTill a0_minutes a0_byKind a0_stands a0_isFull a0_canBe f_a0_w f_a0_longOf f_a0_rowOf f_a0_slot f_a0_doneOf f_a0_tills f_a0_nextOf f_a0_heard f_a0_leads kf) a0_thrown a0_trouble a0_answer a0_there a0_loose a0_onTill a0_minutes a0_byKind a0_stands a0_isFull a0_canBe f_a0_w f_a0_longOf f_a0_rowOf f_a0_slot f_a0_doneOf f_a0_tills f_a0_nextOf f_a0_heard f_a0_leads v3 v2
    else
    if (f_a0_nextOf v3.toNatClampNeg) < 0 ∨ 6001 ≤ (f_a0_nextOf v3.toNatClampNeg).toNatClampNeg then none else
    if (f_a0_leads (f_a0_nextOf v3.toNatClampNeg).toNatClampNeg) = 0 then
      F_X10_firsts_b80 (F_X10_firsts_b37 a0_thrown a0_trouble a0_answer a0_there a0_loose a0_onTill a0_minutes a0_byKind a0_stands a0_isFull a0_canBe f_a0_w f_a0_longOf f_a0_rowOf f_a0_slot f_a0_doneOf f_a0_tills f_a0_nextOf f_a0_heard f_a0_leads kf) a0_thrown a0_trouble a0_answer a0_there a0_loose a0_onTill a0_minutes a0_byKind a0_stands a0_isFull a0_canBe f_a0_w f_a0_longOf f_a0_rowOf f_a0_slot f_a0_doneOf f_a0_tills f_a0_nextOf f_a0_heard f_a0_leads v3 v2
    else
    if ((20 : Int32) * v3) < 0 ∨ 80 ≤ (((20 : Int32) * v3)).toNatClampNeg then none else
    F_X10_firsts_b81 (F_X10_firsts_b37 a0_thrown a0_trouble a0_answer a0_there a0_loose a0_onTill a0_minutes a0_byKind a0_stands a0_isFull a0_canBe f_a0_w f_a0_longOf f_a0_rowOf f_a0_slot f_a0_doneOf f_a0_tills f_a0_nextOf f_a0_heard f_a0_leads kf) a0_thrown a0_trouble a0_answer a0_there a0_loose a0_onTill a0_minutes a0_byKind a0_stands a0_isFull a0_canBe f_a0_w f_a0_longOf f_a0_rowOf f_a0_slot f_a0_doneOf f_a0_tills f_a0_nextOf f_a0_heard f_a0_leads v3 (((1 : Int32) <<< ((f_a0_rowOf (((20 : Int32) * v3)).toNatClampNeg) &&& 31))) v2
def F_X10_firsts (fu : Nat) (a0_hasBook : Int32) (a0_answer : Int32) (a0_there : Int32) (a0_loose : Int32) (a0_onTill : Int32) (a0_minutes : Int32) (a0_byKind : Int32) (a0_stands : Int32) (a0_isFull : Int32) (a0_canBe : Int32) (f_a0_st : Nat → Int32) (f_a0_w : Nat → Int32) (f_a0_r : Nat → Int32) (f_a0_longOf : Nat → Int32) (f_a0_rowOf : Nat → Int32) (f_a0_slot : Nat → Int32) (f_a0_doneOf : Nat → Int32) (f_a0_tills : Nat → Int64) (f_a0_nextOf : Nat → Int32) (f_a0_heard : Nat → Int32) (f_a0_leads : Nat → Int32) (v1 : Int32) : Option (Int32 × Int32 × Int32 × Int32 × Int32 × Int32 × Int32 × Int32 × Int32 × Int32 × Int32 × Int32 × (Nat → Int32) × (Nat → Int32) × (Nat → Int32) × (Nat → Int32) × (Nat → Int32) × (Nat → Int64) × (Nat → Int32) × (Nat → Int32) × (Nat → Int32)) :=
  bnd2 (F_X10_good) fun u1_0 u1_1 =>
  bnd1 (F_X10_isKind a0_hasBook v1 (2 : Int32)) fun r7 =>
  if r7 = 0 then
    bnd2 (F_X10_no (1 : Int32)) fun r15 u15_0 =>
    some (r15, u1_0, u15_0, a0_answer, a0_there, a0_loose, a0_onTill, a0_minutes, a0_byKind, a0_stands, a0_isFull, a0_canBe, f_a0_w, f_a0_longOf, f_a0_rowOf, f_a0_slot, f_a0_doneOf, f_a0_tills, f_a0_nextOf, f_a0_heard, f_a0_leads)
  else
  bnd19 (F_X10_goes fu a0_answer a0_byKind a0_stands a0_isFull a0_canBe f_a0_st f_a0_w f_a0_r f_a0_longOf f_a0_rowOf f_a0_slot f_a0_doneOf f_a0_tills f_a0_nextOf f_a0_heard f_a0_leads v1) fun r21 u21_0 u21_1 u21_2 u21_3 u21_4 u21_5 u21_6 u21_7 u21_8 u21_9 u21_10 u21_11 u21_12 u21_13 u21_14 u21_15 u21_16 u21_17 =>
  if r21 = 0 then
    bnd2 (F_X10_no (3 : Int32)) fun r29 u29_0 =>
    some (r29, u1_0, u29_0, u21_0, u21_1, u21_2, u21_3, u21_4, u21_5, u21_6, u21_7, u21_8, u21_9, u21_10, u21_11, u21_12, u21_13, u21_14, u21_15, u21_16, u21_17)
  else
    F_X10_firsts_b37 u1_0 u1_1 u21_0 u21_1 u21_2 u21_3 u21_4 u21_5 u21_6 u21_7 u21_8 u21_9 u21_10 u21_11 u21_12 u21_13 u21_14 u21_15 u21_16 u21_17 fu (0 : Int32) (0 : Int32)
def F_X10_layBrings_b133 (k19 : (Nat → Int32) → Int32 → Option ((Nat → Int32))) (k29 : Int32 → Int32 → Option ((Nat → Int32))) (fu : Nat) (f_a0_brings : Nat → Int32) (f_a0_nextOf : Nat → Int32) (f_a0_doneOf : Nat → Int32) (f_a0_rowOf : Nat → Int32) (f_a0_leads : Nat → Int32) (v1 : Int32) (v2 : Int32) (v3 : Int32) (v4 : Int32) (v5 : Int32) : Option ((Nat → Int32)) :=
  k29 v4 ((v5 + (1 : Int32)))
def F_X10_layBrings_b131 (k19 : (Nat → Int32) → Int32 → Option ((Nat → Int32))) (k29 : Int32 → Int32 → Option ((Nat → Int32))) (fu : Nat) (f_a0_brings : Nat → Int32) (f_a0_nextOf : Nat → Int32) (f_a0_doneOf : Nat → Int32) (f_a0_rowOf : Nat → Int32) (f_a0_leads : Nat → Int32) (v1 : Int32) (v2 : Int32) (v3 : Int32) (v5 : Int32) (t0 : Int32) : Option ((Nat → Int32)) :=
  F_X10_layBrings_b133 k19 k29 fu f_a0_brings f_a0_nextOf f_a0_doneOf f_a0_rowOf f_a0_leads v1 v2 v3 t0 v5
def F_X10_layBrings_b130 (k19 : (Nat → Int32) → Int32 → Option ((Nat → Int32))) (k29 : Int32 → Int32 → Option ((Nat → Int32))) (fu : Nat) (f_a0_brings : Nat → Int32) (f_a0_nextOf : Nat → Int32) (f_a0_doneOf : Nat → Int32) (f_a0_rowOf : Nat → Int32) (f_a0_leads : Nat → Int32) (v1 : Int32) (v2 : Int32) (v3 : Int32) (v5 : Int32) : Option ((Nat → Int32)) :=
  F_X10_layBrings_b131 k19 k29 fu f_a0_brings f_a0_nextOf f_a0_doneOf f_a0_rowOf f_a0_leads v1 v2 v3 v5 (0 : Int32)
def F_X10_layBrings_b126 (k19 : (Nat → Int32) → Int32 → Option ((Nat → Int32))) (k29 : Int32 → Int32 → Option ((Nat → Int32))) (fu : Nat) (f_a0_brings : Nat → Int32) (f_a0_nextOf : Nat → Int32) (f_a0_doneOf : Nat → Int32) (f_a0_rowOf : Nat → Int32) (f_a0_leads : Nat → Int32) (v1 : Int32) (v2 : Int32) (v3 : Int32) (v5 : Int32) : Option ((Nat → Int32)) :=
  F_X10_layBrings_b131 k19 k29 fu f_a0_brings f_a0_nextOf f_a0_doneOf f_a0_rowOf f_a0_leads v1 v2 v3 v5 (1 : Int32)
def F_X10_layBrings_b91 (k19 : (Nat → Int32) → Int32 → Option ((Nat → Int32))) (k29 : Int32 → Int32 → Option ((Nat → Int32))) (fu : Nat) (f_a0_brings : Nat → Int32) (f_a0_nextOf : Nat → Int32) (f_a0_doneOf : Nat → Int32) (f_a0_rowOf : Nat → Int32) (f_a0_leads : Nat → Int32) (v1 : Int32) (v2 : Int32) (v3 : Int32) (v4 : Int32) (v5 : Int32) (v6 : Int32) (t0 : Int32) : Option ((Nat → Int32)) :=
  if v4 = 0 then
    if t0 = 0 then
      if v6 < 0 ∨ 6001 ≤ v6.toNatClampNeg then none else
      if (f_a0_brings v6.toNatClampNeg) = 0 then
        F_X10_layBrings_b130 k19 k29 fu f_a0_brings f_a0_nextOf f_a0_doneOf f_a0_rowOf f_a0_leads v1 v2 v3 v5
      else
        F_X10_layBrings_b126 k19 k29 fu f_a0_brings f_a0_nextOf f_a0_doneOf f_a0_rowOf f_a0_leads v1 v2 v3 v5
    else
    if v6 < 0 ∨ 6001 ≤ v6.toNatClampNeg then none else
    if (f_a0_leads v6.toNatClampNeg) = 0 then
      F_X10_layBrings_b130 k19 k29 fu f_a0_brings f_a0_nextOf f_a0_doneOf f_a0_rowOf f_a0_leads v1 v2 v3 v5
    else
      F_X10_layBrings_b126 k19 k29 fu f_a0_brings f_a0_nextOf f_a0_doneOf f_a0_rowOf f_a0_leads v1 v2 v3 v5
  else
    F_X10_layBrings_b126 k19 k29 fu f_a0_brings f_a0_nextOf f_a0_doneOf f_a0_rowOf f_a0_leads v1 v2 v3 v5
def F_X10_layBrings_b90 (k19 : (Nat → Int32) → Int32 → Option ((Nat → Int32))) (k29 : Int32 → Int32 → Option ((Nat → Int32))) (fu : Nat) (f_a0_brings : Nat → Int32) (f_a0_nextOf : Nat → Int32) (f_a0_doneOf : Nat → Int32) (f_a0_rowOf : Nat → Int32) (f_a0_leads : Nat → Int32) (v1 : Int32) (v2 : Int32) (v3 : Int32) (v4 : Int32) (v5 : Int32) (v6 : Int32) : Option ((Nat → Int32)) :=
  F_X10_layBrings_b91 k19 k29 fu f_a0_brings f_a0_nextOf f_a0_doneOf f_a0_rowOf f_a0_leads v1 v2 v3 v4 v5 v6 (0 : Int32)
def F_X10_layBrings_b29 (k19 : (Nat → Int32) → Int32 → Option ((Nat → Int32))) (fu : Nat) (f_a0_brings : Nat → Int32) (f_a0_nextOf : Nat → Int32) (f_a0_doneOf : Nat → Int32) (f_a0_rowOf : Nat → Int32) (f_a0_leads : Nat → Int32) (v1 : Int32) (v2 : Int32) (v3 : Int32) : Nat → Int32 → Int32 → Option ((Nat → Int32))
  | 0, _, _ => none
  | kf + 1, v4, v5 =>
    if (4 : Int32) ≤ v5 then
      if v3 < 0 ∨ 6001 ≤ v3.toNatClampNeg then none else
      k19 ((upd f_a0_brings v3.toNatClampNeg (vp_nar .boolean v4))) ((v3 + (-1 : Int32)))
    else
    if (((4 : Int32) * v3) + v5) < 0 ∨ 24004 ≤ ((((4 : Int32) * v3) + v5)).toNatClampNeg then none else
    if 0 ≤ (f_a0_nextOf ((((4 : Int32) * v3) + v5)).toNatClampNeg) then
      if v5 = v2 then
        if (((4 : Int32) * v3) + v2) < 0 ∨ 24004 ≤ ((((4 : Int32) * v3) + v2)).toNatClampNeg then none else
        if (((20 : Int32) * v2) + (f_a0_doneOf ((((4 : Int32) * v3) + v2)).toNatClampNeg)) < 0 ∨ 80 ≤ ((((20 : Int32) * v2) + (f_a0_doneOf ((((4 : Int32) * v3) + v2)).toNatClampNeg))).toNatClampNeg then none else
        if (f_a0_rowOf ((((20 : Int32) * v2) + (f_a0_doneOf ((((4 : Int32) * v3) + v2)).toNatClampNeg))).toNatClampNeg) = v1 then
          F_X10_layBrings_b91 k19 (F_X10_layBrings_b29 k19 fu f_a0_brings f_a0_nextOf f_a0_doneOf f_a0_rowOf f_a0_leads v1 v2 v3 kf) fu f_a0_brings f_a0_nextOf f_a0_doneOf f_a0_rowOf f_a0_leads v1 v2 v3 v4 v5 ((f_a0_nextOf ((((4 : Int32) * v3) + v5)).toNatClampNeg)) (1 : Int32)
        else
          F_X10_layBrings_b90 k19 (F_X10_layBrings_b29 k19 fu f_a0_brings f_a0_nextOf f_a0_doneOf f_a0_rowOf f_a0_leads v1 v2 v3 kf) fu f_a0_brings f_a0_nextOf f_a0_doneOf f_a0_rowOf f_a0_leads v1 v2 v3 v4 v5 ((f_a0_nextOf ((((4 : Int32) * v3) + v5)).toNatClampNeg))
      else
        F_X10_layBrings_b90 k19 (F_X10_layBrings_b29 k19 fu f_a0_brings f_a0_nextOf f_a0_doneOf f_a0_rowOf f_a0_leads v1 v2 v3 kf) fu f_a0_brings f_a0_nextOf f_a0_doneOf f_a0_rowOf f_a0_leads v1 v2 v3 v4 v5 ((f_a0_nextOf ((((4 : Int32) * v3) + v5)).toNatClampNeg))
    else
      F_X10_layBrings_b133 k19 (F_X10_layBrings_b29 k19 fu f_a0_brings f_a0_nextOf f_a0_doneOf f_a0_rowOf f_a0_leads v1 v2 v3 kf) fu f_a0_brings f_a0_nextOf f_a0_doneOf f_a0_rowOf f_a0_leads v1 v2 v3 v4 v5
def F_X10_layBrings_b19  (fu : Nat) (f_a0_nextOf : Nat → Int32) (f_a0_doneOf : Nat → Int32) (f_a0_rowOf : Nat → Int32) (f_a0_leads : Nat → Int32) (v1 : Int32) (v2 : Int32) : Nat → (Nat → Int32) → Int32 → Option ((Nat → Int32))
  | 0, _, _ => none
  | kf + 1, f_a0_brings, v3 =>
    if v3 < 0 then
      some f_a0_brings
    else
      F_X10_layBrings_b29 (F_X10_layBrings_b19 fu f_a0_nextOf f_a0_doneOf f_a0_rowOf f_a0_leads v1 v2 kf) fu f_a0_brings f_a0_nextOf f_a0_doneOf f_a0_rowOf f_a0_leads v1 v2 v3 fu (0 : Int32) (0 : Int32)
def F_X10_layBrings (fu : Nat) (a0_stands : Int32) (f_a0_w : Nat → Int32) (f_a0_brings : Nat → Int32) (f_a0_nextOf : Nat → Int32) (f_a0_doneOf : Nat → Int32) (f_a0_rowOf : Nat → Int32) (f_a0_leads : Nat → Int32) (v1 : Int32) : Option ((Nat → Int32)) :=
  if (((7 : Int32) * v1) + (0 : Int32)) < 0 ∨ 142 ≤ ((((7 : Int32) * v1) + (0 : Int32))).toNatClampNeg then none else
  F_X10_layBrings_b19 fu f_a0_nextOf f_a0_doneOf f_a0_rowOf f_a0_leads v1 ((f_a0_w ((((7 : Int32) * v1) + (0 : Int32))).toNatClampNeg)) fu f_a0_brings ((a0_stands - (1 : Int32)))
def F_X10_ahead_b146 (k75 : Int32 → Option (Int32 × Int32 × Int32 × Int32 × Int32 × Int32 × Int32 × Int32 × Int32 × Int32 × Int32 × Int32 × (Nat → Int32) × (Nat → Int32) × (Nat → Int32) × (Nat → Int32) × (Nat → Int32) × (Nat → Int64) × (Nat → Int32) × (Nat → Int32) × (Nat → Int32) × (Nat → Int32))) (a0_thrown : Int32) (a0_trouble : Int32) (a0_answer : Int32) (a0_there : Int32) (a0_loose : Int32) (a0_onTill : Int32) (a0_minutes : Int32) (a0_byKind : Int32) (a0_stands : Int32) (a0_isFull : Int32) (a0_canBe : Int32) (f_a0_w : Nat → Int32) (f_a0_longOf : Nat → Int32) (f_a0_rowOf : Nat → Int32) (f_a0_slot : Nat → Int32) (f_a0_doneOf : Nat → Int32) (f_a0_tills : Nat → Int64) (f_a0_nextOf : Nat → Int32) (f_a0_heard : Nat → Int32) (f_a0_leads : Nat → Int32) (f_a0_brings : Nat → Int32) (v2 : Int32) (v4 : Int32) (v5 : Int32) : Option (Int32 × Int32 × Int32 × Int32 × Int32 × Int32 × Int32 × Int32 × Int32 × Int32 × Int32 × Int32 × (Nat → Int32) × (Nat → Int32) × (Nat → Int32) × (Nat → Int32) × (Nat → Int32) × (Nat → Int64) × (Nat → Int32) × (Nat → Int32) × (Nat → Int32) × (Nat → Int32)) :=
  k75 ((v5 + (1 : Int32)))
def F_X10_ahead_b75  (a0_thrown : Int32) (a0_trouble : Int32) (a0_answer : Int32) (a0_there : Int32) (a0_loose : Int32) (a0_onTill : Int32) (a0_minutes : Int32) (a0_byKind : Int32) (a0_stands : Int32) (a0_isFull : Int32) (a0_canBe : Int32) (f_a0_w : Nat → Int32) (f_a0_longOf : Nat → Int32) (f_a0_rowOf : Nat → Int32) (f_a0_slot : Nat → Int32) (f_a0_doneOf : Nat → Int32) (f_a0_tills : Nat → Int64) (f_a0_nextOf : Nat → Int32) (f_a0_heard : Nat → Int32) (f_a0_leads : Nat → Int32) (f_a0_brings : Nat → Int32) (v2 : Int32) (v4 : Int32) : Nat → Int32 → Option (Int32 × Int32 × Int32 × Int32 × Int32 × Int32 × Int32 × Int32 × Int32 × Int32 × Int32 × Int32 × (Nat → Int32) × (Nat → Int32) × (Nat → Int32) × (Nat → Int32) × (Nat → Int32) × (Nat → Int64) × (Nat → Int32) × (Nat → Int32) × (Nat → Int32) × (Nat → Int32))
  | 0, _ => none
  | kf + 1, v5 =>
    if a0_stands ≤ v5 then
      some ((0 : Int32), a0_thrown, a0_trouble, a0_answer, a0_there, a0_loose, a0_onTill, a0_minutes, a0_byKind, a0_stands, a0_isFull, a0_canBe, f_a0_w, f_a0_longOf, f_a0_rowOf, f_a0_slot, f_a0_doneOf, f_a0_tills, f_a0_nextOf, f_a0_heard, f_a0_leads, f_a0_brings)
    else
    if (((4 : Int32) * v5) + v4) < 0 ∨ 24004 ≤ ((((4 : Int32) * v5) + v4)).toNatClampNeg then none else
    if (((4 : Int32) * v5) + v4) < 0 ∨ 24004 ≤ ((((4 : Int32) * v5) + v4)).toNatClampNeg then none else
    if (f_a0_nextOf ((((4 : Int32) * v5) + v4)).toNatClampNeg) < 0 then
      F_X10_ahead_b146 (F_X10_ahead_b75 a0_thrown a0_trouble a0_answer a0_there a0_loose a0_onTill a0_minutes a0_byKind a0_stands a0_isFull a0_canBe f_a0_w f_a0_longOf f_a0_rowOf f_a0_slot f_a0_doneOf f_a0_tills f_a0_nextOf f_a0_heard f_a0_leads f_a0_brings v2 v4 kf) a0_thrown a0_trouble a0_answer a0_there a0_loose a0_onTill a0_minutes a0_byKind a0_stands a0_isFull a0_canBe f_a0_w f_a0_longOf f_a0_rowOf f_a0_slot f_a0_doneOf f_a0_tills f_a0_nextOf f_a0_heard f_a0_leads f_a0_brings v2 v4 v5
    else
    if (((20 : Int32) * v4) + (f_a0_doneOf ((((4 : Int32) * v5) + v4)).toNatClampNeg)) < 0 ∨ 80 ≤ ((((20 : Int32) * v4) + (f_a0_doneOf ((((4 : Int32) * v5) + v4)).toNatClampNeg))).toNatClampNeg then none else
    if (f_a0_rowOf ((((20 : Int32) * v4) + (f_a0_doneOf ((((4 : Int32) * v5) + v4)).toNatClampNeg))).toNatClampNeg) = v2 then
      if (f_a0_nextOf ((((4 : Int32) * v5) + v4)).toNatClampNeg) < 0 ∨ 6001 ≤ ((f_a0_nextOf ((((4 : Int32) * v5) + v4)).toNatClampNeg)).toNatClampNeg then none else
      if (f_a0_brings ((f_a0_nextOf ((((4 : Int32) * v5) + v4)).toNatClampNeg)).toNatClampNeg) = 0 then
        F_X10_ahead_b146 (F_X10_ahead_b75 a0_thrown a0_trouble a0_answer a0_there a0_loose a0_onTill a0_minutes a0_byKind a0_stands a0_isFull a0_canBe f_a0_w f_a0_longOf f_a0_rowOf f_a0_slot f_a0_doneOf f_a0_tills f_a0_nextOf f_a0_heard f_a0_leads f_a0_brings v2 v4 kf) a0_thrown a0_trouble a0_answer a0_there a0_loose a0_onTill a0_minutes a0_byKind a0_stands a0_isFull a0_canBe f_a0_w f_a0_longOf f_a0_rowOf f_a0_slot f_a0_doneOf f_a0_tills f_a0_nextOf f_a0_heard f_a0_leads f_a0_brings v2 v4 v5
      else
        some ((1 : Int32), a0_thrown, a0_trouble, a0_answer, a0_there, a0_loose, a0_onTill, a0_minutes, a0_byKind, a0_stands, a0_isFull, a0_canBe, f_a0_w, f_a0_longOf, f_a0_rowOf, f_a0_slot, f_a0_doneOf, f_a0_tills, f_a0_nextOf, f_a0_heard, f_a0_leads, f_a0_brings)
    else
      F_X10_ahead_b146 (F_X10_ahead_b75 a0_thrown a0_trouble a0_answer a0_there a0_loose a0_onTill a0_minutes a0_byKind a0_stands a0_isFull a0_canBe f_a0_w f_a0_longOf f_a0_rowOf f_a0_slot f_a0_doneOf f_a0_tills f_a0_nextOf f_a0_heard f_a0_leads f_a0_brings v2 v4 kf) a0_thrown a0_trouble a0_answer a0_there a0_loose a0_onTill a0_minutes a0_byKind a0_stands a0_isFull a0_canBe f_a0_w f_a0_longOf f_a0_rowOf f_a0_slot f_a0_doneOf f_a0_tills f_a0_nextOf f_a0_heard f_a0_leads f_a0_brings v2 v4 v5
def F_X10_ahead_b34  (a0_thrown : Int32) (a0_answer : Int32) (a0_there : Int32) (a0_loose : Int32) (a0_onTill : Int32) (a0_minutes : Int32) (a0_byKind : Int32) (a0_stands : Int32) (a0_isFull : Int32) (a0_canBe : Int32) (f_a0_w : Nat → Int32) (f_a0_longOf : Nat → Int32) (f_a0_rowOf : Nat → Int32) (f_a0_slot : Nat → Int32) (f_a0_doneOf : Nat → Int32) (f_a0_tills : Nat → Int64) (f_a0_nextOf : Nat → Int32) (f_a0_heard : Nat → Int32) (f_a0_leads : Nat → Int32) (f_a0_brings : Nat → Int32) : Option (Int32 × Int32 × Int32 × Int32 × Int32 × Int32 × Int32 × Int32 × Int32 × Int32 × Int32 × Int32 × (Nat → Int32) × (Nat → Int32) × (Nat → Int32) × (Nat → Int32) × (Nat → Int32) × (Nat → Int64) × (Nat → Int32) × (Nat → Int32) × (Nat → Int32) × (Nat → Int32)) :=
  bnd2 (F_X10_no (1 : Int32)) fun r36 u36_0 =>
  some (r36, a0_thrown, u36_0, a0_answer, a0_there, a0_loose, a0_onTill, a0_minutes, a0_byKind, a0_stands, a0_isFull, a0_canBe, f_a0_w, f_a0_longOf, f_a0_rowOf, f_a0_slot, f_a0_doneOf, f_a0_tills, f_a0_nextOf, f_a0_heard, f_a0_leads, f_a0_brings)
def F_X10_ahead (fu : Nat) (a0_hasBook : Int32) (a0_answer : Int32) (a0_there : Int32) (a0_loose : Int32) (a0_onTill : Int32) (a0_minutes : Int32) (a0_byKind : Int32) (a0_stands : Int32) (a0_isFull : Int32) (a0_canBe : Int32) (f_a0_st : Nat → Int32) (f_a0_w : Nat → Int32) (f_a0_r : Nat → Int32) (f_a0_longOf : Nat → Int32) (f_a0_rowOf : Nat → Int32) (f_a0_slot : Nat → Int32) (f_a0_doneOf : Nat → Int32) (f_a0_tills : Nat → Int64) (f_a0_nextOf : Nat → Int32) (f_a0_heard : Nat → Int32) (f_a0_leads : Nat → Int32) (f_a0_brings : Nat → Int32) (v1 : Int32) (v2 : Int32) (v3 : Int32) : Option (Int32 × Int32 × Int32 × Int32 × Int32 × Int32 × Int32 × Int32 × Int32 × Int32 × Int32 × Int32 × (Nat → Int32) × (Nat → Int32) × (Nat → Int32) × (Nat → Int32) × (Nat → Int32) × (Nat → Int64) × (Nat → Int32) × (Nat → Int32) × (Nat → Int32) × (Nat → Int32)) :=
  bnd2 (F_X10_good) fun u1_0 u1_1 =>
  bnd1 (F_X10_isKind a0_hasBook v1 (2 : Int32)) fun r7 =>
  if r7 = 0 then
    F_X10_ahead_b34 u1_0 a0_answer a0_there a0_loose a0_onTill a0_minutes a0_byKind a0_stands a0_isFull a0_canBe f_a0_w f_a0_longOf f_a0_rowOf f_a0_slot f_a0_doneOf f_a0_tills f_a0_nextOf f_a0_heard f_a0_leads f_a0_brings
  else
  bnd1 (F_X10_isCall a0_hasBook f_a0_st v2) fun r15 =>
  if r15 = 0 then
    F_X10_ahead_b34 u1_0 a0_answer a0_there a0_loose a0_onTill a0_minutes a0_byKind a0_stands a0_isFull a0_canBe f_a0_w f_a0_longOf f_a0_rowOf f_a0_slot f_a0_doneOf f_a0_tills f_a0_nextOf f_a0_heard f_a0_leads f_a0_brings
  else
  bnd1 (F_X10_isCall a0_hasBook f_a0_st v3) fun r23 =>
  if r23 = 0 then
    F_X10_ahead_b34 u1_0 a0_answer a0_there a0_loose a0_onTill a0_minutes a0_byKind a0_stands a0_isFull a0_canBe f_a0_w f_a0_longOf f_a0_rowOf f_a0_slot f_a0_doneOf f_a0_tills f_a0_nextOf f_a0_heard f_a0_leads f_a0_brings
  else
  if v2 = v3 then
    F_X10_ahead_b34 u1_0 a0_answer a0_there a0_loose a0_onTill a0_minutes a0_byKind a0_stands a0_isFull a0_canBe f_a0_w f_a0_longOf f_a0_rowOf f_a0_slot f_a0_doneOf f_a0_tills f_a0_nextOf f_a0_heard f_a0_leads f_a0_brings
  else
  bnd19 (F_X10_goes fu a0_answer a0_byKind a0_stands a0_isFull a0_canBe f_a0_st f_a0_w f_a0_r f_a0_longOf f_a0_rowOf f_a0_slot f_a0_doneOf f_a0_tills f_a0_nextOf f_a0_heard f_a0_leads v1) fun r42 u42_0 u42_1 u42_2 u42_3 u42_4 u42_5 u42_6 u42_7 u42_8 u42_9 u42_10 u42_11 u42_12 u42_13 u42_14 u42_15 u42_16 u42_17 =>
  if r42 = 0 then
    bnd2 (F_X10_no (3 : Int32)) fun r50 u50_0 =>
    some (r50, u1_0, u50_0, u42_0, u42_1, u42_2, u42_3, u42_4, u42_5, u42_6, u42_7, u42_8, u42_9, u42_10, u42_11, u42_12, u42_13, u42_14, u42_15, u42_16, u42_17, f_a0_brings)
  else
  bnd1 (F_X10_layBrings fu u42_6 u42_9 f_a0_brings u42_15 u42_13 u42_11 u42_17 v3) fun u56_0 =>
  if (((7 : Int32) * v2) + (0 : Int32)) < 0 ∨ 142 ≤ ((((7 : Int32) * v2) + (0 : Int32))).toNatClampNeg then none else
  F_X10_ahead_b75 u1_0 u1_1 u42_0 u42_1 u42_2 u42_3 u42_4 u42_5 u42_6 u42_7 u42_8 u42_9 u42_10 u42_11 u42_12 u42_13 u42_14 u42_15 u42_16 u42_17 u56_0 v2 ((u42_9 ((((7 : Int32) * v2) + (0 : Int32))).toNatClampNeg)) fu (0 : Int32)
def F_X10_each (fu : Nat) (a0_hasBook : Int32) (a0_answer : Int32) (a0_there : Int32) (a0_loose : Int32) (a0_onTill : Int32) (a0_minutes : Int32) (a0_byKind : Int32) (a0_stands : Int32) (a0_isFull : Int32) (f_a0_r : Nat → Int32) (f_a0_st : Nat → Int32) (f_a0_w : Nat → Int32) (f_a0_longOf : Nat → Int32) (f_a0_rowOf : Nat → Int32) (f_a0_slot : Nat → Int32) (f_a0_doneOf : Nat → Int32) (f_a0_tills : Nat → Int64) (f_a0_nextOf : Nat → Int32) (f_a0_heard : Nat → Int32) (f_a0_leads : Nat → Int32) (v1 : Int32) : Option (Int32 × Int32 × Int32 × Int32 × Int32 × Int32 × Int32 × Int32 × Int32 × Int32 × Int32 × (Nat → Int32) × (Nat → Int32) × (Nat → Int32) × (Nat → Int32) × (Nat → Int32) × (Nat → Int64) × (Nat → Int32) × (Nat → Int32) × (Nat → Int32)) :=
  bnd2 (F_X10_good) fun u1_0 u1_1 =>
  bnd1 (F_X10_isTill a0_hasBook f_a0_r v1) fun r6 =>
  if r6 = 0 then
    bnd2 (F_X10_no (1 : Int32)) fun r14 u14_0 =>
    some (r14, u1_0, u14_0, a0_answer, a0_there, a0_loose, a0_onTill, a0_minutes, a0_byKind, a0_stands, a0_isFull, f_a0_w, f_a0_longOf, f_a0_rowOf, f_a0_slot, f_a0_doneOf, f_a0_tills, f_a0_nextOf, f_a0_heard, f_a0_leads)
  else
  bnd5 (F_X10_layCalls fu f_a0_st f_a0_w f_a0_r) fun u19_0 u19_1 u19_2 u19_3 u19_4 =>
  bnd13 (F_X10_comes fu a0_answer u19_0 u19_1 v1 u19_3 f_a0_longOf u19_4 f_a0_rowOf f_a0_slot f_a0_doneOf f_a0_tills f_a0_r f_a0_nextOf f_a0_heard f_a0_leads (3 : Int32)) fun r29 u29_0 u29_1 u29_2 u29_3 u29_4 u29_5 u29_6 u29_7 u29_8 u29_9 u29_10 u29_11 =>
  if r29 = 0 then
    bnd2 (F_X10_no (3 : Int32)) fun r54 u54_0 =>
    some (r54, u1_0, u54_0, u29_0, u19_0, u19_1, v1, u19_3, u29_1, u29_2, u29_3, u19_4, u29_4, u29_5, u29_6, u29_7, u29_8, u29_9, u29_10, u29_11)
  else
  if (u29_11 (0 : Int32).toNatClampNeg) = 0 then
    some ((0 : Int32), u1_0, u1_1, u29_0, u19_0, u19_1, v1, u19_3, u29_1, u29_2, u29_3, u19_4, u29_4, u29_5, u29_6, u29_7, u29_8, u29_9, u29_10, u29_11)
  else
    some ((1 : Int32), u1_0, u1_1, u29_0, u19_0, u19_1, v1, u19_3, u29_1, u29_2, u29_3, u19_4, u29_4, u29_5, u29_6, u29_7, u29_8, u29_9, u29_10, u29_11)
def F_X10_layEnds_b101 (k4 : (Nat → Int32) → Int32 → Int32 → Option (Int32 × (Nat → Int32))) (fu : Nat) (f_a0_st : Nat → Int32) (f_a0_byEnd : Nat → Int32) (v1 : Int32) (v2 : Int32) : Option (Int32 × (Nat → Int32)) :=
  k4 f_a0_byEnd v1 ((v2 + (1 : Int32)))
def F_X10_layEnds_b90 (k4 : (Nat → Int32) → Int32 → Int32 → Option (Int32 × (Nat → Int32))) (fu : Nat) (f_a0_st : Nat → Int32) (f_a0_byEnd : Nat → Int32) (v1 : Int32) (v2 : Int32) (v4 : Int32) : Option (Int32 × (Nat → Int32)) :=
  if v4 < 0 ∨ 20 ≤ v4.toNatClampNeg then none else
  F_X10_layEnds_b101 k4 fu f_a0_st (upd f_a0_byEnd v4.toNatClampNeg v2) ((v1 + (1 : Int32))) v2
def F_X10_layEnds_b40 (k4 : (Nat → Int32) → Int32 → Int32 → Option (Int32 × (Nat → Int32))) (fu : Nat) (f_a0_st : Nat → Int32) (v1 : Int32) (v2 : Int32) (v3 : Int32) : Nat → (Nat → Int32) → Int32 → Option (Int32 × (Nat → Int32))
  | 0, _, _ => none
  | kf + 1, f_a0_byEnd, v4 =>
    if v4 ≤ 0 then
      F_X10_layEnds_b90 k4 fu f_a0_st f_a0_byEnd v1 v2 v4
    else
    if (v4 - (1 : Int32)) < 0 ∨ 20 ≤ ((v4 - (1 : Int32))).toNatClampNeg then none else
    if (((7 : Int32) * (f_a0_byEnd ((v4 - (1 : Int32))).toNatClampNeg)) + (5 : Int32)) < 0 ∨ 142 ≤ ((((7 : Int32) * (f_a0_byEnd ((v4 - (1 : Int32))).toNatClampNeg)) + (5 : Int32))).toNatClampNeg then none else
    if (f_a0_st ((((7 : Int32) * (f_a0_byEnd ((v4 - (1 : Int32))).toNatClampNeg)) + (5 : Int32))).toNatClampNeg) ≤ v3 then
      F_X10_layEnds_b90 k4 fu f_a0_st f_a0_byEnd v1 v2 v4
    else
    if (v4 - (1 : Int32)) < 0 ∨ 20 ≤ ((v4 - (1 : Int32))).toNatClampNeg then none else
    if v4 < 0 ∨ 20 ≤ v4.toNatClampNeg then none else
    (F_X10_layEnds_b40 k4 fu f_a0_st v1 v2 v3 kf) ((upd f_a0_byEnd v4.toNatClampNeg (f_a0_byEnd ((v4 - (1 : Int32))).toNatClampNeg))) ((v4 + (-1 : Int32)))
def F_X10_layEnds_b4  (fu : Nat) (f_a0_st : Nat → Int32) : Nat → (Nat → Int32) → Int32 → Int32 → Option (Int32 × (Nat → Int32))
  | 0, _, _, _ => none
  | kf + 1, f_a0_byEnd, v1, v2 =>
    if (f_a0_st (141 : Int32).toNatClampNeg) ≤ v2 then
      some (v1, f_a0_byEnd)
    else
    if (((7 : Int32) * v2) + (5 : Int32)) < 0 ∨ 142 ≤ ((((7 : Int32) * v2) + (5 : Int32))).toNatClampNeg then none else
    if (f_a0_st ((((7 : Int32) * v2) + (5 : Int32))).toNatClampNeg) = (-2 : Int32) then
      F_X10_layEnds_b101 (F_X10_layEnds_b4 fu f_a0_st kf) fu f_a0_st f_a0_byEnd v1 v2
    else
      F_X10_layEnds_b40 (F_X10_layEnds_b4 fu f_a0_st kf) fu f_a0_st v1 v2 ((f_a0_st ((((7 : Int32) * v2) + (5 : Int32))).toNatClampNeg)) fu f_a0_byEnd v1
def F_X10_layEnds (fu : Nat) (f_a0_st : Nat → Int32) (f_a0_byEnd : Nat → Int32) : Option (Int32 × (Nat → Int32)) :=
  F_X10_layEnds_b4 fu f_a0_st fu f_a0_byEnd (0 : Int32) (0 : Int32)
def F_X10_bad_b112 (k26 : Int32 → Int32 → Int32 → Int32 → Int32 → Int32 → Int32 → Int32 → (Nat → Int32) → (Nat → Int32) → (Nat → Int32) → (Nat → Int32) → (Nat → Int32) → (Nat → Int64) → (Nat → Int32) → (Nat → Int32) → (Nat → Int32) → Int32 → Option (Int32 × Int32 × Int32 × Int32 × Int32 × Int32 × Int32 × Int32 × Int32 × Int32 × Int32 × (Nat → Int32) × (Nat → Int32) × (Nat → Int32) × (Nat → Int32) × (Nat → Int32) × (Nat → Int32) × (Nat → Int64) × (Nat → Int32) × (Nat → Int32) × (Nat → Int32))) (fu : Nat) (a0_thrown : Int32) (a0_trouble : Int32) (a0_answer : Int32) (a0_there : Int32) (a0_loose : Int32) (a0_onTill : Int32) (a0_minutes : Int32) (f_a0_st : Nat → Int32) (f_a0_byEnd : Nat → Int32) (f_a0_r : Nat → Int32) (f_a0_longOf : Nat → Int32) (f_a0_rowOf : Nat → Int32) (f_a0_slot : Nat → Int32) (f_a0_doneOf : Nat → Int32) (f_a0_tills : Nat → Int64) (f_a0_nextOf : Nat → Int32) (f_a0_heard : Nat → Int32) (f_a0_leads : Nat → Int32) (v1 : Int32) (v2 : Int32) (v3 : Int32) : Nat → (Nat → Int32) → Int32 → Option (Int32 × Int32 × Int32 × Int32 × Int32 × Int32 × Int32 × Int32 × Int32 × Int32 × Int32 × (Nat → Int32) × (Nat → Int32) × (Nat → Int32) × (Nat → Int32) × (Nat → Int32) × (Nat → Int32) × (Nat → Int64) × (Nat → Int32) × (Nat → Int32) × (Nat → Int32))
  | 0, _, _ => none
  | kf + 1, f_a0_w, v5 =>
    if v2 ≤ v5 then
      bnd13 (F_X10_comes fu a0_answer a0_there a0_loose a0_onTill a0_minutes f_a0_longOf f_a0_w f_a0_rowOf f_a0_slot f_a0_doneOf f_a0_tills f_a0_r f_a0_nextOf f_a0_heard f_a0_leads v1) fun r145 u145_0 u145_1 u145_2 u145_3 u145_4 u145_5 u145_6 u145_7 u145_8 u145_9 u145_10 u145_11 =>
      if r145 = 0 then
        bnd2 (F_X10_no (3 : Int32)) fun r153 u153_0 =>
        some (r153, a0_thrown, u153_0, u145_0, a0_there, a0_loose, a0_onTill, a0_minutes, u145_1, u145_2, u145_3, f_a0_byEnd, f_a0_w, u145_4, u145_5, u145_6, u145_7, u145_8, u145_9, u145_10, u145_11)
      else
      if (u145_11 (0 : Int32).toNatClampNeg) = 0 then
        if v3 < 0 ∨ 20 ≤ v3.toNatClampNeg then none else
        some ((f_a0_byEnd v3.toNatClampNeg), a0_thrown, a0_trouble, u145_0, a0_there, a0_loose, a0_onTill, a0_minutes, u145_1, u145_2, u145_3, f_a0_byEnd, f_a0_w, u145_4, u145_5, u145_6, u145_7, u145_8, u145_9, u145_10, u145_11)
      else
        k26 u145_0 a0_there a0_loose a0_onTill a0_minutes u145_1 u145_2 u145_3 f_a0_w u145_4 u145_5 u145_6 u145_7 u145_8 u145_9 u145_10 u145_11 ((v3 + (1 : Int32)))
    else
    if v5 < 0 ∨ 20 ≤ v5.toNatClampNeg then none else
    if (((7 : Int32) * (f_a0_byEnd v5.toNatClampNeg)) + (5 : Int32)) < 0 ∨ 142 ≤ ((((7 : Int32) * (f_a0_byEnd v5.toNatClampNeg)) + (5 : Int32))).toNatClampNeg then none else
    (F_X10_bad_b112 k26 fu a0_thrown a0_trouble a0_answer a0_there a0_loose a0_onTill a0_minutes f_a0_st f_a0_byEnd f_a0_r f_a0_longOf f_a0_rowOf f_a0_slot f_a0_doneOf f_a0_tills f_a0_nextOf f_a0_heard f_a0_leads v1 v2 v3 kf) ((upd f_a0_w ((((7 : Int32) * (f_a0_byEnd v5.toNatClampNeg)) + (5 : Int32))).toNatClampNeg (-2 : Int32))) ((v5 + (1 : Int32)))
def F_X10_bad_b101 (k26 : Int32 → Int32 → Int32 → Int32 → Int32 → Int32 → Int32 → Int32 → (Nat → Int32) → (Nat → Int32) → (Nat → Int32) → (Nat → Int32) → (Nat → Int32) → (Nat → Int64) → (Nat → Int32) → (Nat → Int32) → (Nat → Int32) → Int32 → Option (Int32 × Int32 × Int32 × Int32 × Int32 × Int32 × Int32 × Int32 × Int32 × Int32 × Int32 × (Nat → Int32) × (Nat → Int32) × (Nat → Int32) × (Nat → Int32) × (Nat → Int32) × (Nat → Int32) × (Nat → Int64) × (Nat → Int32) × (Nat → Int32) × (Nat → Int32))) (k56 : Int32 → Int32 → Option (Int32 × Int32 × Int32 × Int32 × Int32 × Int32 × Int32 × Int32 × Int32 × Int32 × Int32 × (Nat → Int32) × (Nat → Int32) × (Nat → Int32) × (Nat → Int32) × (Nat → Int32) × (Nat → Int32) × (Nat → Int64) × (Nat → Int32) × (Nat → Int32) × (Nat → Int32))) (fu : Nat) (a0_thrown : Int32) (a0_trouble : Int32) (a0_answer : Int32) (a0_there : Int32) (a0_loose : Int32) (a0_onTill : Int32) (a0_minutes : Int32) (f_a0_st : Nat → Int32) (f_a0_byEnd : Nat → Int32) (f_a0_w : Nat → Int32) (f_a0_r : Nat → Int32) (f_a0_longOf : Nat → Int32) (f_a0_rowOf : Nat → Int32) (f_a0_slot : Nat → Int32) (f_a0_doneOf : Nat → Int32) (f_a0_tills : Nat → Int64) (f_a0_nextOf : Nat → Int32) (f_a0_heard : Nat → Int32) (f_a0_leads : Nat → Int32) (v1 : Int32) (v2 : Int32) (v3 : Int32) (v4 : Int32) (v5 : Int32) : Option (Int32 × Int32 × Int32 × Int32 × Int32 × Int32 × Int32 × Int32 × Int32 × Int32 × Int32 × (Nat → Int32) × (Nat → Int32) × (Nat → Int32) × (Nat → Int32) × (Nat → Int32) × (Nat → Int32) × (Nat → Int64) × (Nat → Int32) × (Nat → Int32) × (Nat → Int32)) :=
  k56 a0_there ((v5 + (1 : Int32)))
def F_X10_bad_b56 (k26 : Int32 → Int32 → Int32 → Int32 → Int32 → Int32 → Int32 → Int32 → (Nat → Int32) → (Nat → Int32) → (Nat → Int32) → (Nat → Int32) → (Nat → Int32) → (Nat → Int64) → (Nat → Int32) → (Nat → Int32) → (Nat → Int32) → Int32 → Option (Int32 × Int32 × Int32 × Int32 × Int32 × Int32 × Int32 × Int32 × Int32 × Int32 × Int32 × (Nat → Int32) × (Nat → Int32) × (Nat → Int32) × (Nat → Int32) × (Nat → Int32) × (Nat → Int32) × (Nat → Int64) × (Nat → Int32) × (Nat → Int32) × (Nat → Int32))) (fu : Nat) (a0_thrown : Int32) (a0_trouble : Int32) (a0_answer : Int32) (a0_loose : Int32) (a0_onTill : Int32) (a0_minutes : Int32) (f_a0_st : Nat → Int32) (f_a0_byEnd : Nat → Int32) (f_a0_w : Nat → Int32) (f_a0_r : Nat → Int32) (f_a0_longOf : Nat → Int32) (f_a0_rowOf : Nat → Int32) (f_a0_slot : Nat → Int32) (f_a0_doneOf : Nat → Int32) (f_a0_tills : Nat → Int64) (f_a0_nextOf : Nat → Int32) (f_a0_heard : Nat → Int32) (f_a0_leads : Nat → Int32) (v1 : Int32) (v2 : Int32) (v3 : Int32) (v4 : Int32) : Nat → Int32 → Int32 → Option (Int32 × Int32 × Int32 × Int32 × Int32 × Int32 × Int32 × Int32 × Int32 × Int32 × Int32 × (Nat → Int32) × (Nat → Int32) × (Nat → Int32) × (Nat → Int32) × (Nat → Int32) × (Nat → Int32) × (Nat → Int64) × (Nat → Int32) × (Nat → Int32) × (Nat → Int32))
  | 0, _, _ => none
  | kf + 1, a0_there, v5 =>
    if (f_a0_st (141 : Int32).toNatClampNeg) ≤ v5 then
      F_X10_bad_b112 k26 fu a0_thrown a0_trouble a0_answer a0_there a0_loose a0_onTill a0_minutes f_a0_st f_a0_byEnd f_a0_r f_a0_longOf f_a0_rowOf f_a0_slot f_a0_doneOf f_a0_tills f_a0_nextOf f_a0_heard f_a0_leads v1 v2 v3 fu f_a0_w ((v3 + (1 : Int32)))
    else
    if (((7 : Int32) * v5) + (4 : Int32)) < 0 ∨ 142 ≤ ((((7 : Int32) * v5) + (4 : Int32))).toNatClampNeg then none else
    if (f_a0_st ((((7 : Int32) * v5) + (4 : Int32))).toNatClampNeg) ≤ v4 then
      F_X10_bad_b101 k26 (F_X10_bad_b56 k26 fu a0_thrown a0_trouble a0_answer a0_loose a0_onTill a0_minutes f_a0_st f_a0_byEnd f_a0_w f_a0_r f_a0_longOf f_a0_rowOf f_a0_slot f_a0_doneOf f_a0_tills f_a0_nextOf f_a0_heard f_a0_leads v1 v2 v3 v4 kf) fu a0_thrown a0_trouble a0_answer a0_there a0_loose a0_onTill a0_minutes f_a0_st f_a0_byEnd f_a0_w f_a0_r f_a0_longOf f_a0_rowOf f_a0_slot f_a0_doneOf f_a0_tills f_a0_nextOf f_a0_heard f_a0_leads v1 v2 v3 v4 v5
    else
      F_X10_bad_b101 k26 (F_X10_bad_b56 k26 fu a0_thrown a0_trouble a0_answer a0_loose a0_onTill a0_minutes f_a0_st f_a0_byEnd f_a0_w f_a0_r f_a0_longOf f_a0_rowOf f_a0_slot f_a0_doneOf f_a0_tills f_a0_nextOf f_a0_heard f_a0_leads v1 v2 v3 v4 kf) fu a0_thrown a0_trouble a0_answer ((a0_there &&& (((1 : Int32) <<< (v5 &&& 31)) ^^^ (-1 : Int32)))) a0_loose a0_onTill a0_minutes f_a0_st f_a0_byEnd f_a0_w f_a0_r f_a0_longOf f_a0_rowOf f_a0_slot f_a0_doneOf f_a0_tills f_a0_nextOf f_a0_heard f_a0_leads v1 v2 v3 v4 v5
def F_X10_bad_b26  (fu : Nat) (a0_thrown : Int32) (a0_trouble : Int32) (f_a0_st : Nat → Int32) (f_a0_byEnd : Nat → Int32) (f_a0_r : Nat → Int32) (v1 : Int32) (v2 : Int32) : Nat → Int32 → Int32 → Int32 → Int32 → Int32 → Int32 → Int32 → Int32 → (Nat → Int32) → (Nat → Int32) → (Nat → Int32) → (Nat → Int32) → (Nat → Int32) → (Nat → Int64) → (Nat → Int32) → (Nat → Int32) → (Nat → Int32) → Int32 → Option (Int32 × Int32 × Int32 × Int32 × Int32 × Int32 × Int32 × Int32 × Int32 × Int32 × Int32 × (Nat → Int32) × (Nat → Int32) × (Nat → Int32) × (Nat → Int32) × (Nat → Int32) × (Nat → Int32) × (Nat → Int64) × (Nat → Int32) × (Nat → Int32) × (Nat → Int32))
  | 0, _, _, _, _, _, _, _, _, _, _, _, _, _, _, _, _, _, _ => none
  | kf + 1, a0_answer, a0_there, a0_loose, a0_onTill, a0_minutes, a0_byKind, a0_stands, a0_isFull, f_a0_w, f_a0_longOf, f_a0_rowOf, f_a0_slot, f_a0_doneOf, f_a0_tills, f_a0_nextOf, f_a0_heard, f_a0_leads, v3 =>
    if v2 ≤ v3 then
      some ((-2 : Int32), a0_thrown, a0_trouble, a0_answer, a0_there, a0_loose, a0_onTill, a0_minutes, a0_byKind, a0_stands, a0_isFull, f_a0_byEnd, f_a0_w, f_a0_longOf, f_a0_rowOf, f_a0_slot, f_a0_doneOf, f_a0_tills, f_a0_nextOf, f_a0_heard, f_a0_leads)
    else
    bnd5 (F_X10_layCalls fu f_a0_st f_a0_w f_a0_r) fun u32_0 u32_1 u32_2 u32_3 u32_4 =>
    if v3 < 0 ∨ 20 ≤ v3.toNatClampNeg then none else
    if (((7 : Int32) * (f_a0_byEnd v3.toNatClampNeg)) + (5 : Int32)) < 0 ∨ 142 ≤ ((((7 : Int32) * (f_a0_byEnd v3.toNatClampNeg)) + (5 : Int32))).toNatClampNeg then none else
    F_X10_bad_b56 (F_X10_bad_b26 fu a0_thrown a0_trouble f_a0_st f_a0_byEnd f_a0_r v1 v2 kf) fu a0_thrown a0_trouble a0_answer u32_1 u32_2 u32_3 f_a0_st f_a0_byEnd u32_4 f_a0_r f_a0_longOf f_a0_rowOf f_a0_slot f_a0_doneOf f_a0_tills f_a0_nextOf f_a0_heard f_a0_leads v1 v2 v3 ((f_a0_st ((((7 : Int32) * (f_a0_byEnd v3.toNatClampNeg)) + (5 : Int32))).toNatClampNeg)) fu u32_0 (0 : Int32)
def F_X10_bad (fu : Nat) (a0_hasBook : Int32) (a0_answer : Int32) (a0_there : Int32) (a0_loose : Int32) (a0_onTill : Int32) (a0_minutes : Int32) (a0_byKind : Int32) (a0_stands : Int32) (a0_isFull : Int32) (f_a0_st : Nat → Int32) (f_a0_byEnd : Nat → Int32) (f_a0_w : Nat → Int32) (f_a0_r : Nat → Int32) (f_a0_longOf : Nat → Int32) (f_a0_rowOf : Nat → Int32) (f_a0_slot : Nat → Int32) (f_a0_doneOf : Nat → Int32) (f_a0_tills : Nat → Int64) (f_a0_nextOf : Nat → Int32) (f_a0_heard : Nat → Int32) (f_a0_leads : Nat → Int32) (v1 : Int32) : Option (Int32 × Int32 × Int32 × Int32 × Int32 × Int32 × Int32 × Int32 × Int32 × Int32 × Int32 × (Nat → Int32) × (Nat → Int32) × (Nat → Int32) × (Nat → Int32) × (Nat → Int32) × (Nat → Int32) × (Nat → Int64) × (Nat → Int32) × (Nat → Int32) × (Nat → Int32)) :=
  bnd2 (F_X10_good) fun u1_0 u1_1 =>
  bnd1 (F_X10_isKind a0_hasBook v1 (2 : Int32)) fun r7 =>
  if r7 = 0 then
    bnd2 (F_X10_no (1 : Int32)) fun r15 u15_0 =>
    some (r15, u1_0, u15_0, a0_answer, a0_there, a0_loose, a0_onTill, a0_minutes, a0_byKind, a0_stands, a0_isFull, f_a0_byEnd, f_a0_w, f_a0_longOf, f_a0_rowOf, f_a0_slot, f_a0_doneOf, f_a0_tills, f_a0_nextOf, f_a0_heard, f_a0_leads)
  else
  bnd2 (F_X10_layEnds fu f_a0_st f_a0_byEnd) fun r20 u20_0 =>
  F_X10_bad_b26 fu u1_0 u1_1 f_a0_st u20_0 f_a0_r v1 r20 fu a0_answer a0_there a0_loose a0_onTill a0_minutes a0_byKind a0_stands a0_isFull f_a0_w f_a0_longOf f_a0_rowOf f_a0_slot f_a0_doneOf f_a0_tills f_a0_nextOf f_a0_heard f_a0_leads (0 : Int32)
def F_X10_endedCalls_b40 (k4 : Int32 → Int32 → Option (Int32)) (f_a0_st : Nat → Int32) (v2 : Int32) (t0 : Int32) (t1 : Int32) : Option (Int32) :=
  k4 (t1 ||| t0) ((v2 + (1 : Int32)))
def F_X10_endedCalls_b4  (f_a0_st : Nat → Int32) : Nat → Int32 → Int32 → Option (Int32)
  | 0, _, _ => none
  | kf + 1, v1, v2 =>
    if (f_a0_st (141 : Int32).toNatClampNeg) ≤ v2 then
      some v1
    else
    if (((7 : Int32) * v2) + (5 : Int32)) < 0 ∨ 142 ≤ ((((7 : Int32) * v2) + (5 : Int32))).toNatClampNeg then none else
    if (f_a0_st ((((7 : Int32) * v2) + (5 : Int32))).toNatClampNeg) = (-2 : Int32) then
      F_X10_endedCalls_b40 (F_X10_endedCalls_b4 f_a0_st kf) f_a0_st v2 (0 : Int32) v1
    else
      F_X10_endedCalls_b40 (F_X10_endedCalls_b4 f_a0_st kf) f_a0_st v2 (((1 : Int32) <<< (v2 &&& 31))) v1
def F_X10_endedCalls (fu : Nat) (f_a0_st : Nat → Int32) : Option (Int32) :=
  F_X10_endedCalls_b4 f_a0_st fu (0 : Int32) (0 : Int32)
def F_X10_core_b177 (k107 : Int32 → Int32 → Int32 → Int32 → Int32 → (Nat → Int32) → (Nat → Int32) → (Nat → Int32) → (Nat → Int32) → (Nat → Int64) → (Nat → Int32) → (Nat → Int32) → (Nat → Int32) → Int32 → Option (Int32 × Int32 × Int32 × Int32 × Int32 × Int32 × Int32 × Int32 × Int32 × Int32 × Int32 × (Nat → Int32) × (Nat → Int32) × (Nat → Int32) × (Nat → Int32) × (Nat → Int32) × (Nat → Int64) × (Nat → Int32) × (Nat → Int32) × (Nat → Int32))) (k116 : Int32 → Int32 → Int32 → Int32 → Int32 → (Nat → Int32) → (Nat → Int32) → (Nat → Int32) → (Nat → Int32) → (Nat → Int64) → (Nat → Int32) → (Nat → Int32) → (Nat → Int32) → Int32 → Option (Int32 × Int32 × Int32 × Int32 × Int32 × Int32 × Int32 × Int32 × Int32 × Int32 × Int32 × (Nat → Int32) × (Nat → Int32) × (Nat → Int32) × (Nat → Int32) × (Nat → Int32) × (Nat → Int64) × (Nat → Int32) × (Nat → Int32) × (Nat → Int32))) (fu : Nat) (a0_thrown : Int32) (a0_trouble : Int32) (a0_answer : Int32) (a0_there : Int32) (a0_loose : Int32) (a0_onTill : Int32) (a0_minutes : Int32) (a0_byKind : Int32) (a0_stands : Int32) (a0_isFull : Int32) (f_a0_w : Nat → Int32) (f_a0_r : Nat → Int32) (f_a0_longOf : Nat → Int32) (f_a0_rowOf : Nat → Int32) (f_a0_slot : Nat → Int32) (f_a0_doneOf : Nat → Int32) (f_a0_tills : Nat → Int64) (f_a0_nextOf : Nat → Int32) (f_a0_heard : Nat → Int32) (f_a0_leads : Nat → Int32) (v1 : Int32) (v3 : Int32) (v4 : Int32) (v5 : Int32) : Option (Int32 × Int32 × Int32 × Int32 × Int32 × Int32 × Int32 × Int32 × Int32 × Int32 × Int32 × (Nat → Int32) × (Nat → Int32) × (Nat → Int32) × (Nat → Int32) × (Nat → Int32) × (Nat → Int64) × (Nat → Int32) × (Nat → Int32) × (Nat → Int32)) :=
  k116 a0_answer a0_loose a0_byKind a0_stands a0_isFull f_a0_longOf f_a0_rowOf f_a0_slot f_a0_doneOf f_a0_tills f_a0_nextOf f_a0_heard f_a0_leads ((v5 + (1 : Int32)))
def F_X10_core_b116 (k107 : Int32 → Int32 → Int32 → Int32 → Int32 → (Nat → Int32) → (Nat → Int32) → (Nat → Int32) → (Nat → Int32) → (Nat → Int64) → (Nat → Int32) → (Nat → Int32) → (Nat → Int32) → Int32 → Option (Int32 × Int32 × Int32 × Int32 × Int32 × Int32 × Int32 × Int32 × Int32 × Int32 × Int32 × (Nat → Int32) × (Nat → Int32) × (Nat → Int32) × (Nat → Int32) × (Nat → Int32) × (Nat → Int64) × (Nat → Int32) × (Nat → Int32) × (Nat → Int32))) (fu : Nat) (a0_thrown : Int32) (a0_trouble : Int32) (a0_there : Int32) (a0_onTill : Int32) (a0_minutes : Int32) (f_a0_w : Nat → Int32) (f_a0_r : Nat → Int32) (v1 : Int32) (v3 : Int32) (v4 : Int32) : Nat → Int32 → Int32 → Int32 → Int32 → Int32 → (Nat → Int32) → (Nat → Int32) → (Nat → Int32) → (Nat → Int32) → (Nat → Int64) → (Nat → Int32) → (Nat → Int32) → (Nat → Int32) → Int32 → Option (Int32 × Int32 × Int32 × Int32 × Int32 × Int32 × Int32 × Int32 × Int32 × Int32 × Int32 × (Nat → Int32) × (Nat → Int32) × (Nat → Int32) × (Nat → Int32) × (Nat → Int32) × (Nat → Int64) × (Nat → Int32) × (Nat → Int32) × (Nat → Int32))
  | 0, _, _, _, _, _, _, _, _, _, _, _, _, _, _ => none
  | kf + 1, a0_answer, a0_loose, a0_byKind, a0_stands, a0_isFull, f_a0_longOf, f_a0_rowOf, f_a0_slot, f_a0_doneOf, f_a0_tills, f_a0_nextOf, f_a0_heard, f_a0_leads, v5 =>
    if v3 < v5 then
      k107 a0_answer a0_loose a0_byKind a0_stands a0_isFull f_a0_longOf f_a0_rowOf f_a0_slot f_a0_doneOf f_a0_tills f_a0_nextOf f_a0_heard f_a0_leads ((v4 + (1 : Int32)))
    else
    if (v5 &&& (v3 ^^^ (-1 : Int32))) = 0 then
      bnd1 (F_X10_bits fu v5) fun r133 =>
      if r133 = v4 then
        bnd13 (F_X10_comes fu a0_answer a0_there ((a0_there &&& (v5 ^^^ (-1 : Int32)))) a0_onTill a0_minutes f_a0_longOf f_a0_w f_a0_rowOf f_a0_slot f_a0_doneOf f_a0_tills f_a0_r f_a0_nextOf f_a0_heard f_a0_leads v1) fun r159 u159_0 u159_1 u159_2 u159_3 u159_4 u159_5 u159_6 u159_7 u159_8 u159_9 u159_10 u159_11 =>
        if r159 = 0 then
          F_X10_core_b177 k107 (F_X10_core_b116 k107 fu a0_thrown a0_trouble a0_there a0_onTill a0_minutes f_a0_w f_a0_r v1 v3 v4 kf) fu a0_thrown a0_trouble u159_0 a0_there ((a0_there &&& (v5 ^^^ (-1 : Int32)))) a0_onTill a0_minutes u159_1 u159_2 u159_3 f_a0_w f_a0_r u159_4 u159_5 u159_6 u159_7 u159_8 u159_9 u159_10 u159_11 v1 v3 v4 v5
        else
        if (u159_11 (0 : Int32).toNatClampNeg) = 0 then
          some (v5, a0_thrown, a0_trouble, u159_0, a0_there, (a0_there &&& (v5 ^^^ (-1 : Int32))), a0_onTill, a0_minutes, u159_1, u159_2, u159_3, f_a0_w, u159_4, u159_5, u159_6, u159_7, u159_8, u159_9, u159_10, u159_11)
        else
          F_X10_core_b177 k107 (F_X10_core_b116 k107 fu a0_thrown a0_trouble a0_there a0_onTill a0_minutes f_a0_w f_a0_r v1 v3 v4 kf) fu a0_thrown a0_trouble u159_0 a0_there ((a0_there &&& (v5 ^^^ (-1 : Int32)))) a0_onTill a0_minutes u159_1 u159_2 u159_3 f_a0_w f_a0_r u159_4 u159_5 u159_6 u159_7 u159_8 u159_9 u159_10 u159_11 v1 v3 v4 v5
      else
        F_X10_core_b177 k107 (F_X10_core_b116 k107 fu a0_thrown a0_trouble a0_there a0_onTill a0_minutes f_a0_w f_a0_r v1 v3 v4 kf) fu a0_thrown a0_trouble a0_answer a0_there a0_loose a0_onTill a0_minutes a0_byKind a0_stands a0_isFull f_a0_w f_a0_r f_a0_longOf f_a0_rowOf f_a0_slot f_a0_doneOf f_a0_tills f_a0_nextOf f_a0_heard f_a0_leads v1 v3 v4 v5
    else
      F_X10_core_b177 k107 (F_X10_core_b116 k107 fu a0_thrown a0_trouble a0_there a0_onTill a0_minutes f_a0_w f_a0_r v1 v3 v4 kf) fu a0_thrown a0_trouble a0_answer a0_there a0_loose a0_onTill a0_minutes a0_byKind a0_stands a0_isFull f_a0_w f_a0_r f_a0_longOf f_a0_rowOf f_a0_slot f_a0_doneOf f_a0_tills f_a0_nextOf f_a0_heard f_a0_leads v1 v3 v4 v5
def F_X10_core_b107  (fu : Nat) (a0_thrown : Int32) (a0_trouble : Int32) (a0_there : Int32) (a0_onTill : Int32) (a0_minutes : Int32) (f_a0_w : Nat → Int32) (f_a0_r : Nat → Int32) (v1 : Int32) (v3 : Int32) : Nat → Int32 → Int32 → Int32 → Int32 → Int32 → (Nat → Int32) → (Nat → Int32) → (Nat → Int32) → (Nat → Int32) → (Nat → Int64) → (Nat → Int32) → (Nat → Int32) → (Nat → Int32) → Int32 → Option (Int32 × Int32 × Int32 × Int32 × Int32 × Int32 × Int32 × Int32 × Int32 × Int32 × Int32 × (Nat → Int32) × (Nat → Int32) × (Nat → Int32) × (Nat → Int32) × (Nat → Int32) × (Nat → Int64) × (Nat → Int32) × (Nat → Int32) × (Nat → Int32))
  | 0, _, _, _, _, _, _, _, _, _, _, _, _, _, _ => none
  | kf + 1, a0_answer, a0_loose, a0_byKind, a0_stands, a0_isFull, f_a0_longOf, f_a0_rowOf, f_a0_slot, f_a0_doneOf, f_a0_tills, f_a0_nextOf, f_a0_heard, f_a0_leads, v4 =>
    if (3 : Int32) < v4 then
      some ((-3 : Int32), a0_thrown, a0_trouble, a0_answer, a0_there, a0_loose, a0_onTill, a0_minutes, a0_byKind, a0_stands, a0_isFull, f_a0_w, f_a0_longOf, f_a0_rowOf, f_a0_slot, f_a0_doneOf, f_a0_tills, f_a0_nextOf, f_a0_heard, f_a0_leads)
    else
      F_X10_core_b116 (F_X10_core_b107 fu a0_thrown a0_trouble a0_there a0_onTill a0_minutes f_a0_w f_a0_r v1 v3 kf) fu a0_thrown a0_trouble a0_there a0_onTill a0_minutes f_a0_w f_a0_r v1 v3 v4 fu a0_answer a0_loose a0_byKind a0_stands a0_isFull f_a0_longOf f_a0_rowOf f_a0_slot f_a0_doneOf f_a0_tills f_a0_nextOf f_a0_heard f_a0_leads (0 : Int32)
def F_X10_core_b91  (fu : Nat) (a0_thrown : Int32) (a0_trouble : Int32) (a0_answer : Int32) (a0_there : Int32) (a0_loose : Int32) (a0_onTill : Int32) (a0_minutes : Int32) (a0_byKind : Int32) (a0_stands : Int32) (a0_isFull : Int32) (f_a0_st : Nat → Int32) (f_a0_w : Nat → Int32) (f_a0_r : Nat → Int32) (f_a0_longOf : Nat → Int32) (f_a0_rowOf : Nat → Int32) (f_a0_slot : Nat → Int32) (f_a0_doneOf : Nat → Int32) (f_a0_tills : Nat → Int64) (f_a0_nextOf : Nat → Int32) (f_a0_heard : Nat → Int32) (f_a0_leads : Nat → Int32) (v1 : Int32) (t0 : Int32) : Option (Int32 × Int32 × Int32 × Int32 × Int32 × Int32 × Int32 × Int32 × Int32 × Int32 × Int32 × (Nat → Int32) × (Nat → Int32) × (Nat → Int32) × (Nat → Int32) × (Nat → Int32) × (Nat → Int64) × (Nat → Int32) × (Nat → Int32) × (Nat → Int32)) :=
  if t0 = 0 then
    bnd1 (F_X10_endedCalls fu f_a0_st) fun r100 =>
    F_X10_core_b107 fu a0_thrown a0_trouble a0_there a0_onTill a0_minutes f_a0_w f_a0_r v1 r100 fu a0_answer a0_loose a0_byKind a0_stands a0_isFull f_a0_longOf f_a0_rowOf f_a0_slot f_a0_doneOf f_a0_tills f_a0_nextOf f_a0_heard f_a0_leads (1 : Int32)
  else
    some ((-2 : Int32), a0_thrown, a0_trouble, a0_answer, a0_there, a0_loose, a0_onTill, a0_minutes, a0_byKind, a0_stands, a0_isFull, f_a0_w, f_a0_longOf, f_a0_rowOf, f_a0_slot, f_a0_doneOf, f_a0_tills, f_a0_nextOf, f_a0_heard, f_a0_leads)
def F_X10_core_b90  (fu : Nat) (a0_thrown : Int32) (a0_trouble : Int32) (a0_answer : Int32) (a0_there : Int32) (a0_loose : Int32) (a0_onTill : Int32) (a0_minutes : Int32) (a0_byKind : Int32) (a0_stands : Int32) (a0_isFull : Int32) (f_a0_st : Nat → Int32) (f_a0_w : Nat → Int32) (f_a0_r : Nat → Int32) (f_a0_longOf : Nat → Int32) (f_a0_rowOf : Nat → Int32) (f_a0_slot : Nat → Int32) (f_a0_doneOf : Nat → Int32) (f_a0_tills : Nat → Int64) (f_a0_nextOf : Nat → Int32) (f_a0_heard : Nat → Int32) (f_a0_leads : Nat → Int32) (v1 : Int32) : Option (Int32 × Int32 × Int32 × Int32 × Int32 × Int32 × Int32 × Int32 × Int32 × Int32 × Int32 × (Nat → Int32) × (Nat → Int32) × (Nat → Int32) × (Nat → Int32) × (Nat → Int32) × (Nat → Int64) × (Nat → Int32) × (Nat → Int32) × (Nat → Int32)) :=
  F_X10_core_b91 fu a0_thrown a0_trouble a0_answer a0_there a0_loose a0_onTill a0_minutes a0_byKind a0_stands a0_isFull f_a0_st f_a0_w f_a0_r f_a0_longOf f_a0_rowOf f_a0_slot f_a0_doneOf f_a0_tills f_a0_nextOf f_a0_heard f_a0_leads v1 (0 : Int32)
def F_X10_core (fu : Nat) (a0_hasBook : Int32) (a0_answer : Int32) (a0_there : Int32) (a0_loose : Int32) (a0_onTill : Int32) (a0_minutes : Int32) (a0_byKind : Int32) (a0_stands : Int32) (a0_isFull : Int32) (f_a0_st : Nat → Int32) (f_a0_w : Nat → Int32) (f_a0_r : Nat → Int32) (f_a0_longOf : Nat → Int32) (f_a0_rowOf : Nat → Int32) (f_a0_slot : Nat → Int32) (f_a0_doneOf : Nat → Int32) (f_a0_tills : Nat → Int64) (f_a0_nextOf : Nat → Int32) (f_a0_heard : Nat → Int32) (f_a0_leads : Nat → Int32) (v1 : Int32) : Option (Int32 × Int32 × Int32 × Int32 × Int32 × Int32 × Int32 × Int32 × Int32 × Int32 × Int32 × (Nat → Int32) × (Nat → Int32) × (Nat → Int32) × (Nat → Int32) × (Nat → Int32) × (Nat → Int64) × (Nat → Int32) × (Nat → Int32) × (Nat → Int32)) :=
  bnd2 (F_X10_good) fun u1_0 u1_1 =>
  bnd1 (F_X10_isKind a0_hasBook v1 (2 : Int32)) fun r7 =>
  if r7 = 0 then
    bnd2 (F_X10_no (1 : Int32)) fun r15 u15_0 =>
    some (r15, u1_0, u15_0, a0_answer, a0_there, a0_loose, a0_onTill, a0_minutes, a0_byKind, a0_stands, a0_isFull, f_a0_w, f_a0_longOf, f_a0_rowOf, f_a0_slot, f_a0_doneOf, f_a0_tills, f_a0_nextOf, f_a0_heard, f_a0_leads)
  else
  if (f_a0_st (141 : Int32).toNatClampNeg) ≤ (12 : Int32) then
    bnd5 (F_X10_layCalls fu f_a0_st f_a0_w f_a0_r) fun u39_0 u39_1 u39_2 u39_3 u39_4 =>
    bnd13 (F_X10_comes fu a0_answer u39_0 u39_0 u39_2 u39_3 f_a0_longOf u39_4 f_a0_rowOf f_a0_slot f_a0_doneOf f_a0_tills f_a0_r f_a0_nextOf f_a0_heard f_a0_leads v1) fun r52 u52_0 u52_1 u52_2 u52_3 u52_4 u52_5 u52_6 u52_7 u52_8 u52_9 u52_10 u52_11 =>
    if r52 = 0 then
      bnd2 (F_X10_no (3 : Int32)) fun r60 u60_0 =>
      some (r60, u1_0, u60_0, u52_0, u39_0, u39_0, u39_2, u39_3, u52_1, u52_2, u52_3, u39_4, u52_4, u52_5, u52_6, u52_7, u52_8, u52_9, u52_10, u52_11)
    else
    bnd13 (F_X10_comes fu u52_0 u39_0 (0 : Int32) u39_2 u39_3 u52_4 u39_4 u52_5 u52_6 u52_7 u52_8 f_a0_r u52_9 u52_10 u52_11 v1) fun r71 u71_0 u71_1 u71_2 u71_3 u71_4 u71_5 u71_6 u71_7 u71_8 u71_9 u71_10 u71_11 =>
    if r71 = 0 then
      F_X10_core_b90 fu u1_0 u1_1 u71_0 u39_0 (0 : Int32) u39_2 u39_3 u71_1 u71_2 u71_3 f_a0_st u39_4 f_a0_r u71_4 u71_5 u71_6 u71_7 u71_8 u71_9 u71_10 u71_11 v1
    else
    if (u71_11 (0 : Int32).toNatClampNeg) = 0 then
      F_X10_core_b90 fu u1_0 u1_1 u71_0 u39_0 (0 : Int32) u39_2 u39_3 u71_1 u71_2 u71_3 f_a0_st u39_4 f_a0_r u71_4 u71_5 u71_6 u71_7 u71_8 u71_9 u71_10 u71_11 v1
    else
      F_X10_core_b91 fu u1_0 u1_1 u71_0 u39_0 (0 : Int32) u39_2 u39_3 u71_1 u71_2 u71_3 f_a0_st u39_4 f_a0_r u71_4 u71_5 u71_6 u71_7 u71_8 u71_9 u71_10 u71_11 v1 (1 : Int32)
  else
  bnd2 (F_X10_no (3 : Int32)) fun r34 u34_0 =>
  some (r34, u1_0, u34_0, a0_answer, a0_there, a0_loose, a0_onTill, a0_minutes, a0_byKind, a0_stands, a0_isFull, f_a0_w, f_a0_longOf, f_a0_rowOf, f_a0_slot, f_a0_doneOf, f_a0_tills, f_a0_nextOf, f_a0_heard, f_a0_leads)
def F_X10_mends_b130 (k48 : Int32 → Int32 → Int32 → Int32 → Int32 → Int32 → Int32 → Int32 → (Nat → Int32) → (Nat → Int32) → (Nat → Int32) → (Nat → Int32) → (Nat → Int32) → (Nat → Int64) → (Nat → Int32) → (Nat → Int32) → (Nat → Int32) → Int32 → Int32 → Option (Int32 × Int32 × Int32 × Int32 × Int32 × Int32 × Int32 × Int32 × Int32 × Int32 × Int32 × Int32 × (Nat → Int32) × (Nat → Int32) × (Nat → Int32) × (Nat → Int32) × (Nat → Int32) × (Nat → Int64) × (Nat → Int32) × (Nat → Int32) × (Nat → Int32))) (fu : Nat) (a0_thrown : Int32) (a0_trouble : Int32) (a0_answer : Int32) (a0_there : Int32) (a0_loose : Int32) (a0_onTill : Int32) (a0_minutes : Int32) (a0_byKind : Int32) (a0_stands : Int32) (a0_isFull : Int32) (a0_canBe : Int32) (f_a0_st : Nat → Int32) (f_a0_w : Nat → Int32) (f_a0_r : Nat → Int32) (f_a0_longOf : Nat → Int32) (f_a0_rowOf : Nat → Int32) (f_a0_slot : Nat → Int32) (f_a0_doneOf : Nat → Int32) (f_a0_tills : Nat → Int64) (f_a0_nextOf : Nat → Int32) (f_a0_heard : Nat → Int32) (f_a0_leads : Nat → Int32) (v1 : Int32) (v2 : Int32) : Option (Int32 × Int32 × Int32 × Int32 × Int32 × Int32 × Int32 × Int32 × Int32 × Int32 × Int32 × Int32 × (Nat → Int32) × (Nat → Int32) × (Nat → Int32) × (Nat → Int32) × (Nat → Int32) × (Nat → Int64) × (Nat → Int32) × (Nat → Int32) × (Nat → Int32)) :=
  k48 a0_answer a0_there a0_loose a0_onTill a0_minutes a0_byKind a0_stands a0_isFull f_a0_w f_a0_longOf f_a0_rowOf f_a0_slot f_a0_doneOf f_a0_tills f_a0_nextOf f_a0_heard f_a0_leads v1 ((v2 + (1 : Int32)))
def F_X10_mends_b128 (k48 : Int32 → Int32 → Int32 → Int32 → Int32 → Int32 → Int32 → Int32 → (Nat → Int32) → (Nat → Int32) → (Nat → Int32) → (Nat → Int32) → (Nat → Int32) → (Nat → Int64) → (Nat → Int32) → (Nat → Int32) → (Nat → Int32) → Int32 → Int32 → Option (Int32 × Int32 × Int32 × Int32 × Int32 × Int32 × Int32 × Int32 × Int32 × Int32 × Int32 × Int32 × (Nat → Int32) × (Nat → Int32) × (Nat → Int32) × (Nat → Int32) × (Nat → Int32) × (Nat → Int64) × (Nat → Int32) × (Nat → Int32) × (Nat → Int32))) (fu : Nat) (a0_thrown : Int32) (a0_trouble : Int32) (a0_answer : Int32) (a0_there : Int32) (a0_loose : Int32) (a0_onTill : Int32) (a0_minutes : Int32) (a0_byKind : Int32) (a0_stands : Int32) (a0_isFull : Int32) (a0_canBe : Int32) (f_a0_st : Nat → Int32) (f_a0_w : Nat → Int32) (f_a0_r : Nat → Int32) (f_a0_longOf : Nat → Int32) (f_a0_rowOf : Nat → Int32) (f_a0_slot : Nat → Int32) (f_a0_doneOf : Nat → Int32) (f_a0_tills : Nat → Int64) (f_a0_nextOf : Nat → Int32) (f_a0_heard : Nat → Int32) (f_a0_leads : Nat → Int32) (v2 : Int32) (t0 : Int32) (t1 : Int32) : Option (Int32 × Int32 × Int32 × Int32 × Int32 × Int32 × Int32 × Int32 × Int32 × Int32 × Int32 × Int32 × (Nat → Int32) × (Nat → Int32) × (Nat → Int32) × (Nat → Int32) × (Nat → Int32) × (Nat → Int64) × (Nat → Int32) × (Nat → Int32) × (Nat → Int32)) :=
  F_X10_mends_b130 k48 fu a0_thrown a0_trouble a0_answer a0_there a0_loose a0_onTill a0_minutes a0_byKind a0_stands a0_isFull a0_canBe f_a0_st f_a0_w f_a0_r f_a0_longOf f_a0_rowOf f_a0_slot f_a0_doneOf f_a0_tills f_a0_nextOf f_a0_heard f_a0_leads (t1 ||| t0) v2
def F_X10_mends_b48  (fu : Nat) (a0_thrown : Int32) (a0_trouble : Int32) (a0_canBe : Int32) (f_a0_st : Nat → Int32) (f_a0_r : Nat → Int32) : Nat → Int32 → Int32 → Int32 → Int32 → Int32 → Int32 → Int32 → Int32 → (Nat → Int32) → (Nat → Int32) → (Nat → Int32) → (Nat → Int32) → (Nat → Int32) → (Nat → Int64) → (Nat → Int32) → (Nat → Int32) → (Nat → Int32) → Int32 → Int32 → Option (Int32 × Int32 × Int32 × Int32 × Int32 × Int32 × Int32 × Int32 × Int32 × Int32 × Int32 × Int32 × (Nat → Int32) × (Nat → Int32) × (Nat → Int32) × (Nat → Int32) × (Nat → Int32) × (Nat → Int64) × (Nat → Int32) × (Nat → Int32) × (Nat → Int32))
  | 0, _, _, _, _, _, _, _, _, _, _, _, _, _, _, _, _, _, _, _ => none
  | kf + 1, a0_answer, a0_there, a0_loose, a0_onTill, a0_minutes, a0_byKind, a0_stands, a0_isFull, f_a0_w, f_a0_longOf, f_a0_rowOf, f_a0_slot, f_a0_doneOf, f_a0_tills, f_a0_nextOf, f_a0_heard, f_a0_leads, v1, v2 =>
    if (f_a0_st (141 : Int32).toNatClampNeg) ≤ v2 then
      some (v1, a0_thrown, a0_trouble, a0_answer, a0_there, a0_loose, a0_onTill, a0_minutes, a0_byKind, a0_stands, a0_isFull, a0_canBe, f_a0_w, f_a0_longOf, f_a0_rowOf, f_a0_slot, f_a0_doneOf, f_a0_tills, f_a0_nextOf, f_a0_heard, f_a0_leads)
    else
    if (((7 : Int32) * v2) + (5 : Int32)) < 0 ∨ 142 ≤ ((((7 : Int32) * v2) + (5 : Int32))).toNatClampNeg then none else
    if (f_a0_st ((((7 : Int32) * v2) + (5 : Int32))).toNatClampNeg) = (-2 : Int32) then
      F_X10_mends_b130 (F_X10_mends_b48 fu a0_thrown a0_trouble a0_canBe f_a0_st f_a0_r kf) fu a0_thrown a0_trouble a0_answer a0_there a0_loose a0_onTill a0_minutes a0_byKind a0_stands a0_isFull a0_canBe f_a0_st f_a0_w f_a0_r f_a0_longOf f_a0_rowOf f_a0_slot f_a0_doneOf f_a0_tills f_a0_nextOf f_a0_heard f_a0_leads v1 v2
    else
    bnd5 (F_X10_layCalls fu f_a0_st f_a0_w f_a0_r) fun u80_0 u80_1 u80_2 u80_3 u80_4 =>
    if (((7 : Int32) * v2) + (5 : Int32)) < 0 ∨ 142 ≤ ((((7 : Int32) * v2) + (5 : Int32))).toNatClampNeg then none else
    bnd13 (F_X10_comes fu a0_answer u80_0 u80_1 u80_2 u80_3 f_a0_longOf ((upd u80_4 ((((7 : Int32) * v2) + (5 : Int32))).toNatClampNeg (1998 : Int32))) f_a0_rowOf f_a0_slot f_a0_doneOf f_a0_tills f_a0_r f_a0_nextOf f_a0_heard f_a0_leads (0 : Int32)) fun r99 u99_0 u99_1 u99_2 u99_3 u99_4 u99_5 u99_6 u99_7 u99_8 u99_9 u99_10 u99_11 =>
    if r99 = 0 then
      bnd2 (F_X10_no (3 : Int32)) fun r107 u107_0 =>
      some (r107, a0_thrown, u107_0, u99_0, u80_0, u80_1, u80_2, u80_3, u99_1, u99_2, u99_3, a0_canBe, (upd u80_4 ((((7 : Int32) * v2) + (5 : Int32))).toNatClampNeg (1998 : Int32)), u99_4, u99_5, u99_6, u99_7, u99_8, u99_9, u99_10, u99_11)
    else
    if (u99_11 (0 : Int32).toNatClampNeg) = 0 then
      F_X10_mends_b128 (F_X10_mends_b48 fu a0_thrown a0_trouble a0_canBe f_a0_st f_a0_r kf) fu a0_thrown a0_trouble u99_0 u80_0 u80_1 u80_2 u80_3 u99_1 u99_2 u99_3 a0_canBe f_a0_st ((upd u80_4 ((((7 : Int32) * v2) + (5 : Int32))).toNatClampNeg (1998 : Int32))) f_a0_r u99_4 u99_5 u99_6 u99_7 u99_8 u99_9 u99_10 u99_11 v2 (0 : Int32) v1
    else
      F_X10_mends_b128 (F_X10_mends_b48 fu a0_thrown a0_trouble a0_canBe f_a0_st f_a0_r kf) fu a0_thrown a0_trouble u99_0 u80_0 u80_1 u80_2 u80_3 u99_1 u99_2 u99_3 a0_canBe f_a0_st ((upd u80_4 ((((7 : Int32) * v2) + (5 : Int32))).toNatClampNeg (1998 : Int32))) f_a0_r u99_4 u99_5 u99_6 u99_7 u99_8 u99_9 u99_10 u99_11 v2 (((1 : Int32) <<< (v2 &&& 31))) v1
def F_X10_mends (fu : Nat) (a0_hasBook : Int32) (a0_answer : Int32) (a0_there : Int32) (a0_loose : Int32) (a0_onTill : Int32) (a0_minutes : Int32) (a0_byKind : Int32) (a0_stands : Int32) (a0_isFull : Int32) (a0_canBe : Int32) (f_a0_st : Nat → Int32) (f_a0_w : Nat → Int32) (f_a0_r : Nat → Int32) (f_a0_longOf : Nat → Int32) (f_a0_rowOf : Nat → Int32) (f_a0_slot : Nat → Int32) (f_a0_doneOf : Nat → Int32) (f_a0_tills : Nat → Int64) (f_a0_nextOf : Nat → Int32) (f_a0_heard : Nat → Int32) (f_a0_leads : Nat → Int32) : Option (Int32 × Int32 × Int32 × Int32 × Int32 × Int32 × Int32 × Int32 × Int32 × Int32 × Int32 × Int32 × (Nat → Int32) × (Nat → Int32) × (Nat → Int32) × (Nat → Int32) × (Nat → Int32) × (Nat → Int64) × (Nat → Int32) × (Nat → Int32) × (Nat → Int32)) :=
  bnd2 (F_X10_good) fun u1_0 u1_1 =>
  if a0_hasBook = 0 then
    bnd2 (F_X10_no (1 : Int32)) fun r13 u13_0 =>
    some (r13, u1_0, u13_0, a0_answer, a0_there, a0_loose, a0_onTill, a0_minutes, a0_byKind, a0_stands, a0_isFull, a0_canBe, f_a0_w, f_a0_longOf, f_a0_rowOf, f_a0_slot, f_a0_doneOf, f_a0_tills, f_a0_nextOf, f_a0_heard, f_a0_leads)
  else
  bnd19 (F_X10_goes fu a0_answer a0_byKind a0_stands a0_isFull a0_canBe f_a0_st f_a0_w f_a0_r f_a0_longOf f_a0_rowOf f_a0_slot f_a0_doneOf f_a0_tills f_a0_nextOf f_a0_heard f_a0_leads (0 : Int32)) fun r19 u19_0 u19_1 u19_2 u19_3 u19_4 u19_5 u19_6 u19_7 u19_8 u19_9 u19_10 u19_11 u19_12 u19_13 u19_14 u19_15 u19_16 u19_17 =>
  if r19 = 0 then
    bnd2 (F_X10_no (3 : Int32)) fun r27 u27_0 =>
    some (r27, u1_0, u27_0, u19_0, u19_1, u19_2, u19_3, u19_4, u19_5, u19_6, u19_7, u19_8, u19_9, u19_10, u19_11, u19_12, u19_13, u19_14, u19_15, u19_16, u19_17)
  else
  if u19_8 = 0 then
    F_X10_mends_b48 fu u1_0 u1_1 u19_8 f_a0_st f_a0_r fu u19_0 u19_1 u19_2 u19_3 u19_4 u19_5 u19_6 u19_7 u19_9 u19_10 u19_11 u19_12 u19_13 u19_14 u19_15 u19_16 u19_17 (0 : Int32) (0 : Int32)
  else
  bnd2 (F_X10_no (5 : Int32)) fun r40 u40_0 =>
  some (r40, u1_0, u40_0, u19_0, u19_1, u19_2, u19_3, u19_4, u19_5, u19_6, u19_7, u19_8, u19_9, u19_10, u19_11, u19_12, u19_13, u19_14, u19_15, u19_16, u19_17)
def F_X10_enough_b19  (fu : Nat) (a0_thrown : Int32) (a0_trouble : Int32) (f_a0_st : Nat → Int32) (f_a0_r : Nat → Int32) : Nat → Int32 → Int32 → Int32 → Int32 → Int32 → Int32 → Int32 → Int32 → (Nat → Int32) → (Nat → Int32) → (Nat → Int32) → (Nat → Int32) → (Nat → Int32) → (Nat → Int64) → (Nat → Int32) → (Nat → Int32) → (Nat → Int32) → Int32 → Option (Int32 × Int32 × Int32 × Int32 × Int32 × Int32 × Int32 × Int32 × Int32 × Int32 × Int32 × (Nat → Int32) × (Nat → Int32) × (Nat → Int32) × (Nat → Int32) × (Nat → Int32) × (Nat → Int64) × (Nat → Int32) × (Nat → Int32) × (Nat → Int32))
  | 0, _, _, _, _, _, _, _, _, _, _, _, _, _, _, _, _, _, _ => none
  | kf + 1, a0_answer, a0_there, a0_loose, a0_onTill, a0_minutes, a0_byKind, a0_stands, a0_isFull, f_a0_w, f_a0_longOf, f_a0_rowOf, f_a0_slot, f_a0_doneOf, f_a0_tills, f_a0_nextOf, f_a0_heard, f_a0_leads, v1 =>
    if (99 : Int32) < v1 then
      some ((-2 : Int32), a0_thrown, a0_trouble, a0_answer, a0_there, a0_loose, a0_onTill, a0_minutes, a0_byKind, a0_stands, a0_isFull, f_a0_w, f_a0_longOf, f_a0_rowOf, f_a0_slot, f_a0_doneOf, f_a0_tills, f_a0_nextOf, f_a0_heard, f_a0_leads)
    else
    bnd5 (F_X10_layCalls fu f_a0_st f_a0_w f_a0_r) fun u26_0 u26_1 u26_2 u26_3 u26_4 =>
    bnd13 (F_X10_comes fu a0_answer u26_0 u26_1 u26_2 v1 f_a0_longOf u26_4 f_a0_rowOf f_a0_slot f_a0_doneOf f_a0_tills f_a0_r f_a0_nextOf f_a0_heard f_a0_leads (2 : Int32)) fun r36 u36_0 u36_1 u36_2 u36_3 u36_4 u36_5 u36_6 u36_7 u36_8 u36_9 u36_10 u36_11 =>
    if r36 = 0 then
      bnd2 (F_X10_no (3 : Int32)) fun r44 u44_0 =>
      some (r44, a0_thrown, u44_0, u36_0, u26_0, u26_1, u26_2, v1, u36_1, u36_2, u36_3, u26_4, u36_4, u36_5, u36_6, u36_7, u36_8, u36_9, u36_10, u36_11)
    else
    if (u36_11 (0 : Int32).toNatClampNeg) = 0 then
      (F_X10_enough_b19 fu a0_thrown a0_trouble f_a0_st f_a0_r kf) u36_0 u26_0 u26_1 u26_2 v1 u36_1 u36_2 u36_3 u26_4 u36_4 u36_5 u36_6 u36_7 u36_8 u36_9 u36_10 u36_11 ((v1 + (1 : Int32)))
    else
      some (v1, a0_thrown, a0_trouble, u36_0, u26_0, u26_1, u26_2, v1, u36_1, u36_2, u36_3, u26_4, u36_4, u36_5, u36_6, u36_7, u36_8, u36_9, u36_10, u36_11)
def F_X10_enough (fu : Nat) (a0_hasBook : Int32) (a0_answer : Int32) (a0_there : Int32) (a0_loose : Int32) (a0_onTill : Int32) (a0_minutes : Int32) (a0_byKind : Int32) (a0_stands : Int32) (a0_isFull : Int32) (f_a0_st : Nat → Int32) (f_a0_w : Nat → Int32) (f_a0_r : Nat → Int32) (f_a0_longOf : Nat → Int32) (f_a0_rowOf : Nat → Int32) (f_a0_slot : Nat → Int32) (f_a0_doneOf : Nat → Int32) (f_a0_tills : Nat → Int64) (f_a0_nextOf : Nat → Int32) (f_a0_heard : Nat → Int32) (f_a0_leads : Nat → Int32) : Option (Int32 × Int32 × Int32 × Int32 × Int32 × Int32 × Int32 × Int32 × Int32 × Int32 × Int32 × (Nat → Int32) × (Nat → Int32) × (Nat → Int32) × (Nat → Int32) × (Nat → Int32) × (Nat → Int64) × (Nat → Int32) × (Nat → Int32) × (Nat → Int32)) :=
  bnd2 (F_X10_good) fun u1_0 u1_1 =>
  if a0_hasBook = 0 then
    bnd2 (F_X10_no (1 : Int32)) fun r13 u13_0 =>
    some (r13, u1_0, u13_0, a0_answer, a0_there, a0_loose, a0_onTill, a0_minutes, a0_byKind, a0_stands, a0_isFull, f_a0_w, f_a0_longOf, f_a0_rowOf, f_a0_slot, f_a0_doneOf, f_a0_tills, f_a0_nextOf, f_a0_heard, f_a0_leads)
  else
    F_X10_enough_b19 fu u1_0 u1_1 f_a0_st f_a0_r fu a0_answer a0_there a0_loose a0_onTill a0_minutes a0_byKind a0_stands a0_isFull f_a0_w f_a0_longOf f_a0_rowOf f_a0_slot f_a0_doneOf f_a0_tills f_a0_nextOf f_a0_heard f_a0_leads (0 : Int32)
def F_X10_layCould_b169 (k145 : Int32 → Int32 → Option (Int32 × Int32 × Int32 × Int32 × Int32 × Int32 × Int32 × Int32 × Int32 × (Nat → Int32) × (Nat → Int32) × (Nat → Int32) × (Nat → Int32) × (Nat → Int32) × (Nat → Int64) × (Nat → Int32) × (Nat → Int32) × (Nat → Int32) × (Nat → Int32))) (a0_answer : Int32) (a0_there : Int32) (a0_loose : Int32) (a0_onTill : Int32) (a0_minutes : Int32) (a0_byKind : Int32) (a0_stands : Int32) (a0_isFull : Int32) (f_a0_w : Nat → Int32) (f_a0_longOf : Nat → Int32) (f_a0_rowOf : Nat → Int32) (f_a0_slot : Nat → Int32) (f_a0_doneOf : Nat → Int32) (f_a0_tills : Nat → Int64) (f_a0_nextOf : Nat → Int32) (f_a0_heard : Nat → Int32) (f_a0_leads : Nat → Int32) (f_a0_could : Nat → Int32) (v5 : Int32) (t0 : Int32) (t1 : Int32) : Option (Int32 × Int32 × Int32 × Int32 × Int32 × Int32 × Int32 × Int32 × Int32 × (Nat → Int32) × (Nat → Int32) × (Nat → Int32) × (Nat → Int32) × (Nat → Int32) × (Nat → Int64) × (Nat → Int32) × (Nat → Int32) × (Nat → Int32) × (Nat → Int32)) :=
  k145 (t1 + t0) ((v5 + (1 : Int32)))
def F_X10_layCould_b145  (a0_answer : Int32) (a0_there : Int32) (a0_loose : Int32) (a0_onTill : Int32) (a0_minutes : Int32) (a0_byKind : Int32) (a0_stands : Int32) (a0_isFull : Int32) (f_a0_w : Nat → Int32) (f_a0_longOf : Nat → Int32) (f_a0_rowOf : Nat → Int32) (f_a0_slot : Nat → Int32) (f_a0_doneOf : Nat → Int32) (f_a0_tills : Nat → Int64) (f_a0_nextOf : Nat → Int32) (f_a0_heard : Nat → Int32) (f_a0_leads : Nat → Int32) (f_a0_could : Nat → Int32) : Nat → Int32 → Int32 → Option (Int32 × Int32 × Int32 × Int32 × Int32 × Int32 × Int32 × Int32 × Int32 × (Nat → Int32) × (Nat → Int32) × (Nat → Int32) × (Nat → Int32) × (Nat → Int32) × (Nat → Int64) × (Nat → Int32) × (Nat → Int32) × (Nat → Int32) × (Nat → Int32))
  | 0, _, _ => none
  | kf + 1, v4, v5 =>
    if (99 : Int32) < v5 then
      some (v4, a0_answer, a0_there, a0_loose, a0_onTill, a0_minutes, a0_byKind, a0_stands, a0_isFull, f_a0_w, f_a0_longOf, f_a0_rowOf, f_a0_slot, f_a0_doneOf, f_a0_tills, f_a0_nextOf, f_a0_heard, f_a0_leads, f_a0_could)
    else
    if v5 < 0 ∨ 100 ≤ v5.toNatClampNeg then none else
    if (f_a0_could v5.toNatClampNeg) = 0 then
      F_X10_layCould_b169 (F_X10_layCould_b145 a0_answer a0_there a0_loose a0_onTill a0_minutes a0_byKind a0_stands a0_isFull f_a0_w f_a0_longOf f_a0_rowOf f_a0_slot f_a0_doneOf f_a0_tills f_a0_nextOf f_a0_heard f_a0_leads f_a0_could kf) a0_answer a0_there a0_loose a0_onTill a0_minutes a0_byKind a0_stands a0_isFull f_a0_w f_a0_longOf f_a0_rowOf f_a0_slot f_a0_doneOf f_a0_tills f_a0_nextOf f_a0_heard f_a0_leads f_a0_could v5 (0 : Int32) v4
    else
      F_X10_layCould_b169 (F_X10_layCould_b145 a0_answer a0_there a0_loose a0_onTill a0_minutes a0_byKind a0_stands a0_isFull f_a0_w f_a0_longOf f_a0_rowOf f_a0_slot f_a0_doneOf f_a0_tills f_a0_nextOf f_a0_heard f_a0_leads f_a0_could kf) a0_answer a0_there a0_loose a0_onTill a0_minutes a0_byKind a0_stands a0_isFull f_a0_w f_a0_longOf f_a0_rowOf f_a0_slot f_a0_doneOf f_a0_tills f_a0_nextOf f_a0_heard f_a0_leads f_a0_could v5 (1 : Int32) v4
def F_X10_layCould_b133 (k57 : (Nat → Int32) → Int32 → Option (Int32 × Int32 × Int32 × Int32 × Int32 × Int32 × Int32 × Int32 × Int32 × (Nat → Int32) × (Nat → Int32) × (Nat → Int32) × (Nat → Int32) × (Nat → Int32) × (Nat → Int64) × (Nat → Int32) × (Nat → Int32) × (Nat → Int32) × (Nat → Int32))) (fu : Nat) (a0_answer : Int32) (a0_there : Int32) (a0_loose : Int32) (a0_onTill : Int32) (a0_minutes : Int32) (a0_byKind : Int32) (a0_stands : Int32) (a0_isFull : Int32) (f_a0_w : Nat → Int32) (f_a0_longOf : Nat → Int32) (f_a0_rowOf : Nat → Int32) (f_a0_slot : Nat → Int32) (f_a0_doneOf : Nat → Int32) (f_a0_tills : Nat → Int64) (f_a0_nextOf : Nat → Int32) (f_a0_heard : Nat → Int32) (f_a0_leads : Nat → Int32) (f_a0_could : Nat → Int32) (v2 : Int32) (v3 : Int32) (v4 : Int32) : Option (Int32 × Int32 × Int32 × Int32 × Int32 × Int32 × Int32 × Int32 × Int32 × (Nat → Int32) × (Nat → Int32) × (Nat → Int32) × (Nat → Int32) × (Nat → Int32) × (Nat → Int64) × (Nat → Int32) × (Nat → Int32) × (Nat → Int32) × (Nat → Int32)) :=
  k57 f_a0_could ((v4 + (1 : Int32)))
def F_X10_layCould_b57  (fu : Nat) (a0_answer : Int32) (a0_there : Int32) (a0_loose : Int32) (a0_onTill : Int32) (a0_minutes : Int32) (a0_byKind : Int32) (a0_stands : Int32) (a0_isFull : Int32) (f_a0_w : Nat → Int32) (f_a0_longOf : Nat → Int32) (f_a0_rowOf : Nat → Int32) (f_a0_slot : Nat → Int32) (f_a0_doneOf : Nat → Int32) (f_a0_tills : Nat → Int64) (f_a0_nextOf : Nat → Int32) (f_a0_heard : Nat → Int32) (f_a0_leads : Nat → Int32) (v2 : Int32) (v3 : Int32) : Nat → (Nat → Int32) → Int32 → Option (Int32 × Int32 × Int32 × Int32 × Int32 × Int32 × Int32 × Int32 × Int32 × (Nat → Int32) × (Nat → Int32) × (Nat → Int32) × (Nat → Int32) × (Nat → Int32) × (Nat → Int64) × (Nat → Int32) × (Nat → Int32) × (Nat → Int32) × (Nat → Int32))
  | 0, _, _ => none
  | kf + 1, f_a0_could, v4 =>
    if a0_stands ≤ v4 then
      F_X10_layCould_b145 a0_answer a0_there a0_loose a0_onTill a0_minutes a0_byKind a0_stands a0_isFull f_a0_w f_a0_longOf f_a0_rowOf f_a0_slot f_a0_doneOf f_a0_tills f_a0_nextOf f_a0_heard f_a0_leads f_a0_could fu (0 : Int32) (0 : Int32)
    else
    if (((4 : Int32) * v4) + v3) < 0 ∨ 24004 ≤ ((((4 : Int32) * v4) + v3)).toNatClampNeg then none else
    if (f_a0_nextOf ((((4 : Int32) * v4) + v3)).toNatClampNeg) < 0 then
      F_X10_layCould_b133 (F_X10_layCould_b57 fu a0_answer a0_there a0_loose a0_onTill a0_minutes a0_byKind a0_stands a0_isFull f_a0_w f_a0_longOf f_a0_rowOf f_a0_slot f_a0_doneOf f_a0_tills f_a0_nextOf f_a0_heard f_a0_leads v2 v3 kf) fu a0_answer a0_there a0_loose a0_onTill a0_minutes a0_byKind a0_stands a0_isFull f_a0_w f_a0_longOf f_a0_rowOf f_a0_slot f_a0_doneOf f_a0_tills f_a0_nextOf f_a0_heard f_a0_leads f_a0_could v2 v3 v4
    else
    if (((4 : Int32) * v4) + v3) < 0 ∨ 24004 ≤ ((((4 : Int32) * v4) + v3)).toNatClampNeg then none else
    if (f_a0_nextOf ((((4 : Int32) * v4) + v3)).toNatClampNeg) < 0 ∨ 6001 ≤ ((f_a0_nextOf ((((4 : Int32) * v4) + v3)).toNatClampNeg)).toNatClampNeg then none else
    if (f_a0_leads ((f_a0_nextOf ((((4 : Int32) * v4) + v3)).toNatClampNeg)).toNatClampNeg) = 0 then
      F_X10_layCould_b133 (F_X10_layCould_b57 fu a0_answer a0_there a0_loose a0_onTill a0_minutes a0_byKind a0_stands a0_isFull f_a0_w f_a0_longOf f_a0_rowOf f_a0_slot f_a0_doneOf f_a0_tills f_a0_nextOf f_a0_heard f_a0_leads v2 v3 kf) fu a0_answer a0_there a0_loose a0_onTill a0_minutes a0_byKind a0_stands a0_isFull f_a0_w f_a0_longOf f_a0_rowOf f_a0_slot f_a0_doneOf f_a0_tills f_a0_nextOf f_a0_heard f_a0_leads f_a0_could v2 v3 v4
    else
    if (((4 : Int32) * v4) + v3) < 0 ∨ 24004 ≤ ((((4 : Int32) * v4) + v3)).toNatClampNeg then none else
    if (((20 : Int32) * v3) + (f_a0_doneOf ((((4 : Int32) * v4) + v3)).toNatClampNeg)) < 0 ∨ 80 ≤ ((((20 : Int32) * v3) + (f_a0_doneOf ((((4 : Int32) * v4) + v3)).toNatClampNeg))).toNatClampNeg then none else
    if (f_a0_rowOf ((((20 : Int32) * v3) + (f_a0_doneOf ((((4 : Int32) * v4) + v3)).toNatClampNeg))).toNatClampNeg) = v2 then
      if (((4 : Int32) * v4) + v3) < 0 ∨ 24004 ≤ ((((4 : Int32) * v4) + v3)).toNatClampNeg then none else
      if (f_a0_heard ((((4 : Int32) * v4) + v3)).toNatClampNeg) < 0 ∨ 100 ≤ ((f_a0_heard ((((4 : Int32) * v4) + v3)).toNatClampNeg)).toNatClampNeg then none else
      F_X10_layCould_b133 (F_X10_layCould_b57 fu a0_answer a0_there a0_loose a0_onTill a0_minutes a0_byKind a0_stands a0_isFull f_a0_w f_a0_longOf f_a0_rowOf f_a0_slot f_a0_doneOf f_a0_tills f_a0_nextOf f_a0_heard f_a0_leads v2 v3 kf) fu a0_answer a0_there a0_loose a0_onTill a0_minutes a0_byKind a0_stands a0_isFull f_a0_w f_a0_longOf f_a0_rowOf f_a0_slot f_a0_doneOf f_a0_tills f_a0_nextOf f_a0_heard f_a0_leads ((upd f_a0_could ((f_a0_heard ((((4 : Int32) * v4) + v3)).toNatClampNeg)).toNatClampNeg (vp_nar .boolean (1 : Int32)))) v2 v3 v4
    else
      F_X10_layCould_b133 (F_X10_layCould_b57 fu a0_answer a0_there a0_loose a0_onTill a0_minutes a0_byKind a0_stands a0_isFull f_a0_w f_a0_longOf f_a0_rowOf f_a0_slot f_a0_doneOf f_a0_tills f_a0_nextOf f_a0_heard f_a0_leads v2 v3 kf) fu a0_answer a0_there a0_loose a0_onTill a0_minutes a0_byKind a0_stands a0_isFull f_a0_w f_a0_longOf f_a0_rowOf f_a0_slot f_a0_doneOf f_a0_tills f_a0_nextOf f_a0_heard f_a0_leads f_a0_could v2 v3 v4
def F_X10_layCould_b23  (fu : Nat) (a0_answer : Int32) (a0_there : Int32) (a0_loose : Int32) (a0_onTill : Int32) (a0_minutes : Int32) (a0_byKind : Int32) (a0_stands : Int32) (a0_isFull : Int32) (f_a0_w : Nat → Int32) (f_a0_longOf : Nat → Int32) (f_a0_rowOf : Nat → Int32) (f_a0_slot : Nat → Int32) (f_a0_doneOf : Nat → Int32) (f_a0_tills : Nat → Int64) (f_a0_nextOf : Nat → Int32) (f_a0_heard : Nat → Int32) (f_a0_leads : Nat → Int32) (v2 : Int32) : Nat → (Nat → Int32) → Int32 → Option (Int32 × Int32 × Int32 × Int32 × Int32 × Int32 × Int32 × Int32 × Int32 × (Nat → Int32) × (Nat → Int32) × (Nat → Int32) × (Nat → Int32) × (Nat → Int32) × (Nat → Int64) × (Nat → Int32) × (Nat → Int32) × (Nat → Int32) × (Nat → Int32))
  | 0, _, _ => none
  | kf + 1, f_a0_could, v3 =>
    if (99 : Int32) < v3 then
      if (((7 : Int32) * v2) + (0 : Int32)) < 0 ∨ 142 ≤ ((((7 : Int32) * v2) + (0 : Int32))).toNatClampNeg then none else
      F_X10_layCould_b57 fu a0_answer a0_there a0_loose a0_onTill a0_minutes a0_byKind a0_stands a0_isFull f_a0_w f_a0_longOf f_a0_rowOf f_a0_slot f_a0_doneOf f_a0_tills f_a0_nextOf f_a0_heard f_a0_leads v2 ((f_a0_w ((((7 : Int32) * v2) + (0 : Int32))).toNatClampNeg)) fu f_a0_could (0 : Int32)
    else
    if v3 < 0 ∨ 100 ≤ v3.toNatClampNeg then none else
    (F_X10_layCould_b23 fu a0_answer a0_there a0_loose a0_onTill a0_minutes a0_byKind a0_stands a0_isFull f_a0_w f_a0_longOf f_a0_rowOf f_a0_slot f_a0_doneOf f_a0_tills f_a0_nextOf f_a0_heard f_a0_leads v2 kf) ((upd f_a0_could v3.toNatClampNeg (vp_nar .boolean (0 : Int32)))) ((v3 + (1 : Int32)))
def F_X10_layCould (fu : Nat) (a0_answer : Int32) (f_a0_st : Nat → Int32) (f_a0_w : Nat → Int32) (f_a0_r : Nat → Int32) (f_a0_longOf : Nat → Int32) (f_a0_rowOf : Nat → Int32) (f_a0_slot : Nat → Int32) (f_a0_doneOf : Nat → Int32) (f_a0_tills : Nat → Int64) (f_a0_nextOf : Nat → Int32) (f_a0_heard : Nat → Int32) (f_a0_leads : Nat → Int32) (f_a0_could : Nat → Int32) (v1 : Int32) (v2 : Int32) : Option (Int32 × Int32 × Int32 × Int32 × Int32 × Int32 × Int32 × Int32 × Int32 × (Nat → Int32) × (Nat → Int32) × (Nat → Int32) × (Nat → Int32) × (Nat → Int32) × (Nat → Int64) × (Nat → Int32) × (Nat → Int32) × (Nat → Int32) × (Nat → Int32)) :=
  bnd5 (F_X10_layCalls fu f_a0_st f_a0_w f_a0_r) fun u1_0 u1_1 u1_2 u1_3 u1_4 =>
  bnd13 (F_X10_comes fu a0_answer u1_0 (((1 : Int32) <<< (v2 &&& 31))) u1_2 u1_3 f_a0_longOf u1_4 f_a0_rowOf f_a0_slot f_a0_doneOf f_a0_tills f_a0_r f_a0_nextOf f_a0_heard f_a0_leads v1) fun r13 u13_0 u13_1 u13_2 u13_3 u13_4 u13_5 u13_6 u13_7 u13_8 u13_9 u13_10 u13_11 =>
  if r13 = 0 then
    some ((-1 : Int32), u13_0, u1_0, ((1 : Int32) <<< (v2 &&& 31)), u1_2, u1_3, u13_1, u13_2, u13_3, u1_4, u13_4, u13_5, u13_6, u13_7, u13_8, u13_9, u13_10, u13_11, f_a0_could)
  else
    F_X10_layCould_b23 fu u13_0 u1_0 (((1 : Int32) <<< (v2 &&& 31))) u1_2 u1_3 u13_1 u13_2 u13_3 u1_4 u13_4 u13_5 u13_6 u13_7 u13_8 u13_9 u13_10 u13_11 v2 fu f_a0_could (0 : Int32)
def F_X10_could_b21  (a0_thrown : Int32) (a0_answer : Int32) (a0_there : Int32) (a0_loose : Int32) (a0_onTill : Int32) (a0_minutes : Int32) (a0_byKind : Int32) (a0_stands : Int32) (a0_isFull : Int32) (f_a0_w : Nat → Int32) (f_a0_longOf : Nat → Int32) (f_a0_rowOf : Nat → Int32) (f_a0_slot : Nat → Int32) (f_a0_doneOf : Nat → Int32) (f_a0_tills : Nat → Int64) (f_a0_nextOf : Nat → Int32) (f_a0_heard : Nat → Int32) (f_a0_leads : Nat → Int32) (f_a0_could : Nat → Int32) : Option (Int32 × Int32 × Int32 × Int32 × Int32 × Int32 × Int32 × Int32 × Int32 × Int32 × Int32 × (Nat → Int32) × (Nat → Int32) × (Nat → Int32) × (Nat → Int32) × (Nat → Int32) × (Nat → Int64) × (Nat → Int32) × (Nat → Int32) × (Nat → Int32) × (Nat → Int32)) :=
  bnd2 (F_X10_no (1 : Int32)) fun r23 u23_0 =>
  some (r23, a0_thrown, u23_0, a0_answer, a0_there, a0_loose, a0_onTill, a0_minutes, a0_byKind, a0_stands, a0_isFull, f_a0_w, f_a0_longOf, f_a0_rowOf, f_a0_slot, f_a0_doneOf, f_a0_tills, f_a0_nextOf, f_a0_heard, f_a0_leads, f_a0_could)
def F_X10_could (fu : Nat) (a0_hasBook : Int32) (a0_answer : Int32) (a0_there : Int32) (a0_loose : Int32) (a0_onTill : Int32) (a0_minutes : Int32) (a0_byKind : Int32) (a0_stands : Int32) (a0_isFull : Int32) (f_a0_st : Nat → Int32) (f_a0_w : Nat → Int32) (f_a0_r : Nat → Int32) (f_a0_longOf : Nat → Int32) (f_a0_rowOf : Nat → Int32) (f_a0_slot : Nat → Int32) (f_a0_doneOf : Nat → Int32) (f_a0_tills : Nat → Int64) (f_a0_nextOf : Nat → Int32) (f_a0_heard : Nat → Int32) (f_a0_leads : Nat → Int32) (f_a0_could : Nat → Int32) (v1 : Int32) (v2 : Int32) : Option (Int32 × Int32 × Int32 × Int32 × Int32 × Int32 × Int32 × Int32 × Int32 × Int32 × Int32 × (Nat → Int32) × (Nat → Int32) × (Nat → Int32) × (Nat → Int32) × (Nat → Int32) × (Nat → Int64) × (Nat → Int32) × (Nat → Int32) × (Nat → Int32) × (Nat → Int32)) :=
  bnd2 (F_X10_good) fun u1_0 u1_1 =>
  bnd1 (F_X10_isKind a0_hasBook v1 (2 : Int32)) fun r7 =>
  if r7 = 0 then
    F_X10_could_b21 u1_0 a0_answer a0_there a0_loose a0_onTill a0_minutes a0_byKind a0_stands a0_isFull f_a0_w f_a0_longOf f_a0_rowOf f_a0_slot f_a0_doneOf f_a0_tills f_a0_nextOf f_a0_heard f_a0_leads f_a0_could
  else
  bnd1 (F_X10_isCall a0_hasBook f_a0_st v2) fun r15 =>
  if r15 = 0 then
    F_X10_could_b21 u1_0 a0_answer a0_there a0_loose a0_onTill a0_minutes a0_byKind a0_stands a0_isFull f_a0_w f_a0_longOf f_a0_rowOf f_a0_slot f_a0_doneOf f_a0_tills f_a0_nextOf f_a0_heard f_a0_leads f_a0_could
  else
  bnd19 (F_X10_layCould fu a0_answer f_a0_st f_a0_w f_a0_r f_a0_longOf f_a0_rowOf f_a0_slot f_a0_doneOf f_a0_tills f_a0_nextOf f_a0_heard f_a0_leads f_a0_could v1 v2) fun r30 u30_0 u30_1 u30_2 u30_3 u30_4 u30_5 u30_6 u30_7 u30_8 u30_9 u30_10 u30_11 u30_12 u30_13 u30_14 u30_15 u30_16 u30_17 =>
  if 0 ≤ r30 then
    some (r30, u1_0, u1_1, u30_0, u30_1, u30_2, u30_3, u30_4, u30_5, u30_6, u30_7, u30_8, u30_9, u30_10, u30_11, u30_12, u30_13, u30_14, u30_15, u30_16, u30_17)
  else
  bnd2 (F_X10_no (3 : Int32)) fun r40 u40_0 =>
  some (r40, u1_0, u40_0, u30_0, u30_1, u30_2, u30_3, u30_4, u30_5, u30_6, u30_7, u30_8, u30_9, u30_10, u30_11, u30_12, u30_13, u30_14, u30_15, u30_16, u30_17)
def F_X10_couldTell_b89 (k68 : Int32 → Option (Int32 × Int32 × Int32 × Int32 × Int32 × Int32 × Int32 × Int32 × Int32 × Int32 × Int32 × (Nat → Int32) × (Nat → Int32) × (Nat → Int32) × (Nat → Int32) × (Nat → Int32) × (Nat → Int64) × (Nat → Int32) × (Nat → Int32) × (Nat → Int32) × (Nat → Int32))) (a0_thrown : Int32) (a0_trouble : Int32) (a0_answer : Int32) (a0_there : Int32) (a0_loose : Int32) (a0_onTill : Int32) (a0_minutes : Int32) (a0_byKind : Int32) (a0_stands : Int32) (a0_isFull : Int32) (f_a0_w : Nat → Int32) (f_a0_longOf : Nat → Int32) (f_a0_rowOf : Nat → Int32) (f_a0_slot : Nat → Int32) (f_a0_doneOf : Nat → Int32) (f_a0_tills : Nat → Int64) (f_a0_nextOf : Nat → Int32) (f_a0_heard : Nat → Int32) (f_a0_leads : Nat → Int32) (f_a0_could : Nat → Int32) (v3 : Int32) (t0 : Int32) (t1 : Int32) : Option (Int32 × Int32 × Int32 × Int32 × Int32 × Int32 × Int32 × Int32 × Int32 × Int32 × Int32 × (Nat → Int32) × (Nat → Int32) × (Nat → Int32) × (Nat → Int32) × (Nat → Int32) × (Nat → Int64) × (Nat → Int32) × (Nat → Int32) × (Nat → Int32) × (Nat → Int32)) :=
  k68 (t1 + t0)
def F_X10_couldTell_b68  (a0_thrown : Int32) (a0_trouble : Int32) (a0_answer : Int32) (a0_there : Int32) (a0_loose : Int32) (a0_onTill : Int32) (a0_minutes : Int32) (a0_byKind : Int32) (a0_stands : Int32) (a0_isFull : Int32) (f_a0_w : Nat → Int32) (f_a0_longOf : Nat → Int32) (f_a0_rowOf : Nat → Int32) (f_a0_slot : Nat → Int32) (f_a0_doneOf : Nat → Int32) (f_a0_tills : Nat → Int64) (f_a0_nextOf : Nat → Int32) (f_a0_heard : Nat → Int32) (f_a0_leads : Nat → Int32) (f_a0_could : Nat → Int32) (v3 : Int32) : Nat → Int32 → Option (Int32 × Int32 × Int32 × Int32 × Int32 × Int32 × Int32 × Int32 × Int32 × Int32 × Int32 × (Nat → Int32) × (Nat → Int32) × (Nat → Int32) × (Nat → Int32) × (Nat → Int32) × (Nat → Int64) × (Nat → Int32) × (Nat → Int32) × (Nat → Int32) × (Nat → Int32))
  | 0, _ => none
  | kf + 1, v5 =>
    if v5 < 0 ∨ 100 ≤ v5.toNatClampNeg then none else
    if (f_a0_could v5.toNatClampNeg) = 0 then
      if v3 = 0 then
        F_X10_couldTell_b89 (F_X10_couldTell_b68 a0_thrown a0_trouble a0_answer a0_there a0_loose a0_onTill a0_minutes a0_byKind a0_stands a0_isFull f_a0_w f_a0_longOf f_a0_rowOf f_a0_slot f_a0_doneOf f_a0_tills f_a0_nextOf f_a0_heard f_a0_leads f_a0_could v3 kf) a0_thrown a0_trouble a0_answer a0_there a0_loose a0_onTill a0_minutes a0_byKind a0_stands a0_isFull f_a0_w f_a0_longOf f_a0_rowOf f_a0_slot f_a0_doneOf f_a0_tills f_a0_nextOf f_a0_heard f_a0_leads f_a0_could v3 (1 : Int32) v5
      else
        F_X10_couldTell_b89 (F_X10_couldTell_b68 a0_thrown a0_trouble a0_answer a0_there a0_loose a0_onTill a0_minutes a0_byKind a0_stands a0_isFull f_a0_w f_a0_longOf f_a0_rowOf f_a0_slot f_a0_doneOf f_a0_tills f_a0_nextOf f_a0_heard f_a0_leads f_a0_could v3 kf) a0_thrown a0_trouble a0_answer a0_there a0_loose a0_onTill a0_minutes a0_byKind a0_stands a0_isFull f_a0_w f_a0_longOf f_a0_rowOf f_a0_slot f_a0_doneOf f_a0_tills f_a0_nextOf f_a0_heard f_a0_leads f_a0_could v3 (-1 : Int32) v5
    else
      some (v5, a0_thrown, a0_trouble, a0_answer, a0_there, a0_loose, a0_onTill, a0_minutes, a0_byKind, a0_stands, a0_isFull, f_a0_w, f_a0_longOf, f_a0_rowOf, f_a0_slot, f_a0_doneOf, f_a0_tills, f_a0_nextOf, f_a0_heard, f_a0_leads, f_a0_could)
def F_X10_couldTell_b66  (fu : Nat) (a0_thrown : Int32) (a0_trouble : Int32) (a0_answer : Int32) (a0_there : Int32) (a0_loose : Int32) (a0_onTill : Int32) (a0_minutes : Int32) (a0_byKind : Int32) (a0_stands : Int32) (a0_isFull : Int32) (f_a0_w : Nat → Int32) (f_a0_longOf : Nat → Int32) (f_a0_rowOf : Nat → Int32) (f_a0_slot : Nat → Int32) (f_a0_doneOf : Nat → Int32) (f_a0_tills : Nat → Int64) (f_a0_nextOf : Nat → Int32) (f_a0_heard : Nat → Int32) (f_a0_leads : Nat → Int32) (f_a0_could : Nat → Int32) (v3 : Int32) (t0 : Int32) : Option (Int32 × Int32 × Int32 × Int32 × Int32 × Int32 × Int32 × Int32 × Int32 × Int32 × Int32 × (Nat → Int32) × (Nat → Int32) × (Nat → Int32) × (Nat → Int32) × (Nat → Int32) × (Nat → Int64) × (Nat → Int32) × (Nat → Int32) × (Nat → Int32) × (Nat → Int32)) :=
  F_X10_couldTell_b68 a0_thrown a0_trouble a0_answer a0_there a0_loose a0_onTill a0_minutes a0_byKind a0_stands a0_isFull f_a0_w f_a0_longOf f_a0_rowOf f_a0_slot f_a0_doneOf f_a0_tills f_a0_nextOf f_a0_heard f_a0_leads f_a0_could v3 fu t0
def F_X10_couldTell_b52  (a0_thrown : Int32) (a0_answer : Int32) (a0_there : Int32) (a0_loose : Int32) (a0_onTill : Int32) (a0_minutes : Int32) (a0_byKind : Int32) (a0_stands : Int32) (a0_isFull : Int32) (f_a0_w : Nat → Int32) (f_a0_longOf : Nat → Int32) (f_a0_rowOf : Nat → Int32) (f_a0_slot : Nat → Int32) (f_a0_doneOf : Nat → Int32) (f_a0_tills : Nat → Int64) (f_a0_nextOf : Nat → Int32) (f_a0_heard : Nat → Int32) (f_a0_leads : Nat → Int32) (f_a0_could : Nat → Int32) (t0 : Int32) : Option (Int32 × Int32 × Int32 × Int32 × Int32 × Int32 × Int32 × Int32 × Int32 × Int32 × Int32 × (Nat → Int32) × (Nat → Int32) × (Nat → Int32) × (Nat → Int32) × (Nat → Int32) × (Nat → Int64) × (Nat → Int32) × (Nat → Int32) × (Nat → Int32) × (Nat → Int32)) :=
  bnd2 (F_X10_no t0) fun r52 u52_0 =>
  some (r52, a0_thrown, u52_0, a0_answer, a0_there, a0_loose, a0_onTill, a0_minutes, a0_byKind, a0_stands, a0_isFull, f_a0_w, f_a0_longOf, f_a0_rowOf, f_a0_slot, f_a0_doneOf, f_a0_tills, f_a0_nextOf, f_a0_heard, f_a0_leads, f_a0_could)
def F_X10_couldTell_b21  (a0_thrown : Int32) (a0_answer : Int32) (a0_there : Int32) (a0_loose : Int32) (a0_onTill : Int32) (a0_minutes : Int32) (a0_byKind : Int32) (a0_stands : Int32) (a0_isFull : Int32) (f_a0_w : Nat → Int32) (f_a0_longOf : Nat → Int32) (f_a0_rowOf : Nat → Int32) (f_a0_slot : Nat → Int32) (f_a0_doneOf : Nat → Int32) (f_a0_tills : Nat → Int64) (f_a0_nextOf : Nat → Int32) (f_a0_heard : Nat → Int32) (f_a0_leads : Nat → Int32) (f_a0_could : Nat → Int32) : Option (Int32 × Int32 × Int32 × Int32 × Int32 × Int32 × Int32 × Int32 × Int32 × Int32 × Int32 × (Nat → Int32) × (Nat → Int32) × (Nat → Int32) × (Nat → Int32) × (Nat → Int32) × (Nat → Int64) × (Nat → Int32) × (Nat → Int32) × (Nat → Int32) × (Nat → Int32)) :=
  bnd2 (F_X10_no (1 : Int32)) fun r23 u23_0 =>
  some (r23, a0_thrown, u23_0, a0_answer, a0_there, a0_loose, a0_onTill, a0_minutes, a0_byKind, a0_stands, a0_isFull, f_a0_w, f_a0_longOf, f_a0_rowOf, f_a0_slot, f_a0_doneOf, f_a0_tills, f_a0_nextOf, f_a0_heard, f_a0_leads, f_a0_could)
def F_X10_couldTell (fu : Nat) (a0_hasBook : Int32) (a0_answer : Int32) (a0_there : Int32) (a0_loose : Int32) (a0_onTill : Int32) (a0_minutes : Int32) (a0_byKind : Int32) (a0_stands : Int32) (a0_isFull : Int32) (f_a0_st : Nat → Int32) (f_a0_w : Nat → Int32) (f_a0_r : Nat → Int32) (f_a0_longOf : Nat → Int32) (f_a0_rowOf : Nat → Int32) (f_a0_slot : Nat → Int32) (f_a0_doneOf : Nat → Int32) (f_a0_tills : Nat → Int64) (f_a0_nextOf : Nat → Int32) (f_a0_heard : Nat → Int32) (f_a0_leads : Nat → Int32) (f_a0_could : Nat → Int32) (v1 : Int32) (v2 : Int32) (v3 : Int32) : Option (Int32 × Int32 × Int32 × Int32 × Int32 × Int32 × Int32 × Int32 × Int32 × Int32 × Int32 × (Nat → Int32) × (Nat → Int32) × (Nat → Int32) × (Nat → Int32) × (Nat → Int32) × (Nat → Int64) × (Nat → Int32) × (Nat → Int32) × (Nat → Int32) × (Nat → Int32)) :=
  bnd2 (F_X10_good) fun u1_0 u1_1 =>
  bnd1 (F_X10_isKind a0_hasBook v1 (2 : Int32)) fun r7 =>
  if r7 = 0 then
    F_X10_couldTell_b21 u1_0 a0_answer a0_there a0_loose a0_onTill a0_minutes a0_byKind a0_stands a0_isFull f_a0_w f_a0_longOf f_a0_rowOf f_a0_slot f_a0_doneOf f_a0_tills f_a0_nextOf f_a0_heard f_a0_leads f_a0_could
  else
  bnd1 (F_X10_isCall a0_hasBook f_a0_st v2) fun r15 =>
  if r15 = 0 then
    F_X10_couldTell_b21 u1_0 a0_answer a0_there a0_loose a0_onTill a0_minutes a0_byKind a0_stands a0_isFull f_a0_w f_a0_longOf f_a0_rowOf f_a0_slot f_a0_doneOf f_a0_tills f_a0_nextOf f_a0_heard f_a0_leads f_a0_could
  else
  bnd19 (F_X10_layCould fu a0_answer f_a0_st f_a0_w f_a0_r f_a0_longOf f_a0_rowOf f_a0_slot f_a0_doneOf f_a0_tills f_a0_nextOf f_a0_heard f_a0_leads f_a0_could v1 v2) fun r30 u30_0 u30_1 u30_2 u30_3 u30_4 u30_5 u30_6 u30_7 u30_8 u30_9 u30_10 u30_11 u30_12 u30_13 u30_14 u30_15 u30_16 u30_17 =>
  if 0 < r30 then
    if v3 = 0 then
      F_X10_couldTell_b66 fu u1_0 u1_1 u30_0 u30_1 u30_2 u30_3 u30_4 u30_5 u30_6 u30_7 u30_8 u30_9 u30_10 u30_11 u30_12 u30_13 u30_14 u30_15 u30_16 u30_17 v3 (0 : Int32)
    else
      F_X10_couldTell_b66 fu u1_0 u1_1 u30_0 u30_1 u30_2 u30_3 u30_4 u30_5 u30_6 u30_7 u30_8 u30_9 u30_10 u30_11 u30_12 u30_13 u30_14 u30_15 u30_16 u30_17 v3 (99 : Int32)
  else
  if 0 ≤ r30 then
    F_X10_couldTell_b52 u1_0 u30_0 u30_1 u30_2 u30_3 u30_4 u30_5 u30_6 u30_7 u30_8 u30_9 u30_10 u30_11 u30_12 u30_13 u30_14 u30_15 u30_16 u30_17 (6 : Int32)
  else
    F_X10_couldTell_b52 u1_0 u30_0 u30_1 u30_2 u30_3 u30_4 u30_5 u30_6 u30_7 u30_8 u30_9 u30_10 u30_11 u30_12 u30_13 u30_14 u30_15 u30_16 u30_17 (3 : Int32)
def F_X10_seed (a0_hasBook : Int32) (f_a0_st : Nat → Int32) (v1 : Int32) : Option (Int32 × Int32 × Int32 × (Nat → Int32)) :=
  bnd2 (F_X10_good) fun u1_0 u1_1 =>
  if a0_hasBook = 0 then
    bnd2 (F_X10_isNot (1 : Int32)) fun r13 u13_0 =>
    if ¬ (r13 = 0 ∨ r13 = 1) then none else
    some (r13, u1_0, u13_0, f_a0_st)
  else
  bnd1 (F_X10_within v1 (0 : Int32) (65536 : Int32)) fun r22 =>
  if r22 = 0 then
    bnd2 (F_X10_isNot (2 : Int32)) fun r30 u30_0 =>
    if ¬ (r30 = 0 ∨ r30 = 1) then none else
    some (r30, u1_0, u30_0, f_a0_st)
  else
    some ((1 : Int32), u1_0, u1_1, (upd f_a0_st (140 : Int32).toNatClampNeg v1))
def F_X10_draw (f_a0_st : Nat → Int32) (v1 : Int32) : Option (Int32 × (Nat → Int32)) :=
  if v1 = 0 then none else
  some (((((upd f_a0_st (140 : Int32).toNatClampNeg ((((75 : Int32) * (f_a0_st (140 : Int32).toNatClampNeg)) + (74 : Int32)) - (((75 : Int32) * (f_a0_st (140 : Int32).toNatClampNeg)) + (74 : Int32)) / (65537 : Int32) * (65537 : Int32)))) (140 : Int32).toNatClampNeg) - (((upd f_a0_st (140 : Int32).toNatClampNeg ((((75 : Int32) * (f_a0_st (140 : Int32).toNatClampNeg)) + (74 : Int32)) - (((75 : Int32) * (f_a0_st (140 : Int32).toNatClampNeg)) + (74 : Int32)) / (65537 : Int32) * (65537 : Int32)))) (140 : Int32).toNatClampNeg) / v1 * v1), (upd f_a0_st (140 : Int32).toNatClampNeg ((((75 : Int32) * (f_a0_st (140 : Int32).toNatClampNeg)) + (74 : Int32)) - (((75 : Int32) * (f_a0_st (140 : Int32).toNatClampNeg)) + (74 : Int32)) / (65537 : Int32) * (65537 : Int32))))
def F_X10_doIt (fu : Nat) (f_a0_st : Nat → Int32) (f_a0_r : Nat → Int32) (f_a0_machine : Nat → Int64) (v1 : Int32) (v2 : Int32) : Option (Int32 × Int32 × (Nat → Int64)) :=
  if (((7 : Int32) * v2) + (1 : Int32)) < 0 ∨ 142 ≤ ((((7 : Int32) * v2) + (1 : Int32))).toNatClampNeg then none else
  if ((3 : Int32) + (f_a0_st ((((7 : Int32) * v2) + (1 : Int32))).toNatClampNeg)) < 0 ∨ 70 ≤ (((3 : Int32) + (f_a0_st ((((7 : Int32) * v2) + (1 : Int32))).toNatClampNeg))).toNatClampNeg then none else
  if (((3 : Int32) * v1) + (f_a0_st ((((7 : Int32) * v2) + (1 : Int32))).toNatClampNeg)) < 0 ∨ 15 ≤ ((((3 : Int32) * v1) + (f_a0_st ((((7 : Int32) * v2) + (1 : Int32))).toNatClampNeg))).toNatClampNeg then none else
  if (((7 : Int32) * v2) + (2 : Int32)) < 0 ∨ 142 ≤ ((((7 : Int32) * v2) + (2 : Int32))).toNatClampNeg then none else
  if (((7 : Int32) * v2) + (3 : Int32)) < 0 ∨ 142 ≤ ((((7 : Int32) * v2) + (3 : Int32))).toNatClampNeg then none else
  bnd2 (F_X10_done fu ((f_a0_r (((3 : Int32) + (f_a0_st ((((7 : Int32) * v2) + (1 : Int32))).toNatClampNeg))).toNatClampNeg)) ((f_a0_machine ((((3 : Int32) * v1) + (f_a0_st ((((7 : Int32) * v2) + (1 : Int32))).toNatClampNeg))).toNatClampNeg)) ((f_a0_st ((((7 : Int32) * v2) + (2 : Int32))).toNatClampNeg)) ((f_a0_st ((((7 : Int32) * v2) + (3 : Int32))).toNatClampNeg))) fun r62 u62_0 =>
  if (((3 : Int32) * v1) + (f_a0_st ((((7 : Int32) * v2) + (1 : Int32))).toNatClampNeg)) < 0 ∨ 15 ≤ ((((3 : Int32) * v1) + (f_a0_st ((((7 : Int32) * v2) + (1 : Int32))).toNatClampNeg))).toNatClampNeg then none else
  some (u62_0, u62_0, (vp_updL f_a0_machine ((((3 : Int32) * v1) + (f_a0_st ((((7 : Int32) * v2) + (1 : Int32))).toNatClampNeg))).toNatClampNeg r62))
def F_X10_doBy_b128  (fu : Nat) (f_a0_st : Nat → Int32) (f_a0_r : Nat → Int32) (f_a0_machine : Nat → Int64) (v3 : Int32) (t0 : Int32) (v6 : Int32) (v4 : Int32) : Option (Int32 × Int32 × (Nat → Int32) × (Nat → Int64)) :=
  bnd3 (F_X10_doIt fu f_a0_st f_a0_r f_a0_machine v6 v3) fun r134 u134_0 u134_1 =>
  if v4 = 0 then
    bnd3 (F_X10_doIt fu f_a0_st f_a0_r u134_1 t0 v3) fun r151 u151_0 u151_1 =>
    if (-1 : Int32) ≤ r151 then
      some (r134, u151_0, f_a0_st, u151_1)
    else
      some (r151, u151_0, f_a0_st, u151_1)
  else
    some (r134, u134_0, f_a0_st, u134_1)
def F_X10_doBy_b115  (fu : Nat) (f_a0_st : Nat → Int32) (f_a0_r : Nat → Int32) (f_a0_machine : Nat → Int64) (v3 : Int32) (t0 : Int32) (v5 : Int32) (v4 : Int32) : Option (Int32 × Int32 × (Nat → Int32) × (Nat → Int64)) :=
  if v5 = (2 : Int32) then
    F_X10_doBy_b128 fu f_a0_st f_a0_r f_a0_machine v3 (1 : Int32) t0 v4
  else
    F_X10_doBy_b128 fu f_a0_st f_a0_r f_a0_machine v3 (2 : Int32) t0 v4
def F_X10_doBy_b63  (a0_answer : Int32) (f_a0_st : Nat → Int32) (v2 : Int32) (v5 : Int32) : Nat → (Nat → Int64) → Int32 → Option (Int32 × Int32 × (Nat → Int32) × (Nat → Int64))
  | 0, _, _ => none
  | kf + 1, f_a0_machine, v6 =>
    if (3 : Int32) ≤ v6 then
      some (v5, a0_answer, f_a0_st, f_a0_machine)
    else
    if v6 < 0 ∨ 15 ≤ v6.toNatClampNeg then none else
    if (((3 : Int32) * ((1 : Int32) + v2)) + v6) < 0 ∨ 15 ≤ ((((3 : Int32) * ((1 : Int32) + v2)) + v6)).toNatClampNeg then none else
    (F_X10_doBy_b63 a0_answer f_a0_st v2 v5 kf) ((vp_updL f_a0_machine ((((3 : Int32) * ((1 : Int32) + v2)) + v6)).toNatClampNeg (f_a0_machine v6.toNatClampNeg))) ((v6 + (1 : Int32)))
def F_X10_doBy_b20  (fu : Nat) (f_a0_st : Nat → Int32) (f_a0_r : Nat → Int32) (f_a0_machine : Nat → Int64) (v1 : Int32) (v2 : Int32) (v3 : Int32) (t0 : Int32) : Option (Int32 × Int32 × (Nat → Int32) × (Nat → Int64)) :=
  if v1 = 0 then
    bnd3 (F_X10_doIt fu f_a0_st f_a0_r f_a0_machine (0 : Int32) v3) fun r29 u29_0 u29_1 =>
    some (r29, u29_0, f_a0_st, u29_1)
  else
  if v1 = (1 : Int32) then
    if t0 = 0 then
      bnd3 (F_X10_doIt fu f_a0_st f_a0_r f_a0_machine (0 : Int32) v3) fun r55 u55_0 u55_1 =>
      F_X10_doBy_b63 u55_0 f_a0_st v2 r55 fu u55_1 (0 : Int32)
    else
    bnd3 (F_X10_doIt fu f_a0_st f_a0_r f_a0_machine (((1 : Int32) + v2)) v3) fun r48 u48_0 u48_1 =>
    some (r48, u48_0, f_a0_st, u48_1)
  else
  bnd2 (F_X10_draw f_a0_st (3 : Int32)) fun r100 u100_0 =>
  if r100 = 0 then
    F_X10_doBy_b115 fu u100_0 f_a0_r f_a0_machine v3 (1 : Int32) r100 t0
  else
    F_X10_doBy_b115 fu u100_0 f_a0_r f_a0_machine v3 (0 : Int32) r100 t0
def F_X10_doBy (fu : Nat) (f_a0_st : Nat → Int32) (f_a0_r : Nat → Int32) (f_a0_machine : Nat → Int64) (v1 : Int32) (v2 : Int32) (v3 : Int32) : Option (Int32 × Int32 × (Nat → Int32) × (Nat → Int64)) :=
  if (((7 : Int32) * v3) + (2 : Int32)) < 0 ∨ 142 ≤ ((((7 : Int32) * v3) + (2 : Int32))).toNatClampNeg then none else
  if (f_a0_st ((((7 : Int32) * v3) + (2 : Int32))).toNatClampNeg) = (2 : Int32) then
    F_X10_doBy_b20 fu f_a0_st f_a0_r f_a0_machine v1 v2 v3 (1 : Int32)
  else
    F_X10_doBy_b20 fu f_a0_st f_a0_r f_a0_machine v1 v2 v3 (0 : Int32)
def F_X10_beginsCall_b139  (f_a0_st : Nat → Int32) (f_a0_busy : Nat → Int32) (f_a0_isDoneBy : Nat → Int32) (v1 : Int32) (v2 : Int32) (v3 : Int32) (v4 : Int32) (t0 : Int32) (t1 : Int32) : Option ((Nat → Int32) × (Nat → Int32) × (Nat → Int32)) :=
  if t1 < 0 ∨ 142 ≤ t1.toNatClampNeg then none else
  if (v4 + (4 : Int32)) < 0 ∨ 142 ≤ ((v4 + (4 : Int32))).toNatClampNeg then none else
  if (v4 + (5 : Int32)) < 0 ∨ 142 ≤ ((v4 + (5 : Int32))).toNatClampNeg then none else
  if (v4 + (6 : Int32)) < 0 ∨ 142 ≤ ((v4 + (6 : Int32))).toNatClampNeg then none else
  if v1 < 0 ∨ 4 ≤ v1.toNatClampNeg then none else
  if v1 < 0 ∨ 4 ≤ v1.toNatClampNeg then none else
  some ((upd ((upd ((upd ((upd (upd f_a0_st t1.toNatClampNeg t0) ((v4 + (4 : Int32))).toNatClampNeg v2)) ((v4 + (5 : Int32))).toNatClampNeg (-2 : Int32))) ((v4 + (6 : Int32))).toNatClampNeg (-2 : Int32))) (141 : Int32).toNatClampNeg ((((upd ((upd ((upd (upd f_a0_st t1.toNatClampNeg t0) ((v4 + (4 : Int32))).toNatClampNeg v2)) ((v4 + (5 : Int32))).toNatClampNeg (-2 : Int32))) ((v4 + (6 : Int32))).toNatClampNeg (-2 : Int32))) (141 : Int32).toNatClampNeg) + (1 : Int32))), (upd f_a0_busy v1.toNatClampNeg v3), (upd f_a0_isDoneBy v1.toNatClampNeg (vp_nar .boolean (0 : Int32))))
def F_X10_beginsCall_b77  (f_a0_st : Nat → Int32) (f_a0_busy : Nat → Int32) (f_a0_isDoneBy : Nat → Int32) (v1 : Int32) (v2 : Int32) (v3 : Int32) (v4 : Int32) (v5 : Int32) (v6 : Int32) (t0 : Int32) : Option ((Nat → Int32) × (Nat → Int32) × (Nat → Int32)) :=
  if (v4 + (0 : Int32)) < 0 ∨ 142 ≤ ((v4 + (0 : Int32))).toNatClampNeg then none else
  if (v4 + (1 : Int32)) < 0 ∨ 142 ≤ ((v4 + (1 : Int32))).toNatClampNeg then none else
  if (v4 + (2 : Int32)) < 0 ∨ 142 ≤ ((v4 + (2 : Int32))).toNatClampNeg then none else
  bnd1 (F_X10_hasWhole v6 t0) fun r123 =>
  if r123 = 0 then
    F_X10_beginsCall_b139 ((upd ((upd ((upd f_a0_st ((v4 + (0 : Int32))).toNatClampNeg v1)) ((v4 + (1 : Int32))).toNatClampNeg v5)) ((v4 + (2 : Int32))).toNatClampNeg t0)) f_a0_busy f_a0_isDoneBy v1 v2 v3 v4 (0 : Int32) ((v4 + (3 : Int32)))
  else
  bnd2 (F_X10_draw ((upd ((upd ((upd f_a0_st ((v4 + (0 : Int32))).toNatClampNeg v1)) ((v4 + (1 : Int32))).toNatClampNeg v5)) ((v4 + (2 : Int32))).toNatClampNeg t0)) (10 : Int32)) fun r132 u132_0 =>
  F_X10_beginsCall_b139 u132_0 f_a0_busy f_a0_isDoneBy v1 v2 v3 v4 r132 ((v4 + (3 : Int32)))
def F_X10_beginsCall_b75  (f_a0_st : Nat → Int32) (f_a0_busy : Nat → Int32) (f_a0_isDoneBy : Nat → Int32) (v1 : Int32) (v2 : Int32) (v3 : Int32) (v4 : Int32) (v5 : Int32) (v6 : Int32) (v7 : Int32) : Option ((Nat → Int32) × (Nat → Int32) × (Nat → Int32)) :=
  F_X10_beginsCall_b77 f_a0_st f_a0_busy f_a0_isDoneBy v1 v2 v3 v4 v5 v6 v7
def F_X10_beginsCall_b55  (f_a0_st : Nat → Int32) (f_a0_busy : Nat → Int32) (f_a0_isDoneBy : Nat → Int32) (v1 : Int32) (v2 : Int32) (v3 : Int32) (v4 : Int32) (v5 : Int32) (v6 : Int32) (t0 : Int32) : Option ((Nat → Int32) × (Nat → Int32) × (Nat → Int32)) :=
  bnd2 (F_X10_draw f_a0_st t0) fun r55 u55_0 =>
  if v6 = 0 then
    if r55 = (1 : Int32) then
      F_X10_beginsCall_b77 u55_0 f_a0_busy f_a0_isDoneBy v1 v2 v3 v4 v5 v6 (2 : Int32)
    else
      F_X10_beginsCall_b75 u55_0 f_a0_busy f_a0_isDoneBy v1 v2 v3 v4 v5 v6 r55
  else
    F_X10_beginsCall_b75 u55_0 f_a0_busy f_a0_isDoneBy v1 v2 v3 v4 v5 v6 r55
def F_X10_beginsCall_b50  (f_a0_st : Nat → Int32) (f_a0_busy : Nat → Int32) (f_a0_isDoneBy : Nat → Int32) (v1 : Int32) (v2 : Int32) (v3 : Int32) (v4 : Int32) (v5 : Int32) (v6 : Int32) : Option ((Nat → Int32) × (Nat → Int32) × (Nat → Int32)) :=
  F_X10_beginsCall_b55 f_a0_st f_a0_busy f_a0_isDoneBy v1 v2 v3 v4 v5 v6 (2 : Int32)
def F_X10_beginsCall (f_a0_st : Nat → Int32) (f_a0_r : Nat → Int32) (f_a0_busy : Nat → Int32) (f_a0_isDoneBy : Nat → Int32) (v1 : Int32) (v2 : Int32) : Option ((Nat → Int32) × (Nat → Int32) × (Nat → Int32)) :=
  bnd2 (F_X10_draw f_a0_st ((f_a0_r (2 : Int32).toNatClampNeg))) fun r22 u22_0 =>
  if ((3 : Int32) + r22) < 0 ∨ 70 ≤ (((3 : Int32) + r22)).toNatClampNeg then none else
  if (f_a0_r (((3 : Int32) + r22)).toNatClampNeg) = 0 then
    F_X10_beginsCall_b50 u22_0 f_a0_busy f_a0_isDoneBy v1 v2 ((f_a0_st (141 : Int32).toNatClampNeg)) (((7 : Int32) * (f_a0_st (141 : Int32).toNatClampNeg))) r22 ((f_a0_r (((3 : Int32) + r22)).toNatClampNeg))
  else
  if (f_a0_r (((3 : Int32) + r22)).toNatClampNeg) = (1 : Int32) then
    F_X10_beginsCall_b50 u22_0 f_a0_busy f_a0_isDoneBy v1 v2 ((f_a0_st (141 : Int32).toNatClampNeg)) (((7 : Int32) * (f_a0_st (141 : Int32).toNatClampNeg))) r22 ((f_a0_r (((3 : Int32) + r22)).toNatClampNeg))
  else
    F_X10_beginsCall_b55 u22_0 f_a0_busy f_a0_isDoneBy v1 v2 ((f_a0_st (141 : Int32).toNatClampNeg)) (((7 : Int32) * (f_a0_st (141 : Int32).toNatClampNeg))) r22 ((f_a0_r (((3 : Int32) + r22)).toNatClampNeg)) (3 : Int32)
def F_X10_makes_b319 (k274 : (Nat → Int32) → Int32 → Option (Int32 × Int32 × (Nat → Int32) × (Nat → Int64) × (Nat → Int32) × (Nat → Int32))) (a0_answer : Int32) (f_a0_st : Nat → Int32) (f_a0_machine : Nat → Int64) (f_a0_busy : Nat → Int32) (f_a0_isDoneBy : Nat → Int32) (v2 : Int32) (v4 : Int32) (v5 : Int32) (v6 : Int32) : Option (Int32 × Int32 × (Nat → Int32) × (Nat → Int64) × (Nat → Int32) × (Nat → Int32)) :=
  k274 f_a0_st ((v6 + (1 : Int32)))
def F_X10_makes_b274  (a0_answer : Int32) (f_a0_machine : Nat → Int64) (f_a0_busy : Nat → Int32) (f_a0_isDoneBy : Nat → Int32) (v2 : Int32) (v4 : Int32) (v5 : Int32) : Nat → (Nat → Int32) → Int32 → Option (Int32 × Int32 × (Nat → Int32) × (Nat → Int64) × (Nat → Int32) × (Nat → Int32))
  | 0, _, _ => none
  | kf + 1, f_a0_st, v6 =>
    if (f_a0_st (141 : Int32).toNatClampNeg) ≤ v6 then
      if v2 ≤ v4 then
        some (v5, a0_answer, f_a0_st, f_a0_machine, f_a0_busy, f_a0_isDoneBy)
      else
        some ((999 : Int32), a0_answer, f_a0_st, f_a0_machine, f_a0_busy, f_a0_isDoneBy)
    else
    if (((7 : Int32) * v6) + (5 : Int32)) < 0 ∨ 142 ≤ ((((7 : Int32) * v6) + (5 : Int32))).toNatClampNeg then none else
    if (f_a0_st ((((7 : Int32) * v6) + (5 : Int32))).toNatClampNeg) = (-2 : Int32) then
      if (((7 : Int32) * v6) + (6 : Int32)) < 0 ∨ 142 ≤ ((((7 : Int32) * v6) + (6 : Int32))).toNatClampNeg then none else
      F_X10_makes_b319 (F_X10_makes_b274 a0_answer f_a0_machine f_a0_busy f_a0_isDoneBy v2 v4 v5 kf) a0_answer ((upd f_a0_st ((((7 : Int32) * v6) + (6 : Int32))).toNatClampNeg (-2 : Int32))) f_a0_machine f_a0_busy f_a0_isDoneBy v2 v4 v5 v6
    else
      F_X10_makes_b319 (F_X10_makes_b274 a0_answer f_a0_machine f_a0_busy f_a0_isDoneBy v2 v4 v5 kf) a0_answer f_a0_st f_a0_machine f_a0_busy f_a0_isDoneBy v2 v4 v5 v6
def F_X10_makes_b271  (fu : Nat) (a0_answer : Int32) (f_a0_st : Nat → Int32) (f_a0_machine : Nat → Int64) (f_a0_busy : Nat → Int32) (f_a0_isDoneBy : Nat → Int32) (v2 : Int32) (v4 : Int32) (v5 : Int32) : Option (Int32 × Int32 × (Nat → Int32) × (Nat → Int64) × (Nat → Int32) × (Nat → Int32)) :=
  F_X10_makes_b274 a0_answer f_a0_machine f_a0_busy f_a0_isDoneBy v2 v4 v5 fu f_a0_st (0 : Int32)
def F_X10_makes_b265 (k129 : Int32 → (Nat → Int32) → (Nat → Int64) → (Nat → Int32) → (Nat → Int32) → Int32 → Int32 → Int32 → Option (Int32 × Int32 × (Nat → Int32) × (Nat → Int64) × (Nat → Int32) × (Nat → Int32))) (fu : Nat) (a0_answer : Int32) (f_a0_st : Nat → Int32) (f_a0_r : Nat → Int32) (f_a0_machine : Nat → Int64) (f_a0_busy : Nat → Int32) (f_a0_isDoneBy : Nat → Int32) (v1 : Int32) (v2 : Int32) (v4 : Int32) (v5 : Int32) (v6 : Int32) : Option (Int32 × Int32 × (Nat → Int32) × (Nat → Int64) × (Nat → Int32) × (Nat → Int32)) :=
  k129 a0_answer f_a0_st f_a0_machine f_a0_busy f_a0_isDoneBy v4 v5 ((v6 + (1 : Int32)))
def F_X10_makes_b129  (fu : Nat) (f_a0_r : Nat → Int32) (v1 : Int32) (v2 : Int32) : Nat → Int32 → (Nat → Int32) → (Nat → Int64) → (Nat → Int32) → (Nat → Int32) → Int32 → Int32 → Int32 → Option (Int32 × Int32 × (Nat → Int32) × (Nat → Int64) × (Nat → Int32) × (Nat → Int32))
  | 0, _, _, _, _, _, _, _, _ => none
  | kf + 1, a0_answer, f_a0_st, f_a0_machine, f_a0_busy, f_a0_isDoneBy, v4, v5, v6 =>
    if (999 : Int32) < v6 then
      F_X10_makes_b271 fu a0_answer f_a0_st f_a0_machine f_a0_busy f_a0_isDoneBy v2 v4 v5
    else
    if v2 ≤ v4 then
      F_X10_makes_b271 fu a0_answer f_a0_st f_a0_machine f_a0_busy f_a0_isDoneBy v2 v4 v5
    else
    bnd2 (F_X10_draw f_a0_st ((f_a0_r (6 : Int32).toNatClampNeg))) fun r151 u151_0 =>
    if r151 < 0 ∨ 4 ≤ r151.toNatClampNeg then none else
    if 0 ≤ (f_a0_busy r151.toNatClampNeg) then
      if r151 < 0 ∨ 4 ≤ r151.toNatClampNeg then none else
      if (f_a0_isDoneBy r151.toNatClampNeg) = 0 then
        bnd4 (F_X10_doBy fu u151_0 f_a0_r f_a0_machine v1 r151 (f_a0_busy r151.toNatClampNeg)) fun r221 u221_0 u221_1 u221_2 =>
        if (((7 : Int32) * (f_a0_busy r151.toNatClampNeg)) + (6 : Int32)) < 0 ∨ 142 ≤ ((((7 : Int32) * (f_a0_busy r151.toNatClampNeg)) + (6 : Int32))).toNatClampNeg then none else
        if r151 < 0 ∨ 4 ≤ r151.toNatClampNeg then none else
        F_X10_makes_b265 (F_X10_makes_b129 fu f_a0_r v1 v2 kf) fu u221_0 ((upd u221_1 ((((7 : Int32) * (f_a0_busy r151.toNatClampNeg)) + (6 : Int32))).toNatClampNeg r221)) f_a0_r u221_2 f_a0_busy ((upd f_a0_isDoneBy r151.toNatClampNeg (vp_nar .boolean (1 : Int32)))) v1 v2 v4 v5 v6
      else
      if (((7 : Int32) * (f_a0_busy r151.toNatClampNeg)) + (5 : Int32)) < 0 ∨ 142 ≤ ((((7 : Int32) * (f_a0_busy r151.toNatClampNeg)) + (5 : Int32))).toNatClampNeg then none else
      if r151 < 0 ∨ 4 ≤ r151.toNatClampNeg then none else
      F_X10_makes_b265 (F_X10_makes_b129 fu f_a0_r v1 v2 kf) fu a0_answer ((upd u151_0 ((((7 : Int32) * (f_a0_busy r151.toNatClampNeg)) + (5 : Int32))).toNatClampNeg v6)) f_a0_r f_a0_machine ((upd f_a0_busy r151.toNatClampNeg (-1 : Int32))) f_a0_isDoneBy v1 v2 ((v4 + (1 : Int32))) v6 v6
    else
    if v2 ≤ (u151_0 (141 : Int32).toNatClampNeg) then
      F_X10_makes_b265 (F_X10_makes_b129 fu f_a0_r v1 v2 kf) fu a0_answer u151_0 f_a0_r f_a0_machine f_a0_busy f_a0_isDoneBy v1 v2 v4 v5 v6
    else
    bnd3 (F_X10_beginsCall u151_0 f_a0_r f_a0_busy f_a0_isDoneBy r151 v6) fun u187_0 u187_1 u187_2 =>
    F_X10_makes_b265 (F_X10_makes_b129 fu f_a0_r v1 v2 kf) fu a0_answer u187_0 f_a0_r f_a0_machine u187_1 u187_2 v1 v2 v4 v5 v6
def F_X10_makes_b100  (fu : Nat) (a0_answer : Int32) (f_a0_st : Nat → Int32) (f_a0_r : Nat → Int32) (f_a0_machine : Nat → Int64) (f_a0_isDoneBy : Nat → Int32) (v1 : Int32) (v2 : Int32) : Nat → (Nat → Int32) → Int32 → Option (Int32 × Int32 × (Nat → Int32) × (Nat → Int64) × (Nat → Int32) × (Nat → Int32))
  | 0, _, _ => none
  | kf + 1, f_a0_busy, v4 =>
    if (4 : Int32) ≤ v4 then
      F_X10_makes_b129 fu f_a0_r v1 v2 fu a0_answer f_a0_st f_a0_machine f_a0_busy f_a0_isDoneBy (0 : Int32) (0 : Int32) (1 : Int32)
    else
    if v4 < 0 ∨ 4 ≤ v4.toNatClampNeg then none else
    (F_X10_makes_b100 fu a0_answer f_a0_st f_a0_r f_a0_machine f_a0_isDoneBy v1 v2 kf) ((upd f_a0_busy v4.toNatClampNeg (-1 : Int32))) ((v4 + (1 : Int32)))
def F_X10_makes_b90 (k46 : (Nat → Int64) → Int32 → Option (Int32 × Int32 × (Nat → Int32) × (Nat → Int64) × (Nat → Int32) × (Nat → Int32))) (fu : Nat) (a0_answer : Int32) (f_a0_st : Nat → Int32) (f_a0_r : Nat → Int32) (f_a0_machine : Nat → Int64) (f_a0_busy : Nat → Int32) (f_a0_isDoneBy : Nat → Int32) (v1 : Int32) (v2 : Int32) (v4 : Int32) (t0 : Int64) (t1 : Int32) : Option (Int32 × Int32 × (Nat → Int32) × (Nat → Int64) × (Nat → Int32) × (Nat → Int32)) :=
  if t1 < 0 ∨ 15 ≤ t1.toNatClampNeg then none else
  k46 (vp_updL f_a0_machine t1.toNatClampNeg t0) ((v4 + (1 : Int32)))
def F_X10_makes_b46  (fu : Nat) (a0_answer : Int32) (f_a0_st : Nat → Int32) (f_a0_r : Nat → Int32) (f_a0_busy : Nat → Int32) (f_a0_isDoneBy : Nat → Int32) (v1 : Int32) (v2 : Int32) : Nat → (Nat → Int64) → Int32 → Option (Int32 × Int32 × (Nat → Int32) × (Nat → Int64) × (Nat → Int32) × (Nat → Int32))
  | 0, _, _ => none
  | kf + 1, f_a0_machine, v4 =>
    if (15 : Int32) ≤ v4 then
      F_X10_makes_b100 fu a0_answer f_a0_st f_a0_r f_a0_machine f_a0_isDoneBy v1 v2 fu f_a0_busy (0 : Int32)
    else
    if (f_a0_r (2 : Int32).toNatClampNeg) ≤ (v4 - v4 / (3 : Int32) * (3 : Int32)) then
      F_X10_makes_b90 (F_X10_makes_b46 fu a0_answer f_a0_st f_a0_r f_a0_busy f_a0_isDoneBy v1 v2 kf) fu a0_answer f_a0_st f_a0_r f_a0_machine f_a0_busy f_a0_isDoneBy v1 v2 v4 (0 : Int64) v4
    else
    if ((3 : Int32) + (v4 - v4 / (3 : Int32) * (3 : Int32))) < 0 ∨ 70 ≤ (((3 : Int32) + (v4 - v4 / (3 : Int32) * (3 : Int32)))).toNatClampNeg then none else
    bnd1 (F_X10_atFirst ((f_a0_r (((3 : Int32) + (v4 - v4 / (3 : Int32) * (3 : Int32)))).toNatClampNeg))) fun r83 =>
    F_X10_makes_b90 (F_X10_makes_b46 fu a0_answer f_a0_st f_a0_r f_a0_busy f_a0_isDoneBy v1 v2 kf) fu a0_answer f_a0_st f_a0_r f_a0_machine f_a0_busy f_a0_isDoneBy v1 v2 v4 r83 v4
def F_X10_makes_b12  (fu : Nat) (a0_answer : Int32) (f_a0_r : Nat → Int32) (f_a0_machine : Nat → Int64) (f_a0_busy : Nat → Int32) (f_a0_isDoneBy : Nat → Int32) (v1 : Int32) (v2 : Int32) (v3 : Int32) : Nat → (Nat → Int32) → Int32 → Option (Int32 × Int32 × (Nat → Int32) × (Nat → Int64) × (Nat → Int32) × (Nat → Int32))
  | 0, _, _ => none
  | kf + 1, f_a0_st, v4 =>
    if (142 : Int32) ≤ v4 then
      F_X10_makes_b46 fu a0_answer ((upd f_a0_st (140 : Int32).toNatClampNeg v3)) f_a0_r f_a0_busy f_a0_isDoneBy v1 v2 fu f_a0_machine (0 : Int32)
    else
    if v4 < 0 ∨ 142 ≤ v4.toNatClampNeg then none else
    (F_X10_makes_b12 fu a0_answer f_a0_r f_a0_machine f_a0_busy f_a0_isDoneBy v1 v2 v3 kf) ((upd f_a0_st v4.toNatClampNeg (0 : Int32))) ((v4 + (1 : Int32)))
def F_X10_makes (fu : Nat) (a0_answer : Int32) (f_a0_st : Nat → Int32) (f_a0_r : Nat → Int32) (f_a0_machine : Nat → Int64) (f_a0_busy : Nat → Int32) (f_a0_isDoneBy : Nat → Int32) (v1 : Int32) (v2 : Int32) : Option (Int32 × Int32 × (Nat → Int32) × (Nat → Int64) × (Nat → Int32) × (Nat → Int32)) :=
  F_X10_makes_b12 fu a0_answer f_a0_r f_a0_machine f_a0_busy f_a0_isDoneBy v1 v2 ((f_a0_st (140 : Int32).toNatClampNeg)) fu f_a0_st (0 : Int32)
def F_X10_make_b20  (a0_thrown : Int32) (a0_answer : Int32) (f_a0_st : Nat → Int32) (f_a0_machine : Nat → Int64) (f_a0_busy : Nat → Int32) (f_a0_isDoneBy : Nat → Int32) : Option (Int32 × Int32 × Int32 × Int32 × (Nat → Int32) × (Nat → Int64) × (Nat → Int32) × (Nat → Int32)) :=
  bnd2 (F_X10_no (1 : Int32)) fun r22 u22_0 =>
  some (r22, a0_thrown, u22_0, a0_answer, f_a0_st, f_a0_machine, f_a0_busy, f_a0_isDoneBy)
def F_X10_make (fu : Nat) (a0_hasBook : Int32) (a0_answer : Int32) (f_a0_st : Nat → Int32) (f_a0_r : Nat → Int32) (f_a0_machine : Nat → Int64) (f_a0_busy : Nat → Int32) (f_a0_isDoneBy : Nat → Int32) (v1 : Int32) (v2 : Int32) : Option (Int32 × Int32 × Int32 × Int32 × (Nat → Int32) × (Nat → Int64) × (Nat → Int32) × (Nat → Int32)) :=
  bnd2 (F_X10_good) fun u1_0 u1_1 =>
  if a0_hasBook = 0 then
    F_X10_make_b20 u1_0 a0_answer f_a0_st f_a0_machine f_a0_busy f_a0_isDoneBy
  else
  bnd1 (F_X10_within v1 (0 : Int32) (2 : Int32)) fun r14 =>
  if r14 = 0 then
    F_X10_make_b20 u1_0 a0_answer f_a0_st f_a0_machine f_a0_busy f_a0_isDoneBy
  else
  bnd1 (F_X10_within v2 (1 : Int32) (20 : Int32)) fun r30 =>
  if r30 = 0 then
    bnd2 (F_X10_no (2 : Int32)) fun r38 u38_0 =>
    some (r38, u1_0, u38_0, a0_answer, f_a0_st, f_a0_machine, f_a0_busy, f_a0_isDoneBy)
  else
  bnd6 (F_X10_makes fu a0_answer f_a0_st f_a0_r f_a0_machine f_a0_busy f_a0_isDoneBy v1 v2) fun r45 u45_0 u45_1 u45_2 u45_3 u45_4 =>
  some (r45, u1_0, u1_1, u45_0, u45_1, u45_2, u45_3, u45_4)
def F_X10_breaks_b143  (fu : Nat) (a0_thrown : Int32) (a0_trouble : Int32) (a0_answer : Int32) (a0_there : Int32) (a0_loose : Int32) (a0_onTill : Int32) (a0_minutes : Int32) (a0_byKind : Int32) (a0_stands : Int32) (a0_isFull : Int32) (a0_canBe : Int32) (f_a0_st : Nat → Int32) (f_a0_aside : Nat → Int32) (f_a0_machine : Nat → Int64) (f_a0_busy : Nat → Int32) (f_a0_isDoneBy : Nat → Int32) (f_a0_w : Nat → Int32) (f_a0_longOf : Nat → Int32) (f_a0_rowOf : Nat → Int32) (f_a0_slot : Nat → Int32) (f_a0_doneOf : Nat → Int32) (f_a0_tills : Nat → Int64) (f_a0_nextOf : Nat → Int32) (f_a0_heard : Nat → Int32) (f_a0_leads : Nat → Int32) (v4 : Int32) (v5 : Int32) : Option (Int32 × Int32 × Int32 × Int32 × Int32 × Int32 × Int32 × Int32 × Int32 × Int32 × Int32 × Int32 × (Nat → Int32) × (Nat → Int32) × (Nat → Int64) × (Nat → Int32) × (Nat → Int32) × (Nat → Int32) × (Nat → Int32) × (Nat → Int32) × (Nat → Int32) × (Nat → Int32) × (Nat → Int64) × (Nat → Int32) × (Nat → Int32) × (Nat → Int32)) :=
  bnd1 (F_X10_copy fu 142 142 f_a0_aside f_a0_st (0 : Int32) (0 : Int32) (142 : Int32)) fun u156_0 =>
  if v5 = 0 then
    some (v4, a0_thrown, a0_trouble, a0_answer, a0_there, a0_loose, a0_onTill, a0_minutes, a0_byKind, a0_stands, a0_isFull, a0_canBe, u156_0, f_a0_aside, f_a0_machine, f_a0_busy, f_a0_isDoneBy, f_a0_w, f_a0_longOf, f_a0_rowOf, f_a0_slot, f_a0_doneOf, f_a0_tills, f_a0_nextOf, f_a0_heard, f_a0_leads)
  else
  bnd2 (F_X10_no v5) fun r167 u167_0 =>
  some (r167, a0_thrown, u167_0, a0_answer, a0_there, a0_loose, a0_onTill, a0_minutes, a0_byKind, a0_stands, a0_isFull, a0_canBe, u156_0, f_a0_aside, f_a0_machine, f_a0_busy, f_a0_isDoneBy, f_a0_w, f_a0_longOf, f_a0_rowOf, f_a0_slot, f_a0_doneOf, f_a0_tills, f_a0_nextOf, f_a0_heard, f_a0_leads)
def F_X10_breaks_b137 (k70 : Int32 → Int32 → Int32 → Int32 → Int32 → Int32 → Int32 → Int32 → Int32 → (Nat → Int32) → (Nat → Int64) → (Nat → Int32) → (Nat → Int32) → (Nat → Int32) → (Nat → Int32) → (Nat → Int32) → (Nat → Int32) → (Nat → Int32) → (Nat → Int64) → (Nat → Int32) → (Nat → Int32) → (Nat → Int32) → Int32 → Int32 → Int32 → Option (Int32 × Int32 × Int32 × Int32 × Int32 × Int32 × Int32 × Int32 × Int32 × Int32 × Int32 × Int32 × (Nat → Int32) × (Nat → Int32) × (Nat → Int64) × (Nat → Int32) × (Nat → Int32) × (Nat → Int32) × (Nat → Int32) × (Nat → Int32) × (Nat → Int32) × (Nat → Int32) × (Nat → Int64) × (Nat → Int32) × (Nat → Int32) × (Nat → Int32))) (fu : Nat) (a0_thrown : Int32) (a0_trouble : Int32) (a0_answer : Int32) (a0_there : Int32) (a0_loose : Int32) (a0_onTill : Int32) (a0_minutes : Int32) (a0_byKind : Int32) (a0_stands : Int32) (a0_isFull : Int32) (a0_canBe : Int32) (f_a0_st : Nat → Int32) (f_a0_aside : Nat → Int32) (f_a0_r : Nat → Int32) (f_a0_machine : Nat → Int64) (f_a0_busy : Nat → Int32) (f_a0_isDoneBy : Nat → Int32) (f_a0_w : Nat → Int32) (f_a0_longOf : Nat → Int32) (f_a0_rowOf : Nat → Int32) (f_a0_slot : Nat → Int32) (f_a0_doneOf : Nat → Int32) (f_a0_tills : Nat → Int64) (f_a0_nextOf : Nat → Int32) (f_a0_heard : Nat → Int32) (f_a0_leads : Nat → Int32) (v1 : Int32) (v2 : Int32) (v3 : Int32) (v4 : Int32) (v5 : Int32) (v6 : Int32) : Option (Int32 × Int32 × Int32 × Int32 × Int32 × Int32 × Int32 × Int32 × Int32 × Int32 × Int32 × Int32 × (Nat → Int32) × (Nat → Int32) × (Nat → Int64) × (Nat → Int32) × (Nat → Int32) × (Nat → Int32) × (Nat → Int32) × (Nat → Int32) × (Nat → Int32) × (Nat → Int32) × (Nat → Int64) × (Nat → Int32) × (Nat → Int32) × (Nat → Int32)) :=
  k70 a0_answer a0_there a0_loose a0_onTill a0_minutes a0_byKind a0_stands a0_isFull a0_canBe f_a0_st f_a0_machine f_a0_busy f_a0_isDoneBy f_a0_w f_a0_longOf f_a0_rowOf f_a0_slot f_a0_doneOf f_a0_tills f_a0_nextOf f_a0_heard f_a0_leads v4 v5 ((v6 + (1 : Int32)))
def F_X10_breaks_b120 (k70 : Int32 → Int32 → Int32 → Int32 → Int32 → Int32 → Int32 → Int32 → Int32 → (Nat → Int32) → (Nat → Int64) → (Nat → Int32) → (Nat → Int32) → (Nat → Int32) → (Nat → Int32) → (Nat → Int32) → (Nat → Int32) → (Nat → Int32) → (Nat → Int64) → (Nat → Int32) → (Nat → Int32) → (Nat → Int32) → Int32 → Int32 → Int32 → Option (Int32 × Int32 × Int32 × Int32 × Int32 × Int32 × Int32 × Int32 × Int32 × Int32 × Int32 × Int32 × (Nat → Int32) × (Nat → Int32) × (Nat → Int64) × (Nat → Int32) × (Nat → Int32) × (Nat → Int32) × (Nat → Int32) × (Nat → Int32) × (Nat → Int32) × (Nat → Int32) × (Nat → Int64) × (Nat → Int32) × (Nat → Int32) × (Nat → Int32))) (fu : Nat) (a0_thrown : Int32) (a0_trouble : Int32) (a0_answer : Int32) (a0_there : Int32) (a0_loose : Int32) (a0_onTill : Int32) (a0_minutes : Int32) (a0_byKind : Int32) (a0_stands : Int32) (a0_isFull : Int32) (a0_canBe : Int32) (f_a0_st : Nat → Int32) (f_a0_aside : Nat → Int32) (f_a0_r : Nat → Int32) (f_a0_machine : Nat → Int64) (f_a0_busy : Nat → Int32) (f_a0_isDoneBy : Nat → Int32) (f_a0_w : Nat → Int32) (f_a0_longOf : Nat → Int32) (f_a0_rowOf : Nat → Int32) (f_a0_slot : Nat → Int32) (f_a0_doneOf : Nat → Int32) (f_a0_tills : Nat → Int64) (f_a0_nextOf : Nat → Int32) (f_a0_heard : Nat → Int32) (f_a0_leads : Nat → Int32) (v1 : Int32) (v2 : Int32) (v3 : Int32) (v4 : Int32) (v6 : Int32) : Option (Int32 × Int32 × Int32 × Int32 × Int32 × Int32 × Int32 × Int32 × Int32 × Int32 × Int32 × Int32 × (Nat → Int32) × (Nat → Int32) × (Nat → Int64) × (Nat → Int32) × (Nat → Int32) × (Nat → Int32) × (Nat → Int32) × (Nat → Int32) × (Nat → Int32) × (Nat → Int32) × (Nat → Int64) × (Nat → Int32) × (Nat → Int32) × (Nat → Int32)) :=
  F_X10_breaks_b137 k70 fu a0_thrown a0_trouble a0_answer a0_there a0_loose a0_onTill a0_minutes a0_byKind a0_stands a0_isFull a0_canBe f_a0_st f_a0_aside f_a0_r f_a0_machine f_a0_busy f_a0_isDoneBy f_a0_w f_a0_longOf f_a0_rowOf f_a0_slot f_a0_doneOf f_a0_tills f_a0_nextOf f_a0_heard f_a0_leads v1 v2 v3 v4 (3 : Int32) v6
def F_X10_breaks_b70  (fu : Nat) (a0_thrown : Int32) (a0_trouble : Int32) (f_a0_aside : Nat → Int32) (f_a0_r : Nat → Int32) (v1 : Int32) (v2 : Int32) (v3 : Int32) : Nat → Int32 → Int32 → Int32 → Int32 → Int32 → Int32 → Int32 → Int32 → Int32 → (Nat → Int32) → (Nat → Int64) → (Nat → Int32) → (Nat → Int32) → (Nat → Int32) → (Nat → Int32) → (Nat → Int32) → (Nat → Int32) → (Nat → Int32) → (Nat → Int64) → (Nat → Int32) → (Nat → Int32) → (Nat → Int32) → Int32 → Int32 → Int32 → Option (Int32 × Int32 × Int32 × Int32 × Int32 × Int32 × Int32 × Int32 × Int32 × Int32 × Int32 × Int32 × (Nat → Int32) × (Nat → Int32) × (Nat → Int64) × (Nat → Int32) × (Nat → Int32) × (Nat → Int32) × (Nat → Int32) × (Nat → Int32) × (Nat → Int32) × (Nat → Int32) × (Nat → Int64) × (Nat → Int32) × (Nat → Int32) × (Nat → Int32))
  | 0, _, _, _, _, _, _, _, _, _, _, _, _, _, _, _, _, _, _, _, _, _, _, _, _, _ => none
  | kf + 1, a0_answer, a0_there, a0_loose, a0_onTill, a0_minutes, a0_byKind, a0_stands, a0_isFull, a0_canBe, f_a0_st, f_a0_machine, f_a0_busy, f_a0_isDoneBy, f_a0_w, f_a0_longOf, f_a0_rowOf, f_a0_slot, f_a0_doneOf, f_a0_tills, f_a0_nextOf, f_a0_heard, f_a0_leads, v4, v5, v6 =>
    if (99 : Int32) < v6 then
      F_X10_breaks_b143 fu a0_thrown a0_trouble a0_answer a0_there a0_loose a0_onTill a0_minutes a0_byKind a0_stands a0_isFull a0_canBe f_a0_st f_a0_aside f_a0_machine f_a0_busy f_a0_isDoneBy f_a0_w f_a0_longOf f_a0_rowOf f_a0_slot f_a0_doneOf f_a0_tills f_a0_nextOf f_a0_heard f_a0_leads v4 v5
    else
    if v4 = (-2 : Int32) then
      if v5 = 0 then
        bnd6 (F_X10_makes fu a0_answer ((upd f_a0_st (140 : Int32).toNatClampNeg v6)) f_a0_r f_a0_machine f_a0_busy f_a0_isDoneBy v2 v3) fun r102 u102_0 u102_1 u102_2 u102_3 u102_4 =>
        if r102 < 0 then
          F_X10_breaks_b120 (F_X10_breaks_b70 fu a0_thrown a0_trouble f_a0_aside f_a0_r v1 v2 v3 kf) fu a0_thrown a0_trouble u102_0 a0_there a0_loose a0_onTill a0_minutes a0_byKind a0_stands a0_isFull a0_canBe u102_1 f_a0_aside f_a0_r u102_2 u102_3 u102_4 f_a0_w f_a0_longOf f_a0_rowOf f_a0_slot f_a0_doneOf f_a0_tills f_a0_nextOf f_a0_heard f_a0_leads v1 v2 v3 v4 v6
        else
        bnd19 (F_X10_goes fu u102_0 a0_byKind a0_stands a0_isFull a0_canBe u102_1 f_a0_w f_a0_r f_a0_longOf f_a0_rowOf f_a0_slot f_a0_doneOf f_a0_tills f_a0_nextOf f_a0_heard f_a0_leads v1) fun r114 u114_0 u114_1 u114_2 u114_3 u114_4 u114_5 u114_6 u114_7 u114_8 u114_9 u114_10 u114_11 u114_12 u114_13 u114_14 u114_15 u114_16 u114_17 =>
        if r114 = 0 then
          F_X10_breaks_b120 (F_X10_breaks_b70 fu a0_thrown a0_trouble f_a0_aside f_a0_r v1 v2 v3 kf) fu a0_thrown a0_trouble u114_0 u114_1 u114_2 u114_3 u114_4 u114_5 u114_6 u114_7 u114_8 u102_1 f_a0_aside f_a0_r u102_2 u102_3 u102_4 u114_9 u114_10 u114_11 u114_12 u114_13 u114_14 u114_15 u114_16 u114_17 v1 v2 v3 v4 v6
        else
        if u114_8 = 0 then
          F_X10_breaks_b137 (F_X10_breaks_b70 fu a0_thrown a0_trouble f_a0_aside f_a0_r v1 v2 v3 kf) fu a0_thrown a0_trouble u114_0 u114_1 u114_2 u114_3 u114_4 u114_5 u114_6 u114_7 u114_8 u102_1 f_a0_aside f_a0_r u102_2 u102_3 u102_4 u114_9 u114_10 u114_11 u114_12 u114_13 u114_14 u114_15 u114_16 u114_17 v1 v2 v3 v6 v5 v6
        else
          F_X10_breaks_b137 (F_X10_breaks_b70 fu a0_thrown a0_trouble f_a0_aside f_a0_r v1 v2 v3 kf) fu a0_thrown a0_trouble u114_0 u114_1 u114_2 u114_3 u114_4 u114_5 u114_6 u114_7 u114_8 u102_1 f_a0_aside f_a0_r u102_2 u102_3 u102_4 u114_9 u114_10 u114_11 u114_12 u114_13 u114_14 u114_15 u114_16 u114_17 v1 v2 v3 v4 v5 v6
      else
        F_X10_breaks_b143 fu a0_thrown a0_trouble a0_answer a0_there a0_loose a0_onTill a0_minutes a0_byKind a0_stands a0_isFull a0_canBe f_a0_st f_a0_aside f_a0_machine f_a0_busy f_a0_isDoneBy f_a0_w f_a0_longOf f_a0_rowOf f_a0_slot f_a0_doneOf f_a0_tills f_a0_nextOf f_a0_heard f_a0_leads v4 v5
    else
      F_X10_breaks_b143 fu a0_thrown a0_trouble a0_answer a0_there a0_loose a0_onTill a0_minutes a0_byKind a0_stands a0_isFull a0_canBe f_a0_st f_a0_aside f_a0_machine f_a0_busy f_a0_isDoneBy f_a0_w f_a0_longOf f_a0_rowOf f_a0_slot f_a0_doneOf f_a0_tills f_a0_nextOf f_a0_heard f_a0_leads v4 v5
def F_X10_breaks_b22  (a0_thrown : Int32) (a0_answer : Int32) (a0_there : Int32) (a0_loose : Int32) (a0_onTill : Int32) (a0_minutes : Int32) (a0_byKind : Int32) (a0_stands : Int32) (a0_isFull : Int32) (a0_canBe : Int32) (f_a0_st : Nat → Int32) (f_a0_aside : Nat → Int32) (f_a0_machine : Nat → Int64) (f_a0_busy : Nat → Int32) (f_a0_isDoneBy : Nat → Int32) (f_a0_w : Nat → Int32) (f_a0_longOf : Nat → Int32) (f_a0_rowOf : Nat → Int32) (f_a0_slot : Nat → Int32) (f_a0_doneOf : Nat → Int32) (f_a0_tills : Nat → Int64) (f_a0_nextOf : Nat → Int32) (f_a0_heard : Nat → Int32) (f_a0_leads : Nat → Int32) : Option (Int32 × Int32 × Int32 × Int32 × Int32 × Int32 × Int32 × Int32 × Int32 × Int32 × Int32 × Int32 × (Nat → Int32) × (Nat → Int32) × (Nat → Int64) × (Nat → Int32) × (Nat → Int32) × (Nat → Int32) × (Nat → Int32) × (Nat → Int32) × (Nat → Int32) × (Nat → Int32) × (Nat → Int64) × (Nat → Int32) × (Nat → Int32) × (Nat → Int32)) :=
  bnd2 (F_X10_no (1 : Int32)) fun r24 u24_0 =>
  some (r24, a0_thrown, u24_0, a0_answer, a0_there, a0_loose, a0_onTill, a0_minutes, a0_byKind, a0_stands, a0_isFull, a0_canBe, f_a0_st, f_a0_aside, f_a0_machine, f_a0_busy, f_a0_isDoneBy, f_a0_w, f_a0_longOf, f_a0_rowOf, f_a0_slot, f_a0_doneOf, f_a0_tills, f_a0_nextOf, f_a0_heard, f_a0_leads)
def F_X10_breaks (fu : Nat) (a0_hasBook : Int32) (a0_answer : Int32) (a0_there : Int32) (a0_loose : Int32) (a0_onTill : Int32) (a0_minutes : Int32) (a0_byKind : Int32) (a0_stands : Int32) (a0_isFull : Int32) (a0_canBe : Int32) (f_a0_st : Nat → Int32) (f_a0_aside : Nat → Int32) (f_a0_r : Nat → Int32) (f_a0_machine : Nat → Int64) (f_a0_busy : Nat → Int32) (f_a0_isDoneBy : Nat → Int32) (f_a0_w : Nat → Int32) (f_a0_longOf : Nat → Int32) (f_a0_rowOf : Nat → Int32) (f_a0_slot : Nat → Int32) (f_a0_doneOf : Nat → Int32) (f_a0_tills : Nat → Int64) (f_a0_nextOf : Nat → Int32) (f_a0_heard : Nat → Int32) (f_a0_leads : Nat → Int32) (v1 : Int32) (v2 : Int32) (v3 : Int32) : Option (Int32 × Int32 × Int32 × Int32 × Int32 × Int32 × Int32 × Int32 × Int32 × Int32 × Int32 × Int32 × (Nat → Int32) × (Nat → Int32) × (Nat → Int64) × (Nat → Int32) × (Nat → Int32) × (Nat → Int32) × (Nat → Int32) × (Nat → Int32) × (Nat → Int32) × (Nat → Int32) × (Nat → Int64) × (Nat → Int32) × (Nat → Int32) × (Nat → Int32)) :=
  bnd2 (F_X10_good) fun u1_0 u1_1 =>
  bnd1 (F_X10_isKind a0_hasBook v1 (3 : Int32)) fun r7 =>
  if r7 = 0 then
    F_X10_breaks_b22 u1_0 a0_answer a0_there a0_loose a0_onTill a0_minutes a0_byKind a0_stands a0_isFull a0_canBe f_a0_st f_a0_aside f_a0_machine f_a0_busy f_a0_isDoneBy f_a0_w f_a0_longOf f_a0_rowOf f_a0_slot f_a0_doneOf f_a0_tills f_a0_nextOf f_a0_heard f_a0_leads
  else
  bnd1 (F_X10_within v2 (0 : Int32) (2 : Int32)) fun r16 =>
  if r16 = 0 then
    F_X10_breaks_b22 u1_0 a0_answer a0_there a0_loose a0_onTill a0_minutes a0_byKind a0_stands a0_isFull a0_canBe f_a0_st f_a0_aside f_a0_machine f_a0_busy f_a0_isDoneBy f_a0_w f_a0_longOf f_a0_rowOf f_a0_slot f_a0_doneOf f_a0_tills f_a0_nextOf f_a0_heard f_a0_leads
  else
  bnd1 (F_X10_within v3 (1 : Int32) (8 : Int32)) fun r32 =>
  if r32 = 0 then
    bnd2 (F_X10_no (2 : Int32)) fun r40 u40_0 =>
    some (r40, u1_0, u40_0, a0_answer, a0_there, a0_loose, a0_onTill, a0_minutes, a0_byKind, a0_stands, a0_isFull, a0_canBe, f_a0_st, f_a0_aside, f_a0_machine, f_a0_busy, f_a0_isDoneBy, f_a0_w, f_a0_longOf, f_a0_rowOf, f_a0_slot, f_a0_doneOf, f_a0_tills, f_a0_nextOf, f_a0_heard, f_a0_leads)
  else
  bnd1 (F_X10_copy fu 142 142 f_a0_st f_a0_aside (0 : Int32) (0 : Int32) (142 : Int32)) fun u57_0 =>
  F_X10_breaks_b70 fu u1_0 u1_1 u57_0 f_a0_r v1 v2 v3 fu a0_answer a0_there a0_loose a0_onTill a0_minutes a0_byKind a0_stands a0_isFull a0_canBe f_a0_st f_a0_machine f_a0_busy f_a0_isDoneBy f_a0_w f_a0_longOf f_a0_rowOf f_a0_slot f_a0_doneOf f_a0_tills f_a0_nextOf f_a0_heard f_a0_leads (-2 : Int32) (0 : Int32) (0 : Int32)
def F_X10_answer (a0_hasBook : Int32) (f_a0_st : Nat → Int32) (v1 : Int32) (v2 : Int32) : Option (Int32 × Int32 × Int32 × (Nat → Int32)) :=
  bnd2 (F_X10_good) fun u1_0 u1_1 =>
  bnd1 (F_X10_isCall a0_hasBook f_a0_st v1) fun r6 =>
  if r6 = 0 then
    bnd2 (F_X10_no (1 : Int32)) fun r14 u14_0 =>
    some (r14, u1_0, u14_0, f_a0_st)
  else
  bnd1 (F_X10_within v2 (0 : Int32) (99 : Int32)) fun r22 =>
  if r22 = 0 then
    bnd2 (F_X10_no (2 : Int32)) fun r30 u30_0 =>
    some (r30, u1_0, u30_0, f_a0_st)
  else
  if (((7 : Int32) * v1) + (5 : Int32)) < 0 ∨ 142 ≤ ((((7 : Int32) * v1) + (5 : Int32))).toNatClampNeg then none else
  if (f_a0_st ((((7 : Int32) * v1) + (5 : Int32))).toNatClampNeg) = (-2 : Int32) then
    bnd2 (F_X10_no (5 : Int32)) fun r52 u52_0 =>
    some (r52, u1_0, u52_0, f_a0_st)
  else
  if (((7 : Int32) * v1) + (6 : Int32)) < 0 ∨ 142 ≤ ((((7 : Int32) * v1) + (6 : Int32))).toNatClampNeg then none else
  if (((7 : Int32) * v1) + (6 : Int32)) < 0 ∨ 142 ≤ ((((7 : Int32) * v1) + (6 : Int32))).toNatClampNeg then none else
  some ((f_a0_st ((((7 : Int32) * v1) + (6 : Int32))).toNatClampNeg), u1_0, u1_1, (upd f_a0_st ((((7 : Int32) * v1) + (6 : Int32))).toNatClampNeg v2))
def F_X10_lose_b75  (a0_thrown : Int32) (a0_trouble : Int32) : Nat → (Nat → Int32) → Int32 → Option (Int32 × Int32 × Int32 × (Nat → Int32))
  | 0, _, _ => none
  | kf + 1, f_a0_st, v2 =>
    if (7 : Int32) ≤ v2 then
      some ((1 : Int32), a0_thrown, a0_trouble, f_a0_st)
    else
    if (((7 : Int32) * (f_a0_st (141 : Int32).toNatClampNeg)) + v2) < 0 ∨ 142 ≤ ((((7 : Int32) * (f_a0_st (141 : Int32).toNatClampNeg)) + v2)).toNatClampNeg then none else
    (F_X10_lose_b75 a0_thrown a0_trouble kf) ((upd f_a0_st ((((7 : Int32) * (f_a0_st (141 : Int32).toNatClampNeg)) + v2)).toNatClampNeg (0 : Int32))) ((v2 + (1 : Int32)))
def F_X10_lose_b23  (fu : Nat) (a0_thrown : Int32) (a0_trouble : Int32) : Nat → (Nat → Int32) → Int32 → Option (Int32 × Int32 × Int32 × (Nat → Int32))
  | 0, _, _ => none
  | kf + 1, f_a0_st, v2 =>
    if ((7 : Int32) * ((f_a0_st (141 : Int32).toNatClampNeg) - (1 : Int32))) ≤ v2 then
      F_X10_lose_b75 a0_thrown a0_trouble fu ((upd f_a0_st (141 : Int32).toNatClampNeg ((f_a0_st (141 : Int32).toNatClampNeg) - (1 : Int32)))) (0 : Int32)
    else
    if (v2 + (7 : Int32)) < 0 ∨ 142 ≤ ((v2 + (7 : Int32))).toNatClampNeg then none else
    if v2 < 0 ∨ 142 ≤ v2.toNatClampNeg then none else
    (F_X10_lose_b23 fu a0_thrown a0_trouble kf) ((upd f_a0_st v2.toNatClampNeg (f_a0_st ((v2 + (7 : Int32))).toNatClampNeg))) ((v2 + (1 : Int32)))
def F_X10_lose (fu : Nat) (a0_hasBook : Int32) (f_a0_st : Nat → Int32) (v1 : Int32) : Option (Int32 × Int32 × Int32 × (Nat → Int32)) :=
  bnd2 (F_X10_good) fun u1_0 u1_1 =>
  bnd1 (F_X10_isCall a0_hasBook f_a0_st v1) fun r6 =>
  if r6 = 0 then
    bnd2 (F_X10_isNot (1 : Int32)) fun r14 u14_0 =>
    if ¬ (r14 = 0 ∨ r14 = 1) then none else
    some (r14, u1_0, u14_0, f_a0_st)
  else
    F_X10_lose_b23 fu u1_0 u1_1 fu f_a0_st (((7 : Int32) * v1))
def F_X10_opens_b67 (k38 : Int32 → Int32 → Option (Int32 × Int32 × Int32 × (Nat → Int32))) (a0_thrown : Int32) (a0_trouble : Int32) (f_a0_st : Nat → Int32) (v1 : Int32) (v2 : Int32) (v3 : Int32) : Option (Int32 × Int32 × Int32 × (Nat → Int32)) :=
  k38 v2 ((v3 + (1 : Int32)))
def F_X10_opens_b38  (a0_thrown : Int32) (a0_trouble : Int32) (f_a0_st : Nat → Int32) (v1 : Int32) : Nat → Int32 → Int32 → Option (Int32 × Int32 × Int32 × (Nat → Int32))
  | 0, _, _ => none
  | kf + 1, v2, v3 =>
    if (f_a0_st (141 : Int32).toNatClampNeg) ≤ v3 then
      if 0 ≤ v2 then
        if (((7 : Int32) * v2) + (5 : Int32)) < 0 ∨ 142 ≤ ((((7 : Int32) * v2) + (5 : Int32))).toNatClampNeg then none else
        if (f_a0_st ((((7 : Int32) * v2) + (5 : Int32))).toNatClampNeg) = (-2 : Int32) then
          bnd2 (F_X10_no (5 : Int32)) fun r102 u102_0 =>
          some (r102, a0_thrown, u102_0, f_a0_st)
        else
        if (((7 : Int32) * v2) + (5 : Int32)) < 0 ∨ 142 ≤ ((((7 : Int32) * v2) + (5 : Int32))).toNatClampNeg then none else
        if (((7 : Int32) * v2) + (6 : Int32)) < 0 ∨ 142 ≤ ((((7 : Int32) * v2) + (6 : Int32))).toNatClampNeg then none else
        some (v2, a0_thrown, a0_trouble, (upd ((upd f_a0_st ((((7 : Int32) * v2) + (5 : Int32))).toNatClampNeg (-2 : Int32))) ((((7 : Int32) * v2) + (6 : Int32))).toNatClampNeg (-2 : Int32)))
      else
      bnd2 (F_X10_no (6 : Int32)) fun r80 u80_0 =>
      some (r80, a0_thrown, u80_0, f_a0_st)
    else
    if (((7 : Int32) * v3) + (0 : Int32)) < 0 ∨ 142 ≤ ((((7 : Int32) * v3) + (0 : Int32))).toNatClampNeg then none else
    if (f_a0_st ((((7 : Int32) * v3) + (0 : Int32))).toNatClampNeg) = v1 then
      F_X10_opens_b67 (F_X10_opens_b38 a0_thrown a0_trouble f_a0_st v1 kf) a0_thrown a0_trouble f_a0_st v1 v3 v3
    else
      F_X10_opens_b67 (F_X10_opens_b38 a0_thrown a0_trouble f_a0_st v1 kf) a0_thrown a0_trouble f_a0_st v1 v2 v3
def F_X10_opens_b28  (a0_thrown : Int32) (f_a0_st : Nat → Int32) : Option (Int32 × Int32 × Int32 × (Nat → Int32)) :=
  bnd2 (F_X10_no (1 : Int32)) fun r30 u30_0 =>
  some (r30, a0_thrown, u30_0, f_a0_st)
def F_X10_opens (fu : Nat) (a0_hasBook : Int32) (f_a0_r : Nat → Int32) (f_a0_st : Nat → Int32) (v1 : Int32) : Option (Int32 × Int32 × Int32 × (Nat → Int32)) :=
  bnd2 (F_X10_good) fun u1_0 u1_1 =>
  if a0_hasBook = 0 then
    F_X10_opens_b28 u1_0 f_a0_st
  else
  bnd1 (F_X10_within v1 (0 : Int32) (((f_a0_r (6 : Int32).toNatClampNeg) - (1 : Int32)))) fun r22 =>
  if r22 = 0 then
    F_X10_opens_b28 u1_0 f_a0_st
  else
    F_X10_opens_b38 u1_0 u1_1 f_a0_st v1 fu (-1 : Int32) (0 : Int32)
def F_X10_late (a0_hasBook : Int32) (f_a0_r : Nat → Int32) (v1 : Int32) : Option (Int32 × Int32 × Int32 × (Nat → Int32)) :=
  bnd2 (F_X10_good) fun u1_0 u1_1 =>
  if a0_hasBook = 0 then
    bnd2 (F_X10_no (1 : Int32)) fun r13 u13_0 =>
    some (r13, u1_0, u13_0, f_a0_r)
  else
  bnd1 (F_X10_within v1 (0 : Int32) (99 : Int32)) fun r21 =>
  if r21 = 0 then
    bnd2 (F_X10_no (2 : Int32)) fun r29 u29_0 =>
    some (r29, u1_0, u29_0, f_a0_r)
  else
    some ((f_a0_r (0 : Int32).toNatClampNeg), u1_0, u1_1, (upd f_a0_r (0 : Int32).toNatClampNeg v1))
def F_X10_mark (fu : Nat) (a0_hasBook : Int32) (a0_marks : Int32) (f_a0_st : Nat → Int32) (f_a0_kept : Nat → Int32) : Option (Int32 × Int32 × Int32 × Int32 × (Nat → Int32)) :=
  bnd2 (F_X10_good) fun u1_0 u1_1 =>
  if a0_hasBook = 0 then
    bnd2 (F_X10_no (1 : Int32)) fun r13 u13_0 =>
    some (r13, u1_0, u13_0, a0_marks, f_a0_kept)
  else
  if a0_marks = (3 : Int32) then
    bnd2 (F_X10_no (3 : Int32)) fun r27 u27_0 =>
    some (r27, u1_0, u27_0, a0_marks, f_a0_kept)
  else
  bnd1 (F_X10_copy fu 142 426 f_a0_st f_a0_kept (0 : Int32) (((142 : Int32) * a0_marks)) (142 : Int32)) fun u51_0 =>
  some (((a0_marks + (1 : Int32)) - (1 : Int32)), u1_0, u1_1, (a0_marks + (1 : Int32)), u51_0)
def F_X10_back (fu : Nat) (a0_marks : Int32) (f_a0_kept : Nat → Int32) (f_a0_st : Nat → Int32) (v1 : Int32) : Option (Int32 × Int32 × Int32 × (Nat → Int32)) :=
  bnd2 (F_X10_good) fun u1_0 u1_1 =>
  bnd1 (F_X10_within v1 (0 : Int32) ((a0_marks - (1 : Int32)))) fun r12 =>
  if r12 = 0 then
    bnd2 (F_X10_isNot (1 : Int32)) fun r20 u20_0 =>
    if ¬ (r20 = 0 ∨ r20 = 1) then none else
    some (r20, u1_0, u20_0, f_a0_st)
  else
  bnd1 (F_X10_copy fu 426 142 f_a0_kept f_a0_st (((142 : Int32) * v1)) (0 : Int32) (142 : Int32)) fun u41_0 =>
  some ((1 : Int32), u1_0, u1_1, u41_0)
def F_X10_call_b36  (a0_thrown : Int32) : Option (Int32 × Int32 × Int32) :=
  bnd2 (F_X10_no (1 : Int32)) fun r38 u38_0 =>
  some (r38, a0_thrown, u38_0)
def F_X10_call (a0_hasBook : Int32) (f_a0_st : Nat → Int32) (v1 : Int32) (v2 : Int32) : Option (Int32 × Int32 × Int32) :=
  bnd2 (F_X10_good) fun u1_0 u1_1 =>
  bnd1 (F_X10_isCall a0_hasBook f_a0_st v1) fun r6 =>
  if r6 = 0 then
    F_X10_call_b36 u1_0
  else
  bnd1 (F_X10_within v2 (0 : Int32) (6 : Int32)) fun r16 =>
  if r16 = 0 then
    F_X10_call_b36 u1_0
  else
  if (((7 : Int32) * v1) + v2) < 0 ∨ 142 ≤ ((((7 : Int32) * v1) + v2)).toNatClampNeg then none else
  some ((f_a0_st ((((7 : Int32) * v1) + v2)).toNatClampNeg), u1_0, u1_1)
def F_X10_led_b63   : Option (Int32 × Int32) :=
  some ((0 : Int32), (1 : Int32))
def F_X10_led_b57 (k4 : Int32 → Int32 → Option (Int32 × Int32)) (a0_hasBook : Int32) (f_a0_st : Nat → Int32) (v1 : Int32) (v2 : Int32) (v3 : Int32) : Option (Int32 × Int32) :=
  k4 v2 ((v3 + (1 : Int32)))
def F_X10_led_b4  (a0_hasBook : Int32) (f_a0_st : Nat → Int32) (v1 : Int32) : Nat → Int32 → Int32 → Option (Int32 × Int32)
  | 0, _, _ => none
  | kf + 1, v2, v3 =>
    if a0_hasBook = 0 then
      F_X10_led_b63
    else
    if (f_a0_st (141 : Int32).toNatClampNeg) ≤ v3 then
      F_X10_led_b63
    else
    if (((7 : Int32) * v3) + (5 : Int32)) < 0 ∨ 142 ≤ ((((7 : Int32) * v3) + (5 : Int32))).toNatClampNeg then none else
    if (f_a0_st ((((7 : Int32) * v3) + (5 : Int32))).toNatClampNeg) = (-2 : Int32) then
      if v2 = v1 then
        some (v3, (0 : Int32))
      else
        F_X10_led_b57 (F_X10_led_b4 a0_hasBook f_a0_st v1 kf) a0_hasBook f_a0_st v1 ((v2 + (1 : Int32))) v3
    else
      F_X10_led_b57 (F_X10_led_b4 a0_hasBook f_a0_st v1 kf) a0_hasBook f_a0_st v1 v2 v3
def F_X10_led (fu : Nat) (a0_hasBook : Int32) (f_a0_st : Nat → Int32) (v1 : Int32) : Option (Int32 × Int32) :=
  F_X10_led_b4 a0_hasBook f_a0_st v1 fu (0 : Int32) (0 : Int32)
def F_X10_told (fu : Nat) (a0_taped : Int32) (a0_hasBook : Int32) (a0_marks : Int32) (f_a0_r : Nat → Int32) (f_a0_st : Nat → Int32) (v1 : Int32) : Option (Int32 × Int32) :=
  if v1 = (7 : Int32) then
    some (a0_taped, (0 : Int32))
  else
  if a0_hasBook = 0 then
    bnd1 (F_X10_within v1 (0 : Int32) (6 : Int32)) fun r27 =>
    if r27 = 0 then
      some ((-1 : Int32), (0 : Int32))
    else
      some ((0 : Int32), (0 : Int32))
  else
  if v1 = (0 : Int32) then
    some ((f_a0_r (2 : Int32).toNatClampNeg), (0 : Int32))
  else
  if v1 = (1 : Int32) then
    some ((f_a0_r (6 : Int32).toNatClampNeg), (0 : Int32))
  else
  if v1 = (2 : Int32) then
    some ((f_a0_st (141 : Int32).toNatClampNeg), (0 : Int32))
  else
  if v1 = (3 : Int32) then
    bnd1 (F_X10_endedCalls fu f_a0_st) fun r117 =>
    bnd1 (F_X10_bits fu r117) fun r120 =>
    some (((f_a0_st (141 : Int32).toNatClampNeg) - r120), (0 : Int32))
  else
  if v1 = (4 : Int32) then
    some ((f_a0_r (0 : Int32).toNatClampNeg), (0 : Int32))
  else
  if v1 = (5 : Int32) then
    some ((f_a0_st (140 : Int32).toNatClampNeg), (0 : Int32))
  else
  if v1 = (6 : Int32) then
    some (a0_marks, (0 : Int32))
  else
    some ((-1 : Int32), (0 : Int32))
def F_X10_trouble (a0_trouble : Int32) : Option (Int32 × Int32) :=
  some (a0_trouble, (0 : Int32))
