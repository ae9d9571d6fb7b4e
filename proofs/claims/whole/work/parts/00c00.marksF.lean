def kq3 (x y z : Nat) : Nat → Option Nat := va_up (va_up (va_up (fun _ => none) 0 (some x)) 1 (some y)) 2 (some z)
def F_X9_mark (a0_markCount : Int32) (a0_seedNow : Int32) (a0_shop_told : Int32) (a0_m0_n : Int32) (a0_m1_n : Int32) (a0_m2_n : Int32) (a0_calls_n : Int32) (f_a0_calls_cashiers : Nat → Int32) (f_a0_m0_cashiers : Nat → Int32) (f_a0_calls_tills : Nat → Int32) (f_a0_m0_tills : Nat → Int32) (f_a0_calls_acts : Nat → Int32) (f_a0_m0_acts : Nat → Int32) (f_a0_calls_wholes : Nat → Int32) (f_a0_m0_wholes : Nat → Int32) (f_a0_calls_begins : Nat → Int32) (f_a0_m0_begins : Nat → Int32) (f_a0_calls_ends : Nat → Int32) (f_a0_m0_ends : Nat → Int32) (f_a0_calls_answers : Nat → Int32) (f_a0_m0_answers : Nat → Int32) (f_a0_markSeeds : Nat → Int32) (f_a0_m1_cashiers : Nat → Int32) (f_a0_m1_tills : Nat → Int32) (f_a0_m1_acts : Nat → Int32) (f_a0_m1_wholes : Nat → Int32) (f_a0_m1_begins : Nat → Int32) (f_a0_m1_ends : Nat → Int32) (f_a0_m1_answers : Nat → Int32) (f_a0_m2_cashiers : Nat → Int32) (f_a0_m2_tills : Nat → Int32) (f_a0_m2_acts : Nat → Int32) (f_a0_m2_wholes : Nat → Int32) (f_a0_m2_begins : Nat → Int32) (f_a0_m2_ends : Nat → Int32) (f_a0_m2_answers : Nat → Int32) : Option (Int32 × Int32 × Int32 × Int32 × Int32 × Int32 × (Nat → Int32) × (Nat → Int32) × (Nat → Int32) × (Nat → Int32) × (Nat → Int32) × (Nat → Int32) × (Nat → Int32) × (Nat → Int32) × (Nat → Int32) × (Nat → Int32) × (Nat → Int32) × (Nat → Int32) × (Nat → Int32) × (Nat → Int32) × (Nat → Int32) × (Nat → Int32) × (Nat → Int32) × (Nat → Int32) × (Nat → Int32) × (Nat → Int32) × (Nat → Int32) × (Nat → Int32)) :=
  if a0_shop_told = 0 then
    bnd2 (F_X9_refused (1 : Int32)) fun r12 u12_0 =>
    some (r12, a0_markCount, u12_0, a0_m0_n, a0_m1_n, a0_m2_n, f_a0_m0_cashiers, f_a0_m0_tills, f_a0_m0_acts, f_a0_m0_wholes, f_a0_m0_begins, f_a0_m0_ends, f_a0_m0_answers, f_a0_markSeeds, f_a0_m1_cashiers, f_a0_m1_tills, f_a0_m1_acts, f_a0_m1_wholes, f_a0_m1_begins, f_a0_m1_ends, f_a0_m1_answers, f_a0_m2_cashiers, f_a0_m2_tills, f_a0_m2_acts, f_a0_m2_wholes, f_a0_m2_begins, f_a0_m2_ends, f_a0_m2_answers)
  else
  if a0_markCount < (3 : Int32) then
    if a0_markCount = (0 : Int32) then
      bnd8 (F_X0_takeOver a0_calls_n f_a0_calls_cashiers f_a0_m0_cashiers f_a0_calls_tills f_a0_m0_tills f_a0_calls_acts f_a0_m0_acts f_a0_calls_wholes f_a0_m0_wholes f_a0_calls_begins f_a0_m0_begins f_a0_calls_ends f_a0_m0_ends f_a0_calls_answers f_a0_m0_answers) fun u55_0 u55_1 u55_2 u55_3 u55_4 u55_5 u55_6 u55_7 =>
      if a0_markCount < 0 ∨ 3 ≤ a0_markCount.toNatClampNeg then none else
      bnd2 (F_X9_answered (((a0_markCount + (1 : Int32)) - (1 : Int32)))) fun r88 u88_0 =>
      some (r88, (a0_markCount + (1 : Int32)), u88_0, u55_0, a0_m1_n, a0_m2_n, u55_1, u55_2, u55_3, u55_4, u55_5, u55_6, u55_7, (upd f_a0_markSeeds a0_markCount.toNatClampNeg a0_seedNow), f_a0_m1_cashiers, f_a0_m1_tills, f_a0_m1_acts, f_a0_m1_wholes, f_a0_m1_begins, f_a0_m1_ends, f_a0_m1_answers, f_a0_m2_cashiers, f_a0_m2_tills, f_a0_m2_acts, f_a0_m2_wholes, f_a0_m2_begins, f_a0_m2_ends, f_a0_m2_answers)
    else
    if a0_markCount = (1 : Int32) then
      bnd8 (F_X0_takeOver a0_calls_n f_a0_calls_cashiers f_a0_m1_cashiers f_a0_calls_tills f_a0_m1_tills f_a0_calls_acts f_a0_m1_acts f_a0_calls_wholes f_a0_m1_wholes f_a0_calls_begins f_a0_m1_begins f_a0_calls_ends f_a0_m1_ends f_a0_calls_answers f_a0_m1_answers) fun u55_0 u55_1 u55_2 u55_3 u55_4 u55_5 u55_6 u55_7 =>
      if a0_markCount < 0 ∨ 3 ≤ a0_markCount.toNatClampNeg then none else
      bnd2 (F_X9_answered (((a0_markCount + (1 : Int32)) - (1 : Int32)))) fun r88 u88_0 =>
      some (r88, (a0_markCount + (1 : Int32)), u88_0, a0_m0_n, u55_0, a0_m2_n, f_a0_m0_cashiers, f_a0_m0_tills, f_a0_m0_acts, f_a0_m0_wholes, f_a0_m0_begins, f_a0_m0_ends, f_a0_m0_answers, (upd f_a0_markSeeds a0_markCount.toNatClampNeg a0_seedNow), u55_1, u55_2, u55_3, u55_4, u55_5, u55_6, u55_7, f_a0_m2_cashiers, f_a0_m2_tills, f_a0_m2_acts, f_a0_m2_wholes, f_a0_m2_begins, f_a0_m2_ends, f_a0_m2_answers)
    else
    if ¬ (a0_markCount = (2 : Int32)) then none else
    bnd8 (F_X0_takeOver a0_calls_n f_a0_calls_cashiers f_a0_m2_cashiers f_a0_calls_tills f_a0_m2_tills f_a0_calls_acts f_a0_m2_acts f_a0_calls_wholes f_a0_m2_wholes f_a0_calls_begins f_a0_m2_begins f_a0_calls_ends f_a0_m2_ends f_a0_calls_answers f_a0_m2_answers) fun u55_0 u55_1 u55_2 u55_3 u55_4 u55_5 u55_6 u55_7 =>
    if a0_markCount < 0 ∨ 3 ≤ a0_markCount.toNatClampNeg then none else
    bnd2 (F_X9_answered (((a0_markCount + (1 : Int32)) - (1 : Int32)))) fun r88 u88_0 =>
    some (r88, (a0_markCount + (1 : Int32)), u88_0, a0_m0_n, a0_m1_n, u55_0, f_a0_m0_cashiers, f_a0_m0_tills, f_a0_m0_acts, f_a0_m0_wholes, f_a0_m0_begins, f_a0_m0_ends, f_a0_m0_answers, (upd f_a0_markSeeds a0_markCount.toNatClampNeg a0_seedNow), f_a0_m1_cashiers, f_a0_m1_tills, f_a0_m1_acts, f_a0_m1_wholes, f_a0_m1_begins, f_a0_m1_ends, f_a0_m1_answers, u55_1, u55_2, u55_3, u55_4, u55_5, u55_6, u55_7)
  else
  bnd2 (F_X9_refused (3 : Int32)) fun r26 u26_0 =>
  some (r26, a0_markCount, u26_0, a0_m0_n, a0_m1_n, a0_m2_n, f_a0_m0_cashiers, f_a0_m0_tills, f_a0_m0_acts, f_a0_m0_wholes, f_a0_m0_begins, f_a0_m0_ends, f_a0_m0_answers, f_a0_markSeeds, f_a0_m1_cashiers, f_a0_m1_tills, f_a0_m1_acts, f_a0_m1_wholes, f_a0_m1_begins, f_a0_m1_ends, f_a0_m1_answers, f_a0_m2_cashiers, f_a0_m2_tills, f_a0_m2_acts, f_a0_m2_wholes, f_a0_m2_begins, f_a0_m2_ends, f_a0_m2_answers)
def F_X9_back_b17  (a0_seedNow : Int32) (a0_calls_n : Int32) (f_a0_calls_cashiers : Nat → Int32) (f_a0_calls_tills : Nat → Int32) (f_a0_calls_acts : Nat → Int32) (f_a0_calls_wholes : Nat → Int32) (f_a0_calls_begins : Nat → Int32) (f_a0_calls_ends : Nat → Int32) (f_a0_calls_answers : Nat → Int32) : Option (Int32 × Int32 × Int32 × Int32 × (Nat → Int32) × (Nat → Int32) × (Nat → Int32) × (Nat → Int32) × (Nat → Int32) × (Nat → Int32) × (Nat → Int32)) :=
  bnd2 (F_X9_allowed (1 : Int32)) fun r19 u19_0 =>
  if ¬ (r19 = 0 ∨ r19 = 1) then none else
  some (r19, a0_seedNow, u19_0, a0_calls_n, f_a0_calls_cashiers, f_a0_calls_tills, f_a0_calls_acts, f_a0_calls_wholes, f_a0_calls_begins, f_a0_calls_ends, f_a0_calls_answers)
def F_X9_back (a0_markCount : Int32) (a0_seedNow : Int32) (a0_m0_n : Int32) (a0_m1_n : Int32) (a0_m2_n : Int32) (a0_calls_n : Int32) (f_a0_m0_cashiers : Nat → Int32) (f_a0_calls_cashiers : Nat → Int32) (f_a0_m0_tills : Nat → Int32) (f_a0_calls_tills : Nat → Int32) (f_a0_m0_acts : Nat → Int32) (f_a0_calls_acts : Nat → Int32) (f_a0_m0_wholes : Nat → Int32) (f_a0_calls_wholes : Nat → Int32) (f_a0_m0_begins : Nat → Int32) (f_a0_calls_begins : Nat → Int32) (f_a0_m0_ends : Nat → Int32) (f_a0_calls_ends : Nat → Int32) (f_a0_m0_answers : Nat → Int32) (f_a0_calls_answers : Nat → Int32) (f_a0_markSeeds : Nat → Int32) (f_a0_m1_cashiers : Nat → Int32) (f_a0_m1_tills : Nat → Int32) (f_a0_m1_acts : Nat → Int32) (f_a0_m1_wholes : Nat → Int32) (f_a0_m1_begins : Nat → Int32) (f_a0_m1_ends : Nat → Int32) (f_a0_m1_answers : Nat → Int32) (f_a0_m2_cashiers : Nat → Int32) (f_a0_m2_tills : Nat → Int32) (f_a0_m2_acts : Nat → Int32) (f_a0_m2_wholes : Nat → Int32) (f_a0_m2_begins : Nat → Int32) (f_a0_m2_ends : Nat → Int32) (f_a0_m2_answers : Nat → Int32) (v1 : Int32) : Option (Int32 × Int32 × Int32 × Int32 × (Nat → Int32) × (Nat → Int32) × (Nat → Int32) × (Nat → Int32) × (Nat → Int32) × (Nat → Int32) × (Nat → Int32)) :=
  if v1 < 0 then
    F_X9_back_b17 a0_seedNow a0_calls_n f_a0_calls_cashiers f_a0_calls_tills f_a0_calls_acts f_a0_calls_wholes f_a0_calls_begins f_a0_calls_ends f_a0_calls_answers
  else
  if a0_markCount ≤ v1 then
    F_X9_back_b17 a0_seedNow a0_calls_n f_a0_calls_cashiers f_a0_calls_tills f_a0_calls_acts f_a0_calls_wholes f_a0_calls_begins f_a0_calls_ends f_a0_calls_answers
  else
  if v1 < (3 : Int32) then
    if v1 = (0 : Int32) then
      bnd8 (F_X0_takeOver a0_m0_n f_a0_m0_cashiers f_a0_calls_cashiers f_a0_m0_tills f_a0_calls_tills f_a0_m0_acts f_a0_calls_acts f_a0_m0_wholes f_a0_calls_wholes f_a0_m0_begins f_a0_calls_begins f_a0_m0_ends f_a0_calls_ends f_a0_m0_answers f_a0_calls_answers) fun u45_0 u45_1 u45_2 u45_3 u45_4 u45_5 u45_6 u45_7 =>
      if v1 < 0 ∨ 3 ≤ v1.toNatClampNeg then none else
      bnd2 (F_X9_allowed (0 : Int32)) fun r60 u60_0 =>
      if ¬ (r60 = 0 ∨ r60 = 1) then none else
      some (r60, (f_a0_markSeeds v1.toNatClampNeg), u60_0, u45_0, u45_1, u45_2, u45_3, u45_4, u45_5, u45_6, u45_7)
    else
    if v1 = (1 : Int32) then
      bnd8 (F_X0_takeOver a0_m1_n f_a0_m1_cashiers f_a0_calls_cashiers f_a0_m1_tills f_a0_calls_tills f_a0_m1_acts f_a0_calls_acts f_a0_m1_wholes f_a0_calls_wholes f_a0_m1_begins f_a0_calls_begins f_a0_m1_ends f_a0_calls_ends f_a0_m1_answers f_a0_calls_answers) fun u45_0 u45_1 u45_2 u45_3 u45_4 u45_5 u45_6 u45_7 =>
      if v1 < 0 ∨ 3 ≤ v1.toNatClampNeg then none else
      bnd2 (F_X9_allowed (0 : Int32)) fun r60 u60_0 =>
      if ¬ (r60 = 0 ∨ r60 = 1) then none else
      some (r60, (f_a0_markSeeds v1.toNatClampNeg), u60_0, u45_0, u45_1, u45_2, u45_3, u45_4, u45_5, u45_6, u45_7)
    else
    if ¬ (v1 = (2 : Int32)) then none else
    bnd8 (F_X0_takeOver a0_m2_n f_a0_m2_cashiers f_a0_calls_cashiers f_a0_m2_tills f_a0_calls_tills f_a0_m2_acts f_a0_calls_acts f_a0_m2_wholes f_a0_calls_wholes f_a0_m2_begins f_a0_calls_begins f_a0_m2_ends f_a0_calls_ends f_a0_m2_answers f_a0_calls_answers) fun u45_0 u45_1 u45_2 u45_3 u45_4 u45_5 u45_6 u45_7 =>
    if v1 < 0 ∨ 3 ≤ v1.toNatClampNeg then none else
    bnd2 (F_X9_allowed (0 : Int32)) fun r60 u60_0 =>
    if ¬ (r60 = 0 ∨ r60 = 1) then none else
    some (r60, (f_a0_markSeeds v1.toNatClampNeg), u60_0, u45_0, u45_1, u45_2, u45_3, u45_4, u45_5, u45_6, u45_7)
  else
    F_X9_back_b17 a0_seedNow a0_calls_n f_a0_calls_cashiers f_a0_calls_tills f_a0_calls_acts f_a0_calls_wholes f_a0_calls_begins f_a0_calls_ends f_a0_calls_answers
