section
theorem and31 (v : Int32) : ∃ k, k < 32 ∧ v &&& 31 = nI k := by
  refine ⟨v.toBitVec.toNat % 32, Nat.mod_lt _ (by decide), ?_⟩
  apply Int32.toBitVec_inj.mp
  apply BitVec.eq_of_toNat_eq
  have h1 : (v &&& 31).toBitVec.toNat = v.toBitVec.toNat &&& (2 ^ 5 - 1) := by
    rw [Int32.toBitVec_and, BitVec.toNat_and]
    rfl
  have h2 : (nI (v.toBitVec.toNat % 32)).toBitVec.toNat = v.toBitVec.toNat % 32 % 2 ^ 32 := BitVec.toNat_ofNat _ _
  rw [h1, h2, Nat.and_two_pow_sub_one_eq_mod]
  omega
theorem law_small : ∀ L, L < 6 → ∀ i, i < 6 → Int32.ofNat L - 6 < nI i := by decide +kernel
theorem law_le {i L : Nat} (hL : L ≤ 3072) (hi : i ≤ L) (h : ¬ Int32.ofNat L - 6 < nI i) : i + 6 ≤ L := by
  by_cases c : 6 ≤ L
  · have e : Int32.ofNat L - 6 = nI (L - 6) := zq_sub c
    rw [e, zd_lt (by omega) (by omega)] at h
    omega
  · exact absurd (law_small L (by omega) i (by omega)) h
set_option maxHeartbeats 4000000 in
set_option maxRecDepth 100000 in
theorem law_loop {p : Program} {l : Launch} {e : Env} {s : State} {m : MethodId} {below : List Frame} {meth : Method} {c : Code} {D : va_G} {cyI cyJ cyZ cyO : ClassId} {xa xb xo b L fu sN : Nat} {q r adK adV : Nat → Nat} {xs : Nat → Int32} (hfu : 20000 ≤ fu) (hlt : l.stackTraces = false) (hL : L ≤ 3072) (C0 : lw_At p s m meth c b L xs) (hK : va_K D vwCl (wT cyI cyJ cyZ cyO) s) (hE : eS adK adV (fun z => s.heap.size ≤ z) s s.heap) (hXs : xS sN (fun z => s.heap.size ≤ z) s s.heap) :
    ∀ (n i cells slots : Nat), i ≤ L → L + 1 ≤ i + n → cells ≤ 200 + i → slots ≤ 200000 + i → ∀ ls : Array Slot, lv_has ls 7 [(0, .ref b), (1, .ref xa), (2, .ref xb), (3, .ref xo), (4, .int (nI (i)))] → GK D cyI cyJ cyZ cyO xa xb xo q r (fun z => s.heap.size ≤ z) s.heap (fun H locs => W p l e room_1 s m #[Value.ref b] below meth c H locs cells slots (lw_Z below #[Value.ref b] s) (F0 m 23 ls [])) := by
  obtain ⟨hx, hb, hr, hml, hown, hts, hX, hbl, hlocks, hgv⟩ := C0
  have hG : ∀ w ∈ gW, w.before #[Value.ref b] s = true := fun w hw => hts w (List.mem_filter.mp hw).1
  have hown : s.vm.findClass RL = some m.cls := hown
  have hb : c.code = cL_law := hb
  intro n
  induction n with
  | zero =>
    intro i cells slots h1 h2
    exact absurd h2 (by omega)
  | succ n ih =>
    intro i cells slots hi hin hc hs ls hl
    unfold GK
    intro a0_markCount a0_seedNow a0_lastTrouble a0_reader_lawTold a0_reader_fault a0_reader_place a0_reader_cashier a0_reader_till a0_reader_act a0_reader_actWhole a0_reader_tape_length a0_reader_tape_behind a0_reader_tape_fed a0_reader_tape_sort a0_reader_tape_place a0_reader_tape_whole a0_reader_tape_word f_a0_reader_tape_bytes a0_reader_shop_told a0_reader_shop_tills a0_reader_shop_cashiers a0_reader_shop_late a0_reader_calls_n f_a0_reader_cashierNames f_a0_reader_calls_cashiers f_a0_reader_calls_ends f_a0_reader_tillNames f_a0_reader_shop_kinds f_a0_reader_calls_tills f_a0_reader_calls_acts f_a0_reader_calls_wholes f_a0_reader_calls_begins f_a0_reader_calls_answers a0_shop_told a0_shop_tills a0_shop_cashiers a0_shop_late f_a0_shop_kinds a0_calls_n f_a0_calls_cashiers f_a0_calls_tills f_a0_calls_acts f_a0_calls_wholes f_a0_calls_begins f_a0_calls_ends f_a0_calls_answers a0_judge_setCount a0_judge_rules_there a0_judge_rules_must a0_judge_rules_strict a0_judge_rules_timed f_a0_judge_rules_own f_a0_judge_rules_ahead a0_judge_stands_calls a0_judge_stands_base a0_judge_stands_count f_a0_judge_stands_table f_a0_judge_stands_done f_a0_judge_stands_tills f_a0_judge_stands_leads f_a0_judge_stands_ways f_a0_judge_path f_a0_judge_setsOf f_a0_judge_sets f_a0_judge_could a0_maker_seed f_a0_maker_phases f_a0_maker_tills f_a0_maker_doing f_a0_maker_answers a0_made_n f_a0_made_cashiers f_a0_made_tills f_a0_made_acts f_a0_made_wholes f_a0_made_begins f_a0_made_ends f_a0_made_answers a0_m0_n a0_m1_n a0_m2_n f_a0_m0_cashiers f_a0_m0_tills f_a0_m0_acts f_a0_m0_wholes f_a0_m0_begins f_a0_m0_ends f_a0_m0_answers f_a0_markSeeds f_a0_m1_cashiers f_a0_m1_tills f_a0_m1_acts f_a0_m1_wholes f_a0_m1_begins f_a0_m1_ends f_a0_m1_answers f_a0_m2_cashiers f_a0_m2_tills f_a0_m2_acts f_a0_m2_wholes f_a0_m2_begins f_a0_m2_ends f_a0_m2_answers b0_thrown b0_taped b0_size b0_at b0_end b0_token b0_whole b0_nameSize b0_fault b0_place b0_trouble b0_failed b0_hasBook b0_marks b0_answer b0_there b0_loose b0_onTill b0_minutes b0_byKind b0_stands b0_isFull b0_canBe f_b0_tape f_b0_fresh f_b0_letters f_b0_newCalls f_b0_r f_b0_st f_b0_w f_b0_longOf f_b0_rowOf f_b0_slot f_b0_doneOf f_b0_tills f_b0_nextOf f_b0_heard f_b0_leads f_b0_ways f_b0_first f_b0_brings f_b0_byEnd f_b0_could f_b0_machine f_b0_busy f_b0_isDoneBy f_b0_aside f_b0_kept fo H locs hP hD hS hI
    have hbA : ¬ (fun z => s.heap.size ≤ z) b := Nat.not_le.mpr hbl
    refine lv_iload hx hb dL_law_23 (lv_at hl 4 rfl) ?_
    refine lv_aload_n hx hb dL_law_25 rfl (lv_at hl 0 rfl) ?_
    refine va_slen hx hb hX hbl hbA hS dL_law_26 ?_
    refine lv_bipush (v := (6 : Int32)) hx hb dL_law_27 (by decide) ?_
    refine lv_isub hx hb dL_law_29 ?_
    refine lv_icmp_gt (tgt := 1146) hx hb dL_law_30 (by decide) (fun h => ?_) (fun h => ?_)
    · refine lv_iconst (v := 1) hx hb dL_law_1146 (by decide) ?_
      refine va_forget (fun z hz => hS.2.2 z hz) ?_
      refine W.widen (k := 601024) (n := 7293034) (by omega) (by omega) ?_
      exact lw_ret hx hb hr hlocks dL_law_1147
    · have hi6 : i + 6 ≤ L := law_le hL hi h
      refine lv_aload_n hx hb dL_law_33 rfl (lv_at hl 0 rfl) ?_
      refine lv_iload hx hb dL_law_34 (lv_at hl 4 rfl) ?_
      refine va_sld hx hb hX hbl hbA hS (vp_in_nI (by omega) (by omega)) dL_law_36 ?_
      refine lv_bipush (v := (31 : Int32)) hx hb dL_law_37 (by decide) ?_
      refine lv_iand hx hb dL_law_39 ?_
      obtain ⟨k, hk, hke⟩ := and31 (xs (nI i).toNatClampNeg)
      rw [hke]
      have hcs : cells + 0 ≤ room_1.cells ∧ slots + 0 ≤ room_1.slots := ⟨show cells + 0 ≤ 601024 by omega, show slots + 0 ≤ 7293034 by omega⟩
      have hcl : cells + 1 ≤ room_1.cells ∧ slots + 6 ≤ room_1.slots := ⟨show cells + 1 ≤ 601024 by omega, show slots + 6 ≤ 7293034 by omega⟩
      have nx : ∀ (cells' slots' : Nat), cells' ≤ cells + 1 → slots' ≤ slots + 6 → ∀ ls : Array Slot, lv_has ls 7 [(0, .ref b), (1, .ref xa), (2, .ref xb), (3, .ref xo), (4, .int (nI (i)))] → GK D cyI cyJ cyZ cyO xa xb xo q r (fun z => s.heap.size ≤ z) s.heap (fun H1 locs1 => W p l e room_1 s m #[Value.ref b] below meth c H1 locs1 cells' slots' (lw_Z below #[Value.ref b] s) (F0 m 1140 ls [])) := by
        intro c1 s1 hc1 hs1 ls hl
        unfold GK
        intro a0_markCount a0_seedNow a0_lastTrouble a0_reader_lawTold a0_reader_fault a0_reader_place a0_reader_cashier a0_reader_till a0_reader_act a0_reader_actWhole a0_reader_tape_length a0_reader_tape_behind a0_reader_tape_fed a0_reader_tape_sort a0_reader_tape_place a0_reader_tape_whole a0_reader_tape_word f_a0_reader_tape_bytes a0_reader_shop_told a0_reader_shop_tills a0_reader_shop_cashiers a0_reader_shop_late a0_reader_calls_n f_a0_reader_cashierNames f_a0_reader_calls_cashiers f_a0_reader_calls_ends f_a0_reader_tillNames f_a0_reader_shop_kinds f_a0_reader_calls_tills f_a0_reader_calls_acts f_a0_reader_calls_wholes f_a0_reader_calls_begins f_a0_reader_calls_answers a0_shop_told a0_shop_tills a0_shop_cashiers a0_shop_late f_a0_shop_kinds a0_calls_n f_a0_calls_cashiers f_a0_calls_tills f_a0_calls_acts f_a0_calls_wholes f_a0_calls_begins f_a0_calls_ends f_a0_calls_answers a0_judge_setCount a0_judge_rules_there a0_judge_rules_must a0_judge_rules_strict a0_judge_rules_timed f_a0_judge_rules_own f_a0_judge_rules_ahead a0_judge_stands_calls a0_judge_stands_base a0_judge_stands_count f_a0_judge_stands_table f_a0_judge_stands_done f_a0_judge_stands_tills f_a0_judge_stands_leads f_a0_judge_stands_ways f_a0_judge_path f_a0_judge_setsOf f_a0_judge_sets f_a0_judge_could a0_maker_seed f_a0_maker_phases f_a0_maker_tills f_a0_maker_doing f_a0_maker_answers a0_made_n f_a0_made_cashiers f_a0_made_tills f_a0_made_acts f_a0_made_wholes f_a0_made_begins f_a0_made_ends f_a0_made_answers a0_m0_n a0_m1_n a0_m2_n f_a0_m0_cashiers f_a0_m0_tills f_a0_m0_acts f_a0_m0_wholes f_a0_m0_begins f_a0_m0_ends f_a0_m0_answers f_a0_markSeeds f_a0_m1_cashiers f_a0_m1_tills f_a0_m1_acts f_a0_m1_wholes f_a0_m1_begins f_a0_m1_ends f_a0_m1_answers f_a0_m2_cashiers f_a0_m2_tills f_a0_m2_acts f_a0_m2_wholes f_a0_m2_begins f_a0_m2_ends f_a0_m2_answers b0_thrown b0_taped b0_size b0_at b0_end b0_token b0_whole b0_nameSize b0_fault b0_place b0_trouble b0_failed b0_hasBook b0_marks b0_answer b0_there b0_loose b0_onTill b0_minutes b0_byKind b0_stands b0_isFull b0_canBe f_b0_tape f_b0_fresh f_b0_letters f_b0_newCalls f_b0_r f_b0_st f_b0_w f_b0_longOf f_b0_rowOf f_b0_slot f_b0_doneOf f_b0_tills f_b0_nextOf f_b0_heard f_b0_leads f_b0_ways f_b0_first f_b0_brings f_b0_byEnd f_b0_could f_b0_machine f_b0_busy f_b0_isDoneBy f_b0_aside f_b0_kept fo H locs hP hD hS hI
        refine lv_iinc (v := nI (i + 6)) (lv' := [(4, .int (nI (i + 6))), (0, .ref b), (1, .ref xa), (2, .ref xb), (3, .ref xo)]) hx hb dL_law_1140 hl (k := 4) rfl (by rw [show Int32.ofInt 6 = nI 6 by decide]; exact zq_add i 6) (by decide) rfl (fun ls hl => ?_)
        refine lv_goto (tgt := 23) hx hb dL_law_1143 (by decide) ?_
        exact ih (i + 6) c1 s1 hi6 (by omega) (by omega) (by omega) ls (lv_sub hl [1, 2, 3, 4, 0] rfl) a0_markCount a0_seedNow a0_lastTrouble a0_reader_lawTold a0_reader_fault a0_reader_place a0_reader_cashier a0_reader_till a0_reader_act a0_reader_actWhole a0_reader_tape_length a0_reader_tape_behind a0_reader_tape_fed a0_reader_tape_sort a0_reader_tape_place a0_reader_tape_whole a0_reader_tape_word f_a0_reader_tape_bytes a0_reader_shop_told a0_reader_shop_tills a0_reader_shop_cashiers a0_reader_shop_late a0_reader_calls_n f_a0_reader_cashierNames f_a0_reader_calls_cashiers f_a0_reader_calls_ends f_a0_reader_tillNames f_a0_reader_shop_kinds f_a0_reader_calls_tills f_a0_reader_calls_acts f_a0_reader_calls_wholes f_a0_reader_calls_begins f_a0_reader_calls_answers a0_shop_told a0_shop_tills a0_shop_cashiers a0_shop_late f_a0_shop_kinds a0_calls_n f_a0_calls_cashiers f_a0_calls_tills f_a0_calls_acts f_a0_calls_wholes f_a0_calls_begins f_a0_calls_ends f_a0_calls_answers a0_judge_setCount a0_judge_rules_there a0_judge_rules_must a0_judge_rules_strict a0_judge_rules_timed f_a0_judge_rules_own f_a0_judge_rules_ahead a0_judge_stands_calls a0_judge_stands_base a0_judge_stands_count f_a0_judge_stands_table f_a0_judge_stands_done f_a0_judge_stands_tills f_a0_judge_stands_leads f_a0_judge_stands_ways f_a0_judge_path f_a0_judge_setsOf f_a0_judge_sets f_a0_judge_could a0_maker_seed f_a0_maker_phases f_a0_maker_tills f_a0_maker_doing f_a0_maker_answers a0_made_n f_a0_made_cashiers f_a0_made_tills f_a0_made_acts f_a0_made_wholes f_a0_made_begins f_a0_made_ends f_a0_made_answers a0_m0_n a0_m1_n a0_m2_n f_a0_m0_cashiers f_a0_m0_tills f_a0_m0_acts f_a0_m0_wholes f_a0_m0_begins f_a0_m0_ends f_a0_m0_answers f_a0_markSeeds f_a0_m1_cashiers f_a0_m1_tills f_a0_m1_acts f_a0_m1_wholes f_a0_m1_begins f_a0_m1_ends f_a0_m1_answers f_a0_m2_cashiers f_a0_m2_tills f_a0_m2_acts f_a0_m2_wholes f_a0_m2_begins f_a0_m2_ends f_a0_m2_answers b0_thrown b0_taped b0_size b0_at b0_end b0_token b0_whole b0_nameSize b0_fault b0_place b0_trouble b0_failed b0_hasBook b0_marks b0_answer b0_there b0_loose b0_onTill b0_minutes b0_byKind b0_stands b0_isFull b0_canBe f_b0_tape f_b0_fresh f_b0_letters f_b0_newCalls f_b0_r f_b0_st f_b0_w f_b0_longOf f_b0_rowOf f_b0_slot f_b0_doneOf f_b0_tills f_b0_nextOf f_b0_heard f_b0_leads f_b0_ways f_b0_first f_b0_brings f_b0_byEnd f_b0_could f_b0_machine f_b0_busy f_b0_isDoneBy f_b0_aside f_b0_kept fo H locs hP hD hS hI
      have nx0 := nx cells slots (by omega) (by omega) ls hl
      match k, hk with
      | 0, _ =>
        refine lv_tableIn (tgt := 184) (off := 144) hx hb dL_law_40 (by decide +kernel) (by decide +kernel) rfl (by decide) ?_
        exact lc_feed hfu hx hb hml hown hG hK hX hbl hi6 hL hcs hP hD hS hI hl nx0
      | 1, _ =>
        refine lv_tableIn (tgt := 257) (off := 217) hx hb dL_law_40 (by decide +kernel) (by decide +kernel) rfl (by decide) ?_
        exact lc_book hfu hx hb hml hown hG hK hX hbl hi6 hL hE hcs hP hD hS hI hl nx0
      | 2, _ =>
        refine lv_tableIn (tgt := 282) (off := 242) hx hb dL_law_40 (by decide +kernel) (by decide +kernel) rfl (by decide) ?_
        exact lc_fault hfu hx hb hml hown hG hK hX hbl hi6 hL hcs hP hD hS hI hl nx0
      | 3, _ =>
        refine lv_tableIn (tgt := 295) (off := 255) hx hb dL_law_40 (by decide +kernel) (by decide +kernel) rfl (by decide) ?_
        exact lc_where hfu hx hb hml hown hG hK hX hbl hi6 hL hcs hP hD hS hI hl nx0
      | 4, _ =>
        refine lv_tableIn (tgt := 308) (off := 268) hx hb dL_law_40 (by decide +kernel) (by decide +kernel) rfl (by decide) ?_
        exact lc_can hfu hx hb hml hown hG hK hX hbl hi6 hL hcs hP hD hS hI hl nx0
      | 5, _ =>
        refine lv_tableIn (tgt := 333) (off := 293) hx hb dL_law_40 (by decide +kernel) (by decide +kernel) rfl (by decide) ?_
        exact lc_orders hfu hx hb hml hown hG hK hX hbl hi6 hL hcs hP hD hS hI hl nx0
      | 6, _ =>
        refine lv_tableIn (tgt := 359) (off := 319) hx hb dL_law_40 (by decide +kernel) (by decide +kernel) rfl (by decide) ?_
        exact lc_size hfu hx hb hml hown hG hK hX hbl hi6 hL hcs hP hD hS hI hl nx0
      | 7, _ =>
        refine lv_tableIn (tgt := 384) (off := 344) hx hb dL_law_40 (by decide +kernel) (by decide +kernel) rfl (by decide) ?_
        exact lc_order hfu hx hb hml hown hG hK hX hbl hi6 hL hcs hP hD hS hI hl nx0
      | 8, _ =>
        refine lv_tableIn (tgt := 421) (off := 381) hx hb dL_law_40 (by decide +kernel) (by decide +kernel) rfl (by decide) ?_
        exact lc_stands hfu hx hb hml hown hG hK hX hbl hi6 hL hcs hP hD hS hI hl nx0
      | 9, _ =>
        refine lv_tableIn (tgt := 446) (off := 406) hx hb dL_law_40 (by decide +kernel) (by decide +kernel) rfl (by decide) ?_
        exact lc_ends hfu hx hb hml hown hG hK hX hbl hi6 hL hcs hP hD hS hI hl nx0
      | 10, _ =>
        refine lv_tableIn (tgt := 471) (off := 431) hx hb dL_law_40 (by decide +kernel) (by decide +kernel) rfl (by decide) ?_
        exact lc_firsts hfu hx hb hml hown hG hK hX hbl hi6 hL hcs hP hD hS hI hl nx0
      | 11, _ =>
        refine lv_tableIn (tgt := 496) (off := 456) hx hb dL_law_40 (by decide +kernel) (by decide +kernel) rfl (by decide) ?_
        exact lc_ahead hfu hx hb hml hown hG hK hX hbl hi6 hL hcs hP hD hS hI hl nx0
      | 12, _ =>
        refine lv_tableIn (tgt := 545) (off := 505) hx hb dL_law_40 (by decide +kernel) (by decide +kernel) rfl (by decide) ?_
        exact lc_each hfu hx hb hml hown hG hK hX hbl hi6 hL hcs hP hD hS hI hl nx0
      | 13, _ =>
        refine lv_tableIn (tgt := 570) (off := 530) hx hb dL_law_40 (by decide +kernel) (by decide +kernel) rfl (by decide) ?_
        exact lc_bad hfu hx hb hml hown hG hK hX hbl hi6 hL hcs hP hD hS hI hl nx0
      | 14, _ =>
        refine lv_tableIn (tgt := 595) (off := 555) hx hb dL_law_40 (by decide +kernel) (by decide +kernel) rfl (by decide) ?_
        exact lc_core hfu hx hb hml hown hG hK hX hbl hi6 hL hcs hP hD hS hI hl nx0
      | 15, _ =>
        refine lv_tableIn (tgt := 620) (off := 580) hx hb dL_law_40 (by decide +kernel) (by decide +kernel) rfl (by decide) ?_
        exact lc_mends hfu hx hb hml hown hG hK hX hbl hi6 hL hcs hP hD hS hI hl nx0
      | 16, _ =>
        refine lv_tableIn (tgt := 633) (off := 593) hx hb dL_law_40 (by decide +kernel) (by decide +kernel) rfl (by decide) ?_
        exact lc_enough hfu hx hb hml hown hG hK hX hbl hi6 hL hcs hP hD hS hI hl nx0
      | 17, _ =>
        refine lv_tableIn (tgt := 646) (off := 606) hx hb dL_law_40 (by decide +kernel) (by decide +kernel) rfl (by decide) ?_
        exact lc_could hfu hx hb hml hown hG hK hX hbl hi6 hL hcs hP hD hS hI hl nx0
      | 18, _ =>
        refine lv_tableIn (tgt := 683) (off := 643) hx hb dL_law_40 (by decide +kernel) (by decide +kernel) rfl (by decide) ?_
        exact lc_couldTell hfu hx hb hml hown hG hK hX hbl hi6 hL hcs hP hD hS hI hl nx0
      | 19, _ =>
        refine lv_tableIn (tgt := 748) (off := 708) hx hb dL_law_40 (by decide +kernel) (by decide +kernel) rfl (by decide) ?_
        exact lc_seed hfu hx hb hml hown hG hK hX hbl hi6 hL hcs hP hD hS hI hl nx0
      | 20, _ =>
        refine lv_tableIn (tgt := 773) (off := 733) hx hb dL_law_40 (by decide +kernel) (by decide +kernel) rfl (by decide) ?_
        exact lc_make hfu hx hb hml hown hG hK hX hbl hi6 hL hcs hP hD hS hI hl nx0
      | 21, _ =>
        refine lv_tableIn (tgt := 810) (off := 770) hx hb dL_law_40 (by decide +kernel) (by decide +kernel) rfl (by decide) ?_
        exact lc_breaks hfu hx hb hml hown hG hK hX hbl hi6 hL hcs hP hD hS hI hl nx0
      | 22, _ =>
        refine lv_tableIn (tgt := 859) (off := 819) hx hb dL_law_40 (by decide +kernel) (by decide +kernel) rfl (by decide) ?_
        exact lc_answer hfu hx hb hml hown hG hK hX hbl hi6 hL hcs hP hD hS hI hl nx0
      | 23, _ =>
        refine lv_tableIn (tgt := 896) (off := 856) hx hb dL_law_40 (by decide +kernel) (by decide +kernel) rfl (by decide) ?_
        exact lc_lose hfu hx hb hml hown hG hK hX hbl hi6 hL hcs hP hD hS hI hl nx0
      | 24, _ =>
        refine lv_tableIn (tgt := 921) (off := 881) hx hb dL_law_40 (by decide +kernel) (by decide +kernel) rfl (by decide) ?_
        exact lc_opens hfu hx hb hml hown hG hK hX hbl hi6 hL hcs hP hD hS hI hl nx0
      | 25, _ =>
        refine lv_tableIn (tgt := 946) (off := 906) hx hb dL_law_40 (by decide +kernel) (by decide +kernel) rfl (by decide) ?_
        exact lc_late hfu hx hb hml hown hG hK hX hbl hi6 hL hcs hP hD hS hI hl nx0
      | 26, _ =>
        refine lv_tableIn (tgt := 971) (off := 931) hx hb dL_law_40 (by decide +kernel) (by decide +kernel) rfl (by decide) ?_
        exact lc_mark hfu hx hb hml hown hG hK hX hbl hi6 hL hcs hP hD hS hI hl nx0
      | 27, _ =>
        refine lv_tableIn (tgt := 984) (off := 944) hx hb dL_law_40 (by decide +kernel) (by decide +kernel) rfl (by decide) ?_
        exact lc_back hfu hx hb hml hown hG hK hX hbl hi6 hL hcs hP hD hS hI hl nx0
      | 28, _ =>
        refine lv_tableIn (tgt := 1009) (off := 969) hx hb dL_law_40 (by decide +kernel) (by decide +kernel) rfl (by decide) ?_
        exact lc_call hfu hx hb hml hown hG hK hX hbl hi6 hL hcs hP hD hS hI hl nx0
      | 29, _ =>
        refine lv_tableIn (tgt := 1046) (off := 1006) hx hb dL_law_40 (by decide +kernel) (by decide +kernel) rfl (by decide) ?_
        exact lc_led hfu hx hb hml hown hG hK hX hbl hi6 hL hlt hXs hcl hP hD hS hI hl nx
      | 30, _ =>
        refine lv_tableIn (tgt := 1102) (off := 1062) hx hb dL_law_40 (by decide +kernel) (by decide +kernel) rfl (by decide) ?_
        exact lc_told hfu hx hb hml hown hG hK hX hbl hi6 hL hcs hP hD hS hI hl nx0
      | 31, _ =>
        refine lv_tableIn (tgt := 1127) (off := 1087) hx hb dL_law_40 (by decide +kernel) (by decide +kernel) rfl (by decide) ?_
        exact lc_trouble hfu hx hb hml hown hG hK hX hbl hi6 hL hcs hP hD hS hI hl nx0
      | k + 32, hk => exact absurd hk (by omega)
end
