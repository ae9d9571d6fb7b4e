set_option maxHeartbeats 4000000 in
set_option maxRecDepth 100000 in
theorem c_X0_endedOnes (l : Launch) (D : va_G) (cyI cyJ cyZ cyO : ClassId) (a0 : Nat) (a0_cashiers : Nat) (a0_tills : Nat) (a0_acts : Nat) (a0_wholes : Nat) (a0_begins : Nat) (a0_ends : Nat) (a0_answers : Nat) (a0_n : Int32) (f_a0_ends : Nat → Int32) (fu : Nat) (sz : Nat) (o : Int32) (hF : F_X0_endedOnes fu a0_n f_a0_ends = some o) : mI l yX0_endedOnes cX0_endedOnes 3 (some .int) ({ frames := 3, cells := 0, slots := 0, locals := 63 } : Room) D (wT cyI cyJ cyZ cyO) [.ref a0] sz [(a0, .inr (0, [.ref a0_cashiers, .ref a0_tills, .ref a0_acts, .ref a0_wholes, .ref a0_begins, .ref a0_ends, .ref a0_answers, .int a0_n])), (a0_ends, .inl (cyI, 20, .inl f_a0_ends))] o [(a0, .inr (0, [.ref a0_cashiers, .ref a0_tills, .ref a0_acts, .ref a0_wholes, .ref a0_begins, .ref a0_ends, .ref a0_answers, .int a0_n])), (a0_ends, .inl (cyI, 20, .inl f_a0_ends))] := by
  refine kM_i (by decide +kernel) (Nat.le_of_ble_eq_true rfl) ?_
  intro p e s m args below meth c A ls Q hx hb hr hlocks hml hown hG hK hA hP hD hS hl hQ
  have hown : s.vm.findClass RX0 = some m.cls := hown
  have hl : lv_has ls 3 [(0, .ref a0)] := hl
  have L4 : ∀ (kf4 : Nat), ∀ (v1 : Int32) (v2 : Int32) (H : Heap) (locs : List Loc) (ls : Array Slot), F_X0_endedOnes_b4 a0_n f_a0_ends kf4 v1 v2 = some o → va_P D vwCl [(a0, .inr (0, [.ref a0_cashiers, .ref a0_tills, .ref a0_acts, .ref a0_wholes, .ref a0_begins, .ref a0_ends, .ref a0_answers, .int a0_n])), (a0_ends, .inl (cyI, 20, .inl f_a0_ends))] H → va_D A [(a0, .inr (0, [.ref a0_cashiers, .ref a0_tills, .ref a0_acts, .ref a0_wholes, .ref a0_begins, .ref a0_ends, .ref a0_answers, .int a0_n])), (a0_ends, .inl (cyI, 20, .inl f_a0_ends))] → va_S A s.heap H locs → lv_has ls 3 [(0, .ref a0), (1, .int v1), (2, .int v2)] → W p l e ({ frames := 3, cells := 0, slots := 0, locals := 63 } : Room) s m args below meth c H locs 0 0 Q (F0 m 4 ls []) := by
    intro kf4
    induction kf4 with
    | zero => intro v1 v2 H locs ls hF; rw [F_X0_endedOnes_b4] at hF; cases hF
    | succ kf4 ih4 =>
      have B26 : ∀ (v1 : Int32) (v2 : Int32) (H : Heap) (locs : List Loc) (ls : Array Slot), F_X0_endedOnes_b26 (F_X0_endedOnes_b4 a0_n f_a0_ends kf4) a0_n f_a0_ends v1 v2 = some o → va_P D vwCl [(a0, .inr (0, [.ref a0_cashiers, .ref a0_tills, .ref a0_acts, .ref a0_wholes, .ref a0_begins, .ref a0_ends, .ref a0_answers, .int a0_n])), (a0_ends, .inl (cyI, 20, .inl f_a0_ends))] H → va_D A [(a0, .inr (0, [.ref a0_cashiers, .ref a0_tills, .ref a0_acts, .ref a0_wholes, .ref a0_begins, .ref a0_ends, .ref a0_answers, .int a0_n])), (a0_ends, .inl (cyI, 20, .inl f_a0_ends))] → va_S A s.heap H locs → lv_has ls 3 [(0, .ref a0), (1, .int v1), (2, .int v2)] → W p l e ({ frames := 3, cells := 0, slots := 0, locals := 63 } : Room) s m args below meth c H locs 0 0 Q (F0 m 26 ls []) := by
        intro v1 v2 H locs ls hF hP hD hS hl
        refine lv_iinc (v := (v2 + (1 : Int32))) (lv' := [(2, .int (v2 + (1 : Int32))), (0, .ref a0), (1, .int v1)]) hx hb dX0_endedOnes_26 hl (k := 2) rfl (by rfl) (by decide) rfl (fun ls hl => ?_)
        refine lv_goto (tgt := 4) hx hb dX0_endedOnes_29 (by decide) ?_
        exact ih4 v1 ((v2 + (1 : Int32))) H locs ls hF hP hD hS (lv_sub hl [1, 2, 0] rfl)
      intro v1 v2 H locs ls hF hP hD hS hl
      rw [F_X0_endedOnes_b4] at hF
      refine lv_iload_n hx hb dX0_endedOnes_4 rfl (lv_at hl 2 rfl) ?_
      refine lv_aload_n hx hb dX0_endedOnes_5 rfl (lv_at hl 0 rfl) ?_
      refine gt_X0_33 hx hb hG hown hK hP 0 rfl rfl dX0_endedOnes_6 ?_
      refine lv_icmp_ge (tgt := 32) hx hb dX0_endedOnes_9 (by decide) (fun h => ?_) (fun h => ?_)
      · have hF := t_pos h hF
        refine lv_iload_n hx hb dX0_endedOnes_32 rfl (lv_at hl 1 rfl) ?_
        exact kRi (τ := Int32) (cv := v1) (fr := fun u => u) (fw := fun u => [(a0, .inr (0, [.ref a0_cashiers, .ref a0_tills, .ref a0_acts, .ref a0_wholes, .ref a0_begins, .ref a0_ends, .ref a0_answers, .int a0_n])), (a0_ends, .inl (cyI, 20, .inl f_a0_ends))]) hQ hx hb hr hlocks hK hP hD hS hF rfl dX0_endedOnes_33
      · have hF := t_neg h hF
        refine lv_aload_n hx hb dX0_endedOnes_12 rfl (lv_at hl 0 rfl) ?_
        refine lv_iload_n hx hb dX0_endedOnes_13 rfl (lv_at hl 2 rfl) ?_
        obtain ⟨r14, hc, hF⟩ := bnd1_some hF
        refine kVi (As := [.int v2]) (rest := []) (ws' := [(a0, .inr (0, [.ref a0_cashiers, .ref a0_tills, .ref a0_acts, .ref a0_wholes, .ref a0_begins, .ref a0_ends, .ref a0_answers, .int a0_n])), (a0_ends, .inl (cyI, 20, .inl f_a0_ends))]) ⟨hx, hb, hml, hown, hG⟩ hK hP hD hS hA (c_X0_isOpen l D cyI cyJ cyZ cyO a0 a0_cashiers a0_tills a0_acts a0_wholes a0_begins a0_ends a0_answers a0_n f_a0_ends v2 H.size _ hc) (cw_X0_81 hG rfl rfl ⟨Nat.le_of_ble_eq_true rfl, Nat.le_of_ble_eq_true rfl⟩) 0 rfl rfl [0, 1] [] 2 rfl (by decide) rfl [] [a0, a0_ends] rfl rfl rfl (by decide) rfl rfl rfl hl.1 rfl (Nat.le_of_ble_eq_true rfl) dX0_endedOnes_14 ⟨Nat.zero_le _, Nat.zero_le _⟩ (fun H locs hP hD hS => ?_)
        refine lv_if_ne (tgt := 26) hx hb dX0_endedOnes_17 (by decide) (fun h => ?_) (fun h => ?_)
        · have hF := t_neg h hF
          exact B26 v1 v2 H locs ls hF hP hD hS (lv_sub hl [0, 1, 2] rfl)
        · have hF := t_pos h hF
          refine lv_iload_n hx hb dX0_endedOnes_20 rfl (lv_at hl 1 rfl) ?_
          refine lv_iconst (v := (1 : Int32)) hx hb dX0_endedOnes_21 (by decide) ?_
          refine lv_iload_n hx hb dX0_endedOnes_22 rfl (lv_at hl 2 rfl) ?_
          refine lv_ishl hx hb dX0_endedOnes_23 ?_
          refine lv_ior hx hb dX0_endedOnes_24 ?_
          refine lv_istore_n (lv' := [(1, .int (v1 ||| ((1 : Int32) <<< (v2 &&& 31)))), (0, .ref a0), (2, .int v2)]) hx hb dX0_endedOnes_25 rfl hl (by decide) rfl (fun ls hl => ?_)
          exact B26 ((v1 ||| ((1 : Int32) <<< (v2 &&& 31)))) v2 H locs ls hF hP hD hS (lv_sub hl [1, 0, 2] rfl)
  obtain ⟨H, hH⟩ : ∃ H : Heap, H = s.heap := ⟨_, rfl⟩
  obtain ⟨locs, hlo⟩ : ∃ L : List Loc, L = [] := ⟨_, rfl⟩
  have hP : va_P D vwCl [(a0, .inr (0, [.ref a0_cashiers, .ref a0_tills, .ref a0_acts, .ref a0_wholes, .ref a0_begins, .ref a0_ends, .ref a0_answers, .int a0_n])), (a0_ends, .inl (cyI, 20, .inl f_a0_ends))] H := by rw [hH]; exact hP
  have hS : va_S A s.heap H locs := by rw [hH, hlo]; exact hS
  show W p l e ({ frames := 3, cells := 0, slots := 0, locals := 63 } : Room) s m args below meth c s.heap [] 0 0 Q (F0 m 0 ls [])
  suffices hgo : W p l e ({ frames := 3, cells := 0, slots := 0, locals := 63 } : Room) s m args below meth c H locs 0 0 Q (F0 m 0 ls []) by rw [hH, hlo] at hgo; exact hgo
  refine lv_iconst (v := (0 : Int32)) hx hb dX0_endedOnes_0 (by decide) ?_
  refine lv_istore_n (lv' := [(1, .int (0 : Int32)), (0, .ref a0)]) hx hb dX0_endedOnes_1 rfl hl (by decide) rfl (fun ls hl => ?_)
  refine lv_iconst (v := (0 : Int32)) hx hb dX0_endedOnes_2 (by decide) ?_
  refine lv_istore_n (lv' := [(2, .int (0 : Int32)), (1, .int (0 : Int32)), (0, .ref a0)]) hx hb dX0_endedOnes_3 rfl hl (by decide) rfl (fun ls hl => ?_)
  exact L4 fu (0 : Int32) (0 : Int32) H locs ls hF hP hD hS (lv_sub hl [2, 1, 0] rfl)
set_option maxHeartbeats 4000000 in
set_option maxRecDepth 100000 in
theorem c_X0_onesOfTill (l : Launch) (D : va_G) (cyI cyJ cyZ cyO : ClassId) (a0 : Nat) (a0_cashiers : Nat) (a0_tills : Nat) (a0_acts : Nat) (a0_wholes : Nat) (a0_begins : Nat) (a0_ends : Nat) (a0_answers : Nat) (a0_n : Int32) (f_a0_tills : Nat → Int32) (v1 : Int32) (fu : Nat) (sz : Nat) (o : Int32) (hF : F_X0_onesOfTill fu a0_n f_a0_tills v1 = some o) : mI l yX0_onesOfTill cX0_onesOfTill 4 (some .int) ({ frames := 2, cells := 0, slots := 0, locals := 42 } : Room) D (wT cyI cyJ cyZ cyO) [.ref a0, .int v1] sz [(a0, .inr (0, [.ref a0_cashiers, .ref a0_tills, .ref a0_acts, .ref a0_wholes, .ref a0_begins, .ref a0_ends, .ref a0_answers, .int a0_n])), (a0_tills, .inl (cyI, 20, .inl f_a0_tills))] o [(a0, .inr (0, [.ref a0_cashiers, .ref a0_tills, .ref a0_acts, .ref a0_wholes, .ref a0_begins, .ref a0_ends, .ref a0_answers, .int a0_n])), (a0_tills, .inl (cyI, 20, .inl f_a0_tills))] := by
  refine kM_i (by decide +kernel) (Nat.le_of_ble_eq_true rfl) ?_
  intro p e s m args below meth c A ls Q hx hb hr hlocks hml hown hG hK hA hP hD hS hl hQ
  have hown : s.vm.findClass RX0 = some m.cls := hown
  have hl : lv_has ls 4 [(0, .ref a0), (1, .int v1)] := hl
  have L4 : ∀ (kf4 : Nat), ∀ (v1 : Int32) (v2 : Int32) (v3 : Int32) (H : Heap) (locs : List Loc) (ls : Array Slot), F_X0_onesOfTill_b4 a0_n f_a0_tills v1 kf4 v2 v3 = some o → va_P D vwCl [(a0, .inr (0, [.ref a0_cashiers, .ref a0_tills, .ref a0_acts, .ref a0_wholes, .ref a0_begins, .ref a0_ends, .ref a0_answers, .int a0_n])), (a0_tills, .inl (cyI, 20, .inl f_a0_tills))] H → va_D A [(a0, .inr (0, [.ref a0_cashiers, .ref a0_tills, .ref a0_acts, .ref a0_wholes, .ref a0_begins, .ref a0_ends, .ref a0_answers, .int a0_n])), (a0_tills, .inl (cyI, 20, .inl f_a0_tills))] → va_S A s.heap H locs → lv_has ls 4 [(0, .ref a0), (1, .int v1), (2, .int v2), (3, .int v3)] → W p l e ({ frames := 2, cells := 0, slots := 0, locals := 42 } : Room) s m args below meth c H locs 0 0 Q (F0 m 4 ls []) := by
    intro kf4
    induction kf4 with
    | zero => intro v1 v2 v3 H locs ls hF; rw [F_X0_onesOfTill_b4] at hF; cases hF
    | succ kf4 ih4 =>
      have B27 : ∀ (v1 : Int32) (v2 : Int32) (v3 : Int32) (H : Heap) (locs : List Loc) (ls : Array Slot), F_X0_onesOfTill_b27 (F_X0_onesOfTill_b4 a0_n f_a0_tills v1 kf4) a0_n f_a0_tills v1 v2 v3 = some o → va_P D vwCl [(a0, .inr (0, [.ref a0_cashiers, .ref a0_tills, .ref a0_acts, .ref a0_wholes, .ref a0_begins, .ref a0_ends, .ref a0_answers, .int a0_n])), (a0_tills, .inl (cyI, 20, .inl f_a0_tills))] H → va_D A [(a0, .inr (0, [.ref a0_cashiers, .ref a0_tills, .ref a0_acts, .ref a0_wholes, .ref a0_begins, .ref a0_ends, .ref a0_answers, .int a0_n])), (a0_tills, .inl (cyI, 20, .inl f_a0_tills))] → va_S A s.heap H locs → lv_has ls 4 [(0, .ref a0), (1, .int v1), (2, .int v2), (3, .int v3)] → W p l e ({ frames := 2, cells := 0, slots := 0, locals := 42 } : Room) s m args below meth c H locs 0 0 Q (F0 m 27 ls []) := by
        intro v1 v2 v3 H locs ls hF hP hD hS hl
        refine lv_iinc (v := (v3 + (1 : Int32))) (lv' := [(3, .int (v3 + (1 : Int32))), (0, .ref a0), (1, .int v1), (2, .int v2)]) hx hb dX0_onesOfTill_27 hl (k := 3) rfl (by rfl) (by decide) rfl (fun ls hl => ?_)
        refine lv_goto (tgt := 4) hx hb dX0_onesOfTill_30 (by decide) ?_
        exact ih4 v1 v2 ((v3 + (1 : Int32))) H locs ls hF hP hD hS (lv_sub hl [1, 2, 3, 0] rfl)
      intro v1 v2 v3 H locs ls hF hP hD hS hl
      rw [F_X0_onesOfTill_b4] at hF
      refine lv_iload_n hx hb dX0_onesOfTill_4 rfl (lv_at hl 3 rfl) ?_
      refine lv_aload_n hx hb dX0_onesOfTill_5 rfl (lv_at hl 0 rfl) ?_
      refine gt_X0_33 hx hb hG hown hK hP 0 rfl rfl dX0_onesOfTill_6 ?_
      refine lv_icmp_ge (tgt := 33) hx hb dX0_onesOfTill_9 (by decide) (fun h => ?_) (fun h => ?_)
      · have hF := t_pos h hF
        refine lv_iload_n hx hb dX0_onesOfTill_33 rfl (lv_at hl 2 rfl) ?_
        exact kRi (τ := Int32) (cv := v2) (fr := fun u => u) (fw := fun u => [(a0, .inr (0, [.ref a0_cashiers, .ref a0_tills, .ref a0_acts, .ref a0_wholes, .ref a0_begins, .ref a0_ends, .ref a0_answers, .int a0_n])), (a0_tills, .inl (cyI, 20, .inl f_a0_tills))]) hQ hx hb hr hlocks hK hP hD hS hF rfl dX0_onesOfTill_34
      · have hF := t_neg h hF
        refine lv_aload_n hx hb dX0_onesOfTill_12 rfl (lv_at hl 0 rfl) ?_
        refine lv_iload_n hx hb dX0_onesOfTill_13 rfl (lv_at hl 3 rfl) ?_
        obtain ⟨r14, hc, hF⟩ := bnd1_some hF
        refine kVi (As := [.int v3]) (rest := []) (ws' := [(a0, .inr (0, [.ref a0_cashiers, .ref a0_tills, .ref a0_acts, .ref a0_wholes, .ref a0_begins, .ref a0_ends, .ref a0_answers, .int a0_n])), (a0_tills, .inl (cyI, 20, .inl f_a0_tills))]) ⟨hx, hb, hml, hown, hG⟩ hK hP hD hS hA (c_X0_tillOf l D cyI cyJ cyZ cyO a0 a0_cashiers a0_tills a0_acts a0_wholes a0_begins a0_ends a0_answers a0_n f_a0_tills v3 H.size _ hc) (cw_X0_69 hG rfl rfl ⟨Nat.le_of_ble_eq_true rfl, Nat.le_of_ble_eq_true rfl⟩) 0 rfl rfl [0, 1] [] 2 rfl (by decide) rfl [] [a0, a0_tills] rfl rfl rfl (by decide) rfl rfl rfl hl.1 rfl (Nat.le_of_ble_eq_true rfl) dX0_onesOfTill_14 ⟨Nat.zero_le _, Nat.zero_le _⟩ (fun H locs hP hD hS => ?_)
        refine lv_iload_n hx hb dX0_onesOfTill_17 rfl (lv_at hl 1 rfl) ?_
        refine lv_icmp_ne (tgt := 27) hx hb dX0_onesOfTill_18 (by decide) (fun h => ?_) (fun h => ?_)
        · have hF := t_neg h hF
          exact B27 v1 v2 v3 H locs ls hF hP hD hS (lv_sub hl [0, 1, 2, 3] rfl)
        · have hF := t_pos h hF
          refine lv_iload_n hx hb dX0_onesOfTill_21 rfl (lv_at hl 2 rfl) ?_
          refine lv_iconst (v := (1 : Int32)) hx hb dX0_onesOfTill_22 (by decide) ?_
          refine lv_iload_n hx hb dX0_onesOfTill_23 rfl (lv_at hl 3 rfl) ?_
          refine lv_ishl hx hb dX0_onesOfTill_24 ?_
          refine lv_ior hx hb dX0_onesOfTill_25 ?_
          refine lv_istore_n (lv' := [(2, .int (v2 ||| ((1 : Int32) <<< (v3 &&& 31)))), (0, .ref a0), (1, .int v1), (3, .int v3)]) hx hb dX0_onesOfTill_26 rfl hl (by decide) rfl (fun ls hl => ?_)
          exact B27 v1 ((v2 ||| ((1 : Int32) <<< (v3 &&& 31)))) v3 H locs ls hF hP hD hS (lv_sub hl [1, 2, 0, 3] rfl)
  obtain ⟨H, hH⟩ : ∃ H : Heap, H = s.heap := ⟨_, rfl⟩
  obtain ⟨locs, hlo⟩ : ∃ L : List Loc, L = [] := ⟨_, rfl⟩
  have hP : va_P D vwCl [(a0, .inr (0, [.ref a0_cashiers, .ref a0_tills, .ref a0_acts, .ref a0_wholes, .ref a0_begins, .ref a0_ends, .ref a0_answers, .int a0_n])), (a0_tills, .inl (cyI, 20, .inl f_a0_tills))] H := by rw [hH]; exact hP
  have hS : va_S A s.heap H locs := by rw [hH, hlo]; exact hS
  show W p l e ({ frames := 2, cells := 0, slots := 0, locals := 42 } : Room) s m args below meth c s.heap [] 0 0 Q (F0 m 0 ls [])
  suffices hgo : W p l e ({ frames := 2, cells := 0, slots := 0, locals := 42 } : Room) s m args below meth c H locs 0 0 Q (F0 m 0 ls []) by rw [hH, hlo] at hgo; exact hgo
  refine lv_iconst (v := (0 : Int32)) hx hb dX0_onesOfTill_0 (by decide) ?_
  refine lv_istore_n (lv' := [(2, .int (0 : Int32)), (0, .ref a0), (1, .int v1)]) hx hb dX0_onesOfTill_1 rfl hl (by decide) rfl (fun ls hl => ?_)
  refine lv_iconst (v := (0 : Int32)) hx hb dX0_onesOfTill_2 (by decide) ?_
  refine lv_istore_n (lv' := [(3, .int (0 : Int32)), (2, .int (0 : Int32)), (0, .ref a0), (1, .int v1)]) hx hb dX0_onesOfTill_3 rfl hl (by decide) rfl (fun ls hl => ?_)
  exact L4 fu v1 (0 : Int32) (0 : Int32) H locs ls hF hP hD hS (lv_sub hl [2, 3, 1, 0] rfl)
set_option maxHeartbeats 4000000 in
set_option maxRecDepth 100000 in
theorem c_X0_onesBegunBy (l : Launch) (D : va_G) (cyI cyJ cyZ cyO : ClassId) (a0 : Nat) (a0_cashiers : Nat) (a0_tills : Nat) (a0_acts : Nat) (a0_wholes : Nat) (a0_begins : Nat) (a0_ends : Nat) (a0_answers : Nat) (a0_n : Int32) (f_a0_begins : Nat → Int32) (v1 : Int32) (fu : Nat) (sz : Nat) (o : Int32) (hF : F_X0_onesBegunBy fu a0_n f_a0_begins v1 = some o) : mI l yX0_onesBegunBy cX0_onesBegunBy 4 (some .int) ({ frames := 2, cells := 0, slots := 0, locals := 42 } : Room) D (wT cyI cyJ cyZ cyO) [.ref a0, .int v1] sz [(a0, .inr (0, [.ref a0_cashiers, .ref a0_tills, .ref a0_acts, .ref a0_wholes, .ref a0_begins, .ref a0_ends, .ref a0_answers, .int a0_n])), (a0_begins, .inl (cyI, 20, .inl f_a0_begins))] o [(a0, .inr (0, [.ref a0_cashiers, .ref a0_tills, .ref a0_acts, .ref a0_wholes, .ref a0_begins, .ref a0_ends, .ref a0_answers, .int a0_n])), (a0_begins, .inl (cyI, 20, .inl f_a0_begins))] := by
  refine kM_i (by decide +kernel) (Nat.le_of_ble_eq_true rfl) ?_
  intro p e s m args below meth c A ls Q hx hb hr hlocks hml hown hG hK hA hP hD hS hl hQ
  have hown : s.vm.findClass RX0 = some m.cls := hown
  have hl : lv_has ls 4 [(0, .ref a0), (1, .int v1)] := hl
  have L4 : ∀ (kf4 : Nat), ∀ (v1 : Int32) (v2 : Int32) (v3 : Int32) (H : Heap) (locs : List Loc) (ls : Array Slot), F_X0_onesBegunBy_b4 a0_n f_a0_begins v1 kf4 v2 v3 = some o → va_P D vwCl [(a0, .inr (0, [.ref a0_cashiers, .ref a0_tills, .ref a0_acts, .ref a0_wholes, .ref a0_begins, .ref a0_ends, .ref a0_answers, .int a0_n])), (a0_begins, .inl (cyI, 20, .inl f_a0_begins))] H → va_D A [(a0, .inr (0, [.ref a0_cashiers, .ref a0_tills, .ref a0_acts, .ref a0_wholes, .ref a0_begins, .ref a0_ends, .ref a0_answers, .int a0_n])), (a0_begins, .inl (cyI, 20, .inl f_a0_begins))] → va_S A s.heap H locs → lv_has ls 4 [(0, .ref a0), (1, .int v1), (2, .int v2), (3, .int v3)] → W p l e ({ frames := 2, cells := 0, slots := 0, locals := 42 } : Room) s m args below meth c H locs 0 0 Q (F0 m 4 ls []) := by
    intro kf4
    induction kf4 with
    | zero => intro v1 v2 v3 H locs ls hF; rw [F_X0_onesBegunBy_b4] at hF; cases hF
    | succ kf4 ih4 =>
      have B27 : ∀ (v1 : Int32) (v2 : Int32) (v3 : Int32) (H : Heap) (locs : List Loc) (ls : Array Slot), F_X0_onesBegunBy_b27 (F_X0_onesBegunBy_b4 a0_n f_a0_begins v1 kf4) a0_n f_a0_begins v1 v2 v3 = some o → va_P D vwCl [(a0, .inr (0, [.ref a0_cashiers, .ref a0_tills, .ref a0_acts, .ref a0_wholes, .ref a0_begins, .ref a0_ends, .ref a0_answers, .int a0_n])), (a0_begins, .inl (cyI, 20, .inl f_a0_begins))] H → va_D A [(a0, .inr (0, [.ref a0_cashiers, .ref a0_tills, .ref a0_acts, .ref a0_wholes, .ref a0_begins, .ref a0_ends, .ref a0_answers, .int a0_n])), (a0_begins, .inl (cyI, 20, .inl f_a0_begins))] → va_S A s.heap H locs → lv_has ls 4 [(0, .ref a0), (1, .int v1), (2, .int v2), (3, .int v3)] → W p l e ({ frames := 2, cells := 0, slots := 0, locals := 42 } : Room) s m args below meth c H locs 0 0 Q (F0 m 27 ls []) := by
        intro v1 v2 v3 H locs ls hF hP hD hS hl
        refine lv_iinc (v := (v3 + (1 : Int32))) (lv' := [(3, .int (v3 + (1 : Int32))), (0, .ref a0), (1, .int v1), (2, .int v2)]) hx hb dX0_onesBegunBy_27 hl (k := 3) rfl (by rfl) (by decide) rfl (fun ls hl => ?_)
        refine lv_goto (tgt := 4) hx hb dX0_onesBegunBy_30 (by decide) ?_
        exact ih4 v1 v2 ((v3 + (1 : Int32))) H locs ls hF hP hD hS (lv_sub hl [1, 2, 3, 0] rfl)
      intro v1 v2 v3 H locs ls hF hP hD hS hl
      rw [F_X0_onesBegunBy_b4] at hF
      refine lv_iload_n hx hb dX0_onesBegunBy_4 rfl (lv_at hl 3 rfl) ?_
      refine lv_aload_n hx hb dX0_onesBegunBy_5 rfl (lv_at hl 0 rfl) ?_
      refine gt_X0_33 hx hb hG hown hK hP 0 rfl rfl dX0_onesBegunBy_6 ?_
      refine lv_icmp_ge (tgt := 33) hx hb dX0_onesBegunBy_9 (by decide) (fun h => ?_) (fun h => ?_)
      · have hF := t_pos h hF
        refine lv_iload_n hx hb dX0_onesBegunBy_33 rfl (lv_at hl 2 rfl) ?_
        exact kRi (τ := Int32) (cv := v2) (fr := fun u => u) (fw := fun u => [(a0, .inr (0, [.ref a0_cashiers, .ref a0_tills, .ref a0_acts, .ref a0_wholes, .ref a0_begins, .ref a0_ends, .ref a0_answers, .int a0_n])), (a0_begins, .inl (cyI, 20, .inl f_a0_begins))]) hQ hx hb hr hlocks hK hP hD hS hF rfl dX0_onesBegunBy_34
      · have hF := t_neg h hF
        refine lv_aload_n hx hb dX0_onesBegunBy_12 rfl (lv_at hl 0 rfl) ?_
        refine lv_iload_n hx hb dX0_onesBegunBy_13 rfl (lv_at hl 3 rfl) ?_
        obtain ⟨r14, hc, hF⟩ := bnd1_some hF
        refine kVi (As := [.int v3]) (rest := []) (ws' := [(a0, .inr (0, [.ref a0_cashiers, .ref a0_tills, .ref a0_acts, .ref a0_wholes, .ref a0_begins, .ref a0_ends, .ref a0_answers, .int a0_n])), (a0_begins, .inl (cyI, 20, .inl f_a0_begins))]) ⟨hx, hb, hml, hown, hG⟩ hK hP hD hS hA (c_X0_beginOf l D cyI cyJ cyZ cyO a0 a0_cashiers a0_tills a0_acts a0_wholes a0_begins a0_ends a0_answers a0_n f_a0_begins v3 H.size _ hc) (cw_X0_78 hG rfl rfl ⟨Nat.le_of_ble_eq_true rfl, Nat.le_of_ble_eq_true rfl⟩) 0 rfl rfl [0, 1] [] 2 rfl (by decide) rfl [] [a0, a0_begins] rfl rfl rfl (by decide) rfl rfl rfl hl.1 rfl (Nat.le_of_ble_eq_true rfl) dX0_onesBegunBy_14 ⟨Nat.zero_le _, Nat.zero_le _⟩ (fun H locs hP hD hS => ?_)
        refine lv_iload_n hx hb dX0_onesBegunBy_17 rfl (lv_at hl 1 rfl) ?_
        refine lv_icmp_gt (tgt := 27) hx hb dX0_onesBegunBy_18 (by decide) (fun h => ?_) (fun h => ?_)
        · have hF := t_pos h hF
          exact B27 v1 v2 v3 H locs ls hF hP hD hS (lv_sub hl [0, 1, 2, 3] rfl)
        · have hF := t_neg h hF
          refine lv_iload_n hx hb dX0_onesBegunBy_21 rfl (lv_at hl 2 rfl) ?_
          refine lv_iconst (v := (1 : Int32)) hx hb dX0_onesBegunBy_22 (by decide) ?_
          refine lv_iload_n hx hb dX0_onesBegunBy_23 rfl (lv_at hl 3 rfl) ?_
          refine lv_ishl hx hb dX0_onesBegunBy_24 ?_
          refine lv_ior hx hb dX0_onesBegunBy_25 ?_
          refine lv_istore_n (lv' := [(2, .int (v2 ||| ((1 : Int32) <<< (v3 &&& 31)))), (0, .ref a0), (1, .int v1), (3, .int v3)]) hx hb dX0_onesBegunBy_26 rfl hl (by decide) rfl (fun ls hl => ?_)
          exact B27 v1 ((v2 ||| ((1 : Int32) <<< (v3 &&& 31)))) v3 H locs ls hF hP hD hS (lv_sub hl [1, 2, 0, 3] rfl)
  obtain ⟨H, hH⟩ : ∃ H : Heap, H = s.heap := ⟨_, rfl⟩
  obtain ⟨locs, hlo⟩ : ∃ L : List Loc, L = [] := ⟨_, rfl⟩
  have hP : va_P D vwCl [(a0, .inr (0, [.ref a0_cashiers, .ref a0_tills, .ref a0_acts, .ref a0_wholes, .ref a0_begins, .ref a0_ends, .ref a0_answers, .int a0_n])), (a0_begins, .inl (cyI, 20, .inl f_a0_begins))] H := by rw [hH]; exact hP
  have hS : va_S A s.heap H locs := by rw [hH, hlo]; exact hS
  show W p l e ({ frames := 2, cells := 0, slots := 0, locals := 42 } : Room) s m args below meth c s.heap [] 0 0 Q (F0 m 0 ls [])
  suffices hgo : W p l e ({ frames := 2, cells := 0, slots := 0, locals := 42 } : Room) s m args below meth c H locs 0 0 Q (F0 m 0 ls []) by rw [hH, hlo] at hgo; exact hgo
  refine lv_iconst (v := (0 : Int32)) hx hb dX0_onesBegunBy_0 (by decide) ?_
  refine lv_istore_n (lv' := [(2, .int (0 : Int32)), (0, .ref a0), (1, .int v1)]) hx hb dX0_onesBegunBy_1 rfl hl (by decide) rfl (fun ls hl => ?_)
  refine lv_iconst (v := (0 : Int32)) hx hb dX0_onesBegunBy_2 (by decide) ?_
  refine lv_istore_n (lv' := [(3, .int (0 : Int32)), (2, .int (0 : Int32)), (0, .ref a0), (1, .int v1)]) hx hb dX0_onesBegunBy_3 rfl hl (by decide) rfl (fun ls hl => ?_)
  exact L4 fu v1 (0 : Int32) (0 : Int32) H locs ls hF hP hD hS (lv_sub hl [2, 3, 1, 0] rfl)
set_option maxHeartbeats 4000000 in
set_option maxRecDepth 100000 in
theorem c_X0_firstEndedBut (l : Launch) (D : va_G) (cyI cyJ cyZ cyO : ClassId) (a0 : Nat) (a0_cashiers : Nat) (a0_tills : Nat) (a0_acts : Nat) (a0_wholes : Nat) (a0_begins : Nat) (a0_ends : Nat) (a0_answers : Nat) (a0_n : Int32) (f_a0_ends : Nat → Int32) (v1 : Int32) (fu : Nat) (sz : Nat) (o : Int32) (hF : F_X0_firstEndedBut fu a0_n f_a0_ends v1 = some o) : mI l yX0_firstEndedBut cX0_firstEndedBut 4 (some .int) ({ frames := 3, cells := 0, slots := 0, locals := 63 } : Room) D (wT cyI cyJ cyZ cyO) [.ref a0, .int v1] sz [(a0, .inr (0, [.ref a0_cashiers, .ref a0_tills, .ref a0_acts, .ref a0_wholes, .ref a0_begins, .ref a0_ends, .ref a0_answers, .int a0_n])), (a0_ends, .inl (cyI, 20, .inl f_a0_ends))] o [(a0, .inr (0, [.ref a0_cashiers, .ref a0_tills, .ref a0_acts, .ref a0_wholes, .ref a0_begins, .ref a0_ends, .ref a0_answers, .int a0_n])), (a0_ends, .inl (cyI, 20, .inl f_a0_ends))] := by
  refine kM_i (by decide +kernel) (Nat.le_of_ble_eq_true rfl) ?_
  intro p e s m args below meth c A ls Q hx hb hr hlocks hml hown hG hK hA hP hD hS hl hQ
  have hown : s.vm.findClass RX0 = some m.cls := hown
  have hl : lv_has ls 4 [(0, .ref a0), (1, .int v1)] := hl
  have L4 : ∀ (kf4 : Nat), ∀ (v1 : Int32) (v2 : Int32) (v3 : Int32) (H : Heap) (locs : List Loc) (ls : Array Slot), F_X0_firstEndedBut_b4 a0_n f_a0_ends v1 kf4 v2 v3 = some o → va_P D vwCl [(a0, .inr (0, [.ref a0_cashiers, .ref a0_tills, .ref a0_acts, .ref a0_wholes, .ref a0_begins, .ref a0_ends, .ref a0_answers, .int a0_n])), (a0_ends, .inl (cyI, 20, .inl f_a0_ends))] H → va_D A [(a0, .inr (0, [.ref a0_cashiers, .ref a0_tills, .ref a0_acts, .ref a0_wholes, .ref a0_begins, .ref a0_ends, .ref a0_answers, .int a0_n])), (a0_ends, .inl (cyI, 20, .inl f_a0_ends))] → va_S A s.heap H locs → lv_has ls 4 [(0, .ref a0), (1, .int v1), (2, .int v2), (3, .int v3)] → W p l e ({ frames := 3, cells := 0, slots := 0, locals := 63 } : Room) s m args below meth c H locs 0 0 Q (F0 m 4 ls []) := by
    intro kf4
    induction kf4 with
    | zero => intro v1 v2 v3 H locs ls hF; rw [F_X0_firstEndedBut_b4] at hF; cases hF
    | succ kf4 ih4 =>
      have B47 : ∀ (v1 : Int32) (v2 : Int32) (v3 : Int32) (H : Heap) (locs : List Loc) (ls : Array Slot), F_X0_firstEndedBut_b47 (F_X0_firstEndedBut_b4 a0_n f_a0_ends v1 kf4) a0_n f_a0_ends v1 v2 v3 = some o → va_P D vwCl [(a0, .inr (0, [.ref a0_cashiers, .ref a0_tills, .ref a0_acts, .ref a0_wholes, .ref a0_begins, .ref a0_ends, .ref a0_answers, .int a0_n])), (a0_ends, .inl (cyI, 20, .inl f_a0_ends))] H → va_D A [(a0, .inr (0, [.ref a0_cashiers, .ref a0_tills, .ref a0_acts, .ref a0_wholes, .ref a0_begins, .ref a0_ends, .ref a0_answers, .int a0_n])), (a0_ends, .inl (cyI, 20, .inl f_a0_ends))] → va_S A s.heap H locs → lv_has ls 4 [(0, .ref a0), (1, .int v1), (2, .int v2), (3, .int v3)] → W p l e ({ frames := 3, cells := 0, slots := 0, locals := 63 } : Room) s m args below meth c H locs 0 0 Q (F0 m 47 ls []) := by
        intro v1 v2 v3 H locs ls hF hP hD hS hl
        refine lv_iinc (v := (v3 + (1 : Int32))) (lv' := [(3, .int (v3 + (1 : Int32))), (0, .ref a0), (1, .int v1), (2, .int v2)]) hx hb dX0_firstEndedBut_47 hl (k := 3) rfl (by rfl) (by decide) rfl (fun ls hl => ?_)
        refine lv_goto (tgt := 4) hx hb dX0_firstEndedBut_50 (by decide) ?_
        exact ih4 v1 v2 ((v3 + (1 : Int32))) H locs ls hF hP hD hS (lv_sub hl [1, 2, 3, 0] rfl)
      have B45 : ∀ (v1 : Int32) (v3 : Int32) (H : Heap) (locs : List Loc) (ls : Array Slot), F_X0_firstEndedBut_b45 (F_X0_firstEndedBut_b4 a0_n f_a0_ends v1 kf4) a0_n f_a0_ends v1 v3 = some o → va_P D vwCl [(a0, .inr (0, [.ref a0_cashiers, .ref a0_tills, .ref a0_acts, .ref a0_wholes, .ref a0_begins, .ref a0_ends, .ref a0_answers, .int a0_n])), (a0_ends, .inl (cyI, 20, .inl f_a0_ends))] H → va_D A [(a0, .inr (0, [.ref a0_cashiers, .ref a0_tills, .ref a0_acts, .ref a0_wholes, .ref a0_begins, .ref a0_ends, .ref a0_answers, .int a0_n])), (a0_ends, .inl (cyI, 20, .inl f_a0_ends))] → va_S A s.heap H locs → lv_has ls 4 [(0, .ref a0), (1, .int v1), (3, .int v3)] → W p l e ({ frames := 3, cells := 0, slots := 0, locals := 63 } : Room) s m args below meth c H locs 0 0 Q (F0 m 45 ls []) := by
        intro v1 v3 H locs ls hF hP hD hS hl
        refine lv_iload_n hx hb dX0_firstEndedBut_45 rfl (lv_at hl 2 rfl) ?_
        refine lv_istore_n (lv' := [(2, .int v3), (0, .ref a0), (1, .int v1), (3, .int v3)]) hx hb dX0_firstEndedBut_46 rfl hl (by decide) rfl (fun ls hl => ?_)
        exact B47 v1 v3 v3 H locs ls hF hP hD hS (lv_sub hl [1, 2, 0, 3] rfl)
      intro v1 v2 v3 H locs ls hF hP hD hS hl
      rw [F_X0_firstEndedBut_b4] at hF
      refine lv_iload_n hx hb dX0_firstEndedBut_4 rfl (lv_at hl 3 rfl) ?_
      refine lv_aload_n hx hb dX0_firstEndedBut_5 rfl (lv_at hl 0 rfl) ?_
      refine gt_X0_33 hx hb hG hown hK hP 0 rfl rfl dX0_firstEndedBut_6 ?_
      refine lv_icmp_ge (tgt := 53) hx hb dX0_firstEndedBut_9 (by decide) (fun h => ?_) (fun h => ?_)
      · have hF := t_pos h hF
        refine lv_iload_n hx hb dX0_firstEndedBut_53 rfl (lv_at hl 2 rfl) ?_
        exact kRi (τ := Int32) (cv := v2) (fr := fun u => u) (fw := fun u => [(a0, .inr (0, [.ref a0_cashiers, .ref a0_tills, .ref a0_acts, .ref a0_wholes, .ref a0_begins, .ref a0_ends, .ref a0_answers, .int a0_n])), (a0_ends, .inl (cyI, 20, .inl f_a0_ends))]) hQ hx hb hr hlocks hK hP hD hS hF rfl dX0_firstEndedBut_54
      · have hF := t_neg h hF
        refine lv_aload_n hx hb dX0_firstEndedBut_12 rfl (lv_at hl 0 rfl) ?_
        refine lv_iload_n hx hb dX0_firstEndedBut_13 rfl (lv_at hl 3 rfl) ?_
        obtain ⟨r14, hc, hF⟩ := bnd1_some hF
        refine kVi (As := [.int v3]) (rest := []) (ws' := [(a0, .inr (0, [.ref a0_cashiers, .ref a0_tills, .ref a0_acts, .ref a0_wholes, .ref a0_begins, .ref a0_ends, .ref a0_answers, .int a0_n])), (a0_ends, .inl (cyI, 20, .inl f_a0_ends))]) ⟨hx, hb, hml, hown, hG⟩ hK hP hD hS hA (c_X0_isOpen l D cyI cyJ cyZ cyO a0 a0_cashiers a0_tills a0_acts a0_wholes a0_begins a0_ends a0_answers a0_n f_a0_ends v3 H.size _ hc) (cw_X0_81 hG rfl rfl ⟨Nat.le_of_ble_eq_true rfl, Nat.le_of_ble_eq_true rfl⟩) 0 rfl rfl [0, 1] [] 2 rfl (by decide) rfl [] [a0, a0_ends] rfl rfl rfl (by decide) rfl rfl rfl hl.1 rfl (Nat.le_of_ble_eq_true rfl) dX0_firstEndedBut_14 ⟨Nat.zero_le _, Nat.zero_le _⟩ (fun H locs hP hD hS => ?_)
        refine lv_if_ne (tgt := 47) hx hb dX0_firstEndedBut_17 (by decide) (fun h => ?_) (fun h => ?_)
        · have hF := t_neg h hF
          exact B47 v1 v2 v3 H locs ls hF hP hD hS (lv_sub hl [0, 1, 2, 3] rfl)
        · have hF := t_pos h hF
          refine lv_iload_n hx hb dX0_firstEndedBut_20 rfl (lv_at hl 1 rfl) ?_
          refine lv_iload_n hx hb dX0_firstEndedBut_21 rfl (lv_at hl 3 rfl) ?_
          refine lv_ishr hx hb dX0_firstEndedBut_22 ?_
          refine lv_iconst (v := (1 : Int32)) hx hb dX0_firstEndedBut_23 (by decide) ?_
          refine lv_iand hx hb dX0_firstEndedBut_24 ?_
          refine lv_if_ne (tgt := 47) hx hb dX0_firstEndedBut_25 (by decide) (fun h => ?_) (fun h => ?_)
          · have hF := t_neg h hF
            exact B47 v1 v2 v3 H locs ls hF hP hD hS (lv_sub hl [0, 1, 2, 3] rfl)
          · have hF := t_pos h hF
            refine lv_iload_n hx hb dX0_firstEndedBut_28 rfl (lv_at hl 2 rfl) ?_
            refine lv_if_lt (tgt := 45) hx hb dX0_firstEndedBut_29 (by decide) (fun h => ?_) (fun h => ?_)
            · have hF := t_pos h hF
              exact B45 v1 v3 H locs ls hF hP hD hS (lv_sub hl [0, 1, 3] rfl)
            · have hF := t_neg h hF
              refine lv_aload_n hx hb dX0_firstEndedBut_32 rfl (lv_at hl 0 rfl) ?_
              refine lv_iload_n hx hb dX0_firstEndedBut_33 rfl (lv_at hl 3 rfl) ?_
              obtain ⟨r34, hc, hF⟩ := bnd1_some hF
              refine kVi (As := [.int v3]) (rest := []) (ws' := [(a0, .inr (0, [.ref a0_cashiers, .ref a0_tills, .ref a0_acts, .ref a0_wholes, .ref a0_begins, .ref a0_ends, .ref a0_answers, .int a0_n])), (a0_ends, .inl (cyI, 20, .inl f_a0_ends))]) ⟨hx, hb, hml, hown, hG⟩ hK hP hD hS hA (c_X0_endOf l D cyI cyJ cyZ cyO a0 a0_cashiers a0_tills a0_acts a0_wholes a0_begins a0_ends a0_answers a0_n f_a0_ends v3 H.size _ hc) (cw_X0_55 hG rfl rfl ⟨Nat.le_of_ble_eq_true rfl, Nat.le_of_ble_eq_true rfl⟩) 0 rfl rfl [0, 1] [] 2 rfl (by decide) rfl [] [a0, a0_ends] rfl rfl rfl (by decide) rfl rfl rfl hl.1 rfl (Nat.le_of_ble_eq_true rfl) dX0_firstEndedBut_34 ⟨Nat.zero_le _, Nat.zero_le _⟩ (fun H locs hP hD hS => ?_)
              refine lv_aload_n hx hb dX0_firstEndedBut_37 rfl (lv_at hl 0 rfl) ?_
              refine lv_iload_n hx hb dX0_firstEndedBut_38 rfl (lv_at hl 2 rfl) ?_
              obtain ⟨r39, hc, hF⟩ := bnd1_some hF
              refine kVi (As := [.int v2]) (rest := [.int r34]) (ws' := [(a0, .inr (0, [.ref a0_cashiers, .ref a0_tills, .ref a0_acts, .ref a0_wholes, .ref a0_begins, .ref a0_ends, .ref a0_answers, .int a0_n])), (a0_ends, .inl (cyI, 20, .inl f_a0_ends))]) ⟨hx, hb, hml, hown, hG⟩ hK hP hD hS hA (c_X0_endOf l D cyI cyJ cyZ cyO a0 a0_cashiers a0_tills a0_acts a0_wholes a0_begins a0_ends a0_answers a0_n f_a0_ends v2 H.size _ hc) (cw_X0_55 hG rfl rfl ⟨Nat.le_of_ble_eq_true rfl, Nat.le_of_ble_eq_true rfl⟩) 0 rfl rfl [0, 1] [] 2 rfl (by decide) rfl [] [a0, a0_ends] rfl rfl rfl (by decide) rfl rfl rfl hl.1 rfl (Nat.le_of_ble_eq_true rfl) dX0_firstEndedBut_39 ⟨Nat.zero_le _, Nat.zero_le _⟩ (fun H locs hP hD hS => ?_)
              refine lv_icmp_ge (tgt := 47) hx hb dX0_firstEndedBut_42 (by decide) (fun h => ?_) (fun h => ?_)
              · have hF := t_pos h hF
                exact B47 v1 v2 v3 H locs ls hF hP hD hS (lv_sub hl [0, 1, 2, 3] rfl)
              · have hF := t_neg h hF
                exact B45 v1 v3 H locs ls hF hP hD hS (lv_sub hl [0, 1, 3] rfl)
  obtain ⟨H, hH⟩ : ∃ H : Heap, H = s.heap := ⟨_, rfl⟩
  obtain ⟨locs, hlo⟩ : ∃ L : List Loc, L = [] := ⟨_, rfl⟩
  have hP : va_P D vwCl [(a0, .inr (0, [.ref a0_cashiers, .ref a0_tills, .ref a0_acts, .ref a0_wholes, .ref a0_begins, .ref a0_ends, .ref a0_answers, .int a0_n])), (a0_ends, .inl (cyI, 20, .inl f_a0_ends))] H := by rw [hH]; exact hP
  have hS : va_S A s.heap H locs := by rw [hH, hlo]; exact hS
  show W p l e ({ frames := 3, cells := 0, slots := 0, locals := 63 } : Room) s m args below meth c s.heap [] 0 0 Q (F0 m 0 ls [])
  suffices hgo : W p l e ({ frames := 3, cells := 0, slots := 0, locals := 63 } : Room) s m args below meth c H locs 0 0 Q (F0 m 0 ls []) by rw [hH, hlo] at hgo; exact hgo
  refine lv_iconst (v := (-1 : Int32)) hx hb dX0_firstEndedBut_0 (by decide) ?_
  refine lv_istore_n (lv' := [(2, .int (-1 : Int32)), (0, .ref a0), (1, .int v1)]) hx hb dX0_firstEndedBut_1 rfl hl (by decide) rfl (fun ls hl => ?_)
  refine lv_iconst (v := (0 : Int32)) hx hb dX0_firstEndedBut_2 (by decide) ?_
  refine lv_istore_n (lv' := [(3, .int (0 : Int32)), (2, .int (-1 : Int32)), (0, .ref a0), (1, .int v1)]) hx hb dX0_firstEndedBut_3 rfl hl (by decide) rfl (fun ls hl => ?_)
  exact L4 fu v1 (-1 : Int32) (0 : Int32) H locs ls hF hP hD hS (lv_sub hl [2, 3, 1, 0] rfl)
set_option maxHeartbeats 4000000 in
set_option maxRecDepth 100000 in
theorem c_X0_lastOf (l : Launch) (D : va_G) (cyI cyJ cyZ cyO : ClassId) (a0 : Nat) (a0_cashiers : Nat) (a0_tills : Nat) (a0_acts : Nat) (a0_wholes : Nat) (a0_begins : Nat) (a0_ends : Nat) (a0_answers : Nat) (a0_n : Int32) (f_a0_cashiers : Nat → Int32) (v1 : Int32) (fu : Nat) (sz : Nat) (o : Int32) (hF : F_X0_lastOf fu a0_n f_a0_cashiers v1 = some o) : mI l yX0_lastOf cX0_lastOf 3 (some .int) ({ frames := 2, cells := 0, slots := 0, locals := 42 } : Room) D (wT cyI cyJ cyZ cyO) [.ref a0, .int v1] sz [(a0, .inr (0, [.ref a0_cashiers, .ref a0_tills, .ref a0_acts, .ref a0_wholes, .ref a0_begins, .ref a0_ends, .ref a0_answers, .int a0_n])), (a0_cashiers, .inl (cyI, 20, .inl f_a0_cashiers))] o [(a0, .inr (0, [.ref a0_cashiers, .ref a0_tills, .ref a0_acts, .ref a0_wholes, .ref a0_begins, .ref a0_ends, .ref a0_answers, .int a0_n])), (a0_cashiers, .inl (cyI, 20, .inl f_a0_cashiers))] := by
  refine kM_i (by decide +kernel) (Nat.le_of_ble_eq_true rfl) ?_
  intro p e s m args below meth c A ls Q hx hb hr hlocks hml hown hG hK hA hP hD hS hl hQ
  have hown : s.vm.findClass RX0 = some m.cls := hown
  have hl : lv_has ls 3 [(0, .ref a0), (1, .int v1)] := hl
  have L7 : ∀ (kf7 : Nat), ∀ (v1 : Int32) (v2 : Int32) (H : Heap) (locs : List Loc) (ls : Array Slot), F_X0_lastOf_b7 f_a0_cashiers v1 kf7 v2 = some o → va_P D vwCl [(a0, .inr (0, [.ref a0_cashiers, .ref a0_tills, .ref a0_acts, .ref a0_wholes, .ref a0_begins, .ref a0_ends, .ref a0_answers, .int a0_n])), (a0_cashiers, .inl (cyI, 20, .inl f_a0_cashiers))] H → va_D A [(a0, .inr (0, [.ref a0_cashiers, .ref a0_tills, .ref a0_acts, .ref a0_wholes, .ref a0_begins, .ref a0_ends, .ref a0_answers, .int a0_n])), (a0_cashiers, .inl (cyI, 20, .inl f_a0_cashiers))] → va_S A s.heap H locs → lv_has ls 3 [(0, .ref a0), (1, .int v1), (2, .int v2)] → W p l e ({ frames := 2, cells := 0, slots := 0, locals := 42 } : Room) s m args below meth c H locs 0 0 Q (F0 m 7 ls []) := by
    intro kf7
    induction kf7 with
    | zero => intro v1 v2 H locs ls hF; rw [F_X0_lastOf_b7] at hF; cases hF
    | succ kf7 ih7 =>
      intro v1 v2 H locs ls hF hP hD hS hl
      rw [F_X0_lastOf_b7] at hF
      refine lv_iload_n hx hb dX0_lastOf_7 rfl (lv_at hl 2 rfl) ?_
      refine lv_if_lt (tgt := 28) hx hb dX0_lastOf_8 (by decide) (fun h => ?_) (fun h => ?_)
      · have hF := t_pos h hF
        refine lv_iconst (v := (-1 : Int32)) hx hb dX0_lastOf_28 (by decide) ?_
        exact kRi (τ := Int32) (cv := (-1 : Int32)) (fr := fun u => u) (fw := fun u => [(a0, .inr (0, [.ref a0_cashiers, .ref a0_tills, .ref a0_acts, .ref a0_wholes, .ref a0_begins, .ref a0_ends, .ref a0_answers, .int a0_n])), (a0_cashiers, .inl (cyI, 20, .inl f_a0_cashiers))]) hQ hx hb hr hlocks hK hP hD hS hF rfl dX0_lastOf_29
      · have hF := t_neg h hF
        refine lv_aload_n hx hb dX0_lastOf_11 rfl (lv_at hl 0 rfl) ?_
        refine lv_iload_n hx hb dX0_lastOf_12 rfl (lv_at hl 2 rfl) ?_
        obtain ⟨r13, hc, hF⟩ := bnd1_some hF
        refine kVi (As := [.int v2]) (rest := []) (ws' := [(a0, .inr (0, [.ref a0_cashiers, .ref a0_tills, .ref a0_acts, .ref a0_wholes, .ref a0_begins, .ref a0_ends, .ref a0_answers, .int a0_n])), (a0_cashiers, .inl (cyI, 20, .inl f_a0_cashiers))]) ⟨hx, hb, hml, hown, hG⟩ hK hP hD hS hA (c_X0_cashierOf l D cyI cyJ cyZ cyO a0 a0_cashiers a0_tills a0_acts a0_wholes a0_begins a0_ends a0_answers a0_n f_a0_cashiers v2 H.size _ hc) (cw_X0_66 hG rfl rfl ⟨Nat.le_of_ble_eq_true rfl, Nat.le_of_ble_eq_true rfl⟩) 0 rfl rfl [0, 1] [] 2 rfl (by decide) rfl [] [a0, a0_cashiers] rfl rfl rfl (by decide) rfl rfl rfl hl.1 rfl (Nat.le_of_ble_eq_true rfl) dX0_lastOf_13 ⟨Nat.zero_le _, Nat.zero_le _⟩ (fun H locs hP hD hS => ?_)
        refine lv_iload_n hx hb dX0_lastOf_16 rfl (lv_at hl 1 rfl) ?_
        refine lv_icmp_ne (tgt := 22) hx hb dX0_lastOf_17 (by decide) (fun h => ?_) (fun h => ?_)
        · have hF := t_neg h hF
          refine lv_iinc (v := (v2 + (-1 : Int32))) (lv' := [(2, .int (v2 + (-1 : Int32))), (0, .ref a0), (1, .int v1)]) hx hb dX0_lastOf_22 hl (k := 2) rfl (by rfl) (by decide) rfl (fun ls hl => ?_)
          refine lv_goto (tgt := 7) hx hb dX0_lastOf_25 (by decide) ?_
          exact ih7 v1 ((v2 + (-1 : Int32))) H locs ls hF hP hD hS (lv_sub hl [1, 2, 0] rfl)
        · have hF := t_pos h hF
          refine lv_iload_n hx hb dX0_lastOf_20 rfl (lv_at hl 2 rfl) ?_
          exact kRi (τ := Int32) (cv := v2) (fr := fun u => u) (fw := fun u => [(a0, .inr (0, [.ref a0_cashiers, .ref a0_tills, .ref a0_acts, .ref a0_wholes, .ref a0_begins, .ref a0_ends, .ref a0_answers, .int a0_n])), (a0_cashiers, .inl (cyI, 20, .inl f_a0_cashiers))]) hQ hx hb hr hlocks hK hP hD hS hF rfl dX0_lastOf_21
  obtain ⟨H, hH⟩ : ∃ H : Heap, H = s.heap := ⟨_, rfl⟩
  obtain ⟨locs, hlo⟩ : ∃ L : List Loc, L = [] := ⟨_, rfl⟩
  have hP : va_P D vwCl [(a0, .inr (0, [.ref a0_cashiers, .ref a0_tills, .ref a0_acts, .ref a0_wholes, .ref a0_begins, .ref a0_ends, .ref a0_answers, .int a0_n])), (a0_cashiers, .inl (cyI, 20, .inl f_a0_cashiers))] H := by rw [hH]; exact hP
  have hS : va_S A s.heap H locs := by rw [hH, hlo]; exact hS
  show W p l e ({ frames := 2, cells := 0, slots := 0, locals := 42 } : Room) s m args below meth c s.heap [] 0 0 Q (F0 m 0 ls [])
  suffices hgo : W p l e ({ frames := 2, cells := 0, slots := 0, locals := 42 } : Room) s m args below meth c H locs 0 0 Q (F0 m 0 ls []) by rw [hH, hlo] at hgo; exact hgo
  refine lv_aload_n hx hb dX0_lastOf_0 rfl (lv_at hl 0 rfl) ?_
  refine gt_X0_33 hx hb hG hown hK hP 0 rfl rfl dX0_lastOf_1 ?_
  refine lv_iconst (v := (1 : Int32)) hx hb dX0_lastOf_4 (by decide) ?_
  refine lv_isub hx hb dX0_lastOf_5 ?_
  refine lv_istore_n (lv' := [(2, .int (a0_n - (1 : Int32))), (0, .ref a0), (1, .int v1)]) hx hb dX0_lastOf_6 rfl hl (by decide) rfl (fun ls hl => ?_)
  exact L7 fu v1 ((a0_n - (1 : Int32))) H locs ls hF hP hD hS (lv_sub hl [1, 2, 0] rfl)
set_option maxHeartbeats 4000000 in
set_option maxRecDepth 100000 in
theorem c_X0_openAt (l : Launch) (D : va_G) (cyI cyJ cyZ cyO : ClassId) (a0 : Nat) (a0_cashiers : Nat) (a0_tills : Nat) (a0_acts : Nat) (a0_wholes : Nat) (a0_begins : Nat) (a0_ends : Nat) (a0_answers : Nat) (a0_n : Int32) (f_a0_ends : Nat → Int32) (v1 : Int32) (fu : Nat) (sz : Nat) (o : Int32) (hF : F_X0_openAt fu a0_n f_a0_ends v1 = some o) : mI l yX0_openAt cX0_openAt 4 (some .int) ({ frames := 3, cells := 0, slots := 0, locals := 63 } : Room) D (wT cyI cyJ cyZ cyO) [.ref a0, .int v1] sz [(a0, .inr (0, [.ref a0_cashiers, .ref a0_tills, .ref a0_acts, .ref a0_wholes, .ref a0_begins, .ref a0_ends, .ref a0_answers, .int a0_n])), (a0_ends, .inl (cyI, 20, .inl f_a0_ends))] o [(a0, .inr (0, [.ref a0_cashiers, .ref a0_tills, .ref a0_acts, .ref a0_wholes, .ref a0_begins, .ref a0_ends, .ref a0_answers, .int a0_n])), (a0_ends, .inl (cyI, 20, .inl f_a0_ends))] := by
  refine kM_i (by decide +kernel) (Nat.le_of_ble_eq_true rfl) ?_
  intro p e s m args below meth c A ls Q hx hb hr hlocks hml hown hG hK hA hP hD hS hl hQ
  have hown : s.vm.findClass RX0 = some m.cls := hown
  have hl : lv_has ls 4 [(0, .ref a0), (1, .int v1)] := hl
  have L4 : ∀ (kf4 : Nat), ∀ (v2 : Int32) (v3 : Int32) (H : Heap) (locs : List Loc) (ls : Array Slot), F_X0_openAt_b4 a0_n f_a0_ends kf4 v2 v3 = some o → va_P D vwCl [(a0, .inr (0, [.ref a0_cashiers, .ref a0_tills, .ref a0_acts, .ref a0_wholes, .ref a0_begins, .ref a0_ends, .ref a0_answers, .int a0_n])), (a0_ends, .inl (cyI, 20, .inl f_a0_ends))] H → va_D A [(a0, .inr (0, [.ref a0_cashiers, .ref a0_tills, .ref a0_acts, .ref a0_wholes, .ref a0_begins, .ref a0_ends, .ref a0_answers, .int a0_n])), (a0_ends, .inl (cyI, 20, .inl f_a0_ends))] → va_S A s.heap H locs → lv_has ls 4 [(0, .ref a0), (2, .int v2), (3, .int v3)] → W p l e ({ frames := 3, cells := 0, slots := 0, locals := 63 } : Room) s m args below meth c H locs 0 0 Q (F0 m 4 ls []) := by
    intro kf4
    induction kf4 with
    | zero => intro v2 v3 H locs ls hF; rw [F_X0_openAt_b4] at hF; cases hF
    | succ kf4 ih4 =>
      have B29 : ∀ (v2 : Int32) (v3 : Int32) (H : Heap) (locs : List Loc) (ls : Array Slot), F_X0_openAt_b29 (F_X0_openAt_b4 a0_n f_a0_ends kf4) a0_n f_a0_ends v2 v3 = some o → va_P D vwCl [(a0, .inr (0, [.ref a0_cashiers, .ref a0_tills, .ref a0_acts, .ref a0_wholes, .ref a0_begins, .ref a0_ends, .ref a0_answers, .int a0_n])), (a0_ends, .inl (cyI, 20, .inl f_a0_ends))] H → va_D A [(a0, .inr (0, [.ref a0_cashiers, .ref a0_tills, .ref a0_acts, .ref a0_wholes, .ref a0_begins, .ref a0_ends, .ref a0_answers, .int a0_n])), (a0_ends, .inl (cyI, 20, .inl f_a0_ends))] → va_S A s.heap H locs → lv_has ls 4 [(0, .ref a0), (2, .int v2), (3, .int v3)] → W p l e ({ frames := 3, cells := 0, slots := 0, locals := 63 } : Room) s m args below meth c H locs 0 0 Q (F0 m 29 ls []) := by
        intro v2 v3 H locs ls hF hP hD hS hl
        refine lv_iinc (v := (v3 + (1 : Int32))) (lv' := [(3, .int (v3 + (1 : Int32))), (0, .ref a0), (2, .int v2)]) hx hb dX0_openAt_29 hl (k := 2) rfl (by rfl) (by decide) rfl (fun ls hl => ?_)
        refine lv_goto (tgt := 4) hx hb dX0_openAt_32 (by decide) ?_
        exact ih4 v2 ((v3 + (1 : Int32))) H locs ls hF hP hD hS (lv_sub hl [1, 2, 0] rfl)
      intro v2 v3 H locs ls hF hP hD hS hl
      rw [F_X0_openAt_b4] at hF
      refine lv_iload_n hx hb dX0_openAt_4 rfl (lv_at hl 2 rfl) ?_
      refine lv_aload_n hx hb dX0_openAt_5 rfl (lv_at hl 0 rfl) ?_
      refine gt_X0_33 hx hb hG hown hK hP 0 rfl rfl dX0_openAt_6 ?_
      refine lv_icmp_ge (tgt := 35) hx hb dX0_openAt_9 (by decide) (fun h => ?_) (fun h => ?_)
      · have hF := t_pos h hF
        refine lv_iconst (v := (-1 : Int32)) hx hb dX0_openAt_35 (by decide) ?_
        exact kRi (τ := Int32) (cv := (-1 : Int32)) (fr := fun u => u) (fw := fun u => [(a0, .inr (0, [.ref a0_cashiers, .ref a0_tills, .ref a0_acts, .ref a0_wholes, .ref a0_begins, .ref a0_ends, .ref a0_answers, .int a0_n])), (a0_ends, .inl (cyI, 20, .inl f_a0_ends))]) hQ hx hb hr hlocks hK hP hD hS hF rfl dX0_openAt_36
      · have hF := t_neg h hF
        refine lv_aload_n hx hb dX0_openAt_12 rfl (lv_at hl 0 rfl) ?_
        refine lv_iload_n hx hb dX0_openAt_13 rfl (lv_at hl 2 rfl) ?_
        obtain ⟨r14, hc, hF⟩ := bnd1_some hF
        refine kVi (As := [.int v3]) (rest := []) (ws' := [(a0, .inr (0, [.ref a0_cashiers, .ref a0_tills, .ref a0_acts, .ref a0_wholes, .ref a0_begins, .ref a0_ends, .ref a0_answers, .int a0_n])), (a0_ends, .inl (cyI, 20, .inl f_a0_ends))]) ⟨hx, hb, hml, hown, hG⟩ hK hP hD hS hA (c_X0_isOpen l D cyI cyJ cyZ cyO a0 a0_cashiers a0_tills a0_acts a0_wholes a0_begins a0_ends a0_answers a0_n f_a0_ends v3 H.size _ hc) (cw_X0_81 hG rfl rfl ⟨Nat.le_of_ble_eq_true rfl, Nat.le_of_ble_eq_true rfl⟩) 0 rfl rfl [0, 1] [] 2 rfl (by decide) rfl [] [a0, a0_ends] rfl rfl rfl (by decide) rfl rfl rfl hl.1 rfl (Nat.le_of_ble_eq_true rfl) dX0_openAt_14 ⟨Nat.zero_le _, Nat.zero_le _⟩ (fun H locs hP hD hS => ?_)
        refine lv_if_eq (tgt := 29) hx hb dX0_openAt_17 (by decide) (fun h => ?_) (fun h => ?_)
        · have hF := t_pos h hF
          exact B29 v2 v3 H locs ls hF hP hD hS (lv_sub hl [0, 1, 2] rfl)
        · have hF := t_neg h hF
          refine lv_iload_n hx hb dX0_openAt_20 rfl (lv_at hl 1 rfl) ?_
          refine lv_if_ne (tgt := 26) hx hb dX0_openAt_21 (by decide) (fun h => ?_) (fun h => ?_)
          · have hF := t_neg h hF
            refine lv_iinc (v := (v2 + (-1 : Int32))) (lv' := [(2, .int (v2 + (-1 : Int32))), (0, .ref a0), (3, .int v3)]) hx hb dX0_openAt_26 hl (k := 1) rfl (by rfl) (by decide) rfl (fun ls hl => ?_)
            exact B29 ((v2 + (-1 : Int32))) v3 H locs ls hF hP hD hS (lv_sub hl [1, 0, 2] rfl)
          · have hF := t_pos h hF
            refine lv_iload_n hx hb dX0_openAt_24 rfl (lv_at hl 2 rfl) ?_
            exact kRi (τ := Int32) (cv := v3) (fr := fun u => u) (fw := fun u => [(a0, .inr (0, [.ref a0_cashiers, .ref a0_tills, .ref a0_acts, .ref a0_wholes, .ref a0_begins, .ref a0_ends, .ref a0_answers, .int a0_n])), (a0_ends, .inl (cyI, 20, .inl f_a0_ends))]) hQ hx hb hr hlocks hK hP hD hS hF rfl dX0_openAt_25
  obtain ⟨H, hH⟩ : ∃ H : Heap, H = s.heap := ⟨_, rfl⟩
  obtain ⟨locs, hlo⟩ : ∃ L : List Loc, L = [] := ⟨_, rfl⟩
  have hP : va_P D vwCl [(a0, .inr (0, [.ref a0_cashiers, .ref a0_tills, .ref a0_acts, .ref a0_wholes, .ref a0_begins, .ref a0_ends, .ref a0_answers, .int a0_n])), (a0_ends, .inl (cyI, 20, .inl f_a0_ends))] H := by rw [hH]; exact hP
  have hS : va_S A s.heap H locs := by rw [hH, hlo]; exact hS
  show W p l e ({ frames := 3, cells := 0, slots := 0, locals := 63 } : Room) s m args below meth c s.heap [] 0 0 Q (F0 m 0 ls [])
  suffices hgo : W p l e ({ frames := 3, cells := 0, slots := 0, locals := 63 } : Room) s m args below meth c H locs 0 0 Q (F0 m 0 ls []) by rw [hH, hlo] at hgo; exact hgo
  refine lv_iload_n hx hb dX0_openAt_0 rfl (lv_at hl 1 rfl) ?_
  refine lv_istore_n (lv' := [(2, .int v1), (0, .ref a0), (1, .int v1)]) hx hb dX0_openAt_1 rfl hl (by decide) rfl (fun ls hl => ?_)
  refine lv_iconst (v := (0 : Int32)) hx hb dX0_openAt_2 (by decide) ?_
  refine lv_istore_n (lv' := [(3, .int (0 : Int32)), (2, .int v1), (0, .ref a0), (1, .int v1)]) hx hb dX0_openAt_3 rfl hl (by decide) rfl (fun ls hl => ?_)
  exact L4 fu v1 (0 : Int32) H locs ls hF hP hD hS (lv_sub hl [2, 1, 0] rfl)
