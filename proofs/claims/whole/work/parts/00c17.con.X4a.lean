set_option maxHeartbeats 4000000 in
set_option maxRecDepth 100000 in
theorem c_X4_endedAhead (l : Launch) (D : va_G) (cyI cyJ cyZ cyO : ClassId) (a1 : Nat) (a1_cashiers : Nat) (a1_tills : Nat) (a1_acts : Nat) (a1_wholes : Nat) (a1_begins : Nat) (a1_ends : Nat) (a1_answers : Nat) (a0 : Nat) (a0_ahead : Nat) (a0_own : Nat) (a1_n : Int32) (a0_there : Int32) (a0_must : Int32) (a0_strict : Int32) (a0_timed : Int32) (f_a1_begins : Nat → Int32) (f_a1_ends : Nat → Int32) (v2 : Int32) (v3 : Int32) (fu : Nat) (sz : Nat) (o : Int32) (hF : F_X4_endedAhead fu a1_n a0_timed f_a1_begins f_a1_ends v2 v3 = some o) : mI l yX4_endedAhead cX4_endedAhead 6 (some .int) ({ frames := 2, cells := 0, slots := 0, locals := 42 } : Room) D (wT cyI cyJ cyZ cyO) [.ref a0, .ref a1, .int v2, .int v3] sz [(a1, .inr (0, [.ref a1_cashiers, .ref a1_tills, .ref a1_acts, .ref a1_wholes, .ref a1_begins, .ref a1_ends, .ref a1_answers, .int a1_n])), (a0, .inr (4, [.ref a0_ahead, .ref a0_own, .int a0_there, .int a0_must, .int a0_strict, .int a0_timed])), (a1_begins, .inl (cyI, 20, .inl f_a1_begins)), (a1_ends, .inl (cyI, 20, .inl f_a1_ends))] o [(a1, .inr (0, [.ref a1_cashiers, .ref a1_tills, .ref a1_acts, .ref a1_wholes, .ref a1_begins, .ref a1_ends, .ref a1_answers, .int a1_n])), (a0, .inr (4, [.ref a0_ahead, .ref a0_own, .int a0_there, .int a0_must, .int a0_strict, .int a0_timed])), (a1_begins, .inl (cyI, 20, .inl f_a1_begins)), (a1_ends, .inl (cyI, 20, .inl f_a1_ends))] := by
  refine kM_i (by decide +kernel) (Nat.le_of_ble_eq_true rfl) ?_
  intro p e s m args below meth c A ls Q hx hb hr hlocks hml hown hG hK hA hP hD hS hl hQ
  have hown : s.vm.findClass RX4 = some m.cls := hown
  have hl : lv_has ls 6 [(0, .ref a0), (1, .ref a1), (2, .int v2), (3, .int v3)] := hl
  have L6 : ∀ (kf6 : Nat), ∀ (v2 : Int32) (v3 : Int32) (v4 : Int32) (v5 : Int32) (H : Heap) (locs : List Loc) (ls : Array Slot), F_X4_endedAhead_b6 a1_n a0_timed f_a1_begins f_a1_ends v2 v3 kf6 v4 v5 = some o → va_P D vwCl [(a1, .inr (0, [.ref a1_cashiers, .ref a1_tills, .ref a1_acts, .ref a1_wholes, .ref a1_begins, .ref a1_ends, .ref a1_answers, .int a1_n])), (a0, .inr (4, [.ref a0_ahead, .ref a0_own, .int a0_there, .int a0_must, .int a0_strict, .int a0_timed])), (a1_begins, .inl (cyI, 20, .inl f_a1_begins)), (a1_ends, .inl (cyI, 20, .inl f_a1_ends))] H → va_D A [(a1, .inr (0, [.ref a1_cashiers, .ref a1_tills, .ref a1_acts, .ref a1_wholes, .ref a1_begins, .ref a1_ends, .ref a1_answers, .int a1_n])), (a0, .inr (4, [.ref a0_ahead, .ref a0_own, .int a0_there, .int a0_must, .int a0_strict, .int a0_timed])), (a1_begins, .inl (cyI, 20, .inl f_a1_begins)), (a1_ends, .inl (cyI, 20, .inl f_a1_ends))] → va_S A s.heap H locs → lv_has ls 6 [(0, .ref a0), (1, .ref a1), (2, .int v2), (3, .int v3), (4, .int v4), (5, .int v5)] → W p l e ({ frames := 2, cells := 0, slots := 0, locals := 42 } : Room) s m args below meth c H locs 0 0 Q (F0 m 6 ls []) := by
    intro kf6
    induction kf6 with
    | zero => intro v2 v3 v4 v5 H locs ls hF; rw [F_X4_endedAhead_b6] at hF; cases hF
    | succ kf6 ih6 =>
      have B53 : ∀ (v2 : Int32) (v3 : Int32) (v4 : Int32) (v5 : Int32) (H : Heap) (locs : List Loc) (ls : Array Slot), F_X4_endedAhead_b53 (F_X4_endedAhead_b6 a1_n a0_timed f_a1_begins f_a1_ends v2 v3 kf6) a1_n a0_timed f_a1_begins f_a1_ends v2 v3 v4 v5 = some o → va_P D vwCl [(a1, .inr (0, [.ref a1_cashiers, .ref a1_tills, .ref a1_acts, .ref a1_wholes, .ref a1_begins, .ref a1_ends, .ref a1_answers, .int a1_n])), (a0, .inr (4, [.ref a0_ahead, .ref a0_own, .int a0_there, .int a0_must, .int a0_strict, .int a0_timed])), (a1_begins, .inl (cyI, 20, .inl f_a1_begins)), (a1_ends, .inl (cyI, 20, .inl f_a1_ends))] H → va_D A [(a1, .inr (0, [.ref a1_cashiers, .ref a1_tills, .ref a1_acts, .ref a1_wholes, .ref a1_begins, .ref a1_ends, .ref a1_answers, .int a1_n])), (a0, .inr (4, [.ref a0_ahead, .ref a0_own, .int a0_there, .int a0_must, .int a0_strict, .int a0_timed])), (a1_begins, .inl (cyI, 20, .inl f_a1_begins)), (a1_ends, .inl (cyI, 20, .inl f_a1_ends))] → va_S A s.heap H locs → lv_has ls 6 [(0, .ref a0), (1, .ref a1), (2, .int v2), (3, .int v3), (4, .int v4), (5, .int v5)] → W p l e ({ frames := 2, cells := 0, slots := 0, locals := 42 } : Room) s m args below meth c H locs 0 0 Q (F0 m 53 ls []) := by
        intro v2 v3 v4 v5 H locs ls hF hP hD hS hl
        refine lv_iinc (v := (v5 + (1 : Int32))) (lv' := [(5, .int (v5 + (1 : Int32))), (0, .ref a0), (1, .ref a1), (2, .int v2), (3, .int v3), (4, .int v4)]) hx hb dX4_endedAhead_53 hl (k := 5) rfl (by rfl) (by decide) rfl (fun ls hl => ?_)
        refine lv_goto (tgt := 6) hx hb dX4_endedAhead_56 (by decide) ?_
        exact ih6 v2 v3 v4 ((v5 + (1 : Int32))) H locs ls hF hP hD hS (lv_sub hl [1, 2, 3, 4, 5, 0] rfl)
      intro v2 v3 v4 v5 H locs ls hF hP hD hS hl
      rw [F_X4_endedAhead_b6] at hF
      refine lv_iload hx hb dX4_endedAhead_6 (lv_at hl 5 rfl) ?_
      refine lv_aload_n hx hb dX4_endedAhead_8 rfl (lv_at hl 1 rfl) ?_
      refine gt_X4_50 hx hb hG hown hK hP 0 rfl rfl dX4_endedAhead_9 ?_
      refine lv_icmp_ge (tgt := 59) hx hb dX4_endedAhead_12 (by decide) (fun h => ?_) (fun h => ?_)
      · have hF := t_pos h hF
        refine lv_iload hx hb dX4_endedAhead_59 (lv_at hl 4 rfl) ?_
        exact kRi (τ := Int32) (cv := v4) (fr := fun u => u) (fw := fun u => [(a1, .inr (0, [.ref a1_cashiers, .ref a1_tills, .ref a1_acts, .ref a1_wholes, .ref a1_begins, .ref a1_ends, .ref a1_answers, .int a1_n])), (a0, .inr (4, [.ref a0_ahead, .ref a0_own, .int a0_there, .int a0_must, .int a0_strict, .int a0_timed])), (a1_begins, .inl (cyI, 20, .inl f_a1_begins)), (a1_ends, .inl (cyI, 20, .inl f_a1_ends))]) hQ hx hb hr hlocks hK hP hD hS hF rfl dX4_endedAhead_61
      · have hF := t_neg h hF
        refine lv_aload_n hx hb dX4_endedAhead_15 rfl (lv_at hl 0 rfl) ?_
        refine gt_X4_28 hx hb hG hown hK hP 1 rfl rfl dX4_endedAhead_16 ?_
        refine lv_iload hx hb dX4_endedAhead_19 (lv_at hl 5 rfl) ?_
        refine lv_ishr hx hb dX4_endedAhead_21 ?_
        refine lv_iconst (v := (1 : Int32)) hx hb dX4_endedAhead_22 (by decide) ?_
        refine lv_iand hx hb dX4_endedAhead_23 ?_
        refine lv_iconst (v := (1 : Int32)) hx hb dX4_endedAhead_24 (by decide) ?_
        refine lv_icmp_ne (tgt := 53) hx hb dX4_endedAhead_25 (by decide) (fun h => ?_) (fun h => ?_)
        · have hF := t_neg h hF
          exact B53 v2 v3 v4 v5 H locs ls hF hP hD hS (lv_sub hl [0, 1, 2, 3, 4, 5] rfl)
        · have hF := t_pos h hF
          refine lv_aload_n hx hb dX4_endedAhead_28 rfl (lv_at hl 1 rfl) ?_
          refine lv_iload_n hx hb dX4_endedAhead_29 rfl (lv_at hl 2 rfl) ?_
          obtain ⟨r30, hc, hF⟩ := bnd1_some hF
          refine kVi (As := [.int v2]) (rest := []) (ws' := [(a1, .inr (0, [.ref a1_cashiers, .ref a1_tills, .ref a1_acts, .ref a1_wholes, .ref a1_begins, .ref a1_ends, .ref a1_answers, .int a1_n])), (a0, .inr (4, [.ref a0_ahead, .ref a0_own, .int a0_there, .int a0_must, .int a0_strict, .int a0_timed])), (a1_begins, .inl (cyI, 20, .inl f_a1_begins)), (a1_ends, .inl (cyI, 20, .inl f_a1_ends))]) ⟨hx, hb, hml, hown, hG⟩ hK hP hD hS hA (c_X0_beginOf l D cyI cyJ cyZ cyO a1 a1_cashiers a1_tills a1_acts a1_wholes a1_begins a1_ends a1_answers a1_n f_a1_begins v2 H.size _ hc) (cw_X4_61 hG rfl rfl ⟨Nat.le_of_ble_eq_true rfl, Nat.le_of_ble_eq_true rfl⟩) 0 rfl rfl [0, 2] [1, 3] 4 rfl (by decide) rfl [(a0, .inr (4, [.ref a0_ahead, .ref a0_own, .int a0_there, .int a0_must, .int a0_strict, .int a0_timed])), (a1_ends, .inl (cyI, 20, .inl f_a1_ends))] [a1, a0, a1_begins, a1_ends] rfl rfl rfl (by decide) rfl rfl rfl hl.1 rfl (Nat.le_of_ble_eq_true rfl) dX4_endedAhead_30 ⟨Nat.zero_le _, Nat.zero_le _⟩ (fun H locs hP hD hS => ?_)
          refine lv_aload_n hx hb dX4_endedAhead_33 rfl (lv_at hl 1 rfl) ?_
          refine lv_iload hx hb dX4_endedAhead_34 (lv_at hl 5 rfl) ?_
          obtain ⟨r36, hc, hF⟩ := bnd1_some hF
          refine kVi (As := [.int v5]) (rest := [.int r30]) (ws' := [(a1, .inr (0, [.ref a1_cashiers, .ref a1_tills, .ref a1_acts, .ref a1_wholes, .ref a1_begins, .ref a1_ends, .ref a1_answers, .int a1_n])), (a0, .inr (4, [.ref a0_ahead, .ref a0_own, .int a0_there, .int a0_must, .int a0_strict, .int a0_timed])), (a1_begins, .inl (cyI, 20, .inl f_a1_begins)), (a1_ends, .inl (cyI, 20, .inl f_a1_ends))]) ⟨hx, hb, hml, hown, hG⟩ hK hP hD hS hA (c_X0_endOf l D cyI cyJ cyZ cyO a1 a1_cashiers a1_tills a1_acts a1_wholes a1_begins a1_ends a1_answers a1_n f_a1_ends v5 H.size _ hc) (cw_X4_64 hG rfl rfl ⟨Nat.le_of_ble_eq_true rfl, Nat.le_of_ble_eq_true rfl⟩) 0 rfl rfl [0, 3] [1, 2] 4 rfl (by decide) rfl [(a0, .inr (4, [.ref a0_ahead, .ref a0_own, .int a0_there, .int a0_must, .int a0_strict, .int a0_timed])), (a1_begins, .inl (cyI, 20, .inl f_a1_begins))] [a1, a0, a1_begins, a1_ends] rfl rfl rfl (by decide) rfl rfl rfl hl.1 rfl (Nat.le_of_ble_eq_true rfl) dX4_endedAhead_36 ⟨Nat.zero_le _, Nat.zero_le _⟩ (fun H locs hP hD hS => ?_)
          refine lv_isub hx hb dX4_endedAhead_39 ?_
          refine lv_iload_n hx hb dX4_endedAhead_40 rfl (lv_at hl 3 rfl) ?_
          refine lv_icmp_le (tgt := 53) hx hb dX4_endedAhead_41 (by decide) (fun h => ?_) (fun h => ?_)
          · have hF := t_pos h hF
            exact B53 v2 v3 v4 v5 H locs ls hF hP hD hS (lv_sub hl [0, 1, 2, 3, 4, 5] rfl)
          · have hF := t_neg h hF
            refine lv_iload hx hb dX4_endedAhead_44 (lv_at hl 4 rfl) ?_
            refine lv_iconst (v := (1 : Int32)) hx hb dX4_endedAhead_46 (by decide) ?_
            refine lv_iload hx hb dX4_endedAhead_47 (lv_at hl 5 rfl) ?_
            refine lv_ishl hx hb dX4_endedAhead_49 ?_
            refine lv_ior hx hb dX4_endedAhead_50 ?_
            refine lv_istore (lv' := [(4, .int (v4 ||| ((1 : Int32) <<< (v5 &&& 31)))), (0, .ref a0), (1, .ref a1), (2, .int v2), (3, .int v3), (5, .int v5)]) hx hb dX4_endedAhead_51 hl (by decide) rfl (fun ls hl => ?_)
            exact B53 v2 v3 ((v4 ||| ((1 : Int32) <<< (v5 &&& 31)))) v5 H locs ls hF hP hD hS (lv_sub hl [1, 2, 3, 4, 0, 5] rfl)
  obtain ⟨H, hH⟩ : ∃ H : Heap, H = s.heap := ⟨_, rfl⟩
  obtain ⟨locs, hlo⟩ : ∃ L : List Loc, L = [] := ⟨_, rfl⟩
  have hP : va_P D vwCl [(a1, .inr (0, [.ref a1_cashiers, .ref a1_tills, .ref a1_acts, .ref a1_wholes, .ref a1_begins, .ref a1_ends, .ref a1_answers, .int a1_n])), (a0, .inr (4, [.ref a0_ahead, .ref a0_own, .int a0_there, .int a0_must, .int a0_strict, .int a0_timed])), (a1_begins, .inl (cyI, 20, .inl f_a1_begins)), (a1_ends, .inl (cyI, 20, .inl f_a1_ends))] H := by rw [hH]; exact hP
  have hS : va_S A s.heap H locs := by rw [hH, hlo]; exact hS
  show W p l e ({ frames := 2, cells := 0, slots := 0, locals := 42 } : Room) s m args below meth c s.heap [] 0 0 Q (F0 m 0 ls [])
  suffices hgo : W p l e ({ frames := 2, cells := 0, slots := 0, locals := 42 } : Room) s m args below meth c H locs 0 0 Q (F0 m 0 ls []) by rw [hH, hlo] at hgo; exact hgo
  refine lv_iconst (v := (0 : Int32)) hx hb dX4_endedAhead_0 (by decide) ?_
  refine lv_istore (lv' := [(4, .int (0 : Int32)), (0, .ref a0), (1, .ref a1), (2, .int v2), (3, .int v3)]) hx hb dX4_endedAhead_1 hl (by decide) rfl (fun ls hl => ?_)
  refine lv_iconst (v := (0 : Int32)) hx hb dX4_endedAhead_3 (by decide) ?_
  refine lv_istore (lv' := [(5, .int (0 : Int32)), (4, .int (0 : Int32)), (0, .ref a0), (1, .ref a1), (2, .int v2), (3, .int v3)]) hx hb dX4_endedAhead_4 hl (by decide) rfl (fun ls hl => ?_)
  exact L6 fu v2 v3 (0 : Int32) (0 : Int32) H locs ls hF hP hD hS (lv_sub hl [2, 3, 4, 5, 1, 0] rfl)
set_option maxHeartbeats 4000000 in
set_option maxRecDepth 100000 in
theorem c_X4_bind (l : Launch) (D : va_G) (cyI cyJ cyZ cyO : ClassId) (a0 : Nat) (a0_ahead : Nat) (a0_own : Nat) (a1 : Nat) (a1_cashiers : Nat) (a1_tills : Nat) (a1_acts : Nat) (a1_wholes : Nat) (a1_begins : Nat) (a1_ends : Nat) (a1_answers : Nat) (a0_there : Int32) (a0_must : Int32) (a0_strict : Int32) (a0_timed : Int32) (f_a0_own : Nat → Int32) (a1_n : Int32) (f_a1_cashiers : Nat → Int32) (f_a1_begins : Nat → Int32) (f_a1_ends : Nat → Int32) (f_a0_ahead : Nat → Int32) (v2 : Int32) (fu : Nat) (sz : Nat) (o : (Nat → Int32) × (Nat → Int32)) (hF : F_X4_bind fu a0_there a0_timed f_a0_own a1_n f_a1_cashiers f_a1_begins f_a1_ends f_a0_ahead v2 = some o) : mV l yX4_bind cX4_bind 5 none ({ frames := 3, cells := 0, slots := 0, locals := 67 } : Room) D (wT cyI cyJ cyZ cyO) [.ref a0, .ref a1, .int v2] sz [(a0, .inr (4, [.ref a0_ahead, .ref a0_own, .int a0_there, .int a0_must, .int a0_strict, .int a0_timed])), (a0_own, .inl (cyI, 4, .inl f_a0_own)), (a1, .inr (0, [.ref a1_cashiers, .ref a1_tills, .ref a1_acts, .ref a1_wholes, .ref a1_begins, .ref a1_ends, .ref a1_answers, .int a1_n])), (a1_cashiers, .inl (cyI, 20, .inl f_a1_cashiers)), (a1_begins, .inl (cyI, 20, .inl f_a1_begins)), (a1_ends, .inl (cyI, 20, .inl f_a1_ends)), (a0_ahead, .inl (cyI, 20, .inl f_a0_ahead))] [(a0, .inr (4, [.ref a0_ahead, .ref a0_own, .int a0_there, .int a0_must, .int a0_strict, .int a0_timed])), (a0_own, .inl (cyI, 4, .inl (o.1))), (a1, .inr (0, [.ref a1_cashiers, .ref a1_tills, .ref a1_acts, .ref a1_wholes, .ref a1_begins, .ref a1_ends, .ref a1_answers, .int a1_n])), (a1_cashiers, .inl (cyI, 20, .inl f_a1_cashiers)), (a1_begins, .inl (cyI, 20, .inl f_a1_begins)), (a1_ends, .inl (cyI, 20, .inl f_a1_ends)), (a0_ahead, .inl (cyI, 20, .inl (o.2)))] := by
  refine kM_v (by decide +kernel) (Nat.le_of_ble_eq_true rfl) ?_
  intro p e s m args below meth c A ls Q hx hb hr hlocks hml hown hG hK hA hP hD hS hl hQ
  have hown : s.vm.findClass RX4 = some m.cls := hown
  have hl : lv_has ls 5 [(0, .ref a0), (1, .ref a1), (2, .int v2)] := hl
  have L10 : ∀ (kf10 : Nat), ∀ (v2 : Int32) (v3 : Int32) (f_a0_own : Nat → Int32) (f_a0_ahead : Nat → Int32) (H : Heap) (locs : List Loc) (ls : Array Slot), F_X4_bind_b10 fu a0_there a0_timed a1_n f_a1_cashiers f_a1_begins f_a1_ends v2 kf10 f_a0_own f_a0_ahead v3 = some o → va_P D vwCl [(a0, .inr (4, [.ref a0_ahead, .ref a0_own, .int a0_there, .int a0_must, .int a0_strict, .int a0_timed])), (a0_own, .inl (cyI, 4, .inl f_a0_own)), (a1, .inr (0, [.ref a1_cashiers, .ref a1_tills, .ref a1_acts, .ref a1_wholes, .ref a1_begins, .ref a1_ends, .ref a1_answers, .int a1_n])), (a1_cashiers, .inl (cyI, 20, .inl f_a1_cashiers)), (a1_begins, .inl (cyI, 20, .inl f_a1_begins)), (a1_ends, .inl (cyI, 20, .inl f_a1_ends)), (a0_ahead, .inl (cyI, 20, .inl f_a0_ahead))] H → va_D A [(a0, .inr (4, [.ref a0_ahead, .ref a0_own, .int a0_there, .int a0_must, .int a0_strict, .int a0_timed])), (a0_own, .inl (cyI, 4, .inl f_a0_own)), (a1, .inr (0, [.ref a1_cashiers, .ref a1_tills, .ref a1_acts, .ref a1_wholes, .ref a1_begins, .ref a1_ends, .ref a1_answers, .int a1_n])), (a1_cashiers, .inl (cyI, 20, .inl f_a1_cashiers)), (a1_begins, .inl (cyI, 20, .inl f_a1_begins)), (a1_ends, .inl (cyI, 20, .inl f_a1_ends)), (a0_ahead, .inl (cyI, 20, .inl f_a0_ahead))] → va_S A s.heap H locs → lv_has ls 5 [(0, .ref a0), (1, .ref a1), (2, .int v2), (3, .int v3)] → W p l e ({ frames := 3, cells := 0, slots := 0, locals := 67 } : Room) s m args below meth c H locs 0 0 Q (F0 m 10 ls []) := by
    intro kf10
    induction kf10 with
    | zero => intro v2 v3 f_a0_own f_a0_ahead H locs ls hF; rw [F_X4_bind_b10] at hF; cases hF
    | succ kf10 ih10 =>
      have B88 : ∀ (v2 : Int32) (v3 : Int32) (f_a0_own : Nat → Int32) (f_a0_ahead : Nat → Int32) (H : Heap) (locs : List Loc) (ls : Array Slot), F_X4_bind_b88 (F_X4_bind_b10 fu a0_there a0_timed a1_n f_a1_cashiers f_a1_begins f_a1_ends v2 kf10) fu a0_there a0_timed f_a0_own a1_n f_a1_cashiers f_a1_begins f_a1_ends f_a0_ahead v2 v3 = some o → va_P D vwCl [(a0, .inr (4, [.ref a0_ahead, .ref a0_own, .int a0_there, .int a0_must, .int a0_strict, .int a0_timed])), (a0_own, .inl (cyI, 4, .inl f_a0_own)), (a1, .inr (0, [.ref a1_cashiers, .ref a1_tills, .ref a1_acts, .ref a1_wholes, .ref a1_begins, .ref a1_ends, .ref a1_answers, .int a1_n])), (a1_cashiers, .inl (cyI, 20, .inl f_a1_cashiers)), (a1_begins, .inl (cyI, 20, .inl f_a1_begins)), (a1_ends, .inl (cyI, 20, .inl f_a1_ends)), (a0_ahead, .inl (cyI, 20, .inl f_a0_ahead))] H → va_D A [(a0, .inr (4, [.ref a0_ahead, .ref a0_own, .int a0_there, .int a0_must, .int a0_strict, .int a0_timed])), (a0_own, .inl (cyI, 4, .inl f_a0_own)), (a1, .inr (0, [.ref a1_cashiers, .ref a1_tills, .ref a1_acts, .ref a1_wholes, .ref a1_begins, .ref a1_ends, .ref a1_answers, .int a1_n])), (a1_cashiers, .inl (cyI, 20, .inl f_a1_cashiers)), (a1_begins, .inl (cyI, 20, .inl f_a1_begins)), (a1_ends, .inl (cyI, 20, .inl f_a1_ends)), (a0_ahead, .inl (cyI, 20, .inl f_a0_ahead))] → va_S A s.heap H locs → lv_has ls 5 [(0, .ref a0), (1, .ref a1), (2, .int v2), (3, .int v3)] → W p l e ({ frames := 3, cells := 0, slots := 0, locals := 67 } : Room) s m args below meth c H locs 0 0 Q (F0 m 88 ls []) := by
        intro v2 v3 f_a0_own f_a0_ahead H locs ls hF hP hD hS hl
        refine lv_iinc (v := (v3 + (1 : Int32))) (lv' := [(3, .int (v3 + (1 : Int32))), (0, .ref a0), (1, .ref a1), (2, .int v2)]) hx hb dX4_bind_88 hl (k := 3) rfl (by rfl) (by decide) rfl (fun ls hl => ?_)
        refine lv_goto (tgt := 10) hx hb dX4_bind_91 (by decide) ?_
        exact ih10 v2 ((v3 + (1 : Int32))) f_a0_own f_a0_ahead H locs ls hF hP hD hS (lv_sub hl [1, 2, 3, 0] rfl)
      intro v2 v3 f_a0_own f_a0_ahead H locs ls hF hP hD hS hl
      rw [F_X4_bind_b10] at hF
      refine lv_iload_n hx hb dX4_bind_10 rfl (lv_at hl 3 rfl) ?_
      refine lv_aload_n hx hb dX4_bind_11 rfl (lv_at hl 1 rfl) ?_
      refine gt_X4_50 hx hb hG hown hK hP 2 rfl rfl dX4_bind_12 ?_
      refine lv_icmp_ge (tgt := 94) hx hb dX4_bind_15 (by decide) (fun h => ?_) (fun h => ?_)
      · have hF := t_pos h hF
        exact kRv (τ := (Nat → Int32) × (Nat → Int32)) (cv := (f_a0_own, f_a0_ahead)) (fw := fun u => [(a0, .inr (4, [.ref a0_ahead, .ref a0_own, .int a0_there, .int a0_must, .int a0_strict, .int a0_timed])), (a0_own, .inl (cyI, 4, .inl (u.1))), (a1, .inr (0, [.ref a1_cashiers, .ref a1_tills, .ref a1_acts, .ref a1_wholes, .ref a1_begins, .ref a1_ends, .ref a1_answers, .int a1_n])), (a1_cashiers, .inl (cyI, 20, .inl f_a1_cashiers)), (a1_begins, .inl (cyI, 20, .inl f_a1_begins)), (a1_ends, .inl (cyI, 20, .inl f_a1_ends)), (a0_ahead, .inl (cyI, 20, .inl (u.2)))]) hQ hx hb hr hlocks hK hP hD hS hF  dX4_bind_94
      · have hF := t_neg h hF
        refine lv_iload_n hx hb dX4_bind_18 rfl (lv_at hl 3 rfl) ?_
        refine lv_bipush (v := (20 : Int32)) hx hb dX4_bind_19 (by decide) ?_
        refine lv_icmp_ge (tgt := 94) hx hb dX4_bind_21 (by decide) (fun h => ?_) (fun h => ?_)
        · have hF := t_pos h hF
          exact kRv (τ := (Nat → Int32) × (Nat → Int32)) (cv := (f_a0_own, f_a0_ahead)) (fw := fun u => [(a0, .inr (4, [.ref a0_ahead, .ref a0_own, .int a0_there, .int a0_must, .int a0_strict, .int a0_timed])), (a0_own, .inl (cyI, 4, .inl (u.1))), (a1, .inr (0, [.ref a1_cashiers, .ref a1_tills, .ref a1_acts, .ref a1_wholes, .ref a1_begins, .ref a1_ends, .ref a1_answers, .int a1_n])), (a1_cashiers, .inl (cyI, 20, .inl f_a1_cashiers)), (a1_begins, .inl (cyI, 20, .inl f_a1_begins)), (a1_ends, .inl (cyI, 20, .inl f_a1_ends)), (a0_ahead, .inl (cyI, 20, .inl (u.2)))]) hQ hx hb hr hlocks hK hP hD hS hF  dX4_bind_94
        · have hF := t_neg h hF
          refine lv_aload_n hx hb dX4_bind_24 rfl (lv_at hl 1 rfl) ?_
          refine lv_iload_n hx hb dX4_bind_25 rfl (lv_at hl 3 rfl) ?_
          obtain ⟨r26, hc, hF⟩ := bnd1_some hF
          refine kVi (As := [.int v3]) (rest := []) (ws' := [(a0, .inr (4, [.ref a0_ahead, .ref a0_own, .int a0_there, .int a0_must, .int a0_strict, .int a0_timed])), (a0_own, .inl (cyI, 4, .inl f_a0_own)), (a1, .inr (0, [.ref a1_cashiers, .ref a1_tills, .ref a1_acts, .ref a1_wholes, .ref a1_begins, .ref a1_ends, .ref a1_answers, .int a1_n])), (a1_cashiers, .inl (cyI, 20, .inl f_a1_cashiers)), (a1_begins, .inl (cyI, 20, .inl f_a1_begins)), (a1_ends, .inl (cyI, 20, .inl f_a1_ends)), (a0_ahead, .inl (cyI, 20, .inl f_a0_ahead))]) ⟨hx, hb, hml, hown, hG⟩ hK hP hD hS hA (c_X0_cashierOf l D cyI cyJ cyZ cyO a1 a1_cashiers a1_tills a1_acts a1_wholes a1_begins a1_ends a1_answers a1_n f_a1_cashiers v3 H.size _ hc) (cw_X4_53 hG rfl rfl ⟨Nat.le_of_ble_eq_true rfl, Nat.le_of_ble_eq_true rfl⟩) 2 rfl rfl [2, 3] [0, 1, 4, 5, 6] 7 rfl (by decide) rfl [(a0, .inr (4, [.ref a0_ahead, .ref a0_own, .int a0_there, .int a0_must, .int a0_strict, .int a0_timed])), (a0_own, .inl (cyI, 4, .inl f_a0_own)), (a1_begins, .inl (cyI, 20, .inl f_a1_begins)), (a1_ends, .inl (cyI, 20, .inl f_a1_ends)), (a0_ahead, .inl (cyI, 20, .inl f_a0_ahead))] [a0, a0_own, a1, a1_cashiers, a1_begins, a1_ends, a0_ahead] rfl rfl rfl (by decide) rfl rfl rfl hl.1 rfl (Nat.le_of_ble_eq_true rfl) dX4_bind_26 ⟨Nat.zero_le _, Nat.zero_le _⟩ (fun H locs hP hD hS => ?_)
          refine lv_istore (lv' := [(4, .int r26), (0, .ref a0), (1, .ref a1), (2, .int v2), (3, .int v3)]) hx hb dX4_bind_29 hl (by decide) rfl (fun ls hl => ?_)
          refine lv_aload_n hx hb dX4_bind_31 rfl (lv_at hl 1 rfl) ?_
          refine gt_X4_18 hx hb hG hown hK hP 0 rfl rfl dX4_bind_32 ?_
          refine lv_iload_n hx hb dX4_bind_35 rfl (lv_at hl 4 rfl) ?_
          refine lv_ishr hx hb dX4_bind_36 ?_
          refine lv_iconst (v := (1 : Int32)) hx hb dX4_bind_37 (by decide) ?_
          refine lv_iand hx hb dX4_bind_38 ?_
          refine lv_iconst (v := (1 : Int32)) hx hb dX4_bind_39 (by decide) ?_
          refine lv_icmp_ne (tgt := 88) hx hb dX4_bind_40 (by decide) (fun h => ?_) (fun h => ?_)
          · have hF := t_neg h hF
            exact B88 v2 v3 f_a0_own f_a0_ahead H locs ls hF hP hD hS (lv_sub hl [1, 2, 3, 4] rfl)
          · have hF := t_pos h hF
            refine lv_iload hx hb dX4_bind_43 (lv_at hl 0 rfl) ?_
            refine lv_if_lt (tgt := 88) hx hb dX4_bind_45 (by decide) (fun h => ?_) (fun h => ?_)
            · have hF := t_pos h hF
              exact B88 v2 v3 f_a0_own f_a0_ahead H locs ls hF hP hD hS (lv_sub hl [1, 2, 3, 4] rfl)
            · have hF := t_neg h hF
              refine lv_iload hx hb dX4_bind_48 (lv_at hl 0 rfl) ?_
              refine lv_iconst (v := (4 : Int32)) hx hb dX4_bind_50 (by decide) ?_
              refine lv_icmp_ge (tgt := 88) hx hb dX4_bind_51 (by decide) (fun h => ?_) (fun h => ?_)
              · have hF := t_pos h hF
                exact B88 v2 v3 f_a0_own f_a0_ahead H locs ls hF hP hD hS (lv_sub hl [1, 2, 3, 4] rfl)
              · have hF := t_neg h hF
                refine lv_aload_n hx hb dX4_bind_54 rfl (lv_at hl 1 rfl) ?_
                refine gt_X4_9 hx hb hG hown hK hP 0 rfl rfl dX4_bind_55 ?_
                refine lv_iload_n hx hb dX4_bind_58 rfl (lv_at hl 4 rfl) ?_
                refine lv_aload_n hx hb dX4_bind_59 rfl (lv_at hl 1 rfl) ?_
                refine gt_X4_15 hx hb hG hown hK hP 0 rfl rfl dX4_bind_60 ?_
                refine lv_iload hx hb dX4_bind_63 (lv_at hl 0 rfl) ?_
                obtain ⟨hin, hF⟩ := t_grd hF
                refine va_iald hx hb hK hP 1 0 rfl rfl hin dX4_bind_65 ?_
                refine lv_aload_n hx hb dX4_bind_66 rfl (lv_at hl 1 rfl) ?_
                refine lv_aload_n hx hb dX4_bind_67 rfl (lv_at hl 2 rfl) ?_
                refine lv_iload_n hx hb dX4_bind_68 rfl (lv_at hl 4 rfl) ?_
                refine lv_iload_n hx hb dX4_bind_69 rfl (lv_at hl 3 rfl) ?_
                obtain ⟨r70, hc, hF⟩ := bnd1_some hF
                refine kVi (As := [.ref a1, .int v3, .int v2]) (rest := [.int (f_a0_own r26.toNatClampNeg), .int v3, .ref a0_ahead]) (ws' := [(a0, .inr (4, [.ref a0_ahead, .ref a0_own, .int a0_there, .int a0_must, .int a0_strict, .int a0_timed])), (a0_own, .inl (cyI, 4, .inl f_a0_own)), (a1, .inr (0, [.ref a1_cashiers, .ref a1_tills, .ref a1_acts, .ref a1_wholes, .ref a1_begins, .ref a1_ends, .ref a1_answers, .int a1_n])), (a1_cashiers, .inl (cyI, 20, .inl f_a1_cashiers)), (a1_begins, .inl (cyI, 20, .inl f_a1_begins)), (a1_ends, .inl (cyI, 20, .inl f_a1_ends)), (a0_ahead, .inl (cyI, 20, .inl f_a0_ahead))]) ⟨hx, hb, hml, hown, hG⟩ hK hP hD hS hA (c_X4_endedAhead l D cyI cyJ cyZ cyO a1 a1_cashiers a1_tills a1_acts a1_wholes a1_begins a1_ends a1_answers a0 a0_ahead a0_own a1_n a0_there a0_must a0_strict a0_timed f_a1_begins f_a1_ends v3 v2 fu H.size _ hc) (cw_X4_57 hG rfl rfl ⟨Nat.le_of_ble_eq_true rfl, Nat.le_of_ble_eq_true rfl⟩) 0 rfl rfl [2, 0, 4, 5] [1, 3, 6] 7 rfl (by decide) rfl [(a0_own, .inl (cyI, 4, .inl f_a0_own)), (a1_cashiers, .inl (cyI, 20, .inl f_a1_cashiers)), (a0_ahead, .inl (cyI, 20, .inl f_a0_ahead))] [a0, a0_own, a1, a1_cashiers, a1_begins, a1_ends, a0_ahead] rfl rfl rfl (by decide) rfl rfl rfl hl.1 rfl (Nat.le_of_ble_eq_true rfl) dX4_bind_70 ⟨Nat.zero_le _, Nat.zero_le _⟩ (fun H locs hP hD hS => ?_)
                refine lv_ior hx hb dX4_bind_73 ?_
                obtain ⟨hin, hF⟩ := t_grd hF
                refine va_iast hx hb hK hP hD hS 6 0 rfl rfl hin dX4_bind_74 (fun H locs hP hD hS => ?_)
                have hP : va_P D vwCl [(a0, .inr (4, [.ref a0_ahead, .ref a0_own, .int a0_there, .int a0_must, .int a0_strict, .int a0_timed])), (a0_own, .inl (cyI, 4, .inl f_a0_own)), (a1, .inr (0, [.ref a1_cashiers, .ref a1_tills, .ref a1_acts, .ref a1_wholes, .ref a1_begins, .ref a1_ends, .ref a1_answers, .int a1_n])), (a1_cashiers, .inl (cyI, 20, .inl f_a1_cashiers)), (a1_begins, .inl (cyI, 20, .inl f_a1_begins)), (a1_ends, .inl (cyI, 20, .inl f_a1_ends)), (a0_ahead, .inl (cyI, 20, .inl ((upd f_a0_ahead v3.toNatClampNeg ((f_a0_own r26.toNatClampNeg) ||| r70)))))] H := hP
                have hD : va_D A [(a0, .inr (4, [.ref a0_ahead, .ref a0_own, .int a0_there, .int a0_must, .int a0_strict, .int a0_timed])), (a0_own, .inl (cyI, 4, .inl f_a0_own)), (a1, .inr (0, [.ref a1_cashiers, .ref a1_tills, .ref a1_acts, .ref a1_wholes, .ref a1_begins, .ref a1_ends, .ref a1_answers, .int a1_n])), (a1_cashiers, .inl (cyI, 20, .inl f_a1_cashiers)), (a1_begins, .inl (cyI, 20, .inl f_a1_begins)), (a1_ends, .inl (cyI, 20, .inl f_a1_ends)), (a0_ahead, .inl (cyI, 20, .inl ((upd f_a0_ahead v3.toNatClampNeg ((f_a0_own r26.toNatClampNeg) ||| r70)))))] := hD
                refine lv_aload_n hx hb dX4_bind_75 rfl (lv_at hl 1 rfl) ?_
                refine gt_X4_15 hx hb hG hown hK hP 0 rfl rfl dX4_bind_76 ?_
                refine lv_iload hx hb dX4_bind_79 (lv_at hl 0 rfl) ?_
                refine lv_dup2_11 hx hb dX4_bind_81 rfl rfl ?_
                obtain ⟨hin, hF⟩ := t_grd hF
                refine va_iald hx hb hK hP 1 0 rfl rfl hin dX4_bind_82 ?_
                refine lv_iconst (v := (1 : Int32)) hx hb dX4_bind_83 (by decide) ?_
                refine lv_iload_n hx hb dX4_bind_84 rfl (lv_at hl 4 rfl) ?_
                refine lv_ishl hx hb dX4_bind_85 ?_
                refine lv_ior hx hb dX4_bind_86 ?_
                obtain ⟨hin, hF⟩ := t_grd hF
                refine va_iast hx hb hK hP hD hS 1 0 rfl rfl hin dX4_bind_87 (fun H locs hP hD hS => ?_)
                have hP : va_P D vwCl [(a0, .inr (4, [.ref a0_ahead, .ref a0_own, .int a0_there, .int a0_must, .int a0_strict, .int a0_timed])), (a0_own, .inl (cyI, 4, .inl ((upd f_a0_own r26.toNatClampNeg ((f_a0_own r26.toNatClampNeg) ||| ((1 : Int32) <<< (v3 &&& 31))))))), (a1, .inr (0, [.ref a1_cashiers, .ref a1_tills, .ref a1_acts, .ref a1_wholes, .ref a1_begins, .ref a1_ends, .ref a1_answers, .int a1_n])), (a1_cashiers, .inl (cyI, 20, .inl f_a1_cashiers)), (a1_begins, .inl (cyI, 20, .inl f_a1_begins)), (a1_ends, .inl (cyI, 20, .inl f_a1_ends)), (a0_ahead, .inl (cyI, 20, .inl ((upd f_a0_ahead v3.toNatClampNeg ((f_a0_own r26.toNatClampNeg) ||| r70)))))] H := hP
                have hD : va_D A [(a0, .inr (4, [.ref a0_ahead, .ref a0_own, .int a0_there, .int a0_must, .int a0_strict, .int a0_timed])), (a0_own, .inl (cyI, 4, .inl ((upd f_a0_own r26.toNatClampNeg ((f_a0_own r26.toNatClampNeg) ||| ((1 : Int32) <<< (v3 &&& 31))))))), (a1, .inr (0, [.ref a1_cashiers, .ref a1_tills, .ref a1_acts, .ref a1_wholes, .ref a1_begins, .ref a1_ends, .ref a1_answers, .int a1_n])), (a1_cashiers, .inl (cyI, 20, .inl f_a1_cashiers)), (a1_begins, .inl (cyI, 20, .inl f_a1_begins)), (a1_ends, .inl (cyI, 20, .inl f_a1_ends)), (a0_ahead, .inl (cyI, 20, .inl ((upd f_a0_ahead v3.toNatClampNeg ((f_a0_own r26.toNatClampNeg) ||| r70)))))] := hD
                exact B88 v2 v3 ((upd f_a0_own r26.toNatClampNeg ((f_a0_own r26.toNatClampNeg) ||| ((1 : Int32) <<< (v3 &&& 31))))) ((upd f_a0_ahead v3.toNatClampNeg ((f_a0_own r26.toNatClampNeg) ||| r70))) H locs ls hF hP hD hS (lv_sub hl [1, 2, 3, 4] rfl)
  obtain ⟨H, hH⟩ : ∃ H : Heap, H = s.heap := ⟨_, rfl⟩
  obtain ⟨locs, hlo⟩ : ∃ L : List Loc, L = [] := ⟨_, rfl⟩
  have hP : va_P D vwCl [(a0, .inr (4, [.ref a0_ahead, .ref a0_own, .int a0_there, .int a0_must, .int a0_strict, .int a0_timed])), (a0_own, .inl (cyI, 4, .inl f_a0_own)), (a1, .inr (0, [.ref a1_cashiers, .ref a1_tills, .ref a1_acts, .ref a1_wholes, .ref a1_begins, .ref a1_ends, .ref a1_answers, .int a1_n])), (a1_cashiers, .inl (cyI, 20, .inl f_a1_cashiers)), (a1_begins, .inl (cyI, 20, .inl f_a1_begins)), (a1_ends, .inl (cyI, 20, .inl f_a1_ends)), (a0_ahead, .inl (cyI, 20, .inl f_a0_ahead))] H := by rw [hH]; exact hP
  have hS : va_S A s.heap H locs := by rw [hH, hlo]; exact hS
  show W p l e ({ frames := 3, cells := 0, slots := 0, locals := 67 } : Room) s m args below meth c s.heap [] 0 0 Q (F0 m 0 ls [])
  suffices hgo : W p l e ({ frames := 3, cells := 0, slots := 0, locals := 67 } : Room) s m args below meth c H locs 0 0 Q (F0 m 0 ls []) by rw [hH, hlo] at hgo; exact hgo
  refine lv_aload_n hx hb dX4_bind_0 rfl (lv_at hl 0 rfl) ?_
  refine gt_X4_15 hx hb hG hown hK hP 0 rfl rfl dX4_bind_1 ?_
  refine lv_iconst (v := (0 : Int32)) hx hb dX4_bind_4 (by decide) ?_
  obtain ⟨u5_0, hc, hF⟩ := bnd1_some hF
  refine kSv (As := [.ref a0_own, .int (0 : Int32)]) (rest := []) (ws' := [(a0, .inr (4, [.ref a0_ahead, .ref a0_own, .int a0_there, .int a0_must, .int a0_strict, .int a0_timed])), (a0_own, .inl (cyI, 4, .inl u5_0)), (a1, .inr (0, [.ref a1_cashiers, .ref a1_tills, .ref a1_acts, .ref a1_wholes, .ref a1_begins, .ref a1_ends, .ref a1_answers, .int a1_n])), (a1_cashiers, .inl (cyI, 20, .inl f_a1_cashiers)), (a1_begins, .inl (cyI, 20, .inl f_a1_begins)), (a1_ends, .inl (cyI, 20, .inl f_a1_ends)), (a0_ahead, .inl (cyI, 20, .inl f_a0_ahead))]) ⟨hx, hb, hml, hown, hG⟩ hK hP hD hS hA (c_J7_fill_53178 l D cyI cyJ cyZ cyO a0_own 4 f_a0_own (0 : Int32) fu H.size _ hc) (cs_X4_44 hG rfl rfl ⟨Nat.le_of_ble_eq_true rfl, Nat.le_of_ble_eq_true rfl⟩) [1] [0, 2, 3, 4, 5, 6] 7 rfl (by decide) rfl [(a0, .inr (4, [.ref a0_ahead, .ref a0_own, .int a0_there, .int a0_must, .int a0_strict, .int a0_timed])), (a1, .inr (0, [.ref a1_cashiers, .ref a1_tills, .ref a1_acts, .ref a1_wholes, .ref a1_begins, .ref a1_ends, .ref a1_answers, .int a1_n])), (a1_cashiers, .inl (cyI, 20, .inl f_a1_cashiers)), (a1_begins, .inl (cyI, 20, .inl f_a1_begins)), (a1_ends, .inl (cyI, 20, .inl f_a1_ends)), (a0_ahead, .inl (cyI, 20, .inl f_a0_ahead))] [a0, a0_own, a1, a1_cashiers, a1_begins, a1_ends, a0_ahead] rfl rfl rfl (by decide) rfl rfl rfl hl.1 rfl (Nat.le_of_ble_eq_true rfl) dX4_bind_5 ⟨Nat.zero_le _, Nat.zero_le _⟩ (fun H locs hP hD hS => ?_)
  refine lv_iconst (v := (0 : Int32)) hx hb dX4_bind_8 (by decide) ?_
  refine lv_istore_n (lv' := [(3, .int (0 : Int32)), (0, .ref a0), (1, .ref a1), (2, .int v2)]) hx hb dX4_bind_9 rfl hl (by decide) rfl (fun ls hl => ?_)
  exact L10 fu v2 (0 : Int32) u5_0 f_a0_ahead H locs ls hF hP hD hS (lv_sub hl [1, 2, 3, 0] rfl)
set_option maxHeartbeats 4000000 in
set_option maxRecDepth 100000 in
theorem c_X4_gapOf (l : Launch) (D : va_G) (cyI cyJ cyZ cyO : ClassId) (v0 : Int32) (v1 : Int32) (sz : Nat) (o : Int32) (hF : F_X4_gapOf v0 v1 = some o) : mI l yX4_gapOf cX4_gapOf 2 (some .int) ({ frames := 0, cells := 0, slots := 0, locals := 0 } : Room) D (wT cyI cyJ cyZ cyO) [.int v0, .int v1] sz [] o [] := by
  refine kM_i (by decide +kernel) (Nat.le_of_ble_eq_true rfl) ?_
  intro p e s m args below meth c A ls Q hx hb hr hlocks hml hown hG hK hA hP hD hS hl hQ
  have hown : s.vm.findClass RX4 = some m.cls := hown
  have hl : lv_has ls 2 [(0, .int v0), (1, .int v1)] := hl
  obtain ⟨H, hH⟩ : ∃ H : Heap, H = s.heap := ⟨_, rfl⟩
  obtain ⟨locs, hlo⟩ : ∃ L : List Loc, L = [] := ⟨_, rfl⟩
  have hP : va_P D vwCl [] H := by rw [hH]; exact hP
  have hS : va_S A s.heap H locs := by rw [hH, hlo]; exact hS
  show W p l e ({ frames := 0, cells := 0, slots := 0, locals := 0 } : Room) s m args below meth c s.heap [] 0 0 Q (F0 m 0 ls [])
  suffices hgo : W p l e ({ frames := 0, cells := 0, slots := 0, locals := 0 } : Room) s m args below meth c H locs 0 0 Q (F0 m 0 ls []) by rw [hH, hlo] at hgo; exact hgo
  refine lv_iload_n hx hb dX4_gapOf_0 rfl (lv_at hl 0 rfl) ?_
  refine lv_iconst (v := (1 : Int32)) hx hb dX4_gapOf_1 (by decide) ?_
  refine lv_icmp_ne (tgt := 11) hx hb dX4_gapOf_2 (by decide) (fun h => ?_) (fun h => ?_)
  · have hF := t_neg h hF
    refine lv_iload_n hx hb dX4_gapOf_11 rfl (lv_at hl 0 rfl) ?_
    refine lv_iconst (v := (2 : Int32)) hx hb dX4_gapOf_12 (by decide) ?_
    refine lv_icmp_ne (tgt := 20) hx hb dX4_gapOf_13 (by decide) (fun h => ?_) (fun h => ?_)
    · have hF := t_neg h hF
      refine lv_iconst (v := (0 : Int32)) hx hb dX4_gapOf_20 (by decide) ?_
      exact kRi (τ := Int32) (cv := (0 : Int32)) (fr := fun u => u) (fw := fun u => []) hQ hx hb hr hlocks hK hP hD hS hF rfl dX4_gapOf_21
    · have hF := t_pos h hF
      refine lv_iload_n hx hb dX4_gapOf_16 rfl (lv_at hl 1 rfl) ?_
      refine lv_goto (tgt := 21) hx hb dX4_gapOf_17 (by decide) ?_
      exact kRi (τ := Int32) (cv := v1) (fr := fun u => u) (fw := fun u => []) hQ hx hb hr hlocks hK hP hD hS hF rfl dX4_gapOf_21
  · have hF := t_pos h hF
    refine lv_sipush (v := (1000 : Int32)) hx hb dX4_gapOf_5 (by decide) ?_
    refine lv_goto (tgt := 21) hx hb dX4_gapOf_8 (by decide) ?_
    exact kRi (τ := Int32) (cv := (1000 : Int32)) (fr := fun u => u) (fw := fun u => []) hQ hx hb hr hlocks hK hP hD hS hF rfl dX4_gapOf_21
set_option maxHeartbeats 4000000 in
set_option maxRecDepth 100000 in
theorem c_X4_takeSome (l : Launch) (D : va_G) (cyI cyJ cyZ cyO : ClassId) (a0 : Nat) (a0_ahead : Nat) (a0_own : Nat) (a0_there : Int32) (a0_must : Int32) (a0_strict : Int32) (a0_timed : Int32) (v1 : Int32) (v2 : Int32) (sz : Nat) (o : Int32 × Int32 × Int32 × Int32) (hF : F_X4_takeSome v1 v2 = some o) : mV l yX4_takeSome cX4_takeSome 3 none ({ frames := 0, cells := 0, slots := 0, locals := 0 } : Room) D (wT cyI cyJ cyZ cyO) [.ref a0, .int v1, .int v2] sz [(a0, .inr (4, [.ref a0_ahead, .ref a0_own, .int a0_there, .int a0_must, .int a0_strict, .int a0_timed]))] [(a0, .inr (4, [.ref a0_ahead, .ref a0_own, .int o.1, .int o.2.1, .int o.2.2.1, .int o.2.2.2]))] := by
  refine kM_v (by decide +kernel) (Nat.le_of_ble_eq_true rfl) ?_
  intro p e s m args below meth c A ls Q hx hb hr hlocks hml hown hG hK hA hP hD hS hl hQ
  have hown : s.vm.findClass RX4 = some m.cls := hown
  have hl : lv_has ls 3 [(0, .ref a0), (1, .int v1), (2, .int v2)] := hl
  obtain ⟨H, hH⟩ : ∃ H : Heap, H = s.heap := ⟨_, rfl⟩
  obtain ⟨locs, hlo⟩ : ∃ L : List Loc, L = [] := ⟨_, rfl⟩
  have hP : va_P D vwCl [(a0, .inr (4, [.ref a0_ahead, .ref a0_own, .int a0_there, .int a0_must, .int a0_strict, .int a0_timed]))] H := by rw [hH]; exact hP
  have hS : va_S A s.heap H locs := by rw [hH, hlo]; exact hS
  show W p l e ({ frames := 0, cells := 0, slots := 0, locals := 0 } : Room) s m args below meth c s.heap [] 0 0 Q (F0 m 0 ls [])
  suffices hgo : W p l e ({ frames := 0, cells := 0, slots := 0, locals := 0 } : Room) s m args below meth c H locs 0 0 Q (F0 m 0 ls []) by rw [hH, hlo] at hgo; exact hgo
  refine lv_aload_n hx hb dX4_takeSome_0 rfl (lv_at hl 0 rfl) ?_
  refine lv_iload_n hx hb dX4_takeSome_1 rfl (lv_at hl 1 rfl) ?_
  refine pt_X4_18 (v := .int v1) hx hb hG hown hK hP hD hS 0 rfl rfl rfl (Nat.le_of_ble_eq_true rfl) dX4_takeSome_2 (fun H locs hP hD hS => ?_)
  have hP : va_P D vwCl [(a0, .inr (4, [.ref a0_ahead, .ref a0_own, .int v1, .int a0_must, .int a0_strict, .int a0_timed]))] H := hP
  have hD : va_D A [(a0, .inr (4, [.ref a0_ahead, .ref a0_own, .int v1, .int a0_must, .int a0_strict, .int a0_timed]))] := hD
  refine lv_aload_n hx hb dX4_takeSome_5 rfl (lv_at hl 0 rfl) ?_
  refine lv_iload_n hx hb dX4_takeSome_6 rfl (lv_at hl 1 rfl) ?_
  refine lv_iload_n hx hb dX4_takeSome_7 rfl (lv_at hl 2 rfl) ?_
  refine lv_iand hx hb dX4_takeSome_8 ?_
  refine pt_X4_22 (v := .int (v1 &&& v2)) hx hb hG hown hK hP hD hS 0 rfl rfl rfl (Nat.le_of_ble_eq_true rfl) dX4_takeSome_9 (fun H locs hP hD hS => ?_)
  have hP : va_P D vwCl [(a0, .inr (4, [.ref a0_ahead, .ref a0_own, .int v1, .int (v1 &&& v2), .int a0_strict, .int a0_timed]))] H := hP
  have hD : va_D A [(a0, .inr (4, [.ref a0_ahead, .ref a0_own, .int v1, .int (v1 &&& v2), .int a0_strict, .int a0_timed]))] := hD
  refine lv_aload_n hx hb dX4_takeSome_12 rfl (lv_at hl 0 rfl) ?_
  refine lv_aload_n hx hb dX4_takeSome_13 rfl (lv_at hl 0 rfl) ?_
  refine gt_X4_22 hx hb hG hown hK hP 0 rfl rfl dX4_takeSome_14 ?_
  refine pt_X4_25 (v := .int (v1 &&& v2)) hx hb hG hown hK hP hD hS 0 rfl rfl rfl (Nat.le_of_ble_eq_true rfl) dX4_takeSome_17 (fun H locs hP hD hS => ?_)
  have hP : va_P D vwCl [(a0, .inr (4, [.ref a0_ahead, .ref a0_own, .int v1, .int (v1 &&& v2), .int (v1 &&& v2), .int a0_timed]))] H := hP
  have hD : va_D A [(a0, .inr (4, [.ref a0_ahead, .ref a0_own, .int v1, .int (v1 &&& v2), .int (v1 &&& v2), .int a0_timed]))] := hD
  refine lv_aload_n hx hb dX4_takeSome_20 rfl (lv_at hl 0 rfl) ?_
  refine lv_aload_n hx hb dX4_takeSome_21 rfl (lv_at hl 0 rfl) ?_
  refine gt_X4_22 hx hb hG hown hK hP 0 rfl rfl dX4_takeSome_22 ?_
  refine pt_X4_28 (v := .int (v1 &&& v2)) hx hb hG hown hK hP hD hS 0 rfl rfl rfl (Nat.le_of_ble_eq_true rfl) dX4_takeSome_25 (fun H locs hP hD hS => ?_)
  have hP : va_P D vwCl [(a0, .inr (4, [.ref a0_ahead, .ref a0_own, .int v1, .int (v1 &&& v2), .int (v1 &&& v2), .int (v1 &&& v2)]))] H := hP
  have hD : va_D A [(a0, .inr (4, [.ref a0_ahead, .ref a0_own, .int v1, .int (v1 &&& v2), .int (v1 &&& v2), .int (v1 &&& v2)]))] := hD
  exact kRv (τ := Int32 × Int32 × Int32 × Int32) (cv := (v1, (v1 &&& v2), (v1 &&& v2), (v1 &&& v2))) (fw := fun u => [(a0, .inr (4, [.ref a0_ahead, .ref a0_own, .int u.1, .int u.2.1, .int u.2.2.1, .int u.2.2.2]))]) hQ hx hb hr hlocks hK hP hD hS hF  dX4_takeSome_28
set_option maxHeartbeats 4000000 in
set_option maxRecDepth 100000 in
theorem c_X4_takeAll (l : Launch) (D : va_G) (cyI cyJ cyZ cyO : ClassId) (a1 : Nat) (a1_cashiers : Nat) (a1_tills : Nat) (a1_acts : Nat) (a1_wholes : Nat) (a1_begins : Nat) (a1_ends : Nat) (a1_answers : Nat) (a0 : Nat) (a0_ahead : Nat) (a0_own : Nat) (a1_n : Int32) (f_a1_ends : Nat → Int32) (a0_there : Int32) (a0_must : Int32) (a0_strict : Int32) (a0_timed : Int32) (fu : Nat) (sz : Nat) (o : Int32 × Int32 × Int32 × Int32) (hF : F_X4_takeAll fu a1_n f_a1_ends = some o) : mV l yX4_takeAll cX4_takeAll 2 none ({ frames := 4, cells := 0, slots := 0, locals := 85 } : Room) D (wT cyI cyJ cyZ cyO) [.ref a0, .ref a1] sz [(a1, .inr (0, [.ref a1_cashiers, .ref a1_tills, .ref a1_acts, .ref a1_wholes, .ref a1_begins, .ref a1_ends, .ref a1_answers, .int a1_n])), (a1_ends, .inl (cyI, 20, .inl f_a1_ends)), (a0, .inr (4, [.ref a0_ahead, .ref a0_own, .int a0_there, .int a0_must, .int a0_strict, .int a0_timed]))] [(a1, .inr (0, [.ref a1_cashiers, .ref a1_tills, .ref a1_acts, .ref a1_wholes, .ref a1_begins, .ref a1_ends, .ref a1_answers, .int a1_n])), (a1_ends, .inl (cyI, 20, .inl f_a1_ends)), (a0, .inr (4, [.ref a0_ahead, .ref a0_own, .int o.1, .int o.2.1, .int o.2.2.1, .int o.2.2.2]))] := by
  refine kM_v (by decide +kernel) (Nat.le_of_ble_eq_true rfl) ?_
  intro p e s m args below meth c A ls Q hx hb hr hlocks hml hown hG hK hA hP hD hS hl hQ
  have hown : s.vm.findClass RX4 = some m.cls := hown
  have hl : lv_has ls 2 [(0, .ref a0), (1, .ref a1)] := hl
  obtain ⟨H, hH⟩ : ∃ H : Heap, H = s.heap := ⟨_, rfl⟩
  obtain ⟨locs, hlo⟩ : ∃ L : List Loc, L = [] := ⟨_, rfl⟩
  have hP : va_P D vwCl [(a1, .inr (0, [.ref a1_cashiers, .ref a1_tills, .ref a1_acts, .ref a1_wholes, .ref a1_begins, .ref a1_ends, .ref a1_answers, .int a1_n])), (a1_ends, .inl (cyI, 20, .inl f_a1_ends)), (a0, .inr (4, [.ref a0_ahead, .ref a0_own, .int a0_there, .int a0_must, .int a0_strict, .int a0_timed]))] H := by rw [hH]; exact hP
  have hS : va_S A s.heap H locs := by rw [hH, hlo]; exact hS
  show W p l e ({ frames := 4, cells := 0, slots := 0, locals := 85 } : Room) s m args below meth c s.heap [] 0 0 Q (F0 m 0 ls [])
  suffices hgo : W p l e ({ frames := 4, cells := 0, slots := 0, locals := 85 } : Room) s m args below meth c H locs 0 0 Q (F0 m 0 ls []) by rw [hH, hlo] at hgo; exact hgo
  refine lv_aload_n hx hb dX4_takeAll_0 rfl (lv_at hl 0 rfl) ?_
  refine lv_aload_n hx hb dX4_takeAll_1 rfl (lv_at hl 1 rfl) ?_
  obtain ⟨r2, hc, hF⟩ := bnd1_some hF
  refine kVi (As := []) (rest := [.ref a0]) (ws' := [(a1, .inr (0, [.ref a1_cashiers, .ref a1_tills, .ref a1_acts, .ref a1_wholes, .ref a1_begins, .ref a1_ends, .ref a1_answers, .int a1_n])), (a1_ends, .inl (cyI, 20, .inl f_a1_ends)), (a0, .inr (4, [.ref a0_ahead, .ref a0_own, .int a0_there, .int a0_must, .int a0_strict, .int a0_timed]))]) ⟨hx, hb, hml, hown, hG⟩ hK hP hD hS hA (c_X0_allOnes l D cyI cyJ cyZ cyO a1 a1_cashiers a1_tills a1_acts a1_wholes a1_begins a1_ends a1_answers a1_n H.size _ hc) (cw_X4_31 hG rfl rfl ⟨Nat.le_of_ble_eq_true rfl, Nat.le_of_ble_eq_true rfl⟩) 0 rfl rfl [0] [1, 2] 3 rfl (by decide) rfl [(a1_ends, .inl (cyI, 20, .inl f_a1_ends)), (a0, .inr (4, [.ref a0_ahead, .ref a0_own, .int a0_there, .int a0_must, .int a0_strict, .int a0_timed]))] [a1, a1_ends, a0] rfl rfl rfl (by decide) rfl rfl rfl hl.1 rfl (Nat.le_of_ble_eq_true rfl) dX4_takeAll_2 ⟨Nat.zero_le _, Nat.zero_le _⟩ (fun H locs hP hD hS => ?_)
  refine lv_aload_n hx hb dX4_takeAll_5 rfl (lv_at hl 1 rfl) ?_
  obtain ⟨r6, hc, hF⟩ := bnd1_some hF
  refine kVi (As := []) (rest := [.int r2, .ref a0]) (ws' := [(a1, .inr (0, [.ref a1_cashiers, .ref a1_tills, .ref a1_acts, .ref a1_wholes, .ref a1_begins, .ref a1_ends, .ref a1_answers, .int a1_n])), (a1_ends, .inl (cyI, 20, .inl f_a1_ends)), (a0, .inr (4, [.ref a0_ahead, .ref a0_own, .int a0_there, .int a0_must, .int a0_strict, .int a0_timed]))]) ⟨hx, hb, hml, hown, hG⟩ hK hP hD hS hA (c_X0_endedOnes l D cyI cyJ cyZ cyO a1 a1_cashiers a1_tills a1_acts a1_wholes a1_begins a1_ends a1_answers a1_n f_a1_ends fu H.size _ hc) (cw_X4_37 hG rfl rfl ⟨Nat.le_of_ble_eq_true rfl, Nat.le_of_ble_eq_true rfl⟩) 0 rfl rfl [0, 1] [2] 3 rfl (by decide) rfl [(a0, .inr (4, [.ref a0_ahead, .ref a0_own, .int a0_there, .int a0_must, .int a0_strict, .int a0_timed]))] [a1, a1_ends, a0] rfl rfl rfl (by decide) rfl rfl rfl hl.1 rfl (Nat.le_of_ble_eq_true rfl) dX4_takeAll_6 ⟨Nat.zero_le _, Nat.zero_le _⟩ (fun H locs hP hD hS => ?_)
  obtain ⟨u9_0, u9_1, u9_2, u9_3, hc, hF⟩ := bnd4_some hF
  refine kVv (As := [.int r2, .int r6]) (rest := []) (ws' := [(a1, .inr (0, [.ref a1_cashiers, .ref a1_tills, .ref a1_acts, .ref a1_wholes, .ref a1_begins, .ref a1_ends, .ref a1_answers, .int a1_n])), (a1_ends, .inl (cyI, 20, .inl f_a1_ends)), (a0, .inr (4, [.ref a0_ahead, .ref a0_own, .int u9_0, .int u9_1, .int u9_2, .int u9_3]))]) ⟨hx, hb, hml, hown, hG⟩ hK hP hD hS hA (c_X4_takeSome l D cyI cyJ cyZ cyO a0 a0_ahead a0_own a0_there a0_must a0_strict a0_timed r2 r6 H.size _ hc) (cw_X4_40 hG rfl rfl ⟨Nat.le_of_ble_eq_true rfl, Nat.le_of_ble_eq_true rfl⟩) 2 rfl rfl [2] [0, 1] 3 rfl (by decide) rfl [(a1, .inr (0, [.ref a1_cashiers, .ref a1_tills, .ref a1_acts, .ref a1_wholes, .ref a1_begins, .ref a1_ends, .ref a1_answers, .int a1_n])), (a1_ends, .inl (cyI, 20, .inl f_a1_ends))] [a1, a1_ends, a0] rfl rfl rfl (by decide) rfl rfl rfl hl.1 rfl (Nat.le_of_ble_eq_true rfl) dX4_takeAll_9 ⟨Nat.zero_le _, Nat.zero_le _⟩ (fun H locs hP hD hS => ?_)
  exact kRv (τ := Int32 × Int32 × Int32 × Int32) (cv := (u9_0, u9_1, u9_2, u9_3)) (fw := fun u => [(a1, .inr (0, [.ref a1_cashiers, .ref a1_tills, .ref a1_acts, .ref a1_wholes, .ref a1_begins, .ref a1_ends, .ref a1_answers, .int a1_n])), (a1_ends, .inl (cyI, 20, .inl f_a1_ends)), (a0, .inr (4, [.ref a0_ahead, .ref a0_own, .int u.1, .int u.2.1, .int u.2.2.1, .int u.2.2.2]))]) hQ hx hb hr hlocks hK hP hD hS hF  dX4_takeAll_12
set_option maxHeartbeats 4000000 in
set_option maxRecDepth 100000 in
theorem c_X4_nextOf (l : Launch) (D : va_G) (cyI cyJ cyZ cyO : ClassId) (a0 : Nat) (a0_ahead : Nat) (a0_own : Nat) (a0_there : Int32) (a0_must : Int32) (a0_strict : Int32) (a0_timed : Int32) (f_a0_own : Nat → Int32) (f_a0_ahead : Nat → Int32) (v1 : Int32) (v2 : Int32) (sz : Nat) (o : Int32) (hF : F_X4_nextOf f_a0_own f_a0_ahead v1 v2 = some o) : mI l yX4_nextOf cX4_nextOf 5 (some .int) ({ frames := 1, cells := 0, slots := 0, locals := 20 } : Room) D (wT cyI cyJ cyZ cyO) [.ref a0, .int v1, .int v2] sz [(a0, .inr (4, [.ref a0_ahead, .ref a0_own, .int a0_there, .int a0_must, .int a0_strict, .int a0_timed])), (a0_own, .inl (cyI, 4, .inl f_a0_own)), (a0_ahead, .inl (cyI, 20, .inl f_a0_ahead))] o [(a0, .inr (4, [.ref a0_ahead, .ref a0_own, .int a0_there, .int a0_must, .int a0_strict, .int a0_timed])), (a0_own, .inl (cyI, 4, .inl f_a0_own)), (a0_ahead, .inl (cyI, 20, .inl f_a0_ahead))] := by
  refine kM_i (by decide +kernel) (Nat.le_of_ble_eq_true rfl) ?_
  intro p e s m args below meth c A ls Q hx hb hr hlocks hml hown hG hK hA hP hD hS hl hQ
  have hown : s.vm.findClass RX4 = some m.cls := hown
  have hl : lv_has ls 5 [(0, .ref a0), (1, .int v1), (2, .int v2)] := hl
  have B39 : ∀ (v2 : Int32) (t0 : Int32) (H : Heap) (locs : List Loc) (ls : Array Slot), F_X4_nextOf_b39 f_a0_ahead v2 t0 = some o → va_P D vwCl [(a0, .inr (4, [.ref a0_ahead, .ref a0_own, .int a0_there, .int a0_must, .int a0_strict, .int a0_timed])), (a0_own, .inl (cyI, 4, .inl f_a0_own)), (a0_ahead, .inl (cyI, 20, .inl f_a0_ahead))] H → va_D A [(a0, .inr (4, [.ref a0_ahead, .ref a0_own, .int a0_there, .int a0_must, .int a0_strict, .int a0_timed])), (a0_own, .inl (cyI, 4, .inl f_a0_own)), (a0_ahead, .inl (cyI, 20, .inl f_a0_ahead))] → va_S A s.heap H locs → lv_has ls 5 [(0, .ref a0), (2, .int v2)] → W p l e ({ frames := 1, cells := 0, slots := 0, locals := 20 } : Room) s m args below meth c H locs 0 0 Q (F0 m 39 ls [.int t0]) := by
    intro v2 t0 H locs ls hF hP hD hS hl
    refine lv_istore (lv' := [(4, .int t0), (0, .ref a0), (2, .int v2)]) hx hb dX4_nextOf_39 hl (by decide) rfl (fun ls hl => ?_)
    refine lv_iload hx hb dX4_nextOf_41 (lv_at hl 0 rfl) ?_
    refine lv_if_lt (tgt := 72) hx hb dX4_nextOf_43 (by decide) (fun h => ?_) (fun h => ?_)
    · have hF := t_pos h hF
      refine lv_iconst (v := (-1 : Int32)) hx hb dX4_nextOf_72 (by decide) ?_
      exact kRi (τ := Int32) (cv := (-1 : Int32)) (fr := fun u => u) (fw := fun u => [(a0, .inr (4, [.ref a0_ahead, .ref a0_own, .int a0_there, .int a0_must, .int a0_strict, .int a0_timed])), (a0_own, .inl (cyI, 4, .inl f_a0_own)), (a0_ahead, .inl (cyI, 20, .inl f_a0_ahead))]) hQ hx hb hr hlocks hK hP hD hS hF rfl dX4_nextOf_73
    · have hF := t_neg h hF
      refine lv_iload hx hb dX4_nextOf_46 (lv_at hl 0 rfl) ?_
      refine lv_bipush (v := (20 : Int32)) hx hb dX4_nextOf_48 (by decide) ?_
      refine lv_icmp_ge (tgt := 72) hx hb dX4_nextOf_50 (by decide) (fun h => ?_) (fun h => ?_)
      · have hF := t_pos h hF
        refine lv_iconst (v := (-1 : Int32)) hx hb dX4_nextOf_72 (by decide) ?_
        exact kRi (τ := Int32) (cv := (-1 : Int32)) (fr := fun u => u) (fw := fun u => [(a0, .inr (4, [.ref a0_ahead, .ref a0_own, .int a0_there, .int a0_must, .int a0_strict, .int a0_timed])), (a0_own, .inl (cyI, 4, .inl f_a0_own)), (a0_ahead, .inl (cyI, 20, .inl f_a0_ahead))]) hQ hx hb hr hlocks hK hP hD hS hF rfl dX4_nextOf_73
      · have hF := t_neg h hF
        refine lv_aload_n hx hb dX4_nextOf_53 rfl (lv_at hl 1 rfl) ?_
        refine gt_X4_9 hx hb hG hown hK hP 0 rfl rfl dX4_nextOf_54 ?_
        refine lv_iload hx hb dX4_nextOf_57 (lv_at hl 0 rfl) ?_
        obtain ⟨hin, hF⟩ := t_grd hF
        refine va_iald hx hb hK hP 2 0 rfl rfl hin dX4_nextOf_59 ?_
        refine lv_iload_n hx hb dX4_nextOf_60 rfl (lv_at hl 2 rfl) ?_
        refine lv_iconst (v := (-1 : Int32)) hx hb dX4_nextOf_61 (by decide) ?_
        refine lv_ixor hx hb dX4_nextOf_62 ?_
        refine lv_iand hx hb dX4_nextOf_63 ?_
        refine lv_if_ne (tgt := 72) hx hb dX4_nextOf_64 (by decide) (fun h => ?_) (fun h => ?_)
        · have hF := t_neg h hF
          refine lv_iconst (v := (-1 : Int32)) hx hb dX4_nextOf_72 (by decide) ?_
          exact kRi (τ := Int32) (cv := (-1 : Int32)) (fr := fun u => u) (fw := fun u => [(a0, .inr (4, [.ref a0_ahead, .ref a0_own, .int a0_there, .int a0_must, .int a0_strict, .int a0_timed])), (a0_own, .inl (cyI, 4, .inl f_a0_own)), (a0_ahead, .inl (cyI, 20, .inl f_a0_ahead))]) hQ hx hb hr hlocks hK hP hD hS hF rfl dX4_nextOf_73
        · have hF := t_pos h hF
          refine lv_iload hx hb dX4_nextOf_67 (lv_at hl 0 rfl) ?_
          refine lv_goto (tgt := 73) hx hb dX4_nextOf_69 (by decide) ?_
          exact kRi (τ := Int32) (cv := t0) (fr := fun u => u) (fw := fun u => [(a0, .inr (4, [.ref a0_ahead, .ref a0_own, .int a0_there, .int a0_must, .int a0_strict, .int a0_timed])), (a0_own, .inl (cyI, 4, .inl f_a0_own)), (a0_ahead, .inl (cyI, 20, .inl f_a0_ahead))]) hQ hx hb hr hlocks hK hP hD hS hF rfl dX4_nextOf_73
  obtain ⟨H, hH⟩ : ∃ H : Heap, H = s.heap := ⟨_, rfl⟩
  obtain ⟨locs, hlo⟩ : ∃ L : List Loc, L = [] := ⟨_, rfl⟩
  have hP : va_P D vwCl [(a0, .inr (4, [.ref a0_ahead, .ref a0_own, .int a0_there, .int a0_must, .int a0_strict, .int a0_timed])), (a0_own, .inl (cyI, 4, .inl f_a0_own)), (a0_ahead, .inl (cyI, 20, .inl f_a0_ahead))] H := by rw [hH]; exact hP
  have hS : va_S A s.heap H locs := by rw [hH, hlo]; exact hS
  show W p l e ({ frames := 1, cells := 0, slots := 0, locals := 20 } : Room) s m args below meth c s.heap [] 0 0 Q (F0 m 0 ls [])
  suffices hgo : W p l e ({ frames := 1, cells := 0, slots := 0, locals := 20 } : Room) s m args below meth c H locs 0 0 Q (F0 m 0 ls []) by rw [hH, hlo] at hgo; exact hgo
  refine lv_iload_n hx hb dX4_nextOf_0 rfl (lv_at hl 1 rfl) ?_
  refine lv_if_lt (tgt := 9) hx hb dX4_nextOf_1 (by decide) (fun h => ?_) (fun h => ?_)
  · have hF := t_pos h hF
    refine lv_iconst (v := (-1 : Int32)) hx hb dX4_nextOf_9 (by decide) ?_
    exact kRi (τ := Int32) (cv := (-1 : Int32)) (fr := fun u => u) (fw := fun u => [(a0, .inr (4, [.ref a0_ahead, .ref a0_own, .int a0_there, .int a0_must, .int a0_strict, .int a0_timed])), (a0_own, .inl (cyI, 4, .inl f_a0_own)), (a0_ahead, .inl (cyI, 20, .inl f_a0_ahead))]) hQ hx hb hr hlocks hK hP hD hS hF rfl dX4_nextOf_10
  · have hF := t_neg h hF
    refine lv_iload_n hx hb dX4_nextOf_4 rfl (lv_at hl 1 rfl) ?_
    refine lv_iconst (v := (4 : Int32)) hx hb dX4_nextOf_5 (by decide) ?_
    refine lv_icmp_lt (tgt := 11) hx hb dX4_nextOf_6 (by decide) (fun h => ?_) (fun h => ?_)
    · have hF := t_pos h hF
      refine lv_aload_n hx hb dX4_nextOf_11 rfl (lv_at hl 0 rfl) ?_
      refine gt_X4_15 hx hb hG hown hK hP 0 rfl rfl dX4_nextOf_12 ?_
      refine lv_iload_n hx hb dX4_nextOf_15 rfl (lv_at hl 1 rfl) ?_
      obtain ⟨hin, hF⟩ := t_grd hF
      refine va_iald hx hb hK hP 1 0 rfl rfl hin dX4_nextOf_16 ?_
      refine lv_iload_n hx hb dX4_nextOf_17 rfl (lv_at hl 2 rfl) ?_
      refine lv_iconst (v := (-1 : Int32)) hx hb dX4_nextOf_18 (by decide) ?_
      refine lv_ixor hx hb dX4_nextOf_19 ?_
      refine lv_iand hx hb dX4_nextOf_20 ?_
      refine lv_istore_n (lv' := [(3, .int ((f_a0_own v1.toNatClampNeg) &&& (v2 ^^^ (-1 : Int32)))), (0, .ref a0), (1, .int v1), (2, .int v2)]) hx hb dX4_nextOf_21 rfl hl (by decide) rfl (fun ls hl => ?_)
      refine lv_iload_n hx hb dX4_nextOf_22 rfl (lv_at hl 0 rfl) ?_
      refine lv_if_ne (tgt := 30) hx hb dX4_nextOf_23 (by decide) (fun h => ?_) (fun h => ?_)
      · have hF := t_neg h hF
        refine lv_iload_n hx hb dX4_nextOf_30 rfl (lv_at hl 0 rfl) ?_
        refine lv_iload_n hx hb dX4_nextOf_31 rfl (lv_at hl 0 rfl) ?_
        refine lv_ineg hx hb dX4_nextOf_32 ?_
        refine lv_iand hx hb dX4_nextOf_33 ?_
        refine lv_iconst (v := (1 : Int32)) hx hb dX4_nextOf_34 (by decide) ?_
        refine lv_isub hx hb dX4_nextOf_35 ?_
        obtain ⟨r36, hc, hF⟩ := bnd1_some hF
        refine kSi (As := [.int ((((f_a0_own v1.toNatClampNeg) &&& (v2 ^^^ (-1 : Int32))) &&& (-((f_a0_own v1.toNatClampNeg) &&& (v2 ^^^ (-1 : Int32))))) - (1 : Int32))]) (rest := []) (ws' := [(a0, .inr (4, [.ref a0_ahead, .ref a0_own, .int a0_there, .int a0_must, .int a0_strict, .int a0_timed])), (a0_own, .inl (cyI, 4, .inl f_a0_own)), (a0_ahead, .inl (cyI, 20, .inl f_a0_ahead))]) ⟨hx, hb, hml, hown, hG⟩ hK hP hD hS hA (c_J6_bitCount_0f7a4 l D cyI cyJ cyZ cyO (((((f_a0_own v1.toNatClampNeg) &&& (v2 ^^^ (-1 : Int32))) &&& (-((f_a0_own v1.toNatClampNeg) &&& (v2 ^^^ (-1 : Int32))))) - (1 : Int32))) H.size _ hc) (cs_X4_67 hG rfl rfl ⟨Nat.le_of_ble_eq_true rfl, Nat.le_of_ble_eq_true rfl⟩) [] [0, 1, 2] 3 rfl (by decide) rfl [(a0, .inr (4, [.ref a0_ahead, .ref a0_own, .int a0_there, .int a0_must, .int a0_strict, .int a0_timed])), (a0_own, .inl (cyI, 4, .inl f_a0_own)), (a0_ahead, .inl (cyI, 20, .inl f_a0_ahead))] [a0, a0_own, a0_ahead] rfl rfl rfl (by decide) rfl rfl rfl hl.1 rfl (Nat.le_of_ble_eq_true rfl) dX4_nextOf_36 ⟨Nat.zero_le _, Nat.zero_le _⟩ (fun H locs hP hD hS => ?_)
        exact B39 v2 r36 H locs ls hF hP hD hS (lv_sub hl [1, 3] rfl)
      · have hF := t_pos h hF
        refine lv_iconst (v := (-1 : Int32)) hx hb dX4_nextOf_26 (by decide) ?_
        refine lv_goto (tgt := 39) hx hb dX4_nextOf_27 (by decide) ?_
        exact B39 v2 (-1 : Int32) H locs ls hF hP hD hS (lv_sub hl [1, 3] rfl)
    · have hF := t_neg h hF
      refine lv_iconst (v := (-1 : Int32)) hx hb dX4_nextOf_9 (by decide) ?_
      exact kRi (τ := Int32) (cv := (-1 : Int32)) (fr := fun u => u) (fw := fun u => [(a0, .inr (4, [.ref a0_ahead, .ref a0_own, .int a0_there, .int a0_must, .int a0_strict, .int a0_timed])), (a0_own, .inl (cyI, 4, .inl f_a0_own)), (a0_ahead, .inl (cyI, 20, .inl f_a0_ahead))]) hQ hx hb hr hlocks hK hP hD hS hF rfl dX4_nextOf_10
set_option maxHeartbeats 4000000 in
set_option maxRecDepth 100000 in
theorem c_X4_isEnd (l : Launch) (D : va_G) (cyI cyJ cyZ cyO : ClassId) (a0 : Nat) (a0_ahead : Nat) (a0_own : Nat) (a0_there : Int32) (a0_must : Int32) (a0_strict : Int32) (a0_timed : Int32) (v1 : Int32) (sz : Nat) (o : Int32) (hF : F_X4_isEnd a0_must v1 = some o) : mI l yX4_isEnd cX4_isEnd 2 (some .boolean) ({ frames := 0, cells := 0, slots := 0, locals := 0 } : Room) D (wT cyI cyJ cyZ cyO) [.ref a0, .int v1] sz [(a0, .inr (4, [.ref a0_ahead, .ref a0_own, .int a0_there, .int a0_must, .int a0_strict, .int a0_timed]))] o [(a0, .inr (4, [.ref a0_ahead, .ref a0_own, .int a0_there, .int a0_must, .int a0_strict, .int a0_timed]))] := by
  refine kM_i (by decide +kernel) (Nat.le_of_ble_eq_true rfl) ?_
  intro p e s m args below meth c A ls Q hx hb hr hlocks hml hown hG hK hA hP hD hS hl hQ
  have hown : s.vm.findClass RX4 = some m.cls := hown
  have hl : lv_has ls 2 [(0, .ref a0), (1, .int v1)] := hl
  obtain ⟨H, hH⟩ : ∃ H : Heap, H = s.heap := ⟨_, rfl⟩
  obtain ⟨locs, hlo⟩ : ∃ L : List Loc, L = [] := ⟨_, rfl⟩
  have hP : va_P D vwCl [(a0, .inr (4, [.ref a0_ahead, .ref a0_own, .int a0_there, .int a0_must, .int a0_strict, .int a0_timed]))] H := by rw [hH]; exact hP
  have hS : va_S A s.heap H locs := by rw [hH, hlo]; exact hS
  show W p l e ({ frames := 0, cells := 0, slots := 0, locals := 0 } : Room) s m args below meth c s.heap [] 0 0 Q (F0 m 0 ls [])
  suffices hgo : W p l e ({ frames := 0, cells := 0, slots := 0, locals := 0 } : Room) s m args below meth c H locs 0 0 Q (F0 m 0 ls []) by rw [hH, hlo] at hgo; exact hgo
  refine lv_aload_n hx hb dX4_isEnd_0 rfl (lv_at hl 0 rfl) ?_
  refine gt_X4_22 hx hb hG hown hK hP 0 rfl rfl dX4_isEnd_1 ?_
  refine lv_iload_n hx hb dX4_isEnd_4 rfl (lv_at hl 1 rfl) ?_
  refine lv_iconst (v := (-1 : Int32)) hx hb dX4_isEnd_5 (by decide) ?_
  refine lv_ixor hx hb dX4_isEnd_6 ?_
  refine lv_iand hx hb dX4_isEnd_7 ?_
  refine lv_if_ne (tgt := 15) hx hb dX4_isEnd_8 (by decide) (fun h => ?_) (fun h => ?_)
  · have hF := t_neg h hF
    refine lv_iconst (v := (0 : Int32)) hx hb dX4_isEnd_15 (by decide) ?_
    exact kRz (τ := Int32) (cv := (0 : Int32)) (fr := fun u => u) (fw := fun u => [(a0, .inr (4, [.ref a0_ahead, .ref a0_own, .int a0_there, .int a0_must, .int a0_strict, .int a0_timed]))]) hQ hx hb hr hlocks hK hP hD hS hF rfl rfl dX4_isEnd_16
  · have hF := t_pos h hF
    refine lv_iconst (v := (1 : Int32)) hx hb dX4_isEnd_11 (by decide) ?_
    refine lv_goto (tgt := 16) hx hb dX4_isEnd_12 (by decide) ?_
    exact kRz (τ := Int32) (cv := (1 : Int32)) (fr := fun u => u) (fw := fun u => [(a0, .inr (4, [.ref a0_ahead, .ref a0_own, .int a0_there, .int a0_must, .int a0_strict, .int a0_timed]))]) hQ hx hb hr hlocks hK hP hD hS hF rfl rfl dX4_isEnd_16
