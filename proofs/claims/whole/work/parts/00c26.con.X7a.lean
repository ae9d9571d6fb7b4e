set_option maxHeartbeats 4000000 in
set_option maxRecDepth 100000 in
theorem c_X7_is (l : Launch) (D : va_G) (cyI cyJ cyZ cyO : ClassId) (adK adV : Nat → Nat) (a0 : Nat) (a0_bytes : Nat) (a0_length : Int32) (a0_behind : Int32) (a0_fed : Int32) (a0_sort : Int32) (a0_place : Int32) (a0_whole : Int32) (a0_word : Int64) (f_a0_bytes : Nat → Int32) (v1 : Nat) (fu : Nat) (hi_v1 : v1 < nS) (sz : Nat) (o : Int32) (hF : F_X7_is fu a0_behind a0_sort a0_place f_a0_bytes v1 = some o) : mIS l yX7_is cX7_is 3 (some .boolean) ({ frames := 6, cells := 0, slots := 0, locals := 200 } : Room) D (wT cyI cyJ cyZ cyO) adK adV [.ref a0, .ref (adK v1)] sz [(a0, .inr (7, [.ref a0_bytes, .int a0_length, .int a0_behind, .int a0_fed, .int a0_sort, .int a0_place, .int a0_whole, .long a0_word])), (a0_bytes, .inl (cyI, 900, .inl f_a0_bytes))] o [(a0, .inr (7, [.ref a0_bytes, .int a0_length, .int a0_behind, .int a0_fed, .int a0_sort, .int a0_place, .int a0_whole, .long a0_word])), (a0_bytes, .inl (cyI, 900, .inl f_a0_bytes))] := by
  refine kM_iS (by decide +kernel) (Nat.le_of_ble_eq_true rfl) ?_
  intro p e s m args below meth c A ls Q hx hb hr hlocks hml hown hG hK hA hP hD hS hl hE hQ
  have hown : s.vm.findClass RX7 = some m.cls := hown
  have hl : lv_has ls 3 [(0, .ref a0), (1, .ref (adK v1))] := hl
  have L28 : ∀ (kf28 : Nat), ∀ (v2 : Int32) (H : Heap) (locs : List Loc) (ls : Array Slot), F_X7_is_b28 a0_place f_a0_bytes v1 kf28 v2 = some o → va_P D vwCl [(a0, .inr (7, [.ref a0_bytes, .int a0_length, .int a0_behind, .int a0_fed, .int a0_sort, .int a0_place, .int a0_whole, .long a0_word])), (a0_bytes, .inl (cyI, 900, .inl f_a0_bytes))] H → va_D A [(a0, .inr (7, [.ref a0_bytes, .int a0_length, .int a0_behind, .int a0_fed, .int a0_sort, .int a0_place, .int a0_whole, .long a0_word])), (a0_bytes, .inl (cyI, 900, .inl f_a0_bytes))] → va_S A s.heap H locs → lv_has ls 3 [(0, .ref a0), (1, .ref (adK v1)), (2, .int v2)] → W p l e ({ frames := 6, cells := 0, slots := 0, locals := 200 } : Room) s m args below meth c H locs 0 0 Q (F0 m 28 ls []) := by
    intro kf28
    induction kf28 with
    | zero => intro v2 H locs ls hF; rw [F_X7_is_b28] at hF; cases hF
    | succ kf28 ih28 =>
      intro v2 H locs ls hF hP hD hS hl
      rw [F_X7_is_b28] at hF
      refine lv_iload_n hx hb dX7_is_28 rfl (lv_at hl 2 rfl) ?_
      refine lv_aload_n hx hb dX7_is_29 rfl (lv_at hl 1 rfl) ?_
      refine kTi (As := []) (rest := [.int v2]) hE hi_v1 ⟨hx, hb, hml, hown, hG⟩ hK hP hD hS hA (c_J0_length l D cyI cyJ cyZ cyO adK adV v1 hi_v1 H.size) (cw_X7_53 hG rfl rfl ⟨Nat.le_of_ble_eq_true rfl, Nat.le_of_ble_eq_true rfl⟩) rfl hl.1 rfl (Nat.le_of_ble_eq_true rfl) dX7_is_30 ⟨Nat.zero_le _, Nat.zero_le _⟩ (fun H locs hP hS => ?_)
      refine lv_icmp_ge (tgt := 63) hx hb dX7_is_33 (by decide) (fun h => ?_) (fun h => ?_)
      · have hF := t_pos h hF
        refine lv_iconst (v := (1 : Int32)) hx hb dX7_is_63 (by decide) ?_
        exact kRz (τ := Int32) (cv := (1 : Int32)) (fr := fun u => u) (fw := fun u => [(a0, .inr (7, [.ref a0_bytes, .int a0_length, .int a0_behind, .int a0_fed, .int a0_sort, .int a0_place, .int a0_whole, .long a0_word])), (a0_bytes, .inl (cyI, 900, .inl f_a0_bytes))]) hQ hx hb hr hlocks hK hP hD hS hF rfl rfl dX7_is_64
      · have hF := t_neg h hF
        refine lv_aload_n hx hb dX7_is_36 rfl (lv_at hl 1 rfl) ?_
        refine lv_iload_n hx hb dX7_is_37 rfl (lv_at hl 2 rfl) ?_
        obtain ⟨hin, hF⟩ := t_grd hF
        refine kTi (As := [.int v2]) (rest := []) hE hi_v1 ⟨hx, hb, hml, hown, hG⟩ hK hP hD hS hA (c_J0_charAt l D cyI cyJ cyZ cyO adK adV v1 hi_v1 v2 hin H.size) (cw_X7_58 hG rfl rfl ⟨Nat.le_of_ble_eq_true rfl, Nat.le_of_ble_eq_true rfl⟩) rfl hl.1 rfl (Nat.le_of_ble_eq_true rfl) dX7_is_38 ⟨Nat.zero_le _, Nat.zero_le _⟩ (fun H locs hP hS => ?_)
        refine lv_aload_n hx hb dX7_is_41 rfl (lv_at hl 0 rfl) ?_
        refine gt_X7_9 hx hb hG hown hK hP 0 rfl rfl dX7_is_42 ?_
        refine lv_aload_n hx hb dX7_is_45 rfl (lv_at hl 0 rfl) ?_
        refine gt_X7_26 hx hb hG hown hK hP 0 rfl rfl dX7_is_46 ?_
        refine lv_iload_n hx hb dX7_is_49 rfl (lv_at hl 2 rfl) ?_
        refine lv_iadd hx hb dX7_is_50 ?_
        obtain ⟨hin, hF⟩ := t_grd hF
        refine va_iald hx hb hK hP 1 0 rfl rfl hin dX7_is_51 ?_
        refine lv_icmp_eq (tgt := 57) hx hb dX7_is_52 (by decide) (fun h => ?_) (fun h => ?_)
        · have hF := t_pos h hF
          refine lv_iinc (v := (v2 + (1 : Int32))) (lv' := [(2, .int (v2 + (1 : Int32))), (0, .ref a0), (1, .ref (adK v1))]) hx hb dX7_is_57 hl (k := 2) rfl (by rfl) (by decide) rfl (fun ls hl => ?_)
          refine lv_goto (tgt := 28) hx hb dX7_is_60 (by decide) ?_
          exact ih28 ((v2 + (1 : Int32))) H locs ls hF hP hD hS (lv_sub hl [1, 2, 0] rfl)
        · have hF := t_neg h hF
          refine lv_iconst (v := (0 : Int32)) hx hb dX7_is_55 (by decide) ?_
          exact kRz (τ := Int32) (cv := (0 : Int32)) (fr := fun u => u) (fw := fun u => [(a0, .inr (7, [.ref a0_bytes, .int a0_length, .int a0_behind, .int a0_fed, .int a0_sort, .int a0_place, .int a0_whole, .long a0_word])), (a0_bytes, .inl (cyI, 900, .inl f_a0_bytes))]) hQ hx hb hr hlocks hK hP hD hS hF rfl rfl dX7_is_56
  obtain ⟨H, hH⟩ : ∃ H : Heap, H = s.heap := ⟨_, rfl⟩
  obtain ⟨locs, hlo⟩ : ∃ L : List Loc, L = [] := ⟨_, rfl⟩
  have hP : va_P D vwCl [(a0, .inr (7, [.ref a0_bytes, .int a0_length, .int a0_behind, .int a0_fed, .int a0_sort, .int a0_place, .int a0_whole, .long a0_word])), (a0_bytes, .inl (cyI, 900, .inl f_a0_bytes))] H := by rw [hH]; exact hP
  have hS : va_S A s.heap H locs := by rw [hH, hlo]; exact hS
  show W p l e ({ frames := 6, cells := 0, slots := 0, locals := 200 } : Room) s m args below meth c s.heap [] 0 0 Q (F0 m 0 ls [])
  suffices hgo : W p l e ({ frames := 6, cells := 0, slots := 0, locals := 200 } : Room) s m args below meth c H locs 0 0 Q (F0 m 0 ls []) by rw [hH, hlo] at hgo; exact hgo
  refine lv_aload_n hx hb dX7_is_0 rfl (lv_at hl 0 rfl) ?_
  refine gt_X7_23 hx hb hG hown hK hP 0 rfl rfl dX7_is_1 ?_
  refine lv_iconst (v := (1 : Int32)) hx hb dX7_is_4 (by decide) ?_
  refine lv_icmp_ne (tgt := 24) hx hb dX7_is_5 (by decide) (fun h => ?_) (fun h => ?_)
  · have hF := t_neg h hF
    refine lv_iconst (v := (0 : Int32)) hx hb dX7_is_24 (by decide) ?_
    exact kRz (τ := Int32) (cv := (0 : Int32)) (fr := fun u => u) (fw := fun u => [(a0, .inr (7, [.ref a0_bytes, .int a0_length, .int a0_behind, .int a0_fed, .int a0_sort, .int a0_place, .int a0_whole, .long a0_word])), (a0_bytes, .inl (cyI, 900, .inl f_a0_bytes))]) hQ hx hb hr hlocks hK hP hD hS hF rfl rfl dX7_is_25
  · have hF := t_pos h hF
    refine lv_aload_n hx hb dX7_is_8 rfl (lv_at hl 0 rfl) ?_
    refine gt_X7_17 hx hb hG hown hK hP 0 rfl rfl dX7_is_9 ?_
    refine lv_aload_n hx hb dX7_is_12 rfl (lv_at hl 0 rfl) ?_
    refine gt_X7_26 hx hb hG hown hK hP 0 rfl rfl dX7_is_13 ?_
    refine lv_isub hx hb dX7_is_16 ?_
    refine lv_aload_n hx hb dX7_is_17 rfl (lv_at hl 1 rfl) ?_
    refine kTi (As := []) (rest := [.int (a0_behind - a0_place)]) hE hi_v1 ⟨hx, hb, hml, hown, hG⟩ hK hP hD hS hA (c_J0_length l D cyI cyJ cyZ cyO adK adV v1 hi_v1 H.size) (cw_X7_53 hG rfl rfl ⟨Nat.le_of_ble_eq_true rfl, Nat.le_of_ble_eq_true rfl⟩) rfl hl.1 rfl (Nat.le_of_ble_eq_true rfl) dX7_is_18 ⟨Nat.zero_le _, Nat.zero_le _⟩ (fun H locs hP hS => ?_)
    refine lv_icmp_eq (tgt := 26) hx hb dX7_is_21 (by decide) (fun h => ?_) (fun h => ?_)
    · have hF := t_pos h hF
      refine lv_iconst (v := (0 : Int32)) hx hb dX7_is_26 (by decide) ?_
      refine lv_istore_n (lv' := [(2, .int (0 : Int32)), (0, .ref a0), (1, .ref (adK v1))]) hx hb dX7_is_27 rfl hl (by decide) rfl (fun ls hl => ?_)
      exact L28 fu (0 : Int32) H locs ls hF hP hD hS (lv_sub hl [1, 2, 0] rfl)
    · have hF := t_neg h hF
      refine lv_iconst (v := (0 : Int32)) hx hb dX7_is_24 (by decide) ?_
      exact kRz (τ := Int32) (cv := (0 : Int32)) (fr := fun u => u) (fw := fun u => [(a0, .inr (7, [.ref a0_bytes, .int a0_length, .int a0_behind, .int a0_fed, .int a0_sort, .int a0_place, .int a0_whole, .long a0_word])), (a0_bytes, .inl (cyI, 900, .inl f_a0_bytes))]) hQ hx hb hr hlocks hK hP hD hS hF rfl rfl dX7_is_25
set_option maxHeartbeats 4000000 in
set_option maxRecDepth 100000 in
theorem c_X7_readWhole (l : Launch) (D : va_G) (cyI cyJ cyZ cyO : ClassId) (a0 : Nat) (a0_bytes : Nat) (a0_length : Int32) (a0_behind : Int32) (a0_fed : Int32) (a0_sort : Int32) (a0_place : Int32) (a0_whole : Int32) (a0_word : Int64) (f_a0_bytes : Nat → Int32) (fu : Nat) (sz : Nat) (o : Int32 × Int32 × Int32) (hF : F_X7_readWhole fu a0_length a0_place f_a0_bytes = some o) : mV l yX7_readWhole cX7_readWhole 2 none ({ frames := 0, cells := 0, slots := 0, locals := 0 } : Room) D (wT cyI cyJ cyZ cyO) [.ref a0] sz [(a0, .inr (7, [.ref a0_bytes, .int a0_length, .int a0_behind, .int a0_fed, .int a0_sort, .int a0_place, .int a0_whole, .long a0_word])), (a0_bytes, .inl (cyI, 900, .inl f_a0_bytes))] [(a0, .inr (7, [.ref a0_bytes, .int a0_length, .int o.1, .int a0_fed, .int o.2.1, .int a0_place, .int o.2.2, .long a0_word])), (a0_bytes, .inl (cyI, 900, .inl f_a0_bytes))] := by
  refine kM_v (by decide +kernel) (Nat.le_of_ble_eq_true rfl) ?_
  intro p e s m args below meth c A ls Q hx hb hr hlocks hml hown hG hK hA hP hD hS hl hQ
  have hown : s.vm.findClass RX7 = some m.cls := hown
  have hl : lv_has ls 2 [(0, .ref a0)] := hl
  have B88 : ∀ (t0 : Int32) (a0_behind : Int32) (a0_sort : Int32) (a0_whole : Int32) (H : Heap) (locs : List Loc) (ls : Array Slot), F_X7_readWhole_b88 a0_behind a0_whole t0 = some o → va_P D vwCl [(a0, .inr (7, [.ref a0_bytes, .int a0_length, .int a0_behind, .int a0_fed, .int a0_sort, .int a0_place, .int a0_whole, .long a0_word])), (a0_bytes, .inl (cyI, 900, .inl f_a0_bytes))] H → va_D A [(a0, .inr (7, [.ref a0_bytes, .int a0_length, .int a0_behind, .int a0_fed, .int a0_sort, .int a0_place, .int a0_whole, .long a0_word])), (a0_bytes, .inl (cyI, 900, .inl f_a0_bytes))] → va_S A s.heap H locs → lv_has ls 2 [] → W p l e ({ frames := 0, cells := 0, slots := 0, locals := 0 } : Room) s m args below meth c H locs 0 0 Q (F0 m 88 ls [.int t0, .ref a0]) := by
    intro t0 a0_behind a0_sort a0_whole H locs ls hF hP hD hS hl
    refine pt_X7_23 (v := .int t0) hx hb hG hown hK hP hD hS 0 rfl rfl rfl (Nat.le_of_ble_eq_true rfl) dX7_readWhole_88 (fun H locs hP hD hS => ?_)
    have hP : va_P D vwCl [(a0, .inr (7, [.ref a0_bytes, .int a0_length, .int a0_behind, .int a0_fed, .int t0, .int a0_place, .int a0_whole, .long a0_word])), (a0_bytes, .inl (cyI, 900, .inl f_a0_bytes))] H := hP
    have hD : va_D A [(a0, .inr (7, [.ref a0_bytes, .int a0_length, .int a0_behind, .int a0_fed, .int t0, .int a0_place, .int a0_whole, .long a0_word])), (a0_bytes, .inl (cyI, 900, .inl f_a0_bytes))] := hD
    exact kRv (τ := Int32 × Int32 × Int32) (cv := (a0_behind, t0, a0_whole)) (fw := fun u => [(a0, .inr (7, [.ref a0_bytes, .int a0_length, .int u.1, .int a0_fed, .int u.2.1, .int a0_place, .int u.2.2, .long a0_word])), (a0_bytes, .inl (cyI, 900, .inl f_a0_bytes))]) hQ hx hb hr hlocks hK hP hD hS hF  dX7_readWhole_91
  have B67 : ∀ (v1 : Int32) (a0_behind : Int32) (a0_sort : Int32) (a0_whole : Int32) (H : Heap) (locs : List Loc) (ls : Array Slot), F_X7_readWhole_b67 a0_place a0_whole v1 = some o → va_P D vwCl [(a0, .inr (7, [.ref a0_bytes, .int a0_length, .int a0_behind, .int a0_fed, .int a0_sort, .int a0_place, .int a0_whole, .long a0_word])), (a0_bytes, .inl (cyI, 900, .inl f_a0_bytes))] H → va_D A [(a0, .inr (7, [.ref a0_bytes, .int a0_length, .int a0_behind, .int a0_fed, .int a0_sort, .int a0_place, .int a0_whole, .long a0_word])), (a0_bytes, .inl (cyI, 900, .inl f_a0_bytes))] → va_S A s.heap H locs → lv_has ls 2 [(0, .ref a0), (1, .int v1)] → W p l e ({ frames := 0, cells := 0, slots := 0, locals := 0 } : Room) s m args below meth c H locs 0 0 Q (F0 m 67 ls []) := by
    intro v1 a0_behind a0_sort a0_whole H locs ls hF hP hD hS hl
    refine lv_aload_n hx hb dX7_readWhole_67 rfl (lv_at hl 0 rfl) ?_
    refine lv_iload_n hx hb dX7_readWhole_68 rfl (lv_at hl 1 rfl) ?_
    refine pt_X7_17 (v := .int v1) hx hb hG hown hK hP hD hS 0 rfl rfl rfl (Nat.le_of_ble_eq_true rfl) dX7_readWhole_69 (fun H locs hP hD hS => ?_)
    have hP : va_P D vwCl [(a0, .inr (7, [.ref a0_bytes, .int a0_length, .int v1, .int a0_fed, .int a0_sort, .int a0_place, .int a0_whole, .long a0_word])), (a0_bytes, .inl (cyI, 900, .inl f_a0_bytes))] H := hP
    have hD : va_D A [(a0, .inr (7, [.ref a0_bytes, .int a0_length, .int v1, .int a0_fed, .int a0_sort, .int a0_place, .int a0_whole, .long a0_word])), (a0_bytes, .inl (cyI, 900, .inl f_a0_bytes))] := hD
    refine lv_aload_n hx hb dX7_readWhole_72 rfl (lv_at hl 0 rfl) ?_
    refine lv_iload_n hx hb dX7_readWhole_73 rfl (lv_at hl 1 rfl) ?_
    refine lv_aload_n hx hb dX7_readWhole_74 rfl (lv_at hl 0 rfl) ?_
    refine gt_X7_26 hx hb hG hown hK hP 0 rfl rfl dX7_readWhole_75 ?_
    refine lv_isub hx hb dX7_readWhole_78 ?_
    refine lv_iconst (v := (3 : Int32)) hx hb dX7_readWhole_79 (by decide) ?_
    refine lv_icmp_gt (tgt := 87) hx hb dX7_readWhole_80 (by decide) (fun h => ?_) (fun h => ?_)
    · have hF := t_pos h hF
      refine lv_iconst (v := (5 : Int32)) hx hb dX7_readWhole_87 (by decide) ?_
      exact B88 (5 : Int32) v1 a0_sort a0_whole H locs ls hF hP hD hS (lv_sub hl [] rfl)
    · have hF := t_neg h hF
      refine lv_iconst (v := (2 : Int32)) hx hb dX7_readWhole_83 (by decide) ?_
      refine lv_goto (tgt := 88) hx hb dX7_readWhole_84 (by decide) ?_
      exact B88 (2 : Int32) v1 a0_sort a0_whole H locs ls hF hP hD hS (lv_sub hl [] rfl)
  have L10 : ∀ (kf10 : Nat), ∀ (v1 : Int32) (a0_behind : Int32) (a0_sort : Int32) (a0_whole : Int32) (H : Heap) (locs : List Loc) (ls : Array Slot), F_X7_readWhole_b10 a0_length a0_place f_a0_bytes kf10 a0_whole v1 = some o → va_P D vwCl [(a0, .inr (7, [.ref a0_bytes, .int a0_length, .int a0_behind, .int a0_fed, .int a0_sort, .int a0_place, .int a0_whole, .long a0_word])), (a0_bytes, .inl (cyI, 900, .inl f_a0_bytes))] H → va_D A [(a0, .inr (7, [.ref a0_bytes, .int a0_length, .int a0_behind, .int a0_fed, .int a0_sort, .int a0_place, .int a0_whole, .long a0_word])), (a0_bytes, .inl (cyI, 900, .inl f_a0_bytes))] → va_S A s.heap H locs → lv_has ls 2 [(0, .ref a0), (1, .int v1)] → W p l e ({ frames := 0, cells := 0, slots := 0, locals := 0 } : Room) s m args below meth c H locs 0 0 Q (F0 m 10 ls []) := by
    intro kf10
    induction kf10 with
    | zero => intro v1 a0_behind a0_sort a0_whole H locs ls hF; rw [F_X7_readWhole_b10] at hF; cases hF
    | succ kf10 ih10 =>
      intro v1 a0_behind a0_sort a0_whole H locs ls hF hP hD hS hl
      rw [F_X7_readWhole_b10] at hF
      refine lv_iload_n hx hb dX7_readWhole_10 rfl (lv_at hl 1 rfl) ?_
      refine lv_aload_n hx hb dX7_readWhole_11 rfl (lv_at hl 0 rfl) ?_
      refine gt_X7_13 hx hb hG hown hK hP 0 rfl rfl dX7_readWhole_12 ?_
      refine lv_icmp_ge (tgt := 67) hx hb dX7_readWhole_15 (by decide) (fun h => ?_) (fun h => ?_)
      · have hF := t_pos h hF
        exact B67 v1 a0_behind a0_sort a0_whole H locs ls hF hP hD hS (lv_sub hl [0, 1] rfl)
      · have hF := t_neg h hF
        refine lv_aload_n hx hb dX7_readWhole_18 rfl (lv_at hl 0 rfl) ?_
        refine gt_X7_9 hx hb hG hown hK hP 0 rfl rfl dX7_readWhole_19 ?_
        refine lv_iload_n hx hb dX7_readWhole_22 rfl (lv_at hl 1 rfl) ?_
        obtain ⟨hin, hF⟩ := t_grd hF
        refine va_iald hx hb hK hP 1 0 rfl rfl hin dX7_readWhole_23 ?_
        refine lv_bipush (v := (48 : Int32)) hx hb dX7_readWhole_24 (by decide) ?_
        refine lv_icmp_lt (tgt := 67) hx hb dX7_readWhole_26 (by decide) (fun h => ?_) (fun h => ?_)
        · have hF := t_pos h hF
          exact B67 v1 a0_behind a0_sort a0_whole H locs ls hF hP hD hS (lv_sub hl [0, 1] rfl)
        · have hF := t_neg h hF
          refine lv_aload_n hx hb dX7_readWhole_29 rfl (lv_at hl 0 rfl) ?_
          refine gt_X7_9 hx hb hG hown hK hP 0 rfl rfl dX7_readWhole_30 ?_
          refine lv_iload_n hx hb dX7_readWhole_33 rfl (lv_at hl 1 rfl) ?_
          obtain ⟨hin, hF⟩ := t_grd hF
          refine va_iald hx hb hK hP 1 0 rfl rfl hin dX7_readWhole_34 ?_
          refine lv_bipush (v := (57 : Int32)) hx hb dX7_readWhole_35 (by decide) ?_
          refine lv_icmp_gt (tgt := 67) hx hb dX7_readWhole_37 (by decide) (fun h => ?_) (fun h => ?_)
          · have hF := t_pos h hF
            exact B67 v1 a0_behind a0_sort a0_whole H locs ls hF hP hD hS (lv_sub hl [0, 1] rfl)
          · have hF := t_neg h hF
            refine lv_aload_n hx hb dX7_readWhole_40 rfl (lv_at hl 0 rfl) ?_
            refine lv_aload_n hx hb dX7_readWhole_41 rfl (lv_at hl 0 rfl) ?_
            refine gt_X7_29 hx hb hG hown hK hP 0 rfl rfl dX7_readWhole_42 ?_
            refine lv_bipush (v := (10 : Int32)) hx hb dX7_readWhole_45 (by decide) ?_
            refine lv_imul hx hb dX7_readWhole_47 ?_
            refine lv_aload_n hx hb dX7_readWhole_48 rfl (lv_at hl 0 rfl) ?_
            refine gt_X7_9 hx hb hG hown hK hP 0 rfl rfl dX7_readWhole_49 ?_
            refine lv_iload_n hx hb dX7_readWhole_52 rfl (lv_at hl 1 rfl) ?_
            obtain ⟨hin, hF⟩ := t_grd hF
            refine va_iald hx hb hK hP 1 0 rfl rfl hin dX7_readWhole_53 ?_
            refine lv_bipush (v := (48 : Int32)) hx hb dX7_readWhole_54 (by decide) ?_
            refine lv_isub hx hb dX7_readWhole_56 ?_
            refine lv_iadd hx hb dX7_readWhole_57 ?_
            refine pt_X7_29 (v := .int ((a0_whole * (10 : Int32)) + ((f_a0_bytes v1.toNatClampNeg) - (48 : Int32)))) hx hb hG hown hK hP hD hS 0 rfl rfl rfl (Nat.le_of_ble_eq_true rfl) dX7_readWhole_58 (fun H locs hP hD hS => ?_)
            have hP : va_P D vwCl [(a0, .inr (7, [.ref a0_bytes, .int a0_length, .int a0_behind, .int a0_fed, .int a0_sort, .int a0_place, .int ((a0_whole * (10 : Int32)) + ((f_a0_bytes v1.toNatClampNeg) - (48 : Int32))), .long a0_word])), (a0_bytes, .inl (cyI, 900, .inl f_a0_bytes))] H := hP
            have hD : va_D A [(a0, .inr (7, [.ref a0_bytes, .int a0_length, .int a0_behind, .int a0_fed, .int a0_sort, .int a0_place, .int ((a0_whole * (10 : Int32)) + ((f_a0_bytes v1.toNatClampNeg) - (48 : Int32))), .long a0_word])), (a0_bytes, .inl (cyI, 900, .inl f_a0_bytes))] := hD
            refine lv_iinc (v := (v1 + (1 : Int32))) (lv' := [(1, .int (v1 + (1 : Int32))), (0, .ref a0)]) hx hb dX7_readWhole_61 hl (k := 1) rfl (by rfl) (by decide) rfl (fun ls hl => ?_)
            refine lv_goto (tgt := 10) hx hb dX7_readWhole_64 (by decide) ?_
            exact ih10 ((v1 + (1 : Int32))) a0_behind a0_sort (((a0_whole * (10 : Int32)) + ((f_a0_bytes v1.toNatClampNeg) - (48 : Int32)))) H locs ls hF hP hD hS (lv_sub hl [1, 0] rfl)
  obtain ⟨H, hH⟩ : ∃ H : Heap, H = s.heap := ⟨_, rfl⟩
  obtain ⟨locs, hlo⟩ : ∃ L : List Loc, L = [] := ⟨_, rfl⟩
  have hP : va_P D vwCl [(a0, .inr (7, [.ref a0_bytes, .int a0_length, .int a0_behind, .int a0_fed, .int a0_sort, .int a0_place, .int a0_whole, .long a0_word])), (a0_bytes, .inl (cyI, 900, .inl f_a0_bytes))] H := by rw [hH]; exact hP
  have hS : va_S A s.heap H locs := by rw [hH, hlo]; exact hS
  show W p l e ({ frames := 0, cells := 0, slots := 0, locals := 0 } : Room) s m args below meth c s.heap [] 0 0 Q (F0 m 0 ls [])
  suffices hgo : W p l e ({ frames := 0, cells := 0, slots := 0, locals := 0 } : Room) s m args below meth c H locs 0 0 Q (F0 m 0 ls []) by rw [hH, hlo] at hgo; exact hgo
  refine lv_aload_n hx hb dX7_readWhole_0 rfl (lv_at hl 0 rfl) ?_
  refine gt_X7_26 hx hb hG hown hK hP 0 rfl rfl dX7_readWhole_1 ?_
  refine lv_istore_n (lv' := [(1, .int a0_place), (0, .ref a0)]) hx hb dX7_readWhole_4 rfl hl (by decide) rfl (fun ls hl => ?_)
  refine lv_aload_n hx hb dX7_readWhole_5 rfl (lv_at hl 1 rfl) ?_
  refine lv_iconst (v := (0 : Int32)) hx hb dX7_readWhole_6 (by decide) ?_
  refine pt_X7_29 (v := .int (0 : Int32)) hx hb hG hown hK hP hD hS 0 rfl rfl rfl (Nat.le_of_ble_eq_true rfl) dX7_readWhole_7 (fun H locs hP hD hS => ?_)
  have hP : va_P D vwCl [(a0, .inr (7, [.ref a0_bytes, .int a0_length, .int a0_behind, .int a0_fed, .int a0_sort, .int a0_place, .int (0 : Int32), .long a0_word])), (a0_bytes, .inl (cyI, 900, .inl f_a0_bytes))] H := hP
  have hD : va_D A [(a0, .inr (7, [.ref a0_bytes, .int a0_length, .int a0_behind, .int a0_fed, .int a0_sort, .int a0_place, .int (0 : Int32), .long a0_word])), (a0_bytes, .inl (cyI, 900, .inl f_a0_bytes))] := hD
  exact L10 fu a0_place a0_behind a0_sort (0 : Int32) H locs ls hF hP hD hS (lv_sub hl [1, 0] rfl)
set_option maxHeartbeats 4000000 in
set_option maxRecDepth 100000 in
theorem c_X7_readWord (l : Launch) (D : va_G) (cyI cyJ cyZ cyO : ClassId) (a0 : Nat) (a0_bytes : Nat) (a0_length : Int32) (a0_behind : Int32) (a0_fed : Int32) (a0_sort : Int32) (a0_place : Int32) (a0_whole : Int32) (a0_word : Int64) (f_a0_bytes : Nat → Int32) (fu : Nat) (sz : Nat) (o : Int32 × Int32 × Int64) (hF : F_X7_readWord fu a0_length a0_place f_a0_bytes = some o) : mV l yX7_readWord cX7_readWord 2 none ({ frames := 0, cells := 0, slots := 0, locals := 0 } : Room) D (wT cyI cyJ cyZ cyO) [.ref a0] sz [(a0, .inr (7, [.ref a0_bytes, .int a0_length, .int a0_behind, .int a0_fed, .int a0_sort, .int a0_place, .int a0_whole, .long a0_word])), (a0_bytes, .inl (cyI, 900, .inl f_a0_bytes))] [(a0, .inr (7, [.ref a0_bytes, .int a0_length, .int o.1, .int a0_fed, .int o.2.1, .int a0_place, .int a0_whole, .long o.2.2])), (a0_bytes, .inl (cyI, 900, .inl f_a0_bytes))] := by
  refine kM_v (by decide +kernel) (Nat.le_of_ble_eq_true rfl) ?_
  intro p e s m args below meth c A ls Q hx hb hr hlocks hml hown hG hK hA hP hD hS hl hQ
  have hown : s.vm.findClass RX7 = some m.cls := hown
  have hl : lv_has ls 2 [(0, .ref a0)] := hl
  have B93 : ∀ (t0 : Int32) (a0_behind : Int32) (a0_sort : Int32) (a0_word : Int64) (H : Heap) (locs : List Loc) (ls : Array Slot), F_X7_readWord_b93 a0_behind a0_word t0 = some o → va_P D vwCl [(a0, .inr (7, [.ref a0_bytes, .int a0_length, .int a0_behind, .int a0_fed, .int a0_sort, .int a0_place, .int a0_whole, .long a0_word])), (a0_bytes, .inl (cyI, 900, .inl f_a0_bytes))] H → va_D A [(a0, .inr (7, [.ref a0_bytes, .int a0_length, .int a0_behind, .int a0_fed, .int a0_sort, .int a0_place, .int a0_whole, .long a0_word])), (a0_bytes, .inl (cyI, 900, .inl f_a0_bytes))] → va_S A s.heap H locs → lv_has ls 2 [] → W p l e ({ frames := 0, cells := 0, slots := 0, locals := 0 } : Room) s m args below meth c H locs 0 0 Q (F0 m 93 ls [.int t0, .ref a0]) := by
    intro t0 a0_behind a0_sort a0_word H locs ls hF hP hD hS hl
    refine pt_X7_23 (v := .int t0) hx hb hG hown hK hP hD hS 0 rfl rfl rfl (Nat.le_of_ble_eq_true rfl) dX7_readWord_93 (fun H locs hP hD hS => ?_)
    have hP : va_P D vwCl [(a0, .inr (7, [.ref a0_bytes, .int a0_length, .int a0_behind, .int a0_fed, .int t0, .int a0_place, .int a0_whole, .long a0_word])), (a0_bytes, .inl (cyI, 900, .inl f_a0_bytes))] H := hP
    have hD : va_D A [(a0, .inr (7, [.ref a0_bytes, .int a0_length, .int a0_behind, .int a0_fed, .int t0, .int a0_place, .int a0_whole, .long a0_word])), (a0_bytes, .inl (cyI, 900, .inl f_a0_bytes))] := hD
    exact kRv (τ := Int32 × Int32 × Int64) (cv := (a0_behind, t0, a0_word)) (fw := fun u => [(a0, .inr (7, [.ref a0_bytes, .int a0_length, .int u.1, .int a0_fed, .int u.2.1, .int a0_place, .int a0_whole, .long u.2.2])), (a0_bytes, .inl (cyI, 900, .inl f_a0_bytes))]) hQ hx hb hr hlocks hK hP hD hS hF  dX7_readWord_96
  have B71 : ∀ (v1 : Int32) (a0_behind : Int32) (a0_sort : Int32) (a0_word : Int64) (H : Heap) (locs : List Loc) (ls : Array Slot), F_X7_readWord_b71 a0_place a0_word v1 = some o → va_P D vwCl [(a0, .inr (7, [.ref a0_bytes, .int a0_length, .int a0_behind, .int a0_fed, .int a0_sort, .int a0_place, .int a0_whole, .long a0_word])), (a0_bytes, .inl (cyI, 900, .inl f_a0_bytes))] H → va_D A [(a0, .inr (7, [.ref a0_bytes, .int a0_length, .int a0_behind, .int a0_fed, .int a0_sort, .int a0_place, .int a0_whole, .long a0_word])), (a0_bytes, .inl (cyI, 900, .inl f_a0_bytes))] → va_S A s.heap H locs → lv_has ls 2 [(0, .ref a0), (1, .int v1)] → W p l e ({ frames := 0, cells := 0, slots := 0, locals := 0 } : Room) s m args below meth c H locs 0 0 Q (F0 m 71 ls []) := by
    intro v1 a0_behind a0_sort a0_word H locs ls hF hP hD hS hl
    refine lv_aload_n hx hb dX7_readWord_71 rfl (lv_at hl 0 rfl) ?_
    refine lv_iload_n hx hb dX7_readWord_72 rfl (lv_at hl 1 rfl) ?_
    refine pt_X7_17 (v := .int v1) hx hb hG hown hK hP hD hS 0 rfl rfl rfl (Nat.le_of_ble_eq_true rfl) dX7_readWord_73 (fun H locs hP hD hS => ?_)
    have hP : va_P D vwCl [(a0, .inr (7, [.ref a0_bytes, .int a0_length, .int v1, .int a0_fed, .int a0_sort, .int a0_place, .int a0_whole, .long a0_word])), (a0_bytes, .inl (cyI, 900, .inl f_a0_bytes))] H := hP
    have hD : va_D A [(a0, .inr (7, [.ref a0_bytes, .int a0_length, .int v1, .int a0_fed, .int a0_sort, .int a0_place, .int a0_whole, .long a0_word])), (a0_bytes, .inl (cyI, 900, .inl f_a0_bytes))] := hD
    refine lv_aload_n hx hb dX7_readWord_76 rfl (lv_at hl 0 rfl) ?_
    refine lv_iload_n hx hb dX7_readWord_77 rfl (lv_at hl 1 rfl) ?_
    refine lv_aload_n hx hb dX7_readWord_78 rfl (lv_at hl 0 rfl) ?_
    refine gt_X7_26 hx hb hG hown hK hP 0 rfl rfl dX7_readWord_79 ?_
    refine lv_isub hx hb dX7_readWord_82 ?_
    refine lv_bipush (v := (8 : Int32)) hx hb dX7_readWord_83 (by decide) ?_
    refine lv_icmp_gt (tgt := 92) hx hb dX7_readWord_85 (by decide) (fun h => ?_) (fun h => ?_)
    · have hF := t_pos h hF
      refine lv_iconst (v := (5 : Int32)) hx hb dX7_readWord_92 (by decide) ?_
      exact B93 (5 : Int32) v1 a0_sort a0_word H locs ls hF hP hD hS (lv_sub hl [] rfl)
    · have hF := t_neg h hF
      refine lv_iconst (v := (1 : Int32)) hx hb dX7_readWord_88 (by decide) ?_
      refine lv_goto (tgt := 93) hx hb dX7_readWord_89 (by decide) ?_
      exact B93 (1 : Int32) v1 a0_sort a0_word H locs ls hF hP hD hS (lv_sub hl [] rfl)
  have L10 : ∀ (kf10 : Nat), ∀ (v1 : Int32) (a0_behind : Int32) (a0_sort : Int32) (a0_word : Int64) (H : Heap) (locs : List Loc) (ls : Array Slot), F_X7_readWord_b10 a0_length a0_place f_a0_bytes kf10 a0_word v1 = some o → va_P D vwCl [(a0, .inr (7, [.ref a0_bytes, .int a0_length, .int a0_behind, .int a0_fed, .int a0_sort, .int a0_place, .int a0_whole, .long a0_word])), (a0_bytes, .inl (cyI, 900, .inl f_a0_bytes))] H → va_D A [(a0, .inr (7, [.ref a0_bytes, .int a0_length, .int a0_behind, .int a0_fed, .int a0_sort, .int a0_place, .int a0_whole, .long a0_word])), (a0_bytes, .inl (cyI, 900, .inl f_a0_bytes))] → va_S A s.heap H locs → lv_has ls 2 [(0, .ref a0), (1, .int v1)] → W p l e ({ frames := 0, cells := 0, slots := 0, locals := 0 } : Room) s m args below meth c H locs 0 0 Q (F0 m 10 ls []) := by
    intro kf10
    induction kf10 with
    | zero => intro v1 a0_behind a0_sort a0_word H locs ls hF; rw [F_X7_readWord_b10] at hF; cases hF
    | succ kf10 ih10 =>
      intro v1 a0_behind a0_sort a0_word H locs ls hF hP hD hS hl
      rw [F_X7_readWord_b10] at hF
      refine lv_iload_n hx hb dX7_readWord_10 rfl (lv_at hl 1 rfl) ?_
      refine lv_aload_n hx hb dX7_readWord_11 rfl (lv_at hl 0 rfl) ?_
      refine gt_X7_13 hx hb hG hown hK hP 0 rfl rfl dX7_readWord_12 ?_
      refine lv_icmp_ge (tgt := 71) hx hb dX7_readWord_15 (by decide) (fun h => ?_) (fun h => ?_)
      · have hF := t_pos h hF
        exact B71 v1 a0_behind a0_sort a0_word H locs ls hF hP hD hS (lv_sub hl [0, 1] rfl)
      · have hF := t_neg h hF
        refine lv_aload_n hx hb dX7_readWord_18 rfl (lv_at hl 0 rfl) ?_
        refine gt_X7_9 hx hb hG hown hK hP 0 rfl rfl dX7_readWord_19 ?_
        refine lv_iload_n hx hb dX7_readWord_22 rfl (lv_at hl 1 rfl) ?_
        obtain ⟨hin, hF⟩ := t_grd hF
        refine va_iald hx hb hK hP 1 0 rfl rfl hin dX7_readWord_23 ?_
        refine lv_bipush (v := (97 : Int32)) hx hb dX7_readWord_24 (by decide) ?_
        refine lv_icmp_lt (tgt := 71) hx hb dX7_readWord_26 (by decide) (fun h => ?_) (fun h => ?_)
        · have hF := t_pos h hF
          exact B71 v1 a0_behind a0_sort a0_word H locs ls hF hP hD hS (lv_sub hl [0, 1] rfl)
        · have hF := t_neg h hF
          refine lv_aload_n hx hb dX7_readWord_29 rfl (lv_at hl 0 rfl) ?_
          refine gt_X7_9 hx hb hG hown hK hP 0 rfl rfl dX7_readWord_30 ?_
          refine lv_iload_n hx hb dX7_readWord_33 rfl (lv_at hl 1 rfl) ?_
          obtain ⟨hin, hF⟩ := t_grd hF
          refine va_iald hx hb hK hP 1 0 rfl rfl hin dX7_readWord_34 ?_
          refine lv_bipush (v := (122 : Int32)) hx hb dX7_readWord_35 (by decide) ?_
          refine lv_icmp_gt (tgt := 71) hx hb dX7_readWord_37 (by decide) (fun h => ?_) (fun h => ?_)
          · have hF := t_pos h hF
            exact B71 v1 a0_behind a0_sort a0_word H locs ls hF hP hD hS (lv_sub hl [0, 1] rfl)
          · have hF := t_neg h hF
            refine lv_aload_n hx hb dX7_readWord_40 rfl (lv_at hl 0 rfl) ?_
            refine lv_aload_n hx hb dX7_readWord_41 rfl (lv_at hl 0 rfl) ?_
            refine gt_X7_32 hx hb hG hown hK hP 0 rfl rfl dX7_readWord_42 ?_
            refine lv_ldc2 (v := (32 : Int64)) hx hb hown (hG _ gm_400) dX7_readWord_45 ?_
            refine lv_lmul hx hb dX7_readWord_48 ?_
            refine lv_aload_n hx hb dX7_readWord_49 rfl (lv_at hl 0 rfl) ?_
            refine gt_X7_9 hx hb hG hown hK hP 0 rfl rfl dX7_readWord_50 ?_
            refine lv_iload_n hx hb dX7_readWord_53 rfl (lv_at hl 1 rfl) ?_
            obtain ⟨hin, hF⟩ := t_grd hF
            refine va_iald hx hb hK hP 1 0 rfl rfl hin dX7_readWord_54 ?_
            refine lv_bipush (v := (97 : Int32)) hx hb dX7_readWord_55 (by decide) ?_
            refine lv_isub hx hb dX7_readWord_57 ?_
            refine lv_iconst (v := (1 : Int32)) hx hb dX7_readWord_58 (by decide) ?_
            refine lv_iadd hx hb dX7_readWord_59 ?_
            refine lv_i2l (v := (((f_a0_bytes v1.toNatClampNeg) - (97 : Int32)) + (1 : Int32)).toInt64) hx hb dX7_readWord_60 rfl ?_
            refine lv_ladd hx hb dX7_readWord_61 ?_
            refine pt_X7_32 (v := .long ((a0_word * (32 : Int64)) + (((f_a0_bytes v1.toNatClampNeg) - (97 : Int32)) + (1 : Int32)).toInt64)) hx hb hG hown hK hP hD hS 0 rfl rfl rfl (Nat.le_of_ble_eq_true rfl) dX7_readWord_62 (fun H locs hP hD hS => ?_)
            have hP : va_P D vwCl [(a0, .inr (7, [.ref a0_bytes, .int a0_length, .int a0_behind, .int a0_fed, .int a0_sort, .int a0_place, .int a0_whole, .long ((a0_word * (32 : Int64)) + (((f_a0_bytes v1.toNatClampNeg) - (97 : Int32)) + (1 : Int32)).toInt64)])), (a0_bytes, .inl (cyI, 900, .inl f_a0_bytes))] H := hP
            have hD : va_D A [(a0, .inr (7, [.ref a0_bytes, .int a0_length, .int a0_behind, .int a0_fed, .int a0_sort, .int a0_place, .int a0_whole, .long ((a0_word * (32 : Int64)) + (((f_a0_bytes v1.toNatClampNeg) - (97 : Int32)) + (1 : Int32)).toInt64)])), (a0_bytes, .inl (cyI, 900, .inl f_a0_bytes))] := hD
            refine lv_iinc (v := (v1 + (1 : Int32))) (lv' := [(1, .int (v1 + (1 : Int32))), (0, .ref a0)]) hx hb dX7_readWord_65 hl (k := 1) rfl (by rfl) (by decide) rfl (fun ls hl => ?_)
            refine lv_goto (tgt := 10) hx hb dX7_readWord_68 (by decide) ?_
            exact ih10 ((v1 + (1 : Int32))) a0_behind a0_sort (((a0_word * (32 : Int64)) + (((f_a0_bytes v1.toNatClampNeg) - (97 : Int32)) + (1 : Int32)).toInt64)) H locs ls hF hP hD hS (lv_sub hl [1, 0] rfl)
  obtain ⟨H, hH⟩ : ∃ H : Heap, H = s.heap := ⟨_, rfl⟩
  obtain ⟨locs, hlo⟩ : ∃ L : List Loc, L = [] := ⟨_, rfl⟩
  have hP : va_P D vwCl [(a0, .inr (7, [.ref a0_bytes, .int a0_length, .int a0_behind, .int a0_fed, .int a0_sort, .int a0_place, .int a0_whole, .long a0_word])), (a0_bytes, .inl (cyI, 900, .inl f_a0_bytes))] H := by rw [hH]; exact hP
  have hS : va_S A s.heap H locs := by rw [hH, hlo]; exact hS
  show W p l e ({ frames := 0, cells := 0, slots := 0, locals := 0 } : Room) s m args below meth c s.heap [] 0 0 Q (F0 m 0 ls [])
  suffices hgo : W p l e ({ frames := 0, cells := 0, slots := 0, locals := 0 } : Room) s m args below meth c H locs 0 0 Q (F0 m 0 ls []) by rw [hH, hlo] at hgo; exact hgo
  refine lv_aload_n hx hb dX7_readWord_0 rfl (lv_at hl 0 rfl) ?_
  refine gt_X7_26 hx hb hG hown hK hP 0 rfl rfl dX7_readWord_1 ?_
  refine lv_istore_n (lv' := [(1, .int a0_place), (0, .ref a0)]) hx hb dX7_readWord_4 rfl hl (by decide) rfl (fun ls hl => ?_)
  refine lv_aload_n hx hb dX7_readWord_5 rfl (lv_at hl 1 rfl) ?_
  refine lv_lconst (v := (0 : Int64)) hx hb dX7_readWord_6 (by decide) ?_
  refine pt_X7_32 (v := .long (0 : Int64)) hx hb hG hown hK hP hD hS 0 rfl rfl rfl (Nat.le_of_ble_eq_true rfl) dX7_readWord_7 (fun H locs hP hD hS => ?_)
  have hP : va_P D vwCl [(a0, .inr (7, [.ref a0_bytes, .int a0_length, .int a0_behind, .int a0_fed, .int a0_sort, .int a0_place, .int a0_whole, .long (0 : Int64)])), (a0_bytes, .inl (cyI, 900, .inl f_a0_bytes))] H := hP
  have hD : va_D A [(a0, .inr (7, [.ref a0_bytes, .int a0_length, .int a0_behind, .int a0_fed, .int a0_sort, .int a0_place, .int a0_whole, .long (0 : Int64)])), (a0_bytes, .inl (cyI, 900, .inl f_a0_bytes))] := hD
  exact L10 fu a0_place a0_behind a0_sort (0 : Int64) H locs ls hF hP hD hS (lv_sub hl [1, 0] rfl)
set_option maxHeartbeats 4000000 in
set_option maxRecDepth 100000 in
theorem c_X7_next (l : Launch) (D : va_G) (cyI cyJ cyZ cyO : ClassId) (a0 : Nat) (a0_bytes : Nat) (a0_length : Int32) (a0_behind : Int32) (a0_fed : Int32) (a0_sort : Int32) (a0_place : Int32) (a0_whole : Int32) (a0_word : Int64) (f_a0_bytes : Nat → Int32) (fu : Nat) (sz : Nat) (o : Int32 × Int32 × Int32 × Int32 × Int64) (hF : F_X7_next fu a0_length a0_behind a0_whole a0_word f_a0_bytes = some o) : mV l yX7_next cX7_next 3 none ({ frames := 1, cells := 0, slots := 0, locals := 21 } : Room) D (wT cyI cyJ cyZ cyO) [.ref a0] sz [(a0, .inr (7, [.ref a0_bytes, .int a0_length, .int a0_behind, .int a0_fed, .int a0_sort, .int a0_place, .int a0_whole, .long a0_word])), (a0_bytes, .inl (cyI, 900, .inl f_a0_bytes))] [(a0, .inr (7, [.ref a0_bytes, .int a0_length, .int o.1, .int a0_fed, .int o.2.1, .int o.2.2.1, .int o.2.2.2.1, .long o.2.2.2.2])), (a0_bytes, .inl (cyI, 900, .inl f_a0_bytes))] := by
  refine kM_v (by decide +kernel) (Nat.le_of_ble_eq_true rfl) ?_
  intro p e s m args below meth c A ls Q hx hb hr hlocks hml hown hG hK hA hP hD hS hl hQ
  have hown : s.vm.findClass RX7 = some m.cls := hown
  have hl : lv_has ls 3 [(0, .ref a0)] := hl
  have B135 : ∀ (v1 : Int32) (t0 : Int32) (a0_behind : Int32) (a0_sort : Int32) (a0_place : Int32) (a0_whole : Int32) (a0_word : Int64) (H : Heap) (locs : List Loc) (ls : Array Slot), F_X7_next_b135 a0_place a0_whole a0_word v1 t0 = some o → va_P D vwCl [(a0, .inr (7, [.ref a0_bytes, .int a0_length, .int a0_behind, .int a0_fed, .int a0_sort, .int a0_place, .int a0_whole, .long a0_word])), (a0_bytes, .inl (cyI, 900, .inl f_a0_bytes))] H → va_D A [(a0, .inr (7, [.ref a0_bytes, .int a0_length, .int a0_behind, .int a0_fed, .int a0_sort, .int a0_place, .int a0_whole, .long a0_word])), (a0_bytes, .inl (cyI, 900, .inl f_a0_bytes))] → va_S A s.heap H locs → lv_has ls 3 [(0, .ref a0), (1, .int v1)] → W p l e ({ frames := 1, cells := 0, slots := 0, locals := 21 } : Room) s m args below meth c H locs 0 0 Q (F0 m 135 ls [.int t0, .ref a0]) := by
    intro v1 t0 a0_behind a0_sort a0_place a0_whole a0_word H locs ls hF hP hD hS hl
    refine pt_X7_23 (v := .int t0) hx hb hG hown hK hP hD hS 0 rfl rfl rfl (Nat.le_of_ble_eq_true rfl) dX7_next_135 (fun H locs hP hD hS => ?_)
    have hP : va_P D vwCl [(a0, .inr (7, [.ref a0_bytes, .int a0_length, .int a0_behind, .int a0_fed, .int t0, .int a0_place, .int a0_whole, .long a0_word])), (a0_bytes, .inl (cyI, 900, .inl f_a0_bytes))] H := hP
    have hD : va_D A [(a0, .inr (7, [.ref a0_bytes, .int a0_length, .int a0_behind, .int a0_fed, .int t0, .int a0_place, .int a0_whole, .long a0_word])), (a0_bytes, .inl (cyI, 900, .inl f_a0_bytes))] := hD
    refine lv_aload_n hx hb dX7_next_138 rfl (lv_at hl 0 rfl) ?_
    refine lv_iload_n hx hb dX7_next_139 rfl (lv_at hl 1 rfl) ?_
    refine lv_iconst (v := (1 : Int32)) hx hb dX7_next_140 (by decide) ?_
    refine lv_iadd hx hb dX7_next_141 ?_
    refine pt_X7_17 (v := .int (v1 + (1 : Int32))) hx hb hG hown hK hP hD hS 0 rfl rfl rfl (Nat.le_of_ble_eq_true rfl) dX7_next_142 (fun H locs hP hD hS => ?_)
    have hP : va_P D vwCl [(a0, .inr (7, [.ref a0_bytes, .int a0_length, .int (v1 + (1 : Int32)), .int a0_fed, .int t0, .int a0_place, .int a0_whole, .long a0_word])), (a0_bytes, .inl (cyI, 900, .inl f_a0_bytes))] H := hP
    have hD : va_D A [(a0, .inr (7, [.ref a0_bytes, .int a0_length, .int (v1 + (1 : Int32)), .int a0_fed, .int t0, .int a0_place, .int a0_whole, .long a0_word])), (a0_bytes, .inl (cyI, 900, .inl f_a0_bytes))] := hD
    exact kRv (τ := Int32 × Int32 × Int32 × Int32 × Int64) (cv := ((v1 + (1 : Int32)), t0, a0_place, a0_whole, a0_word)) (fw := fun u => [(a0, .inr (7, [.ref a0_bytes, .int a0_length, .int u.1, .int a0_fed, .int u.2.1, .int u.2.2.1, .int u.2.2.2.1, .long u.2.2.2.2])), (a0_bytes, .inl (cyI, 900, .inl f_a0_bytes))]) hQ hx hb hr hlocks hK hP hD hS hF  dX7_next_145
  have B113 : ∀ (v1 : Int32) (v2 : Int32) (a0_behind : Int32) (a0_sort : Int32) (a0_place : Int32) (a0_whole : Int32) (a0_word : Int64) (H : Heap) (locs : List Loc) (ls : Array Slot), F_X7_next_b113 a0_place a0_whole a0_word v1 v2 = some o → va_P D vwCl [(a0, .inr (7, [.ref a0_bytes, .int a0_length, .int a0_behind, .int a0_fed, .int a0_sort, .int a0_place, .int a0_whole, .long a0_word])), (a0_bytes, .inl (cyI, 900, .inl f_a0_bytes))] H → va_D A [(a0, .inr (7, [.ref a0_bytes, .int a0_length, .int a0_behind, .int a0_fed, .int a0_sort, .int a0_place, .int a0_whole, .long a0_word])), (a0_bytes, .inl (cyI, 900, .inl f_a0_bytes))] → va_S A s.heap H locs → lv_has ls 3 [(0, .ref a0), (1, .int v1), (2, .int v2)] → W p l e ({ frames := 1, cells := 0, slots := 0, locals := 21 } : Room) s m args below meth c H locs 0 0 Q (F0 m 113 ls []) := by
    intro v1 v2 a0_behind a0_sort a0_place a0_whole a0_word H locs ls hF hP hD hS hl
    refine lv_aload_n hx hb dX7_next_113 rfl (lv_at hl 0 rfl) ?_
    refine lv_iload_n hx hb dX7_next_114 rfl (lv_at hl 2 rfl) ?_
    refine lv_bipush (v := (59 : Int32)) hx hb dX7_next_115 (by decide) ?_
    refine lv_icmp_ne (tgt := 124) hx hb dX7_next_117 (by decide) (fun h => ?_) (fun h => ?_)
    · have hF := t_neg h hF
      refine lv_iload_n hx hb dX7_next_124 rfl (lv_at hl 2 rfl) ?_
      refine lv_bipush (v := (44 : Int32)) hx hb dX7_next_125 (by decide) ?_
      refine lv_icmp_ne (tgt := 134) hx hb dX7_next_127 (by decide) (fun h => ?_) (fun h => ?_)
      · have hF := t_neg h hF
        refine lv_iconst (v := (5 : Int32)) hx hb dX7_next_134 (by decide) ?_
        exact B135 v1 (5 : Int32) a0_behind a0_sort a0_place a0_whole a0_word H locs ls hF hP hD hS (lv_sub hl [0, 1] rfl)
      · have hF := t_pos h hF
        refine lv_iconst (v := (4 : Int32)) hx hb dX7_next_130 (by decide) ?_
        refine lv_goto (tgt := 135) hx hb dX7_next_131 (by decide) ?_
        exact B135 v1 (4 : Int32) a0_behind a0_sort a0_place a0_whole a0_word H locs ls hF hP hD hS (lv_sub hl [0, 1] rfl)
    · have hF := t_pos h hF
      refine lv_iconst (v := (3 : Int32)) hx hb dX7_next_120 (by decide) ?_
      refine lv_goto (tgt := 135) hx hb dX7_next_121 (by decide) ?_
      exact B135 v1 (3 : Int32) a0_behind a0_sort a0_place a0_whole a0_word H locs ls hF hP hD hS (lv_sub hl [0, 1] rfl)
  have B94 : ∀ (v1 : Int32) (v2 : Int32) (a0_behind : Int32) (a0_sort : Int32) (a0_place : Int32) (a0_whole : Int32) (a0_word : Int64) (H : Heap) (locs : List Loc) (ls : Array Slot), F_X7_next_b94 fu a0_length a0_place a0_whole a0_word f_a0_bytes v1 v2 = some o → va_P D vwCl [(a0, .inr (7, [.ref a0_bytes, .int a0_length, .int a0_behind, .int a0_fed, .int a0_sort, .int a0_place, .int a0_whole, .long a0_word])), (a0_bytes, .inl (cyI, 900, .inl f_a0_bytes))] H → va_D A [(a0, .inr (7, [.ref a0_bytes, .int a0_length, .int a0_behind, .int a0_fed, .int a0_sort, .int a0_place, .int a0_whole, .long a0_word])), (a0_bytes, .inl (cyI, 900, .inl f_a0_bytes))] → va_S A s.heap H locs → lv_has ls 3 [(0, .ref a0), (1, .int v1), (2, .int v2)] → W p l e ({ frames := 1, cells := 0, slots := 0, locals := 21 } : Room) s m args below meth c H locs 0 0 Q (F0 m 94 ls []) := by
    intro v1 v2 a0_behind a0_sort a0_place a0_whole a0_word H locs ls hF hP hD hS hl
    refine lv_iload_n hx hb dX7_next_94 rfl (lv_at hl 2 rfl) ?_
    refine lv_bipush (v := (48 : Int32)) hx hb dX7_next_95 (by decide) ?_
    refine lv_icmp_lt (tgt := 113) hx hb dX7_next_97 (by decide) (fun h => ?_) (fun h => ?_)
    · have hF := t_pos h hF
      exact B113 v1 v2 a0_behind a0_sort a0_place a0_whole a0_word H locs ls hF hP hD hS (lv_sub hl [0, 1, 2] rfl)
    · have hF := t_neg h hF
      refine lv_iload_n hx hb dX7_next_100 rfl (lv_at hl 2 rfl) ?_
      refine lv_bipush (v := (57 : Int32)) hx hb dX7_next_101 (by decide) ?_
      refine lv_icmp_gt (tgt := 113) hx hb dX7_next_103 (by decide) (fun h => ?_) (fun h => ?_)
      · have hF := t_pos h hF
        exact B113 v1 v2 a0_behind a0_sort a0_place a0_whole a0_word H locs ls hF hP hD hS (lv_sub hl [0, 1, 2] rfl)
      · have hF := t_neg h hF
        refine lv_aload_n hx hb dX7_next_106 rfl (lv_at hl 0 rfl) ?_
        obtain ⟨u107_0, u107_1, u107_2, hc, hF⟩ := bnd3_some hF
        refine kVv (As := []) (rest := []) (ws' := [(a0, .inr (7, [.ref a0_bytes, .int a0_length, .int u107_0, .int a0_fed, .int u107_1, .int a0_place, .int u107_2, .long a0_word])), (a0_bytes, .inl (cyI, 900, .inl f_a0_bytes))]) ⟨hx, hb, hml, hown, hG⟩ hK hP hD hS hA (c_X7_readWhole l D cyI cyJ cyZ cyO a0 a0_bytes a0_length a0_behind a0_fed a0_sort a0_place a0_whole a0_word f_a0_bytes fu H.size _ hc) (cw_X7_48 hG rfl rfl ⟨Nat.le_of_ble_eq_true rfl, Nat.le_of_ble_eq_true rfl⟩) 0 rfl rfl [0, 1] [] 2 rfl (by decide) rfl [] [a0, a0_bytes] rfl rfl rfl (by decide) rfl rfl rfl hl.1 rfl (Nat.le_of_ble_eq_true rfl) dX7_next_107 ⟨Nat.zero_le _, Nat.zero_le _⟩ (fun H locs hP hD hS => ?_)
        refine lv_goto (tgt := 145) hx hb dX7_next_110 (by decide) ?_
        exact kRv (τ := Int32 × Int32 × Int32 × Int32 × Int64) (cv := (u107_0, u107_1, a0_place, u107_2, a0_word)) (fw := fun u => [(a0, .inr (7, [.ref a0_bytes, .int a0_length, .int u.1, .int a0_fed, .int u.2.1, .int u.2.2.1, .int u.2.2.2.1, .long u.2.2.2.2])), (a0_bytes, .inl (cyI, 900, .inl f_a0_bytes))]) hQ hx hb hr hlocks hK hP hD hS hF  dX7_next_145
  have B53 : ∀ (v1 : Int32) (t0 : Int32) (a0_behind : Int32) (a0_sort : Int32) (a0_place : Int32) (a0_whole : Int32) (a0_word : Int64) (H : Heap) (locs : List Loc) (ls : Array Slot), F_X7_next_b53 fu a0_length a0_place a0_whole a0_word f_a0_bytes v1 t0 = some o → va_P D vwCl [(a0, .inr (7, [.ref a0_bytes, .int a0_length, .int a0_behind, .int a0_fed, .int a0_sort, .int a0_place, .int a0_whole, .long a0_word])), (a0_bytes, .inl (cyI, 900, .inl f_a0_bytes))] H → va_D A [(a0, .inr (7, [.ref a0_bytes, .int a0_length, .int a0_behind, .int a0_fed, .int a0_sort, .int a0_place, .int a0_whole, .long a0_word])), (a0_bytes, .inl (cyI, 900, .inl f_a0_bytes))] → va_S A s.heap H locs → lv_has ls 3 [(0, .ref a0), (1, .int v1)] → W p l e ({ frames := 1, cells := 0, slots := 0, locals := 21 } : Room) s m args below meth c H locs 0 0 Q (F0 m 53 ls [.int t0]) := by
    intro v1 t0 a0_behind a0_sort a0_place a0_whole a0_word H locs ls hF hP hD hS hl
    refine lv_istore_n (lv' := [(2, .int t0), (0, .ref a0), (1, .int v1)]) hx hb dX7_next_53 rfl hl (by decide) rfl (fun ls hl => ?_)
    refine lv_iload_n hx hb dX7_next_54 rfl (lv_at hl 2 rfl) ?_
    refine lv_aload_n hx hb dX7_next_55 rfl (lv_at hl 1 rfl) ?_
    refine gt_X7_13 hx hb hG hown hK hP 0 rfl rfl dX7_next_56 ?_
    refine lv_icmp_lt (tgt := 75) hx hb dX7_next_59 (by decide) (fun h => ?_) (fun h => ?_)
    · have hF := t_pos h hF
      refine lv_iload_n hx hb dX7_next_75 rfl (lv_at hl 0 rfl) ?_
      refine lv_bipush (v := (97 : Int32)) hx hb dX7_next_76 (by decide) ?_
      refine lv_icmp_lt (tgt := 94) hx hb dX7_next_78 (by decide) (fun h => ?_) (fun h => ?_)
      · have hF := t_pos h hF
        exact B94 v1 t0 a0_behind a0_sort a0_place a0_whole a0_word H locs ls hF hP hD hS (lv_sub hl [1, 2, 0] rfl)
      · have hF := t_neg h hF
        refine lv_iload_n hx hb dX7_next_81 rfl (lv_at hl 0 rfl) ?_
        refine lv_bipush (v := (122 : Int32)) hx hb dX7_next_82 (by decide) ?_
        refine lv_icmp_gt (tgt := 94) hx hb dX7_next_84 (by decide) (fun h => ?_) (fun h => ?_)
        · have hF := t_pos h hF
          exact B94 v1 t0 a0_behind a0_sort a0_place a0_whole a0_word H locs ls hF hP hD hS (lv_sub hl [1, 2, 0] rfl)
        · have hF := t_neg h hF
          refine lv_aload_n hx hb dX7_next_87 rfl (lv_at hl 1 rfl) ?_
          obtain ⟨u88_0, u88_1, u88_2, hc, hF⟩ := bnd3_some hF
          refine kVv (As := []) (rest := []) (ws' := [(a0, .inr (7, [.ref a0_bytes, .int a0_length, .int u88_0, .int a0_fed, .int u88_1, .int a0_place, .int a0_whole, .long u88_2])), (a0_bytes, .inl (cyI, 900, .inl f_a0_bytes))]) ⟨hx, hb, hml, hown, hG⟩ hK hP hD hS hA (c_X7_readWord l D cyI cyJ cyZ cyO a0 a0_bytes a0_length a0_behind a0_fed a0_sort a0_place a0_whole a0_word f_a0_bytes fu H.size _ hc) (cw_X7_45 hG rfl rfl ⟨Nat.le_of_ble_eq_true rfl, Nat.le_of_ble_eq_true rfl⟩) 0 rfl rfl [0, 1] [] 2 rfl (by decide) rfl [] [a0, a0_bytes] rfl rfl rfl (by decide) rfl rfl rfl hl.1 rfl (Nat.le_of_ble_eq_true rfl) dX7_next_88 ⟨Nat.zero_le _, Nat.zero_le _⟩ (fun H locs hP hD hS => ?_)
          refine lv_goto (tgt := 145) hx hb dX7_next_91 (by decide) ?_
          exact kRv (τ := Int32 × Int32 × Int32 × Int32 × Int64) (cv := (u88_0, u88_1, a0_place, a0_whole, u88_2)) (fw := fun u => [(a0, .inr (7, [.ref a0_bytes, .int a0_length, .int u.1, .int a0_fed, .int u.2.1, .int u.2.2.1, .int u.2.2.2.1, .long u.2.2.2.2])), (a0_bytes, .inl (cyI, 900, .inl f_a0_bytes))]) hQ hx hb hr hlocks hK hP hD hS hF  dX7_next_145
    · have hF := t_neg h hF
      refine lv_aload_n hx hb dX7_next_62 rfl (lv_at hl 1 rfl) ?_
      refine lv_iconst (v := (0 : Int32)) hx hb dX7_next_63 (by decide) ?_
      refine pt_X7_23 (v := .int (0 : Int32)) hx hb hG hown hK hP hD hS 0 rfl rfl rfl (Nat.le_of_ble_eq_true rfl) dX7_next_64 (fun H locs hP hD hS => ?_)
      have hP : va_P D vwCl [(a0, .inr (7, [.ref a0_bytes, .int a0_length, .int a0_behind, .int a0_fed, .int (0 : Int32), .int a0_place, .int a0_whole, .long a0_word])), (a0_bytes, .inl (cyI, 900, .inl f_a0_bytes))] H := hP
      have hD : va_D A [(a0, .inr (7, [.ref a0_bytes, .int a0_length, .int a0_behind, .int a0_fed, .int (0 : Int32), .int a0_place, .int a0_whole, .long a0_word])), (a0_bytes, .inl (cyI, 900, .inl f_a0_bytes))] := hD
      refine lv_aload_n hx hb dX7_next_67 rfl (lv_at hl 1 rfl) ?_
      refine lv_iload_n hx hb dX7_next_68 rfl (lv_at hl 2 rfl) ?_
      refine pt_X7_17 (v := .int v1) hx hb hG hown hK hP hD hS 0 rfl rfl rfl (Nat.le_of_ble_eq_true rfl) dX7_next_69 (fun H locs hP hD hS => ?_)
      have hP : va_P D vwCl [(a0, .inr (7, [.ref a0_bytes, .int a0_length, .int v1, .int a0_fed, .int (0 : Int32), .int a0_place, .int a0_whole, .long a0_word])), (a0_bytes, .inl (cyI, 900, .inl f_a0_bytes))] H := hP
      have hD : va_D A [(a0, .inr (7, [.ref a0_bytes, .int a0_length, .int v1, .int a0_fed, .int (0 : Int32), .int a0_place, .int a0_whole, .long a0_word])), (a0_bytes, .inl (cyI, 900, .inl f_a0_bytes))] := hD
      refine lv_goto (tgt := 145) hx hb dX7_next_72 (by decide) ?_
      exact kRv (τ := Int32 × Int32 × Int32 × Int32 × Int64) (cv := (v1, (0 : Int32), a0_place, a0_whole, a0_word)) (fw := fun u => [(a0, .inr (7, [.ref a0_bytes, .int a0_length, .int u.1, .int a0_fed, .int u.2.1, .int u.2.2.1, .int u.2.2.2.1, .long u.2.2.2.2])), (a0_bytes, .inl (cyI, 900, .inl f_a0_bytes))]) hQ hx hb hr hlocks hK hP hD hS hF  dX7_next_145
  have B30 : ∀ (v1 : Int32) (a0_behind : Int32) (a0_sort : Int32) (a0_place : Int32) (a0_whole : Int32) (a0_word : Int64) (H : Heap) (locs : List Loc) (ls : Array Slot), F_X7_next_b30 fu a0_length a0_whole a0_word f_a0_bytes v1 = some o → va_P D vwCl [(a0, .inr (7, [.ref a0_bytes, .int a0_length, .int a0_behind, .int a0_fed, .int a0_sort, .int a0_place, .int a0_whole, .long a0_word])), (a0_bytes, .inl (cyI, 900, .inl f_a0_bytes))] H → va_D A [(a0, .inr (7, [.ref a0_bytes, .int a0_length, .int a0_behind, .int a0_fed, .int a0_sort, .int a0_place, .int a0_whole, .long a0_word])), (a0_bytes, .inl (cyI, 900, .inl f_a0_bytes))] → va_S A s.heap H locs → lv_has ls 3 [(0, .ref a0), (1, .int v1)] → W p l e ({ frames := 1, cells := 0, slots := 0, locals := 21 } : Room) s m args below meth c H locs 0 0 Q (F0 m 30 ls []) := by
    intro v1 a0_behind a0_sort a0_place a0_whole a0_word H locs ls hF hP hD hS hl
    refine lv_aload_n hx hb dX7_next_30 rfl (lv_at hl 0 rfl) ?_
    refine lv_iload_n hx hb dX7_next_31 rfl (lv_at hl 1 rfl) ?_
    refine pt_X7_26 (v := .int v1) hx hb hG hown hK hP hD hS 0 rfl rfl rfl (Nat.le_of_ble_eq_true rfl) dX7_next_32 (fun H locs hP hD hS => ?_)
    have hP : va_P D vwCl [(a0, .inr (7, [.ref a0_bytes, .int a0_length, .int a0_behind, .int a0_fed, .int a0_sort, .int v1, .int a0_whole, .long a0_word])), (a0_bytes, .inl (cyI, 900, .inl f_a0_bytes))] H := hP
    have hD : va_D A [(a0, .inr (7, [.ref a0_bytes, .int a0_length, .int a0_behind, .int a0_fed, .int a0_sort, .int v1, .int a0_whole, .long a0_word])), (a0_bytes, .inl (cyI, 900, .inl f_a0_bytes))] := hD
    refine lv_iload_n hx hb dX7_next_35 rfl (lv_at hl 1 rfl) ?_
    refine lv_aload_n hx hb dX7_next_36 rfl (lv_at hl 0 rfl) ?_
    refine gt_X7_13 hx hb hG hown hK hP 0 rfl rfl dX7_next_37 ?_
    refine lv_icmp_ge (tgt := 52) hx hb dX7_next_40 (by decide) (fun h => ?_) (fun h => ?_)
    · have hF := t_pos h hF
      refine lv_iconst (v := (0 : Int32)) hx hb dX7_next_52 (by decide) ?_
      exact B53 v1 (0 : Int32) a0_behind a0_sort v1 a0_whole a0_word H locs ls hF hP hD hS (lv_sub hl [0, 1] rfl)
    · have hF := t_neg h hF
      refine lv_aload_n hx hb dX7_next_43 rfl (lv_at hl 0 rfl) ?_
      refine gt_X7_9 hx hb hG hown hK hP 0 rfl rfl dX7_next_44 ?_
      refine lv_iload_n hx hb dX7_next_47 rfl (lv_at hl 1 rfl) ?_
      obtain ⟨hin, hF⟩ := t_grd hF
      refine va_iald hx hb hK hP 1 0 rfl rfl hin dX7_next_48 ?_
      refine lv_goto (tgt := 53) hx hb dX7_next_49 (by decide) ?_
      exact B53 v1 (f_a0_bytes v1.toNatClampNeg) a0_behind a0_sort v1 a0_whole a0_word H locs ls hF hP hD hS (lv_sub hl [0, 1] rfl)
  have L5 : ∀ (kf5 : Nat), ∀ (v1 : Int32) (a0_behind : Int32) (a0_sort : Int32) (a0_place : Int32) (a0_whole : Int32) (a0_word : Int64) (H : Heap) (locs : List Loc) (ls : Array Slot), F_X7_next_b5 fu a0_length a0_whole a0_word f_a0_bytes kf5 v1 = some o → va_P D vwCl [(a0, .inr (7, [.ref a0_bytes, .int a0_length, .int a0_behind, .int a0_fed, .int a0_sort, .int a0_place, .int a0_whole, .long a0_word])), (a0_bytes, .inl (cyI, 900, .inl f_a0_bytes))] H → va_D A [(a0, .inr (7, [.ref a0_bytes, .int a0_length, .int a0_behind, .int a0_fed, .int a0_sort, .int a0_place, .int a0_whole, .long a0_word])), (a0_bytes, .inl (cyI, 900, .inl f_a0_bytes))] → va_S A s.heap H locs → lv_has ls 3 [(0, .ref a0), (1, .int v1)] → W p l e ({ frames := 1, cells := 0, slots := 0, locals := 21 } : Room) s m args below meth c H locs 0 0 Q (F0 m 5 ls []) := by
    intro kf5
    induction kf5 with
    | zero => intro v1 a0_behind a0_sort a0_place a0_whole a0_word H locs ls hF; rw [F_X7_next_b5] at hF; cases hF
    | succ kf5 ih5 =>
      intro v1 a0_behind a0_sort a0_place a0_whole a0_word H locs ls hF hP hD hS hl
      rw [F_X7_next_b5] at hF
      refine lv_iload_n hx hb dX7_next_5 rfl (lv_at hl 1 rfl) ?_
      refine lv_aload_n hx hb dX7_next_6 rfl (lv_at hl 0 rfl) ?_
      refine gt_X7_13 hx hb hG hown hK hP 0 rfl rfl dX7_next_7 ?_
      refine lv_icmp_ge (tgt := 30) hx hb dX7_next_10 (by decide) (fun h => ?_) (fun h => ?_)
      · have hF := t_pos h hF
        exact B30 v1 a0_behind a0_sort a0_place a0_whole a0_word H locs ls hF hP hD hS (lv_sub hl [0, 1] rfl)
      · have hF := t_neg h hF
        refine lv_aload_n hx hb dX7_next_13 rfl (lv_at hl 0 rfl) ?_
        refine gt_X7_9 hx hb hG hown hK hP 0 rfl rfl dX7_next_14 ?_
        refine lv_iload_n hx hb dX7_next_17 rfl (lv_at hl 1 rfl) ?_
        obtain ⟨hin, hF⟩ := t_grd hF
        refine va_iald hx hb hK hP 1 0 rfl rfl hin dX7_next_18 ?_
        refine lv_bipush (v := (32 : Int32)) hx hb dX7_next_19 (by decide) ?_
        refine lv_icmp_ne (tgt := 30) hx hb dX7_next_21 (by decide) (fun h => ?_) (fun h => ?_)
        · have hF := t_neg h hF
          exact B30 v1 a0_behind a0_sort a0_place a0_whole a0_word H locs ls hF hP hD hS (lv_sub hl [0, 1] rfl)
        · have hF := t_pos h hF
          refine lv_iinc (v := (v1 + (1 : Int32))) (lv' := [(1, .int (v1 + (1 : Int32))), (0, .ref a0)]) hx hb dX7_next_24 hl (k := 1) rfl (by rfl) (by decide) rfl (fun ls hl => ?_)
          refine lv_goto (tgt := 5) hx hb dX7_next_27 (by decide) ?_
          exact ih5 ((v1 + (1 : Int32))) a0_behind a0_sort a0_place a0_whole a0_word H locs ls hF hP hD hS (lv_sub hl [1, 0] rfl)
  obtain ⟨H, hH⟩ : ∃ H : Heap, H = s.heap := ⟨_, rfl⟩
  obtain ⟨locs, hlo⟩ : ∃ L : List Loc, L = [] := ⟨_, rfl⟩
  have hP : va_P D vwCl [(a0, .inr (7, [.ref a0_bytes, .int a0_length, .int a0_behind, .int a0_fed, .int a0_sort, .int a0_place, .int a0_whole, .long a0_word])), (a0_bytes, .inl (cyI, 900, .inl f_a0_bytes))] H := by rw [hH]; exact hP
  have hS : va_S A s.heap H locs := by rw [hH, hlo]; exact hS
  show W p l e ({ frames := 1, cells := 0, slots := 0, locals := 21 } : Room) s m args below meth c s.heap [] 0 0 Q (F0 m 0 ls [])
  suffices hgo : W p l e ({ frames := 1, cells := 0, slots := 0, locals := 21 } : Room) s m args below meth c H locs 0 0 Q (F0 m 0 ls []) by rw [hH, hlo] at hgo; exact hgo
  refine lv_aload_n hx hb dX7_next_0 rfl (lv_at hl 0 rfl) ?_
  refine gt_X7_17 hx hb hG hown hK hP 0 rfl rfl dX7_next_1 ?_
  refine lv_istore_n (lv' := [(1, .int a0_behind), (0, .ref a0)]) hx hb dX7_next_4 rfl hl (by decide) rfl (fun ls hl => ?_)
  exact L5 fu a0_behind a0_behind a0_sort a0_place a0_whole a0_word H locs ls hF hP hD hS (lv_sub hl [1, 0] rfl)
set_option maxHeartbeats 4000000 in
set_option maxRecDepth 100000 in
theorem c_X7_isName (l : Launch) (D : va_G) (cyI cyJ cyZ cyO : ClassId) (adK adV : Nat → Nat) (a0 : Nat) (a0_bytes : Nat) (a0_length : Int32) (a0_behind : Int32) (a0_fed : Int32) (a0_sort : Int32) (a0_place : Int32) (a0_whole : Int32) (a0_word : Int64) (f_a0_bytes : Nat → Int32) (fu : Nat) (sz : Nat) (o : Int32) (hF : F_X7_isName fu a0_behind a0_sort a0_place f_a0_bytes = some o) : mIS l yX7_isName cX7_isName 1 (some .boolean) ({ frames := 7, cells := 0, slots := 0, locals := 222 } : Room) D (wT cyI cyJ cyZ cyO) adK adV [.ref a0] sz [(a0, .inr (7, [.ref a0_bytes, .int a0_length, .int a0_behind, .int a0_fed, .int a0_sort, .int a0_place, .int a0_whole, .long a0_word])), (a0_bytes, .inl (cyI, 900, .inl f_a0_bytes))] o [(a0, .inr (7, [.ref a0_bytes, .int a0_length, .int a0_behind, .int a0_fed, .int a0_sort, .int a0_place, .int a0_whole, .long a0_word])), (a0_bytes, .inl (cyI, 900, .inl f_a0_bytes))] := by
  refine kM_iS (by decide +kernel) (Nat.le_of_ble_eq_true rfl) ?_
  intro p e s m args below meth c A ls Q hx hb hr hlocks hml hown hG hK hA hP hD hS hl hE hQ
  have hown : s.vm.findClass RX7 = some m.cls := hown
  have hl : lv_has ls 1 [(0, .ref a0)] := hl
  obtain ⟨H, hH⟩ : ∃ H : Heap, H = s.heap := ⟨_, rfl⟩
  obtain ⟨locs, hlo⟩ : ∃ L : List Loc, L = [] := ⟨_, rfl⟩
  have hP : va_P D vwCl [(a0, .inr (7, [.ref a0_bytes, .int a0_length, .int a0_behind, .int a0_fed, .int a0_sort, .int a0_place, .int a0_whole, .long a0_word])), (a0_bytes, .inl (cyI, 900, .inl f_a0_bytes))] H := by rw [hH]; exact hP
  have hS : va_S A s.heap H locs := by rw [hH, hlo]; exact hS
  show W p l e ({ frames := 7, cells := 0, slots := 0, locals := 222 } : Room) s m args below meth c s.heap [] 0 0 Q (F0 m 0 ls [])
  suffices hgo : W p l e ({ frames := 7, cells := 0, slots := 0, locals := 222 } : Room) s m args below meth c H locs 0 0 Q (F0 m 0 ls []) by rw [hH, hlo] at hgo; exact hgo
  refine lv_aload_n hx hb dX7_isName_0 rfl (lv_at hl 0 rfl) ?_
  refine gt_X7_23 hx hb hG hown hK hP 0 rfl rfl dX7_isName_1 ?_
  refine lv_iconst (v := (1 : Int32)) hx hb dX7_isName_4 (by decide) ?_
  refine lv_icmp_ne (tgt := 57) hx hb dX7_isName_5 (by decide) (fun h => ?_) (fun h => ?_)
  · have hF := t_neg h hF
    refine lv_iconst (v := (0 : Int32)) hx hb dX7_isName_57 (by decide) ?_
    exact kRz (τ := Int32) (cv := (0 : Int32)) (fr := fun u => u) (fw := fun u => [(a0, .inr (7, [.ref a0_bytes, .int a0_length, .int a0_behind, .int a0_fed, .int a0_sort, .int a0_place, .int a0_whole, .long a0_word])), (a0_bytes, .inl (cyI, 900, .inl f_a0_bytes))]) hQ hx hb hr hlocks hK hP hD hS hF rfl rfl dX7_isName_58
  · have hF := t_pos h hF
    refine lv_aload_n hx hb dX7_isName_8 rfl (lv_at hl 0 rfl) ?_
    refine va_ldcS hx hb hown (hE.2.2.2 3 (RX7, 62, "law") rfl) dX7_isName_9 ?_
    obtain ⟨r11, hc, hF⟩ := bnd1_some hF
    refine kVi_S (As := [.ref (adK 3)]) (rest := []) (ws' := [(a0, .inr (7, [.ref a0_bytes, .int a0_length, .int a0_behind, .int a0_fed, .int a0_sort, .int a0_place, .int a0_whole, .long a0_word])), (a0_bytes, .inl (cyI, 900, .inl f_a0_bytes))]) hE ⟨hx, hb, hml, hown, hG⟩ hK hP hD hS hA (c_X7_is l D cyI cyJ cyZ cyO adK adV a0 a0_bytes a0_length a0_behind a0_fed a0_sort a0_place a0_whole a0_word f_a0_bytes 3 fu (by decide) H.size _ hc) (cw_X7_64 hG rfl rfl ⟨Nat.le_of_ble_eq_true rfl, Nat.le_of_ble_eq_true rfl⟩) 0 rfl rfl [0, 1] [] 2 rfl (by decide) rfl [] [a0, a0_bytes] rfl rfl rfl (by decide) rfl rfl rfl hl.1 rfl (Nat.le_of_ble_eq_true rfl) dX7_isName_11 ⟨Nat.zero_le _, Nat.zero_le _⟩ (fun H locs hP hD hS => ?_)
    refine lv_if_ne (tgt := 57) hx hb dX7_isName_14 (by decide) (fun h => ?_) (fun h => ?_)
    · have hF := t_neg h hF
      refine lv_iconst (v := (0 : Int32)) hx hb dX7_isName_57 (by decide) ?_
      exact kRz (τ := Int32) (cv := (0 : Int32)) (fr := fun u => u) (fw := fun u => [(a0, .inr (7, [.ref a0_bytes, .int a0_length, .int a0_behind, .int a0_fed, .int a0_sort, .int a0_place, .int a0_whole, .long a0_word])), (a0_bytes, .inl (cyI, 900, .inl f_a0_bytes))]) hQ hx hb hr hlocks hK hP hD hS hF rfl rfl dX7_isName_58
    · have hF := t_pos h hF
      refine lv_aload_n hx hb dX7_isName_17 rfl (lv_at hl 0 rfl) ?_
      refine va_ldcS hx hb hown (hE.2.2.2 4 (RX7, 68, "till") rfl) dX7_isName_18 ?_
      obtain ⟨r20, hc, hF⟩ := bnd1_some hF
      refine kVi_S (As := [.ref (adK 4)]) (rest := []) (ws' := [(a0, .inr (7, [.ref a0_bytes, .int a0_length, .int a0_behind, .int a0_fed, .int a0_sort, .int a0_place, .int a0_whole, .long a0_word])), (a0_bytes, .inl (cyI, 900, .inl f_a0_bytes))]) hE ⟨hx, hb, hml, hown, hG⟩ hK hP hD hS hA (c_X7_is l D cyI cyJ cyZ cyO adK adV a0 a0_bytes a0_length a0_behind a0_fed a0_sort a0_place a0_whole a0_word f_a0_bytes 4 fu (by decide) H.size _ hc) (cw_X7_64 hG rfl rfl ⟨Nat.le_of_ble_eq_true rfl, Nat.le_of_ble_eq_true rfl⟩) 0 rfl rfl [0, 1] [] 2 rfl (by decide) rfl [] [a0, a0_bytes] rfl rfl rfl (by decide) rfl rfl rfl hl.1 rfl (Nat.le_of_ble_eq_true rfl) dX7_isName_20 ⟨Nat.zero_le _, Nat.zero_le _⟩ (fun H locs hP hD hS => ?_)
      refine lv_if_ne (tgt := 57) hx hb dX7_isName_23 (by decide) (fun h => ?_) (fun h => ?_)
      · have hF := t_neg h hF
        refine lv_iconst (v := (0 : Int32)) hx hb dX7_isName_57 (by decide) ?_
        exact kRz (τ := Int32) (cv := (0 : Int32)) (fr := fun u => u) (fw := fun u => [(a0, .inr (7, [.ref a0_bytes, .int a0_length, .int a0_behind, .int a0_fed, .int a0_sort, .int a0_place, .int a0_whole, .long a0_word])), (a0_bytes, .inl (cyI, 900, .inl f_a0_bytes))]) hQ hx hb hr hlocks hK hP hD hS hF rfl rfl dX7_isName_58
      · have hF := t_pos h hF
        refine lv_aload_n hx hb dX7_isName_26 rfl (lv_at hl 0 rfl) ?_
        refine va_ldcS hx hb hown (hE.2.2.2 5 (RX7, 70, "cashier") rfl) dX7_isName_27 ?_
        obtain ⟨r29, hc, hF⟩ := bnd1_some hF
        refine kVi_S (As := [.ref (adK 5)]) (rest := []) (ws' := [(a0, .inr (7, [.ref a0_bytes, .int a0_length, .int a0_behind, .int a0_fed, .int a0_sort, .int a0_place, .int a0_whole, .long a0_word])), (a0_bytes, .inl (cyI, 900, .inl f_a0_bytes))]) hE ⟨hx, hb, hml, hown, hG⟩ hK hP hD hS hA (c_X7_is l D cyI cyJ cyZ cyO adK adV a0 a0_bytes a0_length a0_behind a0_fed a0_sort a0_place a0_whole a0_word f_a0_bytes 5 fu (by decide) H.size _ hc) (cw_X7_64 hG rfl rfl ⟨Nat.le_of_ble_eq_true rfl, Nat.le_of_ble_eq_true rfl⟩) 0 rfl rfl [0, 1] [] 2 rfl (by decide) rfl [] [a0, a0_bytes] rfl rfl rfl (by decide) rfl rfl rfl hl.1 rfl (Nat.le_of_ble_eq_true rfl) dX7_isName_29 ⟨Nat.zero_le _, Nat.zero_le _⟩ (fun H locs hP hD hS => ?_)
        refine lv_if_ne (tgt := 57) hx hb dX7_isName_32 (by decide) (fun h => ?_) (fun h => ?_)
        · have hF := t_neg h hF
          refine lv_iconst (v := (0 : Int32)) hx hb dX7_isName_57 (by decide) ?_
          exact kRz (τ := Int32) (cv := (0 : Int32)) (fr := fun u => u) (fw := fun u => [(a0, .inr (7, [.ref a0_bytes, .int a0_length, .int a0_behind, .int a0_fed, .int a0_sort, .int a0_place, .int a0_whole, .long a0_word])), (a0_bytes, .inl (cyI, 900, .inl f_a0_bytes))]) hQ hx hb hr hlocks hK hP hD hS hF rfl rfl dX7_isName_58
        · have hF := t_pos h hF
          refine lv_aload_n hx hb dX7_isName_35 rfl (lv_at hl 0 rfl) ?_
          refine va_ldcS hx hb hown (hE.2.2.2 6 (RX7, 72, "call") rfl) dX7_isName_36 ?_
          obtain ⟨r38, hc, hF⟩ := bnd1_some hF
          refine kVi_S (As := [.ref (adK 6)]) (rest := []) (ws' := [(a0, .inr (7, [.ref a0_bytes, .int a0_length, .int a0_behind, .int a0_fed, .int a0_sort, .int a0_place, .int a0_whole, .long a0_word])), (a0_bytes, .inl (cyI, 900, .inl f_a0_bytes))]) hE ⟨hx, hb, hml, hown, hG⟩ hK hP hD hS hA (c_X7_is l D cyI cyJ cyZ cyO adK adV a0 a0_bytes a0_length a0_behind a0_fed a0_sort a0_place a0_whole a0_word f_a0_bytes 6 fu (by decide) H.size _ hc) (cw_X7_64 hG rfl rfl ⟨Nat.le_of_ble_eq_true rfl, Nat.le_of_ble_eq_true rfl⟩) 0 rfl rfl [0, 1] [] 2 rfl (by decide) rfl [] [a0, a0_bytes] rfl rfl rfl (by decide) rfl rfl rfl hl.1 rfl (Nat.le_of_ble_eq_true rfl) dX7_isName_38 ⟨Nat.zero_le _, Nat.zero_le _⟩ (fun H locs hP hD hS => ?_)
          refine lv_if_ne (tgt := 57) hx hb dX7_isName_41 (by decide) (fun h => ?_) (fun h => ?_)
          · have hF := t_neg h hF
            refine lv_iconst (v := (0 : Int32)) hx hb dX7_isName_57 (by decide) ?_
            exact kRz (τ := Int32) (cv := (0 : Int32)) (fr := fun u => u) (fw := fun u => [(a0, .inr (7, [.ref a0_bytes, .int a0_length, .int a0_behind, .int a0_fed, .int a0_sort, .int a0_place, .int a0_whole, .long a0_word])), (a0_bytes, .inl (cyI, 900, .inl f_a0_bytes))]) hQ hx hb hr hlocks hK hP hD hS hF rfl rfl dX7_isName_58
          · have hF := t_pos h hF
            refine lv_aload_n hx hb dX7_isName_44 rfl (lv_at hl 0 rfl) ?_
            refine va_ldcS hx hb hown (hE.2.2.2 7 (RX7, 74, "from") rfl) dX7_isName_45 ?_
            obtain ⟨r47, hc, hF⟩ := bnd1_some hF
            refine kVi_S (As := [.ref (adK 7)]) (rest := []) (ws' := [(a0, .inr (7, [.ref a0_bytes, .int a0_length, .int a0_behind, .int a0_fed, .int a0_sort, .int a0_place, .int a0_whole, .long a0_word])), (a0_bytes, .inl (cyI, 900, .inl f_a0_bytes))]) hE ⟨hx, hb, hml, hown, hG⟩ hK hP hD hS hA (c_X7_is l D cyI cyJ cyZ cyO adK adV a0 a0_bytes a0_length a0_behind a0_fed a0_sort a0_place a0_whole a0_word f_a0_bytes 7 fu (by decide) H.size _ hc) (cw_X7_64 hG rfl rfl ⟨Nat.le_of_ble_eq_true rfl, Nat.le_of_ble_eq_true rfl⟩) 0 rfl rfl [0, 1] [] 2 rfl (by decide) rfl [] [a0, a0_bytes] rfl rfl rfl (by decide) rfl rfl rfl hl.1 rfl (Nat.le_of_ble_eq_true rfl) dX7_isName_47 ⟨Nat.zero_le _, Nat.zero_le _⟩ (fun H locs hP hD hS => ?_)
            refine lv_if_ne (tgt := 57) hx hb dX7_isName_50 (by decide) (fun h => ?_) (fun h => ?_)
            · have hF := t_neg h hF
              refine lv_iconst (v := (0 : Int32)) hx hb dX7_isName_57 (by decide) ?_
              exact kRz (τ := Int32) (cv := (0 : Int32)) (fr := fun u => u) (fw := fun u => [(a0, .inr (7, [.ref a0_bytes, .int a0_length, .int a0_behind, .int a0_fed, .int a0_sort, .int a0_place, .int a0_whole, .long a0_word])), (a0_bytes, .inl (cyI, 900, .inl f_a0_bytes))]) hQ hx hb hr hlocks hK hP hD hS hF rfl rfl dX7_isName_58
            · have hF := t_pos h hF
              refine lv_iconst (v := (1 : Int32)) hx hb dX7_isName_53 (by decide) ?_
              refine lv_goto (tgt := 58) hx hb dX7_isName_54 (by decide) ?_
              exact kRz (τ := Int32) (cv := (1 : Int32)) (fr := fun u => u) (fw := fun u => [(a0, .inr (7, [.ref a0_bytes, .int a0_length, .int a0_behind, .int a0_fed, .int a0_sort, .int a0_place, .int a0_whole, .long a0_word])), (a0_bytes, .inl (cyI, 900, .inl f_a0_bytes))]) hQ hx hb hr hlocks hK hP hD hS hF rfl rfl dX7_isName_58
set_option maxHeartbeats 4000000 in
set_option maxRecDepth 100000 in
theorem c_X7_beginText (l : Launch) (D : va_G) (cyI cyJ cyZ cyO : ClassId) (a0 : Nat) (a0_bytes : Nat) (a0_length : Int32) (a0_behind : Int32) (a0_fed : Int32) (a0_sort : Int32) (a0_place : Int32) (a0_whole : Int32) (a0_word : Int64) (f_a0_bytes : Nat → Int32) (v1 : Int32) (fu : Nat) (sz : Nat) (o : Int32 × Int32 × Int32 × Int32 × Int32 × Int32 × Int64) (hF : F_X7_beginText fu a0_fed a0_whole a0_word f_a0_bytes v1 = some o) : mV l yX7_beginText cX7_beginText 2 none ({ frames := 2, cells := 0, slots := 0, locals := 43 } : Room) D (wT cyI cyJ cyZ cyO) [.ref a0, .int v1] sz [(a0, .inr (7, [.ref a0_bytes, .int a0_length, .int a0_behind, .int a0_fed, .int a0_sort, .int a0_place, .int a0_whole, .long a0_word])), (a0_bytes, .inl (cyI, 900, .inl f_a0_bytes))] [(a0, .inr (7, [.ref a0_bytes, .int o.1, .int o.2.1, .int o.2.2.1, .int o.2.2.2.1, .int o.2.2.2.2.1, .int o.2.2.2.2.2.1, .long o.2.2.2.2.2.2])), (a0_bytes, .inl (cyI, 900, .inl f_a0_bytes))] := by
  refine kM_v (by decide +kernel) (Nat.le_of_ble_eq_true rfl) ?_
  intro p e s m args below meth c A ls Q hx hb hr hlocks hml hown hG hK hA hP hD hS hl hQ
  have hown : s.vm.findClass RX7 = some m.cls := hown
  have hl : lv_has ls 2 [(0, .ref a0), (1, .int v1)] := hl
  have B17 : ∀ (t0 : Int32) (a0_length : Int32) (a0_behind : Int32) (a0_fed : Int32) (a0_sort : Int32) (a0_place : Int32) (a0_whole : Int32) (a0_word : Int64) (H : Heap) (locs : List Loc) (ls : Array Slot), F_X7_beginText_b17 fu a0_whole a0_word f_a0_bytes t0 = some o → va_P D vwCl [(a0, .inr (7, [.ref a0_bytes, .int a0_length, .int a0_behind, .int a0_fed, .int a0_sort, .int a0_place, .int a0_whole, .long a0_word])), (a0_bytes, .inl (cyI, 900, .inl f_a0_bytes))] H → va_D A [(a0, .inr (7, [.ref a0_bytes, .int a0_length, .int a0_behind, .int a0_fed, .int a0_sort, .int a0_place, .int a0_whole, .long a0_word])), (a0_bytes, .inl (cyI, 900, .inl f_a0_bytes))] → va_S A s.heap H locs → lv_has ls 2 [(0, .ref a0)] → W p l e ({ frames := 2, cells := 0, slots := 0, locals := 43 } : Room) s m args below meth c H locs 0 0 Q (F0 m 17 ls [.int t0, .ref a0]) := by
    intro t0 a0_length a0_behind a0_fed a0_sort a0_place a0_whole a0_word H locs ls hF hP hD hS hl
    refine pt_X7_13 (v := .int t0) hx hb hG hown hK hP hD hS 0 rfl rfl rfl (Nat.le_of_ble_eq_true rfl) dX7_beginText_17 (fun H locs hP hD hS => ?_)
    have hP : va_P D vwCl [(a0, .inr (7, [.ref a0_bytes, .int t0, .int a0_behind, .int a0_fed, .int a0_sort, .int a0_place, .int a0_whole, .long a0_word])), (a0_bytes, .inl (cyI, 900, .inl f_a0_bytes))] H := hP
    have hD : va_D A [(a0, .inr (7, [.ref a0_bytes, .int t0, .int a0_behind, .int a0_fed, .int a0_sort, .int a0_place, .int a0_whole, .long a0_word])), (a0_bytes, .inl (cyI, 900, .inl f_a0_bytes))] := hD
    refine lv_aload_n hx hb dX7_beginText_20 rfl (lv_at hl 0 rfl) ?_
    refine lv_iconst (v := (0 : Int32)) hx hb dX7_beginText_21 (by decide) ?_
    refine pt_X7_17 (v := .int (0 : Int32)) hx hb hG hown hK hP hD hS 0 rfl rfl rfl (Nat.le_of_ble_eq_true rfl) dX7_beginText_22 (fun H locs hP hD hS => ?_)
    have hP : va_P D vwCl [(a0, .inr (7, [.ref a0_bytes, .int t0, .int (0 : Int32), .int a0_fed, .int a0_sort, .int a0_place, .int a0_whole, .long a0_word])), (a0_bytes, .inl (cyI, 900, .inl f_a0_bytes))] H := hP
    have hD : va_D A [(a0, .inr (7, [.ref a0_bytes, .int t0, .int (0 : Int32), .int a0_fed, .int a0_sort, .int a0_place, .int a0_whole, .long a0_word])), (a0_bytes, .inl (cyI, 900, .inl f_a0_bytes))] := hD
    refine lv_aload_n hx hb dX7_beginText_25 rfl (lv_at hl 0 rfl) ?_
    refine lv_iconst (v := (0 : Int32)) hx hb dX7_beginText_26 (by decide) ?_
    refine pt_X7_20 (v := .int (0 : Int32)) hx hb hG hown hK hP hD hS 0 rfl rfl rfl (Nat.le_of_ble_eq_true rfl) dX7_beginText_27 (fun H locs hP hD hS => ?_)
    have hP : va_P D vwCl [(a0, .inr (7, [.ref a0_bytes, .int t0, .int (0 : Int32), .int (0 : Int32), .int a0_sort, .int a0_place, .int a0_whole, .long a0_word])), (a0_bytes, .inl (cyI, 900, .inl f_a0_bytes))] H := hP
    have hD : va_D A [(a0, .inr (7, [.ref a0_bytes, .int t0, .int (0 : Int32), .int (0 : Int32), .int a0_sort, .int a0_place, .int a0_whole, .long a0_word])), (a0_bytes, .inl (cyI, 900, .inl f_a0_bytes))] := hD
    refine lv_aload_n hx hb dX7_beginText_30 rfl (lv_at hl 0 rfl) ?_
    obtain ⟨u31_0, u31_1, u31_2, u31_3, u31_4, hc, hF⟩ := bnd5_some hF
    refine kVv (As := []) (rest := []) (ws' := [(a0, .inr (7, [.ref a0_bytes, .int t0, .int u31_0, .int (0 : Int32), .int u31_1, .int u31_2, .int u31_3, .long u31_4])), (a0_bytes, .inl (cyI, 900, .inl f_a0_bytes))]) ⟨hx, hb, hml, hown, hG⟩ hK hP hD hS hA (c_X7_next l D cyI cyJ cyZ cyO a0 a0_bytes t0 (0 : Int32) (0 : Int32) a0_sort a0_place a0_whole a0_word f_a0_bytes fu H.size _ hc) (cw_X7_42 hG rfl rfl ⟨Nat.le_of_ble_eq_true rfl, Nat.le_of_ble_eq_true rfl⟩) 0 rfl rfl [0, 1] [] 2 rfl (by decide) rfl [] [a0, a0_bytes] rfl rfl rfl (by decide) rfl rfl rfl hl.1 rfl (Nat.le_of_ble_eq_true rfl) dX7_beginText_31 ⟨Nat.zero_le _, Nat.zero_le _⟩ (fun H locs hP hD hS => ?_)
    exact kRv (τ := Int32 × Int32 × Int32 × Int32 × Int32 × Int32 × Int64) (cv := (t0, u31_0, (0 : Int32), u31_1, u31_2, u31_3, u31_4)) (fw := fun u => [(a0, .inr (7, [.ref a0_bytes, .int u.1, .int u.2.1, .int u.2.2.1, .int u.2.2.2.1, .int u.2.2.2.2.1, .int u.2.2.2.2.2.1, .long u.2.2.2.2.2.2])), (a0_bytes, .inl (cyI, 900, .inl f_a0_bytes))]) hQ hx hb hr hlocks hK hP hD hS hF  dX7_beginText_34
  obtain ⟨H, hH⟩ : ∃ H : Heap, H = s.heap := ⟨_, rfl⟩
  obtain ⟨locs, hlo⟩ : ∃ L : List Loc, L = [] := ⟨_, rfl⟩
  have hP : va_P D vwCl [(a0, .inr (7, [.ref a0_bytes, .int a0_length, .int a0_behind, .int a0_fed, .int a0_sort, .int a0_place, .int a0_whole, .long a0_word])), (a0_bytes, .inl (cyI, 900, .inl f_a0_bytes))] H := by rw [hH]; exact hP
  have hS : va_S A s.heap H locs := by rw [hH, hlo]; exact hS
  show W p l e ({ frames := 2, cells := 0, slots := 0, locals := 43 } : Room) s m args below meth c s.heap [] 0 0 Q (F0 m 0 ls [])
  suffices hgo : W p l e ({ frames := 2, cells := 0, slots := 0, locals := 43 } : Room) s m args below meth c H locs 0 0 Q (F0 m 0 ls []) by rw [hH, hlo] at hgo; exact hgo
  refine lv_aload_n hx hb dX7_beginText_0 rfl (lv_at hl 0 rfl) ?_
  refine lv_iload_n hx hb dX7_beginText_1 rfl (lv_at hl 1 rfl) ?_
  refine lv_if_ge (tgt := 9) hx hb dX7_beginText_2 (by decide) (fun h => ?_) (fun h => ?_)
  · have hF := t_pos h hF
    refine lv_iload_n hx hb dX7_beginText_9 rfl (lv_at hl 1 rfl) ?_
    refine lv_aload_n hx hb dX7_beginText_10 rfl (lv_at hl 0 rfl) ?_
    refine gt_X7_20 hx hb hG hown hK hP 0 rfl rfl dX7_beginText_11 ?_
    refine va_mmin hx hb (hml.trans hl.1.symm) hown (hG _ gm_389) (hG _ gm_390) (hG _ gm_11) (hG _ gm_391) (Nat.le_of_ble_eq_true rfl) (Nat.le_of_ble_eq_true rfl) (Nat.zero_le _) (Nat.zero_le _) dX7_beginText_14 ?_
    exact B17 (if a0_fed < v1 then a0_fed else v1) a0_length a0_behind a0_fed a0_sort a0_place a0_whole a0_word H locs ls hF hP hD hS (lv_sub hl [0] rfl)
  · have hF := t_neg h hF
    refine lv_iconst (v := (0 : Int32)) hx hb dX7_beginText_5 (by decide) ?_
    refine lv_goto (tgt := 17) hx hb dX7_beginText_6 (by decide) ?_
    exact B17 (0 : Int32) a0_length a0_behind a0_fed a0_sort a0_place a0_whole a0_word H locs ls hF hP hD hS (lv_sub hl [0] rfl)
set_option maxHeartbeats 4000000 in
set_option maxRecDepth 100000 in
theorem c_X7_hasRoom (l : Launch) (D : va_G) (cyI cyJ cyZ cyO : ClassId) (a0 : Nat) (a0_bytes : Nat) (a0_length : Int32) (a0_behind : Int32) (a0_fed : Int32) (a0_sort : Int32) (a0_place : Int32) (a0_whole : Int32) (a0_word : Int64) (v1 : Int32) (sz : Nat) (o : Int32) (hF : F_X7_hasRoom a0_fed v1 = some o) : mI l yX7_hasRoom cX7_hasRoom 2 (some .boolean) ({ frames := 0, cells := 0, slots := 0, locals := 0 } : Room) D (wT cyI cyJ cyZ cyO) [.ref a0, .int v1] sz [(a0, .inr (7, [.ref a0_bytes, .int a0_length, .int a0_behind, .int a0_fed, .int a0_sort, .int a0_place, .int a0_whole, .long a0_word]))] o [(a0, .inr (7, [.ref a0_bytes, .int a0_length, .int a0_behind, .int a0_fed, .int a0_sort, .int a0_place, .int a0_whole, .long a0_word]))] := by
  refine kM_i (by decide +kernel) (Nat.le_of_ble_eq_true rfl) ?_
  intro p e s m args below meth c A ls Q hx hb hr hlocks hml hown hG hK hA hP hD hS hl hQ
  have hown : s.vm.findClass RX7 = some m.cls := hown
  have hl : lv_has ls 2 [(0, .ref a0), (1, .int v1)] := hl
  obtain ⟨H, hH⟩ : ∃ H : Heap, H = s.heap := ⟨_, rfl⟩
  obtain ⟨locs, hlo⟩ : ∃ L : List Loc, L = [] := ⟨_, rfl⟩
  have hP : va_P D vwCl [(a0, .inr (7, [.ref a0_bytes, .int a0_length, .int a0_behind, .int a0_fed, .int a0_sort, .int a0_place, .int a0_whole, .long a0_word]))] H := by rw [hH]; exact hP
  have hS : va_S A s.heap H locs := by rw [hH, hlo]; exact hS
  show W p l e ({ frames := 0, cells := 0, slots := 0, locals := 0 } : Room) s m args below meth c s.heap [] 0 0 Q (F0 m 0 ls [])
  suffices hgo : W p l e ({ frames := 0, cells := 0, slots := 0, locals := 0 } : Room) s m args below meth c H locs 0 0 Q (F0 m 0 ls []) by rw [hH, hlo] at hgo; exact hgo
  refine lv_iload_n hx hb dX7_hasRoom_0 rfl (lv_at hl 1 rfl) ?_
  refine lv_sipush (v := (900 : Int32)) hx hb dX7_hasRoom_1 (by decide) ?_
  refine lv_aload_n hx hb dX7_hasRoom_4 rfl (lv_at hl 0 rfl) ?_
  refine gt_X7_20 hx hb hG hown hK hP 0 rfl rfl dX7_hasRoom_5 ?_
  refine lv_isub hx hb dX7_hasRoom_8 ?_
  refine lv_icmp_gt (tgt := 16) hx hb dX7_hasRoom_9 (by decide) (fun h => ?_) (fun h => ?_)
  · have hF := t_pos h hF
    refine lv_iconst (v := (0 : Int32)) hx hb dX7_hasRoom_16 (by decide) ?_
    exact kRz (τ := Int32) (cv := (0 : Int32)) (fr := fun u => u) (fw := fun u => [(a0, .inr (7, [.ref a0_bytes, .int a0_length, .int a0_behind, .int a0_fed, .int a0_sort, .int a0_place, .int a0_whole, .long a0_word]))]) hQ hx hb hr hlocks hK hP hD hS hF rfl rfl dX7_hasRoom_17
  · have hF := t_neg h hF
    refine lv_iconst (v := (1 : Int32)) hx hb dX7_hasRoom_12 (by decide) ?_
    refine lv_goto (tgt := 17) hx hb dX7_hasRoom_13 (by decide) ?_
    exact kRz (τ := Int32) (cv := (1 : Int32)) (fr := fun u => u) (fw := fun u => [(a0, .inr (7, [.ref a0_bytes, .int a0_length, .int a0_behind, .int a0_fed, .int a0_sort, .int a0_place, .int a0_whole, .long a0_word]))]) hQ hx hb hr hlocks hK hP hD hS hF rfl rfl dX7_hasRoom_17
set_option maxHeartbeats 4000000 in
set_option maxRecDepth 100000 in
theorem c_X7_addFour (l : Launch) (D : va_G) (cyI cyJ cyZ cyO : ClassId) (a0 : Nat) (a0_bytes : Nat) (a0_length : Int32) (a0_behind : Int32) (a0_fed : Int32) (a0_sort : Int32) (a0_place : Int32) (a0_whole : Int32) (a0_word : Int64) (f_a0_bytes : Nat → Int32) (v1 : Int32) (fu : Nat) (sz : Nat) (o : Int32 × (Nat → Int32)) (hF : F_X7_addFour fu a0_fed f_a0_bytes v1 = some o) : mV l yX7_addFour cX7_addFour 3 none ({ frames := 0, cells := 0, slots := 0, locals := 0 } : Room) D (wT cyI cyJ cyZ cyO) [.ref a0, .int v1] sz [(a0, .inr (7, [.ref a0_bytes, .int a0_length, .int a0_behind, .int a0_fed, .int a0_sort, .int a0_place, .int a0_whole, .long a0_word])), (a0_bytes, .inl (cyI, 900, .inl f_a0_bytes))] [(a0, .inr (7, [.ref a0_bytes, .int a0_length, .int a0_behind, .int o.1, .int a0_sort, .int a0_place, .int a0_whole, .long a0_word])), (a0_bytes, .inl (cyI, 900, .inl (o.2)))] := by
  refine kM_v (by decide +kernel) (Nat.le_of_ble_eq_true rfl) ?_
  intro p e s m args below meth c A ls Q hx hb hr hlocks hml hown hG hK hA hP hD hS hl hQ
  have hown : s.vm.findClass RX7 = some m.cls := hown
  have hl : lv_has ls 3 [(0, .ref a0), (1, .int v1)] := hl
  have L3 : ∀ (kf3 : Nat), ∀ (v1 : Int32) (v2 : Int32) (a0_fed : Int32) (f_a0_bytes : Nat → Int32) (H : Heap) (locs : List Loc) (ls : Array Slot), F_X7_addFour_b3 v1 kf3 a0_fed f_a0_bytes v2 = some o → va_P D vwCl [(a0, .inr (7, [.ref a0_bytes, .int a0_length, .int a0_behind, .int a0_fed, .int a0_sort, .int a0_place, .int a0_whole, .long a0_word])), (a0_bytes, .inl (cyI, 900, .inl f_a0_bytes))] H → va_D A [(a0, .inr (7, [.ref a0_bytes, .int a0_length, .int a0_behind, .int a0_fed, .int a0_sort, .int a0_place, .int a0_whole, .long a0_word])), (a0_bytes, .inl (cyI, 900, .inl f_a0_bytes))] → va_S A s.heap H locs → lv_has ls 3 [(0, .ref a0), (1, .int v1), (2, .int v2)] → W p l e ({ frames := 0, cells := 0, slots := 0, locals := 0 } : Room) s m args below meth c H locs 0 0 Q (F0 m 3 ls []) := by
    intro kf3
    induction kf3 with
    | zero => intro v1 v2 a0_fed f_a0_bytes H locs ls hF; rw [F_X7_addFour_b3] at hF; cases hF
    | succ kf3 ih3 =>
      have B43 : ∀ (v1 : Int32) (v2 : Int32) (a0_fed : Int32) (f_a0_bytes : Nat → Int32) (H : Heap) (locs : List Loc) (ls : Array Slot), F_X7_addFour_b43 (F_X7_addFour_b3 v1 kf3) a0_fed f_a0_bytes v1 v2 = some o → va_P D vwCl [(a0, .inr (7, [.ref a0_bytes, .int a0_length, .int a0_behind, .int a0_fed, .int a0_sort, .int a0_place, .int a0_whole, .long a0_word])), (a0_bytes, .inl (cyI, 900, .inl f_a0_bytes))] H → va_D A [(a0, .inr (7, [.ref a0_bytes, .int a0_length, .int a0_behind, .int a0_fed, .int a0_sort, .int a0_place, .int a0_whole, .long a0_word])), (a0_bytes, .inl (cyI, 900, .inl f_a0_bytes))] → va_S A s.heap H locs → lv_has ls 3 [(0, .ref a0), (1, .int v1), (2, .int v2)] → W p l e ({ frames := 0, cells := 0, slots := 0, locals := 0 } : Room) s m args below meth c H locs 0 0 Q (F0 m 43 ls []) := by
        intro v1 v2 a0_fed f_a0_bytes H locs ls hF hP hD hS hl
        refine lv_iinc (v := (v2 + (-8 : Int32))) (lv' := [(2, .int (v2 + (-8 : Int32))), (0, .ref a0), (1, .int v1)]) hx hb dX7_addFour_43 hl (k := 2) rfl (by rfl) (by decide) rfl (fun ls hl => ?_)
        refine lv_goto (tgt := 3) hx hb dX7_addFour_46 (by decide) ?_
        exact ih3 v1 ((v2 + (-8 : Int32))) a0_fed f_a0_bytes H locs ls hF hP hD hS (lv_sub hl [1, 2, 0] rfl)
      intro v1 v2 a0_fed f_a0_bytes H locs ls hF hP hD hS hl
      rw [F_X7_addFour_b3] at hF
      refine lv_iload_n hx hb dX7_addFour_3 rfl (lv_at hl 2 rfl) ?_
      refine lv_if_lt (tgt := 49) hx hb dX7_addFour_4 (by decide) (fun h => ?_) (fun h => ?_)
      · have hF := t_pos h hF
        exact kRv (τ := Int32 × (Nat → Int32)) (cv := (a0_fed, f_a0_bytes)) (fw := fun u => [(a0, .inr (7, [.ref a0_bytes, .int a0_length, .int a0_behind, .int u.1, .int a0_sort, .int a0_place, .int a0_whole, .long a0_word])), (a0_bytes, .inl (cyI, 900, .inl (u.2)))]) hQ hx hb hr hlocks hK hP hD hS hF  dX7_addFour_49
      · have hF := t_neg h hF
        refine lv_aload_n hx hb dX7_addFour_7 rfl (lv_at hl 0 rfl) ?_
        refine gt_X7_20 hx hb hG hown hK hP 0 rfl rfl dX7_addFour_8 ?_
        refine lv_sipush (v := (900 : Int32)) hx hb dX7_addFour_11 (by decide) ?_
        refine lv_icmp_ge (tgt := 43) hx hb dX7_addFour_14 (by decide) (fun h => ?_) (fun h => ?_)
        · have hF := t_pos h hF
          exact B43 v1 v2 a0_fed f_a0_bytes H locs ls hF hP hD hS (lv_sub hl [0, 1, 2] rfl)
        · have hF := t_neg h hF
          refine lv_aload_n hx hb dX7_addFour_17 rfl (lv_at hl 0 rfl) ?_
          refine gt_X7_9 hx hb hG hown hK hP 0 rfl rfl dX7_addFour_18 ?_
          refine lv_aload_n hx hb dX7_addFour_21 rfl (lv_at hl 0 rfl) ?_
          refine gt_X7_20 hx hb hG hown hK hP 0 rfl rfl dX7_addFour_22 ?_
          refine lv_iload_n hx hb dX7_addFour_25 rfl (lv_at hl 1 rfl) ?_
          refine lv_iload_n hx hb dX7_addFour_26 rfl (lv_at hl 2 rfl) ?_
          refine lv_ishr hx hb dX7_addFour_27 ?_
          refine lv_sipush (v := (255 : Int32)) hx hb dX7_addFour_28 (by decide) ?_
          refine lv_iand hx hb dX7_addFour_31 ?_
          obtain ⟨hin, hF⟩ := t_grd hF
          refine va_iast hx hb hK hP hD hS 1 0 rfl rfl hin dX7_addFour_32 (fun H locs hP hD hS => ?_)
          have hP : va_P D vwCl [(a0, .inr (7, [.ref a0_bytes, .int a0_length, .int a0_behind, .int a0_fed, .int a0_sort, .int a0_place, .int a0_whole, .long a0_word])), (a0_bytes, .inl (cyI, 900, .inl ((upd f_a0_bytes a0_fed.toNatClampNeg ((v1 >>> (v2 &&& 31)) &&& (255 : Int32))))))] H := hP
          have hD : va_D A [(a0, .inr (7, [.ref a0_bytes, .int a0_length, .int a0_behind, .int a0_fed, .int a0_sort, .int a0_place, .int a0_whole, .long a0_word])), (a0_bytes, .inl (cyI, 900, .inl ((upd f_a0_bytes a0_fed.toNatClampNeg ((v1 >>> (v2 &&& 31)) &&& (255 : Int32))))))] := hD
          refine lv_aload_n hx hb dX7_addFour_33 rfl (lv_at hl 0 rfl) ?_
          refine lv_dup hx hb dX7_addFour_34 rfl ?_
          refine gt_X7_20 hx hb hG hown hK hP 0 rfl rfl dX7_addFour_35 ?_
          refine lv_iconst (v := (1 : Int32)) hx hb dX7_addFour_38 (by decide) ?_
          refine lv_iadd hx hb dX7_addFour_39 ?_
          refine pt_X7_20 (v := .int (a0_fed + (1 : Int32))) hx hb hG hown hK hP hD hS 0 rfl rfl rfl (Nat.le_of_ble_eq_true rfl) dX7_addFour_40 (fun H locs hP hD hS => ?_)
          have hP : va_P D vwCl [(a0, .inr (7, [.ref a0_bytes, .int a0_length, .int a0_behind, .int (a0_fed + (1 : Int32)), .int a0_sort, .int a0_place, .int a0_whole, .long a0_word])), (a0_bytes, .inl (cyI, 900, .inl ((upd f_a0_bytes a0_fed.toNatClampNeg ((v1 >>> (v2 &&& 31)) &&& (255 : Int32))))))] H := hP
          have hD : va_D A [(a0, .inr (7, [.ref a0_bytes, .int a0_length, .int a0_behind, .int (a0_fed + (1 : Int32)), .int a0_sort, .int a0_place, .int a0_whole, .long a0_word])), (a0_bytes, .inl (cyI, 900, .inl ((upd f_a0_bytes a0_fed.toNatClampNeg ((v1 >>> (v2 &&& 31)) &&& (255 : Int32))))))] := hD
          exact B43 v1 v2 ((a0_fed + (1 : Int32))) ((upd f_a0_bytes a0_fed.toNatClampNeg ((v1 >>> (v2 &&& 31)) &&& (255 : Int32)))) H locs ls hF hP hD hS (lv_sub hl [0, 1, 2] rfl)
  obtain ⟨H, hH⟩ : ∃ H : Heap, H = s.heap := ⟨_, rfl⟩
  obtain ⟨locs, hlo⟩ : ∃ L : List Loc, L = [] := ⟨_, rfl⟩
  have hP : va_P D vwCl [(a0, .inr (7, [.ref a0_bytes, .int a0_length, .int a0_behind, .int a0_fed, .int a0_sort, .int a0_place, .int a0_whole, .long a0_word])), (a0_bytes, .inl (cyI, 900, .inl f_a0_bytes))] H := by rw [hH]; exact hP
  have hS : va_S A s.heap H locs := by rw [hH, hlo]; exact hS
  show W p l e ({ frames := 0, cells := 0, slots := 0, locals := 0 } : Room) s m args below meth c s.heap [] 0 0 Q (F0 m 0 ls [])
  suffices hgo : W p l e ({ frames := 0, cells := 0, slots := 0, locals := 0 } : Room) s m args below meth c H locs 0 0 Q (F0 m 0 ls []) by rw [hH, hlo] at hgo; exact hgo
  refine lv_bipush (v := (24 : Int32)) hx hb dX7_addFour_0 (by decide) ?_
  refine lv_istore_n (lv' := [(2, .int (24 : Int32)), (0, .ref a0), (1, .int v1)]) hx hb dX7_addFour_2 rfl hl (by decide) rfl (fun ls hl => ?_)
  exact L3 fu v1 (24 : Int32) a0_fed f_a0_bytes H locs ls hF hP hD hS (lv_sub hl [1, 2, 0] rfl)
