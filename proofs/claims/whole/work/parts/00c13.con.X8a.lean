set_option maxHeartbeats 4000000 in
set_option maxRecDepth 100000 in
theorem c_X8_atFirst (l : Launch) (D : va_G) (cyI cyJ cyZ cyO : ClassId) (v0 : Int32) (sz : Nat) (o : Int32) (hF : F_X8_atFirst v0 = some o) : mI l yX8_atFirst cX8_atFirst 1 (some .int) ({ frames := 0, cells := 0, slots := 0, locals := 0 } : Room) D (wT cyI cyJ cyZ cyO) [.int v0] sz [] o [] := by
  refine kM_i (by decide +kernel) (Nat.le_of_ble_eq_true rfl) ?_
  intro p e s m args below meth c A ls Q hx hb hr hlocks hml hown hG hK hA hP hD hS hl hQ
  have hown : s.vm.findClass RX8 = some m.cls := hown
  have hl : lv_has ls 1 [(0, .int v0)] := hl
  obtain ⟨H, hH⟩ : ∃ H : Heap, H = s.heap := ⟨_, rfl⟩
  obtain ⟨locs, hlo⟩ : ∃ L : List Loc, L = [] := ⟨_, rfl⟩
  have hP : va_P D vwCl [] H := by rw [hH]; exact hP
  have hS : va_S A s.heap H locs := by rw [hH, hlo]; exact hS
  show W p l e ({ frames := 0, cells := 0, slots := 0, locals := 0 } : Room) s m args below meth c s.heap [] 0 0 Q (F0 m 0 ls [])
  suffices hgo : W p l e ({ frames := 0, cells := 0, slots := 0, locals := 0 } : Room) s m args below meth c H locs 0 0 Q (F0 m 0 ls []) by rw [hH, hlo] at hgo; exact hgo
  refine lv_iload_n hx hb dX8_atFirst_0 rfl (lv_at hl 0 rfl) ?_
  refine lv_iconst (v := (4 : Int32)) hx hb dX8_atFirst_1 (by decide) ?_
  refine lv_icmp_ne (tgt := 10) hx hb dX8_atFirst_2 (by decide) (fun h => ?_) (fun h => ?_)
  · have hF := t_neg h hF
    refine lv_iconst (v := (0 : Int32)) hx hb dX8_atFirst_10 (by decide) ?_
    exact kRi (τ := Int32) (cv := (0 : Int32)) (fr := fun u => u) (fw := fun u => []) hQ hx hb hr hlocks hK hP hD hS hF rfl dX8_atFirst_11
  · have hF := t_pos h hF
    refine lv_bipush (v := (9 : Int32)) hx hb dX8_atFirst_5 (by decide) ?_
    refine lv_goto (tgt := 11) hx hb dX8_atFirst_7 (by decide) ?_
    exact kRi (τ := Int32) (cv := (9 : Int32)) (fr := fun u => u) (fw := fun u => []) hQ hx hb hr hlocks hK hP hD hS hF rfl dX8_atFirst_11
set_option maxHeartbeats 4000000 in
set_option maxRecDepth 100000 in
theorem c_X8_counted (l : Launch) (D : va_G) (cyI cyJ cyZ cyO : ClassId) (v0 : Int32) (v1 : Int32) (sz : Nat) (o : Int32) (hF : F_X8_counted v0 v1 = some o) : mI l yX8_counted cX8_counted 2 (some .int) ({ frames := 0, cells := 0, slots := 0, locals := 0 } : Room) D (wT cyI cyJ cyZ cyO) [.int v0, .int v1] sz [] o [] := by
  refine kM_i (by decide +kernel) (Nat.le_of_ble_eq_true rfl) ?_
  intro p e s m args below meth c A ls Q hx hb hr hlocks hml hown hG hK hA hP hD hS hl hQ
  have hown : s.vm.findClass RX8 = some m.cls := hown
  have hl : lv_has ls 2 [(0, .int v0), (1, .int v1)] := hl
  obtain ⟨H, hH⟩ : ∃ H : Heap, H = s.heap := ⟨_, rfl⟩
  obtain ⟨locs, hlo⟩ : ∃ L : List Loc, L = [] := ⟨_, rfl⟩
  have hP : va_P D vwCl [] H := by rw [hH]; exact hP
  have hS : va_S A s.heap H locs := by rw [hH, hlo]; exact hS
  show W p l e ({ frames := 0, cells := 0, slots := 0, locals := 0 } : Room) s m args below meth c s.heap [] 0 0 Q (F0 m 0 ls [])
  suffices hgo : W p l e ({ frames := 0, cells := 0, slots := 0, locals := 0 } : Room) s m args below meth c H locs 0 0 Q (F0 m 0 ls []) by rw [hH, hlo] at hgo; exact hgo
  refine lv_iload_n hx hb dX8_counted_0 rfl (lv_at hl 1 rfl) ?_
  refine lv_if_ne (tgt := 18) hx hb dX8_counted_1 (by decide) (fun h => ?_) (fun h => ?_)
  · have hF := t_neg h hF
    refine lv_iload_n hx hb dX8_counted_18 rfl (lv_at hl 1 rfl) ?_
    refine lv_iconst (v := (1 : Int32)) hx hb dX8_counted_19 (by decide) ?_
    refine lv_icmp_ne (tgt := 33) hx hb dX8_counted_20 (by decide) (fun h => ?_) (fun h => ?_)
    · have hF := t_neg h hF
      refine lv_iload_n hx hb dX8_counted_33 rfl (lv_at hl 0 rfl) ?_
      exact kRi (τ := Int32) (cv := v0) (fr := fun u => u) (fw := fun u => []) hQ hx hb hr hlocks hK hP hD hS hF rfl dX8_counted_34
    · have hF := t_pos h hF
      refine lv_iload_n hx hb dX8_counted_23 rfl (lv_at hl 0 rfl) ?_
      refine lv_if_le (tgt := 33) hx hb dX8_counted_24 (by decide) (fun h => ?_) (fun h => ?_)
      · have hF := t_pos h hF
        refine lv_iload_n hx hb dX8_counted_33 rfl (lv_at hl 0 rfl) ?_
        exact kRi (τ := Int32) (cv := v0) (fr := fun u => u) (fw := fun u => []) hQ hx hb hr hlocks hK hP hD hS hF rfl dX8_counted_34
      · have hF := t_neg h hF
        refine lv_iload_n hx hb dX8_counted_27 rfl (lv_at hl 0 rfl) ?_
        refine lv_iconst (v := (1 : Int32)) hx hb dX8_counted_28 (by decide) ?_
        refine lv_isub hx hb dX8_counted_29 ?_
        refine lv_goto (tgt := 34) hx hb dX8_counted_30 (by decide) ?_
        exact kRi (τ := Int32) (cv := (v0 - (1 : Int32))) (fr := fun u => u) (fw := fun u => []) hQ hx hb hr hlocks hK hP hD hS hF rfl dX8_counted_34
  · have hF := t_pos h hF
    refine lv_iload_n hx hb dX8_counted_4 rfl (lv_at hl 0 rfl) ?_
    refine lv_bipush (v := (99 : Int32)) hx hb dX8_counted_5 (by decide) ?_
    refine lv_icmp_ge (tgt := 16) hx hb dX8_counted_7 (by decide) (fun h => ?_) (fun h => ?_)
    · have hF := t_pos h hF
      refine lv_iload_n hx hb dX8_counted_16 rfl (lv_at hl 0 rfl) ?_
      exact kRi (τ := Int32) (cv := v0) (fr := fun u => u) (fw := fun u => []) hQ hx hb hr hlocks hK hP hD hS hF rfl dX8_counted_17
    · have hF := t_neg h hF
      refine lv_iload_n hx hb dX8_counted_10 rfl (lv_at hl 0 rfl) ?_
      refine lv_iconst (v := (1 : Int32)) hx hb dX8_counted_11 (by decide) ?_
      refine lv_iadd hx hb dX8_counted_12 ?_
      refine lv_goto (tgt := 17) hx hb dX8_counted_13 (by decide) ?_
      exact kRi (τ := Int32) (cv := (v0 + (1 : Int32))) (fr := fun u => u) (fw := fun u => []) hQ hx hb hr hlocks hK hP hD hS hF rfl dX8_counted_17
set_option maxHeartbeats 4000000 in
set_option maxRecDepth 100000 in
theorem c_X8_purse (l : Launch) (D : va_G) (cyI cyJ cyZ cyO : ClassId) (v0 : Int32) (v1 : Int32) (sz : Nat) (o : Int32) (hF : F_X8_purse v0 v1 = some o) : mI l yX8_purse cX8_purse 2 (some .int) ({ frames := 0, cells := 0, slots := 0, locals := 0 } : Room) D (wT cyI cyJ cyZ cyO) [.int v0, .int v1] sz [] o [] := by
  refine kM_i (by decide +kernel) (Nat.le_of_ble_eq_true rfl) ?_
  intro p e s m args below meth c A ls Q hx hb hr hlocks hml hown hG hK hA hP hD hS hl hQ
  have hown : s.vm.findClass RX8 = some m.cls := hown
  have hl : lv_has ls 2 [(0, .int v0), (1, .int v1)] := hl
  obtain ⟨H, hH⟩ : ∃ H : Heap, H = s.heap := ⟨_, rfl⟩
  obtain ⟨locs, hlo⟩ : ∃ L : List Loc, L = [] := ⟨_, rfl⟩
  have hP : va_P D vwCl [] H := by rw [hH]; exact hP
  have hS : va_S A s.heap H locs := by rw [hH, hlo]; exact hS
  show W p l e ({ frames := 0, cells := 0, slots := 0, locals := 0 } : Room) s m args below meth c s.heap [] 0 0 Q (F0 m 0 ls [])
  suffices hgo : W p l e ({ frames := 0, cells := 0, slots := 0, locals := 0 } : Room) s m args below meth c H locs 0 0 Q (F0 m 0 ls []) by rw [hH, hlo] at hgo; exact hgo
  refine lv_iload_n hx hb dX8_purse_0 rfl (lv_at hl 1 rfl) ?_
  refine lv_if_ne (tgt := 8) hx hb dX8_purse_1 (by decide) (fun h => ?_) (fun h => ?_)
  · have hF := t_neg h hF
    refine lv_bipush (v := (18 : Int32)) hx hb dX8_purse_8 (by decide) ?_
    refine lv_iload_n hx hb dX8_purse_10 rfl (lv_at hl 0 rfl) ?_
    refine lv_isub hx hb dX8_purse_11 ?_
    exact kRi (τ := Int32) (cv := ((18 : Int32) - v0)) (fr := fun u => u) (fw := fun u => []) hQ hx hb hr hlocks hK hP hD hS hF rfl dX8_purse_12
  · have hF := t_pos h hF
    refine lv_iload_n hx hb dX8_purse_4 rfl (lv_at hl 0 rfl) ?_
    refine lv_goto (tgt := 12) hx hb dX8_purse_5 (by decide) ?_
    exact kRi (τ := Int32) (cv := v0) (fr := fun u => u) (fw := fun u => []) hQ hx hb hr hlocks hK hP hD hS hF rfl dX8_purse_12
set_option maxHeartbeats 4000000 in
set_option maxRecDepth 100000 in
theorem c_X8_queued (l : Launch) (D : va_G) (cyI cyJ cyZ cyO : ClassId) (v0 : Int32) (sz : Nat) (o : Int32) (hF : F_X8_queued v0 = some o) : mI l yX8_queued cX8_queued 1 (some .int) ({ frames := 0, cells := 0, slots := 0, locals := 0 } : Room) D (wT cyI cyJ cyZ cyO) [.int v0] sz [] o [] := by
  refine kM_i (by decide +kernel) (Nat.le_of_ble_eq_true rfl) ?_
  intro p e s m args below meth c A ls Q hx hb hr hlocks hml hown hG hK hA hP hD hS hl hQ
  have hown : s.vm.findClass RX8 = some m.cls := hown
  have hl : lv_has ls 1 [(0, .int v0)] := hl
  obtain ⟨H, hH⟩ : ∃ H : Heap, H = s.heap := ⟨_, rfl⟩
  obtain ⟨locs, hlo⟩ : ∃ L : List Loc, L = [] := ⟨_, rfl⟩
  have hP : va_P D vwCl [] H := by rw [hH]; exact hP
  have hS : va_S A s.heap H locs := by rw [hH, hlo]; exact hS
  show W p l e ({ frames := 0, cells := 0, slots := 0, locals := 0 } : Room) s m args below meth c s.heap [] 0 0 Q (F0 m 0 ls [])
  suffices hgo : W p l e ({ frames := 0, cells := 0, slots := 0, locals := 0 } : Room) s m args below meth c H locs 0 0 Q (F0 m 0 ls []) by rw [hH, hlo] at hgo; exact hgo
  refine lv_iload_n hx hb dX8_queued_0 rfl (lv_at hl 0 rfl) ?_
  refine lv_bipush (v := (7 : Int32)) hx hb dX8_queued_1 (by decide) ?_
  refine lv_iand hx hb dX8_queued_3 ?_
  exact kRi (τ := Int32) (cv := (v0 &&& (7 : Int32))) (fr := fun u => u) (fw := fun u => []) hQ hx hb hr hlocks hK hP hD hS hF rfl dX8_queued_4
set_option maxHeartbeats 4000000 in
set_option maxRecDepth 100000 in
theorem c_X8_says (l : Launch) (D : va_G) (cyI cyJ cyZ cyO : ClassId) (v0 : Int32) (v1 : Int32) (v2 : Int32) (v3 : Int32) (sz : Nat) (o : Int32) (hF : F_X8_says v0 v1 v2 v3 = some o) : mI l yX8_says cX8_says 4 (some .int) ({ frames := 1, cells := 0, slots := 0, locals := 21 } : Room) D (wT cyI cyJ cyZ cyO) [.int v0, .int v1, .int v2, .int v3] sz [] o [] := by
  refine kM_i (by decide +kernel) (Nat.le_of_ble_eq_true rfl) ?_
  intro p e s m args below meth c A ls Q hx hb hr hlocks hml hown hG hK hA hP hD hS hl hQ
  have hown : s.vm.findClass RX8 = some m.cls := hown
  have hl : lv_has ls 4 [(0, .int v0), (1, .int v1), (2, .int v2), (3, .int v3)] := hl
  obtain ⟨H, hH⟩ : ∃ H : Heap, H = s.heap := ⟨_, rfl⟩
  obtain ⟨locs, hlo⟩ : ∃ L : List Loc, L = [] := ⟨_, rfl⟩
  have hP : va_P D vwCl [] H := by rw [hH]; exact hP
  have hS : va_S A s.heap H locs := by rw [hH, hlo]; exact hS
  show W p l e ({ frames := 1, cells := 0, slots := 0, locals := 21 } : Room) s m args below meth c s.heap [] 0 0 Q (F0 m 0 ls [])
  suffices hgo : W p l e ({ frames := 1, cells := 0, slots := 0, locals := 21 } : Room) s m args below meth c H locs 0 0 Q (F0 m 0 ls []) by rw [hH, hlo] at hgo; exact hgo
  refine lv_iload_n hx hb dX8_says_0 rfl (lv_at hl 0 rfl) ?_
  by_cases hs0 : v0 = (0 : Int32)
  · have hF := t_pos hs0 hF
    refine lv_tableIn (tgt := 32) (off := 31) hx hb dX8_says_1 (by rw [hs0]; decide) (by rw [hs0]; decide) (by rw [hs0]; rfl) (by decide) ?_
    refine lv_iload_n hx hb dX8_says_32 rfl (lv_at hl 2 rfl) ?_
    refine lv_if_ne (tgt := 40) hx hb dX8_says_33 (by decide) (fun h => ?_) (fun h => ?_)
    · have hF := t_neg h hF
      refine lv_iload_n hx hb dX8_says_40 rfl (lv_at hl 1 rfl) ?_
      exact kRi (τ := Int32) (cv := v1) (fr := fun u => u) (fw := fun u => []) hQ hx hb hr hlocks hK hP hD hS hF rfl dX8_says_41
    · have hF := t_pos h hF
      refine lv_iconst (v := (0 : Int32)) hx hb dX8_says_36 (by decide) ?_
      refine lv_goto (tgt := 41) hx hb dX8_says_37 (by decide) ?_
      exact kRi (τ := Int32) (cv := (0 : Int32)) (fr := fun u => u) (fw := fun u => []) hQ hx hb hr hlocks hK hP hD hS hF rfl dX8_says_41
  · have hF := t_neg hs0 hF
    by_cases hs1 : v0 = (1 : Int32)
    · have hF := t_pos hs1 hF
      refine lv_tableIn (tgt := 42) (off := 41) hx hb dX8_says_1 (by rw [hs1]; decide) (by rw [hs1]; decide) (by rw [hs1]; rfl) (by decide) ?_
      refine lv_iload_n hx hb dX8_says_42 rfl (lv_at hl 2 rfl) ?_
      refine lv_if_ne (tgt := 61) hx hb dX8_says_43 (by decide) (fun h => ?_) (fun h => ?_)
      · have hF := t_neg h hF
        refine lv_iload_n hx hb dX8_says_61 rfl (lv_at hl 1 rfl) ?_
        obtain ⟨r62, hc, hF⟩ := bnd1_some hF
        refine kSi (As := [.int v1]) (rest := []) (ws' := []) ⟨hx, hb, hml, hown, hG⟩ hK hP hD hS hA (c_X8_queued l D cyI cyJ cyZ cyO v1 H.size _ hc) (cs_X8_9 hG rfl rfl ⟨Nat.le_of_ble_eq_true rfl, Nat.le_of_ble_eq_true rfl⟩) [] [] 0 rfl (by decide) rfl [] [] rfl rfl rfl (by decide) rfl rfl rfl hl.1 rfl (Nat.le_of_ble_eq_true rfl) dX8_says_62 ⟨Nat.zero_le _, Nat.zero_le _⟩ (fun H locs hP hD hS => ?_)
        refine lv_if_le (tgt := 79) hx hb dX8_says_65 (by decide) (fun h => ?_) (fun h => ?_)
        · have hF := t_pos h hF
          refine lv_iconst (v := (0 : Int32)) hx hb dX8_says_79 (by decide) ?_
          exact kRi (τ := Int32) (cv := (0 : Int32)) (fr := fun u => u) (fw := fun u => []) hQ hx hb hr hlocks hK hP hD hS hF rfl dX8_says_80
        · have hF := t_neg h hF
          refine lv_iconst (v := (1 : Int32)) hx hb dX8_says_68 (by decide) ?_
          refine lv_iload_n hx hb dX8_says_69 rfl (lv_at hl 1 rfl) ?_
          refine lv_iconst (v := (3 : Int32)) hx hb dX8_says_70 (by decide) ?_
          refine lv_ishr hx hb dX8_says_71 ?_
          refine lv_bipush (v := (15 : Int32)) hx hb dX8_says_72 (by decide) ?_
          refine lv_iand hx hb dX8_says_74 ?_
          refine lv_iadd hx hb dX8_says_75 ?_
          refine lv_goto (tgt := 80) hx hb dX8_says_76 (by decide) ?_
          exact kRi (τ := Int32) (cv := ((1 : Int32) + ((v1 >>> ((3 : Int32) &&& 31)) &&& (15 : Int32)))) (fr := fun u => u) (fw := fun u => []) hQ hx hb hr hlocks hK hP hD hS hF rfl dX8_says_80
      · have hF := t_pos h hF
        refine lv_iload_n hx hb dX8_says_46 rfl (lv_at hl 1 rfl) ?_
        obtain ⟨r47, hc, hF⟩ := bnd1_some hF
        refine kSi (As := [.int v1]) (rest := []) (ws' := []) ⟨hx, hb, hml, hown, hG⟩ hK hP hD hS hA (c_X8_queued l D cyI cyJ cyZ cyO v1 H.size _ hc) (cs_X8_9 hG rfl rfl ⟨Nat.le_of_ble_eq_true rfl, Nat.le_of_ble_eq_true rfl⟩) [] [] 0 rfl (by decide) rfl [] [] rfl rfl rfl (by decide) rfl rfl rfl hl.1 rfl (Nat.le_of_ble_eq_true rfl) dX8_says_47 ⟨Nat.zero_le _, Nat.zero_le _⟩ (fun H locs hP hD hS => ?_)
        refine lv_bipush (v := (6 : Int32)) hx hb dX8_says_50 (by decide) ?_
        refine lv_icmp_ge (tgt := 59) hx hb dX8_says_52 (by decide) (fun h => ?_) (fun h => ?_)
        · have hF := t_pos h hF
          refine lv_iconst (v := (0 : Int32)) hx hb dX8_says_59 (by decide) ?_
          exact kRi (τ := Int32) (cv := (0 : Int32)) (fr := fun u => u) (fw := fun u => []) hQ hx hb hr hlocks hK hP hD hS hF rfl dX8_says_60
        · have hF := t_neg h hF
          refine lv_iconst (v := (1 : Int32)) hx hb dX8_says_55 (by decide) ?_
          refine lv_goto (tgt := 60) hx hb dX8_says_56 (by decide) ?_
          exact kRi (τ := Int32) (cv := (1 : Int32)) (fr := fun u => u) (fw := fun u => []) hQ hx hb hr hlocks hK hP hD hS hF rfl dX8_says_60
    · have hF := t_neg hs1 hF
      by_cases hs2 : v0 = (2 : Int32)
      · have hF := t_pos hs2 hF
        refine lv_tableIn (tgt := 81) (off := 80) hx hb dX8_says_1 (by rw [hs2]; decide) (by rw [hs2]; decide) (by rw [hs2]; rfl) (by decide) ?_
        refine lv_iload_n hx hb dX8_says_81 rfl (lv_at hl 2 rfl) ?_
        refine lv_if_ne (tgt := 95) hx hb dX8_says_82 (by decide) (fun h => ?_) (fun h => ?_)
        · have hF := t_neg h hF
          refine lv_iload_n hx hb dX8_says_95 rfl (lv_at hl 1 rfl) ?_
          refine lv_iload_n hx hb dX8_says_96 rfl (lv_at hl 3 rfl) ?_
          refine lv_ishr hx hb dX8_says_97 ?_
          refine lv_iconst (v := (1 : Int32)) hx hb dX8_says_98 (by decide) ?_
          refine lv_iand hx hb dX8_says_99 ?_
          exact kRi (τ := Int32) (cv := ((v1 >>> (v3 &&& 31)) &&& (1 : Int32))) (fr := fun u => u) (fw := fun u => []) hQ hx hb hr hlocks hK hP hD hS hF rfl dX8_says_100
        · have hF := t_pos h hF
          refine lv_iconst (v := (1 : Int32)) hx hb dX8_says_85 (by decide) ?_
          refine lv_iload_n hx hb dX8_says_86 rfl (lv_at hl 1 rfl) ?_
          refine lv_iload_n hx hb dX8_says_87 rfl (lv_at hl 3 rfl) ?_
          refine lv_ishr hx hb dX8_says_88 ?_
          refine lv_iconst (v := (1 : Int32)) hx hb dX8_says_89 (by decide) ?_
          refine lv_iand hx hb dX8_says_90 ?_
          refine lv_isub hx hb dX8_says_91 ?_
          refine lv_goto (tgt := 100) hx hb dX8_says_92 (by decide) ?_
          exact kRi (τ := Int32) (cv := ((1 : Int32) - ((v1 >>> (v3 &&& 31)) &&& (1 : Int32)))) (fr := fun u => u) (fw := fun u => []) hQ hx hb hr hlocks hK hP hD hS hF rfl dX8_says_100
      · have hF := t_neg hs2 hF
        by_cases hs3 : v0 = (3 : Int32)
        · have hF := t_pos hs3 hF
          refine lv_tableIn (tgt := 101) (off := 100) hx hb dX8_says_1 (by rw [hs3]; decide) (by rw [hs3]; decide) (by rw [hs3]; rfl) (by decide) ?_
          refine lv_iload_n hx hb dX8_says_101 rfl (lv_at hl 1 rfl) ?_
          refine lv_iload_n hx hb dX8_says_102 rfl (lv_at hl 2 rfl) ?_
          obtain ⟨r103, hc, hF⟩ := bnd1_some hF
          refine kSi (As := [.int v1, .int v2]) (rest := []) (ws' := []) ⟨hx, hb, hml, hown, hG⟩ hK hP hD hS hA (c_X8_counted l D cyI cyJ cyZ cyO v1 v2 H.size _ hc) (cs_X8_13 hG rfl rfl ⟨Nat.le_of_ble_eq_true rfl, Nat.le_of_ble_eq_true rfl⟩) [] [] 0 rfl (by decide) rfl [] [] rfl rfl rfl (by decide) rfl rfl rfl hl.1 rfl (Nat.le_of_ble_eq_true rfl) dX8_says_103 ⟨Nat.zero_le _, Nat.zero_le _⟩ (fun H locs hP hD hS => ?_)
          exact kRi (τ := Int32) (cv := r103) (fr := fun u => u) (fw := fun u => []) hQ hx hb hr hlocks hK hP hD hS hF rfl dX8_says_106
        · have hF := t_neg hs3 hF
          refine lv_tableOut (tgt := 107) hx hb dX8_says_1 (sw_out (lo := 0) (hi := 3) (by decide) (by decide) (fun k h1 h2 => by rcases (show k = 0 ∨ k = 1 ∨ k = 2 ∨ k = 3 by omega) with rfl | rfl | rfl | rfl <;> assumption)) (by decide) ?_
          refine lv_iload_n hx hb dX8_says_107 rfl (lv_at hl 2 rfl) ?_
          refine lv_iconst (v := (2 : Int32)) hx hb dX8_says_108 (by decide) ?_
          refine lv_icmp_ne (tgt := 114) hx hb dX8_says_109 (by decide) (fun h => ?_) (fun h => ?_)
          · have hF := t_neg h hF
            refine lv_iload_n hx hb dX8_says_114 rfl (lv_at hl 1 rfl) ?_
            refine lv_iload_n hx hb dX8_says_115 rfl (lv_at hl 2 rfl) ?_
            obtain ⟨r116, hc, hF⟩ := bnd1_some hF
            refine kSi (As := [.int v1, .int v2]) (rest := []) (ws' := []) ⟨hx, hb, hml, hown, hG⟩ hK hP hD hS hA (c_X8_purse l D cyI cyJ cyZ cyO v1 v2 H.size _ hc) (cs_X8_17 hG rfl rfl ⟨Nat.le_of_ble_eq_true rfl, Nat.le_of_ble_eq_true rfl⟩) [] [] 0 rfl (by decide) rfl [] [] rfl rfl rfl (by decide) rfl rfl rfl hl.1 rfl (Nat.le_of_ble_eq_true rfl) dX8_says_116 ⟨Nat.zero_le _, Nat.zero_le _⟩ (fun H locs hP hD hS => ?_)
            refine lv_iload_n hx hb dX8_says_119 rfl (lv_at hl 3 rfl) ?_
            refine lv_icmp_lt (tgt := 127) hx hb dX8_says_120 (by decide) (fun h => ?_) (fun h => ?_)
            · have hF := t_pos h hF
              refine lv_iconst (v := (0 : Int32)) hx hb dX8_says_127 (by decide) ?_
              exact kRi (τ := Int32) (cv := (0 : Int32)) (fr := fun u => u) (fw := fun u => []) hQ hx hb hr hlocks hK hP hD hS hF rfl dX8_says_128
            · have hF := t_neg h hF
              refine lv_iconst (v := (1 : Int32)) hx hb dX8_says_123 (by decide) ?_
              refine lv_goto (tgt := 128) hx hb dX8_says_124 (by decide) ?_
              exact kRi (τ := Int32) (cv := (1 : Int32)) (fr := fun u => u) (fw := fun u => []) hQ hx hb hr hlocks hK hP hD hS hF rfl dX8_says_128
          · have hF := t_pos h hF
            refine lv_iload_n hx hb dX8_says_112 rfl (lv_at hl 1 rfl) ?_
            exact kRi (τ := Int32) (cv := v1) (fr := fun u => u) (fw := fun u => []) hQ hx hb hr hlocks hK hP hD hS hF rfl dX8_says_113
set_option maxHeartbeats 4000000 in
set_option maxRecDepth 100000 in
theorem c_X8_after (l : Launch) (D : va_G) (cyI cyJ cyZ cyO : ClassId) (v0 : Int32) (v1 : Int32) (v2 : Int32) (v3 : Int32) (sz : Nat) (o : Int32) (hF : F_X8_after v0 v1 v2 v3 = some o) : mI l yX8_after cX8_after 5 (some .int) ({ frames := 1, cells := 0, slots := 0, locals := 21 } : Room) D (wT cyI cyJ cyZ cyO) [.int v0, .int v1, .int v2, .int v3] sz [] o [] := by
  refine kM_i (by decide +kernel) (Nat.le_of_ble_eq_true rfl) ?_
  intro p e s m args below meth c A ls Q hx hb hr hlocks hml hown hG hK hA hP hD hS hl hQ
  have hown : s.vm.findClass RX8 = some m.cls := hown
  have hl : lv_has ls 5 [(0, .int v0), (1, .int v1), (2, .int v2), (3, .int v3)] := hl
  obtain ⟨H, hH⟩ : ∃ H : Heap, H = s.heap := ⟨_, rfl⟩
  obtain ⟨locs, hlo⟩ : ∃ L : List Loc, L = [] := ⟨_, rfl⟩
  have hP : va_P D vwCl [] H := by rw [hH]; exact hP
  have hS : va_S A s.heap H locs := by rw [hH, hlo]; exact hS
  show W p l e ({ frames := 1, cells := 0, slots := 0, locals := 21 } : Room) s m args below meth c s.heap [] 0 0 Q (F0 m 0 ls [])
  suffices hgo : W p l e ({ frames := 1, cells := 0, slots := 0, locals := 21 } : Room) s m args below meth c H locs 0 0 Q (F0 m 0 ls []) by rw [hH, hlo] at hgo; exact hgo
  refine lv_iload_n hx hb dX8_after_0 rfl (lv_at hl 2 rfl) ?_
  refine lv_iconst (v := (2 : Int32)) hx hb dX8_after_1 (by decide) ?_
  refine lv_icmp_ne (tgt := 7) hx hb dX8_after_2 (by decide) (fun h => ?_) (fun h => ?_)
  · have hF := t_neg h hF
    refine lv_iload_n hx hb dX8_after_7 rfl (lv_at hl 1 rfl) ?_
    obtain ⟨r8, hc, hF⟩ := bnd1_some hF
    refine kSi (As := [.int v1]) (rest := []) (ws' := []) ⟨hx, hb, hml, hown, hG⟩ hK hP hD hS hA (c_X8_queued l D cyI cyJ cyZ cyO v1 H.size _ hc) (cs_X8_9 hG rfl rfl ⟨Nat.le_of_ble_eq_true rfl, Nat.le_of_ble_eq_true rfl⟩) [] [] 0 rfl (by decide) rfl [] [] rfl rfl rfl (by decide) rfl rfl rfl hl.1 rfl (Nat.le_of_ble_eq_true rfl) dX8_after_8 ⟨Nat.zero_le _, Nat.zero_le _⟩ (fun H locs hP hD hS => ?_)
    refine lv_istore (lv' := [(4, .int r8), (0, .int v0), (1, .int v1), (2, .int v2), (3, .int v3)]) hx hb dX8_after_11 hl (by decide) rfl (fun ls hl => ?_)
    refine lv_iload_n hx hb dX8_after_13 rfl (lv_at hl 1 rfl) ?_
    by_cases hs0 : v0 = (0 : Int32)
    · have hF := t_pos hs0 hF
      refine lv_tableIn (tgt := 44) (off := 30) hx hb dX8_after_14 (by rw [hs0]; decide) (by rw [hs0]; decide) (by rw [hs0]; rfl) (by decide) ?_
      refine lv_iload_n hx hb dX8_after_44 rfl (lv_at hl 4 rfl) ?_
      exact kRi (τ := Int32) (cv := v3) (fr := fun u => u) (fw := fun u => []) hQ hx hb hr hlocks hK hP hD hS hF rfl dX8_after_45
    · have hF := t_neg hs0 hF
      by_cases hs1 : v0 = (1 : Int32)
      · have hF := t_pos hs1 hF
        refine lv_tableIn (tgt := 46) (off := 32) hx hb dX8_after_14 (by rw [hs1]; decide) (by rw [hs1]; decide) (by rw [hs1]; rfl) (by decide) ?_
        refine lv_iload_n hx hb dX8_after_46 rfl (lv_at hl 3 rfl) ?_
        refine lv_if_ne (tgt := 74) hx hb dX8_after_47 (by decide) (fun h => ?_) (fun h => ?_)
        · have hF := t_neg h hF
          refine lv_iload hx hb dX8_after_74 (lv_at hl 0 rfl) ?_
          refine lv_if_le (tgt := 93) hx hb dX8_after_76 (by decide) (fun h => ?_) (fun h => ?_)
          · have hF := t_pos h hF
            refine lv_iload_n hx hb dX8_after_93 rfl (lv_at hl 2 rfl) ?_
            exact kRi (τ := Int32) (cv := v1) (fr := fun u => u) (fw := fun u => []) hQ hx hb hr hlocks hK hP hD hS hF rfl dX8_after_94
          · have hF := t_neg h hF
            refine lv_iload_n hx hb dX8_after_79 rfl (lv_at hl 2 rfl) ?_
            refine lv_bipush (v := (7 : Int32)) hx hb dX8_after_80 (by decide) ?_
            refine lv_ishr hx hb dX8_after_82 ?_
            refine lv_iconst (v := (3 : Int32)) hx hb dX8_after_83 (by decide) ?_
            refine lv_ishl hx hb dX8_after_84 ?_
            refine lv_iload hx hb dX8_after_85 (lv_at hl 0 rfl) ?_
            refine lv_iconst (v := (1 : Int32)) hx hb dX8_after_87 (by decide) ?_
            refine lv_isub hx hb dX8_after_88 ?_
            refine lv_ior hx hb dX8_after_89 ?_
            refine lv_goto (tgt := 94) hx hb dX8_after_90 (by decide) ?_
            exact kRi (τ := Int32) (cv := (((v1 >>> ((7 : Int32) &&& 31)) <<< ((3 : Int32) &&& 31)) ||| (r8 - (1 : Int32)))) (fr := fun u => u) (fw := fun u => []) hQ hx hb hr hlocks hK hP hD hS hF rfl dX8_after_94
        · have hF := t_pos h hF
          refine lv_iload hx hb dX8_after_50 (lv_at hl 0 rfl) ?_
          refine lv_bipush (v := (6 : Int32)) hx hb dX8_after_52 (by decide) ?_
          refine lv_icmp_ge (tgt := 72) hx hb dX8_after_54 (by decide) (fun h => ?_) (fun h => ?_)
          · have hF := t_pos h hF
            refine lv_iload_n hx hb dX8_after_72 rfl (lv_at hl 2 rfl) ?_
            exact kRi (τ := Int32) (cv := v1) (fr := fun u => u) (fw := fun u => []) hQ hx hb hr hlocks hK hP hD hS hF rfl dX8_after_73
          · have hF := t_neg h hF
            refine lv_iload_n hx hb dX8_after_57 rfl (lv_at hl 2 rfl) ?_
            refine lv_iconst (v := (1 : Int32)) hx hb dX8_after_58 (by decide) ?_
            refine lv_iadd hx hb dX8_after_59 ?_
            refine lv_iload_n hx hb dX8_after_60 rfl (lv_at hl 4 rfl) ?_
            refine lv_iconst (v := (3 : Int32)) hx hb dX8_after_61 (by decide) ?_
            refine lv_iconst (v := (4 : Int32)) hx hb dX8_after_62 (by decide) ?_
            refine lv_iload hx hb dX8_after_63 (lv_at hl 0 rfl) ?_
            refine lv_imul hx hb dX8_after_65 ?_
            refine lv_iadd hx hb dX8_after_66 ?_
            refine lv_ishl hx hb dX8_after_67 ?_
            refine lv_iadd hx hb dX8_after_68 ?_
            refine lv_goto (tgt := 73) hx hb dX8_after_69 (by decide) ?_
            exact kRi (τ := Int32) (cv := ((v1 + (1 : Int32)) + (v3 <<< (((3 : Int32) + ((4 : Int32) * r8)) &&& 31)))) (fr := fun u => u) (fw := fun u => []) hQ hx hb hr hlocks hK hP hD hS hF rfl dX8_after_73
      · have hF := t_neg hs1 hF
        by_cases hs2 : v0 = (2 : Int32)
        · have hF := t_pos hs2 hF
          refine lv_tableIn (tgt := 95) (off := 81) hx hb dX8_after_14 (by rw [hs2]; decide) (by rw [hs2]; decide) (by rw [hs2]; rfl) (by decide) ?_
          refine lv_iload_n hx hb dX8_after_95 rfl (lv_at hl 3 rfl) ?_
          refine lv_if_ne (tgt := 107) hx hb dX8_after_96 (by decide) (fun h => ?_) (fun h => ?_)
          · have hF := t_neg h hF
            refine lv_iload_n hx hb dX8_after_107 rfl (lv_at hl 2 rfl) ?_
            refine lv_iconst (v := (1 : Int32)) hx hb dX8_after_108 (by decide) ?_
            refine lv_iload_n hx hb dX8_after_109 rfl (lv_at hl 4 rfl) ?_
            refine lv_ishl hx hb dX8_after_110 ?_
            refine lv_iconst (v := (-1 : Int32)) hx hb dX8_after_111 (by decide) ?_
            refine lv_ixor hx hb dX8_after_112 ?_
            refine lv_iand hx hb dX8_after_113 ?_
            exact kRi (τ := Int32) (cv := (v1 &&& (((1 : Int32) <<< (v3 &&& 31)) ^^^ (-1 : Int32)))) (fr := fun u => u) (fw := fun u => []) hQ hx hb hr hlocks hK hP hD hS hF rfl dX8_after_114
          · have hF := t_pos h hF
            refine lv_iload_n hx hb dX8_after_99 rfl (lv_at hl 2 rfl) ?_
            refine lv_iconst (v := (1 : Int32)) hx hb dX8_after_100 (by decide) ?_
            refine lv_iload_n hx hb dX8_after_101 rfl (lv_at hl 4 rfl) ?_
            refine lv_ishl hx hb dX8_after_102 ?_
            refine lv_ior hx hb dX8_after_103 ?_
            refine lv_goto (tgt := 114) hx hb dX8_after_104 (by decide) ?_
            exact kRi (τ := Int32) (cv := (v1 ||| ((1 : Int32) <<< (v3 &&& 31)))) (fr := fun u => u) (fw := fun u => []) hQ hx hb hr hlocks hK hP hD hS hF rfl dX8_after_114
        · have hF := t_neg hs2 hF
          by_cases hs3 : v0 = (3 : Int32)
          · have hF := t_pos hs3 hF
            refine lv_tableIn (tgt := 115) (off := 101) hx hb dX8_after_14 (by rw [hs3]; decide) (by rw [hs3]; decide) (by rw [hs3]; rfl) (by decide) ?_
            refine lv_iload_n hx hb dX8_after_115 rfl (lv_at hl 2 rfl) ?_
            refine lv_iload_n hx hb dX8_after_116 rfl (lv_at hl 3 rfl) ?_
            obtain ⟨r117, hc, hF⟩ := bnd1_some hF
            refine kSi (As := [.int v1, .int v2]) (rest := []) (ws' := []) ⟨hx, hb, hml, hown, hG⟩ hK hP hD hS hA (c_X8_counted l D cyI cyJ cyZ cyO v1 v2 H.size _ hc) (cs_X8_13 hG rfl rfl ⟨Nat.le_of_ble_eq_true rfl, Nat.le_of_ble_eq_true rfl⟩) [] [] 0 rfl (by decide) rfl [] [] rfl rfl rfl (by decide) rfl rfl rfl hl.1 rfl (Nat.le_of_ble_eq_true rfl) dX8_after_117 ⟨Nat.zero_le _, Nat.zero_le _⟩ (fun H locs hP hD hS => ?_)
            exact kRi (τ := Int32) (cv := r117) (fr := fun u => u) (fw := fun u => []) hQ hx hb hr hlocks hK hP hD hS hF rfl dX8_after_120
          · have hF := t_neg hs3 hF
            refine lv_tableOut (tgt := 121) hx hb dX8_after_14 (sw_out (lo := 0) (hi := 3) (by decide) (by decide) (fun k h1 h2 => by rcases (show k = 0 ∨ k = 1 ∨ k = 2 ∨ k = 3 by omega) with rfl | rfl | rfl | rfl <;> assumption)) (by decide) ?_
            refine lv_iload_n hx hb dX8_after_121 rfl (lv_at hl 2 rfl) ?_
            refine lv_iload_n hx hb dX8_after_122 rfl (lv_at hl 3 rfl) ?_
            obtain ⟨r123, hc, hF⟩ := bnd1_some hF
            refine kSi (As := [.int v1, .int v2]) (rest := []) (ws' := []) ⟨hx, hb, hml, hown, hG⟩ hK hP hD hS hA (c_X8_purse l D cyI cyJ cyZ cyO v1 v2 H.size _ hc) (cs_X8_17 hG rfl rfl ⟨Nat.le_of_ble_eq_true rfl, Nat.le_of_ble_eq_true rfl⟩) [] [] 0 rfl (by decide) rfl [] [] rfl rfl rfl (by decide) rfl rfl rfl hl.1 rfl (Nat.le_of_ble_eq_true rfl) dX8_after_123 ⟨Nat.zero_le _, Nat.zero_le _⟩ (fun H locs hP hD hS => ?_)
            refine lv_iload_n hx hb dX8_after_126 rfl (lv_at hl 4 rfl) ?_
            refine lv_icmp_ge (tgt := 132) hx hb dX8_after_127 (by decide) (fun h => ?_) (fun h => ?_)
            · have hF := t_pos h hF
              refine lv_iload_n hx hb dX8_after_132 rfl (lv_at hl 3 rfl) ?_
              refine lv_if_ne (tgt := 142) hx hb dX8_after_133 (by decide) (fun h => ?_) (fun h => ?_)
              · have hF := t_neg h hF
                refine lv_iload_n hx hb dX8_after_142 rfl (lv_at hl 2 rfl) ?_
                refine lv_iload_n hx hb dX8_after_143 rfl (lv_at hl 4 rfl) ?_
                refine lv_iadd hx hb dX8_after_144 ?_
                exact kRi (τ := Int32) (cv := (v1 + v3)) (fr := fun u => u) (fw := fun u => []) hQ hx hb hr hlocks hK hP hD hS hF rfl dX8_after_145
              · have hF := t_pos h hF
                refine lv_iload_n hx hb dX8_after_136 rfl (lv_at hl 2 rfl) ?_
                refine lv_iload_n hx hb dX8_after_137 rfl (lv_at hl 4 rfl) ?_
                refine lv_isub hx hb dX8_after_138 ?_
                refine lv_goto (tgt := 145) hx hb dX8_after_139 (by decide) ?_
                exact kRi (τ := Int32) (cv := (v1 - v3)) (fr := fun u => u) (fw := fun u => []) hQ hx hb hr hlocks hK hP hD hS hF rfl dX8_after_145
            · have hF := t_neg h hF
              refine lv_iload_n hx hb dX8_after_130 rfl (lv_at hl 2 rfl) ?_
              exact kRi (τ := Int32) (cv := v1) (fr := fun u => u) (fw := fun u => []) hQ hx hb hr hlocks hK hP hD hS hF rfl dX8_after_131
  · have hF := t_pos h hF
    refine lv_iload_n hx hb dX8_after_5 rfl (lv_at hl 1 rfl) ?_
    exact kRi (τ := Int32) (cv := v1) (fr := fun u => u) (fw := fun u => []) hQ hx hb hr hlocks hK hP hD hS hF rfl dX8_after_6
set_option maxHeartbeats 4000000 in
set_option maxRecDepth 100000 in
theorem c_X8_actAt (l : Launch) (D : va_G) (cyI cyJ cyZ cyO : ClassId) (v0 : Int32) (v1 : Int32) (sz : Nat) (o : Int32) (hF : F_X8_actAt v0 v1 = some o) : mI l yX8_actAt cX8_actAt 2 (some .int) ({ frames := 0, cells := 0, slots := 0, locals := 0 } : Room) D (wT cyI cyJ cyZ cyO) [.int v0, .int v1] sz [] o [] := by
  refine kM_i (by decide +kernel) (Nat.le_of_ble_eq_true rfl) ?_
  intro p e s m args below meth c A ls Q hx hb hr hlocks hml hown hG hK hA hP hD hS hl hQ
  have hown : s.vm.findClass RX8 = some m.cls := hown
  have hl : lv_has ls 2 [(0, .int v0), (1, .int v1)] := hl
  obtain ⟨H, hH⟩ : ∃ H : Heap, H = s.heap := ⟨_, rfl⟩
  obtain ⟨locs, hlo⟩ : ∃ L : List Loc, L = [] := ⟨_, rfl⟩
  have hP : va_P D vwCl [] H := by rw [hH]; exact hP
  have hS : va_S A s.heap H locs := by rw [hH, hlo]; exact hS
  show W p l e ({ frames := 0, cells := 0, slots := 0, locals := 0 } : Room) s m args below meth c s.heap [] 0 0 Q (F0 m 0 ls [])
  suffices hgo : W p l e ({ frames := 0, cells := 0, slots := 0, locals := 0 } : Room) s m args below meth c H locs 0 0 Q (F0 m 0 ls []) by rw [hH, hlo] at hgo; exact hgo
  refine lv_iload_n hx hb dX8_actAt_0 rfl (lv_at hl 1 rfl) ?_
  refine lv_if_ne (tgt := 6) hx hb dX8_actAt_1 (by decide) (fun h => ?_) (fun h => ?_)
  · have hF := t_neg h hF
    refine lv_iload_n hx hb dX8_actAt_6 rfl (lv_at hl 1 rfl) ?_
    refine lv_iconst (v := (1 : Int32)) hx hb dX8_actAt_7 (by decide) ?_
    refine lv_icmp_ne (tgt := 19) hx hb dX8_actAt_8 (by decide) (fun h => ?_) (fun h => ?_)
    · have hF := t_neg h hF
      refine lv_iconst (v := (2 : Int32)) hx hb dX8_actAt_19 (by decide) ?_
      exact kRi (τ := Int32) (cv := (2 : Int32)) (fr := fun u => u) (fw := fun u => []) hQ hx hb hr hlocks hK hP hD hS hF rfl dX8_actAt_20
    · have hF := t_pos h hF
      refine lv_iload_n hx hb dX8_actAt_11 rfl (lv_at hl 0 rfl) ?_
      refine lv_if_eq (tgt := 19) hx hb dX8_actAt_12 (by decide) (fun h => ?_) (fun h => ?_)
      · have hF := t_pos h hF
        refine lv_iconst (v := (2 : Int32)) hx hb dX8_actAt_19 (by decide) ?_
        exact kRi (τ := Int32) (cv := (2 : Int32)) (fr := fun u => u) (fw := fun u => []) hQ hx hb hr hlocks hK hP hD hS hF rfl dX8_actAt_20
      · have hF := t_neg h hF
        refine lv_iconst (v := (1 : Int32)) hx hb dX8_actAt_15 (by decide) ?_
        refine lv_goto (tgt := 20) hx hb dX8_actAt_16 (by decide) ?_
        exact kRi (τ := Int32) (cv := (1 : Int32)) (fr := fun u => u) (fw := fun u => []) hQ hx hb hr hlocks hK hP hD hS hF rfl dX8_actAt_20
  · have hF := t_pos h hF
    refine lv_iconst (v := (0 : Int32)) hx hb dX8_actAt_4 (by decide) ?_
    exact kRi (τ := Int32) (cv := (0 : Int32)) (fr := fun u => u) (fw := fun u => []) hQ hx hb hr hlocks hK hP hD hS hF rfl dX8_actAt_5
set_option maxHeartbeats 4000000 in
set_option maxRecDepth 100000 in
theorem c_X8_actCount (l : Launch) (D : va_G) (cyI cyJ cyZ cyO : ClassId) (v0 : Int32) (sz : Nat) (o : Int32) (hF : F_X8_actCount v0 = some o) : mI l yX8_actCount cX8_actCount 1 (some .int) ({ frames := 0, cells := 0, slots := 0, locals := 0 } : Room) D (wT cyI cyJ cyZ cyO) [.int v0] sz [] o [] := by
  refine kM_i (by decide +kernel) (Nat.le_of_ble_eq_true rfl) ?_
  intro p e s m args below meth c A ls Q hx hb hr hlocks hml hown hG hK hA hP hD hS hl hQ
  have hown : s.vm.findClass RX8 = some m.cls := hown
  have hl : lv_has ls 1 [(0, .int v0)] := hl
  have B9 : ∀  (H : Heap) (locs : List Loc) (ls : Array Slot), F_X8_actCount_b9 = some o → va_P D vwCl [] H → va_D A [] → va_S A s.heap H locs → lv_has ls 1 [] → W p l e ({ frames := 0, cells := 0, slots := 0, locals := 0 } : Room) s m args below meth c H locs 0 0 Q (F0 m 9 ls []) := by
    intro  H locs ls hF hP hD hS hl
    refine lv_iconst (v := (2 : Int32)) hx hb dX8_actCount_9 (by decide) ?_
    refine lv_goto (tgt := 14) hx hb dX8_actCount_10 (by decide) ?_
    exact kRi (τ := Int32) (cv := (2 : Int32)) (fr := fun u => u) (fw := fun u => []) hQ hx hb hr hlocks hK hP hD hS hF rfl dX8_actCount_14
  obtain ⟨H, hH⟩ : ∃ H : Heap, H = s.heap := ⟨_, rfl⟩
  obtain ⟨locs, hlo⟩ : ∃ L : List Loc, L = [] := ⟨_, rfl⟩
  have hP : va_P D vwCl [] H := by rw [hH]; exact hP
  have hS : va_S A s.heap H locs := by rw [hH, hlo]; exact hS
  show W p l e ({ frames := 0, cells := 0, slots := 0, locals := 0 } : Room) s m args below meth c s.heap [] 0 0 Q (F0 m 0 ls [])
  suffices hgo : W p l e ({ frames := 0, cells := 0, slots := 0, locals := 0 } : Room) s m args below meth c H locs 0 0 Q (F0 m 0 ls []) by rw [hH, hlo] at hgo; exact hgo
  refine lv_iload_n hx hb dX8_actCount_0 rfl (lv_at hl 0 rfl) ?_
  refine lv_if_eq (tgt := 9) hx hb dX8_actCount_1 (by decide) (fun h => ?_) (fun h => ?_)
  · have hF := t_pos h hF
    exact B9  H locs ls hF hP hD hS (lv_sub hl [] rfl)
  · have hF := t_neg h hF
    refine lv_iload_n hx hb dX8_actCount_4 rfl (lv_at hl 0 rfl) ?_
    refine lv_iconst (v := (1 : Int32)) hx hb dX8_actCount_5 (by decide) ?_
    refine lv_icmp_ne (tgt := 13) hx hb dX8_actCount_6 (by decide) (fun h => ?_) (fun h => ?_)
    · have hF := t_neg h hF
      refine lv_iconst (v := (3 : Int32)) hx hb dX8_actCount_13 (by decide) ?_
      exact kRi (τ := Int32) (cv := (3 : Int32)) (fr := fun u => u) (fw := fun u => []) hQ hx hb hr hlocks hK hP hD hS hF rfl dX8_actCount_14
    · have hF := t_pos h hF
      exact B9  H locs ls hF hP hD hS (lv_sub hl [] rfl)
set_option maxHeartbeats 4000000 in
set_option maxRecDepth 100000 in
theorem c_X8_hasWhole (l : Launch) (D : va_G) (cyI cyJ cyZ cyO : ClassId) (v0 : Int32) (v1 : Int32) (sz : Nat) (o : Int32) (hF : F_X8_hasWhole v0 v1 = some o) : mI l yX8_hasWhole cX8_hasWhole 2 (some .boolean) ({ frames := 0, cells := 0, slots := 0, locals := 0 } : Room) D (wT cyI cyJ cyZ cyO) [.int v0, .int v1] sz [] o [] := by
  refine kM_i (by decide +kernel) (Nat.le_of_ble_eq_true rfl) ?_
  intro p e s m args below meth c A ls Q hx hb hr hlocks hml hown hG hK hA hP hD hS hl hQ
  have hown : s.vm.findClass RX8 = some m.cls := hown
  have hl : lv_has ls 2 [(0, .int v0), (1, .int v1)] := hl
  have B36 : ∀ (v1 : Int32) (H : Heap) (locs : List Loc) (ls : Array Slot), F_X8_hasWhole_b36 v1 = some o → va_P D vwCl [] H → va_D A [] → va_S A s.heap H locs → lv_has ls 2 [(1, .int v1)] → W p l e ({ frames := 0, cells := 0, slots := 0, locals := 0 } : Room) s m args below meth c H locs 0 0 Q (F0 m 36 ls []) := by
    intro v1 H locs ls hF hP hD hS hl
    refine lv_iload_n hx hb dX8_hasWhole_36 rfl (lv_at hl 0 rfl) ?_
    refine lv_if_ne (tgt := 44) hx hb dX8_hasWhole_37 (by decide) (fun h => ?_) (fun h => ?_)
    · have hF := t_neg h hF
      refine lv_iconst (v := (0 : Int32)) hx hb dX8_hasWhole_44 (by decide) ?_
      exact kRz (τ := Int32) (cv := (0 : Int32)) (fr := fun u => u) (fw := fun u => []) hQ hx hb hr hlocks hK hP hD hS hF rfl rfl dX8_hasWhole_45
    · have hF := t_pos h hF
      refine lv_iconst (v := (1 : Int32)) hx hb dX8_hasWhole_40 (by decide) ?_
      refine lv_goto (tgt := 45) hx hb dX8_hasWhole_41 (by decide) ?_
      exact kRz (τ := Int32) (cv := (1 : Int32)) (fr := fun u => u) (fw := fun u => []) hQ hx hb hr hlocks hK hP hD hS hF rfl rfl dX8_hasWhole_45
  obtain ⟨H, hH⟩ : ∃ H : Heap, H = s.heap := ⟨_, rfl⟩
  obtain ⟨locs, hlo⟩ : ∃ L : List Loc, L = [] := ⟨_, rfl⟩
  have hP : va_P D vwCl [] H := by rw [hH]; exact hP
  have hS : va_S A s.heap H locs := by rw [hH, hlo]; exact hS
  show W p l e ({ frames := 0, cells := 0, slots := 0, locals := 0 } : Room) s m args below meth c s.heap [] 0 0 Q (F0 m 0 ls [])
  suffices hgo : W p l e ({ frames := 0, cells := 0, slots := 0, locals := 0 } : Room) s m args below meth c H locs 0 0 Q (F0 m 0 ls []) by rw [hH, hlo] at hgo; exact hgo
  refine lv_iload_n hx hb dX8_hasWhole_0 rfl (lv_at hl 0 rfl) ?_
  by_cases hs0 : v0 = (0 : Int32)
  · have hF := t_pos hs0 hF
    refine lv_tableIn (tgt := 36) (off := 35) hx hb dX8_hasWhole_1 (by rw [hs0]; decide) (by rw [hs0]; decide) (by rw [hs0]; rfl) (by decide) ?_
    exact B36 v1 H locs ls hF hP hD hS (lv_sub hl [1] rfl)
  · have hF := t_neg hs0 hF
    by_cases hs1 : v0 = (1 : Int32)
    · have hF := t_pos hs1 hF
      refine lv_tableIn (tgt := 36) (off := 35) hx hb dX8_hasWhole_1 (by rw [hs1]; decide) (by rw [hs1]; decide) (by rw [hs1]; rfl) (by decide) ?_
      exact B36 v1 H locs ls hF hP hD hS (lv_sub hl [1] rfl)
    · have hF := t_neg hs1 hF
      by_cases hs2 : v0 = (2 : Int32)
      · have hF := t_pos hs2 hF
        refine lv_tableIn (tgt := 46) (off := 45) hx hb dX8_hasWhole_1 (by rw [hs2]; decide) (by rw [hs2]; decide) (by rw [hs2]; rfl) (by decide) ?_
        refine lv_iconst (v := (1 : Int32)) hx hb dX8_hasWhole_46 (by decide) ?_
        exact kRz (τ := Int32) (cv := (1 : Int32)) (fr := fun u => u) (fw := fun u => []) hQ hx hb hr hlocks hK hP hD hS hF rfl rfl dX8_hasWhole_47
      · have hF := t_neg hs2 hF
        by_cases hs3 : v0 = (3 : Int32)
        · have hF := t_pos hs3 hF
          refine lv_tableIn (tgt := 59) (off := 58) hx hb dX8_hasWhole_1 (by rw [hs3]; decide) (by rw [hs3]; decide) (by rw [hs3]; rfl) (by decide) ?_
          refine lv_iconst (v := (0 : Int32)) hx hb dX8_hasWhole_59 (by decide) ?_
          exact kRz (τ := Int32) (cv := (0 : Int32)) (fr := fun u => u) (fw := fun u => []) hQ hx hb hr hlocks hK hP hD hS hF rfl rfl dX8_hasWhole_60
        · have hF := t_neg hs3 hF
          by_cases hs4 : v0 = (4 : Int32)
          · have hF := t_pos hs4 hF
            refine lv_tableIn (tgt := 48) (off := 47) hx hb dX8_hasWhole_1 (by rw [hs4]; decide) (by rw [hs4]; decide) (by rw [hs4]; rfl) (by decide) ?_
            refine lv_iload_n hx hb dX8_hasWhole_48 rfl (lv_at hl 1 rfl) ?_
            refine lv_iconst (v := (2 : Int32)) hx hb dX8_hasWhole_49 (by decide) ?_
            refine lv_icmp_eq (tgt := 57) hx hb dX8_hasWhole_50 (by decide) (fun h => ?_) (fun h => ?_)
            · have hF := t_pos h hF
              refine lv_iconst (v := (0 : Int32)) hx hb dX8_hasWhole_57 (by decide) ?_
              exact kRz (τ := Int32) (cv := (0 : Int32)) (fr := fun u => u) (fw := fun u => []) hQ hx hb hr hlocks hK hP hD hS hF rfl rfl dX8_hasWhole_58
            · have hF := t_neg h hF
              refine lv_iconst (v := (1 : Int32)) hx hb dX8_hasWhole_53 (by decide) ?_
              refine lv_goto (tgt := 58) hx hb dX8_hasWhole_54 (by decide) ?_
              exact kRz (τ := Int32) (cv := (1 : Int32)) (fr := fun u => u) (fw := fun u => []) hQ hx hb hr hlocks hK hP hD hS hF rfl rfl dX8_hasWhole_58
          · have hF := t_neg hs4 hF
            refine lv_tableOut (tgt := 59) hx hb dX8_hasWhole_1 (sw_out (lo := 0) (hi := 4) (by decide) (by decide) (fun k h1 h2 => by rcases (show k = 0 ∨ k = 1 ∨ k = 2 ∨ k = 3 ∨ k = 4 by omega) with rfl | rfl | rfl | rfl | rfl <;> assumption)) (by decide) ?_
            refine lv_iconst (v := (0 : Int32)) hx hb dX8_hasWhole_59 (by decide) ?_
            exact kRz (τ := Int32) (cv := (0 : Int32)) (fr := fun u => u) (fw := fun u => []) hQ hx hb hr hlocks hK hP hD hS hF rfl rfl dX8_hasWhole_60
set_option maxHeartbeats 4000000 in
set_option maxRecDepth 100000 in
theorem c_X8_does (l : Launch) (D : va_G) (cyI cyJ cyZ cyO : ClassId) (v0 : Int32) (v1 : Int32) (sz : Nat) (o : Int32) (hF : F_X8_does v0 v1 = some o) : mI l yX8_does cX8_does 2 (some .boolean) ({ frames := 0, cells := 0, slots := 0, locals := 0 } : Room) D (wT cyI cyJ cyZ cyO) [.int v0, .int v1] sz [] o [] := by
  refine kM_i (by decide +kernel) (Nat.le_of_ble_eq_true rfl) ?_
  intro p e s m args below meth c A ls Q hx hb hr hlocks hml hown hG hK hA hP hD hS hl hQ
  have hown : s.vm.findClass RX8 = some m.cls := hown
  have hl : lv_has ls 2 [(0, .int v0), (1, .int v1)] := hl
  have B29 : ∀  (H : Heap) (locs : List Loc) (ls : Array Slot), F_X8_does_b29 = some o → va_P D vwCl [] H → va_D A [] → va_S A s.heap H locs → lv_has ls 2 [] → W p l e ({ frames := 0, cells := 0, slots := 0, locals := 0 } : Room) s m args below meth c H locs 0 0 Q (F0 m 29 ls []) := by
    intro  H locs ls hF hP hD hS hl
    refine lv_iconst (v := (1 : Int32)) hx hb dX8_does_29 (by decide) ?_
    refine lv_goto (tgt := 34) hx hb dX8_does_30 (by decide) ?_
    exact kRz (τ := Int32) (cv := (1 : Int32)) (fr := fun u => u) (fw := fun u => []) hQ hx hb hr hlocks hK hP hD hS hF rfl rfl dX8_does_34
  obtain ⟨H, hH⟩ : ∃ H : Heap, H = s.heap := ⟨_, rfl⟩
  obtain ⟨locs, hlo⟩ : ∃ L : List Loc, L = [] := ⟨_, rfl⟩
  have hP : va_P D vwCl [] H := by rw [hH]; exact hP
  have hS : va_S A s.heap H locs := by rw [hH, hlo]; exact hS
  show W p l e ({ frames := 0, cells := 0, slots := 0, locals := 0 } : Room) s m args below meth c s.heap [] 0 0 Q (F0 m 0 ls [])
  suffices hgo : W p l e ({ frames := 0, cells := 0, slots := 0, locals := 0 } : Room) s m args below meth c H locs 0 0 Q (F0 m 0 ls []) by rw [hH, hlo] at hgo; exact hgo
  refine lv_iload_n hx hb dX8_does_0 rfl (lv_at hl 1 rfl) ?_
  refine lv_iconst (v := (1 : Int32)) hx hb dX8_does_1 (by decide) ?_
  refine lv_icmp_ne (tgt := 15) hx hb dX8_does_2 (by decide) (fun h => ?_) (fun h => ?_)
  · have hF := t_neg h hF
    refine lv_iload_n hx hb dX8_does_15 rfl (lv_at hl 1 rfl) ?_
    refine lv_if_eq (tgt := 29) hx hb dX8_does_16 (by decide) (fun h => ?_) (fun h => ?_)
    · have hF := t_pos h hF
      exact B29  H locs ls hF hP hD hS (lv_sub hl [] rfl)
    · have hF := t_neg h hF
      refine lv_iload_n hx hb dX8_does_19 rfl (lv_at hl 1 rfl) ?_
      refine lv_iconst (v := (2 : Int32)) hx hb dX8_does_20 (by decide) ?_
      refine lv_icmp_ne (tgt := 33) hx hb dX8_does_21 (by decide) (fun h => ?_) (fun h => ?_)
      · have hF := t_neg h hF
        refine lv_iconst (v := (0 : Int32)) hx hb dX8_does_33 (by decide) ?_
        exact kRz (τ := Int32) (cv := (0 : Int32)) (fr := fun u => u) (fw := fun u => []) hQ hx hb hr hlocks hK hP hD hS hF rfl rfl dX8_does_34
      · have hF := t_pos h hF
        refine lv_iload_n hx hb dX8_does_24 rfl (lv_at hl 0 rfl) ?_
        refine lv_iconst (v := (1 : Int32)) hx hb dX8_does_25 (by decide) ?_
        refine lv_icmp_eq (tgt := 33) hx hb dX8_does_26 (by decide) (fun h => ?_) (fun h => ?_)
        · have hF := t_pos h hF
          refine lv_iconst (v := (0 : Int32)) hx hb dX8_does_33 (by decide) ?_
          exact kRz (τ := Int32) (cv := (0 : Int32)) (fr := fun u => u) (fw := fun u => []) hQ hx hb hr hlocks hK hP hD hS hF rfl rfl dX8_does_34
        · have hF := t_neg h hF
          exact B29  H locs ls hF hP hD hS (lv_sub hl [] rfl)
  · have hF := t_pos h hF
    refine lv_iload_n hx hb dX8_does_5 rfl (lv_at hl 0 rfl) ?_
    refine lv_if_eq (tgt := 13) hx hb dX8_does_6 (by decide) (fun h => ?_) (fun h => ?_)
    · have hF := t_pos h hF
      refine lv_iconst (v := (0 : Int32)) hx hb dX8_does_13 (by decide) ?_
      exact kRz (τ := Int32) (cv := (0 : Int32)) (fr := fun u => u) (fw := fun u => []) hQ hx hb hr hlocks hK hP hD hS hF rfl rfl dX8_does_14
    · have hF := t_neg h hF
      refine lv_iconst (v := (1 : Int32)) hx hb dX8_does_9 (by decide) ?_
      refine lv_goto (tgt := 14) hx hb dX8_does_10 (by decide) ?_
      exact kRz (τ := Int32) (cv := (1 : Int32)) (fr := fun u => u) (fw := fun u => []) hQ hx hb hr hlocks hK hP hD hS hF rfl rfl dX8_does_14
