set_option maxHeartbeats 4000000 in
set_option maxRecDepth 100000 in
theorem c_X5_kindOf (l : Launch) (D : va_G) (cyI cyJ cyZ cyO : ClassId) (a0 : Nat) (a0_kinds : Nat) (a0_told : Int32) (a0_tills : Int32) (a0_cashiers : Int32) (a0_late : Int32) (f_a0_kinds : Nat → Int32) (v1 : Int32) (sz : Nat) (o : Int32) (hF : F_X5_kindOf f_a0_kinds v1 = some o) : mI l yX5_kindOf cX5_kindOf 2 (some .int) ({ frames := 0, cells := 0, slots := 0, locals := 0 } : Room) D (wT cyI cyJ cyZ cyO) [.ref a0, .int v1] sz [(a0, .inr (5, [.ref a0_kinds, .int a0_told, .int a0_tills, .int a0_cashiers, .int a0_late])), (a0_kinds, .inl (cyI, 3, .inl f_a0_kinds))] o [(a0, .inr (5, [.ref a0_kinds, .int a0_told, .int a0_tills, .int a0_cashiers, .int a0_late])), (a0_kinds, .inl (cyI, 3, .inl f_a0_kinds))] := by
  refine kM_i (by decide +kernel) (Nat.le_of_ble_eq_true rfl) ?_
  intro p e s m args below meth c A ls Q hx hb hr hlocks hml hown hG hK hA hP hD hS hl hQ
  have hown : s.vm.findClass RX5 = some m.cls := hown
  have hl : lv_has ls 2 [(0, .ref a0), (1, .int v1)] := hl
  obtain ⟨H, hH⟩ : ∃ H : Heap, H = s.heap := ⟨_, rfl⟩
  obtain ⟨locs, hlo⟩ : ∃ L : List Loc, L = [] := ⟨_, rfl⟩
  have hP : va_P D vwCl [(a0, .inr (5, [.ref a0_kinds, .int a0_told, .int a0_tills, .int a0_cashiers, .int a0_late])), (a0_kinds, .inl (cyI, 3, .inl f_a0_kinds))] H := by rw [hH]; exact hP
  have hS : va_S A s.heap H locs := by rw [hH, hlo]; exact hS
  show W p l e ({ frames := 0, cells := 0, slots := 0, locals := 0 } : Room) s m args below meth c s.heap [] 0 0 Q (F0 m 0 ls [])
  suffices hgo : W p l e ({ frames := 0, cells := 0, slots := 0, locals := 0 } : Room) s m args below meth c H locs 0 0 Q (F0 m 0 ls []) by rw [hH, hlo] at hgo; exact hgo
  refine lv_iload_n hx hb dX5_kindOf_0 rfl (lv_at hl 1 rfl) ?_
  refine lv_if_lt (tgt := 18) hx hb dX5_kindOf_1 (by decide) (fun h => ?_) (fun h => ?_)
  · have hF := t_pos h hF
    refine lv_iconst (v := (0 : Int32)) hx hb dX5_kindOf_18 (by decide) ?_
    exact kRi (τ := Int32) (cv := (0 : Int32)) (fr := fun u => u) (fw := fun u => [(a0, .inr (5, [.ref a0_kinds, .int a0_told, .int a0_tills, .int a0_cashiers, .int a0_late])), (a0_kinds, .inl (cyI, 3, .inl f_a0_kinds))]) hQ hx hb hr hlocks hK hP hD hS hF rfl dX5_kindOf_19
  · have hF := t_neg h hF
    refine lv_iload_n hx hb dX5_kindOf_4 rfl (lv_at hl 1 rfl) ?_
    refine lv_iconst (v := (3 : Int32)) hx hb dX5_kindOf_5 (by decide) ?_
    refine lv_icmp_ge (tgt := 18) hx hb dX5_kindOf_6 (by decide) (fun h => ?_) (fun h => ?_)
    · have hF := t_pos h hF
      refine lv_iconst (v := (0 : Int32)) hx hb dX5_kindOf_18 (by decide) ?_
      exact kRi (τ := Int32) (cv := (0 : Int32)) (fr := fun u => u) (fw := fun u => [(a0, .inr (5, [.ref a0_kinds, .int a0_told, .int a0_tills, .int a0_cashiers, .int a0_late])), (a0_kinds, .inl (cyI, 3, .inl f_a0_kinds))]) hQ hx hb hr hlocks hK hP hD hS hF rfl dX5_kindOf_19
    · have hF := t_neg h hF
      refine lv_aload_n hx hb dX5_kindOf_9 rfl (lv_at hl 0 rfl) ?_
      refine gt_X5_9 hx hb hG hown hK hP 0 rfl rfl dX5_kindOf_10 ?_
      refine lv_iload_n hx hb dX5_kindOf_13 rfl (lv_at hl 1 rfl) ?_
      obtain ⟨hin, hF⟩ := t_grd hF
      refine va_iald hx hb hK hP 1 0 rfl rfl hin dX5_kindOf_14 ?_
      refine lv_goto (tgt := 19) hx hb dX5_kindOf_15 (by decide) ?_
      exact kRi (τ := Int32) (cv := (f_a0_kinds v1.toNatClampNeg)) (fr := fun u => u) (fw := fun u => [(a0, .inr (5, [.ref a0_kinds, .int a0_told, .int a0_tills, .int a0_cashiers, .int a0_late])), (a0_kinds, .inl (cyI, 3, .inl f_a0_kinds))]) hQ hx hb hr hlocks hK hP hD hS hF rfl dX5_kindOf_19
set_option maxHeartbeats 4000000 in
set_option maxRecDepth 100000 in
theorem c_X5_addTill (l : Launch) (D : va_G) (cyI cyJ cyZ cyO : ClassId) (a0 : Nat) (a0_kinds : Nat) (a0_told : Int32) (a0_tills : Int32) (a0_cashiers : Int32) (a0_late : Int32) (f_a0_kinds : Nat → Int32) (v1 : Int32) (sz : Nat) (o : Int32 × (Nat → Int32)) (hF : F_X5_addTill a0_tills f_a0_kinds v1 = some o) : mV l yX5_addTill cX5_addTill 2 none ({ frames := 0, cells := 0, slots := 0, locals := 0 } : Room) D (wT cyI cyJ cyZ cyO) [.ref a0, .int v1] sz [(a0, .inr (5, [.ref a0_kinds, .int a0_told, .int a0_tills, .int a0_cashiers, .int a0_late])), (a0_kinds, .inl (cyI, 3, .inl f_a0_kinds))] [(a0, .inr (5, [.ref a0_kinds, .int a0_told, .int o.1, .int a0_cashiers, .int a0_late])), (a0_kinds, .inl (cyI, 3, .inl (o.2)))] := by
  refine kM_v (by decide +kernel) (Nat.le_of_ble_eq_true rfl) ?_
  intro p e s m args below meth c A ls Q hx hb hr hlocks hml hown hG hK hA hP hD hS hl hQ
  have hown : s.vm.findClass RX5 = some m.cls := hown
  have hl : lv_has ls 2 [(0, .ref a0), (1, .int v1)] := hl
  obtain ⟨H, hH⟩ : ∃ H : Heap, H = s.heap := ⟨_, rfl⟩
  obtain ⟨locs, hlo⟩ : ∃ L : List Loc, L = [] := ⟨_, rfl⟩
  have hP : va_P D vwCl [(a0, .inr (5, [.ref a0_kinds, .int a0_told, .int a0_tills, .int a0_cashiers, .int a0_late])), (a0_kinds, .inl (cyI, 3, .inl f_a0_kinds))] H := by rw [hH]; exact hP
  have hS : va_S A s.heap H locs := by rw [hH, hlo]; exact hS
  show W p l e ({ frames := 0, cells := 0, slots := 0, locals := 0 } : Room) s m args below meth c s.heap [] 0 0 Q (F0 m 0 ls [])
  suffices hgo : W p l e ({ frames := 0, cells := 0, slots := 0, locals := 0 } : Room) s m args below meth c H locs 0 0 Q (F0 m 0 ls []) by rw [hH, hlo] at hgo; exact hgo
  refine lv_aload_n hx hb dX5_addTill_0 rfl (lv_at hl 0 rfl) ?_
  refine gt_X5_19 hx hb hG hown hK hP 0 rfl rfl dX5_addTill_1 ?_
  refine lv_iconst (v := (3 : Int32)) hx hb dX5_addTill_4 (by decide) ?_
  refine lv_icmp_ge (tgt := 28) hx hb dX5_addTill_5 (by decide) (fun h => ?_) (fun h => ?_)
  · have hF := t_pos h hF
    exact kRv (τ := Int32 × (Nat → Int32)) (cv := (a0_tills, f_a0_kinds)) (fw := fun u => [(a0, .inr (5, [.ref a0_kinds, .int a0_told, .int u.1, .int a0_cashiers, .int a0_late])), (a0_kinds, .inl (cyI, 3, .inl (u.2)))]) hQ hx hb hr hlocks hK hP hD hS hF  dX5_addTill_28
  · have hF := t_neg h hF
    refine lv_aload_n hx hb dX5_addTill_8 rfl (lv_at hl 0 rfl) ?_
    refine gt_X5_9 hx hb hG hown hK hP 0 rfl rfl dX5_addTill_9 ?_
    refine lv_aload_n hx hb dX5_addTill_12 rfl (lv_at hl 0 rfl) ?_
    refine gt_X5_19 hx hb hG hown hK hP 0 rfl rfl dX5_addTill_13 ?_
    refine lv_iload_n hx hb dX5_addTill_16 rfl (lv_at hl 1 rfl) ?_
    obtain ⟨hin, hF⟩ := t_grd hF
    refine va_iast hx hb hK hP hD hS 1 0 rfl rfl hin dX5_addTill_17 (fun H locs hP hD hS => ?_)
    have hP : va_P D vwCl [(a0, .inr (5, [.ref a0_kinds, .int a0_told, .int a0_tills, .int a0_cashiers, .int a0_late])), (a0_kinds, .inl (cyI, 3, .inl (upd f_a0_kinds a0_tills.toNatClampNeg v1)))] H := hP
    have hD : va_D A [(a0, .inr (5, [.ref a0_kinds, .int a0_told, .int a0_tills, .int a0_cashiers, .int a0_late])), (a0_kinds, .inl (cyI, 3, .inl (upd f_a0_kinds a0_tills.toNatClampNeg v1)))] := hD
    refine lv_aload_n hx hb dX5_addTill_18 rfl (lv_at hl 0 rfl) ?_
    refine lv_dup hx hb dX5_addTill_19 rfl ?_
    refine gt_X5_19 hx hb hG hown hK hP 0 rfl rfl dX5_addTill_20 ?_
    refine lv_iconst (v := (1 : Int32)) hx hb dX5_addTill_23 (by decide) ?_
    refine lv_iadd hx hb dX5_addTill_24 ?_
    refine pt_X5_19 (v := .int (a0_tills + (1 : Int32))) hx hb hG hown hK hP hD hS 0 rfl rfl rfl (Nat.le_of_ble_eq_true rfl) dX5_addTill_25 (fun H locs hP hD hS => ?_)
    have hP : va_P D vwCl [(a0, .inr (5, [.ref a0_kinds, .int a0_told, .int (a0_tills + (1 : Int32)), .int a0_cashiers, .int a0_late])), (a0_kinds, .inl (cyI, 3, .inl (upd f_a0_kinds a0_tills.toNatClampNeg v1)))] H := hP
    have hD : va_D A [(a0, .inr (5, [.ref a0_kinds, .int a0_told, .int (a0_tills + (1 : Int32)), .int a0_cashiers, .int a0_late])), (a0_kinds, .inl (cyI, 3, .inl (upd f_a0_kinds a0_tills.toNatClampNeg v1)))] := hD
    exact kRv (τ := Int32 × (Nat → Int32)) (cv := ((a0_tills + (1 : Int32)), (upd f_a0_kinds a0_tills.toNatClampNeg v1))) (fw := fun u => [(a0, .inr (5, [.ref a0_kinds, .int a0_told, .int u.1, .int a0_cashiers, .int a0_late])), (a0_kinds, .inl (cyI, 3, .inl (u.2)))]) hQ hx hb hr hlocks hK hP hD hS hF  dX5_addTill_28
set_option maxHeartbeats 4000000 in
set_option maxRecDepth 100000 in
theorem c_X5_clear (l : Launch) (D : va_G) (cyI cyJ cyZ cyO : ClassId) (a0 : Nat) (a0_kinds : Nat) (a0_told : Int32) (a0_tills : Int32) (a0_cashiers : Int32) (a0_late : Int32) (sz : Nat) (o : Int32 × Int32 × Int32 × Int32) (hF : F_X5_clear  = some o) : mV l yX5_clear cX5_clear 1 none ({ frames := 0, cells := 0, slots := 0, locals := 0 } : Room) D (wT cyI cyJ cyZ cyO) [.ref a0] sz [(a0, .inr (5, [.ref a0_kinds, .int a0_told, .int a0_tills, .int a0_cashiers, .int a0_late]))] [(a0, .inr (5, [.ref a0_kinds, .int o.1, .int o.2.1, .int o.2.2.1, .int o.2.2.2]))] := by
  refine kM_v (by decide +kernel) (Nat.le_of_ble_eq_true rfl) ?_
  intro p e s m args below meth c A ls Q hx hb hr hlocks hml hown hG hK hA hP hD hS hl hQ
  have hown : s.vm.findClass RX5 = some m.cls := hown
  have hl : lv_has ls 1 [(0, .ref a0)] := hl
  obtain ⟨H, hH⟩ : ∃ H : Heap, H = s.heap := ⟨_, rfl⟩
  obtain ⟨locs, hlo⟩ : ∃ L : List Loc, L = [] := ⟨_, rfl⟩
  have hP : va_P D vwCl [(a0, .inr (5, [.ref a0_kinds, .int a0_told, .int a0_tills, .int a0_cashiers, .int a0_late]))] H := by rw [hH]; exact hP
  have hS : va_S A s.heap H locs := by rw [hH, hlo]; exact hS
  show W p l e ({ frames := 0, cells := 0, slots := 0, locals := 0 } : Room) s m args below meth c s.heap [] 0 0 Q (F0 m 0 ls [])
  suffices hgo : W p l e ({ frames := 0, cells := 0, slots := 0, locals := 0 } : Room) s m args below meth c H locs 0 0 Q (F0 m 0 ls []) by rw [hH, hlo] at hgo; exact hgo
  refine lv_aload_n hx hb dX5_clear_0 rfl (lv_at hl 0 rfl) ?_
  refine lv_iconst (v := (0 : Int32)) hx hb dX5_clear_1 (by decide) ?_
  refine pt_X5_15 (v := .int (0 : Int32)) hx hb hG hown hK hP hD hS 0 rfl rfl rfl (Nat.le_of_ble_eq_true rfl) dX5_clear_2 (fun H locs hP hD hS => ?_)
  have hP : va_P D vwCl [(a0, .inr (5, [.ref a0_kinds, .int (0 : Int32), .int a0_tills, .int a0_cashiers, .int a0_late]))] H := hP
  have hD : va_D A [(a0, .inr (5, [.ref a0_kinds, .int (0 : Int32), .int a0_tills, .int a0_cashiers, .int a0_late]))] := hD
  refine lv_aload_n hx hb dX5_clear_5 rfl (lv_at hl 0 rfl) ?_
  refine lv_iconst (v := (0 : Int32)) hx hb dX5_clear_6 (by decide) ?_
  refine pt_X5_19 (v := .int (0 : Int32)) hx hb hG hown hK hP hD hS 0 rfl rfl rfl (Nat.le_of_ble_eq_true rfl) dX5_clear_7 (fun H locs hP hD hS => ?_)
  have hP : va_P D vwCl [(a0, .inr (5, [.ref a0_kinds, .int (0 : Int32), .int (0 : Int32), .int a0_cashiers, .int a0_late]))] H := hP
  have hD : va_D A [(a0, .inr (5, [.ref a0_kinds, .int (0 : Int32), .int (0 : Int32), .int a0_cashiers, .int a0_late]))] := hD
  refine lv_aload_n hx hb dX5_clear_10 rfl (lv_at hl 0 rfl) ?_
  refine lv_iconst (v := (0 : Int32)) hx hb dX5_clear_11 (by decide) ?_
  refine pt_X5_23 (v := .int (0 : Int32)) hx hb hG hown hK hP hD hS 0 rfl rfl rfl (Nat.le_of_ble_eq_true rfl) dX5_clear_12 (fun H locs hP hD hS => ?_)
  have hP : va_P D vwCl [(a0, .inr (5, [.ref a0_kinds, .int (0 : Int32), .int (0 : Int32), .int (0 : Int32), .int a0_late]))] H := hP
  have hD : va_D A [(a0, .inr (5, [.ref a0_kinds, .int (0 : Int32), .int (0 : Int32), .int (0 : Int32), .int a0_late]))] := hD
  refine lv_aload_n hx hb dX5_clear_15 rfl (lv_at hl 0 rfl) ?_
  refine lv_iconst (v := (0 : Int32)) hx hb dX5_clear_16 (by decide) ?_
  refine pt_X5_26 (v := .int (0 : Int32)) hx hb hG hown hK hP hD hS 0 rfl rfl rfl (Nat.le_of_ble_eq_true rfl) dX5_clear_17 (fun H locs hP hD hS => ?_)
  have hP : va_P D vwCl [(a0, .inr (5, [.ref a0_kinds, .int (0 : Int32), .int (0 : Int32), .int (0 : Int32), .int (0 : Int32)]))] H := hP
  have hD : va_D A [(a0, .inr (5, [.ref a0_kinds, .int (0 : Int32), .int (0 : Int32), .int (0 : Int32), .int (0 : Int32)]))] := hD
  exact kRv (τ := Int32 × Int32 × Int32 × Int32) (cv := ((0 : Int32), (0 : Int32), (0 : Int32), (0 : Int32))) (fw := fun u => [(a0, .inr (5, [.ref a0_kinds, .int u.1, .int u.2.1, .int u.2.2.1, .int u.2.2.2]))]) hQ hx hb hr hlocks hK hP hD hS hF  dX5_clear_20
set_option maxHeartbeats 4000000 in
set_option maxRecDepth 100000 in
theorem c_X5_takeOver (l : Launch) (D : va_G) (cyI cyJ cyZ cyO : ClassId) (a1 : Nat) (a1_kinds : Nat) (a0 : Nat) (a0_kinds : Nat) (a1_told : Int32) (a1_tills : Int32) (a1_cashiers : Int32) (a1_late : Int32) (a0_told : Int32) (a0_tills : Int32) (a0_cashiers : Int32) (a0_late : Int32) (f_a1_kinds : Nat → Int32) (f_a0_kinds : Nat → Int32) (sz : Nat) (o : Int32 × Int32 × Int32 × Int32 × (Nat → Int32)) (hF : F_X5_takeOver a1_told a1_tills a1_cashiers a1_late f_a1_kinds f_a0_kinds = some o) : mV l yX5_takeOver cX5_takeOver 2 none ({ frames := 1, cells := 0, slots := 0, locals := 60 } : Room) D (wT cyI cyJ cyZ cyO) [.ref a0, .ref a1] sz [(a1, .inr (5, [.ref a1_kinds, .int a1_told, .int a1_tills, .int a1_cashiers, .int a1_late])), (a0, .inr (5, [.ref a0_kinds, .int a0_told, .int a0_tills, .int a0_cashiers, .int a0_late])), (a1_kinds, .inl (cyI, 3, .inl f_a1_kinds)), (a0_kinds, .inl (cyI, 3, .inl f_a0_kinds))] [(a1, .inr (5, [.ref a1_kinds, .int a1_told, .int a1_tills, .int a1_cashiers, .int a1_late])), (a0, .inr (5, [.ref a0_kinds, .int o.1, .int o.2.1, .int o.2.2.1, .int o.2.2.2.1])), (a1_kinds, .inl (cyI, 3, .inl f_a1_kinds)), (a0_kinds, .inl (cyI, 3, .inl (o.2.2.2.2)))] := by
  refine kM_v (by decide +kernel) (Nat.le_of_ble_eq_true rfl) ?_
  intro p e s m args below meth c A ls Q hx hb hr hlocks hml hown hG hK hA hP hD hS hl hQ
  have hown : s.vm.findClass RX5 = some m.cls := hown
  have hl : lv_has ls 2 [(0, .ref a0), (1, .ref a1)] := hl
  obtain ⟨H, hH⟩ : ∃ H : Heap, H = s.heap := ⟨_, rfl⟩
  obtain ⟨locs, hlo⟩ : ∃ L : List Loc, L = [] := ⟨_, rfl⟩
  have hP : va_P D vwCl [(a1, .inr (5, [.ref a1_kinds, .int a1_told, .int a1_tills, .int a1_cashiers, .int a1_late])), (a0, .inr (5, [.ref a0_kinds, .int a0_told, .int a0_tills, .int a0_cashiers, .int a0_late])), (a1_kinds, .inl (cyI, 3, .inl f_a1_kinds)), (a0_kinds, .inl (cyI, 3, .inl f_a0_kinds))] H := by rw [hH]; exact hP
  have hS : va_S A s.heap H locs := by rw [hH, hlo]; exact hS
  show W p l e ({ frames := 1, cells := 0, slots := 0, locals := 60 } : Room) s m args below meth c s.heap [] 0 0 Q (F0 m 0 ls [])
  suffices hgo : W p l e ({ frames := 1, cells := 0, slots := 0, locals := 60 } : Room) s m args below meth c H locs 0 0 Q (F0 m 0 ls []) by rw [hH, hlo] at hgo; exact hgo
  refine lv_aload_n hx hb dX5_takeOver_0 rfl (lv_at hl 0 rfl) ?_
  refine lv_aload_n hx hb dX5_takeOver_1 rfl (lv_at hl 1 rfl) ?_
  refine gt_X5_15 hx hb hG hown hK hP 0 rfl rfl dX5_takeOver_2 ?_
  obtain ⟨hz, hF⟩ := t_grd hF
  refine pt_X5_15 (v := .int a1_told) hx hb hG hown hK hP hD hS 1 rfl (nar_z hz) (fit_z hz) (Nat.le_of_ble_eq_true rfl) dX5_takeOver_5 (fun H locs hP hD hS => ?_)
  have hP : va_P D vwCl [(a1, .inr (5, [.ref a1_kinds, .int a1_told, .int a1_tills, .int a1_cashiers, .int a1_late])), (a0, .inr (5, [.ref a0_kinds, .int a1_told, .int a0_tills, .int a0_cashiers, .int a0_late])), (a1_kinds, .inl (cyI, 3, .inl f_a1_kinds)), (a0_kinds, .inl (cyI, 3, .inl f_a0_kinds))] H := hP
  have hD : va_D A [(a1, .inr (5, [.ref a1_kinds, .int a1_told, .int a1_tills, .int a1_cashiers, .int a1_late])), (a0, .inr (5, [.ref a0_kinds, .int a1_told, .int a0_tills, .int a0_cashiers, .int a0_late])), (a1_kinds, .inl (cyI, 3, .inl f_a1_kinds)), (a0_kinds, .inl (cyI, 3, .inl f_a0_kinds))] := hD
  refine lv_aload_n hx hb dX5_takeOver_8 rfl (lv_at hl 0 rfl) ?_
  refine lv_aload_n hx hb dX5_takeOver_9 rfl (lv_at hl 1 rfl) ?_
  refine gt_X5_19 hx hb hG hown hK hP 0 rfl rfl dX5_takeOver_10 ?_
  refine pt_X5_19 (v := .int a1_tills) hx hb hG hown hK hP hD hS 1 rfl rfl rfl (Nat.le_of_ble_eq_true rfl) dX5_takeOver_13 (fun H locs hP hD hS => ?_)
  have hP : va_P D vwCl [(a1, .inr (5, [.ref a1_kinds, .int a1_told, .int a1_tills, .int a1_cashiers, .int a1_late])), (a0, .inr (5, [.ref a0_kinds, .int a1_told, .int a1_tills, .int a0_cashiers, .int a0_late])), (a1_kinds, .inl (cyI, 3, .inl f_a1_kinds)), (a0_kinds, .inl (cyI, 3, .inl f_a0_kinds))] H := hP
  have hD : va_D A [(a1, .inr (5, [.ref a1_kinds, .int a1_told, .int a1_tills, .int a1_cashiers, .int a1_late])), (a0, .inr (5, [.ref a0_kinds, .int a1_told, .int a1_tills, .int a0_cashiers, .int a0_late])), (a1_kinds, .inl (cyI, 3, .inl f_a1_kinds)), (a0_kinds, .inl (cyI, 3, .inl f_a0_kinds))] := hD
  refine lv_aload_n hx hb dX5_takeOver_16 rfl (lv_at hl 0 rfl) ?_
  refine lv_aload_n hx hb dX5_takeOver_17 rfl (lv_at hl 1 rfl) ?_
  refine gt_X5_23 hx hb hG hown hK hP 0 rfl rfl dX5_takeOver_18 ?_
  refine pt_X5_23 (v := .int a1_cashiers) hx hb hG hown hK hP hD hS 1 rfl rfl rfl (Nat.le_of_ble_eq_true rfl) dX5_takeOver_21 (fun H locs hP hD hS => ?_)
  have hP : va_P D vwCl [(a1, .inr (5, [.ref a1_kinds, .int a1_told, .int a1_tills, .int a1_cashiers, .int a1_late])), (a0, .inr (5, [.ref a0_kinds, .int a1_told, .int a1_tills, .int a1_cashiers, .int a0_late])), (a1_kinds, .inl (cyI, 3, .inl f_a1_kinds)), (a0_kinds, .inl (cyI, 3, .inl f_a0_kinds))] H := hP
  have hD : va_D A [(a1, .inr (5, [.ref a1_kinds, .int a1_told, .int a1_tills, .int a1_cashiers, .int a1_late])), (a0, .inr (5, [.ref a0_kinds, .int a1_told, .int a1_tills, .int a1_cashiers, .int a0_late])), (a1_kinds, .inl (cyI, 3, .inl f_a1_kinds)), (a0_kinds, .inl (cyI, 3, .inl f_a0_kinds))] := hD
  refine lv_aload_n hx hb dX5_takeOver_24 rfl (lv_at hl 0 rfl) ?_
  refine lv_aload_n hx hb dX5_takeOver_25 rfl (lv_at hl 1 rfl) ?_
  refine gt_X5_26 hx hb hG hown hK hP 0 rfl rfl dX5_takeOver_26 ?_
  refine pt_X5_26 (v := .int a1_late) hx hb hG hown hK hP hD hS 1 rfl rfl rfl (Nat.le_of_ble_eq_true rfl) dX5_takeOver_29 (fun H locs hP hD hS => ?_)
  have hP : va_P D vwCl [(a1, .inr (5, [.ref a1_kinds, .int a1_told, .int a1_tills, .int a1_cashiers, .int a1_late])), (a0, .inr (5, [.ref a0_kinds, .int a1_told, .int a1_tills, .int a1_cashiers, .int a1_late])), (a1_kinds, .inl (cyI, 3, .inl f_a1_kinds)), (a0_kinds, .inl (cyI, 3, .inl f_a0_kinds))] H := hP
  have hD : va_D A [(a1, .inr (5, [.ref a1_kinds, .int a1_told, .int a1_tills, .int a1_cashiers, .int a1_late])), (a0, .inr (5, [.ref a0_kinds, .int a1_told, .int a1_tills, .int a1_cashiers, .int a1_late])), (a1_kinds, .inl (cyI, 3, .inl f_a1_kinds)), (a0_kinds, .inl (cyI, 3, .inl f_a0_kinds))] := hD
  refine lv_aload_n hx hb dX5_takeOver_32 rfl (lv_at hl 1 rfl) ?_
  refine gt_X5_9 hx hb hG hown hK hP 0 rfl rfl dX5_takeOver_33 ?_
  refine lv_iconst (v := (0 : Int32)) hx hb dX5_takeOver_36 (by decide) ?_
  refine lv_aload_n hx hb dX5_takeOver_37 rfl (lv_at hl 0 rfl) ?_
  refine gt_X5_9 hx hb hG hown hK hP 1 rfl rfl dX5_takeOver_38 ?_
  refine lv_iconst (v := (0 : Int32)) hx hb dX5_takeOver_41 (by decide) ?_
  refine lv_iconst (v := (3 : Int32)) hx hb dX5_takeOver_42 (by decide) ?_
  refine va_copyi hx hb (hml.trans hl.1.symm) hown (hG _ gm_600) (hG _ gm_602) (hG _ gm_601) (hG _ gm_17) hK hP hD hS 2 3 0 0 rfl rfl rfl rfl rfl (by decide) (by decide) (by decide) (Nat.not_lt.mp (by decide)) (Nat.not_lt.mp (by decide)) (fun _ _ => rfl) (Nat.le_of_ble_eq_true rfl) (Nat.le_of_ble_eq_true rfl) dX5_takeOver_43 (fun H locs hP hD hS => ?_)
  have hP : va_P D vwCl [(a1, .inr (5, [.ref a1_kinds, .int a1_told, .int a1_tills, .int a1_cashiers, .int a1_late])), (a0, .inr (5, [.ref a0_kinds, .int a1_told, .int a1_tills, .int a1_cashiers, .int a1_late])), (a1_kinds, .inl (cyI, 3, .inl f_a1_kinds)), (a0_kinds, .inl (cyI, 3, .inl ((va_cpy f_a1_kinds f_a0_kinds (0 : Int32).toNatClampNeg (0 : Int32).toNatClampNeg (3 : Int32).toNatClampNeg))))] H := hP
  have hD : va_D A [(a1, .inr (5, [.ref a1_kinds, .int a1_told, .int a1_tills, .int a1_cashiers, .int a1_late])), (a0, .inr (5, [.ref a0_kinds, .int a1_told, .int a1_tills, .int a1_cashiers, .int a1_late])), (a1_kinds, .inl (cyI, 3, .inl f_a1_kinds)), (a0_kinds, .inl (cyI, 3, .inl ((va_cpy f_a1_kinds f_a0_kinds (0 : Int32).toNatClampNeg (0 : Int32).toNatClampNeg (3 : Int32).toNatClampNeg))))] := hD
  exact kRv (τ := Int32 × Int32 × Int32 × Int32 × (Nat → Int32)) (cv := (a1_told, a1_tills, a1_cashiers, a1_late, (va_cpy f_a1_kinds f_a0_kinds (0 : Int32).toNatClampNeg (0 : Int32).toNatClampNeg (3 : Int32).toNatClampNeg))) (fw := fun u => [(a1, .inr (5, [.ref a1_kinds, .int a1_told, .int a1_tills, .int a1_cashiers, .int a1_late])), (a0, .inr (5, [.ref a0_kinds, .int u.1, .int u.2.1, .int u.2.2.1, .int u.2.2.2.1])), (a1_kinds, .inl (cyI, 3, .inl f_a1_kinds)), (a0_kinds, .inl (cyI, 3, .inl (u.2.2.2.2)))]) hQ hx hb hr hlocks hK hP hD hS hF  dX5_takeOver_46
set_option maxHeartbeats 4000000 in
set_option maxRecDepth 100000 in
theorem c_X5_hasTill (l : Launch) (D : va_G) (cyI cyJ cyZ cyO : ClassId) (a0 : Nat) (a0_kinds : Nat) (a0_told : Int32) (a0_tills : Int32) (a0_cashiers : Int32) (a0_late : Int32) (v1 : Int32) (sz : Nat) (o : Int32) (hF : F_X5_hasTill a0_tills v1 = some o) : mI l yX5_hasTill cX5_hasTill 2 (some .boolean) ({ frames := 0, cells := 0, slots := 0, locals := 0 } : Room) D (wT cyI cyJ cyZ cyO) [.ref a0, .int v1] sz [(a0, .inr (5, [.ref a0_kinds, .int a0_told, .int a0_tills, .int a0_cashiers, .int a0_late]))] o [(a0, .inr (5, [.ref a0_kinds, .int a0_told, .int a0_tills, .int a0_cashiers, .int a0_late]))] := by
  refine kM_i (by decide +kernel) (Nat.le_of_ble_eq_true rfl) ?_
  intro p e s m args below meth c A ls Q hx hb hr hlocks hml hown hG hK hA hP hD hS hl hQ
  have hown : s.vm.findClass RX5 = some m.cls := hown
  have hl : lv_has ls 2 [(0, .ref a0), (1, .int v1)] := hl
  obtain ⟨H, hH⟩ : ∃ H : Heap, H = s.heap := ⟨_, rfl⟩
  obtain ⟨locs, hlo⟩ : ∃ L : List Loc, L = [] := ⟨_, rfl⟩
  have hP : va_P D vwCl [(a0, .inr (5, [.ref a0_kinds, .int a0_told, .int a0_tills, .int a0_cashiers, .int a0_late]))] H := by rw [hH]; exact hP
  have hS : va_S A s.heap H locs := by rw [hH, hlo]; exact hS
  show W p l e ({ frames := 0, cells := 0, slots := 0, locals := 0 } : Room) s m args below meth c s.heap [] 0 0 Q (F0 m 0 ls [])
  suffices hgo : W p l e ({ frames := 0, cells := 0, slots := 0, locals := 0 } : Room) s m args below meth c H locs 0 0 Q (F0 m 0 ls []) by rw [hH, hlo] at hgo; exact hgo
  refine lv_iload_n hx hb dX5_hasTill_0 rfl (lv_at hl 1 rfl) ?_
  refine lv_if_lt (tgt := 16) hx hb dX5_hasTill_1 (by decide) (fun h => ?_) (fun h => ?_)
  · have hF := t_pos h hF
    refine lv_iconst (v := (0 : Int32)) hx hb dX5_hasTill_16 (by decide) ?_
    exact kRz (τ := Int32) (cv := (0 : Int32)) (fr := fun u => u) (fw := fun u => [(a0, .inr (5, [.ref a0_kinds, .int a0_told, .int a0_tills, .int a0_cashiers, .int a0_late]))]) hQ hx hb hr hlocks hK hP hD hS hF rfl rfl dX5_hasTill_17
  · have hF := t_neg h hF
    refine lv_iload_n hx hb dX5_hasTill_4 rfl (lv_at hl 1 rfl) ?_
    refine lv_aload_n hx hb dX5_hasTill_5 rfl (lv_at hl 0 rfl) ?_
    refine gt_X5_19 hx hb hG hown hK hP 0 rfl rfl dX5_hasTill_6 ?_
    refine lv_icmp_ge (tgt := 16) hx hb dX5_hasTill_9 (by decide) (fun h => ?_) (fun h => ?_)
    · have hF := t_pos h hF
      refine lv_iconst (v := (0 : Int32)) hx hb dX5_hasTill_16 (by decide) ?_
      exact kRz (τ := Int32) (cv := (0 : Int32)) (fr := fun u => u) (fw := fun u => [(a0, .inr (5, [.ref a0_kinds, .int a0_told, .int a0_tills, .int a0_cashiers, .int a0_late]))]) hQ hx hb hr hlocks hK hP hD hS hF rfl rfl dX5_hasTill_17
    · have hF := t_neg h hF
      refine lv_iconst (v := (1 : Int32)) hx hb dX5_hasTill_12 (by decide) ?_
      refine lv_goto (tgt := 17) hx hb dX5_hasTill_13 (by decide) ?_
      exact kRz (τ := Int32) (cv := (1 : Int32)) (fr := fun u => u) (fw := fun u => [(a0, .inr (5, [.ref a0_kinds, .int a0_told, .int a0_tills, .int a0_cashiers, .int a0_late]))]) hQ hx hb hr hlocks hK hP hD hS hF rfl rfl dX5_hasTill_17
set_option maxHeartbeats 4000000 in
set_option maxRecDepth 100000 in
theorem c_X5_hasCashier (l : Launch) (D : va_G) (cyI cyJ cyZ cyO : ClassId) (a0 : Nat) (a0_kinds : Nat) (a0_told : Int32) (a0_tills : Int32) (a0_cashiers : Int32) (a0_late : Int32) (v1 : Int32) (sz : Nat) (o : Int32) (hF : F_X5_hasCashier a0_cashiers v1 = some o) : mI l yX5_hasCashier cX5_hasCashier 2 (some .boolean) ({ frames := 0, cells := 0, slots := 0, locals := 0 } : Room) D (wT cyI cyJ cyZ cyO) [.ref a0, .int v1] sz [(a0, .inr (5, [.ref a0_kinds, .int a0_told, .int a0_tills, .int a0_cashiers, .int a0_late]))] o [(a0, .inr (5, [.ref a0_kinds, .int a0_told, .int a0_tills, .int a0_cashiers, .int a0_late]))] := by
  refine kM_i (by decide +kernel) (Nat.le_of_ble_eq_true rfl) ?_
  intro p e s m args below meth c A ls Q hx hb hr hlocks hml hown hG hK hA hP hD hS hl hQ
  have hown : s.vm.findClass RX5 = some m.cls := hown
  have hl : lv_has ls 2 [(0, .ref a0), (1, .int v1)] := hl
  obtain ⟨H, hH⟩ : ∃ H : Heap, H = s.heap := ⟨_, rfl⟩
  obtain ⟨locs, hlo⟩ : ∃ L : List Loc, L = [] := ⟨_, rfl⟩
  have hP : va_P D vwCl [(a0, .inr (5, [.ref a0_kinds, .int a0_told, .int a0_tills, .int a0_cashiers, .int a0_late]))] H := by rw [hH]; exact hP
  have hS : va_S A s.heap H locs := by rw [hH, hlo]; exact hS
  show W p l e ({ frames := 0, cells := 0, slots := 0, locals := 0 } : Room) s m args below meth c s.heap [] 0 0 Q (F0 m 0 ls [])
  suffices hgo : W p l e ({ frames := 0, cells := 0, slots := 0, locals := 0 } : Room) s m args below meth c H locs 0 0 Q (F0 m 0 ls []) by rw [hH, hlo] at hgo; exact hgo
  refine lv_iload_n hx hb dX5_hasCashier_0 rfl (lv_at hl 1 rfl) ?_
  refine lv_if_lt (tgt := 16) hx hb dX5_hasCashier_1 (by decide) (fun h => ?_) (fun h => ?_)
  · have hF := t_pos h hF
    refine lv_iconst (v := (0 : Int32)) hx hb dX5_hasCashier_16 (by decide) ?_
    exact kRz (τ := Int32) (cv := (0 : Int32)) (fr := fun u => u) (fw := fun u => [(a0, .inr (5, [.ref a0_kinds, .int a0_told, .int a0_tills, .int a0_cashiers, .int a0_late]))]) hQ hx hb hr hlocks hK hP hD hS hF rfl rfl dX5_hasCashier_17
  · have hF := t_neg h hF
    refine lv_iload_n hx hb dX5_hasCashier_4 rfl (lv_at hl 1 rfl) ?_
    refine lv_aload_n hx hb dX5_hasCashier_5 rfl (lv_at hl 0 rfl) ?_
    refine gt_X5_23 hx hb hG hown hK hP 0 rfl rfl dX5_hasCashier_6 ?_
    refine lv_icmp_ge (tgt := 16) hx hb dX5_hasCashier_9 (by decide) (fun h => ?_) (fun h => ?_)
    · have hF := t_pos h hF
      refine lv_iconst (v := (0 : Int32)) hx hb dX5_hasCashier_16 (by decide) ?_
      exact kRz (τ := Int32) (cv := (0 : Int32)) (fr := fun u => u) (fw := fun u => [(a0, .inr (5, [.ref a0_kinds, .int a0_told, .int a0_tills, .int a0_cashiers, .int a0_late]))]) hQ hx hb hr hlocks hK hP hD hS hF rfl rfl dX5_hasCashier_17
    · have hF := t_neg h hF
      refine lv_iconst (v := (1 : Int32)) hx hb dX5_hasCashier_12 (by decide) ?_
      refine lv_goto (tgt := 17) hx hb dX5_hasCashier_13 (by decide) ?_
      exact kRz (τ := Int32) (cv := (1 : Int32)) (fr := fun u => u) (fw := fun u => [(a0, .inr (5, [.ref a0_kinds, .int a0_told, .int a0_tills, .int a0_cashiers, .int a0_late]))]) hQ hx hb hr hlocks hK hP hD hS hF rfl rfl dX5_hasCashier_17
