set_option maxHeartbeats 4000000 in
set_option maxRecDepth 100000 in
theorem c_X0_clear (l : Launch) (D : va_G) (cyI cyJ cyZ cyO : ClassId) (a0 : Nat) (a0_cashiers : Nat) (a0_tills : Nat) (a0_acts : Nat) (a0_wholes : Nat) (a0_begins : Nat) (a0_ends : Nat) (a0_answers : Nat) (a0_n : Int32) (sz : Nat) (o : Int32) (hF : F_X0_clear  = some o) : mV l yX0_clear cX0_clear 1 none ({ frames := 0, cells := 0, slots := 0, locals := 0 } : Room) D (wT cyI cyJ cyZ cyO) [.ref a0] sz [(a0, .inr (0, [.ref a0_cashiers, .ref a0_tills, .ref a0_acts, .ref a0_wholes, .ref a0_begins, .ref a0_ends, .ref a0_answers, .int a0_n]))] [(a0, .inr (0, [.ref a0_cashiers, .ref a0_tills, .ref a0_acts, .ref a0_wholes, .ref a0_begins, .ref a0_ends, .ref a0_answers, .int o]))] := by
  refine kM_v (by decide +kernel) (Nat.le_of_ble_eq_true rfl) ?_
  intro p e s m args below meth c A ls Q hx hb hr hlocks hml hown hG hK hA hP hD hS hl hQ
  have hown : s.vm.findClass RX0 = some m.cls := hown
  have hl : lv_has ls 1 [(0, .ref a0)] := hl
  obtain ⟨H, hH⟩ : ∃ H : Heap, H = s.heap := ⟨_, rfl⟩
  obtain ⟨locs, hlo⟩ : ∃ L : List Loc, L = [] := ⟨_, rfl⟩
  have hP : va_P D vwCl [(a0, .inr (0, [.ref a0_cashiers, .ref a0_tills, .ref a0_acts, .ref a0_wholes, .ref a0_begins, .ref a0_ends, .ref a0_answers, .int a0_n]))] H := by rw [hH]; exact hP
  have hS : va_S A s.heap H locs := by rw [hH, hlo]; exact hS
  show W p l e ({ frames := 0, cells := 0, slots := 0, locals := 0 } : Room) s m args below meth c s.heap [] 0 0 Q (F0 m 0 ls [])
  suffices hgo : W p l e ({ frames := 0, cells := 0, slots := 0, locals := 0 } : Room) s m args below meth c H locs 0 0 Q (F0 m 0 ls []) by rw [hH, hlo] at hgo; exact hgo
  refine lv_aload_n hx hb dX0_clear_0 rfl (lv_at hl 0 rfl) ?_
  refine lv_iconst (v := (0 : Int32)) hx hb dX0_clear_1 (by decide) ?_
  refine pt_X0_33 (v := .int (0 : Int32)) hx hb hG hown hK hP hD hS 0 rfl rfl rfl (Nat.le_of_ble_eq_true rfl) dX0_clear_2 (fun H locs hP hD hS => ?_)
  have hP : va_P D vwCl [(a0, .inr (0, [.ref a0_cashiers, .ref a0_tills, .ref a0_acts, .ref a0_wholes, .ref a0_begins, .ref a0_ends, .ref a0_answers, .int (0 : Int32)]))] H := hP
  have hD : va_D A [(a0, .inr (0, [.ref a0_cashiers, .ref a0_tills, .ref a0_acts, .ref a0_wholes, .ref a0_begins, .ref a0_ends, .ref a0_answers, .int (0 : Int32)]))] := hD
  exact kRv (τ := Int32) (cv := (0 : Int32)) (fw := fun u => [(a0, .inr (0, [.ref a0_cashiers, .ref a0_tills, .ref a0_acts, .ref a0_wholes, .ref a0_begins, .ref a0_ends, .ref a0_answers, .int u]))]) hQ hx hb hr hlocks hK hP hD hS hF  dX0_clear_5
set_option maxHeartbeats 4000000 in
set_option maxRecDepth 100000 in
theorem c_X0_takeOver (l : Launch) (D : va_G) (cyI cyJ cyZ cyO : ClassId) (a1 : Nat) (a1_cashiers : Nat) (a1_tills : Nat) (a1_acts : Nat) (a1_wholes : Nat) (a1_begins : Nat) (a1_ends : Nat) (a1_answers : Nat) (a0 : Nat) (a0_cashiers : Nat) (a0_tills : Nat) (a0_acts : Nat) (a0_wholes : Nat) (a0_begins : Nat) (a0_ends : Nat) (a0_answers : Nat) (a1_n : Int32) (a0_n : Int32) (f_a1_cashiers : Nat → Int32) (f_a0_cashiers : Nat → Int32) (f_a1_tills : Nat → Int32) (f_a0_tills : Nat → Int32) (f_a1_acts : Nat → Int32) (f_a0_acts : Nat → Int32) (f_a1_wholes : Nat → Int32) (f_a0_wholes : Nat → Int32) (f_a1_begins : Nat → Int32) (f_a0_begins : Nat → Int32) (f_a1_ends : Nat → Int32) (f_a0_ends : Nat → Int32) (f_a1_answers : Nat → Int32) (f_a0_answers : Nat → Int32) (sz : Nat) (o : Int32 × (Nat → Int32) × (Nat → Int32) × (Nat → Int32) × (Nat → Int32) × (Nat → Int32) × (Nat → Int32) × (Nat → Int32)) (hF : F_X0_takeOver a1_n f_a1_cashiers f_a0_cashiers f_a1_tills f_a0_tills f_a1_acts f_a0_acts f_a1_wholes f_a0_wholes f_a1_begins f_a0_begins f_a1_ends f_a0_ends f_a1_answers f_a0_answers = some o) : mV l yX0_takeOver cX0_takeOver 2 none ({ frames := 1, cells := 0, slots := 0, locals := 60 } : Room) D (wT cyI cyJ cyZ cyO) [.ref a0, .ref a1] sz [(a1, .inr (0, [.ref a1_cashiers, .ref a1_tills, .ref a1_acts, .ref a1_wholes, .ref a1_begins, .ref a1_ends, .ref a1_answers, .int a1_n])), (a0, .inr (0, [.ref a0_cashiers, .ref a0_tills, .ref a0_acts, .ref a0_wholes, .ref a0_begins, .ref a0_ends, .ref a0_answers, .int a0_n])), (a1_cashiers, .inl (cyI, 20, .inl f_a1_cashiers)), (a0_cashiers, .inl (cyI, 20, .inl f_a0_cashiers)), (a1_tills, .inl (cyI, 20, .inl f_a1_tills)), (a0_tills, .inl (cyI, 20, .inl f_a0_tills)), (a1_acts, .inl (cyI, 20, .inl f_a1_acts)), (a0_acts, .inl (cyI, 20, .inl f_a0_acts)), (a1_wholes, .inl (cyI, 20, .inl f_a1_wholes)), (a0_wholes, .inl (cyI, 20, .inl f_a0_wholes)), (a1_begins, .inl (cyI, 20, .inl f_a1_begins)), (a0_begins, .inl (cyI, 20, .inl f_a0_begins)), (a1_ends, .inl (cyI, 20, .inl f_a1_ends)), (a0_ends, .inl (cyI, 20, .inl f_a0_ends)), (a1_answers, .inl (cyI, 20, .inl f_a1_answers)), (a0_answers, .inl (cyI, 20, .inl f_a0_answers))] [(a1, .inr (0, [.ref a1_cashiers, .ref a1_tills, .ref a1_acts, .ref a1_wholes, .ref a1_begins, .ref a1_ends, .ref a1_answers, .int a1_n])), (a0, .inr (0, [.ref a0_cashiers, .ref a0_tills, .ref a0_acts, .ref a0_wholes, .ref a0_begins, .ref a0_ends, .ref a0_answers, .int o.1])), (a1_cashiers, .inl (cyI, 20, .inl f_a1_cashiers)), (a0_cashiers, .inl (cyI, 20, .inl (o.2.1))), (a1_tills, .inl (cyI, 20, .inl f_a1_tills)), (a0_tills, .inl (cyI, 20, .inl (o.2.2.1))), (a1_acts, .inl (cyI, 20, .inl f_a1_acts)), (a0_acts, .inl (cyI, 20, .inl (o.2.2.2.1))), (a1_wholes, .inl (cyI, 20, .inl f_a1_wholes)), (a0_wholes, .inl (cyI, 20, .inl (o.2.2.2.2.1))), (a1_begins, .inl (cyI, 20, .inl f_a1_begins)), (a0_begins, .inl (cyI, 20, .inl (o.2.2.2.2.2.1))), (a1_ends, .inl (cyI, 20, .inl f_a1_ends)), (a0_ends, .inl (cyI, 20, .inl (o.2.2.2.2.2.2.1))), (a1_answers, .inl (cyI, 20, .inl f_a1_answers)), (a0_answers, .inl (cyI, 20, .inl (o.2.2.2.2.2.2.2)))] := by
  refine kM_v (by decide +kernel) (Nat.le_of_ble_eq_true rfl) ?_
  intro p e s m args below meth c A ls Q hx hb hr hlocks hml hown hG hK hA hP hD hS hl hQ
  have hown : s.vm.findClass RX0 = some m.cls := hown
  have hl : lv_has ls 2 [(0, .ref a0), (1, .ref a1)] := hl
  obtain ⟨H, hH⟩ : ∃ H : Heap, H = s.heap := ⟨_, rfl⟩
  obtain ⟨locs, hlo⟩ : ∃ L : List Loc, L = [] := ⟨_, rfl⟩
  have hP : va_P D vwCl [(a1, .inr (0, [.ref a1_cashiers, .ref a1_tills, .ref a1_acts, .ref a1_wholes, .ref a1_begins, .ref a1_ends, .ref a1_answers, .int a1_n])), (a0, .inr (0, [.ref a0_cashiers, .ref a0_tills, .ref a0_acts, .ref a0_wholes, .ref a0_begins, .ref a0_ends, .ref a0_answers, .int a0_n])), (a1_cashiers, .inl (cyI, 20, .inl f_a1_cashiers)), (a0_cashiers, .inl (cyI, 20, .inl f_a0_cashiers)), (a1_tills, .inl (cyI, 20, .inl f_a1_tills)), (a0_tills, .inl (cyI, 20, .inl f_a0_tills)), (a1_acts, .inl (cyI, 20, .inl f_a1_acts)), (a0_acts, .inl (cyI, 20, .inl f_a0_acts)), (a1_wholes, .inl (cyI, 20, .inl f_a1_wholes)), (a0_wholes, .inl (cyI, 20, .inl f_a0_wholes)), (a1_begins, .inl (cyI, 20, .inl f_a1_begins)), (a0_begins, .inl (cyI, 20, .inl f_a0_begins)), (a1_ends, .inl (cyI, 20, .inl f_a1_ends)), (a0_ends, .inl (cyI, 20, .inl f_a0_ends)), (a1_answers, .inl (cyI, 20, .inl f_a1_answers)), (a0_answers, .inl (cyI, 20, .inl f_a0_answers))] H := by rw [hH]; exact hP
  have hS : va_S A s.heap H locs := by rw [hH, hlo]; exact hS
  show W p l e ({ frames := 1, cells := 0, slots := 0, locals := 60 } : Room) s m args below meth c s.heap [] 0 0 Q (F0 m 0 ls [])
  suffices hgo : W p l e ({ frames := 1, cells := 0, slots := 0, locals := 60 } : Room) s m args below meth c H locs 0 0 Q (F0 m 0 ls []) by rw [hH, hlo] at hgo; exact hgo
  refine lv_aload_n hx hb dX0_takeOver_0 rfl (lv_at hl 0 rfl) ?_
  refine lv_aload_n hx hb dX0_takeOver_1 rfl (lv_at hl 1 rfl) ?_
  refine gt_X0_33 hx hb hG hown hK hP 0 rfl rfl dX0_takeOver_2 ?_
  refine pt_X0_33 (v := .int a1_n) hx hb hG hown hK hP hD hS 1 rfl rfl rfl (Nat.le_of_ble_eq_true rfl) dX0_takeOver_5 (fun H locs hP hD hS => ?_)
  have hP : va_P D vwCl [(a1, .inr (0, [.ref a1_cashiers, .ref a1_tills, .ref a1_acts, .ref a1_wholes, .ref a1_begins, .ref a1_ends, .ref a1_answers, .int a1_n])), (a0, .inr (0, [.ref a0_cashiers, .ref a0_tills, .ref a0_acts, .ref a0_wholes, .ref a0_begins, .ref a0_ends, .ref a0_answers, .int a1_n])), (a1_cashiers, .inl (cyI, 20, .inl f_a1_cashiers)), (a0_cashiers, .inl (cyI, 20, .inl f_a0_cashiers)), (a1_tills, .inl (cyI, 20, .inl f_a1_tills)), (a0_tills, .inl (cyI, 20, .inl f_a0_tills)), (a1_acts, .inl (cyI, 20, .inl f_a1_acts)), (a0_acts, .inl (cyI, 20, .inl f_a0_acts)), (a1_wholes, .inl (cyI, 20, .inl f_a1_wholes)), (a0_wholes, .inl (cyI, 20, .inl f_a0_wholes)), (a1_begins, .inl (cyI, 20, .inl f_a1_begins)), (a0_begins, .inl (cyI, 20, .inl f_a0_begins)), (a1_ends, .inl (cyI, 20, .inl f_a1_ends)), (a0_ends, .inl (cyI, 20, .inl f_a0_ends)), (a1_answers, .inl (cyI, 20, .inl f_a1_answers)), (a0_answers, .inl (cyI, 20, .inl f_a0_answers))] H := hP
  have hD : va_D A [(a1, .inr (0, [.ref a1_cashiers, .ref a1_tills, .ref a1_acts, .ref a1_wholes, .ref a1_begins, .ref a1_ends, .ref a1_answers, .int a1_n])), (a0, .inr (0, [.ref a0_cashiers, .ref a0_tills, .ref a0_acts, .ref a0_wholes, .ref a0_begins, .ref a0_ends, .ref a0_answers, .int a1_n])), (a1_cashiers, .inl (cyI, 20, .inl f_a1_cashiers)), (a0_cashiers, .inl (cyI, 20, .inl f_a0_cashiers)), (a1_tills, .inl (cyI, 20, .inl f_a1_tills)), (a0_tills, .inl (cyI, 20, .inl f_a0_tills)), (a1_acts, .inl (cyI, 20, .inl f_a1_acts)), (a0_acts, .inl (cyI, 20, .inl f_a0_acts)), (a1_wholes, .inl (cyI, 20, .inl f_a1_wholes)), (a0_wholes, .inl (cyI, 20, .inl f_a0_wholes)), (a1_begins, .inl (cyI, 20, .inl f_a1_begins)), (a0_begins, .inl (cyI, 20, .inl f_a0_begins)), (a1_ends, .inl (cyI, 20, .inl f_a1_ends)), (a0_ends, .inl (cyI, 20, .inl f_a0_ends)), (a1_answers, .inl (cyI, 20, .inl f_a1_answers)), (a0_answers, .inl (cyI, 20, .inl f_a0_answers))] := hD
  refine lv_aload_n hx hb dX0_takeOver_8 rfl (lv_at hl 1 rfl) ?_
  refine gt_X0_9 hx hb hG hown hK hP 0 rfl rfl dX0_takeOver_9 ?_
  refine lv_iconst (v := (0 : Int32)) hx hb dX0_takeOver_12 (by decide) ?_
  refine lv_aload_n hx hb dX0_takeOver_13 rfl (lv_at hl 0 rfl) ?_
  refine gt_X0_9 hx hb hG hown hK hP 1 rfl rfl dX0_takeOver_14 ?_
  refine lv_iconst (v := (0 : Int32)) hx hb dX0_takeOver_17 (by decide) ?_
  refine lv_bipush (v := (20 : Int32)) hx hb dX0_takeOver_18 (by decide) ?_
  refine va_copyi hx hb (hml.trans hl.1.symm) hown (hG _ gm_607) (hG _ gm_602) (hG _ gm_601) (hG _ gm_17) hK hP hD hS 2 3 0 0 rfl rfl rfl rfl rfl (by decide) (by decide) (by decide) (Nat.not_lt.mp (by decide)) (Nat.not_lt.mp (by decide)) (fun _ _ => rfl) (Nat.le_of_ble_eq_true rfl) (Nat.le_of_ble_eq_true rfl) dX0_takeOver_20 (fun H locs hP hD hS => ?_)
  have hP : va_P D vwCl [(a1, .inr (0, [.ref a1_cashiers, .ref a1_tills, .ref a1_acts, .ref a1_wholes, .ref a1_begins, .ref a1_ends, .ref a1_answers, .int a1_n])), (a0, .inr (0, [.ref a0_cashiers, .ref a0_tills, .ref a0_acts, .ref a0_wholes, .ref a0_begins, .ref a0_ends, .ref a0_answers, .int a1_n])), (a1_cashiers, .inl (cyI, 20, .inl f_a1_cashiers)), (a0_cashiers, .inl (cyI, 20, .inl ((va_cpy f_a1_cashiers f_a0_cashiers (0 : Int32).toNatClampNeg (0 : Int32).toNatClampNeg (20 : Int32).toNatClampNeg)))), (a1_tills, .inl (cyI, 20, .inl f_a1_tills)), (a0_tills, .inl (cyI, 20, .inl f_a0_tills)), (a1_acts, .inl (cyI, 20, .inl f_a1_acts)), (a0_acts, .inl (cyI, 20, .inl f_a0_acts)), (a1_wholes, .inl (cyI, 20, .inl f_a1_wholes)), (a0_wholes, .inl (cyI, 20, .inl f_a0_wholes)), (a1_begins, .inl (cyI, 20, .inl f_a1_begins)), (a0_begins, .inl (cyI, 20, .inl f_a0_begins)), (a1_ends, .inl (cyI, 20, .inl f_a1_ends)), (a0_ends, .inl (cyI, 20, .inl f_a0_ends)), (a1_answers, .inl (cyI, 20, .inl f_a1_answers)), (a0_answers, .inl (cyI, 20, .inl f_a0_answers))] H := hP
  have hD : va_D A [(a1, .inr (0, [.ref a1_cashiers, .ref a1_tills, .ref a1_acts, .ref a1_wholes, .ref a1_begins, .ref a1_ends, .ref a1_answers, .int a1_n])), (a0, .inr (0, [.ref a0_cashiers, .ref a0_tills, .ref a0_acts, .ref a0_wholes, .ref a0_begins, .ref a0_ends, .ref a0_answers, .int a1_n])), (a1_cashiers, .inl (cyI, 20, .inl f_a1_cashiers)), (a0_cashiers, .inl (cyI, 20, .inl ((va_cpy f_a1_cashiers f_a0_cashiers (0 : Int32).toNatClampNeg (0 : Int32).toNatClampNeg (20 : Int32).toNatClampNeg)))), (a1_tills, .inl (cyI, 20, .inl f_a1_tills)), (a0_tills, .inl (cyI, 20, .inl f_a0_tills)), (a1_acts, .inl (cyI, 20, .inl f_a1_acts)), (a0_acts, .inl (cyI, 20, .inl f_a0_acts)), (a1_wholes, .inl (cyI, 20, .inl f_a1_wholes)), (a0_wholes, .inl (cyI, 20, .inl f_a0_wholes)), (a1_begins, .inl (cyI, 20, .inl f_a1_begins)), (a0_begins, .inl (cyI, 20, .inl f_a0_begins)), (a1_ends, .inl (cyI, 20, .inl f_a1_ends)), (a0_ends, .inl (cyI, 20, .inl f_a0_ends)), (a1_answers, .inl (cyI, 20, .inl f_a1_answers)), (a0_answers, .inl (cyI, 20, .inl f_a0_answers))] := hD
  refine lv_aload_n hx hb dX0_takeOver_23 rfl (lv_at hl 1 rfl) ?_
  refine gt_X0_15 hx hb hG hown hK hP 0 rfl rfl dX0_takeOver_24 ?_
  refine lv_iconst (v := (0 : Int32)) hx hb dX0_takeOver_27 (by decide) ?_
  refine lv_aload_n hx hb dX0_takeOver_28 rfl (lv_at hl 0 rfl) ?_
  refine gt_X0_15 hx hb hG hown hK hP 1 rfl rfl dX0_takeOver_29 ?_
  refine lv_iconst (v := (0 : Int32)) hx hb dX0_takeOver_32 (by decide) ?_
  refine lv_bipush (v := (20 : Int32)) hx hb dX0_takeOver_33 (by decide) ?_
  refine va_copyi hx hb (hml.trans hl.1.symm) hown (hG _ gm_607) (hG _ gm_602) (hG _ gm_601) (hG _ gm_17) hK hP hD hS 4 5 0 0 rfl rfl rfl rfl rfl (by decide) (by decide) (by decide) (Nat.not_lt.mp (by decide)) (Nat.not_lt.mp (by decide)) (fun _ _ => rfl) (Nat.le_of_ble_eq_true rfl) (Nat.le_of_ble_eq_true rfl) dX0_takeOver_35 (fun H locs hP hD hS => ?_)
  have hP : va_P D vwCl [(a1, .inr (0, [.ref a1_cashiers, .ref a1_tills, .ref a1_acts, .ref a1_wholes, .ref a1_begins, .ref a1_ends, .ref a1_answers, .int a1_n])), (a0, .inr (0, [.ref a0_cashiers, .ref a0_tills, .ref a0_acts, .ref a0_wholes, .ref a0_begins, .ref a0_ends, .ref a0_answers, .int a1_n])), (a1_cashiers, .inl (cyI, 20, .inl f_a1_cashiers)), (a0_cashiers, .inl (cyI, 20, .inl ((va_cpy f_a1_cashiers f_a0_cashiers (0 : Int32).toNatClampNeg (0 : Int32).toNatClampNeg (20 : Int32).toNatClampNeg)))), (a1_tills, .inl (cyI, 20, .inl f_a1_tills)), (a0_tills, .inl (cyI, 20, .inl ((va_cpy f_a1_tills f_a0_tills (0 : Int32).toNatClampNeg (0 : Int32).toNatClampNeg (20 : Int32).toNatClampNeg)))), (a1_acts, .inl (cyI, 20, .inl f_a1_acts)), (a0_acts, .inl (cyI, 20, .inl f_a0_acts)), (a1_wholes, .inl (cyI, 20, .inl f_a1_wholes)), (a0_wholes, .inl (cyI, 20, .inl f_a0_wholes)), (a1_begins, .inl (cyI, 20, .inl f_a1_begins)), (a0_begins, .inl (cyI, 20, .inl f_a0_begins)), (a1_ends, .inl (cyI, 20, .inl f_a1_ends)), (a0_ends, .inl (cyI, 20, .inl f_a0_ends)), (a1_answers, .inl (cyI, 20, .inl f_a1_answers)), (a0_answers, .inl (cyI, 20, .inl f_a0_answers))] H := hP
  have hD : va_D A [(a1, .inr (0, [.ref a1_cashiers, .ref a1_tills, .ref a1_acts, .ref a1_wholes, .ref a1_begins, .ref a1_ends, .ref a1_answers, .int a1_n])), (a0, .inr (0, [.ref a0_cashiers, .ref a0_tills, .ref a0_acts, .ref a0_wholes, .ref a0_begins, .ref a0_ends, .ref a0_answers, .int a1_n])), (a1_cashiers, .inl (cyI, 20, .inl f_a1_cashiers)), (a0_cashiers, .inl (cyI, 20, .inl ((va_cpy f_a1_cashiers f_a0_cashiers (0 : Int32).toNatClampNeg (0 : Int32).toNatClampNeg (20 : Int32).toNatClampNeg)))), (a1_tills, .inl (cyI, 20, .inl f_a1_tills)), (a0_tills, .inl (cyI, 20, .inl ((va_cpy f_a1_tills f_a0_tills (0 : Int32).toNatClampNeg (0 : Int32).toNatClampNeg (20 : Int32).toNatClampNeg)))), (a1_acts, .inl (cyI, 20, .inl f_a1_acts)), (a0_acts, .inl (cyI, 20, .inl f_a0_acts)), (a1_wholes, .inl (cyI, 20, .inl f_a1_wholes)), (a0_wholes, .inl (cyI, 20, .inl f_a0_wholes)), (a1_begins, .inl (cyI, 20, .inl f_a1_begins)), (a0_begins, .inl (cyI, 20, .inl f_a0_begins)), (a1_ends, .inl (cyI, 20, .inl f_a1_ends)), (a0_ends, .inl (cyI, 20, .inl f_a0_ends)), (a1_answers, .inl (cyI, 20, .inl f_a1_answers)), (a0_answers, .inl (cyI, 20, .inl f_a0_answers))] := hD
  refine lv_aload_n hx hb dX0_takeOver_38 rfl (lv_at hl 1 rfl) ?_
  refine gt_X0_18 hx hb hG hown hK hP 0 rfl rfl dX0_takeOver_39 ?_
  refine lv_iconst (v := (0 : Int32)) hx hb dX0_takeOver_42 (by decide) ?_
  refine lv_aload_n hx hb dX0_takeOver_43 rfl (lv_at hl 0 rfl) ?_
  refine gt_X0_18 hx hb hG hown hK hP 1 rfl rfl dX0_takeOver_44 ?_
  refine lv_iconst (v := (0 : Int32)) hx hb dX0_takeOver_47 (by decide) ?_
  refine lv_bipush (v := (20 : Int32)) hx hb dX0_takeOver_48 (by decide) ?_
  refine va_copyi hx hb (hml.trans hl.1.symm) hown (hG _ gm_607) (hG _ gm_602) (hG _ gm_601) (hG _ gm_17) hK hP hD hS 6 7 0 0 rfl rfl rfl rfl rfl (by decide) (by decide) (by decide) (Nat.not_lt.mp (by decide)) (Nat.not_lt.mp (by decide)) (fun _ _ => rfl) (Nat.le_of_ble_eq_true rfl) (Nat.le_of_ble_eq_true rfl) dX0_takeOver_50 (fun H locs hP hD hS => ?_)
  have hP : va_P D vwCl [(a1, .inr (0, [.ref a1_cashiers, .ref a1_tills, .ref a1_acts, .ref a1_wholes, .ref a1_begins, .ref a1_ends, .ref a1_answers, .int a1_n])), (a0, .inr (0, [.ref a0_cashiers, .ref a0_tills, .ref a0_acts, .ref a0_wholes, .ref a0_begins, .ref a0_ends, .ref a0_answers, .int a1_n])), (a1_cashiers, .inl (cyI, 20, .inl f_a1_cashiers)), (a0_cashiers, .inl (cyI, 20, .inl ((va_cpy f_a1_cashiers f_a0_cashiers (0 : Int32).toNatClampNeg (0 : Int32).toNatClampNeg (20 : Int32).toNatClampNeg)))), (a1_tills, .inl (cyI, 20, .inl f_a1_tills)), (a0_tills, .inl (cyI, 20, .inl ((va_cpy f_a1_tills f_a0_tills (0 : Int32).toNatClampNeg (0 : Int32).toNatClampNeg (20 : Int32).toNatClampNeg)))), (a1_acts, .inl (cyI, 20, .inl f_a1_acts)), (a0_acts, .inl (cyI, 20, .inl ((va_cpy f_a1_acts f_a0_acts (0 : Int32).toNatClampNeg (0 : Int32).toNatClampNeg (20 : Int32).toNatClampNeg)))), (a1_wholes, .inl (cyI, 20, .inl f_a1_wholes)), (a0_wholes, .inl (cyI, 20, .inl f_a0_wholes)), (a1_begins, .inl (cyI, 20, .inl f_a1_begins)), (a0_begins, .inl (cyI, 20, .inl f_a0_begins)), (a1_ends, .inl (cyI, 20, .inl f_a1_ends)), (a0_ends, .inl (cyI, 20, .inl f_a0_ends)), (a1_answers, .inl (cyI, 20, .inl f_a1_answers)), (a0_answers, .inl (cyI, 20, .inl f_a0_answers))] H := hP
  have hD : va_D A [(a1, .inr (0, [.ref a1_cashiers, .ref a1_tills, .ref a1_acts, .ref a1_wholes, .ref a1_begins, .ref a1_ends, .ref a1_answers, .int a1_n])), (a0, .inr (0, [.ref a0_cashiers, .ref a0_tills, .ref a0_acts, .ref a0_wholes, .ref a0_begins, .ref a0_ends, .ref a0_answers, .int a1_n])), (a1_cashiers, .inl (cyI, 20, .inl f_a1_cashiers)), (a0_cashiers, .inl (cyI, 20, .inl ((va_cpy f_a1_cashiers f_a0_cashiers (0 : Int32).toNatClampNeg (0 : Int32).toNatClampNeg (20 : Int32).toNatClampNeg)))), (a1_tills, .inl (cyI, 20, .inl f_a1_tills)), (a0_tills, .inl (cyI, 20, .inl ((va_cpy f_a1_tills f_a0_tills (0 : Int32).toNatClampNeg (0 : Int32).toNatClampNeg (20 : Int32).toNatClampNeg)))), (a1_acts, .inl (cyI, 20, .inl f_a1_acts)), (a0_acts, .inl (cyI, 20, .inl ((va_cpy f_a1_acts f_a0_acts (0 : Int32).toNatClampNeg (0 : Int32).toNatClampNeg (20 : Int32).toNatClampNeg)))), (a1_wholes, .inl (cyI, 20, .inl f_a1_wholes)), (a0_wholes, .inl (cyI, 20, .inl f_a0_wholes)), (a1_begins, .inl (cyI, 20, .inl f_a1_begins)), (a0_begins, .inl (cyI, 20, .inl f_a0_begins)), (a1_ends, .inl (cyI, 20, .inl f_a1_ends)), (a0_ends, .inl (cyI, 20, .inl f_a0_ends)), (a1_answers, .inl (cyI, 20, .inl f_a1_answers)), (a0_answers, .inl (cyI, 20, .inl f_a0_answers))] := hD
  refine lv_aload_n hx hb dX0_takeOver_53 rfl (lv_at hl 1 rfl) ?_
  refine gt_X0_21 hx hb hG hown hK hP 0 rfl rfl dX0_takeOver_54 ?_
  refine lv_iconst (v := (0 : Int32)) hx hb dX0_takeOver_57 (by decide) ?_
  refine lv_aload_n hx hb dX0_takeOver_58 rfl (lv_at hl 0 rfl) ?_
  refine gt_X0_21 hx hb hG hown hK hP 1 rfl rfl dX0_takeOver_59 ?_
  refine lv_iconst (v := (0 : Int32)) hx hb dX0_takeOver_62 (by decide) ?_
  refine lv_bipush (v := (20 : Int32)) hx hb dX0_takeOver_63 (by decide) ?_
  refine va_copyi hx hb (hml.trans hl.1.symm) hown (hG _ gm_607) (hG _ gm_602) (hG _ gm_601) (hG _ gm_17) hK hP hD hS 8 9 0 0 rfl rfl rfl rfl rfl (by decide) (by decide) (by decide) (Nat.not_lt.mp (by decide)) (Nat.not_lt.mp (by decide)) (fun _ _ => rfl) (Nat.le_of_ble_eq_true rfl) (Nat.le_of_ble_eq_true rfl) dX0_takeOver_65 (fun H locs hP hD hS => ?_)
  have hP : va_P D vwCl [(a1, .inr (0, [.ref a1_cashiers, .ref a1_tills, .ref a1_acts, .ref a1_wholes, .ref a1_begins, .ref a1_ends, .ref a1_answers, .int a1_n])), (a0, .inr (0, [.ref a0_cashiers, .ref a0_tills, .ref a0_acts, .ref a0_wholes, .ref a0_begins, .ref a0_ends, .ref a0_answers, .int a1_n])), (a1_cashiers, .inl (cyI, 20, .inl f_a1_cashiers)), (a0_cashiers, .inl (cyI, 20, .inl ((va_cpy f_a1_cashiers f_a0_cashiers (0 : Int32).toNatClampNeg (0 : Int32).toNatClampNeg (20 : Int32).toNatClampNeg)))), (a1_tills, .inl (cyI, 20, .inl f_a1_tills)), (a0_tills, .inl (cyI, 20, .inl ((va_cpy f_a1_tills f_a0_tills (0 : Int32).toNatClampNeg (0 : Int32).toNatClampNeg (20 : Int32).toNatClampNeg)))), (a1_acts, .inl (cyI, 20, .inl f_a1_acts)), (a0_acts, .inl (cyI, 20, .inl ((va_cpy f_a1_acts f_a0_acts (0 : Int32).toNatClampNeg (0 : Int32).toNatClampNeg (20 : Int32).toNatClampNeg)))), (a1_wholes, .inl (cyI, 20, .inl f_a1_wholes)), (a0_wholes, .inl (cyI, 20, .inl ((va_cpy f_a1_wholes f_a0_wholes (0 : Int32).toNatClampNeg (0 : Int32).toNatClampNeg (20 : Int32).toNatClampNeg)))), (a1_begins, .inl (cyI, 20, .inl f_a1_begins)), (a0_begins, .inl (cyI, 20, .inl f_a0_begins)), (a1_ends, .inl (cyI, 20, .inl f_a1_ends)), (a0_ends, .inl (cyI, 20, .inl f_a0_ends)), (a1_answers, .inl (cyI, 20, .inl f_a1_answers)), (a0_answers, .inl (cyI, 20, .inl f_a0_answers))] H := hP
  have hD : va_D A [(a1, .inr (0, [.ref a1_cashiers, .ref a1_tills, .ref a1_acts, .ref a1_wholes, .ref a1_begins, .ref a1_ends, .ref a1_answers, .int a1_n])), (a0, .inr (0, [.ref a0_cashiers, .ref a0_tills, .ref a0_acts, .ref a0_wholes, .ref a0_begins, .ref a0_ends, .ref a0_answers, .int a1_n])), (a1_cashiers, .inl (cyI, 20, .inl f_a1_cashiers)), (a0_cashiers, .inl (cyI, 20, .inl ((va_cpy f_a1_cashiers f_a0_cashiers (0 : Int32).toNatClampNeg (0 : Int32).toNatClampNeg (20 : Int32).toNatClampNeg)))), (a1_tills, .inl (cyI, 20, .inl f_a1_tills)), (a0_tills, .inl (cyI, 20, .inl ((va_cpy f_a1_tills f_a0_tills (0 : Int32).toNatClampNeg (0 : Int32).toNatClampNeg (20 : Int32).toNatClampNeg)))), (a1_acts, .inl (cyI, 20, .inl f_a1_acts)), (a0_acts, .inl (cyI, 20, .inl ((va_cpy f_a1_acts f_a0_acts (0 : Int32).toNatClampNeg (0 : Int32).toNatClampNeg (20 : Int32).toNatClampNeg)))), (a1_wholes, .inl (cyI, 20, .inl f_a1_wholes)), (a0_wholes, .inl (cyI, 20, .inl ((va_cpy f_a1_wholes f_a0_wholes (0 : Int32).toNatClampNeg (0 : Int32).toNatClampNeg (20 : Int32).toNatClampNeg)))), (a1_begins, .inl (cyI, 20, .inl f_a1_begins)), (a0_begins, .inl (cyI, 20, .inl f_a0_begins)), (a1_ends, .inl (cyI, 20, .inl f_a1_ends)), (a0_ends, .inl (cyI, 20, .inl f_a0_ends)), (a1_answers, .inl (cyI, 20, .inl f_a1_answers)), (a0_answers, .inl (cyI, 20, .inl f_a0_answers))] := hD
  refine lv_aload_n hx hb dX0_takeOver_68 rfl (lv_at hl 1 rfl) ?_
  refine gt_X0_24 hx hb hG hown hK hP 0 rfl rfl dX0_takeOver_69 ?_
  refine lv_iconst (v := (0 : Int32)) hx hb dX0_takeOver_72 (by decide) ?_
  refine lv_aload_n hx hb dX0_takeOver_73 rfl (lv_at hl 0 rfl) ?_
  refine gt_X0_24 hx hb hG hown hK hP 1 rfl rfl dX0_takeOver_74 ?_
  refine lv_iconst (v := (0 : Int32)) hx hb dX0_takeOver_77 (by decide) ?_
  refine lv_bipush (v := (20 : Int32)) hx hb dX0_takeOver_78 (by decide) ?_
  refine va_copyi hx hb (hml.trans hl.1.symm) hown (hG _ gm_607) (hG _ gm_602) (hG _ gm_601) (hG _ gm_17) hK hP hD hS 10 11 0 0 rfl rfl rfl rfl rfl (by decide) (by decide) (by decide) (Nat.not_lt.mp (by decide)) (Nat.not_lt.mp (by decide)) (fun _ _ => rfl) (Nat.le_of_ble_eq_true rfl) (Nat.le_of_ble_eq_true rfl) dX0_takeOver_80 (fun H locs hP hD hS => ?_)
  have hP : va_P D vwCl [(a1, .inr (0, [.ref a1_cashiers, .ref a1_tills, .ref a1_acts, .ref a1_wholes, .ref a1_begins, .ref a1_ends, .ref a1_answers, .int a1_n])), (a0, .inr (0, [.ref a0_cashiers, .ref a0_tills, .ref a0_acts, .ref a0_wholes, .ref a0_begins, .ref a0_ends, .ref a0_answers, .int a1_n])), (a1_cashiers, .inl (cyI, 20, .inl f_a1_cashiers)), (a0_cashiers, .inl (cyI, 20, .inl ((va_cpy f_a1_cashiers f_a0_cashiers (0 : Int32).toNatClampNeg (0 : Int32).toNatClampNeg (20 : Int32).toNatClampNeg)))), (a1_tills, .inl (cyI, 20, .inl f_a1_tills)), (a0_tills, .inl (cyI, 20, .inl ((va_cpy f_a1_tills f_a0_tills (0 : Int32).toNatClampNeg (0 : Int32).toNatClampNeg (20 : Int32).toNatClampNeg)))), (a1_acts, .inl (cyI, 20, .inl f_a1_acts)), (a0_acts, .inl (cyI, 20, .inl ((va_cpy f_a1_acts f_a0_acts (0 : Int32).toNatClampNeg (0 : Int32).toNatClampNeg (20 : Int32).toNatClampNeg)))), (a1_wholes, .inl (cyI, 20, .inl f_a1_wholes)), (a0_wholes, .inl (cyI, 20, .inl ((va_cpy f_a1_wholes f_a0_wholes (0 : Int32).toNatClampNeg (0 : Int32).toNatClampNeg (20 : Int32).toNatClampNeg)))), (a1_begins, .inl (cyI, 20, .inl f_a1_begins)), (a0_begins, .inl (cyI, 20, .inl ((va_cpy f_a1_begins f_a0_begins (0 : Int32).toNatClampNeg (0 : Int32).toNatClampNeg (20 : Int32).toNatClampNeg)))), (a1_ends, .inl (cyI, 20, .inl f_a1_ends)), (a0_ends, .inl (cyI, 20, .inl f_a0_ends)), (a1_answers, .inl (cyI, 20, .inl f_a1_answers)), (a0_answers, .inl (cyI, 20, .inl f_a0_answers))] H := hP
  have hD : va_D A [(a1, .inr (0, [.ref a1_cashiers, .ref a1_tills, .ref a1_acts, .ref a1_wholes, .ref a1_begins, .ref a1_ends, .ref a1_answers, .int a1_n])), (a0, .inr (0, [.ref a0_cashiers, .ref a0_tills, .ref a0_acts, .ref a0_wholes, .ref a0_begins, .ref a0_ends, .ref a0_answers, .int a1_n])), (a1_cashiers, .inl (cyI, 20, .inl f_a1_cashiers)), (a0_cashiers, .inl (cyI, 20, .inl ((va_cpy f_a1_cashiers f_a0_cashiers (0 : Int32).toNatClampNeg (0 : Int32).toNatClampNeg (20 : Int32).toNatClampNeg)))), (a1_tills, .inl (cyI, 20, .inl f_a1_tills)), (a0_tills, .inl (cyI, 20, .inl ((va_cpy f_a1_tills f_a0_tills (0 : Int32).toNatClampNeg (0 : Int32).toNatClampNeg (20 : Int32).toNatClampNeg)))), (a1_acts, .inl (cyI, 20, .inl f_a1_acts)), (a0_acts, .inl (cyI, 20, .inl ((va_cpy f_a1_acts f_a0_acts (0 : Int32).toNatClampNeg (0 : Int32).toNatClampNeg (20 : Int32).toNatClampNeg)))), (a1_wholes, .inl (cyI, 20, .inl f_a1_wholes)), (a0_wholes, .inl (cyI, 20, .inl ((va_cpy f_a1_wholes f_a0_wholes (0 : Int32).toNatClampNeg (0 : Int32).toNatClampNeg (20 : Int32).toNatClampNeg)))), (a1_begins, .inl (cyI, 20, .inl f_a1_begins)), (a0_begins, .inl (cyI, 20, .inl ((va_cpy f_a1_begins f_a0_begins (0 : Int32).toNatClampNeg (0 : Int32).toNatClampNeg (20 : Int32).toNatClampNeg)))), (a1_ends, .inl (cyI, 20, .inl f_a1_ends)), (a0_ends, .inl (cyI, 20, .inl f_a0_ends)), (a1_answers, .inl (cyI, 20, .inl f_a1_answers)), (a0_answers, .inl (cyI, 20, .inl f_a0_answers))] := hD
  refine lv_aload_n hx hb dX0_takeOver_83 rfl (lv_at hl 1 rfl) ?_
  refine gt_X0_27 hx hb hG hown hK hP 0 rfl rfl dX0_takeOver_84 ?_
  refine lv_iconst (v := (0 : Int32)) hx hb dX0_takeOver_87 (by decide) ?_
  refine lv_aload_n hx hb dX0_takeOver_88 rfl (lv_at hl 0 rfl) ?_
  refine gt_X0_27 hx hb hG hown hK hP 1 rfl rfl dX0_takeOver_89 ?_
  refine lv_iconst (v := (0 : Int32)) hx hb dX0_takeOver_92 (by decide) ?_
  refine lv_bipush (v := (20 : Int32)) hx hb dX0_takeOver_93 (by decide) ?_
  refine va_copyi hx hb (hml.trans hl.1.symm) hown (hG _ gm_607) (hG _ gm_602) (hG _ gm_601) (hG _ gm_17) hK hP hD hS 12 13 0 0 rfl rfl rfl rfl rfl (by decide) (by decide) (by decide) (Nat.not_lt.mp (by decide)) (Nat.not_lt.mp (by decide)) (fun _ _ => rfl) (Nat.le_of_ble_eq_true rfl) (Nat.le_of_ble_eq_true rfl) dX0_takeOver_95 (fun H locs hP hD hS => ?_)
  have hP : va_P D vwCl [(a1, .inr (0, [.ref a1_cashiers, .ref a1_tills, .ref a1_acts, .ref a1_wholes, .ref a1_begins, .ref a1_ends, .ref a1_answers, .int a1_n])), (a0, .inr (0, [.ref a0_cashiers, .ref a0_tills, .ref a0_acts, .ref a0_wholes, .ref a0_begins, .ref a0_ends, .ref a0_answers, .int a1_n])), (a1_cashiers, .inl (cyI, 20, .inl f_a1_cashiers)), (a0_cashiers, .inl (cyI, 20, .inl ((va_cpy f_a1_cashiers f_a0_cashiers (0 : Int32).toNatClampNeg (0 : Int32).toNatClampNeg (20 : Int32).toNatClampNeg)))), (a1_tills, .inl (cyI, 20, .inl f_a1_tills)), (a0_tills, .inl (cyI, 20, .inl ((va_cpy f_a1_tills f_a0_tills (0 : Int32).toNatClampNeg (0 : Int32).toNatClampNeg (20 : Int32).toNatClampNeg)))), (a1_acts, .inl (cyI, 20, .inl f_a1_acts)), (a0_acts, .inl (cyI, 20, .inl ((va_cpy f_a1_acts f_a0_acts (0 : Int32).toNatClampNeg (0 : Int32).toNatClampNeg (20 : Int32).toNatClampNeg)))), (a1_wholes, .inl (cyI, 20, .inl f_a1_wholes)), (a0_wholes, .inl (cyI, 20, .inl ((va_cpy f_a1_wholes f_a0_wholes (0 : Int32).toNatClampNeg (0 : Int32).toNatClampNeg (20 : Int32).toNatClampNeg)))), (a1_begins, .inl (cyI, 20, .inl f_a1_begins)), (a0_begins, .inl (cyI, 20, .inl ((va_cpy f_a1_begins f_a0_begins (0 : Int32).toNatClampNeg (0 : Int32).toNatClampNeg (20 : Int32).toNatClampNeg)))), (a1_ends, .inl (cyI, 20, .inl f_a1_ends)), (a0_ends, .inl (cyI, 20, .inl ((va_cpy f_a1_ends f_a0_ends (0 : Int32).toNatClampNeg (0 : Int32).toNatClampNeg (20 : Int32).toNatClampNeg)))), (a1_answers, .inl (cyI, 20, .inl f_a1_answers)), (a0_answers, .inl (cyI, 20, .inl f_a0_answers))] H := hP
  have hD : va_D A [(a1, .inr (0, [.ref a1_cashiers, .ref a1_tills, .ref a1_acts, .ref a1_wholes, .ref a1_begins, .ref a1_ends, .ref a1_answers, .int a1_n])), (a0, .inr (0, [.ref a0_cashiers, .ref a0_tills, .ref a0_acts, .ref a0_wholes, .ref a0_begins, .ref a0_ends, .ref a0_answers, .int a1_n])), (a1_cashiers, .inl (cyI, 20, .inl f_a1_cashiers)), (a0_cashiers, .inl (cyI, 20, .inl ((va_cpy f_a1_cashiers f_a0_cashiers (0 : Int32).toNatClampNeg (0 : Int32).toNatClampNeg (20 : Int32).toNatClampNeg)))), (a1_tills, .inl (cyI, 20, .inl f_a1_tills)), (a0_tills, .inl (cyI, 20, .inl ((va_cpy f_a1_tills f_a0_tills (0 : Int32).toNatClampNeg (0 : Int32).toNatClampNeg (20 : Int32).toNatClampNeg)))), (a1_acts, .inl (cyI, 20, .inl f_a1_acts)), (a0_acts, .inl (cyI, 20, .inl ((va_cpy f_a1_acts f_a0_acts (0 : Int32).toNatClampNeg (0 : Int32).toNatClampNeg (20 : Int32).toNatClampNeg)))), (a1_wholes, .inl (cyI, 20, .inl f_a1_wholes)), (a0_wholes, .inl (cyI, 20, .inl ((va_cpy f_a1_wholes f_a0_wholes (0 : Int32).toNatClampNeg (0 : Int32).toNatClampNeg (20 : Int32).toNatClampNeg)))), (a1_begins, .inl (cyI, 20, .inl f_a1_begins)), (a0_begins, .inl (cyI, 20, .inl ((va_cpy f_a1_begins f_a0_begins (0 : Int32).toNatClampNeg (0 : Int32).toNatClampNeg (20 : Int32).toNatClampNeg)))), (a1_ends, .inl (cyI, 20, .inl f_a1_ends)), (a0_ends, .inl (cyI, 20, .inl ((va_cpy f_a1_ends f_a0_ends (0 : Int32).toNatClampNeg (0 : Int32).toNatClampNeg (20 : Int32).toNatClampNeg)))), (a1_answers, .inl (cyI, 20, .inl f_a1_answers)), (a0_answers, .inl (cyI, 20, .inl f_a0_answers))] := hD
  refine lv_aload_n hx hb dX0_takeOver_98 rfl (lv_at hl 1 rfl) ?_
  refine gt_X0_30 hx hb hG hown hK hP 0 rfl rfl dX0_takeOver_99 ?_
  refine lv_iconst (v := (0 : Int32)) hx hb dX0_takeOver_102 (by decide) ?_
  refine lv_aload_n hx hb dX0_takeOver_103 rfl (lv_at hl 0 rfl) ?_
  refine gt_X0_30 hx hb hG hown hK hP 1 rfl rfl dX0_takeOver_104 ?_
  refine lv_iconst (v := (0 : Int32)) hx hb dX0_takeOver_107 (by decide) ?_
  refine lv_bipush (v := (20 : Int32)) hx hb dX0_takeOver_108 (by decide) ?_
  refine va_copyi hx hb (hml.trans hl.1.symm) hown (hG _ gm_607) (hG _ gm_602) (hG _ gm_601) (hG _ gm_17) hK hP hD hS 14 15 0 0 rfl rfl rfl rfl rfl (by decide) (by decide) (by decide) (Nat.not_lt.mp (by decide)) (Nat.not_lt.mp (by decide)) (fun _ _ => rfl) (Nat.le_of_ble_eq_true rfl) (Nat.le_of_ble_eq_true rfl) dX0_takeOver_110 (fun H locs hP hD hS => ?_)
  have hP : va_P D vwCl [(a1, .inr (0, [.ref a1_cashiers, .ref a1_tills, .ref a1_acts, .ref a1_wholes, .ref a1_begins, .ref a1_ends, .ref a1_answers, .int a1_n])), (a0, .inr (0, [.ref a0_cashiers, .ref a0_tills, .ref a0_acts, .ref a0_wholes, .ref a0_begins, .ref a0_ends, .ref a0_answers, .int a1_n])), (a1_cashiers, .inl (cyI, 20, .inl f_a1_cashiers)), (a0_cashiers, .inl (cyI, 20, .inl ((va_cpy f_a1_cashiers f_a0_cashiers (0 : Int32).toNatClampNeg (0 : Int32).toNatClampNeg (20 : Int32).toNatClampNeg)))), (a1_tills, .inl (cyI, 20, .inl f_a1_tills)), (a0_tills, .inl (cyI, 20, .inl ((va_cpy f_a1_tills f_a0_tills (0 : Int32).toNatClampNeg (0 : Int32).toNatClampNeg (20 : Int32).toNatClampNeg)))), (a1_acts, .inl (cyI, 20, .inl f_a1_acts)), (a0_acts, .inl (cyI, 20, .inl ((va_cpy f_a1_acts f_a0_acts (0 : Int32).toNatClampNeg (0 : Int32).toNatClampNeg (20 : Int32).toNatClampNeg)))), (a1_wholes, .inl (cyI, 20, .inl f_a1_wholes)), (a0_wholes, .inl (cyI, 20, .inl ((va_cpy f_a1_wholes f_a0_wholes (0 : Int32).toNatClampNeg (0 : Int32).toNatClampNeg (20 : Int32).toNatClampNeg)))), (a1_begins, .inl (cyI, 20, .inl f_a1_begins)), (a0_begins, .inl (cyI, 20, .inl ((va_cpy f_a1_begins f_a0_begins (0 : Int32).toNatClampNeg (0 : Int32).toNatClampNeg (20 : Int32).toNatClampNeg)))), (a1_ends, .inl (cyI, 20, .inl f_a1_ends)), (a0_ends, .inl (cyI, 20, .inl ((va_cpy f_a1_ends f_a0_ends (0 : Int32).toNatClampNeg (0 : Int32).toNatClampNeg (20 : Int32).toNatClampNeg)))), (a1_answers, .inl (cyI, 20, .inl f_a1_answers)), (a0_answers, .inl (cyI, 20, .inl ((va_cpy f_a1_answers f_a0_answers (0 : Int32).toNatClampNeg (0 : Int32).toNatClampNeg (20 : Int32).toNatClampNeg))))] H := hP
  have hD : va_D A [(a1, .inr (0, [.ref a1_cashiers, .ref a1_tills, .ref a1_acts, .ref a1_wholes, .ref a1_begins, .ref a1_ends, .ref a1_answers, .int a1_n])), (a0, .inr (0, [.ref a0_cashiers, .ref a0_tills, .ref a0_acts, .ref a0_wholes, .ref a0_begins, .ref a0_ends, .ref a0_answers, .int a1_n])), (a1_cashiers, .inl (cyI, 20, .inl f_a1_cashiers)), (a0_cashiers, .inl (cyI, 20, .inl ((va_cpy f_a1_cashiers f_a0_cashiers (0 : Int32).toNatClampNeg (0 : Int32).toNatClampNeg (20 : Int32).toNatClampNeg)))), (a1_tills, .inl (cyI, 20, .inl f_a1_tills)), (a0_tills, .inl (cyI, 20, .inl ((va_cpy f_a1_tills f_a0_tills (0 : Int32).toNatClampNeg (0 : Int32).toNatClampNeg (20 : Int32).toNatClampNeg)))), (a1_acts, .inl (cyI, 20, .inl f_a1_acts)), (a0_acts, .inl (cyI, 20, .inl ((va_cpy f_a1_acts f_a0_acts (0 : Int32).toNatClampNeg (0 : Int32).toNatClampNeg (20 : Int32).toNatClampNeg)))), (a1_wholes, .inl (cyI, 20, .inl f_a1_wholes)), (a0_wholes, .inl (cyI, 20, .inl ((va_cpy f_a1_wholes f_a0_wholes (0 : Int32).toNatClampNeg (0 : Int32).toNatClampNeg (20 : Int32).toNatClampNeg)))), (a1_begins, .inl (cyI, 20, .inl f_a1_begins)), (a0_begins, .inl (cyI, 20, .inl ((va_cpy f_a1_begins f_a0_begins (0 : Int32).toNatClampNeg (0 : Int32).toNatClampNeg (20 : Int32).toNatClampNeg)))), (a1_ends, .inl (cyI, 20, .inl f_a1_ends)), (a0_ends, .inl (cyI, 20, .inl ((va_cpy f_a1_ends f_a0_ends (0 : Int32).toNatClampNeg (0 : Int32).toNatClampNeg (20 : Int32).toNatClampNeg)))), (a1_answers, .inl (cyI, 20, .inl f_a1_answers)), (a0_answers, .inl (cyI, 20, .inl ((va_cpy f_a1_answers f_a0_answers (0 : Int32).toNatClampNeg (0 : Int32).toNatClampNeg (20 : Int32).toNatClampNeg))))] := hD
  exact kRv (τ := Int32 × (Nat → Int32) × (Nat → Int32) × (Nat → Int32) × (Nat → Int32) × (Nat → Int32) × (Nat → Int32) × (Nat → Int32)) (cv := (a1_n, (va_cpy f_a1_cashiers f_a0_cashiers (0 : Int32).toNatClampNeg (0 : Int32).toNatClampNeg (20 : Int32).toNatClampNeg), (va_cpy f_a1_tills f_a0_tills (0 : Int32).toNatClampNeg (0 : Int32).toNatClampNeg (20 : Int32).toNatClampNeg), (va_cpy f_a1_acts f_a0_acts (0 : Int32).toNatClampNeg (0 : Int32).toNatClampNeg (20 : Int32).toNatClampNeg), (va_cpy f_a1_wholes f_a0_wholes (0 : Int32).toNatClampNeg (0 : Int32).toNatClampNeg (20 : Int32).toNatClampNeg), (va_cpy f_a1_begins f_a0_begins (0 : Int32).toNatClampNeg (0 : Int32).toNatClampNeg (20 : Int32).toNatClampNeg), (va_cpy f_a1_ends f_a0_ends (0 : Int32).toNatClampNeg (0 : Int32).toNatClampNeg (20 : Int32).toNatClampNeg), (va_cpy f_a1_answers f_a0_answers (0 : Int32).toNatClampNeg (0 : Int32).toNatClampNeg (20 : Int32).toNatClampNeg))) (fw := fun u => [(a1, .inr (0, [.ref a1_cashiers, .ref a1_tills, .ref a1_acts, .ref a1_wholes, .ref a1_begins, .ref a1_ends, .ref a1_answers, .int a1_n])), (a0, .inr (0, [.ref a0_cashiers, .ref a0_tills, .ref a0_acts, .ref a0_wholes, .ref a0_begins, .ref a0_ends, .ref a0_answers, .int u.1])), (a1_cashiers, .inl (cyI, 20, .inl f_a1_cashiers)), (a0_cashiers, .inl (cyI, 20, .inl (u.2.1))), (a1_tills, .inl (cyI, 20, .inl f_a1_tills)), (a0_tills, .inl (cyI, 20, .inl (u.2.2.1))), (a1_acts, .inl (cyI, 20, .inl f_a1_acts)), (a0_acts, .inl (cyI, 20, .inl (u.2.2.2.1))), (a1_wholes, .inl (cyI, 20, .inl f_a1_wholes)), (a0_wholes, .inl (cyI, 20, .inl (u.2.2.2.2.1))), (a1_begins, .inl (cyI, 20, .inl f_a1_begins)), (a0_begins, .inl (cyI, 20, .inl (u.2.2.2.2.2.1))), (a1_ends, .inl (cyI, 20, .inl f_a1_ends)), (a0_ends, .inl (cyI, 20, .inl (u.2.2.2.2.2.2.1))), (a1_answers, .inl (cyI, 20, .inl f_a1_answers)), (a0_answers, .inl (cyI, 20, .inl (u.2.2.2.2.2.2.2)))]) hQ hx hb hr hlocks hK hP hD hS hF  dX0_takeOver_113
set_option maxHeartbeats 4000000 in
set_option maxRecDepth 100000 in
theorem c_X0_has (l : Launch) (D : va_G) (cyI cyJ cyZ cyO : ClassId) (a0 : Nat) (a0_cashiers : Nat) (a0_tills : Nat) (a0_acts : Nat) (a0_wholes : Nat) (a0_begins : Nat) (a0_ends : Nat) (a0_answers : Nat) (a0_n : Int32) (v1 : Int32) (sz : Nat) (o : Int32) (hF : F_X0_has a0_n v1 = some o) : mI l yX0_has cX0_has 2 (some .boolean) ({ frames := 0, cells := 0, slots := 0, locals := 0 } : Room) D (wT cyI cyJ cyZ cyO) [.ref a0, .int v1] sz [(a0, .inr (0, [.ref a0_cashiers, .ref a0_tills, .ref a0_acts, .ref a0_wholes, .ref a0_begins, .ref a0_ends, .ref a0_answers, .int a0_n]))] o [(a0, .inr (0, [.ref a0_cashiers, .ref a0_tills, .ref a0_acts, .ref a0_wholes, .ref a0_begins, .ref a0_ends, .ref a0_answers, .int a0_n]))] := by
  refine kM_i (by decide +kernel) (Nat.le_of_ble_eq_true rfl) ?_
  intro p e s m args below meth c A ls Q hx hb hr hlocks hml hown hG hK hA hP hD hS hl hQ
  have hown : s.vm.findClass RX0 = some m.cls := hown
  have hl : lv_has ls 2 [(0, .ref a0), (1, .int v1)] := hl
  obtain ⟨H, hH⟩ : ∃ H : Heap, H = s.heap := ⟨_, rfl⟩
  obtain ⟨locs, hlo⟩ : ∃ L : List Loc, L = [] := ⟨_, rfl⟩
  have hP : va_P D vwCl [(a0, .inr (0, [.ref a0_cashiers, .ref a0_tills, .ref a0_acts, .ref a0_wholes, .ref a0_begins, .ref a0_ends, .ref a0_answers, .int a0_n]))] H := by rw [hH]; exact hP
  have hS : va_S A s.heap H locs := by rw [hH, hlo]; exact hS
  show W p l e ({ frames := 0, cells := 0, slots := 0, locals := 0 } : Room) s m args below meth c s.heap [] 0 0 Q (F0 m 0 ls [])
  suffices hgo : W p l e ({ frames := 0, cells := 0, slots := 0, locals := 0 } : Room) s m args below meth c H locs 0 0 Q (F0 m 0 ls []) by rw [hH, hlo] at hgo; exact hgo
  refine lv_iload_n hx hb dX0_has_0 rfl (lv_at hl 1 rfl) ?_
  refine lv_if_lt (tgt := 22) hx hb dX0_has_1 (by decide) (fun h => ?_) (fun h => ?_)
  · have hF := t_pos h hF
    refine lv_iconst (v := (0 : Int32)) hx hb dX0_has_22 (by decide) ?_
    exact kRz (τ := Int32) (cv := (0 : Int32)) (fr := fun u => u) (fw := fun u => [(a0, .inr (0, [.ref a0_cashiers, .ref a0_tills, .ref a0_acts, .ref a0_wholes, .ref a0_begins, .ref a0_ends, .ref a0_answers, .int a0_n]))]) hQ hx hb hr hlocks hK hP hD hS hF rfl rfl dX0_has_23
  · have hF := t_neg h hF
    refine lv_iload_n hx hb dX0_has_4 rfl (lv_at hl 1 rfl) ?_
    refine lv_aload_n hx hb dX0_has_5 rfl (lv_at hl 0 rfl) ?_
    refine gt_X0_33 hx hb hG hown hK hP 0 rfl rfl dX0_has_6 ?_
    refine lv_icmp_ge (tgt := 22) hx hb dX0_has_9 (by decide) (fun h => ?_) (fun h => ?_)
    · have hF := t_pos h hF
      refine lv_iconst (v := (0 : Int32)) hx hb dX0_has_22 (by decide) ?_
      exact kRz (τ := Int32) (cv := (0 : Int32)) (fr := fun u => u) (fw := fun u => [(a0, .inr (0, [.ref a0_cashiers, .ref a0_tills, .ref a0_acts, .ref a0_wholes, .ref a0_begins, .ref a0_ends, .ref a0_answers, .int a0_n]))]) hQ hx hb hr hlocks hK hP hD hS hF rfl rfl dX0_has_23
    · have hF := t_neg h hF
      refine lv_iload_n hx hb dX0_has_12 rfl (lv_at hl 1 rfl) ?_
      refine lv_bipush (v := (20 : Int32)) hx hb dX0_has_13 (by decide) ?_
      refine lv_icmp_ge (tgt := 22) hx hb dX0_has_15 (by decide) (fun h => ?_) (fun h => ?_)
      · have hF := t_pos h hF
        refine lv_iconst (v := (0 : Int32)) hx hb dX0_has_22 (by decide) ?_
        exact kRz (τ := Int32) (cv := (0 : Int32)) (fr := fun u => u) (fw := fun u => [(a0, .inr (0, [.ref a0_cashiers, .ref a0_tills, .ref a0_acts, .ref a0_wholes, .ref a0_begins, .ref a0_ends, .ref a0_answers, .int a0_n]))]) hQ hx hb hr hlocks hK hP hD hS hF rfl rfl dX0_has_23
      · have hF := t_neg h hF
        refine lv_iconst (v := (1 : Int32)) hx hb dX0_has_18 (by decide) ?_
        refine lv_goto (tgt := 23) hx hb dX0_has_19 (by decide) ?_
        exact kRz (τ := Int32) (cv := (1 : Int32)) (fr := fun u => u) (fw := fun u => [(a0, .inr (0, [.ref a0_cashiers, .ref a0_tills, .ref a0_acts, .ref a0_wholes, .ref a0_begins, .ref a0_ends, .ref a0_answers, .int a0_n]))]) hQ hx hb hr hlocks hK hP hD hS hF rfl rfl dX0_has_23
set_option maxHeartbeats 4000000 in
set_option maxRecDepth 100000 in
theorem c_X0_addOpen (l : Launch) (D : va_G) (cyI cyJ cyZ cyO : ClassId) (a0 : Nat) (a0_cashiers : Nat) (a0_tills : Nat) (a0_acts : Nat) (a0_wholes : Nat) (a0_begins : Nat) (a0_ends : Nat) (a0_answers : Nat) (a0_n : Int32) (f_a0_cashiers : Nat → Int32) (f_a0_tills : Nat → Int32) (f_a0_acts : Nat → Int32) (f_a0_wholes : Nat → Int32) (f_a0_begins : Nat → Int32) (f_a0_ends : Nat → Int32) (f_a0_answers : Nat → Int32) (v1 : Int32) (v2 : Int32) (v3 : Int32) (v4 : Int32) (v5 : Int32) (sz : Nat) (o : Int32 × Int32 × (Nat → Int32) × (Nat → Int32) × (Nat → Int32) × (Nat → Int32) × (Nat → Int32) × (Nat → Int32) × (Nat → Int32)) (hF : F_X0_addOpen a0_n f_a0_cashiers f_a0_tills f_a0_acts f_a0_wholes f_a0_begins f_a0_ends f_a0_answers v1 v2 v3 v4 v5 = some o) : mI l yX0_addOpen cX0_addOpen 6 (some .int) ({ frames := 0, cells := 0, slots := 0, locals := 0 } : Room) D (wT cyI cyJ cyZ cyO) [.ref a0, .int v1, .int v2, .int v3, .int v4, .int v5] sz [(a0, .inr (0, [.ref a0_cashiers, .ref a0_tills, .ref a0_acts, .ref a0_wholes, .ref a0_begins, .ref a0_ends, .ref a0_answers, .int a0_n])), (a0_cashiers, .inl (cyI, 20, .inl f_a0_cashiers)), (a0_tills, .inl (cyI, 20, .inl f_a0_tills)), (a0_acts, .inl (cyI, 20, .inl f_a0_acts)), (a0_wholes, .inl (cyI, 20, .inl f_a0_wholes)), (a0_begins, .inl (cyI, 20, .inl f_a0_begins)), (a0_ends, .inl (cyI, 20, .inl f_a0_ends)), (a0_answers, .inl (cyI, 20, .inl f_a0_answers))] o.1 [(a0, .inr (0, [.ref a0_cashiers, .ref a0_tills, .ref a0_acts, .ref a0_wholes, .ref a0_begins, .ref a0_ends, .ref a0_answers, .int o.2.1])), (a0_cashiers, .inl (cyI, 20, .inl (o.2.2.1))), (a0_tills, .inl (cyI, 20, .inl (o.2.2.2.1))), (a0_acts, .inl (cyI, 20, .inl (o.2.2.2.2.1))), (a0_wholes, .inl (cyI, 20, .inl (o.2.2.2.2.2.1))), (a0_begins, .inl (cyI, 20, .inl (o.2.2.2.2.2.2.1))), (a0_ends, .inl (cyI, 20, .inl (o.2.2.2.2.2.2.2.1))), (a0_answers, .inl (cyI, 20, .inl (o.2.2.2.2.2.2.2.2)))] := by
  refine kM_i (by decide +kernel) (Nat.le_of_ble_eq_true rfl) ?_
  intro p e s m args below meth c A ls Q hx hb hr hlocks hml hown hG hK hA hP hD hS hl hQ
  have hown : s.vm.findClass RX0 = some m.cls := hown
  have hl : lv_has ls 6 [(0, .ref a0), (1, .int v1), (2, .int v2), (3, .int v3), (4, .int v4), (5, .int v5)] := hl
  obtain ⟨H, hH⟩ : ∃ H : Heap, H = s.heap := ⟨_, rfl⟩
  obtain ⟨locs, hlo⟩ : ∃ L : List Loc, L = [] := ⟨_, rfl⟩
  have hP : va_P D vwCl [(a0, .inr (0, [.ref a0_cashiers, .ref a0_tills, .ref a0_acts, .ref a0_wholes, .ref a0_begins, .ref a0_ends, .ref a0_answers, .int a0_n])), (a0_cashiers, .inl (cyI, 20, .inl f_a0_cashiers)), (a0_tills, .inl (cyI, 20, .inl f_a0_tills)), (a0_acts, .inl (cyI, 20, .inl f_a0_acts)), (a0_wholes, .inl (cyI, 20, .inl f_a0_wholes)), (a0_begins, .inl (cyI, 20, .inl f_a0_begins)), (a0_ends, .inl (cyI, 20, .inl f_a0_ends)), (a0_answers, .inl (cyI, 20, .inl f_a0_answers))] H := by rw [hH]; exact hP
  have hS : va_S A s.heap H locs := by rw [hH, hlo]; exact hS
  show W p l e ({ frames := 0, cells := 0, slots := 0, locals := 0 } : Room) s m args below meth c s.heap [] 0 0 Q (F0 m 0 ls [])
  suffices hgo : W p l e ({ frames := 0, cells := 0, slots := 0, locals := 0 } : Room) s m args below meth c H locs 0 0 Q (F0 m 0 ls []) by rw [hH, hlo] at hgo; exact hgo
  refine lv_aload_n hx hb dX0_addOpen_0 rfl (lv_at hl 0 rfl) ?_
  refine gt_X0_33 hx hb hG hown hK hP 0 rfl rfl dX0_addOpen_1 ?_
  refine lv_bipush (v := (20 : Int32)) hx hb dX0_addOpen_4 (by decide) ?_
  refine lv_icmp_lt (tgt := 11) hx hb dX0_addOpen_6 (by decide) (fun h => ?_) (fun h => ?_)
  · have hF := t_pos h hF
    refine lv_aload_n hx hb dX0_addOpen_11 rfl (lv_at hl 0 rfl) ?_
    refine gt_X0_9 hx hb hG hown hK hP 0 rfl rfl dX0_addOpen_12 ?_
    refine lv_aload_n hx hb dX0_addOpen_15 rfl (lv_at hl 0 rfl) ?_
    refine gt_X0_33 hx hb hG hown hK hP 0 rfl rfl dX0_addOpen_16 ?_
    refine lv_iload_n hx hb dX0_addOpen_19 rfl (lv_at hl 1 rfl) ?_
    obtain ⟨hin, hF⟩ := t_grd hF
    refine va_iast hx hb hK hP hD hS 1 0 rfl rfl hin dX0_addOpen_20 (fun H locs hP hD hS => ?_)
    have hP : va_P D vwCl [(a0, .inr (0, [.ref a0_cashiers, .ref a0_tills, .ref a0_acts, .ref a0_wholes, .ref a0_begins, .ref a0_ends, .ref a0_answers, .int a0_n])), (a0_cashiers, .inl (cyI, 20, .inl (upd f_a0_cashiers a0_n.toNatClampNeg v1))), (a0_tills, .inl (cyI, 20, .inl f_a0_tills)), (a0_acts, .inl (cyI, 20, .inl f_a0_acts)), (a0_wholes, .inl (cyI, 20, .inl f_a0_wholes)), (a0_begins, .inl (cyI, 20, .inl f_a0_begins)), (a0_ends, .inl (cyI, 20, .inl f_a0_ends)), (a0_answers, .inl (cyI, 20, .inl f_a0_answers))] H := hP
    have hD : va_D A [(a0, .inr (0, [.ref a0_cashiers, .ref a0_tills, .ref a0_acts, .ref a0_wholes, .ref a0_begins, .ref a0_ends, .ref a0_answers, .int a0_n])), (a0_cashiers, .inl (cyI, 20, .inl (upd f_a0_cashiers a0_n.toNatClampNeg v1))), (a0_tills, .inl (cyI, 20, .inl f_a0_tills)), (a0_acts, .inl (cyI, 20, .inl f_a0_acts)), (a0_wholes, .inl (cyI, 20, .inl f_a0_wholes)), (a0_begins, .inl (cyI, 20, .inl f_a0_begins)), (a0_ends, .inl (cyI, 20, .inl f_a0_ends)), (a0_answers, .inl (cyI, 20, .inl f_a0_answers))] := hD
    refine lv_aload_n hx hb dX0_addOpen_21 rfl (lv_at hl 0 rfl) ?_
    refine gt_X0_15 hx hb hG hown hK hP 0 rfl rfl dX0_addOpen_22 ?_
    refine lv_aload_n hx hb dX0_addOpen_25 rfl (lv_at hl 0 rfl) ?_
    refine gt_X0_33 hx hb hG hown hK hP 0 rfl rfl dX0_addOpen_26 ?_
    refine lv_iload_n hx hb dX0_addOpen_29 rfl (lv_at hl 2 rfl) ?_
    obtain ⟨hin, hF⟩ := t_grd hF
    refine va_iast hx hb hK hP hD hS 2 0 rfl rfl hin dX0_addOpen_30 (fun H locs hP hD hS => ?_)
    have hP : va_P D vwCl [(a0, .inr (0, [.ref a0_cashiers, .ref a0_tills, .ref a0_acts, .ref a0_wholes, .ref a0_begins, .ref a0_ends, .ref a0_answers, .int a0_n])), (a0_cashiers, .inl (cyI, 20, .inl (upd f_a0_cashiers a0_n.toNatClampNeg v1))), (a0_tills, .inl (cyI, 20, .inl (upd f_a0_tills a0_n.toNatClampNeg v2))), (a0_acts, .inl (cyI, 20, .inl f_a0_acts)), (a0_wholes, .inl (cyI, 20, .inl f_a0_wholes)), (a0_begins, .inl (cyI, 20, .inl f_a0_begins)), (a0_ends, .inl (cyI, 20, .inl f_a0_ends)), (a0_answers, .inl (cyI, 20, .inl f_a0_answers))] H := hP
    have hD : va_D A [(a0, .inr (0, [.ref a0_cashiers, .ref a0_tills, .ref a0_acts, .ref a0_wholes, .ref a0_begins, .ref a0_ends, .ref a0_answers, .int a0_n])), (a0_cashiers, .inl (cyI, 20, .inl (upd f_a0_cashiers a0_n.toNatClampNeg v1))), (a0_tills, .inl (cyI, 20, .inl (upd f_a0_tills a0_n.toNatClampNeg v2))), (a0_acts, .inl (cyI, 20, .inl f_a0_acts)), (a0_wholes, .inl (cyI, 20, .inl f_a0_wholes)), (a0_begins, .inl (cyI, 20, .inl f_a0_begins)), (a0_ends, .inl (cyI, 20, .inl f_a0_ends)), (a0_answers, .inl (cyI, 20, .inl f_a0_answers))] := hD
    refine lv_aload_n hx hb dX0_addOpen_31 rfl (lv_at hl 0 rfl) ?_
    refine gt_X0_18 hx hb hG hown hK hP 0 rfl rfl dX0_addOpen_32 ?_
    refine lv_aload_n hx hb dX0_addOpen_35 rfl (lv_at hl 0 rfl) ?_
    refine gt_X0_33 hx hb hG hown hK hP 0 rfl rfl dX0_addOpen_36 ?_
    refine lv_iload_n hx hb dX0_addOpen_39 rfl (lv_at hl 3 rfl) ?_
    obtain ⟨hin, hF⟩ := t_grd hF
    refine va_iast hx hb hK hP hD hS 3 0 rfl rfl hin dX0_addOpen_40 (fun H locs hP hD hS => ?_)
    have hP : va_P D vwCl [(a0, .inr (0, [.ref a0_cashiers, .ref a0_tills, .ref a0_acts, .ref a0_wholes, .ref a0_begins, .ref a0_ends, .ref a0_answers, .int a0_n])), (a0_cashiers, .inl (cyI, 20, .inl (upd f_a0_cashiers a0_n.toNatClampNeg v1))), (a0_tills, .inl (cyI, 20, .inl (upd f_a0_tills a0_n.toNatClampNeg v2))), (a0_acts, .inl (cyI, 20, .inl (upd f_a0_acts a0_n.toNatClampNeg v3))), (a0_wholes, .inl (cyI, 20, .inl f_a0_wholes)), (a0_begins, .inl (cyI, 20, .inl f_a0_begins)), (a0_ends, .inl (cyI, 20, .inl f_a0_ends)), (a0_answers, .inl (cyI, 20, .inl f_a0_answers))] H := hP
    have hD : va_D A [(a0, .inr (0, [.ref a0_cashiers, .ref a0_tills, .ref a0_acts, .ref a0_wholes, .ref a0_begins, .ref a0_ends, .ref a0_answers, .int a0_n])), (a0_cashiers, .inl (cyI, 20, .inl (upd f_a0_cashiers a0_n.toNatClampNeg v1))), (a0_tills, .inl (cyI, 20, .inl (upd f_a0_tills a0_n.toNatClampNeg v2))), (a0_acts, .inl (cyI, 20, .inl (upd f_a0_acts a0_n.toNatClampNeg v3))), (a0_wholes, .inl (cyI, 20, .inl f_a0_wholes)), (a0_begins, .inl (cyI, 20, .inl f_a0_begins)), (a0_ends, .inl (cyI, 20, .inl f_a0_ends)), (a0_answers, .inl (cyI, 20, .inl f_a0_answers))] := hD
    refine lv_aload_n hx hb dX0_addOpen_41 rfl (lv_at hl 0 rfl) ?_
    refine gt_X0_21 hx hb hG hown hK hP 0 rfl rfl dX0_addOpen_42 ?_
    refine lv_aload_n hx hb dX0_addOpen_45 rfl (lv_at hl 0 rfl) ?_
    refine gt_X0_33 hx hb hG hown hK hP 0 rfl rfl dX0_addOpen_46 ?_
    refine lv_iload hx hb dX0_addOpen_49 (lv_at hl 4 rfl) ?_
    obtain ⟨hin, hF⟩ := t_grd hF
    refine va_iast hx hb hK hP hD hS 4 0 rfl rfl hin dX0_addOpen_51 (fun H locs hP hD hS => ?_)
    have hP : va_P D vwCl [(a0, .inr (0, [.ref a0_cashiers, .ref a0_tills, .ref a0_acts, .ref a0_wholes, .ref a0_begins, .ref a0_ends, .ref a0_answers, .int a0_n])), (a0_cashiers, .inl (cyI, 20, .inl (upd f_a0_cashiers a0_n.toNatClampNeg v1))), (a0_tills, .inl (cyI, 20, .inl (upd f_a0_tills a0_n.toNatClampNeg v2))), (a0_acts, .inl (cyI, 20, .inl (upd f_a0_acts a0_n.toNatClampNeg v3))), (a0_wholes, .inl (cyI, 20, .inl (upd f_a0_wholes a0_n.toNatClampNeg v4))), (a0_begins, .inl (cyI, 20, .inl f_a0_begins)), (a0_ends, .inl (cyI, 20, .inl f_a0_ends)), (a0_answers, .inl (cyI, 20, .inl f_a0_answers))] H := hP
    have hD : va_D A [(a0, .inr (0, [.ref a0_cashiers, .ref a0_tills, .ref a0_acts, .ref a0_wholes, .ref a0_begins, .ref a0_ends, .ref a0_answers, .int a0_n])), (a0_cashiers, .inl (cyI, 20, .inl (upd f_a0_cashiers a0_n.toNatClampNeg v1))), (a0_tills, .inl (cyI, 20, .inl (upd f_a0_tills a0_n.toNatClampNeg v2))), (a0_acts, .inl (cyI, 20, .inl (upd f_a0_acts a0_n.toNatClampNeg v3))), (a0_wholes, .inl (cyI, 20, .inl (upd f_a0_wholes a0_n.toNatClampNeg v4))), (a0_begins, .inl (cyI, 20, .inl f_a0_begins)), (a0_ends, .inl (cyI, 20, .inl f_a0_ends)), (a0_answers, .inl (cyI, 20, .inl f_a0_answers))] := hD
    refine lv_aload_n hx hb dX0_addOpen_52 rfl (lv_at hl 0 rfl) ?_
    refine gt_X0_24 hx hb hG hown hK hP 0 rfl rfl dX0_addOpen_53 ?_
    refine lv_aload_n hx hb dX0_addOpen_56 rfl (lv_at hl 0 rfl) ?_
    refine gt_X0_33 hx hb hG hown hK hP 0 rfl rfl dX0_addOpen_57 ?_
    refine lv_iload hx hb dX0_addOpen_60 (lv_at hl 5 rfl) ?_
    obtain ⟨hin, hF⟩ := t_grd hF
    refine va_iast hx hb hK hP hD hS 5 0 rfl rfl hin dX0_addOpen_62 (fun H locs hP hD hS => ?_)
    have hP : va_P D vwCl [(a0, .inr (0, [.ref a0_cashiers, .ref a0_tills, .ref a0_acts, .ref a0_wholes, .ref a0_begins, .ref a0_ends, .ref a0_answers, .int a0_n])), (a0_cashiers, .inl (cyI, 20, .inl (upd f_a0_cashiers a0_n.toNatClampNeg v1))), (a0_tills, .inl (cyI, 20, .inl (upd f_a0_tills a0_n.toNatClampNeg v2))), (a0_acts, .inl (cyI, 20, .inl (upd f_a0_acts a0_n.toNatClampNeg v3))), (a0_wholes, .inl (cyI, 20, .inl (upd f_a0_wholes a0_n.toNatClampNeg v4))), (a0_begins, .inl (cyI, 20, .inl (upd f_a0_begins a0_n.toNatClampNeg v5))), (a0_ends, .inl (cyI, 20, .inl f_a0_ends)), (a0_answers, .inl (cyI, 20, .inl f_a0_answers))] H := hP
    have hD : va_D A [(a0, .inr (0, [.ref a0_cashiers, .ref a0_tills, .ref a0_acts, .ref a0_wholes, .ref a0_begins, .ref a0_ends, .ref a0_answers, .int a0_n])), (a0_cashiers, .inl (cyI, 20, .inl (upd f_a0_cashiers a0_n.toNatClampNeg v1))), (a0_tills, .inl (cyI, 20, .inl (upd f_a0_tills a0_n.toNatClampNeg v2))), (a0_acts, .inl (cyI, 20, .inl (upd f_a0_acts a0_n.toNatClampNeg v3))), (a0_wholes, .inl (cyI, 20, .inl (upd f_a0_wholes a0_n.toNatClampNeg v4))), (a0_begins, .inl (cyI, 20, .inl (upd f_a0_begins a0_n.toNatClampNeg v5))), (a0_ends, .inl (cyI, 20, .inl f_a0_ends)), (a0_answers, .inl (cyI, 20, .inl f_a0_answers))] := hD
    refine lv_aload_n hx hb dX0_addOpen_63 rfl (lv_at hl 0 rfl) ?_
    refine gt_X0_27 hx hb hG hown hK hP 0 rfl rfl dX0_addOpen_64 ?_
    refine lv_aload_n hx hb dX0_addOpen_67 rfl (lv_at hl 0 rfl) ?_
    refine gt_X0_33 hx hb hG hown hK hP 0 rfl rfl dX0_addOpen_68 ?_
    refine lv_bipush (v := (-2 : Int32)) hx hb dX0_addOpen_71 (by decide) ?_
    obtain ⟨hin, hF⟩ := t_grd hF
    refine va_iast hx hb hK hP hD hS 6 0 rfl rfl hin dX0_addOpen_73 (fun H locs hP hD hS => ?_)
    have hP : va_P D vwCl [(a0, .inr (0, [.ref a0_cashiers, .ref a0_tills, .ref a0_acts, .ref a0_wholes, .ref a0_begins, .ref a0_ends, .ref a0_answers, .int a0_n])), (a0_cashiers, .inl (cyI, 20, .inl (upd f_a0_cashiers a0_n.toNatClampNeg v1))), (a0_tills, .inl (cyI, 20, .inl (upd f_a0_tills a0_n.toNatClampNeg v2))), (a0_acts, .inl (cyI, 20, .inl (upd f_a0_acts a0_n.toNatClampNeg v3))), (a0_wholes, .inl (cyI, 20, .inl (upd f_a0_wholes a0_n.toNatClampNeg v4))), (a0_begins, .inl (cyI, 20, .inl (upd f_a0_begins a0_n.toNatClampNeg v5))), (a0_ends, .inl (cyI, 20, .inl ((upd f_a0_ends a0_n.toNatClampNeg (-2 : Int32))))), (a0_answers, .inl (cyI, 20, .inl f_a0_answers))] H := hP
    have hD : va_D A [(a0, .inr (0, [.ref a0_cashiers, .ref a0_tills, .ref a0_acts, .ref a0_wholes, .ref a0_begins, .ref a0_ends, .ref a0_answers, .int a0_n])), (a0_cashiers, .inl (cyI, 20, .inl (upd f_a0_cashiers a0_n.toNatClampNeg v1))), (a0_tills, .inl (cyI, 20, .inl (upd f_a0_tills a0_n.toNatClampNeg v2))), (a0_acts, .inl (cyI, 20, .inl (upd f_a0_acts a0_n.toNatClampNeg v3))), (a0_wholes, .inl (cyI, 20, .inl (upd f_a0_wholes a0_n.toNatClampNeg v4))), (a0_begins, .inl (cyI, 20, .inl (upd f_a0_begins a0_n.toNatClampNeg v5))), (a0_ends, .inl (cyI, 20, .inl ((upd f_a0_ends a0_n.toNatClampNeg (-2 : Int32))))), (a0_answers, .inl (cyI, 20, .inl f_a0_answers))] := hD
    refine lv_aload_n hx hb dX0_addOpen_74 rfl (lv_at hl 0 rfl) ?_
    refine gt_X0_30 hx hb hG hown hK hP 0 rfl rfl dX0_addOpen_75 ?_
    refine lv_aload_n hx hb dX0_addOpen_78 rfl (lv_at hl 0 rfl) ?_
    refine gt_X0_33 hx hb hG hown hK hP 0 rfl rfl dX0_addOpen_79 ?_
    refine lv_bipush (v := (-2 : Int32)) hx hb dX0_addOpen_82 (by decide) ?_
    obtain ⟨hin, hF⟩ := t_grd hF
    refine va_iast hx hb hK hP hD hS 7 0 rfl rfl hin dX0_addOpen_84 (fun H locs hP hD hS => ?_)
    have hP : va_P D vwCl [(a0, .inr (0, [.ref a0_cashiers, .ref a0_tills, .ref a0_acts, .ref a0_wholes, .ref a0_begins, .ref a0_ends, .ref a0_answers, .int a0_n])), (a0_cashiers, .inl (cyI, 20, .inl (upd f_a0_cashiers a0_n.toNatClampNeg v1))), (a0_tills, .inl (cyI, 20, .inl (upd f_a0_tills a0_n.toNatClampNeg v2))), (a0_acts, .inl (cyI, 20, .inl (upd f_a0_acts a0_n.toNatClampNeg v3))), (a0_wholes, .inl (cyI, 20, .inl (upd f_a0_wholes a0_n.toNatClampNeg v4))), (a0_begins, .inl (cyI, 20, .inl (upd f_a0_begins a0_n.toNatClampNeg v5))), (a0_ends, .inl (cyI, 20, .inl ((upd f_a0_ends a0_n.toNatClampNeg (-2 : Int32))))), (a0_answers, .inl (cyI, 20, .inl ((upd f_a0_answers a0_n.toNatClampNeg (-2 : Int32)))))] H := hP
    have hD : va_D A [(a0, .inr (0, [.ref a0_cashiers, .ref a0_tills, .ref a0_acts, .ref a0_wholes, .ref a0_begins, .ref a0_ends, .ref a0_answers, .int a0_n])), (a0_cashiers, .inl (cyI, 20, .inl (upd f_a0_cashiers a0_n.toNatClampNeg v1))), (a0_tills, .inl (cyI, 20, .inl (upd f_a0_tills a0_n.toNatClampNeg v2))), (a0_acts, .inl (cyI, 20, .inl (upd f_a0_acts a0_n.toNatClampNeg v3))), (a0_wholes, .inl (cyI, 20, .inl (upd f_a0_wholes a0_n.toNatClampNeg v4))), (a0_begins, .inl (cyI, 20, .inl (upd f_a0_begins a0_n.toNatClampNeg v5))), (a0_ends, .inl (cyI, 20, .inl ((upd f_a0_ends a0_n.toNatClampNeg (-2 : Int32))))), (a0_answers, .inl (cyI, 20, .inl ((upd f_a0_answers a0_n.toNatClampNeg (-2 : Int32)))))] := hD
    refine lv_aload_n hx hb dX0_addOpen_85 rfl (lv_at hl 0 rfl) ?_
    refine lv_dup hx hb dX0_addOpen_86 rfl ?_
    refine gt_X0_33 hx hb hG hown hK hP 0 rfl rfl dX0_addOpen_87 ?_
    refine lv_iconst (v := (1 : Int32)) hx hb dX0_addOpen_90 (by decide) ?_
    refine lv_iadd hx hb dX0_addOpen_91 ?_
    refine pt_X0_33 (v := .int (a0_n + (1 : Int32))) hx hb hG hown hK hP hD hS 0 rfl rfl rfl (Nat.le_of_ble_eq_true rfl) dX0_addOpen_92 (fun H locs hP hD hS => ?_)
    have hP : va_P D vwCl [(a0, .inr (0, [.ref a0_cashiers, .ref a0_tills, .ref a0_acts, .ref a0_wholes, .ref a0_begins, .ref a0_ends, .ref a0_answers, .int (a0_n + (1 : Int32))])), (a0_cashiers, .inl (cyI, 20, .inl (upd f_a0_cashiers a0_n.toNatClampNeg v1))), (a0_tills, .inl (cyI, 20, .inl (upd f_a0_tills a0_n.toNatClampNeg v2))), (a0_acts, .inl (cyI, 20, .inl (upd f_a0_acts a0_n.toNatClampNeg v3))), (a0_wholes, .inl (cyI, 20, .inl (upd f_a0_wholes a0_n.toNatClampNeg v4))), (a0_begins, .inl (cyI, 20, .inl (upd f_a0_begins a0_n.toNatClampNeg v5))), (a0_ends, .inl (cyI, 20, .inl ((upd f_a0_ends a0_n.toNatClampNeg (-2 : Int32))))), (a0_answers, .inl (cyI, 20, .inl ((upd f_a0_answers a0_n.toNatClampNeg (-2 : Int32)))))] H := hP
    have hD : va_D A [(a0, .inr (0, [.ref a0_cashiers, .ref a0_tills, .ref a0_acts, .ref a0_wholes, .ref a0_begins, .ref a0_ends, .ref a0_answers, .int (a0_n + (1 : Int32))])), (a0_cashiers, .inl (cyI, 20, .inl (upd f_a0_cashiers a0_n.toNatClampNeg v1))), (a0_tills, .inl (cyI, 20, .inl (upd f_a0_tills a0_n.toNatClampNeg v2))), (a0_acts, .inl (cyI, 20, .inl (upd f_a0_acts a0_n.toNatClampNeg v3))), (a0_wholes, .inl (cyI, 20, .inl (upd f_a0_wholes a0_n.toNatClampNeg v4))), (a0_begins, .inl (cyI, 20, .inl (upd f_a0_begins a0_n.toNatClampNeg v5))), (a0_ends, .inl (cyI, 20, .inl ((upd f_a0_ends a0_n.toNatClampNeg (-2 : Int32))))), (a0_answers, .inl (cyI, 20, .inl ((upd f_a0_answers a0_n.toNatClampNeg (-2 : Int32)))))] := hD
    refine lv_aload_n hx hb dX0_addOpen_95 rfl (lv_at hl 0 rfl) ?_
    refine gt_X0_33 hx hb hG hown hK hP 0 rfl rfl dX0_addOpen_96 ?_
    refine lv_iconst (v := (1 : Int32)) hx hb dX0_addOpen_99 (by decide) ?_
    refine lv_isub hx hb dX0_addOpen_100 ?_
    exact kRi (τ := Int32 × Int32 × (Nat → Int32) × (Nat → Int32) × (Nat → Int32) × (Nat → Int32) × (Nat → Int32) × (Nat → Int32) × (Nat → Int32)) (cv := (((a0_n + (1 : Int32)) - (1 : Int32)), (a0_n + (1 : Int32)), (upd f_a0_cashiers a0_n.toNatClampNeg v1), (upd f_a0_tills a0_n.toNatClampNeg v2), (upd f_a0_acts a0_n.toNatClampNeg v3), (upd f_a0_wholes a0_n.toNatClampNeg v4), (upd f_a0_begins a0_n.toNatClampNeg v5), (upd f_a0_ends a0_n.toNatClampNeg (-2 : Int32)), (upd f_a0_answers a0_n.toNatClampNeg (-2 : Int32)))) (fr := fun u => u.1) (fw := fun u => [(a0, .inr (0, [.ref a0_cashiers, .ref a0_tills, .ref a0_acts, .ref a0_wholes, .ref a0_begins, .ref a0_ends, .ref a0_answers, .int u.2.1])), (a0_cashiers, .inl (cyI, 20, .inl (u.2.2.1))), (a0_tills, .inl (cyI, 20, .inl (u.2.2.2.1))), (a0_acts, .inl (cyI, 20, .inl (u.2.2.2.2.1))), (a0_wholes, .inl (cyI, 20, .inl (u.2.2.2.2.2.1))), (a0_begins, .inl (cyI, 20, .inl (u.2.2.2.2.2.2.1))), (a0_ends, .inl (cyI, 20, .inl (u.2.2.2.2.2.2.2.1))), (a0_answers, .inl (cyI, 20, .inl (u.2.2.2.2.2.2.2.2)))]) hQ hx hb hr hlocks hK hP hD hS hF rfl dX0_addOpen_101
  · have hF := t_neg h hF
    refine lv_iconst (v := (-1 : Int32)) hx hb dX0_addOpen_9 (by decide) ?_
    exact kRi (τ := Int32 × Int32 × (Nat → Int32) × (Nat → Int32) × (Nat → Int32) × (Nat → Int32) × (Nat → Int32) × (Nat → Int32) × (Nat → Int32)) (cv := ((-1 : Int32), a0_n, f_a0_cashiers, f_a0_tills, f_a0_acts, f_a0_wholes, f_a0_begins, f_a0_ends, f_a0_answers)) (fr := fun u => u.1) (fw := fun u => [(a0, .inr (0, [.ref a0_cashiers, .ref a0_tills, .ref a0_acts, .ref a0_wholes, .ref a0_begins, .ref a0_ends, .ref a0_answers, .int u.2.1])), (a0_cashiers, .inl (cyI, 20, .inl (u.2.2.1))), (a0_tills, .inl (cyI, 20, .inl (u.2.2.2.1))), (a0_acts, .inl (cyI, 20, .inl (u.2.2.2.2.1))), (a0_wholes, .inl (cyI, 20, .inl (u.2.2.2.2.2.1))), (a0_begins, .inl (cyI, 20, .inl (u.2.2.2.2.2.2.1))), (a0_ends, .inl (cyI, 20, .inl (u.2.2.2.2.2.2.2.1))), (a0_answers, .inl (cyI, 20, .inl (u.2.2.2.2.2.2.2.2)))]) hQ hx hb hr hlocks hK hP hD hS hF rfl dX0_addOpen_10
set_option maxHeartbeats 4000000 in
set_option maxRecDepth 100000 in
theorem c_X0_close (l : Launch) (D : va_G) (cyI cyJ cyZ cyO : ClassId) (a0 : Nat) (a0_cashiers : Nat) (a0_tills : Nat) (a0_acts : Nat) (a0_wholes : Nat) (a0_begins : Nat) (a0_ends : Nat) (a0_answers : Nat) (a0_n : Int32) (f_a0_ends : Nat → Int32) (f_a0_answers : Nat → Int32) (v1 : Int32) (v2 : Int32) (v3 : Int32) (sz : Nat) (o : (Nat → Int32) × (Nat → Int32)) (hF : F_X0_close a0_n f_a0_ends f_a0_answers v1 v2 v3 = some o) : mV l yX0_close cX0_close 4 none ({ frames := 1, cells := 0, slots := 0, locals := 21 } : Room) D (wT cyI cyJ cyZ cyO) [.ref a0, .int v1, .int v2, .int v3] sz [(a0, .inr (0, [.ref a0_cashiers, .ref a0_tills, .ref a0_acts, .ref a0_wholes, .ref a0_begins, .ref a0_ends, .ref a0_answers, .int a0_n])), (a0_ends, .inl (cyI, 20, .inl f_a0_ends)), (a0_answers, .inl (cyI, 20, .inl f_a0_answers))] [(a0, .inr (0, [.ref a0_cashiers, .ref a0_tills, .ref a0_acts, .ref a0_wholes, .ref a0_begins, .ref a0_ends, .ref a0_answers, .int a0_n])), (a0_ends, .inl (cyI, 20, .inl (o.1))), (a0_answers, .inl (cyI, 20, .inl (o.2)))] := by
  refine kM_v (by decide +kernel) (Nat.le_of_ble_eq_true rfl) ?_
  intro p e s m args below meth c A ls Q hx hb hr hlocks hml hown hG hK hA hP hD hS hl hQ
  have hown : s.vm.findClass RX0 = some m.cls := hown
  have hl : lv_has ls 4 [(0, .ref a0), (1, .int v1), (2, .int v2), (3, .int v3)] := hl
  obtain ⟨H, hH⟩ : ∃ H : Heap, H = s.heap := ⟨_, rfl⟩
  obtain ⟨locs, hlo⟩ : ∃ L : List Loc, L = [] := ⟨_, rfl⟩
  have hP : va_P D vwCl [(a0, .inr (0, [.ref a0_cashiers, .ref a0_tills, .ref a0_acts, .ref a0_wholes, .ref a0_begins, .ref a0_ends, .ref a0_answers, .int a0_n])), (a0_ends, .inl (cyI, 20, .inl f_a0_ends)), (a0_answers, .inl (cyI, 20, .inl f_a0_answers))] H := by rw [hH]; exact hP
  have hS : va_S A s.heap H locs := by rw [hH, hlo]; exact hS
  show W p l e ({ frames := 1, cells := 0, slots := 0, locals := 21 } : Room) s m args below meth c s.heap [] 0 0 Q (F0 m 0 ls [])
  suffices hgo : W p l e ({ frames := 1, cells := 0, slots := 0, locals := 21 } : Room) s m args below meth c H locs 0 0 Q (F0 m 0 ls []) by rw [hH, hlo] at hgo; exact hgo
  refine lv_aload_n hx hb dX0_close_0 rfl (lv_at hl 0 rfl) ?_
  refine lv_iload_n hx hb dX0_close_1 rfl (lv_at hl 1 rfl) ?_
  obtain ⟨r2, hc, hF⟩ := bnd1_some hF
  refine kVi (As := [.int v1]) (rest := []) (ws' := [(a0, .inr (0, [.ref a0_cashiers, .ref a0_tills, .ref a0_acts, .ref a0_wholes, .ref a0_begins, .ref a0_ends, .ref a0_answers, .int a0_n])), (a0_ends, .inl (cyI, 20, .inl f_a0_ends)), (a0_answers, .inl (cyI, 20, .inl f_a0_answers))]) ⟨hx, hb, hml, hown, hG⟩ hK hP hD hS hA (c_X0_has l D cyI cyJ cyZ cyO a0 a0_cashiers a0_tills a0_acts a0_wholes a0_begins a0_ends a0_answers a0_n v1 H.size _ hc) (cw_X0_43 hG rfl rfl ⟨Nat.le_of_ble_eq_true rfl, Nat.le_of_ble_eq_true rfl⟩) 0 rfl rfl [0] rfl rfl rfl rfl rfl rfl hl.1 rfl (Nat.le_of_ble_eq_true rfl) dX0_close_2 ⟨Nat.zero_le _, Nat.zero_le _⟩ (fun H locs hP hD hS => ?_)
  refine lv_if_eq (tgt := 22) hx hb dX0_close_5 (by decide) (fun h => ?_) (fun h => ?_)
  · have hF := t_pos h hF
    exact kRv (τ := (Nat → Int32) × (Nat → Int32)) (cv := (f_a0_ends, f_a0_answers)) (fw := fun u => [(a0, .inr (0, [.ref a0_cashiers, .ref a0_tills, .ref a0_acts, .ref a0_wholes, .ref a0_begins, .ref a0_ends, .ref a0_answers, .int a0_n])), (a0_ends, .inl (cyI, 20, .inl (u.1))), (a0_answers, .inl (cyI, 20, .inl (u.2)))]) hQ hx hb hr hlocks hK hP hD hS hF  dX0_close_22
  · have hF := t_neg h hF
    refine lv_aload_n hx hb dX0_close_8 rfl (lv_at hl 0 rfl) ?_
    refine gt_X0_27 hx hb hG hown hK hP 0 rfl rfl dX0_close_9 ?_
    refine lv_iload_n hx hb dX0_close_12 rfl (lv_at hl 1 rfl) ?_
    refine lv_iload_n hx hb dX0_close_13 rfl (lv_at hl 2 rfl) ?_
    obtain ⟨hin, hF⟩ := t_grd hF
    refine va_iast hx hb hK hP hD hS 1 0 rfl rfl hin dX0_close_14 (fun H locs hP hD hS => ?_)
    have hP : va_P D vwCl [(a0, .inr (0, [.ref a0_cashiers, .ref a0_tills, .ref a0_acts, .ref a0_wholes, .ref a0_begins, .ref a0_ends, .ref a0_answers, .int a0_n])), (a0_ends, .inl (cyI, 20, .inl (upd f_a0_ends v1.toNatClampNeg v2))), (a0_answers, .inl (cyI, 20, .inl f_a0_answers))] H := hP
    have hD : va_D A [(a0, .inr (0, [.ref a0_cashiers, .ref a0_tills, .ref a0_acts, .ref a0_wholes, .ref a0_begins, .ref a0_ends, .ref a0_answers, .int a0_n])), (a0_ends, .inl (cyI, 20, .inl (upd f_a0_ends v1.toNatClampNeg v2))), (a0_answers, .inl (cyI, 20, .inl f_a0_answers))] := hD
    refine lv_aload_n hx hb dX0_close_15 rfl (lv_at hl 0 rfl) ?_
    refine gt_X0_30 hx hb hG hown hK hP 0 rfl rfl dX0_close_16 ?_
    refine lv_iload_n hx hb dX0_close_19 rfl (lv_at hl 1 rfl) ?_
    refine lv_iload_n hx hb dX0_close_20 rfl (lv_at hl 3 rfl) ?_
    obtain ⟨hin, hF⟩ := t_grd hF
    refine va_iast hx hb hK hP hD hS 2 0 rfl rfl hin dX0_close_21 (fun H locs hP hD hS => ?_)
    have hP : va_P D vwCl [(a0, .inr (0, [.ref a0_cashiers, .ref a0_tills, .ref a0_acts, .ref a0_wholes, .ref a0_begins, .ref a0_ends, .ref a0_answers, .int a0_n])), (a0_ends, .inl (cyI, 20, .inl (upd f_a0_ends v1.toNatClampNeg v2))), (a0_answers, .inl (cyI, 20, .inl (upd f_a0_answers v1.toNatClampNeg v3)))] H := hP
    have hD : va_D A [(a0, .inr (0, [.ref a0_cashiers, .ref a0_tills, .ref a0_acts, .ref a0_wholes, .ref a0_begins, .ref a0_ends, .ref a0_answers, .int a0_n])), (a0_ends, .inl (cyI, 20, .inl (upd f_a0_ends v1.toNatClampNeg v2))), (a0_answers, .inl (cyI, 20, .inl (upd f_a0_answers v1.toNatClampNeg v3)))] := hD
    exact kRv (τ := (Nat → Int32) × (Nat → Int32)) (cv := ((upd f_a0_ends v1.toNatClampNeg v2), (upd f_a0_answers v1.toNatClampNeg v3))) (fw := fun u => [(a0, .inr (0, [.ref a0_cashiers, .ref a0_tills, .ref a0_acts, .ref a0_wholes, .ref a0_begins, .ref a0_ends, .ref a0_answers, .int a0_n])), (a0_ends, .inl (cyI, 20, .inl (u.1))), (a0_answers, .inl (cyI, 20, .inl (u.2)))]) hQ hx hb hr hlocks hK hP hD hS hF  dX0_close_22
set_option maxHeartbeats 4000000 in
set_option maxRecDepth 100000 in
theorem c_X0_reopen (l : Launch) (D : va_G) (cyI cyJ cyZ cyO : ClassId) (a0 : Nat) (a0_cashiers : Nat) (a0_tills : Nat) (a0_acts : Nat) (a0_wholes : Nat) (a0_begins : Nat) (a0_ends : Nat) (a0_answers : Nat) (a0_n : Int32) (f_a0_ends : Nat → Int32) (f_a0_answers : Nat → Int32) (v1 : Int32) (sz : Nat) (o : (Nat → Int32) × (Nat → Int32)) (hF : F_X0_reopen a0_n f_a0_ends f_a0_answers v1 = some o) : mV l yX0_reopen cX0_reopen 2 none ({ frames := 2, cells := 0, slots := 0, locals := 44 } : Room) D (wT cyI cyJ cyZ cyO) [.ref a0, .int v1] sz [(a0, .inr (0, [.ref a0_cashiers, .ref a0_tills, .ref a0_acts, .ref a0_wholes, .ref a0_begins, .ref a0_ends, .ref a0_answers, .int a0_n])), (a0_ends, .inl (cyI, 20, .inl f_a0_ends)), (a0_answers, .inl (cyI, 20, .inl f_a0_answers))] [(a0, .inr (0, [.ref a0_cashiers, .ref a0_tills, .ref a0_acts, .ref a0_wholes, .ref a0_begins, .ref a0_ends, .ref a0_answers, .int a0_n])), (a0_ends, .inl (cyI, 20, .inl (o.1))), (a0_answers, .inl (cyI, 20, .inl (o.2)))] := by
  refine kM_v (by decide +kernel) (Nat.le_of_ble_eq_true rfl) ?_
  intro p e s m args below meth c A ls Q hx hb hr hlocks hml hown hG hK hA hP hD hS hl hQ
  have hown : s.vm.findClass RX0 = some m.cls := hown
  have hl : lv_has ls 2 [(0, .ref a0), (1, .int v1)] := hl
  obtain ⟨H, hH⟩ : ∃ H : Heap, H = s.heap := ⟨_, rfl⟩
  obtain ⟨locs, hlo⟩ : ∃ L : List Loc, L = [] := ⟨_, rfl⟩
  have hP : va_P D vwCl [(a0, .inr (0, [.ref a0_cashiers, .ref a0_tills, .ref a0_acts, .ref a0_wholes, .ref a0_begins, .ref a0_ends, .ref a0_answers, .int a0_n])), (a0_ends, .inl (cyI, 20, .inl f_a0_ends)), (a0_answers, .inl (cyI, 20, .inl f_a0_answers))] H := by rw [hH]; exact hP
  have hS : va_S A s.heap H locs := by rw [hH, hlo]; exact hS
  show W p l e ({ frames := 2, cells := 0, slots := 0, locals := 44 } : Room) s m args below meth c s.heap [] 0 0 Q (F0 m 0 ls [])
  suffices hgo : W p l e ({ frames := 2, cells := 0, slots := 0, locals := 44 } : Room) s m args below meth c H locs 0 0 Q (F0 m 0 ls []) by rw [hH, hlo] at hgo; exact hgo
  refine lv_aload_n hx hb dX0_reopen_0 rfl (lv_at hl 0 rfl) ?_
  refine lv_iload_n hx hb dX0_reopen_1 rfl (lv_at hl 1 rfl) ?_
  refine lv_bipush (v := (-2 : Int32)) hx hb dX0_reopen_2 (by decide) ?_
  refine lv_bipush (v := (-2 : Int32)) hx hb dX0_reopen_4 (by decide) ?_
  obtain ⟨u6_0, u6_1, hc, hF⟩ := bnd2_some hF
  refine kVv (As := [.int v1, .int (-2 : Int32), .int (-2 : Int32)]) (rest := []) (ws' := [(a0, .inr (0, [.ref a0_cashiers, .ref a0_tills, .ref a0_acts, .ref a0_wholes, .ref a0_begins, .ref a0_ends, .ref a0_answers, .int a0_n])), (a0_ends, .inl (cyI, 20, .inl u6_0)), (a0_answers, .inl (cyI, 20, .inl u6_1))]) ⟨hx, hb, hml, hown, hG⟩ hK hP hD hS hA (c_X0_close l D cyI cyJ cyZ cyO a0 a0_cashiers a0_tills a0_acts a0_wholes a0_begins a0_ends a0_answers a0_n f_a0_ends f_a0_answers v1 (-2 : Int32) (-2 : Int32) H.size _ hc) (cw_X0_47 hG rfl rfl ⟨Nat.le_of_ble_eq_true rfl, Nat.le_of_ble_eq_true rfl⟩) 0 rfl rfl [0, 1, 2] rfl rfl rfl rfl rfl rfl hl.1 rfl (Nat.le_of_ble_eq_true rfl) dX0_reopen_6 ⟨Nat.zero_le _, Nat.zero_le _⟩ (fun H locs hP hD hS => ?_)
  exact kRv (τ := (Nat → Int32) × (Nat → Int32)) (cv := (u6_0, u6_1)) (fw := fun u => [(a0, .inr (0, [.ref a0_cashiers, .ref a0_tills, .ref a0_acts, .ref a0_wholes, .ref a0_begins, .ref a0_ends, .ref a0_answers, .int a0_n])), (a0_ends, .inl (cyI, 20, .inl (u.1))), (a0_answers, .inl (cyI, 20, .inl (u.2)))]) hQ hx hb hr hlocks hK hP hD hS hF  dX0_reopen_9
set_option maxHeartbeats 4000000 in
set_option maxRecDepth 100000 in
theorem c_X0_at (l : Launch) (D : va_G) (cyI cyJ cyZ cyO : ClassId) (a0 : Nat) (n0 : Nat) (f_a0 : Nat → Int32) (v1 : Int32) (sz : Nat) (o : Int32) (hF : F_X0_at n0 f_a0 v1 = some o) : mI l yX0_at cX0_at 2 (some .int) ({ frames := 0, cells := 0, slots := 0, locals := 0 } : Room) D (wT cyI cyJ cyZ cyO) [.ref a0, .int v1] sz [(a0, .inl (cyI, n0, .inl f_a0))] o [(a0, .inl (cyI, n0, .inl f_a0))] := by
  refine kM_i (by decide +kernel) (Nat.le_of_ble_eq_true rfl) ?_
  intro p e s m args below meth c A ls Q hx hb hr hlocks hml hown hG hK hA hP hD hS hl hQ
  have hown : s.vm.findClass RX0 = some m.cls := hown
  have hl : lv_has ls 2 [(0, .ref a0), (1, .int v1)] := hl
  obtain ⟨H, hH⟩ : ∃ H : Heap, H = s.heap := ⟨_, rfl⟩
  obtain ⟨locs, hlo⟩ : ∃ L : List Loc, L = [] := ⟨_, rfl⟩
  have hP : va_P D vwCl [(a0, .inl (cyI, n0, .inl f_a0))] H := by rw [hH]; exact hP
  have hS : va_S A s.heap H locs := by rw [hH, hlo]; exact hS
  show W p l e ({ frames := 0, cells := 0, slots := 0, locals := 0 } : Room) s m args below meth c s.heap [] 0 0 Q (F0 m 0 ls [])
  suffices hgo : W p l e ({ frames := 0, cells := 0, slots := 0, locals := 0 } : Room) s m args below meth c H locs 0 0 Q (F0 m 0 ls []) by rw [hH, hlo] at hgo; exact hgo
  refine lv_iload_n hx hb dX0_at_0 rfl (lv_at hl 1 rfl) ?_
  refine lv_if_lt (tgt := 16) hx hb dX0_at_1 (by decide) (fun h => ?_) (fun h => ?_)
  · have hF := t_pos h hF
    refine lv_iconst (v := (0 : Int32)) hx hb dX0_at_16 (by decide) ?_
    exact kRi (τ := Int32) (cv := (0 : Int32)) (fr := fun u => u) (fw := fun u => [(a0, .inl (cyI, n0, .inl f_a0))]) hQ hx hb hr hlocks hK hP hD hS hF rfl dX0_at_17
  · have hF := t_neg h hF
    refine lv_iload_n hx hb dX0_at_4 rfl (lv_at hl 1 rfl) ?_
    refine lv_aload_n hx hb dX0_at_5 rfl (lv_at hl 0 rfl) ?_
    refine va_alen (v := (Int32.ofNat n0)) hx hb hK hP 0 0 rfl rfl rfl dX0_at_6 ?_
    refine lv_icmp_ge (tgt := 16) hx hb dX0_at_7 (by decide) (fun h => ?_) (fun h => ?_)
    · have hF := t_pos h hF
      refine lv_iconst (v := (0 : Int32)) hx hb dX0_at_16 (by decide) ?_
      exact kRi (τ := Int32) (cv := (0 : Int32)) (fr := fun u => u) (fw := fun u => [(a0, .inl (cyI, n0, .inl f_a0))]) hQ hx hb hr hlocks hK hP hD hS hF rfl dX0_at_17
    · have hF := t_neg h hF
      refine lv_aload_n hx hb dX0_at_10 rfl (lv_at hl 0 rfl) ?_
      refine lv_iload_n hx hb dX0_at_11 rfl (lv_at hl 1 rfl) ?_
      obtain ⟨hin, hF⟩ := t_grd hF
      refine va_iald hx hb hK hP 0 0 rfl rfl hin dX0_at_12 ?_
      refine lv_goto (tgt := 17) hx hb dX0_at_13 (by decide) ?_
      exact kRi (τ := Int32) (cv := (f_a0 v1.toNatClampNeg)) (fr := fun u => u) (fw := fun u => [(a0, .inl (cyI, n0, .inl f_a0))]) hQ hx hb hr hlocks hK hP hD hS hF rfl dX0_at_17
set_option maxHeartbeats 4000000 in
set_option maxRecDepth 100000 in
theorem c_X0_answerOf (l : Launch) (D : va_G) (cyI cyJ cyZ cyO : ClassId) (a0 : Nat) (a0_cashiers : Nat) (a0_tills : Nat) (a0_acts : Nat) (a0_wholes : Nat) (a0_begins : Nat) (a0_ends : Nat) (a0_answers : Nat) (a0_n : Int32) (f_a0_answers : Nat → Int32) (v1 : Int32) (sz : Nat) (o : Int32) (hF : F_X0_answerOf f_a0_answers v1 = some o) : mI l yX0_answerOf cX0_answerOf 2 (some .int) ({ frames := 1, cells := 0, slots := 0, locals := 21 } : Room) D (wT cyI cyJ cyZ cyO) [.ref a0, .int v1] sz [(a0, .inr (0, [.ref a0_cashiers, .ref a0_tills, .ref a0_acts, .ref a0_wholes, .ref a0_begins, .ref a0_ends, .ref a0_answers, .int a0_n])), (a0_answers, .inl (cyI, 20, .inl f_a0_answers))] o [(a0, .inr (0, [.ref a0_cashiers, .ref a0_tills, .ref a0_acts, .ref a0_wholes, .ref a0_begins, .ref a0_ends, .ref a0_answers, .int a0_n])), (a0_answers, .inl (cyI, 20, .inl f_a0_answers))] := by
  refine kM_i (by decide +kernel) (Nat.le_of_ble_eq_true rfl) ?_
  intro p e s m args below meth c A ls Q hx hb hr hlocks hml hown hG hK hA hP hD hS hl hQ
  have hown : s.vm.findClass RX0 = some m.cls := hown
  have hl : lv_has ls 2 [(0, .ref a0), (1, .int v1)] := hl
  obtain ⟨H, hH⟩ : ∃ H : Heap, H = s.heap := ⟨_, rfl⟩
  obtain ⟨locs, hlo⟩ : ∃ L : List Loc, L = [] := ⟨_, rfl⟩
  have hP : va_P D vwCl [(a0, .inr (0, [.ref a0_cashiers, .ref a0_tills, .ref a0_acts, .ref a0_wholes, .ref a0_begins, .ref a0_ends, .ref a0_answers, .int a0_n])), (a0_answers, .inl (cyI, 20, .inl f_a0_answers))] H := by rw [hH]; exact hP
  have hS : va_S A s.heap H locs := by rw [hH, hlo]; exact hS
  show W p l e ({ frames := 1, cells := 0, slots := 0, locals := 21 } : Room) s m args below meth c s.heap [] 0 0 Q (F0 m 0 ls [])
  suffices hgo : W p l e ({ frames := 1, cells := 0, slots := 0, locals := 21 } : Room) s m args below meth c H locs 0 0 Q (F0 m 0 ls []) by rw [hH, hlo] at hgo; exact hgo
  refine lv_aload_n hx hb dX0_answerOf_0 rfl (lv_at hl 0 rfl) ?_
  refine gt_X0_30 hx hb hG hown hK hP 0 rfl rfl dX0_answerOf_1 ?_
  refine lv_iload_n hx hb dX0_answerOf_4 rfl (lv_at hl 1 rfl) ?_
  obtain ⟨r5, hc, hF⟩ := bnd1_some hF
  refine kSi (As := [.ref a0_answers, .int v1]) (rest := []) (ws' := [(a0, .inr (0, [.ref a0_cashiers, .ref a0_tills, .ref a0_acts, .ref a0_wholes, .ref a0_begins, .ref a0_ends, .ref a0_answers, .int a0_n])), (a0_answers, .inl (cyI, 20, .inl f_a0_answers))]) ⟨hx, hb, hml, hown, hG⟩ hK hP hD hS hA (c_X0_at l D cyI cyJ cyZ cyO a0_answers 20 f_a0_answers v1 H.size _ hc) (cs_X0_62 hG rfl rfl ⟨Nat.le_of_ble_eq_true rfl, Nat.le_of_ble_eq_true rfl⟩) [1] rfl rfl rfl rfl rfl rfl hl.1 rfl (Nat.le_of_ble_eq_true rfl) dX0_answerOf_5 ⟨Nat.zero_le _, Nat.zero_le _⟩ (fun H locs hP hD hS => ?_)
  exact kRi (τ := Int32) (cv := r5) (fr := fun u => u) (fw := fun u => [(a0, .inr (0, [.ref a0_cashiers, .ref a0_tills, .ref a0_acts, .ref a0_wholes, .ref a0_begins, .ref a0_ends, .ref a0_answers, .int a0_n])), (a0_answers, .inl (cyI, 20, .inl f_a0_answers))]) hQ hx hb hr hlocks hK hP hD hS hF rfl dX0_answerOf_8
set_option maxHeartbeats 4000000 in
set_option maxRecDepth 100000 in
theorem c_X0_endOf (l : Launch) (D : va_G) (cyI cyJ cyZ cyO : ClassId) (a0 : Nat) (a0_cashiers : Nat) (a0_tills : Nat) (a0_acts : Nat) (a0_wholes : Nat) (a0_begins : Nat) (a0_ends : Nat) (a0_answers : Nat) (a0_n : Int32) (f_a0_ends : Nat → Int32) (v1 : Int32) (sz : Nat) (o : Int32) (hF : F_X0_endOf f_a0_ends v1 = some o) : mI l yX0_endOf cX0_endOf 2 (some .int) ({ frames := 1, cells := 0, slots := 0, locals := 21 } : Room) D (wT cyI cyJ cyZ cyO) [.ref a0, .int v1] sz [(a0, .inr (0, [.ref a0_cashiers, .ref a0_tills, .ref a0_acts, .ref a0_wholes, .ref a0_begins, .ref a0_ends, .ref a0_answers, .int a0_n])), (a0_ends, .inl (cyI, 20, .inl f_a0_ends))] o [(a0, .inr (0, [.ref a0_cashiers, .ref a0_tills, .ref a0_acts, .ref a0_wholes, .ref a0_begins, .ref a0_ends, .ref a0_answers, .int a0_n])), (a0_ends, .inl (cyI, 20, .inl f_a0_ends))] := by
  refine kM_i (by decide +kernel) (Nat.le_of_ble_eq_true rfl) ?_
  intro p e s m args below meth c A ls Q hx hb hr hlocks hml hown hG hK hA hP hD hS hl hQ
  have hown : s.vm.findClass RX0 = some m.cls := hown
  have hl : lv_has ls 2 [(0, .ref a0), (1, .int v1)] := hl
  obtain ⟨H, hH⟩ : ∃ H : Heap, H = s.heap := ⟨_, rfl⟩
  obtain ⟨locs, hlo⟩ : ∃ L : List Loc, L = [] := ⟨_, rfl⟩
  have hP : va_P D vwCl [(a0, .inr (0, [.ref a0_cashiers, .ref a0_tills, .ref a0_acts, .ref a0_wholes, .ref a0_begins, .ref a0_ends, .ref a0_answers, .int a0_n])), (a0_ends, .inl (cyI, 20, .inl f_a0_ends))] H := by rw [hH]; exact hP
  have hS : va_S A s.heap H locs := by rw [hH, hlo]; exact hS
  show W p l e ({ frames := 1, cells := 0, slots := 0, locals := 21 } : Room) s m args below meth c s.heap [] 0 0 Q (F0 m 0 ls [])
  suffices hgo : W p l e ({ frames := 1, cells := 0, slots := 0, locals := 21 } : Room) s m args below meth c H locs 0 0 Q (F0 m 0 ls []) by rw [hH, hlo] at hgo; exact hgo
  refine lv_aload_n hx hb dX0_endOf_0 rfl (lv_at hl 0 rfl) ?_
  refine gt_X0_27 hx hb hG hown hK hP 0 rfl rfl dX0_endOf_1 ?_
  refine lv_iload_n hx hb dX0_endOf_4 rfl (lv_at hl 1 rfl) ?_
  obtain ⟨r5, hc, hF⟩ := bnd1_some hF
  refine kSi (As := [.ref a0_ends, .int v1]) (rest := []) (ws' := [(a0, .inr (0, [.ref a0_cashiers, .ref a0_tills, .ref a0_acts, .ref a0_wholes, .ref a0_begins, .ref a0_ends, .ref a0_answers, .int a0_n])), (a0_ends, .inl (cyI, 20, .inl f_a0_ends))]) ⟨hx, hb, hml, hown, hG⟩ hK hP hD hS hA (c_X0_at l D cyI cyJ cyZ cyO a0_ends 20 f_a0_ends v1 H.size _ hc) (cs_X0_62 hG rfl rfl ⟨Nat.le_of_ble_eq_true rfl, Nat.le_of_ble_eq_true rfl⟩) [1] rfl rfl rfl rfl rfl rfl hl.1 rfl (Nat.le_of_ble_eq_true rfl) dX0_endOf_5 ⟨Nat.zero_le _, Nat.zero_le _⟩ (fun H locs hP hD hS => ?_)
  exact kRi (τ := Int32) (cv := r5) (fr := fun u => u) (fw := fun u => [(a0, .inr (0, [.ref a0_cashiers, .ref a0_tills, .ref a0_acts, .ref a0_wholes, .ref a0_begins, .ref a0_ends, .ref a0_answers, .int a0_n])), (a0_ends, .inl (cyI, 20, .inl f_a0_ends))]) hQ hx hb hr hlocks hK hP hD hS hF rfl dX0_endOf_8
set_option maxHeartbeats 4000000 in
set_option maxRecDepth 100000 in
theorem c_X0_tellAnother (l : Launch) (D : va_G) (cyI cyJ cyZ cyO : ClassId) (a0 : Nat) (a0_cashiers : Nat) (a0_tills : Nat) (a0_acts : Nat) (a0_wholes : Nat) (a0_begins : Nat) (a0_ends : Nat) (a0_answers : Nat) (a0_n : Int32) (f_a0_answers : Nat → Int32) (f_a0_ends : Nat → Int32) (v1 : Int32) (v2 : Int32) (sz : Nat) (o : Int32 × (Nat → Int32) × (Nat → Int32)) (hF : F_X0_tellAnother a0_n f_a0_answers f_a0_ends v1 v2 = some o) : mI l yX0_tellAnother cX0_tellAnother 4 (some .int) ({ frames := 2, cells := 0, slots := 0, locals := 44 } : Room) D (wT cyI cyJ cyZ cyO) [.ref a0, .int v1, .int v2] sz [(a0, .inr (0, [.ref a0_cashiers, .ref a0_tills, .ref a0_acts, .ref a0_wholes, .ref a0_begins, .ref a0_ends, .ref a0_answers, .int a0_n])), (a0_answers, .inl (cyI, 20, .inl f_a0_answers)), (a0_ends, .inl (cyI, 20, .inl f_a0_ends))] o.1 [(a0, .inr (0, [.ref a0_cashiers, .ref a0_tills, .ref a0_acts, .ref a0_wholes, .ref a0_begins, .ref a0_ends, .ref a0_answers, .int a0_n])), (a0_answers, .inl (cyI, 20, .inl (o.2.1))), (a0_ends, .inl (cyI, 20, .inl (o.2.2)))] := by
  refine kM_i (by decide +kernel) (Nat.le_of_ble_eq_true rfl) ?_
  intro p e s m args below meth c A ls Q hx hb hr hlocks hml hown hG hK hA hP hD hS hl hQ
  have hown : s.vm.findClass RX0 = some m.cls := hown
  have hl : lv_has ls 4 [(0, .ref a0), (1, .int v1), (2, .int v2)] := hl
  obtain ⟨H, hH⟩ : ∃ H : Heap, H = s.heap := ⟨_, rfl⟩
  obtain ⟨locs, hlo⟩ : ∃ L : List Loc, L = [] := ⟨_, rfl⟩
  have hP : va_P D vwCl [(a0, .inr (0, [.ref a0_cashiers, .ref a0_tills, .ref a0_acts, .ref a0_wholes, .ref a0_begins, .ref a0_ends, .ref a0_answers, .int a0_n])), (a0_answers, .inl (cyI, 20, .inl f_a0_answers)), (a0_ends, .inl (cyI, 20, .inl f_a0_ends))] H := by rw [hH]; exact hP
  have hS : va_S A s.heap H locs := by rw [hH, hlo]; exact hS
  show W p l e ({ frames := 2, cells := 0, slots := 0, locals := 44 } : Room) s m args below meth c s.heap [] 0 0 Q (F0 m 0 ls [])
  suffices hgo : W p l e ({ frames := 2, cells := 0, slots := 0, locals := 44 } : Room) s m args below meth c H locs 0 0 Q (F0 m 0 ls []) by rw [hH, hlo] at hgo; exact hgo
  refine lv_aload_n hx hb dX0_tellAnother_0 rfl (lv_at hl 0 rfl) ?_
  refine lv_iload_n hx hb dX0_tellAnother_1 rfl (lv_at hl 1 rfl) ?_
  obtain ⟨r2, hc, hF⟩ := bnd1_some hF
  refine kVi (As := [.int v1]) (rest := []) (ws' := [(a0, .inr (0, [.ref a0_cashiers, .ref a0_tills, .ref a0_acts, .ref a0_wholes, .ref a0_begins, .ref a0_ends, .ref a0_answers, .int a0_n])), (a0_answers, .inl (cyI, 20, .inl f_a0_answers)), (a0_ends, .inl (cyI, 20, .inl f_a0_ends))]) ⟨hx, hb, hml, hown, hG⟩ hK hP hD hS hA (c_X0_answerOf l D cyI cyJ cyZ cyO a0 a0_cashiers a0_tills a0_acts a0_wholes a0_begins a0_ends a0_answers a0_n f_a0_answers v1 H.size _ hc) (cw_X0_51 hG rfl rfl ⟨Nat.le_of_ble_eq_true rfl, Nat.le_of_ble_eq_true rfl⟩) 0 rfl rfl [0, 1] rfl rfl rfl rfl rfl rfl hl.1 rfl (Nat.le_of_ble_eq_true rfl) dX0_tellAnother_2 ⟨Nat.zero_le _, Nat.zero_le _⟩ (fun H locs hP hD hS => ?_)
  refine lv_istore_n (lv' := [(3, .int r2), (0, .ref a0), (1, .int v1), (2, .int v2)]) hx hb dX0_tellAnother_5 rfl hl (by decide) rfl (fun ls hl => ?_)
  refine lv_aload_n hx hb dX0_tellAnother_6 rfl (lv_at hl 1 rfl) ?_
  refine lv_iload_n hx hb dX0_tellAnother_7 rfl (lv_at hl 2 rfl) ?_
  refine lv_aload_n hx hb dX0_tellAnother_8 rfl (lv_at hl 1 rfl) ?_
  refine lv_iload_n hx hb dX0_tellAnother_9 rfl (lv_at hl 2 rfl) ?_
  obtain ⟨r10, hc, hF⟩ := bnd1_some hF
  refine kVi (As := [.int v1]) (rest := [.int v1, .ref a0]) (ws' := [(a0, .inr (0, [.ref a0_cashiers, .ref a0_tills, .ref a0_acts, .ref a0_wholes, .ref a0_begins, .ref a0_ends, .ref a0_answers, .int a0_n])), (a0_answers, .inl (cyI, 20, .inl f_a0_answers)), (a0_ends, .inl (cyI, 20, .inl f_a0_ends))]) ⟨hx, hb, hml, hown, hG⟩ hK hP hD hS hA (c_X0_endOf l D cyI cyJ cyZ cyO a0 a0_cashiers a0_tills a0_acts a0_wholes a0_begins a0_ends a0_answers a0_n f_a0_ends v1 H.size _ hc) (cw_X0_55 hG rfl rfl ⟨Nat.le_of_ble_eq_true rfl, Nat.le_of_ble_eq_true rfl⟩) 0 rfl rfl [0, 2] rfl rfl rfl rfl rfl rfl hl.1 rfl (Nat.le_of_ble_eq_true rfl) dX0_tellAnother_10 ⟨Nat.zero_le _, Nat.zero_le _⟩ (fun H locs hP hD hS => ?_)
  refine lv_iload_n hx hb dX0_tellAnother_13 rfl (lv_at hl 3 rfl) ?_
  obtain ⟨u14_0, u14_1, hc, hF⟩ := bnd2_some hF
  refine kVv (As := [.int v1, .int r10, .int v2]) (rest := []) (ws' := [(a0, .inr (0, [.ref a0_cashiers, .ref a0_tills, .ref a0_acts, .ref a0_wholes, .ref a0_begins, .ref a0_ends, .ref a0_answers, .int a0_n])), (a0_answers, .inl (cyI, 20, .inl u14_1)), (a0_ends, .inl (cyI, 20, .inl u14_0))]) ⟨hx, hb, hml, hown, hG⟩ hK hP hD hS hA (c_X0_close l D cyI cyJ cyZ cyO a0 a0_cashiers a0_tills a0_acts a0_wholes a0_begins a0_ends a0_answers a0_n f_a0_ends f_a0_answers v1 r10 v2 H.size _ hc) (cw_X0_47 hG rfl rfl ⟨Nat.le_of_ble_eq_true rfl, Nat.le_of_ble_eq_true rfl⟩) 0 rfl rfl [0, 2, 1] rfl rfl rfl rfl rfl rfl hl.1 rfl (Nat.le_of_ble_eq_true rfl) dX0_tellAnother_14 ⟨Nat.zero_le _, Nat.zero_le _⟩ (fun H locs hP hD hS => ?_)
  refine lv_iload_n hx hb dX0_tellAnother_17 rfl (lv_at hl 0 rfl) ?_
  exact kRi (τ := Int32 × (Nat → Int32) × (Nat → Int32)) (cv := (r2, u14_1, u14_0)) (fr := fun u => u.1) (fw := fun u => [(a0, .inr (0, [.ref a0_cashiers, .ref a0_tills, .ref a0_acts, .ref a0_wholes, .ref a0_begins, .ref a0_ends, .ref a0_answers, .int a0_n])), (a0_answers, .inl (cyI, 20, .inl (u.2.1))), (a0_ends, .inl (cyI, 20, .inl (u.2.2)))]) hQ hx hb hr hlocks hK hP hD hS hF rfl dX0_tellAnother_18
set_option maxHeartbeats 4000000 in
set_option maxRecDepth 100000 in
theorem c_X0_dropFrom (l : Launch) (D : va_G) (cyI cyJ cyZ cyO : ClassId) (a0 : Nat) (n0 : Nat) (f_a0 : Nat → Int32) (v1 : Int32) (fu : Nat) (sz : Nat) (o : (Nat → Int32)) (hF : F_X0_dropFrom fu n0 f_a0 v1 = some o) : mV l yX0_dropFrom cX0_dropFrom 3 none ({ frames := 0, cells := 0, slots := 0, locals := 0 } : Room) D (wT cyI cyJ cyZ cyO) [.ref a0, .int v1] sz [(a0, .inl (cyI, n0, .inl f_a0))] [(a0, .inl (cyI, n0, .inl o))] := by
  refine kM_v (by decide +kernel) (Nat.le_of_ble_eq_true rfl) ?_
  intro p e s m args below meth c A ls Q hx hb hr hlocks hml hown hG hK hA hP hD hS hl hQ
  have hown : s.vm.findClass RX0 = some m.cls := hown
  have hl : lv_has ls 3 [(0, .ref a0), (1, .int v1)] := hl
  have L2 : ∀ (kf2 : Nat), ∀ (v2 : Int32) (f_a0 : Nat → Int32) (H : Heap) (locs : List Loc) (ls : Array Slot), F_X0_dropFrom_b2 n0 kf2 f_a0 v2 = some o → va_P D vwCl [(a0, .inl (cyI, n0, .inl f_a0))] H → va_D A [(a0, .inl (cyI, n0, .inl f_a0))] → va_S A s.heap H locs → lv_has ls 3 [(0, .ref a0), (2, .int v2)] → W p l e ({ frames := 0, cells := 0, slots := 0, locals := 0 } : Room) s m args below meth c H locs 0 0 Q (F0 m 2 ls []) := by
    intro kf2
    induction kf2 with
    | zero => intro v2 f_a0 H locs ls hF; rw [F_X0_dropFrom_b2] at hF; cases hF
    | succ kf2 ih2 =>
      intro v2 f_a0 H locs ls hF hP hD hS hl
      rw [F_X0_dropFrom_b2] at hF
      refine lv_iload_n hx hb dX0_dropFrom_2 rfl (lv_at hl 1 rfl) ?_
      refine lv_iconst (v := (1 : Int32)) hx hb dX0_dropFrom_3 (by decide) ?_
      refine lv_iadd hx hb dX0_dropFrom_4 ?_
      refine lv_aload_n hx hb dX0_dropFrom_5 rfl (lv_at hl 0 rfl) ?_
      refine va_alen (v := (Int32.ofNat n0)) hx hb hK hP 0 0 rfl rfl rfl dX0_dropFrom_6 ?_
      refine lv_icmp_ge (tgt := 24) hx hb dX0_dropFrom_7 (by decide) (fun h => ?_) (fun h => ?_)
      · have hF := t_pos h hF
        exact kRv (τ := (Nat → Int32)) (cv := f_a0) (fw := fun u => [(a0, .inl (cyI, n0, .inl u))]) hQ hx hb hr hlocks hK hP hD hS hF  dX0_dropFrom_24
      · have hF := t_neg h hF
        refine lv_aload_n hx hb dX0_dropFrom_10 rfl (lv_at hl 0 rfl) ?_
        refine lv_iload_n hx hb dX0_dropFrom_11 rfl (lv_at hl 1 rfl) ?_
        refine lv_aload_n hx hb dX0_dropFrom_12 rfl (lv_at hl 0 rfl) ?_
        refine lv_iload_n hx hb dX0_dropFrom_13 rfl (lv_at hl 1 rfl) ?_
        refine lv_iconst (v := (1 : Int32)) hx hb dX0_dropFrom_14 (by decide) ?_
        refine lv_iadd hx hb dX0_dropFrom_15 ?_
        obtain ⟨hin, hF⟩ := t_grd hF
        refine va_iald hx hb hK hP 0 0 rfl rfl hin dX0_dropFrom_16 ?_
        obtain ⟨hin, hF⟩ := t_grd hF
        refine va_iast hx hb hK hP hD hS 0 0 rfl rfl hin dX0_dropFrom_17 (fun H locs hP hD hS => ?_)
        have hP : va_P D vwCl [(a0, .inl (cyI, n0, .inl ((upd f_a0 v2.toNatClampNeg (f_a0 ((v2 + (1 : Int32))).toNatClampNeg)))))] H := hP
        have hD : va_D A [(a0, .inl (cyI, n0, .inl ((upd f_a0 v2.toNatClampNeg (f_a0 ((v2 + (1 : Int32))).toNatClampNeg)))))] := hD
        refine lv_iinc (v := (v2 + (1 : Int32))) (lv' := [(2, .int (v2 + (1 : Int32))), (0, .ref a0)]) hx hb dX0_dropFrom_18 hl (k := 1) rfl (by rfl) (by decide) rfl (fun ls hl => ?_)
        refine lv_goto (tgt := 2) hx hb dX0_dropFrom_21 (by decide) ?_
        exact ih2 ((v2 + (1 : Int32))) ((upd f_a0 v2.toNatClampNeg (f_a0 ((v2 + (1 : Int32))).toNatClampNeg))) H locs ls hF hP hD hS (lv_sub hl [1, 0] rfl)
  obtain ⟨H, hH⟩ : ∃ H : Heap, H = s.heap := ⟨_, rfl⟩
  obtain ⟨locs, hlo⟩ : ∃ L : List Loc, L = [] := ⟨_, rfl⟩
  have hP : va_P D vwCl [(a0, .inl (cyI, n0, .inl f_a0))] H := by rw [hH]; exact hP
  have hS : va_S A s.heap H locs := by rw [hH, hlo]; exact hS
  show W p l e ({ frames := 0, cells := 0, slots := 0, locals := 0 } : Room) s m args below meth c s.heap [] 0 0 Q (F0 m 0 ls [])
  suffices hgo : W p l e ({ frames := 0, cells := 0, slots := 0, locals := 0 } : Room) s m args below meth c H locs 0 0 Q (F0 m 0 ls []) by rw [hH, hlo] at hgo; exact hgo
  refine lv_iload_n hx hb dX0_dropFrom_0 rfl (lv_at hl 1 rfl) ?_
  refine lv_istore_n (lv' := [(2, .int v1), (0, .ref a0), (1, .int v1)]) hx hb dX0_dropFrom_1 rfl hl (by decide) rfl (fun ls hl => ?_)
  exact L2 fu v1 f_a0 H locs ls hF hP hD hS (lv_sub hl [1, 0] rfl)
set_option maxHeartbeats 4000000 in
set_option maxRecDepth 100000 in
theorem c_X0_drop (l : Launch) (D : va_G) (cyI cyJ cyZ cyO : ClassId) (a0 : Nat) (a0_cashiers : Nat) (a0_tills : Nat) (a0_acts : Nat) (a0_wholes : Nat) (a0_begins : Nat) (a0_ends : Nat) (a0_answers : Nat) (a0_n : Int32) (f_a0_cashiers : Nat → Int32) (f_a0_tills : Nat → Int32) (f_a0_acts : Nat → Int32) (f_a0_wholes : Nat → Int32) (f_a0_begins : Nat → Int32) (f_a0_ends : Nat → Int32) (f_a0_answers : Nat → Int32) (v1 : Int32) (fu : Nat) (sz : Nat) (o : Int32 × (Nat → Int32) × (Nat → Int32) × (Nat → Int32) × (Nat → Int32) × (Nat → Int32) × (Nat → Int32) × (Nat → Int32)) (hF : F_X0_drop fu a0_n f_a0_cashiers f_a0_tills f_a0_acts f_a0_wholes f_a0_begins f_a0_ends f_a0_answers v1 = some o) : mV l yX0_drop cX0_drop 2 none ({ frames := 1, cells := 0, slots := 0, locals := 22 } : Room) D (wT cyI cyJ cyZ cyO) [.ref a0, .int v1] sz [(a0, .inr (0, [.ref a0_cashiers, .ref a0_tills, .ref a0_acts, .ref a0_wholes, .ref a0_begins, .ref a0_ends, .ref a0_answers, .int a0_n])), (a0_cashiers, .inl (cyI, 20, .inl f_a0_cashiers)), (a0_tills, .inl (cyI, 20, .inl f_a0_tills)), (a0_acts, .inl (cyI, 20, .inl f_a0_acts)), (a0_wholes, .inl (cyI, 20, .inl f_a0_wholes)), (a0_begins, .inl (cyI, 20, .inl f_a0_begins)), (a0_ends, .inl (cyI, 20, .inl f_a0_ends)), (a0_answers, .inl (cyI, 20, .inl f_a0_answers))] [(a0, .inr (0, [.ref a0_cashiers, .ref a0_tills, .ref a0_acts, .ref a0_wholes, .ref a0_begins, .ref a0_ends, .ref a0_answers, .int o.1])), (a0_cashiers, .inl (cyI, 20, .inl (o.2.1))), (a0_tills, .inl (cyI, 20, .inl (o.2.2.1))), (a0_acts, .inl (cyI, 20, .inl (o.2.2.2.1))), (a0_wholes, .inl (cyI, 20, .inl (o.2.2.2.2.1))), (a0_begins, .inl (cyI, 20, .inl (o.2.2.2.2.2.1))), (a0_ends, .inl (cyI, 20, .inl (o.2.2.2.2.2.2.1))), (a0_answers, .inl (cyI, 20, .inl (o.2.2.2.2.2.2.2)))] := by
  refine kM_v (by decide +kernel) (Nat.le_of_ble_eq_true rfl) ?_
  intro p e s m args below meth c A ls Q hx hb hr hlocks hml hown hG hK hA hP hD hS hl hQ
  have hown : s.vm.findClass RX0 = some m.cls := hown
  have hl : lv_has ls 2 [(0, .ref a0), (1, .int v1)] := hl
  obtain ⟨H, hH⟩ : ∃ H : Heap, H = s.heap := ⟨_, rfl⟩
  obtain ⟨locs, hlo⟩ : ∃ L : List Loc, L = [] := ⟨_, rfl⟩
  have hP : va_P D vwCl [(a0, .inr (0, [.ref a0_cashiers, .ref a0_tills, .ref a0_acts, .ref a0_wholes, .ref a0_begins, .ref a0_ends, .ref a0_answers, .int a0_n])), (a0_cashiers, .inl (cyI, 20, .inl f_a0_cashiers)), (a0_tills, .inl (cyI, 20, .inl f_a0_tills)), (a0_acts, .inl (cyI, 20, .inl f_a0_acts)), (a0_wholes, .inl (cyI, 20, .inl f_a0_wholes)), (a0_begins, .inl (cyI, 20, .inl f_a0_begins)), (a0_ends, .inl (cyI, 20, .inl f_a0_ends)), (a0_answers, .inl (cyI, 20, .inl f_a0_answers))] H := by rw [hH]; exact hP
  have hS : va_S A s.heap H locs := by rw [hH, hlo]; exact hS
  show W p l e ({ frames := 1, cells := 0, slots := 0, locals := 22 } : Room) s m args below meth c s.heap [] 0 0 Q (F0 m 0 ls [])
  suffices hgo : W p l e ({ frames := 1, cells := 0, slots := 0, locals := 22 } : Room) s m args below meth c H locs 0 0 Q (F0 m 0 ls []) by rw [hH, hlo] at hgo; exact hgo
  refine lv_aload_n hx hb dX0_drop_0 rfl (lv_at hl 0 rfl) ?_
  refine lv_iload_n hx hb dX0_drop_1 rfl (lv_at hl 1 rfl) ?_
  obtain ⟨r2, hc, hF⟩ := bnd1_some hF
  refine kVi (As := [.int v1]) (rest := []) (ws' := [(a0, .inr (0, [.ref a0_cashiers, .ref a0_tills, .ref a0_acts, .ref a0_wholes, .ref a0_begins, .ref a0_ends, .ref a0_answers, .int a0_n])), (a0_cashiers, .inl (cyI, 20, .inl f_a0_cashiers)), (a0_tills, .inl (cyI, 20, .inl f_a0_tills)), (a0_acts, .inl (cyI, 20, .inl f_a0_acts)), (a0_wholes, .inl (cyI, 20, .inl f_a0_wholes)), (a0_begins, .inl (cyI, 20, .inl f_a0_begins)), (a0_ends, .inl (cyI, 20, .inl f_a0_ends)), (a0_answers, .inl (cyI, 20, .inl f_a0_answers))]) ⟨hx, hb, hml, hown, hG⟩ hK hP hD hS hA (c_X0_has l D cyI cyJ cyZ cyO a0 a0_cashiers a0_tills a0_acts a0_wholes a0_begins a0_ends a0_answers a0_n v1 H.size _ hc) (cw_X0_43 hG rfl rfl ⟨Nat.le_of_ble_eq_true rfl, Nat.le_of_ble_eq_true rfl⟩) 0 rfl rfl [0] rfl rfl rfl rfl rfl rfl hl.1 rfl (Nat.le_of_ble_eq_true rfl) dX0_drop_2 ⟨Nat.zero_le _, Nat.zero_le _⟩ (fun H locs hP hD hS => ?_)
  refine lv_if_ne (tgt := 9) hx hb dX0_drop_5 (by decide) (fun h => ?_) (fun h => ?_)
  · have hF := t_neg h hF
    refine lv_aload_n hx hb dX0_drop_9 rfl (lv_at hl 0 rfl) ?_
    refine gt_X0_9 hx hb hG hown hK hP 0 rfl rfl dX0_drop_10 ?_
    refine lv_iload_n hx hb dX0_drop_13 rfl (lv_at hl 1 rfl) ?_
    obtain ⟨u14_0, hc, hF⟩ := bnd1_some hF
    refine kSv (As := [.ref a0_cashiers, .int v1]) (rest := []) (ws' := [(a0, .inr (0, [.ref a0_cashiers, .ref a0_tills, .ref a0_acts, .ref a0_wholes, .ref a0_begins, .ref a0_ends, .ref a0_answers, .int a0_n])), (a0_cashiers, .inl (cyI, 20, .inl u14_0)), (a0_tills, .inl (cyI, 20, .inl f_a0_tills)), (a0_acts, .inl (cyI, 20, .inl f_a0_acts)), (a0_wholes, .inl (cyI, 20, .inl f_a0_wholes)), (a0_begins, .inl (cyI, 20, .inl f_a0_begins)), (a0_ends, .inl (cyI, 20, .inl f_a0_ends)), (a0_answers, .inl (cyI, 20, .inl f_a0_answers))]) ⟨hx, hb, hml, hown, hG⟩ hK hP hD hS hA (c_X0_dropFrom l D cyI cyJ cyZ cyO a0_cashiers 20 f_a0_cashiers v1 fu H.size _ hc) (cs_X0_58 hG rfl rfl ⟨Nat.le_of_ble_eq_true rfl, Nat.le_of_ble_eq_true rfl⟩) [1] rfl rfl rfl rfl rfl rfl hl.1 rfl (Nat.le_of_ble_eq_true rfl) dX0_drop_14 ⟨Nat.zero_le _, Nat.zero_le _⟩ (fun H locs hP hD hS => ?_)
    refine lv_aload_n hx hb dX0_drop_17 rfl (lv_at hl 0 rfl) ?_
    refine gt_X0_15 hx hb hG hown hK hP 0 rfl rfl dX0_drop_18 ?_
    refine lv_iload_n hx hb dX0_drop_21 rfl (lv_at hl 1 rfl) ?_
    obtain ⟨u22_0, hc, hF⟩ := bnd1_some hF
    refine kSv (As := [.ref a0_tills, .int v1]) (rest := []) (ws' := [(a0, .inr (0, [.ref a0_cashiers, .ref a0_tills, .ref a0_acts, .ref a0_wholes, .ref a0_begins, .ref a0_ends, .ref a0_answers, .int a0_n])), (a0_cashiers, .inl (cyI, 20, .inl u14_0)), (a0_tills, .inl (cyI, 20, .inl u22_0)), (a0_acts, .inl (cyI, 20, .inl f_a0_acts)), (a0_wholes, .inl (cyI, 20, .inl f_a0_wholes)), (a0_begins, .inl (cyI, 20, .inl f_a0_begins)), (a0_ends, .inl (cyI, 20, .inl f_a0_ends)), (a0_answers, .inl (cyI, 20, .inl f_a0_answers))]) ⟨hx, hb, hml, hown, hG⟩ hK hP hD hS hA (c_X0_dropFrom l D cyI cyJ cyZ cyO a0_tills 20 f_a0_tills v1 fu H.size _ hc) (cs_X0_58 hG rfl rfl ⟨Nat.le_of_ble_eq_true rfl, Nat.le_of_ble_eq_true rfl⟩) [2] rfl rfl rfl rfl rfl rfl hl.1 rfl (Nat.le_of_ble_eq_true rfl) dX0_drop_22 ⟨Nat.zero_le _, Nat.zero_le _⟩ (fun H locs hP hD hS => ?_)
    refine lv_aload_n hx hb dX0_drop_25 rfl (lv_at hl 0 rfl) ?_
    refine gt_X0_18 hx hb hG hown hK hP 0 rfl rfl dX0_drop_26 ?_
    refine lv_iload_n hx hb dX0_drop_29 rfl (lv_at hl 1 rfl) ?_
    obtain ⟨u30_0, hc, hF⟩ := bnd1_some hF
    refine kSv (As := [.ref a0_acts, .int v1]) (rest := []) (ws' := [(a0, .inr (0, [.ref a0_cashiers, .ref a0_tills, .ref a0_acts, .ref a0_wholes, .ref a0_begins, .ref a0_ends, .ref a0_answers, .int a0_n])), (a0_cashiers, .inl (cyI, 20, .inl u14_0)), (a0_tills, .inl (cyI, 20, .inl u22_0)), (a0_acts, .inl (cyI, 20, .inl u30_0)), (a0_wholes, .inl (cyI, 20, .inl f_a0_wholes)), (a0_begins, .inl (cyI, 20, .inl f_a0_begins)), (a0_ends, .inl (cyI, 20, .inl f_a0_ends)), (a0_answers, .inl (cyI, 20, .inl f_a0_answers))]) ⟨hx, hb, hml, hown, hG⟩ hK hP hD hS hA (c_X0_dropFrom l D cyI cyJ cyZ cyO a0_acts 20 f_a0_acts v1 fu H.size _ hc) (cs_X0_58 hG rfl rfl ⟨Nat.le_of_ble_eq_true rfl, Nat.le_of_ble_eq_true rfl⟩) [3] rfl rfl rfl rfl rfl rfl hl.1 rfl (Nat.le_of_ble_eq_true rfl) dX0_drop_30 ⟨Nat.zero_le _, Nat.zero_le _⟩ (fun H locs hP hD hS => ?_)
    refine lv_aload_n hx hb dX0_drop_33 rfl (lv_at hl 0 rfl) ?_
    refine gt_X0_21 hx hb hG hown hK hP 0 rfl rfl dX0_drop_34 ?_
    refine lv_iload_n hx hb dX0_drop_37 rfl (lv_at hl 1 rfl) ?_
    obtain ⟨u38_0, hc, hF⟩ := bnd1_some hF
    refine kSv (As := [.ref a0_wholes, .int v1]) (rest := []) (ws' := [(a0, .inr (0, [.ref a0_cashiers, .ref a0_tills, .ref a0_acts, .ref a0_wholes, .ref a0_begins, .ref a0_ends, .ref a0_answers, .int a0_n])), (a0_cashiers, .inl (cyI, 20, .inl u14_0)), (a0_tills, .inl (cyI, 20, .inl u22_0)), (a0_acts, .inl (cyI, 20, .inl u30_0)), (a0_wholes, .inl (cyI, 20, .inl u38_0)), (a0_begins, .inl (cyI, 20, .inl f_a0_begins)), (a0_ends, .inl (cyI, 20, .inl f_a0_ends)), (a0_answers, .inl (cyI, 20, .inl f_a0_answers))]) ⟨hx, hb, hml, hown, hG⟩ hK hP hD hS hA (c_X0_dropFrom l D cyI cyJ cyZ cyO a0_wholes 20 f_a0_wholes v1 fu H.size _ hc) (cs_X0_58 hG rfl rfl ⟨Nat.le_of_ble_eq_true rfl, Nat.le_of_ble_eq_true rfl⟩) [4] rfl rfl rfl rfl rfl rfl hl.1 rfl (Nat.le_of_ble_eq_true rfl) dX0_drop_38 ⟨Nat.zero_le _, Nat.zero_le _⟩ (fun H locs hP hD hS => ?_)
    refine lv_aload_n hx hb dX0_drop_41 rfl (lv_at hl 0 rfl) ?_
    refine gt_X0_24 hx hb hG hown hK hP 0 rfl rfl dX0_drop_42 ?_
    refine lv_iload_n hx hb dX0_drop_45 rfl (lv_at hl 1 rfl) ?_
    obtain ⟨u46_0, hc, hF⟩ := bnd1_some hF
    refine kSv (As := [.ref a0_begins, .int v1]) (rest := []) (ws' := [(a0, .inr (0, [.ref a0_cashiers, .ref a0_tills, .ref a0_acts, .ref a0_wholes, .ref a0_begins, .ref a0_ends, .ref a0_answers, .int a0_n])), (a0_cashiers, .inl (cyI, 20, .inl u14_0)), (a0_tills, .inl (cyI, 20, .inl u22_0)), (a0_acts, .inl (cyI, 20, .inl u30_0)), (a0_wholes, .inl (cyI, 20, .inl u38_0)), (a0_begins, .inl (cyI, 20, .inl u46_0)), (a0_ends, .inl (cyI, 20, .inl f_a0_ends)), (a0_answers, .inl (cyI, 20, .inl f_a0_answers))]) ⟨hx, hb, hml, hown, hG⟩ hK hP hD hS hA (c_X0_dropFrom l D cyI cyJ cyZ cyO a0_begins 20 f_a0_begins v1 fu H.size _ hc) (cs_X0_58 hG rfl rfl ⟨Nat.le_of_ble_eq_true rfl, Nat.le_of_ble_eq_true rfl⟩) [5] rfl rfl rfl rfl rfl rfl hl.1 rfl (Nat.le_of_ble_eq_true rfl) dX0_drop_46 ⟨Nat.zero_le _, Nat.zero_le _⟩ (fun H locs hP hD hS => ?_)
    refine lv_aload_n hx hb dX0_drop_49 rfl (lv_at hl 0 rfl) ?_
    refine gt_X0_27 hx hb hG hown hK hP 0 rfl rfl dX0_drop_50 ?_
    refine lv_iload_n hx hb dX0_drop_53 rfl (lv_at hl 1 rfl) ?_
    obtain ⟨u54_0, hc, hF⟩ := bnd1_some hF
    refine kSv (As := [.ref a0_ends, .int v1]) (rest := []) (ws' := [(a0, .inr (0, [.ref a0_cashiers, .ref a0_tills, .ref a0_acts, .ref a0_wholes, .ref a0_begins, .ref a0_ends, .ref a0_answers, .int a0_n])), (a0_cashiers, .inl (cyI, 20, .inl u14_0)), (a0_tills, .inl (cyI, 20, .inl u22_0)), (a0_acts, .inl (cyI, 20, .inl u30_0)), (a0_wholes, .inl (cyI, 20, .inl u38_0)), (a0_begins, .inl (cyI, 20, .inl u46_0)), (a0_ends, .inl (cyI, 20, .inl u54_0)), (a0_answers, .inl (cyI, 20, .inl f_a0_answers))]) ⟨hx, hb, hml, hown, hG⟩ hK hP hD hS hA (c_X0_dropFrom l D cyI cyJ cyZ cyO a0_ends 20 f_a0_ends v1 fu H.size _ hc) (cs_X0_58 hG rfl rfl ⟨Nat.le_of_ble_eq_true rfl, Nat.le_of_ble_eq_true rfl⟩) [6] rfl rfl rfl rfl rfl rfl hl.1 rfl (Nat.le_of_ble_eq_true rfl) dX0_drop_54 ⟨Nat.zero_le _, Nat.zero_le _⟩ (fun H locs hP hD hS => ?_)
    refine lv_aload_n hx hb dX0_drop_57 rfl (lv_at hl 0 rfl) ?_
    refine gt_X0_30 hx hb hG hown hK hP 0 rfl rfl dX0_drop_58 ?_
    refine lv_iload_n hx hb dX0_drop_61 rfl (lv_at hl 1 rfl) ?_
    obtain ⟨u62_0, hc, hF⟩ := bnd1_some hF
    refine kSv (As := [.ref a0_answers, .int v1]) (rest := []) (ws' := [(a0, .inr (0, [.ref a0_cashiers, .ref a0_tills, .ref a0_acts, .ref a0_wholes, .ref a0_begins, .ref a0_ends, .ref a0_answers, .int a0_n])), (a0_cashiers, .inl (cyI, 20, .inl u14_0)), (a0_tills, .inl (cyI, 20, .inl u22_0)), (a0_acts, .inl (cyI, 20, .inl u30_0)), (a0_wholes, .inl (cyI, 20, .inl u38_0)), (a0_begins, .inl (cyI, 20, .inl u46_0)), (a0_ends, .inl (cyI, 20, .inl u54_0)), (a0_answers, .inl (cyI, 20, .inl u62_0))]) ⟨hx, hb, hml, hown, hG⟩ hK hP hD hS hA (c_X0_dropFrom l D cyI cyJ cyZ cyO a0_answers 20 f_a0_answers v1 fu H.size _ hc) (cs_X0_58 hG rfl rfl ⟨Nat.le_of_ble_eq_true rfl, Nat.le_of_ble_eq_true rfl⟩) [7] rfl rfl rfl rfl rfl rfl hl.1 rfl (Nat.le_of_ble_eq_true rfl) dX0_drop_62 ⟨Nat.zero_le _, Nat.zero_le _⟩ (fun H locs hP hD hS => ?_)
    refine lv_aload_n hx hb dX0_drop_65 rfl (lv_at hl 0 rfl) ?_
    refine lv_dup hx hb dX0_drop_66 rfl ?_
    refine gt_X0_33 hx hb hG hown hK hP 0 rfl rfl dX0_drop_67 ?_
    refine lv_iconst (v := (1 : Int32)) hx hb dX0_drop_70 (by decide) ?_
    refine lv_isub hx hb dX0_drop_71 ?_
    refine pt_X0_33 (v := .int (a0_n - (1 : Int32))) hx hb hG hown hK hP hD hS 0 rfl rfl rfl (Nat.le_of_ble_eq_true rfl) dX0_drop_72 (fun H locs hP hD hS => ?_)
    have hP : va_P D vwCl [(a0, .inr (0, [.ref a0_cashiers, .ref a0_tills, .ref a0_acts, .ref a0_wholes, .ref a0_begins, .ref a0_ends, .ref a0_answers, .int (a0_n - (1 : Int32))])), (a0_cashiers, .inl (cyI, 20, .inl u14_0)), (a0_tills, .inl (cyI, 20, .inl u22_0)), (a0_acts, .inl (cyI, 20, .inl u30_0)), (a0_wholes, .inl (cyI, 20, .inl u38_0)), (a0_begins, .inl (cyI, 20, .inl u46_0)), (a0_ends, .inl (cyI, 20, .inl u54_0)), (a0_answers, .inl (cyI, 20, .inl u62_0))] H := hP
    have hD : va_D A [(a0, .inr (0, [.ref a0_cashiers, .ref a0_tills, .ref a0_acts, .ref a0_wholes, .ref a0_begins, .ref a0_ends, .ref a0_answers, .int (a0_n - (1 : Int32))])), (a0_cashiers, .inl (cyI, 20, .inl u14_0)), (a0_tills, .inl (cyI, 20, .inl u22_0)), (a0_acts, .inl (cyI, 20, .inl u30_0)), (a0_wholes, .inl (cyI, 20, .inl u38_0)), (a0_begins, .inl (cyI, 20, .inl u46_0)), (a0_ends, .inl (cyI, 20, .inl u54_0)), (a0_answers, .inl (cyI, 20, .inl u62_0))] := hD
    exact kRv (τ := Int32 × (Nat → Int32) × (Nat → Int32) × (Nat → Int32) × (Nat → Int32) × (Nat → Int32) × (Nat → Int32) × (Nat → Int32)) (cv := ((a0_n - (1 : Int32)), u14_0, u22_0, u30_0, u38_0, u46_0, u54_0, u62_0)) (fw := fun u => [(a0, .inr (0, [.ref a0_cashiers, .ref a0_tills, .ref a0_acts, .ref a0_wholes, .ref a0_begins, .ref a0_ends, .ref a0_answers, .int u.1])), (a0_cashiers, .inl (cyI, 20, .inl (u.2.1))), (a0_tills, .inl (cyI, 20, .inl (u.2.2.1))), (a0_acts, .inl (cyI, 20, .inl (u.2.2.2.1))), (a0_wholes, .inl (cyI, 20, .inl (u.2.2.2.2.1))), (a0_begins, .inl (cyI, 20, .inl (u.2.2.2.2.2.1))), (a0_ends, .inl (cyI, 20, .inl (u.2.2.2.2.2.2.1))), (a0_answers, .inl (cyI, 20, .inl (u.2.2.2.2.2.2.2)))]) hQ hx hb hr hlocks hK hP hD hS hF  dX0_drop_75
  · have hF := t_pos h hF
    exact kRv (τ := Int32 × (Nat → Int32) × (Nat → Int32) × (Nat → Int32) × (Nat → Int32) × (Nat → Int32) × (Nat → Int32) × (Nat → Int32)) (cv := (a0_n, f_a0_cashiers, f_a0_tills, f_a0_acts, f_a0_wholes, f_a0_begins, f_a0_ends, f_a0_answers)) (fw := fun u => [(a0, .inr (0, [.ref a0_cashiers, .ref a0_tills, .ref a0_acts, .ref a0_wholes, .ref a0_begins, .ref a0_ends, .ref a0_answers, .int u.1])), (a0_cashiers, .inl (cyI, 20, .inl (u.2.1))), (a0_tills, .inl (cyI, 20, .inl (u.2.2.1))), (a0_acts, .inl (cyI, 20, .inl (u.2.2.2.1))), (a0_wholes, .inl (cyI, 20, .inl (u.2.2.2.2.1))), (a0_begins, .inl (cyI, 20, .inl (u.2.2.2.2.2.1))), (a0_ends, .inl (cyI, 20, .inl (u.2.2.2.2.2.2.1))), (a0_answers, .inl (cyI, 20, .inl (u.2.2.2.2.2.2.2)))]) hQ hx hb hr hlocks hK hP hD hS hF  dX0_drop_8
set_option maxHeartbeats 4000000 in
set_option maxRecDepth 100000 in
theorem c_X0_cashierOf (l : Launch) (D : va_G) (cyI cyJ cyZ cyO : ClassId) (a0 : Nat) (a0_cashiers : Nat) (a0_tills : Nat) (a0_acts : Nat) (a0_wholes : Nat) (a0_begins : Nat) (a0_ends : Nat) (a0_answers : Nat) (a0_n : Int32) (f_a0_cashiers : Nat → Int32) (v1 : Int32) (sz : Nat) (o : Int32) (hF : F_X0_cashierOf f_a0_cashiers v1 = some o) : mI l yX0_cashierOf cX0_cashierOf 2 (some .int) ({ frames := 1, cells := 0, slots := 0, locals := 21 } : Room) D (wT cyI cyJ cyZ cyO) [.ref a0, .int v1] sz [(a0, .inr (0, [.ref a0_cashiers, .ref a0_tills, .ref a0_acts, .ref a0_wholes, .ref a0_begins, .ref a0_ends, .ref a0_answers, .int a0_n])), (a0_cashiers, .inl (cyI, 20, .inl f_a0_cashiers))] o [(a0, .inr (0, [.ref a0_cashiers, .ref a0_tills, .ref a0_acts, .ref a0_wholes, .ref a0_begins, .ref a0_ends, .ref a0_answers, .int a0_n])), (a0_cashiers, .inl (cyI, 20, .inl f_a0_cashiers))] := by
  refine kM_i (by decide +kernel) (Nat.le_of_ble_eq_true rfl) ?_
  intro p e s m args below meth c A ls Q hx hb hr hlocks hml hown hG hK hA hP hD hS hl hQ
  have hown : s.vm.findClass RX0 = some m.cls := hown
  have hl : lv_has ls 2 [(0, .ref a0), (1, .int v1)] := hl
  obtain ⟨H, hH⟩ : ∃ H : Heap, H = s.heap := ⟨_, rfl⟩
  obtain ⟨locs, hlo⟩ : ∃ L : List Loc, L = [] := ⟨_, rfl⟩
  have hP : va_P D vwCl [(a0, .inr (0, [.ref a0_cashiers, .ref a0_tills, .ref a0_acts, .ref a0_wholes, .ref a0_begins, .ref a0_ends, .ref a0_answers, .int a0_n])), (a0_cashiers, .inl (cyI, 20, .inl f_a0_cashiers))] H := by rw [hH]; exact hP
  have hS : va_S A s.heap H locs := by rw [hH, hlo]; exact hS
  show W p l e ({ frames := 1, cells := 0, slots := 0, locals := 21 } : Room) s m args below meth c s.heap [] 0 0 Q (F0 m 0 ls [])
  suffices hgo : W p l e ({ frames := 1, cells := 0, slots := 0, locals := 21 } : Room) s m args below meth c H locs 0 0 Q (F0 m 0 ls []) by rw [hH, hlo] at hgo; exact hgo
  refine lv_aload_n hx hb dX0_cashierOf_0 rfl (lv_at hl 0 rfl) ?_
  refine gt_X0_9 hx hb hG hown hK hP 0 rfl rfl dX0_cashierOf_1 ?_
  refine lv_iload_n hx hb dX0_cashierOf_4 rfl (lv_at hl 1 rfl) ?_
  obtain ⟨r5, hc, hF⟩ := bnd1_some hF
  refine kSi (As := [.ref a0_cashiers, .int v1]) (rest := []) (ws' := [(a0, .inr (0, [.ref a0_cashiers, .ref a0_tills, .ref a0_acts, .ref a0_wholes, .ref a0_begins, .ref a0_ends, .ref a0_answers, .int a0_n])), (a0_cashiers, .inl (cyI, 20, .inl f_a0_cashiers))]) ⟨hx, hb, hml, hown, hG⟩ hK hP hD hS hA (c_X0_at l D cyI cyJ cyZ cyO a0_cashiers 20 f_a0_cashiers v1 H.size _ hc) (cs_X0_62 hG rfl rfl ⟨Nat.le_of_ble_eq_true rfl, Nat.le_of_ble_eq_true rfl⟩) [1] rfl rfl rfl rfl rfl rfl hl.1 rfl (Nat.le_of_ble_eq_true rfl) dX0_cashierOf_5 ⟨Nat.zero_le _, Nat.zero_le _⟩ (fun H locs hP hD hS => ?_)
  exact kRi (τ := Int32) (cv := r5) (fr := fun u => u) (fw := fun u => [(a0, .inr (0, [.ref a0_cashiers, .ref a0_tills, .ref a0_acts, .ref a0_wholes, .ref a0_begins, .ref a0_ends, .ref a0_answers, .int a0_n])), (a0_cashiers, .inl (cyI, 20, .inl f_a0_cashiers))]) hQ hx hb hr hlocks hK hP hD hS hF rfl dX0_cashierOf_8
set_option maxHeartbeats 4000000 in
set_option maxRecDepth 100000 in
theorem c_X0_tillOf (l : Launch) (D : va_G) (cyI cyJ cyZ cyO : ClassId) (a0 : Nat) (a0_cashiers : Nat) (a0_tills : Nat) (a0_acts : Nat) (a0_wholes : Nat) (a0_begins : Nat) (a0_ends : Nat) (a0_answers : Nat) (a0_n : Int32) (f_a0_tills : Nat → Int32) (v1 : Int32) (sz : Nat) (o : Int32) (hF : F_X0_tillOf f_a0_tills v1 = some o) : mI l yX0_tillOf cX0_tillOf 2 (some .int) ({ frames := 1, cells := 0, slots := 0, locals := 21 } : Room) D (wT cyI cyJ cyZ cyO) [.ref a0, .int v1] sz [(a0, .inr (0, [.ref a0_cashiers, .ref a0_tills, .ref a0_acts, .ref a0_wholes, .ref a0_begins, .ref a0_ends, .ref a0_answers, .int a0_n])), (a0_tills, .inl (cyI, 20, .inl f_a0_tills))] o [(a0, .inr (0, [.ref a0_cashiers, .ref a0_tills, .ref a0_acts, .ref a0_wholes, .ref a0_begins, .ref a0_ends, .ref a0_answers, .int a0_n])), (a0_tills, .inl (cyI, 20, .inl f_a0_tills))] := by
  refine kM_i (by decide +kernel) (Nat.le_of_ble_eq_true rfl) ?_
  intro p e s m args below meth c A ls Q hx hb hr hlocks hml hown hG hK hA hP hD hS hl hQ
  have hown : s.vm.findClass RX0 = some m.cls := hown
  have hl : lv_has ls 2 [(0, .ref a0), (1, .int v1)] := hl
  obtain ⟨H, hH⟩ : ∃ H : Heap, H = s.heap := ⟨_, rfl⟩
  obtain ⟨locs, hlo⟩ : ∃ L : List Loc, L = [] := ⟨_, rfl⟩
  have hP : va_P D vwCl [(a0, .inr (0, [.ref a0_cashiers, .ref a0_tills, .ref a0_acts, .ref a0_wholes, .ref a0_begins, .ref a0_ends, .ref a0_answers, .int a0_n])), (a0_tills, .inl (cyI, 20, .inl f_a0_tills))] H := by rw [hH]; exact hP
  have hS : va_S A s.heap H locs := by rw [hH, hlo]; exact hS
  show W p l e ({ frames := 1, cells := 0, slots := 0, locals := 21 } : Room) s m args below meth c s.heap [] 0 0 Q (F0 m 0 ls [])
  suffices hgo : W p l e ({ frames := 1, cells := 0, slots := 0, locals := 21 } : Room) s m args below meth c H locs 0 0 Q (F0 m 0 ls []) by rw [hH, hlo] at hgo; exact hgo
  refine lv_aload_n hx hb dX0_tillOf_0 rfl (lv_at hl 0 rfl) ?_
  refine gt_X0_15 hx hb hG hown hK hP 0 rfl rfl dX0_tillOf_1 ?_
  refine lv_iload_n hx hb dX0_tillOf_4 rfl (lv_at hl 1 rfl) ?_
  obtain ⟨r5, hc, hF⟩ := bnd1_some hF
  refine kSi (As := [.ref a0_tills, .int v1]) (rest := []) (ws' := [(a0, .inr (0, [.ref a0_cashiers, .ref a0_tills, .ref a0_acts, .ref a0_wholes, .ref a0_begins, .ref a0_ends, .ref a0_answers, .int a0_n])), (a0_tills, .inl (cyI, 20, .inl f_a0_tills))]) ⟨hx, hb, hml, hown, hG⟩ hK hP hD hS hA (c_X0_at l D cyI cyJ cyZ cyO a0_tills 20 f_a0_tills v1 H.size _ hc) (cs_X0_62 hG rfl rfl ⟨Nat.le_of_ble_eq_true rfl, Nat.le_of_ble_eq_true rfl⟩) [1] rfl rfl rfl rfl rfl rfl hl.1 rfl (Nat.le_of_ble_eq_true rfl) dX0_tillOf_5 ⟨Nat.zero_le _, Nat.zero_le _⟩ (fun H locs hP hD hS => ?_)
  exact kRi (τ := Int32) (cv := r5) (fr := fun u => u) (fw := fun u => [(a0, .inr (0, [.ref a0_cashiers, .ref a0_tills, .ref a0_acts, .ref a0_wholes, .ref a0_begins, .ref a0_ends, .ref a0_answers, .int a0_n])), (a0_tills, .inl (cyI, 20, .inl f_a0_tills))]) hQ hx hb hr hlocks hK hP hD hS hF rfl dX0_tillOf_8
set_option maxHeartbeats 4000000 in
set_option maxRecDepth 100000 in
theorem c_X0_actOf (l : Launch) (D : va_G) (cyI cyJ cyZ cyO : ClassId) (a0 : Nat) (a0_cashiers : Nat) (a0_tills : Nat) (a0_acts : Nat) (a0_wholes : Nat) (a0_begins : Nat) (a0_ends : Nat) (a0_answers : Nat) (a0_n : Int32) (f_a0_acts : Nat → Int32) (v1 : Int32) (sz : Nat) (o : Int32) (hF : F_X0_actOf f_a0_acts v1 = some o) : mI l yX0_actOf cX0_actOf 2 (some .int) ({ frames := 1, cells := 0, slots := 0, locals := 21 } : Room) D (wT cyI cyJ cyZ cyO) [.ref a0, .int v1] sz [(a0, .inr (0, [.ref a0_cashiers, .ref a0_tills, .ref a0_acts, .ref a0_wholes, .ref a0_begins, .ref a0_ends, .ref a0_answers, .int a0_n])), (a0_acts, .inl (cyI, 20, .inl f_a0_acts))] o [(a0, .inr (0, [.ref a0_cashiers, .ref a0_tills, .ref a0_acts, .ref a0_wholes, .ref a0_begins, .ref a0_ends, .ref a0_answers, .int a0_n])), (a0_acts, .inl (cyI, 20, .inl f_a0_acts))] := by
  refine kM_i (by decide +kernel) (Nat.le_of_ble_eq_true rfl) ?_
  intro p e s m args below meth c A ls Q hx hb hr hlocks hml hown hG hK hA hP hD hS hl hQ
  have hown : s.vm.findClass RX0 = some m.cls := hown
  have hl : lv_has ls 2 [(0, .ref a0), (1, .int v1)] := hl
  obtain ⟨H, hH⟩ : ∃ H : Heap, H = s.heap := ⟨_, rfl⟩
  obtain ⟨locs, hlo⟩ : ∃ L : List Loc, L = [] := ⟨_, rfl⟩
  have hP : va_P D vwCl [(a0, .inr (0, [.ref a0_cashiers, .ref a0_tills, .ref a0_acts, .ref a0_wholes, .ref a0_begins, .ref a0_ends, .ref a0_answers, .int a0_n])), (a0_acts, .inl (cyI, 20, .inl f_a0_acts))] H := by rw [hH]; exact hP
  have hS : va_S A s.heap H locs := by rw [hH, hlo]; exact hS
  show W p l e ({ frames := 1, cells := 0, slots := 0, locals := 21 } : Room) s m args below meth c s.heap [] 0 0 Q (F0 m 0 ls [])
  suffices hgo : W p l e ({ frames := 1, cells := 0, slots := 0, locals := 21 } : Room) s m args below meth c H locs 0 0 Q (F0 m 0 ls []) by rw [hH, hlo] at hgo; exact hgo
  refine lv_aload_n hx hb dX0_actOf_0 rfl (lv_at hl 0 rfl) ?_
  refine gt_X0_18 hx hb hG hown hK hP 0 rfl rfl dX0_actOf_1 ?_
  refine lv_iload_n hx hb dX0_actOf_4 rfl (lv_at hl 1 rfl) ?_
  obtain ⟨r5, hc, hF⟩ := bnd1_some hF
  refine kSi (As := [.ref a0_acts, .int v1]) (rest := []) (ws' := [(a0, .inr (0, [.ref a0_cashiers, .ref a0_tills, .ref a0_acts, .ref a0_wholes, .ref a0_begins, .ref a0_ends, .ref a0_answers, .int a0_n])), (a0_acts, .inl (cyI, 20, .inl f_a0_acts))]) ⟨hx, hb, hml, hown, hG⟩ hK hP hD hS hA (c_X0_at l D cyI cyJ cyZ cyO a0_acts 20 f_a0_acts v1 H.size _ hc) (cs_X0_62 hG rfl rfl ⟨Nat.le_of_ble_eq_true rfl, Nat.le_of_ble_eq_true rfl⟩) [1] rfl rfl rfl rfl rfl rfl hl.1 rfl (Nat.le_of_ble_eq_true rfl) dX0_actOf_5 ⟨Nat.zero_le _, Nat.zero_le _⟩ (fun H locs hP hD hS => ?_)
  exact kRi (τ := Int32) (cv := r5) (fr := fun u => u) (fw := fun u => [(a0, .inr (0, [.ref a0_cashiers, .ref a0_tills, .ref a0_acts, .ref a0_wholes, .ref a0_begins, .ref a0_ends, .ref a0_answers, .int a0_n])), (a0_acts, .inl (cyI, 20, .inl f_a0_acts))]) hQ hx hb hr hlocks hK hP hD hS hF rfl dX0_actOf_8
set_option maxHeartbeats 4000000 in
set_option maxRecDepth 100000 in
theorem c_X0_wholeOf (l : Launch) (D : va_G) (cyI cyJ cyZ cyO : ClassId) (a0 : Nat) (a0_cashiers : Nat) (a0_tills : Nat) (a0_acts : Nat) (a0_wholes : Nat) (a0_begins : Nat) (a0_ends : Nat) (a0_answers : Nat) (a0_n : Int32) (f_a0_wholes : Nat → Int32) (v1 : Int32) (sz : Nat) (o : Int32) (hF : F_X0_wholeOf f_a0_wholes v1 = some o) : mI l yX0_wholeOf cX0_wholeOf 2 (some .int) ({ frames := 1, cells := 0, slots := 0, locals := 21 } : Room) D (wT cyI cyJ cyZ cyO) [.ref a0, .int v1] sz [(a0, .inr (0, [.ref a0_cashiers, .ref a0_tills, .ref a0_acts, .ref a0_wholes, .ref a0_begins, .ref a0_ends, .ref a0_answers, .int a0_n])), (a0_wholes, .inl (cyI, 20, .inl f_a0_wholes))] o [(a0, .inr (0, [.ref a0_cashiers, .ref a0_tills, .ref a0_acts, .ref a0_wholes, .ref a0_begins, .ref a0_ends, .ref a0_answers, .int a0_n])), (a0_wholes, .inl (cyI, 20, .inl f_a0_wholes))] := by
  refine kM_i (by decide +kernel) (Nat.le_of_ble_eq_true rfl) ?_
  intro p e s m args below meth c A ls Q hx hb hr hlocks hml hown hG hK hA hP hD hS hl hQ
  have hown : s.vm.findClass RX0 = some m.cls := hown
  have hl : lv_has ls 2 [(0, .ref a0), (1, .int v1)] := hl
  obtain ⟨H, hH⟩ : ∃ H : Heap, H = s.heap := ⟨_, rfl⟩
  obtain ⟨locs, hlo⟩ : ∃ L : List Loc, L = [] := ⟨_, rfl⟩
  have hP : va_P D vwCl [(a0, .inr (0, [.ref a0_cashiers, .ref a0_tills, .ref a0_acts, .ref a0_wholes, .ref a0_begins, .ref a0_ends, .ref a0_answers, .int a0_n])), (a0_wholes, .inl (cyI, 20, .inl f_a0_wholes))] H := by rw [hH]; exact hP
  have hS : va_S A s.heap H locs := by rw [hH, hlo]; exact hS
  show W p l e ({ frames := 1, cells := 0, slots := 0, locals := 21 } : Room) s m args below meth c s.heap [] 0 0 Q (F0 m 0 ls [])
  suffices hgo : W p l e ({ frames := 1, cells := 0, slots := 0, locals := 21 } : Room) s m args below meth c H locs 0 0 Q (F0 m 0 ls []) by rw [hH, hlo] at hgo; exact hgo
  refine lv_aload_n hx hb dX0_wholeOf_0 rfl (lv_at hl 0 rfl) ?_
  refine gt_X0_21 hx hb hG hown hK hP 0 rfl rfl dX0_wholeOf_1 ?_
  refine lv_iload_n hx hb dX0_wholeOf_4 rfl (lv_at hl 1 rfl) ?_
  obtain ⟨r5, hc, hF⟩ := bnd1_some hF
  refine kSi (As := [.ref a0_wholes, .int v1]) (rest := []) (ws' := [(a0, .inr (0, [.ref a0_cashiers, .ref a0_tills, .ref a0_acts, .ref a0_wholes, .ref a0_begins, .ref a0_ends, .ref a0_answers, .int a0_n])), (a0_wholes, .inl (cyI, 20, .inl f_a0_wholes))]) ⟨hx, hb, hml, hown, hG⟩ hK hP hD hS hA (c_X0_at l D cyI cyJ cyZ cyO a0_wholes 20 f_a0_wholes v1 H.size _ hc) (cs_X0_62 hG rfl rfl ⟨Nat.le_of_ble_eq_true rfl, Nat.le_of_ble_eq_true rfl⟩) [1] rfl rfl rfl rfl rfl rfl hl.1 rfl (Nat.le_of_ble_eq_true rfl) dX0_wholeOf_5 ⟨Nat.zero_le _, Nat.zero_le _⟩ (fun H locs hP hD hS => ?_)
  exact kRi (τ := Int32) (cv := r5) (fr := fun u => u) (fw := fun u => [(a0, .inr (0, [.ref a0_cashiers, .ref a0_tills, .ref a0_acts, .ref a0_wholes, .ref a0_begins, .ref a0_ends, .ref a0_answers, .int a0_n])), (a0_wholes, .inl (cyI, 20, .inl f_a0_wholes))]) hQ hx hb hr hlocks hK hP hD hS hF rfl dX0_wholeOf_8
set_option maxHeartbeats 4000000 in
set_option maxRecDepth 100000 in
theorem c_X0_beginOf (l : Launch) (D : va_G) (cyI cyJ cyZ cyO : ClassId) (a0 : Nat) (a0_cashiers : Nat) (a0_tills : Nat) (a0_acts : Nat) (a0_wholes : Nat) (a0_begins : Nat) (a0_ends : Nat) (a0_answers : Nat) (a0_n : Int32) (f_a0_begins : Nat → Int32) (v1 : Int32) (sz : Nat) (o : Int32) (hF : F_X0_beginOf f_a0_begins v1 = some o) : mI l yX0_beginOf cX0_beginOf 2 (some .int) ({ frames := 1, cells := 0, slots := 0, locals := 21 } : Room) D (wT cyI cyJ cyZ cyO) [.ref a0, .int v1] sz [(a0, .inr (0, [.ref a0_cashiers, .ref a0_tills, .ref a0_acts, .ref a0_wholes, .ref a0_begins, .ref a0_ends, .ref a0_answers, .int a0_n])), (a0_begins, .inl (cyI, 20, .inl f_a0_begins))] o [(a0, .inr (0, [.ref a0_cashiers, .ref a0_tills, .ref a0_acts, .ref a0_wholes, .ref a0_begins, .ref a0_ends, .ref a0_answers, .int a0_n])), (a0_begins, .inl (cyI, 20, .inl f_a0_begins))] := by
  refine kM_i (by decide +kernel) (Nat.le_of_ble_eq_true rfl) ?_
  intro p e s m args below meth c A ls Q hx hb hr hlocks hml hown hG hK hA hP hD hS hl hQ
  have hown : s.vm.findClass RX0 = some m.cls := hown
  have hl : lv_has ls 2 [(0, .ref a0), (1, .int v1)] := hl
  obtain ⟨H, hH⟩ : ∃ H : Heap, H = s.heap := ⟨_, rfl⟩
  obtain ⟨locs, hlo⟩ : ∃ L : List Loc, L = [] := ⟨_, rfl⟩
  have hP : va_P D vwCl [(a0, .inr (0, [.ref a0_cashiers, .ref a0_tills, .ref a0_acts, .ref a0_wholes, .ref a0_begins, .ref a0_ends, .ref a0_answers, .int a0_n])), (a0_begins, .inl (cyI, 20, .inl f_a0_begins))] H := by rw [hH]; exact hP
  have hS : va_S A s.heap H locs := by rw [hH, hlo]; exact hS
  show W p l e ({ frames := 1, cells := 0, slots := 0, locals := 21 } : Room) s m args below meth c s.heap [] 0 0 Q (F0 m 0 ls [])
  suffices hgo : W p l e ({ frames := 1, cells := 0, slots := 0, locals := 21 } : Room) s m args below meth c H locs 0 0 Q (F0 m 0 ls []) by rw [hH, hlo] at hgo; exact hgo
  refine lv_aload_n hx hb dX0_beginOf_0 rfl (lv_at hl 0 rfl) ?_
  refine gt_X0_24 hx hb hG hown hK hP 0 rfl rfl dX0_beginOf_1 ?_
  refine lv_iload_n hx hb dX0_beginOf_4 rfl (lv_at hl 1 rfl) ?_
  obtain ⟨r5, hc, hF⟩ := bnd1_some hF
  refine kSi (As := [.ref a0_begins, .int v1]) (rest := []) (ws' := [(a0, .inr (0, [.ref a0_cashiers, .ref a0_tills, .ref a0_acts, .ref a0_wholes, .ref a0_begins, .ref a0_ends, .ref a0_answers, .int a0_n])), (a0_begins, .inl (cyI, 20, .inl f_a0_begins))]) ⟨hx, hb, hml, hown, hG⟩ hK hP hD hS hA (c_X0_at l D cyI cyJ cyZ cyO a0_begins 20 f_a0_begins v1 H.size _ hc) (cs_X0_62 hG rfl rfl ⟨Nat.le_of_ble_eq_true rfl, Nat.le_of_ble_eq_true rfl⟩) [1] rfl rfl rfl rfl rfl rfl hl.1 rfl (Nat.le_of_ble_eq_true rfl) dX0_beginOf_5 ⟨Nat.zero_le _, Nat.zero_le _⟩ (fun H locs hP hD hS => ?_)
  exact kRi (τ := Int32) (cv := r5) (fr := fun u => u) (fw := fun u => [(a0, .inr (0, [.ref a0_cashiers, .ref a0_tills, .ref a0_acts, .ref a0_wholes, .ref a0_begins, .ref a0_ends, .ref a0_answers, .int a0_n])), (a0_begins, .inl (cyI, 20, .inl f_a0_begins))]) hQ hx hb hr hlocks hK hP hD hS hF rfl dX0_beginOf_8
set_option maxHeartbeats 4000000 in
set_option maxRecDepth 100000 in
theorem c_X0_isOpen (l : Launch) (D : va_G) (cyI cyJ cyZ cyO : ClassId) (a0 : Nat) (a0_cashiers : Nat) (a0_tills : Nat) (a0_acts : Nat) (a0_wholes : Nat) (a0_begins : Nat) (a0_ends : Nat) (a0_answers : Nat) (a0_n : Int32) (f_a0_ends : Nat → Int32) (v1 : Int32) (sz : Nat) (o : Int32) (hF : F_X0_isOpen f_a0_ends v1 = some o) : mI l yX0_isOpen cX0_isOpen 2 (some .boolean) ({ frames := 2, cells := 0, slots := 0, locals := 42 } : Room) D (wT cyI cyJ cyZ cyO) [.ref a0, .int v1] sz [(a0, .inr (0, [.ref a0_cashiers, .ref a0_tills, .ref a0_acts, .ref a0_wholes, .ref a0_begins, .ref a0_ends, .ref a0_answers, .int a0_n])), (a0_ends, .inl (cyI, 20, .inl f_a0_ends))] o [(a0, .inr (0, [.ref a0_cashiers, .ref a0_tills, .ref a0_acts, .ref a0_wholes, .ref a0_begins, .ref a0_ends, .ref a0_answers, .int a0_n])), (a0_ends, .inl (cyI, 20, .inl f_a0_ends))] := by
  refine kM_i (by decide +kernel) (Nat.le_of_ble_eq_true rfl) ?_
  intro p e s m args below meth c A ls Q hx hb hr hlocks hml hown hG hK hA hP hD hS hl hQ
  have hown : s.vm.findClass RX0 = some m.cls := hown
  have hl : lv_has ls 2 [(0, .ref a0), (1, .int v1)] := hl
  obtain ⟨H, hH⟩ : ∃ H : Heap, H = s.heap := ⟨_, rfl⟩
  obtain ⟨locs, hlo⟩ : ∃ L : List Loc, L = [] := ⟨_, rfl⟩
  have hP : va_P D vwCl [(a0, .inr (0, [.ref a0_cashiers, .ref a0_tills, .ref a0_acts, .ref a0_wholes, .ref a0_begins, .ref a0_ends, .ref a0_answers, .int a0_n])), (a0_ends, .inl (cyI, 20, .inl f_a0_ends))] H := by rw [hH]; exact hP
  have hS : va_S A s.heap H locs := by rw [hH, hlo]; exact hS
  show W p l e ({ frames := 2, cells := 0, slots := 0, locals := 42 } : Room) s m args below meth c s.heap [] 0 0 Q (F0 m 0 ls [])
  suffices hgo : W p l e ({ frames := 2, cells := 0, slots := 0, locals := 42 } : Room) s m args below meth c H locs 0 0 Q (F0 m 0 ls []) by rw [hH, hlo] at hgo; exact hgo
  refine lv_aload_n hx hb dX0_isOpen_0 rfl (lv_at hl 0 rfl) ?_
  refine lv_iload_n hx hb dX0_isOpen_1 rfl (lv_at hl 1 rfl) ?_
  obtain ⟨r2, hc, hF⟩ := bnd1_some hF
  refine kVi (As := [.int v1]) (rest := []) (ws' := [(a0, .inr (0, [.ref a0_cashiers, .ref a0_tills, .ref a0_acts, .ref a0_wholes, .ref a0_begins, .ref a0_ends, .ref a0_answers, .int a0_n])), (a0_ends, .inl (cyI, 20, .inl f_a0_ends))]) ⟨hx, hb, hml, hown, hG⟩ hK hP hD hS hA (c_X0_endOf l D cyI cyJ cyZ cyO a0 a0_cashiers a0_tills a0_acts a0_wholes a0_begins a0_ends a0_answers a0_n f_a0_ends v1 H.size _ hc) (cw_X0_55 hG rfl rfl ⟨Nat.le_of_ble_eq_true rfl, Nat.le_of_ble_eq_true rfl⟩) 0 rfl rfl [0, 1] rfl rfl rfl rfl rfl rfl hl.1 rfl (Nat.le_of_ble_eq_true rfl) dX0_isOpen_2 ⟨Nat.zero_le _, Nat.zero_le _⟩ (fun H locs hP hD hS => ?_)
  refine lv_bipush (v := (-2 : Int32)) hx hb dX0_isOpen_5 (by decide) ?_
  refine lv_icmp_ne (tgt := 14) hx hb dX0_isOpen_7 (by decide) (fun h => ?_) (fun h => ?_)
  · have hF := t_neg h hF
    refine lv_iconst (v := (0 : Int32)) hx hb dX0_isOpen_14 (by decide) ?_
    exact kRz (τ := Int32) (cv := (0 : Int32)) (fr := fun u => u) (fw := fun u => [(a0, .inr (0, [.ref a0_cashiers, .ref a0_tills, .ref a0_acts, .ref a0_wholes, .ref a0_begins, .ref a0_ends, .ref a0_answers, .int a0_n])), (a0_ends, .inl (cyI, 20, .inl f_a0_ends))]) hQ hx hb hr hlocks hK hP hD hS hF rfl rfl dX0_isOpen_15
  · have hF := t_pos h hF
    refine lv_iconst (v := (1 : Int32)) hx hb dX0_isOpen_10 (by decide) ?_
    refine lv_goto (tgt := 15) hx hb dX0_isOpen_11 (by decide) ?_
    exact kRz (τ := Int32) (cv := (1 : Int32)) (fr := fun u => u) (fw := fun u => [(a0, .inr (0, [.ref a0_cashiers, .ref a0_tills, .ref a0_acts, .ref a0_wholes, .ref a0_begins, .ref a0_ends, .ref a0_answers, .int a0_n])), (a0_ends, .inl (cyI, 20, .inl f_a0_ends))]) hQ hx hb hr hlocks hK hP hD hS hF rfl rfl dX0_isOpen_15
set_option maxHeartbeats 4000000 in
set_option maxRecDepth 100000 in
theorem c_X0_seen (l : Launch) (D : va_G) (cyI cyJ cyZ cyO : ClassId) (a0 : Nat) (a0_cashiers : Nat) (a0_tills : Nat) (a0_acts : Nat) (a0_wholes : Nat) (a0_begins : Nat) (a0_ends : Nat) (a0_answers : Nat) (a0_n : Int32) (f_a0_cashiers : Nat → Int32) (f_a0_tills : Nat → Int32) (f_a0_acts : Nat → Int32) (f_a0_wholes : Nat → Int32) (f_a0_begins : Nat → Int32) (f_a0_ends : Nat → Int32) (f_a0_answers : Nat → Int32) (v1 : Int32) (v2 : Int32) (sz : Nat) (o : Int32) (hF : F_X0_seen f_a0_cashiers f_a0_tills f_a0_acts f_a0_wholes f_a0_begins f_a0_ends f_a0_answers v1 v2 = some o) : mI l yX0_seen cX0_seen 3 (some .int) ({ frames := 2, cells := 0, slots := 0, locals := 42 } : Room) D (wT cyI cyJ cyZ cyO) [.ref a0, .int v1, .int v2] sz [(a0, .inr (0, [.ref a0_cashiers, .ref a0_tills, .ref a0_acts, .ref a0_wholes, .ref a0_begins, .ref a0_ends, .ref a0_answers, .int a0_n])), (a0_cashiers, .inl (cyI, 20, .inl f_a0_cashiers)), (a0_tills, .inl (cyI, 20, .inl f_a0_tills)), (a0_acts, .inl (cyI, 20, .inl f_a0_acts)), (a0_wholes, .inl (cyI, 20, .inl f_a0_wholes)), (a0_begins, .inl (cyI, 20, .inl f_a0_begins)), (a0_ends, .inl (cyI, 20, .inl f_a0_ends)), (a0_answers, .inl (cyI, 20, .inl f_a0_answers))] o [(a0, .inr (0, [.ref a0_cashiers, .ref a0_tills, .ref a0_acts, .ref a0_wholes, .ref a0_begins, .ref a0_ends, .ref a0_answers, .int a0_n])), (a0_cashiers, .inl (cyI, 20, .inl f_a0_cashiers)), (a0_tills, .inl (cyI, 20, .inl f_a0_tills)), (a0_acts, .inl (cyI, 20, .inl f_a0_acts)), (a0_wholes, .inl (cyI, 20, .inl f_a0_wholes)), (a0_begins, .inl (cyI, 20, .inl f_a0_begins)), (a0_ends, .inl (cyI, 20, .inl f_a0_ends)), (a0_answers, .inl (cyI, 20, .inl f_a0_answers))] := by
  refine kM_i (by decide +kernel) (Nat.le_of_ble_eq_true rfl) ?_
  intro p e s m args below meth c A ls Q hx hb hr hlocks hml hown hG hK hA hP hD hS hl hQ
  have hown : s.vm.findClass RX0 = some m.cls := hown
  have hl : lv_has ls 3 [(0, .ref a0), (1, .int v1), (2, .int v2)] := hl
  obtain ⟨H, hH⟩ : ∃ H : Heap, H = s.heap := ⟨_, rfl⟩
  obtain ⟨locs, hlo⟩ : ∃ L : List Loc, L = [] := ⟨_, rfl⟩
  have hP : va_P D vwCl [(a0, .inr (0, [.ref a0_cashiers, .ref a0_tills, .ref a0_acts, .ref a0_wholes, .ref a0_begins, .ref a0_ends, .ref a0_answers, .int a0_n])), (a0_cashiers, .inl (cyI, 20, .inl f_a0_cashiers)), (a0_tills, .inl (cyI, 20, .inl f_a0_tills)), (a0_acts, .inl (cyI, 20, .inl f_a0_acts)), (a0_wholes, .inl (cyI, 20, .inl f_a0_wholes)), (a0_begins, .inl (cyI, 20, .inl f_a0_begins)), (a0_ends, .inl (cyI, 20, .inl f_a0_ends)), (a0_answers, .inl (cyI, 20, .inl f_a0_answers))] H := by rw [hH]; exact hP
  have hS : va_S A s.heap H locs := by rw [hH, hlo]; exact hS
  show W p l e ({ frames := 2, cells := 0, slots := 0, locals := 42 } : Room) s m args below meth c s.heap [] 0 0 Q (F0 m 0 ls [])
  suffices hgo : W p l e ({ frames := 2, cells := 0, slots := 0, locals := 42 } : Room) s m args below meth c H locs 0 0 Q (F0 m 0 ls []) by rw [hH, hlo] at hgo; exact hgo
  refine lv_iload_n hx hb dX0_seen_0 rfl (lv_at hl 2 rfl) ?_
  by_cases hs0 : v2 = (0 : Int32)
  · have hF := t_pos hs0 hF
    refine lv_tableIn (tgt := 40) (off := 39) hx hb dX0_seen_1 (by rw [hs0]; decide) (by rw [hs0]; decide) (by rw [hs0]; rfl) (by decide) ?_
    refine lv_aload_n hx hb dX0_seen_40 rfl (lv_at hl 0 rfl) ?_
    refine lv_iload_n hx hb dX0_seen_41 rfl (lv_at hl 1 rfl) ?_
    obtain ⟨r42, hc, hF⟩ := bnd1_some hF
    refine kVi (As := [.int v1]) (rest := []) (ws' := [(a0, .inr (0, [.ref a0_cashiers, .ref a0_tills, .ref a0_acts, .ref a0_wholes, .ref a0_begins, .ref a0_ends, .ref a0_answers, .int a0_n])), (a0_cashiers, .inl (cyI, 20, .inl f_a0_cashiers)), (a0_tills, .inl (cyI, 20, .inl f_a0_tills)), (a0_acts, .inl (cyI, 20, .inl f_a0_acts)), (a0_wholes, .inl (cyI, 20, .inl f_a0_wholes)), (a0_begins, .inl (cyI, 20, .inl f_a0_begins)), (a0_ends, .inl (cyI, 20, .inl f_a0_ends)), (a0_answers, .inl (cyI, 20, .inl f_a0_answers))]) ⟨hx, hb, hml, hown, hG⟩ hK hP hD hS hA (c_X0_cashierOf l D cyI cyJ cyZ cyO a0 a0_cashiers a0_tills a0_acts a0_wholes a0_begins a0_ends a0_answers a0_n f_a0_cashiers v1 H.size _ hc) (cw_X0_66 hG rfl rfl ⟨Nat.le_of_ble_eq_true rfl, Nat.le_of_ble_eq_true rfl⟩) 0 rfl rfl [0, 1] rfl rfl rfl rfl rfl rfl hl.1 rfl (Nat.le_of_ble_eq_true rfl) dX0_seen_42 ⟨Nat.zero_le _, Nat.zero_le _⟩ (fun H locs hP hD hS => ?_)
    exact kRi (τ := Int32) (cv := r42) (fr := fun u => u) (fw := fun u => [(a0, .inr (0, [.ref a0_cashiers, .ref a0_tills, .ref a0_acts, .ref a0_wholes, .ref a0_begins, .ref a0_ends, .ref a0_answers, .int a0_n])), (a0_cashiers, .inl (cyI, 20, .inl f_a0_cashiers)), (a0_tills, .inl (cyI, 20, .inl f_a0_tills)), (a0_acts, .inl (cyI, 20, .inl f_a0_acts)), (a0_wholes, .inl (cyI, 20, .inl f_a0_wholes)), (a0_begins, .inl (cyI, 20, .inl f_a0_begins)), (a0_ends, .inl (cyI, 20, .inl f_a0_ends)), (a0_answers, .inl (cyI, 20, .inl f_a0_answers))]) hQ hx hb hr hlocks hK hP hD hS hF rfl dX0_seen_45
  · have hF := t_neg hs0 hF
    by_cases hs1 : v2 = (1 : Int32)
    · have hF := t_pos hs1 hF
      refine lv_tableIn (tgt := 46) (off := 45) hx hb dX0_seen_1 (by rw [hs1]; decide) (by rw [hs1]; decide) (by rw [hs1]; rfl) (by decide) ?_
      refine lv_aload_n hx hb dX0_seen_46 rfl (lv_at hl 0 rfl) ?_
      refine lv_iload_n hx hb dX0_seen_47 rfl (lv_at hl 1 rfl) ?_
      obtain ⟨r48, hc, hF⟩ := bnd1_some hF
      refine kVi (As := [.int v1]) (rest := []) (ws' := [(a0, .inr (0, [.ref a0_cashiers, .ref a0_tills, .ref a0_acts, .ref a0_wholes, .ref a0_begins, .ref a0_ends, .ref a0_answers, .int a0_n])), (a0_cashiers, .inl (cyI, 20, .inl f_a0_cashiers)), (a0_tills, .inl (cyI, 20, .inl f_a0_tills)), (a0_acts, .inl (cyI, 20, .inl f_a0_acts)), (a0_wholes, .inl (cyI, 20, .inl f_a0_wholes)), (a0_begins, .inl (cyI, 20, .inl f_a0_begins)), (a0_ends, .inl (cyI, 20, .inl f_a0_ends)), (a0_answers, .inl (cyI, 20, .inl f_a0_answers))]) ⟨hx, hb, hml, hown, hG⟩ hK hP hD hS hA (c_X0_tillOf l D cyI cyJ cyZ cyO a0 a0_cashiers a0_tills a0_acts a0_wholes a0_begins a0_ends a0_answers a0_n f_a0_tills v1 H.size _ hc) (cw_X0_69 hG rfl rfl ⟨Nat.le_of_ble_eq_true rfl, Nat.le_of_ble_eq_true rfl⟩) 0 rfl rfl [0, 2] rfl rfl rfl rfl rfl rfl hl.1 rfl (Nat.le_of_ble_eq_true rfl) dX0_seen_48 ⟨Nat.zero_le _, Nat.zero_le _⟩ (fun H locs hP hD hS => ?_)
      exact kRi (τ := Int32) (cv := r48) (fr := fun u => u) (fw := fun u => [(a0, .inr (0, [.ref a0_cashiers, .ref a0_tills, .ref a0_acts, .ref a0_wholes, .ref a0_begins, .ref a0_ends, .ref a0_answers, .int a0_n])), (a0_cashiers, .inl (cyI, 20, .inl f_a0_cashiers)), (a0_tills, .inl (cyI, 20, .inl f_a0_tills)), (a0_acts, .inl (cyI, 20, .inl f_a0_acts)), (a0_wholes, .inl (cyI, 20, .inl f_a0_wholes)), (a0_begins, .inl (cyI, 20, .inl f_a0_begins)), (a0_ends, .inl (cyI, 20, .inl f_a0_ends)), (a0_answers, .inl (cyI, 20, .inl f_a0_answers))]) hQ hx hb hr hlocks hK hP hD hS hF rfl dX0_seen_51
    · have hF := t_neg hs1 hF
      by_cases hs2 : v2 = (2 : Int32)
      · have hF := t_pos hs2 hF
        refine lv_tableIn (tgt := 52) (off := 51) hx hb dX0_seen_1 (by rw [hs2]; decide) (by rw [hs2]; decide) (by rw [hs2]; rfl) (by decide) ?_
        refine lv_aload_n hx hb dX0_seen_52 rfl (lv_at hl 0 rfl) ?_
        refine lv_iload_n hx hb dX0_seen_53 rfl (lv_at hl 1 rfl) ?_
        obtain ⟨r54, hc, hF⟩ := bnd1_some hF
        refine kVi (As := [.int v1]) (rest := []) (ws' := [(a0, .inr (0, [.ref a0_cashiers, .ref a0_tills, .ref a0_acts, .ref a0_wholes, .ref a0_begins, .ref a0_ends, .ref a0_answers, .int a0_n])), (a0_cashiers, .inl (cyI, 20, .inl f_a0_cashiers)), (a0_tills, .inl (cyI, 20, .inl f_a0_tills)), (a0_acts, .inl (cyI, 20, .inl f_a0_acts)), (a0_wholes, .inl (cyI, 20, .inl f_a0_wholes)), (a0_begins, .inl (cyI, 20, .inl f_a0_begins)), (a0_ends, .inl (cyI, 20, .inl f_a0_ends)), (a0_answers, .inl (cyI, 20, .inl f_a0_answers))]) ⟨hx, hb, hml, hown, hG⟩ hK hP hD hS hA (c_X0_actOf l D cyI cyJ cyZ cyO a0 a0_cashiers a0_tills a0_acts a0_wholes a0_begins a0_ends a0_answers a0_n f_a0_acts v1 H.size _ hc) (cw_X0_72 hG rfl rfl ⟨Nat.le_of_ble_eq_true rfl, Nat.le_of_ble_eq_true rfl⟩) 0 rfl rfl [0, 3] rfl rfl rfl rfl rfl rfl hl.1 rfl (Nat.le_of_ble_eq_true rfl) dX0_seen_54 ⟨Nat.zero_le _, Nat.zero_le _⟩ (fun H locs hP hD hS => ?_)
        exact kRi (τ := Int32) (cv := r54) (fr := fun u => u) (fw := fun u => [(a0, .inr (0, [.ref a0_cashiers, .ref a0_tills, .ref a0_acts, .ref a0_wholes, .ref a0_begins, .ref a0_ends, .ref a0_answers, .int a0_n])), (a0_cashiers, .inl (cyI, 20, .inl f_a0_cashiers)), (a0_tills, .inl (cyI, 20, .inl f_a0_tills)), (a0_acts, .inl (cyI, 20, .inl f_a0_acts)), (a0_wholes, .inl (cyI, 20, .inl f_a0_wholes)), (a0_begins, .inl (cyI, 20, .inl f_a0_begins)), (a0_ends, .inl (cyI, 20, .inl f_a0_ends)), (a0_answers, .inl (cyI, 20, .inl f_a0_answers))]) hQ hx hb hr hlocks hK hP hD hS hF rfl dX0_seen_57
      · have hF := t_neg hs2 hF
        by_cases hs3 : v2 = (3 : Int32)
        · have hF := t_pos hs3 hF
          refine lv_tableIn (tgt := 58) (off := 57) hx hb dX0_seen_1 (by rw [hs3]; decide) (by rw [hs3]; decide) (by rw [hs3]; rfl) (by decide) ?_
          refine lv_aload_n hx hb dX0_seen_58 rfl (lv_at hl 0 rfl) ?_
          refine lv_iload_n hx hb dX0_seen_59 rfl (lv_at hl 1 rfl) ?_
          obtain ⟨r60, hc, hF⟩ := bnd1_some hF
          refine kVi (As := [.int v1]) (rest := []) (ws' := [(a0, .inr (0, [.ref a0_cashiers, .ref a0_tills, .ref a0_acts, .ref a0_wholes, .ref a0_begins, .ref a0_ends, .ref a0_answers, .int a0_n])), (a0_cashiers, .inl (cyI, 20, .inl f_a0_cashiers)), (a0_tills, .inl (cyI, 20, .inl f_a0_tills)), (a0_acts, .inl (cyI, 20, .inl f_a0_acts)), (a0_wholes, .inl (cyI, 20, .inl f_a0_wholes)), (a0_begins, .inl (cyI, 20, .inl f_a0_begins)), (a0_ends, .inl (cyI, 20, .inl f_a0_ends)), (a0_answers, .inl (cyI, 20, .inl f_a0_answers))]) ⟨hx, hb, hml, hown, hG⟩ hK hP hD hS hA (c_X0_wholeOf l D cyI cyJ cyZ cyO a0 a0_cashiers a0_tills a0_acts a0_wholes a0_begins a0_ends a0_answers a0_n f_a0_wholes v1 H.size _ hc) (cw_X0_75 hG rfl rfl ⟨Nat.le_of_ble_eq_true rfl, Nat.le_of_ble_eq_true rfl⟩) 0 rfl rfl [0, 4] rfl rfl rfl rfl rfl rfl hl.1 rfl (Nat.le_of_ble_eq_true rfl) dX0_seen_60 ⟨Nat.zero_le _, Nat.zero_le _⟩ (fun H locs hP hD hS => ?_)
          exact kRi (τ := Int32) (cv := r60) (fr := fun u => u) (fw := fun u => [(a0, .inr (0, [.ref a0_cashiers, .ref a0_tills, .ref a0_acts, .ref a0_wholes, .ref a0_begins, .ref a0_ends, .ref a0_answers, .int a0_n])), (a0_cashiers, .inl (cyI, 20, .inl f_a0_cashiers)), (a0_tills, .inl (cyI, 20, .inl f_a0_tills)), (a0_acts, .inl (cyI, 20, .inl f_a0_acts)), (a0_wholes, .inl (cyI, 20, .inl f_a0_wholes)), (a0_begins, .inl (cyI, 20, .inl f_a0_begins)), (a0_ends, .inl (cyI, 20, .inl f_a0_ends)), (a0_answers, .inl (cyI, 20, .inl f_a0_answers))]) hQ hx hb hr hlocks hK hP hD hS hF rfl dX0_seen_63
        · have hF := t_neg hs3 hF
          by_cases hs4 : v2 = (4 : Int32)
          · have hF := t_pos hs4 hF
            refine lv_tableIn (tgt := 64) (off := 63) hx hb dX0_seen_1 (by rw [hs4]; decide) (by rw [hs4]; decide) (by rw [hs4]; rfl) (by decide) ?_
            refine lv_aload_n hx hb dX0_seen_64 rfl (lv_at hl 0 rfl) ?_
            refine lv_iload_n hx hb dX0_seen_65 rfl (lv_at hl 1 rfl) ?_
            obtain ⟨r66, hc, hF⟩ := bnd1_some hF
            refine kVi (As := [.int v1]) (rest := []) (ws' := [(a0, .inr (0, [.ref a0_cashiers, .ref a0_tills, .ref a0_acts, .ref a0_wholes, .ref a0_begins, .ref a0_ends, .ref a0_answers, .int a0_n])), (a0_cashiers, .inl (cyI, 20, .inl f_a0_cashiers)), (a0_tills, .inl (cyI, 20, .inl f_a0_tills)), (a0_acts, .inl (cyI, 20, .inl f_a0_acts)), (a0_wholes, .inl (cyI, 20, .inl f_a0_wholes)), (a0_begins, .inl (cyI, 20, .inl f_a0_begins)), (a0_ends, .inl (cyI, 20, .inl f_a0_ends)), (a0_answers, .inl (cyI, 20, .inl f_a0_answers))]) ⟨hx, hb, hml, hown, hG⟩ hK hP hD hS hA (c_X0_beginOf l D cyI cyJ cyZ cyO a0 a0_cashiers a0_tills a0_acts a0_wholes a0_begins a0_ends a0_answers a0_n f_a0_begins v1 H.size _ hc) (cw_X0_78 hG rfl rfl ⟨Nat.le_of_ble_eq_true rfl, Nat.le_of_ble_eq_true rfl⟩) 0 rfl rfl [0, 5] rfl rfl rfl rfl rfl rfl hl.1 rfl (Nat.le_of_ble_eq_true rfl) dX0_seen_66 ⟨Nat.zero_le _, Nat.zero_le _⟩ (fun H locs hP hD hS => ?_)
            exact kRi (τ := Int32) (cv := r66) (fr := fun u => u) (fw := fun u => [(a0, .inr (0, [.ref a0_cashiers, .ref a0_tills, .ref a0_acts, .ref a0_wholes, .ref a0_begins, .ref a0_ends, .ref a0_answers, .int a0_n])), (a0_cashiers, .inl (cyI, 20, .inl f_a0_cashiers)), (a0_tills, .inl (cyI, 20, .inl f_a0_tills)), (a0_acts, .inl (cyI, 20, .inl f_a0_acts)), (a0_wholes, .inl (cyI, 20, .inl f_a0_wholes)), (a0_begins, .inl (cyI, 20, .inl f_a0_begins)), (a0_ends, .inl (cyI, 20, .inl f_a0_ends)), (a0_answers, .inl (cyI, 20, .inl f_a0_answers))]) hQ hx hb hr hlocks hK hP hD hS hF rfl dX0_seen_69
          · have hF := t_neg hs4 hF
            by_cases hs5 : v2 = (5 : Int32)
            · have hF := t_pos hs5 hF
              refine lv_tableIn (tgt := 70) (off := 69) hx hb dX0_seen_1 (by rw [hs5]; decide) (by rw [hs5]; decide) (by rw [hs5]; rfl) (by decide) ?_
              refine lv_aload_n hx hb dX0_seen_70 rfl (lv_at hl 0 rfl) ?_
              refine lv_iload_n hx hb dX0_seen_71 rfl (lv_at hl 1 rfl) ?_
              obtain ⟨r72, hc, hF⟩ := bnd1_some hF
              refine kVi (As := [.int v1]) (rest := []) (ws' := [(a0, .inr (0, [.ref a0_cashiers, .ref a0_tills, .ref a0_acts, .ref a0_wholes, .ref a0_begins, .ref a0_ends, .ref a0_answers, .int a0_n])), (a0_cashiers, .inl (cyI, 20, .inl f_a0_cashiers)), (a0_tills, .inl (cyI, 20, .inl f_a0_tills)), (a0_acts, .inl (cyI, 20, .inl f_a0_acts)), (a0_wholes, .inl (cyI, 20, .inl f_a0_wholes)), (a0_begins, .inl (cyI, 20, .inl f_a0_begins)), (a0_ends, .inl (cyI, 20, .inl f_a0_ends)), (a0_answers, .inl (cyI, 20, .inl f_a0_answers))]) ⟨hx, hb, hml, hown, hG⟩ hK hP hD hS hA (c_X0_endOf l D cyI cyJ cyZ cyO a0 a0_cashiers a0_tills a0_acts a0_wholes a0_begins a0_ends a0_answers a0_n f_a0_ends v1 H.size _ hc) (cw_X0_55 hG rfl rfl ⟨Nat.le_of_ble_eq_true rfl, Nat.le_of_ble_eq_true rfl⟩) 0 rfl rfl [0, 6] rfl rfl rfl rfl rfl rfl hl.1 rfl (Nat.le_of_ble_eq_true rfl) dX0_seen_72 ⟨Nat.zero_le _, Nat.zero_le _⟩ (fun H locs hP hD hS => ?_)
              exact kRi (τ := Int32) (cv := r72) (fr := fun u => u) (fw := fun u => [(a0, .inr (0, [.ref a0_cashiers, .ref a0_tills, .ref a0_acts, .ref a0_wholes, .ref a0_begins, .ref a0_ends, .ref a0_answers, .int a0_n])), (a0_cashiers, .inl (cyI, 20, .inl f_a0_cashiers)), (a0_tills, .inl (cyI, 20, .inl f_a0_tills)), (a0_acts, .inl (cyI, 20, .inl f_a0_acts)), (a0_wholes, .inl (cyI, 20, .inl f_a0_wholes)), (a0_begins, .inl (cyI, 20, .inl f_a0_begins)), (a0_ends, .inl (cyI, 20, .inl f_a0_ends)), (a0_answers, .inl (cyI, 20, .inl f_a0_answers))]) hQ hx hb hr hlocks hK hP hD hS hF rfl dX0_seen_75
            · have hF := t_neg hs5 hF
              refine lv_tableOut (tgt := 76) hx hb dX0_seen_1 (sw_out (lo := 0) (hi := 5) (by decide) (by decide) (fun k h1 h2 => by rcases (show k = 0 ∨ k = 1 ∨ k = 2 ∨ k = 3 ∨ k = 4 ∨ k = 5 by omega) with rfl | rfl | rfl | rfl | rfl | rfl <;> assumption)) (by decide) ?_
              refine lv_aload_n hx hb dX0_seen_76 rfl (lv_at hl 0 rfl) ?_
              refine lv_iload_n hx hb dX0_seen_77 rfl (lv_at hl 1 rfl) ?_
              obtain ⟨r78, hc, hF⟩ := bnd1_some hF
              refine kVi (As := [.int v1]) (rest := []) (ws' := [(a0, .inr (0, [.ref a0_cashiers, .ref a0_tills, .ref a0_acts, .ref a0_wholes, .ref a0_begins, .ref a0_ends, .ref a0_answers, .int a0_n])), (a0_cashiers, .inl (cyI, 20, .inl f_a0_cashiers)), (a0_tills, .inl (cyI, 20, .inl f_a0_tills)), (a0_acts, .inl (cyI, 20, .inl f_a0_acts)), (a0_wholes, .inl (cyI, 20, .inl f_a0_wholes)), (a0_begins, .inl (cyI, 20, .inl f_a0_begins)), (a0_ends, .inl (cyI, 20, .inl f_a0_ends)), (a0_answers, .inl (cyI, 20, .inl f_a0_answers))]) ⟨hx, hb, hml, hown, hG⟩ hK hP hD hS hA (c_X0_answerOf l D cyI cyJ cyZ cyO a0 a0_cashiers a0_tills a0_acts a0_wholes a0_begins a0_ends a0_answers a0_n f_a0_answers v1 H.size _ hc) (cw_X0_51 hG rfl rfl ⟨Nat.le_of_ble_eq_true rfl, Nat.le_of_ble_eq_true rfl⟩) 0 rfl rfl [0, 7] rfl rfl rfl rfl rfl rfl hl.1 rfl (Nat.le_of_ble_eq_true rfl) dX0_seen_78 ⟨Nat.zero_le _, Nat.zero_le _⟩ (fun H locs hP hD hS => ?_)
              exact kRi (τ := Int32) (cv := r78) (fr := fun u => u) (fw := fun u => [(a0, .inr (0, [.ref a0_cashiers, .ref a0_tills, .ref a0_acts, .ref a0_wholes, .ref a0_begins, .ref a0_ends, .ref a0_answers, .int a0_n])), (a0_cashiers, .inl (cyI, 20, .inl f_a0_cashiers)), (a0_tills, .inl (cyI, 20, .inl f_a0_tills)), (a0_acts, .inl (cyI, 20, .inl f_a0_acts)), (a0_wholes, .inl (cyI, 20, .inl f_a0_wholes)), (a0_begins, .inl (cyI, 20, .inl f_a0_begins)), (a0_ends, .inl (cyI, 20, .inl f_a0_ends)), (a0_answers, .inl (cyI, 20, .inl f_a0_answers))]) hQ hx hb hr hlocks hK hP hD hS hF rfl dX0_seen_81
set_option maxHeartbeats 4000000 in
set_option maxRecDepth 100000 in
theorem c_X0_allOnes (l : Launch) (D : va_G) (cyI cyJ cyZ cyO : ClassId) (a0 : Nat) (a0_cashiers : Nat) (a0_tills : Nat) (a0_acts : Nat) (a0_wholes : Nat) (a0_begins : Nat) (a0_ends : Nat) (a0_answers : Nat) (a0_n : Int32) (sz : Nat) (o : Int32) (hF : F_X0_allOnes a0_n = some o) : mI l yX0_allOnes cX0_allOnes 1 (some .int) ({ frames := 0, cells := 0, slots := 0, locals := 0 } : Room) D (wT cyI cyJ cyZ cyO) [.ref a0] sz [(a0, .inr (0, [.ref a0_cashiers, .ref a0_tills, .ref a0_acts, .ref a0_wholes, .ref a0_begins, .ref a0_ends, .ref a0_answers, .int a0_n]))] o [(a0, .inr (0, [.ref a0_cashiers, .ref a0_tills, .ref a0_acts, .ref a0_wholes, .ref a0_begins, .ref a0_ends, .ref a0_answers, .int a0_n]))] := by
  refine kM_i (by decide +kernel) (Nat.le_of_ble_eq_true rfl) ?_
  intro p e s m args below meth c A ls Q hx hb hr hlocks hml hown hG hK hA hP hD hS hl hQ
  have hown : s.vm.findClass RX0 = some m.cls := hown
  have hl : lv_has ls 1 [(0, .ref a0)] := hl
  obtain ⟨H, hH⟩ : ∃ H : Heap, H = s.heap := ⟨_, rfl⟩
  obtain ⟨locs, hlo⟩ : ∃ L : List Loc, L = [] := ⟨_, rfl⟩
  have hP : va_P D vwCl [(a0, .inr (0, [.ref a0_cashiers, .ref a0_tills, .ref a0_acts, .ref a0_wholes, .ref a0_begins, .ref a0_ends, .ref a0_answers, .int a0_n]))] H := by rw [hH]; exact hP
  have hS : va_S A s.heap H locs := by rw [hH, hlo]; exact hS
  show W p l e ({ frames := 0, cells := 0, slots := 0, locals := 0 } : Room) s m args below meth c s.heap [] 0 0 Q (F0 m 0 ls [])
  suffices hgo : W p l e ({ frames := 0, cells := 0, slots := 0, locals := 0 } : Room) s m args below meth c H locs 0 0 Q (F0 m 0 ls []) by rw [hH, hlo] at hgo; exact hgo
  refine lv_iconst (v := (1 : Int32)) hx hb dX0_allOnes_0 (by decide) ?_
  refine lv_aload_n hx hb dX0_allOnes_1 rfl (lv_at hl 0 rfl) ?_
  refine gt_X0_33 hx hb hG hown hK hP 0 rfl rfl dX0_allOnes_2 ?_
  refine lv_ishl hx hb dX0_allOnes_5 ?_
  refine lv_iconst (v := (1 : Int32)) hx hb dX0_allOnes_6 (by decide) ?_
  refine lv_isub hx hb dX0_allOnes_7 ?_
  exact kRi (τ := Int32) (cv := (((1 : Int32) <<< (a0_n &&& 31)) - (1 : Int32))) (fr := fun u => u) (fw := fun u => [(a0, .inr (0, [.ref a0_cashiers, .ref a0_tills, .ref a0_acts, .ref a0_wholes, .ref a0_begins, .ref a0_ends, .ref a0_answers, .int a0_n]))]) hQ hx hb hr hlocks hK hP hD hS hF rfl dX0_allOnes_8
set_option maxHeartbeats 4000000 in
set_option maxRecDepth 100000 in
theorem c_X0_endedOnes (l : Launch) (D : va_G) (cyI cyJ cyZ cyO : ClassId) (a0 : Nat) (a0_cashiers : Nat) (a0_tills : Nat) (a0_acts : Nat) (a0_wholes : Nat) (a0_begins : Nat) (a0_ends : Nat) (a0_answers : Nat) (a0_n : Int32) (f_a0_ends : Nat → Int32) (fu : Nat) (sz : Nat) (o : Int32) (hF : F_X0_endedOnes fu a0_n f_a0_ends = some o) : mI l yX0_endedOnes cX0_endedOnes 3 (some .int) ({ frames := 3, cells := 0, slots := 0, locals := 63 } : Room) D (wT cyI cyJ cyZ cyO) [.ref a0] sz [(a0, .inr (0, [.ref a0_cashiers, .ref a0_tills, .ref a0_acts, .ref a0_wholes, .ref a0_begins, .ref a0_ends, .ref a0_answers, .int a0_n])), (a0_ends, .inl (cyI, 20, .inl f_a0_ends))] o [(a0, .inr (0, [.ref a0_cashiers, .ref a0_tills, .ref a0_acts, .ref a0_wholes, .ref a0_begins, .ref a0_ends, .ref a0_answers, .int a0_n])), (a0_ends, .inl (cyI, 20, .inl f_a0_ends))] := by
  refine kM_i (by decide +kernel) (Nat.le_of_ble_eq_true rfl) ?_
  intro p e s m args below meth c A ls Q hx hb hr hlocks hml hown hG hK hA hP hD hS hl hQ
  have hown : s.vm.findClass RX0 = some m.cls := hown
  have hl : lv_has ls 3 [(0, .ref a0)] := hl
  have L4 : ∀ (kf4 : Nat), ∀ (v1 : Int32) (v2 : Int32) (H : Heap) (locs : List Loc) (ls : Array Slot), F_X0_endedOnes_b4 a0_n f_a0_ends kf4 v1 v2 = some o → va_P D vwCl [(a0, .inr (0, [.ref a0_cashiers, .ref a0_tills, .ref a0_acts, .ref a0_wholes, .ref a0_begins, .ref a0_ends, .ref a0_answers, .int a0_n])), (a0_ends, .inl (cyI, 20, .inl f_a0_ends))] H → va_D A [(a0, .inr (0, [.ref a0_cashiers, .ref a0_tills, .ref a0_acts, .ref a0_wholes, .ref a0_begins, .ref a0_ends, .ref a0_answers, .int a0_n])), (a0_ends, .inl (cyI, 20, .inl f_a0_ends))] → va_S A s.heap H locs → lv_has ls 3 [(0, .ref a0), (1, .int v1), (2, .int v2)] → W p l e ({ frames := 3, cells := 0, slots := 0, locals := 63 } : Room) s m args below meth c H locs 0 0 Q (F0 m 4 ls []) := by
    intro kf4
    induction kf4 with
    | zero => intro v1 v2 H locs ls hF; rw [F_X0_endedOnes_b4] at hF; cases hF
    | succ kf4 ih4 =>
      have B26 : ∀ (v1 : Int32) (v2 : Int32) (H : Heap) (locs : List Loc) (ls : Array Slot), F_X0_endedOnes_b26 (F_X0_endedOnes_b4 a0_n f_a0_ends kf4) a0_n f_a0_ends v1 v2 = some o → va_P D vwCl [(a0, .inr (0, [.ref a0_cashiers, .ref a0_tills, .ref a0_acts, .ref a0_wholes, .ref a0_begins, .ref a0_ends, .ref a0_answers, .int a0_n])), (a0_ends, .inl (cyI, 20, .inl f_a0_ends))] H → va_D A [(a0, .inr (0, [.ref a0_cashiers, .ref a0_tills, .ref a0_acts, .ref a0_wholes, .ref a0_begins, .ref a0_ends, .ref a0_answers, .int a0_n])), (a0_ends, .inl (cyI, 20, .inl f_a0_ends))] → va_S A s.heap H locs → lv_has ls 3 [(0, .ref a0), (1, .int v1), (2, .int v2)] → W p l e ({ frames := 3, cells := 0, slots := 0, locals := 63 } : Room) s m args below meth c H locs 0 0 Q (F0 m 26 ls []) := by
        intro v1 v2 H locs ls hF hP hD hS hl
        refine lv_iinc (v := (v2 + (1 : Int32))) (lv' := [(2, .int (v2 + (1 : Int32))), (0, .ref a0), (1, .int v1)]) hx hb dX0_endedOnes_26 hl (k := 2) rfl (by rfl) (by decide) rfl (fun ls hl => ?_)
        refine lv_goto (tgt := 4) hx hb dX0_endedOnes_29 (by decide) ?_
        exact ih4 v1 ((v2 + (1 : Int32))) H locs ls hF hP hD hS (lv_sub hl [1, 2, 0] rfl)
      intro v1 v2 H locs ls hF hP hD hS hl
      rw [F_X0_endedOnes_b4] at hF
      refine lv_iload_n hx hb dX0_endedOnes_4 rfl (lv_at hl 2 rfl) ?_
      refine lv_aload_n hx hb dX0_endedOnes_5 rfl (lv_at hl 0 rfl) ?_
      refine gt_X0_33 hx hb hG hown hK hP 0 rfl rfl dX0_endedOnes_6 ?_
      refine lv_icmp_ge (tgt := 32) hx hb dX0_endedOnes_9 (by decide) (fun h => ?_) (fun h => ?_)
      · have hF := t_pos h hF
        refine lv_iload_n hx hb dX0_endedOnes_32 rfl (lv_at hl 1 rfl) ?_
        exact kRi (τ := Int32) (cv := v1) (fr := fun u => u) (fw := fun u => [(a0, .inr (0, [.ref a0_cashiers, .ref a0_tills, .ref a0_acts, .ref a0_wholes, .ref a0_begins, .ref a0_ends, .ref a0_answers, .int a0_n])), (a0_ends, .inl (cyI, 20, .inl f_a0_ends))]) hQ hx hb hr hlocks hK hP hD hS hF rfl dX0_endedOnes_33
      · have hF := t_neg h hF
        refine lv_aload_n hx hb dX0_endedOnes_12 rfl (lv_at hl 0 rfl) ?_
        refine lv_iload_n hx hb dX0_endedOnes_13 rfl (lv_at hl 2 rfl) ?_
        obtain ⟨r14, hc, hF⟩ := bnd1_some hF
        refine kVi (As := [.int v2]) (rest := []) (ws' := [(a0, .inr (0, [.ref a0_cashiers, .ref a0_tills, .ref a0_acts, .ref a0_wholes, .ref a0_begins, .ref a0_ends, .ref a0_answers, .int a0_n])), (a0_ends, .inl (cyI, 20, .inl f_a0_ends))]) ⟨hx, hb, hml, hown, hG⟩ hK hP hD hS hA (c_X0_isOpen l D cyI cyJ cyZ cyO a0 a0_cashiers a0_tills a0_acts a0_wholes a0_begins a0_ends a0_answers a0_n f_a0_ends v2 H.size _ hc) (cw_X0_81 hG rfl rfl ⟨Nat.le_of_ble_eq_true rfl, Nat.le_of_ble_eq_true rfl⟩) 0 rfl rfl [0, 1] rfl rfl rfl rfl rfl rfl hl.1 rfl (Nat.le_of_ble_eq_true rfl) dX0_endedOnes_14 ⟨Nat.zero_le _, Nat.zero_le _⟩ (fun H locs hP hD hS => ?_)
        refine lv_if_ne (tgt := 26) hx hb dX0_endedOnes_17 (by decide) (fun h => ?_) (fun h => ?_)
        · have hF := t_neg h hF
          exact B26 v1 v2 H locs ls hF hP hD hS (lv_sub hl [0, 1, 2] rfl)
        · have hF := t_pos h hF
          refine lv_iload_n hx hb dX0_endedOnes_20 rfl (lv_at hl 1 rfl) ?_
          refine lv_iconst (v := (1 : Int32)) hx hb dX0_endedOnes_21 (by decide) ?_
          refine lv_iload_n hx hb dX0_endedOnes_22 rfl (lv_at hl 2 rfl) ?_
          refine lv_ishl hx hb dX0_endedOnes_23 ?_
          refine lv_ior hx hb dX0_endedOnes_24 ?_
          refine lv_istore_n (lv' := [(1, .int (v1 ||| ((1 : Int32) <<< (v2 &&& 31)))), (0, .ref a0), (2, .int v2)]) hx hb dX0_endedOnes_25 rfl hl (by decide) rfl (fun ls hl => ?_)
          exact B26 ((v1 ||| ((1 : Int32) <<< (v2 &&& 31)))) v2 H locs ls hF hP hD hS (lv_sub hl [1, 0, 2] rfl)
  obtain ⟨H, hH⟩ : ∃ H : Heap, H = s.heap := ⟨_, rfl⟩
  obtain ⟨locs, hlo⟩ : ∃ L : List Loc, L = [] := ⟨_, rfl⟩
  have hP : va_P D vwCl [(a0, .inr (0, [.ref a0_cashiers, .ref a0_tills, .ref a0_acts, .ref a0_wholes, .ref a0_begins, .ref a0_ends, .ref a0_answers, .int a0_n])), (a0_ends, .inl (cyI, 20, .inl f_a0_ends))] H := by rw [hH]; exact hP
  have hS : va_S A s.heap H locs := by rw [hH, hlo]; exact hS
  show W p l e ({ frames := 3, cells := 0, slots := 0, locals := 63 } : Room) s m args below meth c s.heap [] 0 0 Q (F0 m 0 ls [])
  suffices hgo : W p l e ({ frames := 3, cells := 0, slots := 0, locals := 63 } : Room) s m args below meth c H locs 0 0 Q (F0 m 0 ls []) by rw [hH, hlo] at hgo; exact hgo
  refine lv_iconst (v := (0 : Int32)) hx hb dX0_endedOnes_0 (by decide) ?_
  refine lv_istore_n (lv' := [(1, .int (0 : Int32)), (0, .ref a0)]) hx hb dX0_endedOnes_1 rfl hl (by decide) rfl (fun ls hl => ?_)
  refine lv_iconst (v := (0 : Int32)) hx hb dX0_endedOnes_2 (by decide) ?_
  refine lv_istore_n (lv' := [(2, .int (0 : Int32)), (1, .int (0 : Int32)), (0, .ref a0)]) hx hb dX0_endedOnes_3 rfl hl (by decide) rfl (fun ls hl => ?_)
  exact L4 fu (0 : Int32) (0 : Int32) H locs ls hF hP hD hS (lv_sub hl [2, 1, 0] rfl)
set_option maxHeartbeats 4000000 in
set_option maxRecDepth 100000 in
theorem c_X0_onesOfTill (l : Launch) (D : va_G) (cyI cyJ cyZ cyO : ClassId) (a0 : Nat) (a0_cashiers : Nat) (a0_tills : Nat) (a0_acts : Nat) (a0_wholes : Nat) (a0_begins : Nat) (a0_ends : Nat) (a0_answers : Nat) (a0_n : Int32) (f_a0_tills : Nat → Int32) (v1 : Int32) (fu : Nat) (sz : Nat) (o : Int32) (hF : F_X0_onesOfTill fu a0_n f_a0_tills v1 = some o) : mI l yX0_onesOfTill cX0_onesOfTill 4 (some .int) ({ frames := 2, cells := 0, slots := 0, locals := 42 } : Room) D (wT cyI cyJ cyZ cyO) [.ref a0, .int v1] sz [(a0, .inr (0, [.ref a0_cashiers, .ref a0_tills, .ref a0_acts, .ref a0_wholes, .ref a0_begins, .ref a0_ends, .ref a0_answers, .int a0_n])), (a0_tills, .inl (cyI, 20, .inl f_a0_tills))] o [(a0, .inr (0, [.ref a0_cashiers, .ref a0_tills, .ref a0_acts, .ref a0_wholes, .ref a0_begins, .ref a0_ends, .ref a0_answers, .int a0_n])), (a0_tills, .inl (cyI, 20, .inl f_a0_tills))] := by
  refine kM_i (by decide +kernel) (Nat.le_of_ble_eq_true rfl) ?_
  intro p e s m args below meth c A ls Q hx hb hr hlocks hml hown hG hK hA hP hD hS hl hQ
  have hown : s.vm.findClass RX0 = some m.cls := hown
  have hl : lv_has ls 4 [(0, .ref a0), (1, .int v1)] := hl
  have L4 : ∀ (kf4 : Nat), ∀ (v1 : Int32) (v2 : Int32) (v3 : Int32) (H : Heap) (locs : List Loc) (ls : Array Slot), F_X0_onesOfTill_b4 a0_n f_a0_tills v1 kf4 v2 v3 = some o → va_P D vwCl [(a0, .inr (0, [.ref a0_cashiers, .ref a0_tills, .ref a0_acts, .ref a0_wholes, .ref a0_begins, .ref a0_ends, .ref a0_answers, .int a0_n])), (a0_tills, .inl (cyI, 20, .inl f_a0_tills))] H → va_D A [(a0, .inr (0, [.ref a0_cashiers, .ref a0_tills, .ref a0_acts, .ref a0_wholes, .ref a0_begins, .ref a0_ends, .ref a0_answers, .int a0_n])), (a0_tills, .inl (cyI, 20, .inl f_a0_tills))] → va_S A s.heap H locs → lv_has ls 4 [(0, .ref a0), (1, .int v1), (2, .int v2), (3, .int v3)] → W p l e ({ frames := 2, cells := 0, slots := 0, locals := 42 } : Room) s m args below meth c H locs 0 0 Q (F0 m 4 ls []) := by
    intro kf4
    induction kf4 with
    | zero => intro v1 v2 v3 H locs ls hF; rw [F_X0_onesOfTill_b4] at hF; cases hF
    | succ kf4 ih4 =>
      have B27 : ∀ (v1 : Int32) (v2 : Int32) (v3 : Int32) (H : Heap) (locs : List Loc) (ls : Array Slot), F_X0_onesOfTill_b27 (F_X0_onesOfTill_b4 a0_n f_a0_tills v1 kf4) a0_n f_a0_tills v1 v2 v3 = some o → va_P D vwCl [(a0, .inr (0, [.ref a0_cashiers, .ref a0_tills, .ref a0_acts, .ref a0_wholes, .ref a0_begins, .ref a0_ends, .ref a0_answers, .int a0_n])), (a0_tills, .inl (cyI, 20, .inl f_a0_tills))] H → va_D A [(a0, .inr (0, [.ref a0_cashiers, .ref a0_tills, .ref a0_acts, .ref a0_wholes, .ref a0_begins, .ref a0_ends, .ref a0_answers, .int a0_n])), (a0_tills, .inl (cyI, 20, .inl f_a0_tills))] → va_S A s.heap H locs → lv_has ls 4 [(0, .ref a0), (1, .int v1), (2, .int v2), (3, .int v3)] → W p l e ({ frames := 2, cells := 0, slots := 0, locals := 42 } : Room) s m args below meth c H locs 0 0 Q (F0 m 27 ls []) := by
        intro v1 v2 v3 H locs ls hF hP hD hS hl
        refine lv_iinc (v := (v3 + (1 : Int32))) (lv' := [(3, .int (v3 + (1 : Int32))), (0, .ref a0), (1, .int v1), (2, .int v2)]) hx hb dX0_onesOfTill_27 hl (k := 3) rfl (by rfl) (by decide) rfl (fun ls hl => ?_)
        refine lv_goto (tgt := 4) hx hb dX0_onesOfTill_30 (by decide) ?_
        exact ih4 v1 v2 ((v3 + (1 : Int32))) H locs ls hF hP hD hS (lv_sub hl [1, 2, 3, 0] rfl)
      intro v1 v2 v3 H locs ls hF hP hD hS hl
      rw [F_X0_onesOfTill_b4] at hF
      refine lv_iload_n hx hb dX0_onesOfTill_4 rfl (lv_at hl 3 rfl) ?_
      refine lv_aload_n hx hb dX0_onesOfTill_5 rfl (lv_at hl 0 rfl) ?_
      refine gt_X0_33 hx hb hG hown hK hP 0 rfl rfl dX0_onesOfTill_6 ?_
      refine lv_icmp_ge (tgt := 33) hx hb dX0_onesOfTill_9 (by decide) (fun h => ?_) (fun h => ?_)
      · have hF := t_pos h hF
        refine lv_iload_n hx hb dX0_onesOfTill_33 rfl (lv_at hl 2 rfl) ?_
        exact kRi (τ := Int32) (cv := v2) (fr := fun u => u) (fw := fun u => [(a0, .inr (0, [.ref a0_cashiers, .ref a0_tills, .ref a0_acts, .ref a0_wholes, .ref a0_begins, .ref a0_ends, .ref a0_answers, .int a0_n])), (a0_tills, .inl (cyI, 20, .inl f_a0_tills))]) hQ hx hb hr hlocks hK hP hD hS hF rfl dX0_onesOfTill_34
      · have hF := t_neg h hF
        refine lv_aload_n hx hb dX0_onesOfTill_12 rfl (lv_at hl 0 rfl) ?_
        refine lv_iload_n hx hb dX0_onesOfTill_13 rfl (lv_at hl 3 rfl) ?_
        obtain ⟨r14, hc, hF⟩ := bnd1_some hF
        refine kVi (As := [.int v3]) (rest := []) (ws' := [(a0, .inr (0, [.ref a0_cashiers, .ref a0_tills, .ref a0_acts, .ref a0_wholes, .ref a0_begins, .ref a0_ends, .ref a0_answers, .int a0_n])), (a0_tills, .inl (cyI, 20, .inl f_a0_tills))]) ⟨hx, hb, hml, hown, hG⟩ hK hP hD hS hA (c_X0_tillOf l D cyI cyJ cyZ cyO a0 a0_cashiers a0_tills a0_acts a0_wholes a0_begins a0_ends a0_answers a0_n f_a0_tills v3 H.size _ hc) (cw_X0_69 hG rfl rfl ⟨Nat.le_of_ble_eq_true rfl, Nat.le_of_ble_eq_true rfl⟩) 0 rfl rfl [0, 1] rfl rfl rfl rfl rfl rfl hl.1 rfl (Nat.le_of_ble_eq_true rfl) dX0_onesOfTill_14 ⟨Nat.zero_le _, Nat.zero_le _⟩ (fun H locs hP hD hS => ?_)
        refine lv_iload_n hx hb dX0_onesOfTill_17 rfl (lv_at hl 1 rfl) ?_
        refine lv_icmp_ne (tgt := 27) hx hb dX0_onesOfTill_18 (by decide) (fun h => ?_) (fun h => ?_)
        · have hF := t_neg h hF
          exact B27 v1 v2 v3 H locs ls hF hP hD hS (lv_sub hl [0, 1, 2, 3] rfl)
        · have hF := t_pos h hF
          refine lv_iload_n hx hb dX0_onesOfTill_21 rfl (lv_at hl 2 rfl) ?_
          refine lv_iconst (v := (1 : Int32)) hx hb dX0_onesOfTill_22 (by decide) ?_
          refine lv_iload_n hx hb dX0_onesOfTill_23 rfl (lv_at hl 3 rfl) ?_
          refine lv_ishl hx hb dX0_onesOfTill_24 ?_
          refine lv_ior hx hb dX0_onesOfTill_25 ?_
          refine lv_istore_n (lv' := [(2, .int (v2 ||| ((1 : Int32) <<< (v3 &&& 31)))), (0, .ref a0), (1, .int v1), (3, .int v3)]) hx hb dX0_onesOfTill_26 rfl hl (by decide) rfl (fun ls hl => ?_)
          exact B27 v1 ((v2 ||| ((1 : Int32) <<< (v3 &&& 31)))) v3 H locs ls hF hP hD hS (lv_sub hl [1, 2, 0, 3] rfl)
  obtain ⟨H, hH⟩ : ∃ H : Heap, H = s.heap := ⟨_, rfl⟩
  obtain ⟨locs, hlo⟩ : ∃ L : List Loc, L = [] := ⟨_, rfl⟩
  have hP : va_P D vwCl [(a0, .inr (0, [.ref a0_cashiers, .ref a0_tills, .ref a0_acts, .ref a0_wholes, .ref a0_begins, .ref a0_ends, .ref a0_answers, .int a0_n])), (a0_tills, .inl (cyI, 20, .inl f_a0_tills))] H := by rw [hH]; exact hP
  have hS : va_S A s.heap H locs := by rw [hH, hlo]; exact hS
  show W p l e ({ frames := 2, cells := 0, slots := 0, locals := 42 } : Room) s m args below meth c s.heap [] 0 0 Q (F0 m 0 ls [])
  suffices hgo : W p l e ({ frames := 2, cells := 0, slots := 0, locals := 42 } : Room) s m args below meth c H locs 0 0 Q (F0 m 0 ls []) by rw [hH, hlo] at hgo; exact hgo
  refine lv_iconst (v := (0 : Int32)) hx hb dX0_onesOfTill_0 (by decide) ?_
  refine lv_istore_n (lv' := [(2, .int (0 : Int32)), (0, .ref a0), (1, .int v1)]) hx hb dX0_onesOfTill_1 rfl hl (by decide) rfl (fun ls hl => ?_)
  refine lv_iconst (v := (0 : Int32)) hx hb dX0_onesOfTill_2 (by decide) ?_
  refine lv_istore_n (lv' := [(3, .int (0 : Int32)), (2, .int (0 : Int32)), (0, .ref a0), (1, .int v1)]) hx hb dX0_onesOfTill_3 rfl hl (by decide) rfl (fun ls hl => ?_)
  exact L4 fu v1 (0 : Int32) (0 : Int32) H locs ls hF hP hD hS (lv_sub hl [2, 3, 1, 0] rfl)
set_option maxHeartbeats 4000000 in
set_option maxRecDepth 100000 in
theorem c_X0_onesBegunBy (l : Launch) (D : va_G) (cyI cyJ cyZ cyO : ClassId) (a0 : Nat) (a0_cashiers : Nat) (a0_tills : Nat) (a0_acts : Nat) (a0_wholes : Nat) (a0_begins : Nat) (a0_ends : Nat) (a0_answers : Nat) (a0_n : Int32) (f_a0_begins : Nat → Int32) (v1 : Int32) (fu : Nat) (sz : Nat) (o : Int32) (hF : F_X0_onesBegunBy fu a0_n f_a0_begins v1 = some o) : mI l yX0_onesBegunBy cX0_onesBegunBy 4 (some .int) ({ frames := 2, cells := 0, slots := 0, locals := 42 } : Room) D (wT cyI cyJ cyZ cyO) [.ref a0, .int v1] sz [(a0, .inr (0, [.ref a0_cashiers, .ref a0_tills, .ref a0_acts, .ref a0_wholes, .ref a0_begins, .ref a0_ends, .ref a0_answers, .int a0_n])), (a0_begins, .inl (cyI, 20, .inl f_a0_begins))] o [(a0, .inr (0, [.ref a0_cashiers, .ref a0_tills, .ref a0_acts, .ref a0_wholes, .ref a0_begins, .ref a0_ends, .ref a0_answers, .int a0_n])), (a0_begins, .inl (cyI, 20, .inl f_a0_begins))] := by
  refine kM_i (by decide +kernel) (Nat.le_of_ble_eq_true rfl) ?_
  intro p e s m args below meth c A ls Q hx hb hr hlocks hml hown hG hK hA hP hD hS hl hQ
  have hown : s.vm.findClass RX0 = some m.cls := hown
  have hl : lv_has ls 4 [(0, .ref a0), (1, .int v1)] := hl
  have L4 : ∀ (kf4 : Nat), ∀ (v1 : Int32) (v2 : Int32) (v3 : Int32) (H : Heap) (locs : List Loc) (ls : Array Slot), F_X0_onesBegunBy_b4 a0_n f_a0_begins v1 kf4 v2 v3 = some o → va_P D vwCl [(a0, .inr (0, [.ref a0_cashiers, .ref a0_tills, .ref a0_acts, .ref a0_wholes, .ref a0_begins, .ref a0_ends, .ref a0_answers, .int a0_n])), (a0_begins, .inl (cyI, 20, .inl f_a0_begins))] H → va_D A [(a0, .inr (0, [.ref a0_cashiers, .ref a0_tills, .ref a0_acts, .ref a0_wholes, .ref a0_begins, .ref a0_ends, .ref a0_answers, .int a0_n])), (a0_begins, .inl (cyI, 20, .inl f_a0_begins))] → va_S A s.heap H locs → lv_has ls 4 [(0, .ref a0), (1, .int v1), (2, .int v2), (3, .int v3)] → W p l e ({ frames := 2, cells := 0, slots := 0, locals := 42 } : Room) s m args below meth c H locs 0 0 Q (F0 m 4 ls []) := by
    intro kf4
    induction kf4 with
    | zero => intro v1 v2 v3 H locs ls hF; rw [F_X0_onesBegunBy_b4] at hF; cases hF
    | succ kf4 ih4 =>
      have B27 : ∀ (v1 : Int32) (v2 : Int32) (v3 : Int32) (H : Heap) (locs : List Loc) (ls : Array Slot), F_X0_onesBegunBy_b27 (F_X0_onesBegunBy_b4 a0_n f_a0_begins v1 kf4) a0_n f_a0_begins v1 v2 v3 = some o → va_P D vwCl [(a0, .inr (0, [.ref a0_cashiers, .ref a0_tills, .ref a0_acts, .ref a0_wholes, .ref a0_begins, .ref a0_ends, .ref a0_answers, .int a0_n])), (a0_begins, .inl (cyI, 20, .inl f_a0_begins))] H → va_D A [(a0, .inr (0, [.ref a0_cashiers, .ref a0_tills, .ref a0_acts, .ref a0_wholes, .ref a0_begins, .ref a0_ends, .ref a0_answers, .int a0_n])), (a0_begins, .inl (cyI, 20, .inl f_a0_begins))] → va_S A s.heap H locs → lv_has ls 4 [(0, .ref a0), (1, .int v1), (2, .int v2), (3, .int v3)] → W p l e ({ frames := 2, cells := 0, slots := 0, locals := 42 } : Room) s m args below meth c H locs 0 0 Q (F0 m 27 ls []) := by
        intro v1 v2 v3 H locs ls hF hP hD hS hl
        refine lv_iinc (v := (v3 + (1 : Int32))) (lv' := [(3, .int (v3 + (1 : Int32))), (0, .ref a0), (1, .int v1), (2, .int v2)]) hx hb dX0_onesBegunBy_27 hl (k := 3) rfl (by rfl) (by decide) rfl (fun ls hl => ?_)
        refine lv_goto (tgt := 4) hx hb dX0_onesBegunBy_30 (by decide) ?_
        exact ih4 v1 v2 ((v3 + (1 : Int32))) H locs ls hF hP hD hS (lv_sub hl [1, 2, 3, 0] rfl)
      intro v1 v2 v3 H locs ls hF hP hD hS hl
      rw [F_X0_onesBegunBy_b4] at hF
      refine lv_iload_n hx hb dX0_onesBegunBy_4 rfl (lv_at hl 3 rfl) ?_
      refine lv_aload_n hx hb dX0_onesBegunBy_5 rfl (lv_at hl 0 rfl) ?_
      refine gt_X0_33 hx hb hG hown hK hP 0 rfl rfl dX0_onesBegunBy_6 ?_
      refine lv_icmp_ge (tgt := 33) hx hb dX0_onesBegunBy_9 (by decide) (fun h => ?_) (fun h => ?_)
      · have hF := t_pos h hF
        refine lv_iload_n hx hb dX0_onesBegunBy_33 rfl (lv_at hl 2 rfl) ?_
        exact kRi (τ := Int32) (cv := v2) (fr := fun u => u) (fw := fun u => [(a0, .inr (0, [.ref a0_cashiers, .ref a0_tills, .ref a0_acts, .ref a0_wholes, .ref a0_begins, .ref a0_ends, .ref a0_answers, .int a0_n])), (a0_begins, .inl (cyI, 20, .inl f_a0_begins))]) hQ hx hb hr hlocks hK hP hD hS hF rfl dX0_onesBegunBy_34
      · have hF := t_neg h hF
        refine lv_aload_n hx hb dX0_onesBegunBy_12 rfl (lv_at hl 0 rfl) ?_
        refine lv_iload_n hx hb dX0_onesBegunBy_13 rfl (lv_at hl 3 rfl) ?_
        obtain ⟨r14, hc, hF⟩ := bnd1_some hF
        refine kVi (As := [.int v3]) (rest := []) (ws' := [(a0, .inr (0, [.ref a0_cashiers, .ref a0_tills, .ref a0_acts, .ref a0_wholes, .ref a0_begins, .ref a0_ends, .ref a0_answers, .int a0_n])), (a0_begins, .inl (cyI, 20, .inl f_a0_begins))]) ⟨hx, hb, hml, hown, hG⟩ hK hP hD hS hA (c_X0_beginOf l D cyI cyJ cyZ cyO a0 a0_cashiers a0_tills a0_acts a0_wholes a0_begins a0_ends a0_answers a0_n f_a0_begins v3 H.size _ hc) (cw_X0_78 hG rfl rfl ⟨Nat.le_of_ble_eq_true rfl, Nat.le_of_ble_eq_true rfl⟩) 0 rfl rfl [0, 1] rfl rfl rfl rfl rfl rfl hl.1 rfl (Nat.le_of_ble_eq_true rfl) dX0_onesBegunBy_14 ⟨Nat.zero_le _, Nat.zero_le _⟩ (fun H locs hP hD hS => ?_)
        refine lv_iload_n hx hb dX0_onesBegunBy_17 rfl (lv_at hl 1 rfl) ?_
        refine lv_icmp_gt (tgt := 27) hx hb dX0_onesBegunBy_18 (by decide) (fun h => ?_) (fun h => ?_)
        · have hF := t_pos h hF
          exact B27 v1 v2 v3 H locs ls hF hP hD hS (lv_sub hl [0, 1, 2, 3] rfl)
        · have hF := t_neg h hF
          refine lv_iload_n hx hb dX0_onesBegunBy_21 rfl (lv_at hl 2 rfl) ?_
          refine lv_iconst (v := (1 : Int32)) hx hb dX0_onesBegunBy_22 (by decide) ?_
          refine lv_iload_n hx hb dX0_onesBegunBy_23 rfl (lv_at hl 3 rfl) ?_
          refine lv_ishl hx hb dX0_onesBegunBy_24 ?_
          refine lv_ior hx hb dX0_onesBegunBy_25 ?_
          refine lv_istore_n (lv' := [(2, .int (v2 ||| ((1 : Int32) <<< (v3 &&& 31)))), (0, .ref a0), (1, .int v1), (3, .int v3)]) hx hb dX0_onesBegunBy_26 rfl hl (by decide) rfl (fun ls hl => ?_)
          exact B27 v1 ((v2 ||| ((1 : Int32) <<< (v3 &&& 31)))) v3 H locs ls hF hP hD hS (lv_sub hl [1, 2, 0, 3] rfl)
  obtain ⟨H, hH⟩ : ∃ H : Heap, H = s.heap := ⟨_, rfl⟩
  obtain ⟨locs, hlo⟩ : ∃ L : List Loc, L = [] := ⟨_, rfl⟩
  have hP : va_P D vwCl [(a0, .inr (0, [.ref a0_cashiers, .ref a0_tills, .ref a0_acts, .ref a0_wholes, .ref a0_begins, .ref a0_ends, .ref a0_answers, .int a0_n])), (a0_begins, .inl (cyI, 20, .inl f_a0_begins))] H := by rw [hH]; exact hP
  have hS : va_S A s.heap H locs := by rw [hH, hlo]; exact hS
  show W p l e ({ frames := 2, cells := 0, slots := 0, locals := 42 } : Room) s m args below meth c s.heap [] 0 0 Q (F0 m 0 ls [])
  suffices hgo : W p l e ({ frames := 2, cells := 0, slots := 0, locals := 42 } : Room) s m args below meth c H locs 0 0 Q (F0 m 0 ls []) by rw [hH, hlo] at hgo; exact hgo
  refine lv_iconst (v := (0 : Int32)) hx hb dX0_onesBegunBy_0 (by decide) ?_
  refine lv_istore_n (lv' := [(2, .int (0 : Int32)), (0, .ref a0), (1, .int v1)]) hx hb dX0_onesBegunBy_1 rfl hl (by decide) rfl (fun ls hl => ?_)
  refine lv_iconst (v := (0 : Int32)) hx hb dX0_onesBegunBy_2 (by decide) ?_
  refine lv_istore_n (lv' := [(3, .int (0 : Int32)), (2, .int (0 : Int32)), (0, .ref a0), (1, .int v1)]) hx hb dX0_onesBegunBy_3 rfl hl (by decide) rfl (fun ls hl => ?_)
  exact L4 fu v1 (0 : Int32) (0 : Int32) H locs ls hF hP hD hS (lv_sub hl [2, 3, 1, 0] rfl)
set_option maxHeartbeats 4000000 in
set_option maxRecDepth 100000 in
theorem c_X0_firstEndedBut (l : Launch) (D : va_G) (cyI cyJ cyZ cyO : ClassId) (a0 : Nat) (a0_cashiers : Nat) (a0_tills : Nat) (a0_acts : Nat) (a0_wholes : Nat) (a0_begins : Nat) (a0_ends : Nat) (a0_answers : Nat) (a0_n : Int32) (f_a0_ends : Nat → Int32) (v1 : Int32) (fu : Nat) (sz : Nat) (o : Int32) (hF : F_X0_firstEndedBut fu a0_n f_a0_ends v1 = some o) : mI l yX0_firstEndedBut cX0_firstEndedBut 4 (some .int) ({ frames := 3, cells := 0, slots := 0, locals := 63 } : Room) D (wT cyI cyJ cyZ cyO) [.ref a0, .int v1] sz [(a0, .inr (0, [.ref a0_cashiers, .ref a0_tills, .ref a0_acts, .ref a0_wholes, .ref a0_begins, .ref a0_ends, .ref a0_answers, .int a0_n])), (a0_ends, .inl (cyI, 20, .inl f_a0_ends))] o [(a0, .inr (0, [.ref a0_cashiers, .ref a0_tills, .ref a0_acts, .ref a0_wholes, .ref a0_begins, .ref a0_ends, .ref a0_answers, .int a0_n])), (a0_ends, .inl (cyI, 20, .inl f_a0_ends))] := by
  refine kM_i (by decide +kernel) (Nat.le_of_ble_eq_true rfl) ?_
  intro p e s m args below meth c A ls Q hx hb hr hlocks hml hown hG hK hA hP hD hS hl hQ
  have hown : s.vm.findClass RX0 = some m.cls := hown
  have hl : lv_has ls 4 [(0, .ref a0), (1, .int v1)] := hl
  have L4 : ∀ (kf4 : Nat), ∀ (v1 : Int32) (v2 : Int32) (v3 : Int32) (H : Heap) (locs : List Loc) (ls : Array Slot), F_X0_firstEndedBut_b4 a0_n f_a0_ends v1 kf4 v2 v3 = some o → va_P D vwCl [(a0, .inr (0, [.ref a0_cashiers, .ref a0_tills, .ref a0_acts, .ref a0_wholes, .ref a0_begins, .ref a0_ends, .ref a0_answers, .int a0_n])), (a0_ends, .inl (cyI, 20, .inl f_a0_ends))] H → va_D A [(a0, .inr (0, [.ref a0_cashiers, .ref a0_tills, .ref a0_acts, .ref a0_wholes, .ref a0_begins, .ref a0_ends, .ref a0_answers, .int a0_n])), (a0_ends, .inl (cyI, 20, .inl f_a0_ends))] → va_S A s.heap H locs → lv_has ls 4 [(0, .ref a0), (1, .int v1), (2, .int v2), (3, .int v3)] → W p l e ({ frames := 3, cells := 0, slots := 0, locals := 63 } : Room) s m args below meth c H locs 0 0 Q (F0 m 4 ls []) := by
    intro kf4
    induction kf4 with
    | zero => intro v1 v2 v3 H locs ls hF; rw [F_X0_firstEndedBut_b4] at hF; cases hF
    | succ kf4 ih4 =>
      have B47 : ∀ (v1 : Int32) (v2 : Int32) (v3 : Int32) (H : Heap) (locs : List Loc) (ls : Array Slot), F_X0_firstEndedBut_b47 (F_X0_firstEndedBut_b4 a0_n f_a0_ends v1 kf4) a0_n f_a0_ends v1 v2 v3 = some o → va_P D vwCl [(a0, .inr (0, [.ref a0_cashiers, .ref a0_tills, .ref a0_acts, .ref a0_wholes, .ref a0_begins, .ref a0_ends, .ref a0_answers, .int a0_n])), (a0_ends, .inl (cyI, 20, .inl f_a0_ends))] H → va_D A [(a0, .inr (0, [.ref a0_cashiers, .ref a0_tills, .ref a0_acts, .ref a0_wholes, .ref a0_begins, .ref a0_ends, .ref a0_answers, .int a0_n])), (a0_ends, .inl (cyI, 20, .inl f_a0_ends))] → va_S A s.heap H locs → lv_has ls 4 [(0, .ref a0), (1, .int v1), (2, .int v2), (3, .int v3)] → W p l e ({ frames := 3, cells := 0, slots := 0, locals := 63 } : Room) s m args below meth c H locs 0 0 Q (F0 m 47 ls []) := by
        intro v1 v2 v3 H locs ls hF hP hD hS hl
        refine lv_iinc (v := (v3 + (1 : Int32))) (lv' := [(3, .int (v3 + (1 : Int32))), (0, .ref a0), (1, .int v1), (2, .int v2)]) hx hb dX0_firstEndedBut_47 hl (k := 3) rfl (by rfl) (by decide) rfl (fun ls hl => ?_)
        refine lv_goto (tgt := 4) hx hb dX0_firstEndedBut_50 (by decide) ?_
        exact ih4 v1 v2 ((v3 + (1 : Int32))) H locs ls hF hP hD hS (lv_sub hl [1, 2, 3, 0] rfl)
      have B45 : ∀ (v1 : Int32) (v3 : Int32) (H : Heap) (locs : List Loc) (ls : Array Slot), F_X0_firstEndedBut_b45 (F_X0_firstEndedBut_b4 a0_n f_a0_ends v1 kf4) a0_n f_a0_ends v1 v3 = some o → va_P D vwCl [(a0, .inr (0, [.ref a0_cashiers, .ref a0_tills, .ref a0_acts, .ref a0_wholes, .ref a0_begins, .ref a0_ends, .ref a0_answers, .int a0_n])), (a0_ends, .inl (cyI, 20, .inl f_a0_ends))] H → va_D A [(a0, .inr (0, [.ref a0_cashiers, .ref a0_tills, .ref a0_acts, .ref a0_wholes, .ref a0_begins, .ref a0_ends, .ref a0_answers, .int a0_n])), (a0_ends, .inl (cyI, 20, .inl f_a0_ends))] → va_S A s.heap H locs → lv_has ls 4 [(0, .ref a0), (1, .int v1), (3, .int v3)] → W p l e ({ frames := 3, cells := 0, slots := 0, locals := 63 } : Room) s m args below meth c H locs 0 0 Q (F0 m 45 ls []) := by
        intro v1 v3 H locs ls hF hP hD hS hl
        refine lv_iload_n hx hb dX0_firstEndedBut_45 rfl (lv_at hl 2 rfl) ?_
        refine lv_istore_n (lv' := [(2, .int v3), (0, .ref a0), (1, .int v1), (3, .int v3)]) hx hb dX0_firstEndedBut_46 rfl hl (by decide) rfl (fun ls hl => ?_)
        exact B47 v1 v3 v3 H locs ls hF hP hD hS (lv_sub hl [1, 2, 0, 3] rfl)
      intro v1 v2 v3 H locs ls hF hP hD hS hl
      rw [F_X0_firstEndedBut_b4] at hF
      refine lv_iload_n hx hb dX0_firstEndedBut_4 rfl (lv_at hl 3 rfl) ?_
      refine lv_aload_n hx hb dX0_firstEndedBut_5 rfl (lv_at hl 0 rfl) ?_
      refine gt_X0_33 hx hb hG hown hK hP 0 rfl rfl dX0_firstEndedBut_6 ?_
      refine lv_icmp_ge (tgt := 53) hx hb dX0_firstEndedBut_9 (by decide) (fun h => ?_) (fun h => ?_)
      · have hF := t_pos h hF
        refine lv_iload_n hx hb dX0_firstEndedBut_53 rfl (lv_at hl 2 rfl) ?_
        exact kRi (τ := Int32) (cv := v2) (fr := fun u => u) (fw := fun u => [(a0, .inr (0, [.ref a0_cashiers, .ref a0_tills, .ref a0_acts, .ref a0_wholes, .ref a0_begins, .ref a0_ends, .ref a0_answers, .int a0_n])), (a0_ends, .inl (cyI, 20, .inl f_a0_ends))]) hQ hx hb hr hlocks hK hP hD hS hF rfl dX0_firstEndedBut_54
      · have hF := t_neg h hF
        refine lv_aload_n hx hb dX0_firstEndedBut_12 rfl (lv_at hl 0 rfl) ?_
        refine lv_iload_n hx hb dX0_firstEndedBut_13 rfl (lv_at hl 3 rfl) ?_
        obtain ⟨r14, hc, hF⟩ := bnd1_some hF
        refine kVi (As := [.int v3]) (rest := []) (ws' := [(a0, .inr (0, [.ref a0_cashiers, .ref a0_tills, .ref a0_acts, .ref a0_wholes, .ref a0_begins, .ref a0_ends, .ref a0_answers, .int a0_n])), (a0_ends, .inl (cyI, 20, .inl f_a0_ends))]) ⟨hx, hb, hml, hown, hG⟩ hK hP hD hS hA (c_X0_isOpen l D cyI cyJ cyZ cyO a0 a0_cashiers a0_tills a0_acts a0_wholes a0_begins a0_ends a0_answers a0_n f_a0_ends v3 H.size _ hc) (cw_X0_81 hG rfl rfl ⟨Nat.le_of_ble_eq_true rfl, Nat.le_of_ble_eq_true rfl⟩) 0 rfl rfl [0, 1] rfl rfl rfl rfl rfl rfl hl.1 rfl (Nat.le_of_ble_eq_true rfl) dX0_firstEndedBut_14 ⟨Nat.zero_le _, Nat.zero_le _⟩ (fun H locs hP hD hS => ?_)
        refine lv_if_ne (tgt := 47) hx hb dX0_firstEndedBut_17 (by decide) (fun h => ?_) (fun h => ?_)
        · have hF := t_neg h hF
          exact B47 v1 v2 v3 H locs ls hF hP hD hS (lv_sub hl [0, 1, 2, 3] rfl)
        · have hF := t_pos h hF
          refine lv_iload_n hx hb dX0_firstEndedBut_20 rfl (lv_at hl 1 rfl) ?_
          refine lv_iload_n hx hb dX0_firstEndedBut_21 rfl (lv_at hl 3 rfl) ?_
          refine lv_ishr hx hb dX0_firstEndedBut_22 ?_
          refine lv_iconst (v := (1 : Int32)) hx hb dX0_firstEndedBut_23 (by decide) ?_
          refine lv_iand hx hb dX0_firstEndedBut_24 ?_
          refine lv_if_ne (tgt := 47) hx hb dX0_firstEndedBut_25 (by decide) (fun h => ?_) (fun h => ?_)
          · have hF := t_neg h hF
            exact B47 v1 v2 v3 H locs ls hF hP hD hS (lv_sub hl [0, 1, 2, 3] rfl)
          · have hF := t_pos h hF
            refine lv_iload_n hx hb dX0_firstEndedBut_28 rfl (lv_at hl 2 rfl) ?_
            refine lv_if_lt (tgt := 45) hx hb dX0_firstEndedBut_29 (by decide) (fun h => ?_) (fun h => ?_)
            · have hF := t_pos h hF
              exact B45 v1 v3 H locs ls hF hP hD hS (lv_sub hl [0, 1, 3] rfl)
            · have hF := t_neg h hF
              refine lv_aload_n hx hb dX0_firstEndedBut_32 rfl (lv_at hl 0 rfl) ?_
              refine lv_iload_n hx hb dX0_firstEndedBut_33 rfl (lv_at hl 3 rfl) ?_
              obtain ⟨r34, hc, hF⟩ := bnd1_some hF
              refine kVi (As := [.int v3]) (rest := []) (ws' := [(a0, .inr (0, [.ref a0_cashiers, .ref a0_tills, .ref a0_acts, .ref a0_wholes, .ref a0_begins, .ref a0_ends, .ref a0_answers, .int a0_n])), (a0_ends, .inl (cyI, 20, .inl f_a0_ends))]) ⟨hx, hb, hml, hown, hG⟩ hK hP hD hS hA (c_X0_endOf l D cyI cyJ cyZ cyO a0 a0_cashiers a0_tills a0_acts a0_wholes a0_begins a0_ends a0_answers a0_n f_a0_ends v3 H.size _ hc) (cw_X0_55 hG rfl rfl ⟨Nat.le_of_ble_eq_true rfl, Nat.le_of_ble_eq_true rfl⟩) 0 rfl rfl [0, 1] rfl rfl rfl rfl rfl rfl hl.1 rfl (Nat.le_of_ble_eq_true rfl) dX0_firstEndedBut_34 ⟨Nat.zero_le _, Nat.zero_le _⟩ (fun H locs hP hD hS => ?_)
              refine lv_aload_n hx hb dX0_firstEndedBut_37 rfl (lv_at hl 0 rfl) ?_
              refine lv_iload_n hx hb dX0_firstEndedBut_38 rfl (lv_at hl 2 rfl) ?_
              obtain ⟨r39, hc, hF⟩ := bnd1_some hF
              refine kVi (As := [.int v2]) (rest := [.int r34]) (ws' := [(a0, .inr (0, [.ref a0_cashiers, .ref a0_tills, .ref a0_acts, .ref a0_wholes, .ref a0_begins, .ref a0_ends, .ref a0_answers, .int a0_n])), (a0_ends, .inl (cyI, 20, .inl f_a0_ends))]) ⟨hx, hb, hml, hown, hG⟩ hK hP hD hS hA (c_X0_endOf l D cyI cyJ cyZ cyO a0 a0_cashiers a0_tills a0_acts a0_wholes a0_begins a0_ends a0_answers a0_n f_a0_ends v2 H.size _ hc) (cw_X0_55 hG rfl rfl ⟨Nat.le_of_ble_eq_true rfl, Nat.le_of_ble_eq_true rfl⟩) 0 rfl rfl [0, 1] rfl rfl rfl rfl rfl rfl hl.1 rfl (Nat.le_of_ble_eq_true rfl) dX0_firstEndedBut_39 ⟨Nat.zero_le _, Nat.zero_le _⟩ (fun H locs hP hD hS => ?_)
              refine lv_icmp_ge (tgt := 47) hx hb dX0_firstEndedBut_42 (by decide) (fun h => ?_) (fun h => ?_)
              · have hF := t_pos h hF
                exact B47 v1 v2 v3 H locs ls hF hP hD hS (lv_sub hl [0, 1, 2, 3] rfl)
              · have hF := t_neg h hF
                exact B45 v1 v3 H locs ls hF hP hD hS (lv_sub hl [0, 1, 3] rfl)
  obtain ⟨H, hH⟩ : ∃ H : Heap, H = s.heap := ⟨_, rfl⟩
  obtain ⟨locs, hlo⟩ : ∃ L : List Loc, L = [] := ⟨_, rfl⟩
  have hP : va_P D vwCl [(a0, .inr (0, [.ref a0_cashiers, .ref a0_tills, .ref a0_acts, .ref a0_wholes, .ref a0_begins, .ref a0_ends, .ref a0_answers, .int a0_n])), (a0_ends, .inl (cyI, 20, .inl f_a0_ends))] H := by rw [hH]; exact hP
  have hS : va_S A s.heap H locs := by rw [hH, hlo]; exact hS
  show W p l e ({ frames := 3, cells := 0, slots := 0, locals := 63 } : Room) s m args below meth c s.heap [] 0 0 Q (F0 m 0 ls [])
  suffices hgo : W p l e ({ frames := 3, cells := 0, slots := 0, locals := 63 } : Room) s m args below meth c H locs 0 0 Q (F0 m 0 ls []) by rw [hH, hlo] at hgo; exact hgo
  refine lv_iconst (v := (-1 : Int32)) hx hb dX0_firstEndedBut_0 (by decide) ?_
  refine lv_istore_n (lv' := [(2, .int (-1 : Int32)), (0, .ref a0), (1, .int v1)]) hx hb dX0_firstEndedBut_1 rfl hl (by decide) rfl (fun ls hl => ?_)
  refine lv_iconst (v := (0 : Int32)) hx hb dX0_firstEndedBut_2 (by decide) ?_
  refine lv_istore_n (lv' := [(3, .int (0 : Int32)), (2, .int (-1 : Int32)), (0, .ref a0), (1, .int v1)]) hx hb dX0_firstEndedBut_3 rfl hl (by decide) rfl (fun ls hl => ?_)
  exact L4 fu v1 (-1 : Int32) (0 : Int32) H locs ls hF hP hD hS (lv_sub hl [2, 3, 1, 0] rfl)
set_option maxHeartbeats 4000000 in
set_option maxRecDepth 100000 in
theorem c_X0_lastOf (l : Launch) (D : va_G) (cyI cyJ cyZ cyO : ClassId) (a0 : Nat) (a0_cashiers : Nat) (a0_tills : Nat) (a0_acts : Nat) (a0_wholes : Nat) (a0_begins : Nat) (a0_ends : Nat) (a0_answers : Nat) (a0_n : Int32) (f_a0_cashiers : Nat → Int32) (v1 : Int32) (fu : Nat) (sz : Nat) (o : Int32) (hF : F_X0_lastOf fu a0_n f_a0_cashiers v1 = some o) : mI l yX0_lastOf cX0_lastOf 3 (some .int) ({ frames := 2, cells := 0, slots := 0, locals := 42 } : Room) D (wT cyI cyJ cyZ cyO) [.ref a0, .int v1] sz [(a0, .inr (0, [.ref a0_cashiers, .ref a0_tills, .ref a0_acts, .ref a0_wholes, .ref a0_begins, .ref a0_ends, .ref a0_answers, .int a0_n])), (a0_cashiers, .inl (cyI, 20, .inl f_a0_cashiers))] o [(a0, .inr (0, [.ref a0_cashiers, .ref a0_tills, .ref a0_acts, .ref a0_wholes, .ref a0_begins, .ref a0_ends, .ref a0_answers, .int a0_n])), (a0_cashiers, .inl (cyI, 20, .inl f_a0_cashiers))] := by
  refine kM_i (by decide +kernel) (Nat.le_of_ble_eq_true rfl) ?_
  intro p e s m args below meth c A ls Q hx hb hr hlocks hml hown hG hK hA hP hD hS hl hQ
  have hown : s.vm.findClass RX0 = some m.cls := hown
  have hl : lv_has ls 3 [(0, .ref a0), (1, .int v1)] := hl
  have L7 : ∀ (kf7 : Nat), ∀ (v1 : Int32) (v2 : Int32) (H : Heap) (locs : List Loc) (ls : Array Slot), F_X0_lastOf_b7 f_a0_cashiers v1 kf7 v2 = some o → va_P D vwCl [(a0, .inr (0, [.ref a0_cashiers, .ref a0_tills, .ref a0_acts, .ref a0_wholes, .ref a0_begins, .ref a0_ends, .ref a0_answers, .int a0_n])), (a0_cashiers, .inl (cyI, 20, .inl f_a0_cashiers))] H → va_D A [(a0, .inr (0, [.ref a0_cashiers, .ref a0_tills, .ref a0_acts, .ref a0_wholes, .ref a0_begins, .ref a0_ends, .ref a0_answers, .int a0_n])), (a0_cashiers, .inl (cyI, 20, .inl f_a0_cashiers))] → va_S A s.heap H locs → lv_has ls 3 [(0, .ref a0), (1, .int v1), (2, .int v2)] → W p l e ({ frames := 2, cells := 0, slots := 0, locals := 42 } : Room) s m args below meth c H locs 0 0 Q (F0 m 7 ls []) := by
    intro kf7
    induction kf7 with
    | zero => intro v1 v2 H locs ls hF; rw [F_X0_lastOf_b7] at hF; cases hF
    | succ kf7 ih7 =>
      intro v1 v2 H locs ls hF hP hD hS hl
      rw [F_X0_lastOf_b7] at hF
      refine lv_iload_n hx hb dX0_lastOf_7 rfl (lv_at hl 2 rfl) ?_
      refine lv_if_lt (tgt := 28) hx hb dX0_lastOf_8 (by decide) (fun h => ?_) (fun h => ?_)
      · have hF := t_pos h hF
        refine lv_iconst (v := (-1 : Int32)) hx hb dX0_lastOf_28 (by decide) ?_
        exact kRi (τ := Int32) (cv := (-1 : Int32)) (fr := fun u => u) (fw := fun u => [(a0, .inr (0, [.ref a0_cashiers, .ref a0_tills, .ref a0_acts, .ref a0_wholes, .ref a0_begins, .ref a0_ends, .ref a0_answers, .int a0_n])), (a0_cashiers, .inl (cyI, 20, .inl f_a0_cashiers))]) hQ hx hb hr hlocks hK hP hD hS hF rfl dX0_lastOf_29
      · have hF := t_neg h hF
        refine lv_aload_n hx hb dX0_lastOf_11 rfl (lv_at hl 0 rfl) ?_
        refine lv_iload_n hx hb dX0_lastOf_12 rfl (lv_at hl 2 rfl) ?_
        obtain ⟨r13, hc, hF⟩ := bnd1_some hF
        refine kVi (As := [.int v2]) (rest := []) (ws' := [(a0, .inr (0, [.ref a0_cashiers, .ref a0_tills, .ref a0_acts, .ref a0_wholes, .ref a0_begins, .ref a0_ends, .ref a0_answers, .int a0_n])), (a0_cashiers, .inl (cyI, 20, .inl f_a0_cashiers))]) ⟨hx, hb, hml, hown, hG⟩ hK hP hD hS hA (c_X0_cashierOf l D cyI cyJ cyZ cyO a0 a0_cashiers a0_tills a0_acts a0_wholes a0_begins a0_ends a0_answers a0_n f_a0_cashiers v2 H.size _ hc) (cw_X0_66 hG rfl rfl ⟨Nat.le_of_ble_eq_true rfl, Nat.le_of_ble_eq_true rfl⟩) 0 rfl rfl [0, 1] rfl rfl rfl rfl rfl rfl hl.1 rfl (Nat.le_of_ble_eq_true rfl) dX0_lastOf_13 ⟨Nat.zero_le _, Nat.zero_le _⟩ (fun H locs hP hD hS => ?_)
        refine lv_iload_n hx hb dX0_lastOf_16 rfl (lv_at hl 1 rfl) ?_
        refine lv_icmp_ne (tgt := 22) hx hb dX0_lastOf_17 (by decide) (fun h => ?_) (fun h => ?_)
        · have hF := t_neg h hF
          refine lv_iinc (v := (v2 + (-1 : Int32))) (lv' := [(2, .int (v2 + (-1 : Int32))), (0, .ref a0), (1, .int v1)]) hx hb dX0_lastOf_22 hl (k := 2) rfl (by rfl) (by decide) rfl (fun ls hl => ?_)
          refine lv_goto (tgt := 7) hx hb dX0_lastOf_25 (by decide) ?_
          exact ih7 v1 ((v2 + (-1 : Int32))) H locs ls hF hP hD hS (lv_sub hl [1, 2, 0] rfl)
        · have hF := t_pos h hF
          refine lv_iload_n hx hb dX0_lastOf_20 rfl (lv_at hl 2 rfl) ?_
          exact kRi (τ := Int32) (cv := v2) (fr := fun u => u) (fw := fun u => [(a0, .inr (0, [.ref a0_cashiers, .ref a0_tills, .ref a0_acts, .ref a0_wholes, .ref a0_begins, .ref a0_ends, .ref a0_answers, .int a0_n])), (a0_cashiers, .inl (cyI, 20, .inl f_a0_cashiers))]) hQ hx hb hr hlocks hK hP hD hS hF rfl dX0_lastOf_21
  obtain ⟨H, hH⟩ : ∃ H : Heap, H = s.heap := ⟨_, rfl⟩
  obtain ⟨locs, hlo⟩ : ∃ L : List Loc, L = [] := ⟨_, rfl⟩
  have hP : va_P D vwCl [(a0, .inr (0, [.ref a0_cashiers, .ref a0_tills, .ref a0_acts, .ref a0_wholes, .ref a0_begins, .ref a0_ends, .ref a0_answers, .int a0_n])), (a0_cashiers, .inl (cyI, 20, .inl f_a0_cashiers))] H := by rw [hH]; exact hP
  have hS : va_S A s.heap H locs := by rw [hH, hlo]; exact hS
  show W p l e ({ frames := 2, cells := 0, slots := 0, locals := 42 } : Room) s m args below meth c s.heap [] 0 0 Q (F0 m 0 ls [])
  suffices hgo : W p l e ({ frames := 2, cells := 0, slots := 0, locals := 42 } : Room) s m args below meth c H locs 0 0 Q (F0 m 0 ls []) by rw [hH, hlo] at hgo; exact hgo
  refine lv_aload_n hx hb dX0_lastOf_0 rfl (lv_at hl 0 rfl) ?_
  refine gt_X0_33 hx hb hG hown hK hP 0 rfl rfl dX0_lastOf_1 ?_
  refine lv_iconst (v := (1 : Int32)) hx hb dX0_lastOf_4 (by decide) ?_
  refine lv_isub hx hb dX0_lastOf_5 ?_
  refine lv_istore_n (lv' := [(2, .int (a0_n - (1 : Int32))), (0, .ref a0), (1, .int v1)]) hx hb dX0_lastOf_6 rfl hl (by decide) rfl (fun ls hl => ?_)
  exact L7 fu v1 ((a0_n - (1 : Int32))) H locs ls hF hP hD hS (lv_sub hl [1, 2, 0] rfl)
set_option maxHeartbeats 4000000 in
set_option maxRecDepth 100000 in
theorem c_X0_openAt (l : Launch) (D : va_G) (cyI cyJ cyZ cyO : ClassId) (a0 : Nat) (a0_cashiers : Nat) (a0_tills : Nat) (a0_acts : Nat) (a0_wholes : Nat) (a0_begins : Nat) (a0_ends : Nat) (a0_answers : Nat) (a0_n : Int32) (f_a0_ends : Nat → Int32) (v1 : Int32) (fu : Nat) (sz : Nat) (o : Int32) (hF : F_X0_openAt fu a0_n f_a0_ends v1 = some o) : mI l yX0_openAt cX0_openAt 4 (some .int) ({ frames := 3, cells := 0, slots := 0, locals := 63 } : Room) D (wT cyI cyJ cyZ cyO) [.ref a0, .int v1] sz [(a0, .inr (0, [.ref a0_cashiers, .ref a0_tills, .ref a0_acts, .ref a0_wholes, .ref a0_begins, .ref a0_ends, .ref a0_answers, .int a0_n])), (a0_ends, .inl (cyI, 20, .inl f_a0_ends))] o [(a0, .inr (0, [.ref a0_cashiers, .ref a0_tills, .ref a0_acts, .ref a0_wholes, .ref a0_begins, .ref a0_ends, .ref a0_answers, .int a0_n])), (a0_ends, .inl (cyI, 20, .inl f_a0_ends))] := by
  refine kM_i (by decide +kernel) (Nat.le_of_ble_eq_true rfl) ?_
  intro p e s m args below meth c A ls Q hx hb hr hlocks hml hown hG hK hA hP hD hS hl hQ
  have hown : s.vm.findClass RX0 = some m.cls := hown
  have hl : lv_has ls 4 [(0, .ref a0), (1, .int v1)] := hl
  have L4 : ∀ (kf4 : Nat), ∀ (v2 : Int32) (v3 : Int32) (H : Heap) (locs : List Loc) (ls : Array Slot), F_X0_openAt_b4 a0_n f_a0_ends kf4 v2 v3 = some o → va_P D vwCl [(a0, .inr (0, [.ref a0_cashiers, .ref a0_tills, .ref a0_acts, .ref a0_wholes, .ref a0_begins, .ref a0_ends, .ref a0_answers, .int a0_n])), (a0_ends, .inl (cyI, 20, .inl f_a0_ends))] H → va_D A [(a0, .inr (0, [.ref a0_cashiers, .ref a0_tills, .ref a0_acts, .ref a0_wholes, .ref a0_begins, .ref a0_ends, .ref a0_answers, .int a0_n])), (a0_ends, .inl (cyI, 20, .inl f_a0_ends))] → va_S A s.heap H locs → lv_has ls 4 [(0, .ref a0), (2, .int v2), (3, .int v3)] → W p l e ({ frames := 3, cells := 0, slots := 0, locals := 63 } : Room) s m args below meth c H locs 0 0 Q (F0 m 4 ls []) := by
    intro kf4
    induction kf4 with
    | zero => intro v2 v3 H locs ls hF; rw [F_X0_openAt_b4] at hF; cases hF
    | succ kf4 ih4 =>
      have B29 : ∀ (v2 : Int32) (v3 : Int32) (H : Heap) (locs : List Loc) (ls : Array Slot), F_X0_openAt_b29 (F_X0_openAt_b4 a0_n f_a0_ends kf4) a0_n f_a0_ends v2 v3 = some o → va_P D vwCl [(a0, .inr (0, [.ref a0_cashiers, .ref a0_tills, .ref a0_acts, .ref a0_wholes, .ref a0_begins, .ref a0_ends, .ref a0_answers, .int a0_n])), (a0_ends, .inl (cyI, 20, .inl f_a0_ends))] H → va_D A [(a0, .inr (0, [.ref a0_cashiers, .ref a0_tills, .ref a0_acts, .ref a0_wholes, .ref a0_begins, .ref a0_ends, .ref a0_answers, .int a0_n])), (a0_ends, .inl (cyI, 20, .inl f_a0_ends))] → va_S A s.heap H locs → lv_has ls 4 [(0, .ref a0), (2, .int v2), (3, .int v3)] → W p l e ({ frames := 3, cells := 0, slots := 0, locals := 63 } : Room) s m args below meth c H locs 0 0 Q (F0 m 29 ls []) := by
        intro v2 v3 H locs ls hF hP hD hS hl
        refine lv_iinc (v := (v3 + (1 : Int32))) (lv' := [(3, .int (v3 + (1 : Int32))), (0, .ref a0), (2, .int v2)]) hx hb dX0_openAt_29 hl (k := 2) rfl (by rfl) (by decide) rfl (fun ls hl => ?_)
        refine lv_goto (tgt := 4) hx hb dX0_openAt_32 (by decide) ?_
        exact ih4 v2 ((v3 + (1 : Int32))) H locs ls hF hP hD hS (lv_sub hl [1, 2, 0] rfl)
      intro v2 v3 H locs ls hF hP hD hS hl
      rw [F_X0_openAt_b4] at hF
      refine lv_iload_n hx hb dX0_openAt_4 rfl (lv_at hl 2 rfl) ?_
      refine lv_aload_n hx hb dX0_openAt_5 rfl (lv_at hl 0 rfl) ?_
      refine gt_X0_33 hx hb hG hown hK hP 0 rfl rfl dX0_openAt_6 ?_
      refine lv_icmp_ge (tgt := 35) hx hb dX0_openAt_9 (by decide) (fun h => ?_) (fun h => ?_)
      · have hF := t_pos h hF
        refine lv_iconst (v := (-1 : Int32)) hx hb dX0_openAt_35 (by decide) ?_
        exact kRi (τ := Int32) (cv := (-1 : Int32)) (fr := fun u => u) (fw := fun u => [(a0, .inr (0, [.ref a0_cashiers, .ref a0_tills, .ref a0_acts, .ref a0_wholes, .ref a0_begins, .ref a0_ends, .ref a0_answers, .int a0_n])), (a0_ends, .inl (cyI, 20, .inl f_a0_ends))]) hQ hx hb hr hlocks hK hP hD hS hF rfl dX0_openAt_36
      · have hF := t_neg h hF
        refine lv_aload_n hx hb dX0_openAt_12 rfl (lv_at hl 0 rfl) ?_
        refine lv_iload_n hx hb dX0_openAt_13 rfl (lv_at hl 2 rfl) ?_
        obtain ⟨r14, hc, hF⟩ := bnd1_some hF
        refine kVi (As := [.int v3]) (rest := []) (ws' := [(a0, .inr (0, [.ref a0_cashiers, .ref a0_tills, .ref a0_acts, .ref a0_wholes, .ref a0_begins, .ref a0_ends, .ref a0_answers, .int a0_n])), (a0_ends, .inl (cyI, 20, .inl f_a0_ends))]) ⟨hx, hb, hml, hown, hG⟩ hK hP hD hS hA (c_X0_isOpen l D cyI cyJ cyZ cyO a0 a0_cashiers a0_tills a0_acts a0_wholes a0_begins a0_ends a0_answers a0_n f_a0_ends v3 H.size _ hc) (cw_X0_81 hG rfl rfl ⟨Nat.le_of_ble_eq_true rfl, Nat.le_of_ble_eq_true rfl⟩) 0 rfl rfl [0, 1] rfl rfl rfl rfl rfl rfl hl.1 rfl (Nat.le_of_ble_eq_true rfl) dX0_openAt_14 ⟨Nat.zero_le _, Nat.zero_le _⟩ (fun H locs hP hD hS => ?_)
        refine lv_if_eq (tgt := 29) hx hb dX0_openAt_17 (by decide) (fun h => ?_) (fun h => ?_)
        · have hF := t_pos h hF
          exact B29 v2 v3 H locs ls hF hP hD hS (lv_sub hl [0, 1, 2] rfl)
        · have hF := t_neg h hF
          refine lv_iload_n hx hb dX0_openAt_20 rfl (lv_at hl 1 rfl) ?_
          refine lv_if_ne (tgt := 26) hx hb dX0_openAt_21 (by decide) (fun h => ?_) (fun h => ?_)
          · have hF := t_neg h hF
            refine lv_iinc (v := (v2 + (-1 : Int32))) (lv' := [(2, .int (v2 + (-1 : Int32))), (0, .ref a0), (3, .int v3)]) hx hb dX0_openAt_26 hl (k := 1) rfl (by rfl) (by decide) rfl (fun ls hl => ?_)
            exact B29 ((v2 + (-1 : Int32))) v3 H locs ls hF hP hD hS (lv_sub hl [1, 0, 2] rfl)
          · have hF := t_pos h hF
            refine lv_iload_n hx hb dX0_openAt_24 rfl (lv_at hl 2 rfl) ?_
            exact kRi (τ := Int32) (cv := v3) (fr := fun u => u) (fw := fun u => [(a0, .inr (0, [.ref a0_cashiers, .ref a0_tills, .ref a0_acts, .ref a0_wholes, .ref a0_begins, .ref a0_ends, .ref a0_answers, .int a0_n])), (a0_ends, .inl (cyI, 20, .inl f_a0_ends))]) hQ hx hb hr hlocks hK hP hD hS hF rfl dX0_openAt_25
  obtain ⟨H, hH⟩ : ∃ H : Heap, H = s.heap := ⟨_, rfl⟩
  obtain ⟨locs, hlo⟩ : ∃ L : List Loc, L = [] := ⟨_, rfl⟩
  have hP : va_P D vwCl [(a0, .inr (0, [.ref a0_cashiers, .ref a0_tills, .ref a0_acts, .ref a0_wholes, .ref a0_begins, .ref a0_ends, .ref a0_answers, .int a0_n])), (a0_ends, .inl (cyI, 20, .inl f_a0_ends))] H := by rw [hH]; exact hP
  have hS : va_S A s.heap H locs := by rw [hH, hlo]; exact hS
  show W p l e ({ frames := 3, cells := 0, slots := 0, locals := 63 } : Room) s m args below meth c s.heap [] 0 0 Q (F0 m 0 ls [])
  suffices hgo : W p l e ({ frames := 3, cells := 0, slots := 0, locals := 63 } : Room) s m args below meth c H locs 0 0 Q (F0 m 0 ls []) by rw [hH, hlo] at hgo; exact hgo
  refine lv_iload_n hx hb dX0_openAt_0 rfl (lv_at hl 1 rfl) ?_
  refine lv_istore_n (lv' := [(2, .int v1), (0, .ref a0), (1, .int v1)]) hx hb dX0_openAt_1 rfl hl (by decide) rfl (fun ls hl => ?_)
  refine lv_iconst (v := (0 : Int32)) hx hb dX0_openAt_2 (by decide) ?_
  refine lv_istore_n (lv' := [(3, .int (0 : Int32)), (2, .int v1), (0, .ref a0), (1, .int v1)]) hx hb dX0_openAt_3 rfl hl (by decide) rfl (fun ls hl => ?_)
  exact L4 fu v1 (0 : Int32) H locs ls hF hP hD hS (lv_sub hl [2, 1, 0] rfl)
