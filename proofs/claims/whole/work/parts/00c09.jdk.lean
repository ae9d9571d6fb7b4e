theorem lt_of_in {k : Int32} {n : Nat} (hn : n < 2 ^ 31) (h : ¬ (k < 0 ∨ n ≤ k.toNatClampNeg)) : k < Int32.ofNat n := by
  have h1 : ¬ k < 0 := fun q => h (Or.inl q)
  have h2 : k.toNatClampNeg < n := Nat.not_le.mp (fun q => h (Or.inr q))
  rw [Int32.lt_iff_toInt_lt]
  have h3 : (Int32.ofNat n).toInt = n := nI_toInt hn
  rw [h3]
  have h4 : k.toNatClampNeg = k.toInt.toNat := rfl
  omega
theorem sShr : ∀ i, i < nS → sLen i >>> ((0 : Int32) &&& 31) = sLen i := by decide +kernel
set_option maxHeartbeats 4000000 in
set_option maxRecDepth 100000 in
theorem c_J0_coder (l : Launch) (D : va_G) (cyI cyJ cyZ cyO : ClassId) (adK adV : Nat → Nat) (i : Nat) (hi : i < nS) (sz : Nat) : mIS l yJ0_coder_7d493 cJ0_coder_7d493 1 (some .byte) ({ frames := 0, cells := 0, slots := 0, locals := 0 } : Room) D (wT cyI cyJ cyZ cyO) adK adV [.ref (adK i)] sz [] 0 [] := by
  refine kM_iS (by decide +kernel) (Nat.le_of_ble_eq_true rfl) ?_
  intro p e s m args below meth c A ls Q hx hb hr hlocks hml hown hG hK hA hP hD hS hl hE hQ
  have hown : s.vm.findClass RJ0 = some m.cls := hown
  have hl : lv_has ls 1 [(0, .ref (adK i))] := hl
  obtain ⟨H, hH⟩ : ∃ H : Heap, H = s.heap := ⟨_, rfl⟩
  obtain ⟨locs, hlo⟩ : ∃ L : List Loc, L = [] := ⟨_, rfl⟩
  have hP : va_P D vwCl [] H := by rw [hH]; exact hP
  have hS : va_S A s.heap H locs := by rw [hH, hlo]; exact hS
  suffices hgo : W p l e ({ frames := 0, cells := 0, slots := 0, locals := 0 } : Room) s m args below meth c H locs 0 0 Q (F0 m 0 ls []) by rw [hH, hlo] at hgo; exact hgo
  refine va_gets hx hb hE.2.1 hS hown (hG _ gm_422) (fun _ h => h) dJ0_coder_7d493_0 ?_
  refine lv_if_eq (tgt := 13) hx hb dJ0_coder_7d493_3 (by decide) (fun h => absurd h (by decide)) (fun h => ?_)
  refine lv_aload_n hx hb dJ0_coder_7d493_6 rfl (lv_at hl 0 rfl) ?_
  refine vk_getf hx hb (hE.1 i hi).2.1 hS hown (hG _ gm_1740) (fun _ h => h) dJ0_coder_7d493_7 ?_
  refine lv_goto (tgt := 14) hx hb dJ0_coder_7d493_10 (by decide) ?_
  exact kRz (τ := Int32) (cv := (0 : Int32)) (o := (0 : Int32)) (fr := fun u => u) (fw := fun u => []) hQ hx hb hr hlocks hK hP hD hS rfl rfl rfl dJ0_coder_7d493_14

set_option maxHeartbeats 4000000 in
set_option maxRecDepth 100000 in
theorem c_J0_isLatin1 (l : Launch) (D : va_G) (cyI cyJ cyZ cyO : ClassId) (adK adV : Nat → Nat) (i : Nat) (hi : i < nS) (sz : Nat) : mIS l yJ0_isLatin1_aae02 cJ0_isLatin1_aae02 1 (some .boolean) ({ frames := 0, cells := 0, slots := 0, locals := 0 } : Room) D (wT cyI cyJ cyZ cyO) adK adV [.ref (adK i)] sz [] 1 [] := by
  refine kM_iS (by decide +kernel) (Nat.le_of_ble_eq_true rfl) ?_
  intro p e s m args below meth c A ls Q hx hb hr hlocks hml hown hG hK hA hP hD hS hl hE hQ
  have hown : s.vm.findClass RJ0 = some m.cls := hown
  have hl : lv_has ls 1 [(0, .ref (adK i))] := hl
  obtain ⟨H, hH⟩ : ∃ H : Heap, H = s.heap := ⟨_, rfl⟩
  obtain ⟨locs, hlo⟩ : ∃ L : List Loc, L = [] := ⟨_, rfl⟩
  have hP : va_P D vwCl [] H := by rw [hH]; exact hP
  have hS : va_S A s.heap H locs := by rw [hH, hlo]; exact hS
  suffices hgo : W p l e ({ frames := 0, cells := 0, slots := 0, locals := 0 } : Room) s m args below meth c H locs 0 0 Q (F0 m 0 ls []) by rw [hH, hlo] at hgo; exact hgo
  refine va_gets hx hb hE.2.1 hS hown (hG _ gm_422) (fun _ h => h) dJ0_isLatin1_aae02_0 ?_
  refine lv_if_eq (tgt := 17) hx hb dJ0_isLatin1_aae02_3 (by decide) (fun h => absurd h (by decide)) (fun h => ?_)
  refine lv_aload_n hx hb dJ0_isLatin1_aae02_6 rfl (lv_at hl 0 rfl) ?_
  refine vk_getf hx hb (hE.1 i hi).2.1 hS hown (hG _ gm_1740) (fun _ h => h) dJ0_isLatin1_aae02_7 ?_
  refine lv_if_ne (tgt := 17) hx hb dJ0_isLatin1_aae02_10 (by decide) (fun h => absurd rfl h) (fun h => ?_)
  refine lv_iconst (v := (1 : Int32)) hx hb dJ0_isLatin1_aae02_13 (by decide) ?_
  refine lv_goto (tgt := 18) hx hb dJ0_isLatin1_aae02_14 (by decide) ?_
  exact kRz (τ := Int32) (cv := (1 : Int32)) (o := (1 : Int32)) (fr := fun u => u) (fw := fun u => []) hQ hx hb hr hlocks hK hP hD hS rfl rfl rfl dJ0_isLatin1_aae02_18

set_option maxHeartbeats 4000000 in
set_option maxRecDepth 100000 in
theorem c_J0_length (l : Launch) (D : va_G) (cyI cyJ cyZ cyO : ClassId) (adK adV : Nat → Nat) (i : Nat) (hi : i < nS) (sz : Nat) : mIS l yJ0_length_8abf5 cJ0_length_8abf5 1 (some .int) ({ frames := 1, cells := 0, slots := 0, locals := 40 } : Room) D (wT cyI cyJ cyZ cyO) adK adV [.ref (adK i)] sz [] (sLen i) [] := by
  refine kM_iS (by decide +kernel) (Nat.le_of_ble_eq_true rfl) ?_
  intro p e s m args below meth c A ls Q hx hb hr hlocks hml hown hG hK hA hP hD hS hl hE hQ
  have hown : s.vm.findClass RJ0 = some m.cls := hown
  have hl : lv_has ls 1 [(0, .ref (adK i))] := hl
  obtain ⟨H, hH⟩ : ∃ H : Heap, H = s.heap := ⟨_, rfl⟩
  obtain ⟨locs, hlo⟩ : ∃ L : List Loc, L = [] := ⟨_, rfl⟩
  have hP : va_P D vwCl [] H := by rw [hH]; exact hP
  have hS : va_S A s.heap H locs := by rw [hH, hlo]; exact hS
  suffices hgo : W p l e ({ frames := 1, cells := 0, slots := 0, locals := 40 } : Room) s m args below meth c H locs 0 0 Q (F0 m 0 ls []) by rw [hH, hlo] at hgo; exact hgo
  refine lv_aload_n hx hb dJ0_length_8abf5_0 rfl (lv_at hl 0 rfl) ?_
  refine vk_getf hx hb (hE.1 i hi).2.2.1 hS hown (hG _ gm_1739) (fun _ h => h) dJ0_length_8abf5_1 ?_
  refine va_tlen (v := sLen i) hx hb (hE.1 i hi).2.2.2 hS rfl dJ0_length_8abf5_4 ?_
  refine lv_aload_n hx hb dJ0_length_8abf5_5 rfl (lv_at hl 0 rfl) ?_
  refine kTi (As := []) (rest := [.int (sLen i)]) hE hi ⟨hx, hb, hml, hown, hG⟩ hK hP hD hS hA (c_J0_coder l D cyI cyJ cyZ cyO adK adV i hi H.size) (cw_J0_335 hG rfl rfl ⟨Nat.le_of_ble_eq_true rfl, Nat.le_of_ble_eq_true rfl⟩) rfl hl.1 rfl (Nat.le_of_ble_eq_true rfl) dJ0_length_8abf5_6 ⟨Nat.zero_le _, Nat.zero_le _⟩ (fun H locs hP hS => ?_)
  refine lv_ishr hx hb dJ0_length_8abf5_9 ?_
  exact kRi (τ := Int32) (cv := sLen i) (o := sLen i) (fr := fun u => u) (fw := fun u => []) hQ hx hb hr hlocks hK hP hD hS rfl (sShr i hi) dJ0_length_8abf5_10

set_option maxHeartbeats 4000000 in
set_option maxRecDepth 100000 in
theorem c_J3_checkIndexN (l : Launch) (D : va_G) (cyI cyJ cyZ cyO : ClassId) (adK adV : Nat → Nat) (k n : Int32)  (h0 : ¬ k < 0) (h1 : k < n) (sz : Nat) : mIS l yJ3_checkIndex_8e157 cJ3_checkIndex_8e157 3 (some .int) ({ frames := 0, cells := 0, slots := 0, locals := 0 } : Room) D (wT cyI cyJ cyZ cyO) adK adV [.int k, .int n, .null] sz [] k [] := by
  refine kM_iS (by decide +kernel) (Nat.le_of_ble_eq_true rfl) ?_
  intro p e s m args below meth c A ls Q hx hb hr hlocks hml hown hG hK hA hP hD hS hl hE hQ
  have hown : s.vm.findClass RJ3 = some m.cls := hown
  have hl : lv_has ls 3 [(0, .int k), (1, .int n), (2, .null)] := hl
  obtain ⟨H, hH⟩ : ∃ H : Heap, H = s.heap := ⟨_, rfl⟩
  obtain ⟨locs, hlo⟩ : ∃ L : List Loc, L = [] := ⟨_, rfl⟩
  have hP : va_P D vwCl [] H := by rw [hH]; exact hP
  have hS : va_S A s.heap H locs := by rw [hH, hlo]; exact hS
  suffices hgo : W p l e ({ frames := 0, cells := 0, slots := 0, locals := 0 } : Room) s m args below meth c H locs 0 0 Q (F0 m 0 ls []) by rw [hH, hlo] at hgo; exact hgo
  refine lv_iload_n hx hb dJ3_checkIndex_8e157_0 rfl (lv_at hl 0 rfl) ?_
  refine lv_if_lt (tgt := 9) hx hb dJ3_checkIndex_8e157_1 (by decide) (fun h => absurd h h0) (fun h => ?_)
  refine lv_iload_n hx hb dJ3_checkIndex_8e157_4 rfl (lv_at hl 0 rfl) ?_
  refine lv_iload_n hx hb dJ3_checkIndex_8e157_5 rfl (lv_at hl 1 rfl) ?_
  refine lv_icmp_lt (tgt := 16) hx hb dJ3_checkIndex_8e157_6 (by decide) (fun h => ?_) (fun h => absurd h1 h)
  refine lv_iload_n hx hb dJ3_checkIndex_8e157_16 rfl (lv_at hl 0 rfl) ?_
  exact kRi (τ := Int32) (cv := k) (o := k) (fr := fun u => u) (fw := fun u => []) hQ hx hb hr hlocks hK hP hD hS rfl rfl dJ3_checkIndex_8e157_17

set_option maxHeartbeats 4000000 in
set_option maxRecDepth 100000 in
theorem c_J3_checkIndexR (l : Launch) (D : va_G) (cyI cyJ cyZ cyO : ClassId) (adK adV : Nat → Nat) (k n : Int32) (t : Nat) (h0 : ¬ k < 0) (h1 : k < n) (sz : Nat) : mIS l yJ3_checkIndex_8e157 cJ3_checkIndex_8e157 3 (some .int) ({ frames := 0, cells := 0, slots := 0, locals := 0 } : Room) D (wT cyI cyJ cyZ cyO) adK adV [.int k, .int n, .ref t] sz [] k [] := by
  refine kM_iS (by decide +kernel) (Nat.le_of_ble_eq_true rfl) ?_
  intro p e s m args below meth c A ls Q hx hb hr hlocks hml hown hG hK hA hP hD hS hl hE hQ
  have hown : s.vm.findClass RJ3 = some m.cls := hown
  have hl : lv_has ls 3 [(0, .int k), (1, .int n), (2, .ref t)] := hl
  obtain ⟨H, hH⟩ : ∃ H : Heap, H = s.heap := ⟨_, rfl⟩
  obtain ⟨locs, hlo⟩ : ∃ L : List Loc, L = [] := ⟨_, rfl⟩
  have hP : va_P D vwCl [] H := by rw [hH]; exact hP
  have hS : va_S A s.heap H locs := by rw [hH, hlo]; exact hS
  suffices hgo : W p l e ({ frames := 0, cells := 0, slots := 0, locals := 0 } : Room) s m args below meth c H locs 0 0 Q (F0 m 0 ls []) by rw [hH, hlo] at hgo; exact hgo
  refine lv_iload_n hx hb dJ3_checkIndex_8e157_0 rfl (lv_at hl 0 rfl) ?_
  refine lv_if_lt (tgt := 9) hx hb dJ3_checkIndex_8e157_1 (by decide) (fun h => absurd h h0) (fun h => ?_)
  refine lv_iload_n hx hb dJ3_checkIndex_8e157_4 rfl (lv_at hl 0 rfl) ?_
  refine lv_iload_n hx hb dJ3_checkIndex_8e157_5 rfl (lv_at hl 1 rfl) ?_
  refine lv_icmp_lt (tgt := 16) hx hb dJ3_checkIndex_8e157_6 (by decide) (fun h => ?_) (fun h => absurd h1 h)
  refine lv_iload_n hx hb dJ3_checkIndex_8e157_16 rfl (lv_at hl 0 rfl) ?_
  exact kRi (τ := Int32) (cv := k) (o := k) (fr := fun u => u) (fw := fun u => []) hQ hx hb hr hlocks hK hP hD hS rfl rfl dJ3_checkIndex_8e157_17

set_option maxHeartbeats 4000000 in
set_option maxRecDepth 100000 in
theorem c_J0_checkIndex (l : Launch) (D : va_G) (cyI cyJ cyZ cyO : ClassId) (adK adV : Nat → Nat) (k n : Int32) (h0 : ¬ k < 0) (h1 : k < n) (sz : Nat) : mVS l yJ0_checkIndex_df160 cJ0_checkIndex_df160 2 none ({ frames := 1, cells := 0, slots := 0, locals := 40 } : Room) D (wT cyI cyJ cyZ cyO) adK adV [.int k, .int n] sz [] [] := by
  refine kM_vS (by decide +kernel) (Nat.le_of_ble_eq_true rfl) ?_
  intro p e s m args below meth c A ls Q hx hb hr hlocks hml hown hG hK hA hP hD hS hl hE hQ
  have hown : s.vm.findClass RJ0 = some m.cls := hown
  have hl : lv_has ls 2 [(0, .int k), (1, .int n)] := hl
  obtain ⟨H, hH⟩ : ∃ H : Heap, H = s.heap := ⟨_, rfl⟩
  obtain ⟨locs, hlo⟩ : ∃ L : List Loc, L = [] := ⟨_, rfl⟩
  have hP : va_P D vwCl [] H := by rw [hH]; exact hP
  have hS : va_S A s.heap H locs := by rw [hH, hlo]; exact hS
  suffices hgo : W p l e ({ frames := 1, cells := 0, slots := 0, locals := 40 } : Room) s m args below meth c H locs 0 0 Q (F0 m 0 ls []) by rw [hH, hlo] at hgo; exact hgo
  refine lv_iload_n hx hb dJ0_checkIndex_df160_0 rfl (lv_at hl 0 rfl) ?_
  refine lv_iload_n hx hb dJ0_checkIndex_df160_1 rfl (lv_at hl 1 rfl) ?_
  rcases hE.2.2.1 with hz | ⟨t, hz⟩
  · refine va_gets hx hb hz hS hown (hG _ gm_438) (fun _ h => h) dJ0_checkIndex_df160_2 ?_
    refine kTs (As := [.int k, .int n, .null]) (rest := []) hE ⟨hx, hb, hml, hown, hG⟩ hK hP hD hS hA (c_J3_checkIndexN l D cyI cyJ cyZ cyO adK adV k n h0 h1 H.size) (cs_J0_1059 hG rfl rfl ⟨Nat.le_of_ble_eq_true rfl, Nat.le_of_ble_eq_true rfl⟩) rfl hl.1 rfl (Nat.le_of_ble_eq_true rfl) dJ0_checkIndex_df160_5 ⟨Nat.zero_le _, Nat.zero_le _⟩ (fun H locs hP hS => ?_)
    refine lv_pop hx hb dJ0_checkIndex_df160_8 rfl ?_
    exact kRv (τ := Unit) (cv := ()) (o := ()) (fw := fun u => []) hQ hx hb hr hlocks hK hP hD hS rfl dJ0_checkIndex_df160_9
  · refine va_gets hx hb hz hS hown (hG _ gm_438) (fun _ h => h) dJ0_checkIndex_df160_2 ?_
    refine kTs (As := [.int k, .int n, .ref t]) (rest := []) hE ⟨hx, hb, hml, hown, hG⟩ hK hP hD hS hA (c_J3_checkIndexR l D cyI cyJ cyZ cyO adK adV k n t h0 h1 H.size) (cs_J0_1059 hG rfl rfl ⟨Nat.le_of_ble_eq_true rfl, Nat.le_of_ble_eq_true rfl⟩) rfl hl.1 rfl (Nat.le_of_ble_eq_true rfl) dJ0_checkIndex_df160_5 ⟨Nat.zero_le _, Nat.zero_le _⟩ (fun H locs hP hS => ?_)
    refine lv_pop hx hb dJ0_checkIndex_df160_8 rfl ?_
    exact kRv (τ := Unit) (cv := ()) (o := ()) (fw := fun u => []) hQ hx hb hr hlocks hK hP hD hS rfl dJ0_checkIndex_df160_9

set_option maxHeartbeats 4000000 in
set_option maxRecDepth 100000 in
theorem c_J1_charAt (l : Launch) (D : va_G) (cyI cyJ cyZ cyO : ClassId) (adK adV : Nat → Nat) (i : Nat) (hi : i < nS) (k : Int32) (hin : ¬ (k < 0 ∨ lenS.getD i 0 ≤ k.toNatClampNeg)) (sz : Nat) : mIS l yJ1_charAt_3b067 cJ1_charAt_3b067 2 (some .char) ({ frames := 2, cells := 0, slots := 0, locals := 80 } : Room) D (wT cyI cyJ cyZ cyO) adK adV [.ref (adV i), .int k] sz [] (sCh i k.toNatClampNeg) [] := by
  refine kM_iS (by decide +kernel) (Nat.le_of_ble_eq_true rfl) ?_
  intro p e s m args below meth c A ls Q hx hb hr hlocks hml hown hG hK hA hP hD hS hl hE hQ
  have hown : s.vm.findClass RJ1 = some m.cls := hown
  have hl : lv_has ls 2 [(0, .ref (adV i)), (1, .int k)] := hl
  obtain ⟨H, hH⟩ : ∃ H : Heap, H = s.heap := ⟨_, rfl⟩
  obtain ⟨locs, hlo⟩ : ∃ L : List Loc, L = [] := ⟨_, rfl⟩
  have hP : va_P D vwCl [] H := by rw [hH]; exact hP
  have hS : va_S A s.heap H locs := by rw [hH, hlo]; exact hS
  suffices hgo : W p l e ({ frames := 2, cells := 0, slots := 0, locals := 80 } : Room) s m args below meth c H locs 0 0 Q (F0 m 0 ls []) by rw [hH, hlo] at hgo; exact hgo
  obtain ⟨hl10, hch⟩ := sAll i hi
  have hk1 : k < sLen i := lt_of_in (by omega) hin
  have hk2 := hch k.toNatClampNeg (Nat.not_le.mp (fun q => hin (Or.inr q)))
  refine lv_iload_n hx hb dJ1_charAt_3b067_0 rfl (lv_at hl 1 rfl) ?_
  refine lv_aload_n hx hb dJ1_charAt_3b067_1 rfl (lv_at hl 0 rfl) ?_
  refine va_tlen (v := sLen i) hx hb (hE.1 i hi).2.2.2 hS rfl dJ1_charAt_3b067_2 ?_
  refine kTv (As := [.int k, .int (sLen i)]) (rest := []) hE ⟨hx, hb, hml, hown, hG⟩ hK hP hD hS hA (c_J0_checkIndex l D cyI cyJ cyZ cyO adK adV k (sLen i) (fun q => hin (Or.inl q)) hk1 H.size) (cs_J1_9 hG rfl rfl ⟨Nat.le_of_ble_eq_true rfl, Nat.le_of_ble_eq_true rfl⟩) rfl hl.1 rfl (Nat.le_of_ble_eq_true rfl) dJ1_charAt_3b067_3 ⟨Nat.zero_le _, Nat.zero_le _⟩ (fun H locs hP hS => ?_)
  refine lv_aload_n hx hb dJ1_charAt_3b067_6 rfl (lv_at hl 0 rfl) ?_
  refine lv_iload_n hx hb dJ1_charAt_3b067_7 rfl (lv_at hl 1 rfl) ?_
  refine va_tb (v := .int (sCh i k.toNatClampNeg)) hx hb (hE.1 i hi).2.2.2 hS hin rfl dJ1_charAt_3b067_8 ?_
  refine lv_sipush (v := (255 : Int32)) hx hb dJ1_charAt_3b067_9 (by decide) ?_
  refine lv_iand hx hb dJ1_charAt_3b067_12 ?_
  refine lv_i2c (v := sCh i k.toNatClampNeg) hx hb dJ1_charAt_3b067_13 hk2.1 ?_
  exact kRz (τ := Int32) (cv := sCh i k.toNatClampNeg) (o := sCh i k.toNatClampNeg) (fr := fun u => u) (fw := fun u => []) hQ hx hb hr hlocks hK hP hD hS rfl rfl hk2.2 dJ1_charAt_3b067_14

set_option maxHeartbeats 4000000 in
set_option maxRecDepth 100000 in
theorem c_J0_charAt (l : Launch) (D : va_G) (cyI cyJ cyZ cyO : ClassId) (adK adV : Nat → Nat) (i : Nat) (hi : i < nS) (k : Int32) (hin : ¬ (k < 0 ∨ lenS.getD i 0 ≤ k.toNatClampNeg)) (sz : Nat) : mIS l yJ0_charAt_5068e cJ0_charAt_5068e 2 (some .char) ({ frames := 3, cells := 0, slots := 0, locals := 120 } : Room) D (wT cyI cyJ cyZ cyO) adK adV [.ref (adK i), .int k] sz [] (sCh i k.toNatClampNeg) [] := by
  refine kM_iS (by decide +kernel) (Nat.le_of_ble_eq_true rfl) ?_
  intro p e s m args below meth c A ls Q hx hb hr hlocks hml hown hG hK hA hP hD hS hl hE hQ
  have hown : s.vm.findClass RJ0 = some m.cls := hown
  have hl : lv_has ls 2 [(0, .ref (adK i)), (1, .int k)] := hl
  obtain ⟨H, hH⟩ : ∃ H : Heap, H = s.heap := ⟨_, rfl⟩
  obtain ⟨locs, hlo⟩ : ∃ L : List Loc, L = [] := ⟨_, rfl⟩
  have hP : va_P D vwCl [] H := by rw [hH]; exact hP
  have hS : va_S A s.heap H locs := by rw [hH, hlo]; exact hS
  suffices hgo : W p l e ({ frames := 3, cells := 0, slots := 0, locals := 120 } : Room) s m args below meth c H locs 0 0 Q (F0 m 0 ls []) by rw [hH, hlo] at hgo; exact hgo
  have hk2 := (sAll i hi).2 k.toNatClampNeg (Nat.not_le.mp (fun q => hin (Or.inr q)))
  refine lv_aload_n hx hb dJ0_charAt_5068e_0 rfl (lv_at hl 0 rfl) ?_
  refine kTi (As := []) (rest := []) hE hi ⟨hx, hb, hml, hown, hG⟩ hK hP hD hS hA (c_J0_isLatin1 l D cyI cyJ cyZ cyO adK adV i hi H.size) (cw_J0_492 hG rfl rfl ⟨Nat.le_of_ble_eq_true rfl, Nat.le_of_ble_eq_true rfl⟩) rfl hl.1 rfl (Nat.le_of_ble_eq_true rfl) dJ0_charAt_5068e_1 ⟨Nat.zero_le _, Nat.zero_le _⟩ (fun H locs hP hS => ?_)
  refine lv_if_eq (tgt := 16) hx hb dJ0_charAt_5068e_4 (by decide) (fun h => absurd h (by decide)) (fun h => ?_)
  refine lv_aload_n hx hb dJ0_charAt_5068e_7 rfl (lv_at hl 0 rfl) ?_
  refine vk_getf hx hb (hE.1 i hi).2.2.1 hS hown (hG _ gm_1739) (fun _ h => h) dJ0_charAt_5068e_8 ?_
  refine lv_iload_n hx hb dJ0_charAt_5068e_11 rfl (lv_at hl 1 rfl) ?_
  refine kTs (As := [.ref (adV i), .int k]) (rest := []) hE ⟨hx, hb, hml, hown, hG⟩ hK hP hD hS hA (c_J1_charAt l D cyI cyJ cyZ cyO adK adV i hi k hin H.size) (cs_J0_495 hG rfl rfl ⟨Nat.le_of_ble_eq_true rfl, Nat.le_of_ble_eq_true rfl⟩) rfl hl.1 rfl (Nat.le_of_ble_eq_true rfl) dJ0_charAt_5068e_12 ⟨Nat.zero_le _, Nat.zero_le _⟩ (fun H locs hP hS => ?_)
  exact kRz (τ := Int32) (cv := sCh i k.toNatClampNeg) (o := sCh i k.toNatClampNeg) (fr := fun u => u) (fw := fun u => []) hQ hx hb hr hlocks hK hP hD hS rfl rfl hk2.2 dJ0_charAt_5068e_15
