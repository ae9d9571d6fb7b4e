section
/-! book: class and reference -/
theorem z_b46 {α0 α1 α2 α3 α4 α5 α6 α7 α8 α9 α10 α11 α12 α13 α14 α15 α16 α17 α18 α19 α20 α21 α22 α23 α24 α25 α26 α27 α28 α29 α30 α31 α32 α33 α34 α35 α36 α37 α38 α39 α40 α41 α42 α43 α44 α45 δ : Type} (a0 : α0) (a1 : α1) (a2 : α2) (a3 : α3) (a4 : α4) (a5 : α5) (a6 : α6) (a7 : α7) (a8 : α8) (a9 : α9) (a10 : α10) (a11 : α11) (a12 : α12) (a13 : α13) (a14 : α14) (a15 : α15) (a16 : α16) (a17 : α17) (a18 : α18) (a19 : α19) (a20 : α20) (a21 : α21) (a22 : α22) (a23 : α23) (a24 : α24) (a25 : α25) (a26 : α26) (a27 : α27) (a28 : α28) (a29 : α29) (a30 : α30) (a31 : α31) (a32 : α32) (a33 : α33) (a34 : α34) (a35 : α35) (a36 : α36) (a37 : α37) (a38 : α38) (a39 : α39) (a40 : α40) (a41 : α41) (a42 : α42) (a43 : α43) (a44 : α44) (a45 : α45) (k : α0 → α1 → α2 → α3 → α4 → α5 → α6 → α7 → α8 → α9 → α10 → α11 → α12 → α13 → α14 → α15 → α16 → α17 → α18 → α19 → α20 → α21 → α22 → α23 → α24 → α25 → α26 → α27 → α28 → α29 → α30 → α31 → α32 → α33 → α34 → α35 → α36 → α37 → α38 → α39 → α40 → α41 → α42 → α43 → α44 → α45 → Option δ) : bnd46 (some (a0, a1, a2, a3, a4, a5, a6, a7, a8, a9, a10, a11, a12, a13, a14, a15, a16, a17, a18, a19, a20, a21, a22, a23, a24, a25, a26, a27, a28, a29, a30, a31, a32, a33, a34, a35, a36, a37, a38, a39, a40, a41, a42, a43, a44, a45)) k = k a0 a1 a2 a3 a4 a5 a6 a7 a8 a9 a10 a11 a12 a13 a14 a15 a16 a17 a18 a19 a20 a21 a22 a23 a24 a25 a26 a27 a28 a29 a30 a31 a32 a33 a34 a35 a36 a37 a38 a39 a40 a41 a42 a43 a44 a45 := rfl
theorem z_b47 {α0 α1 α2 α3 α4 α5 α6 α7 α8 α9 α10 α11 α12 α13 α14 α15 α16 α17 α18 α19 α20 α21 α22 α23 α24 α25 α26 α27 α28 α29 α30 α31 α32 α33 α34 α35 α36 α37 α38 α39 α40 α41 α42 α43 α44 α45 α46 δ : Type} (a0 : α0) (a1 : α1) (a2 : α2) (a3 : α3) (a4 : α4) (a5 : α5) (a6 : α6) (a7 : α7) (a8 : α8) (a9 : α9) (a10 : α10) (a11 : α11) (a12 : α12) (a13 : α13) (a14 : α14) (a15 : α15) (a16 : α16) (a17 : α17) (a18 : α18) (a19 : α19) (a20 : α20) (a21 : α21) (a22 : α22) (a23 : α23) (a24 : α24) (a25 : α25) (a26 : α26) (a27 : α27) (a28 : α28) (a29 : α29) (a30 : α30) (a31 : α31) (a32 : α32) (a33 : α33) (a34 : α34) (a35 : α35) (a36 : α36) (a37 : α37) (a38 : α38) (a39 : α39) (a40 : α40) (a41 : α41) (a42 : α42) (a43 : α43) (a44 : α44) (a45 : α45) (a46 : α46) (k : α0 → α1 → α2 → α3 → α4 → α5 → α6 → α7 → α8 → α9 → α10 → α11 → α12 → α13 → α14 → α15 → α16 → α17 → α18 → α19 → α20 → α21 → α22 → α23 → α24 → α25 → α26 → α27 → α28 → α29 → α30 → α31 → α32 → α33 → α34 → α35 → α36 → α37 → α38 → α39 → α40 → α41 → α42 → α43 → α44 → α45 → α46 → Option δ) : bnd47 (some (a0, a1, a2, a3, a4, a5, a6, a7, a8, a9, a10, a11, a12, a13, a14, a15, a16, a17, a18, a19, a20, a21, a22, a23, a24, a25, a26, a27, a28, a29, a30, a31, a32, a33, a34, a35, a36, a37, a38, a39, a40, a41, a42, a43, a44, a45, a46)) k = k a0 a1 a2 a3 a4 a5 a6 a7 a8 a9 a10 a11 a12 a13 a14 a15 a16 a17 a18 a19 a20 a21 a22 a23 a24 a25 a26 a27 a28 a29 a30 a31 a32 a33 a34 a35 a36 a37 a38 a39 a40 a41 a42 a43 a44 a45 a46 := rfl
theorem cpy_0 {f g : Nat → Int32} {m k : Nat} (h : k < m) : va_cpy f g 0 0 m k = f k := by
  unfold va_cpy
  rw [if_pos (by omega)]
  congr 1
  omega
theorem RC_take {K : Ca} {n : Int32} {f0 f1 f2 f3 f4 f5 f6 g0 g1 g2 g3 g4 g5 g6 : Nat → Int32} (h : RC K n f0 f1 f2 f3 f4 f5 f6) (hm : cm K ≤ 20) : RC K n (va_cpy f0 g0 0 0 20) (va_cpy f1 g1 0 0 20) (va_cpy f2 g2 0 0 20) (va_cpy f3 g3 0 0 20) (va_cpy f4 g4 0 0 20) (va_cpy f5 g5 0 0 20) (va_cpy f6 g6 0 0 20) := by
  refine ⟨h.1, fun c hc => ?_⟩
  rw [cpy_0 (by omega), cpy_0 (by omega), cpy_0 (by omega), cpy_0 (by omega), cpy_0 (by omega), cpy_0 (by omega), cpy_0 (by omega)]
  exact h.2 c hc
theorem X0_takeOver {K : Ca} {n : Int32} {f0 f1 f2 f3 f4 f5 f6 : Nat → Int32} (h : RC K n f0 f1 f2 f3 f4 f5 f6) (hm : cm K ≤ 20) (g0 g1 g2 g3 g4 g5 g6 : Nat → Int32) : ∃ h0 h1 h2 h3 h4 h5 h6, F_X0_takeOver n f0 g0 f1 g1 f2 g2 f3 g3 f4 g4 f5 g5 f6 g6 = some (n, h0, h1, h2, h3, h4, h5, h6) ∧ RC K n h0 h1 h2 h3 h4 h5 h6 :=
  ⟨_, _, _, _, _, _, _, rfl, RC_take h hm⟩
def eK : Ca := (0, fun _ => 0, fun _ => 0, fun _ => 0, fun _ => 0, fun _ => 0, fun _ => 0, fun _ => 0)
theorem X10_bk60 {fu : Nat} {th tp fa pc tr ff hb mk v : Int32} {fr f le r st : Nat → Int32} : ∀ (j kf i : Nat) (nw : Nat → Int32), j < kf → i + j = 142 → (∀ p, p < i → nw p = 0) → ∃ nw', (∀ p, p < 142 → nw' p = 0) ∧
    F_X10_book_b60 fu th tp fa pc tr ff hb mk fr f le r st v kf nw (nI i) = bnd6 (F_X10_next fu v 0 f le) fun u91_0 u91_1 u91_2 u91_3 u91_4 u91_5 => bnd11 (F_X10_readLine fu v u91_0 u91_1 u91_2 u91_3 u91_4 fa pc ff fr u91_5 f nw') fun u95_0 u95_1 u95_2 u95_3 u95_4 u95_5 u95_6 u95_7 u95_8 u95_9 u95_10 => F_X10_book_b98 fu th tp v tr hb mk f r st fu u95_0 u95_1 u95_2 u95_3 u95_4 u95_5 u95_6 u95_7 u95_8 u95_9 u95_10
  | 0, kf, i, nw, hj, hi, h => by
    obtain ⟨g, rfl⟩ : ∃ g, kf = g + 1 := ⟨kf - 1, by omega⟩
    refine ⟨nw, fun p hp => h p (by omega), ?_⟩
    rw [F_X10_book_b60, if_pos (by rw [zl_142, zd_le (by omega) (by omega)]; omega)]
  | j + 1, kf, i, nw, hj, hi, h => by
    obtain ⟨g, rfl⟩ : ∃ g, kf = g + 1 := ⟨kf - 1, by omega⟩
    obtain ⟨nw', h1, h2⟩ := X10_bk60 (fu := fu) (th := th) (tp := tp) (fa := fa) (pc := pc) (tr := tr) (ff := ff) (hb := hb) (mk := mk) (v := v) (fr := fr) (f := f) (le := le) (r := r) (st := st) j g (i + 1) (upd nw i 0) (by omega) (by omega) (fun p hp => by
      rw [z_upd]
      by_cases d : p = i
      · rw [if_pos d]
      · rw [if_neg d]; exact h p (by omega))
    refine ⟨nw', h1, ?_⟩
    rw [F_X10_book_b60, if_neg (by rw [zl_142, zd_le (by omega) (by omega)]; omega), if_neg (nI_in (by omega) (by omega)), zd_cl (by omega), zl_1, zq_add]
    exact h2
theorem X10_bk39 {fu : Nat} {th tp fa pc tr ff hb mk v : Int32} {nw f le r st : Nat → Int32} : ∀ (j kf i : Nat) (fr : Nat → Int32), j < kf → i + j = 70 → (∀ p, p < i → fr p = 0) → ∃ fr', (∀ p, p < 70 → fr' p = 0) ∧
    F_X10_book_b39 fu th tp fa pc tr ff hb mk f le nw r st v kf fr (nI i) = F_X10_book_b60 fu th tp fa pc tr ff hb mk fr' f le r st v fu nw 0
  | 0, kf, i, fr, hj, hi, h => by
    obtain ⟨g, rfl⟩ : ∃ g, kf = g + 1 := ⟨kf - 1, by omega⟩
    refine ⟨fr, fun p hp => h p (by omega), ?_⟩
    rw [F_X10_book_b39, if_pos (by rw [zl_70, zd_le (by omega) (by omega)]; omega)]
  | j + 1, kf, i, fr, hj, hi, h => by
    obtain ⟨g, rfl⟩ : ∃ g, kf = g + 1 := ⟨kf - 1, by omega⟩
    obtain ⟨fr', h1, h2⟩ := X10_bk39 (fu := fu) (th := th) (tp := tp) (fa := fa) (pc := pc) (tr := tr) (ff := ff) (hb := hb) (mk := mk) (v := v) (f := f) (le := le) (nw := nw) (r := r) (st := st) j g (i + 1) (upd fr i 0) (by omega) (by omega) (fun p hp => by
      rw [z_upd]
      by_cases d : p = i
      · rw [if_pos d]
      · rw [if_neg d]; exact h p (by omega))
    refine ⟨fr', h1, ?_⟩
    rw [F_X10_book_b39, if_neg (by rw [zl_70, zd_le (by omega) (by omega)]; omega), if_neg (nI_in (by omega) (by omega)), zd_cl (by omega), zl_1, zq_add]
    exact h2
/-- what book makes of both: refused by 2, by a fault, or a new book -/
theorem XJ_book {fu : Nat} (hfu : 20000 ≤ fu) {tp : Nat} (htp : tp ≤ 900) {f : Nat → Int32} {T : Nat → Nat} (ht : tx f T) (v : Int32) (mk sd lawT flt plc ca ti ac aw len bh fed so pl wh : Int32) (wo : Int64) (rtold rtls rcsh rlat rn : Int32) (cns tn : Nat → Int64) (rf0 rf5 rkinds rf1 rf2 rf3 rf4 rf6 : Nat → Int32) (told tls csh lat n : Int32) (kinds f0 f1 f2 f3 f4 f5 f6 : Nat → Int32)
    (sz at1 en tok wr ns flt2 plc2 ff hb mk2 : Int32) (fr le nw r st : Nat → Int32) (hfed : fed = nI tp) (hkb : KB rkinds) (hmk : mk2 = mk) :
    (∃ sz' at' en' tok' wr' ns' ff' fr' le' nw', F_X9_book fu mk sd lawT flt plc ca ti ac aw len bh fed so pl wh wo rtold rtls rcsh rlat rn f cns rf0 rf5 tn rkinds rf1 rf2 rf3 rf4 rf6 told tls csh lat kinds n f0 f1 f2 f3 f4 f5 f6 v = some (-1, mk, sd, 2, lawT, flt, plc, ca, ti, ac, aw, len, bh, fed, so, pl, wh, wo, rtold, rtls, rcsh, rlat, rn, cns, rf0, rf5, tn, rkinds, rf1, rf2, rf3, rf4, rf6, told, tls, csh, lat, kinds, n, f0, f1, f2, f3, f4, f5, f6) ∧
      F_X10_book fu fed sz at1 en tok wr ns flt2 plc2 ff hb mk2 fr f le nw r st v = some (-1, 0, fed, sz', at', en', tok', wr', ns', flt2, plc2, 2, ff', hb, mk, fr', le', nw', r, st)) ∨
    (∃ c z lawT' ca' ti' ac' aw' len' bh' so' pl' wh' wo' rtold' rtls' rcsh' rlat' rn' cns' rf0' rf5' tn' rkinds' rf1' rf2' rf3' rf4' rf6' sz' at' en' tok' wr' ns' ff' fr' le' nw', KB rkinds' ∧ F_X9_book fu mk sd lawT flt plc ca ti ac aw len bh fed so pl wh wo rtold rtls rcsh rlat rn f cns rf0 rf5 tn rkinds rf1 rf2 rf3 rf4 rf6 told tls csh lat kinds n f0 f1 f2 f3 f4 f5 f6 v = some (-1, mk, sd, 4, lawT', c, z, ca', ti', ac', aw', len', bh', 0, so', pl', wh', wo', rtold', rtls', rcsh', rlat', rn', cns', rf0', rf5', tn', rkinds', rf1', rf2', rf3', rf4', rf6', told, tls, csh, lat, kinds, n, f0, f1, f2, f3, f4, f5, f6) ∧
      F_X10_book fu fed sz at1 en tok wr ns flt2 plc2 ff hb mk2 fr f le nw r st v = some (-1, 0, 0, sz', at', en', tok', wr', ns', c, z, 4, ff', hb, mk, fr', le', nw', r, st)) ∨
    (∃ (late nt nc : Nat) (kd : Nat → Nat) (K : Ca) (z z2 lawT' ca' ti' ac' aw' len' bh' so' pl' wh' : Int32) (wo' : Int64) (rtold' rtls' rcsh' rlat' rn' : Int32) (cns' : Nat → Int64) (rf0' rf5' : Nat → Int32) (tn' : Nat → Int64) (rkinds' rf1' rf2' rf3' rf4' rf6' : Nat → Int32) (kinds' f0' f1' f2' f3' f4' f5' f6' : Nat → Int32) (sz' at' en' tok' wr' ns' ff' : Int32) (fr' le' nw' r' st' : Nat → Int32),
      KB rkinds' ∧ F_X9_book fu mk sd lawT flt plc ca ti ac aw len bh fed so pl wh wo rtold rtls rcsh rlat rn f cns rf0 rf5 tn rkinds rf1 rf2 rf3 rf4 rf6 told tls csh lat kinds n f0 f1 f2 f3 f4 f5 f6 v = some (nI (cm K), 0, 0, 0, lawT', 0, z, ca', ti', ac', aw', len', bh', 0, so', pl', wh', wo', rtold', rtls', rcsh', rlat', rn', cns', rf0', rf5', tn', rkinds', rf1', rf2', rf3', rf4', rf6', 1, nI nt, nI nc, nI late, kinds', nI (cm K), f0', f1', f2', f3', f4', f5', f6') ∧
      F_X10_book fu fed sz at1 en tok wr ns flt2 plc2 ff hb mk2 fr f le nw r st v = some (nI (cm K), 0, 0, sz', at', en', tok', wr', ns', 0, z2, 0, ff', 1, 0, fr', le', nw', r', st') ∧
      (1 ≤ nt ∧ nt ≤ 3) ∧ (1 ≤ nc ∧ nc ≤ 4) ∧ late ≤ 99 ∧ (∀ t, t < 3 → kinds' t = nI (kd t) ∧ kd t < 5) ∧ okC 4 nt kd K ∧ RC K (nI (cm K)) f0' f1' f2' f3' f4' f5' f6' ∧ RK K (ce K) st' ∧ st' 140 = 0 ∧ RLy kd nt late r' ∧ r' 6 = nI nc) := by
  subst hfed
  subst hmk
  unfold F_X9_book F_X10_book F_X10_good F_X9_book_b18 F_X9_refused F_X10_no
  rw [z_b2, z_b2, X10_within, z_b1]
  by_cases hv : v < 0
  · have hx : ¬ (0 ≤ v ∧ v ≤ nI tp) := fun g => nlt_le.mpr g.1 hv
    rw [if_pos hv, if_neg hx, if_pos n0_0]
    exact Or.inl ⟨_, _, _, _, _, _, _, _, _, _, rfl, rfl⟩
  · by_cases hv2 : v ≤ nI tp
    · obtain ⟨m, rfl, hm⟩ := nI_bnd (N := tp) (by omega) (nlt_le.mp hv) hv2
      have hx : (0 : Int32) ≤ nI m ∧ nI m ≤ nI tp := ⟨nlt_le.mp hv, hv2⟩
      rw [if_neg hv, if_pos hv2, if_pos hx, if_neg n1_0]
      obtain ⟨fr0, z1, z2⟩ := X10_bk39 (fu := fu) (th := 0) (tp := 0) (fa := 0) (pc := plc2) (tr := 0) (ff := 0) (hb := hb) (mk := mk2) (v := nI m) (nw := nw) (f := f) (le := le) (r := r) (st := st) 70 fu 0 fr (by omega) (by omega) (fun p hp => by omega)
      obtain ⟨nw0, z3, z4⟩ := X10_bk60 (fu := fu) (th := 0) (tp := 0) (fa := 0) (pc := plc2) (tr := 0) (ff := 0) (hb := hb) (mk := mk2) (v := nI m) (fr := fr0) (f := f) (le := le) (r := r) (st := st) 142 fu 0 nw (by omega) (by omega) (fun p hp => by omega)
      have z2' : F_X10_book_b39 fu 0 0 0 plc2 0 0 hb mk2 f le nw r st (nI m) fu fr 0 = _ := z2
      have z4' : F_X10_book_b60 fu 0 0 0 plc2 0 0 hb mk2 fr0 f le r st (nI m) fu nw 0 = _ := z4
      rw [z2', z4']
      have hm9 : m ≤ 900 := by omega
      obtain ⟨k, p, e, w, bh1, so1, pl1, wh1, wo1, at2, en2, tok2, wr2, ns2, le2, hp0, q1, q2, hT⟩ := next_both hfu hm9 ht (show 0 ≤ m by omega) wh wo le
      have q1' : F_X7_next fu (nI m) 0 wh wo f = _ := q1
      have q2' : F_X10_next fu (nI m) 0 f le = _ := q2
      have hbt : F_X7_beginText fu (nI tp) wh wo f (nI m) = some (nI m, bh1, 0, so1, pl1, wh1, wo1) := by
        unfold F_X7_beginText F_X7_beginText_b17
        have em : (if nI tp < nI m then nI tp else nI m) = nI m := by
          rw [if_neg (by rw [zd_lt (by omega) (by omega)]; omega)]
        rw [if_pos hx.1, em, q1', z_b5]
      have hR : RDS false 0 0 0 (fun t => (rkinds t).toNatClampNeg) (fun _ => 0) eK 0 0 0 0 0 tn cns rkinds rf0 rf1 rf2 rf3 rf4 rf5 rf6 fr0 nw0 := by
        refine ⟨⟨rfl, by rw [z1 1 (by omega)]; rfl⟩, ⟨by omega, rfl, by rw [z1 0 (by omega)]; rfl⟩, ⟨by omega, rfl, by rw [z1 2 (by omega)]; rfl⟩, ⟨by omega, rfl, by rw [z1 6 (by omega)]; rfl⟩, fun t t3 => ?_, fun t tt => by omega, ⟨fun j hj hu => absurd hu (by unfold usd; omega), fun j hj _ => z1 _ (by omega), fun j hj => by omega, fun j hj => by omega, fun i j hi hj hu _ _ => absurd hu (by unfold usd; omega)⟩, ⟨⟨by show (0 : Nat) ≤ 20; omega, fun c hc => absurd hc (by show ¬ c < 0; omega)⟩, ⟨rfl, fun c hc => absurd hc (by show ¬ c < 0; omega)⟩⟩, ⟨⟨by rw [z3 141 (by omega)]; rfl, fun c hc => absurd hc (by show ¬ c < 0; omega)⟩, z3 140 (by omega)⟩⟩
        obtain ⟨x, x5, hx⟩ := hkb t t3
        show rkinds t = nI (rkinds t).toNatClampNeg ∧ (rkinds t).toNatClampNeg < 5
        rw [hx, zd_cl (by omega)]
        exact ⟨rfl, x5⟩
      have hrd : F_X3_read fu ca ti ac aw (nI tp) wh wo f cns rf0 rf5 tn rkinds rf1 rf2 rf3 rf4 rf6 (nI m) = F_X3_read_b39 fu 0 (nI m) 0 f (nI m) fu 0 0 (-1) ca ti ac aw 0 0 0 0 bh1 so1 pl1 wh1 wo1 cns rf0 rf5 tn rkinds rf1 rf2 rf3 rf4 rf6 0 := by
        unfold F_X3_read F_X5_clear F_X0_clear
        rw [z_b4, z_b1, hbt, z_b7]
      have hloop := rd_loop hfu hm9 ht 0 (-1) 0 plc2 0 0 0 0 hb mk2 r st 900 k p e w bh1 so1 pl1 wh1 wo1 at2 en2 tok2 wr2 ns2 le2 false 0 0 0 _ _ eK 0 0 0 0 0 ca ti ac aw tn cns rkinds rf0 rf1 rf2 rf3 rf4 rf5 rf6 fr0 nw0 fu fu 0 (by omega) (by omega) (by omega) (by omega) hT hR
      have h0' : (nI 0 : Int32) = 0 := rfl
      rw [h0'] at hloop
      rw [hrd, q2', z_b6]
      rcases hloop with ⟨late, nt, nc, kd, K, lawT', ca', ti', ac', aw', bh', so', pl', wh', wo', cns', tn', f0', f5', kinds', f1', f2', f3', f4', f6', at3, en3, tok3, wr3, ns3, fr3, le3, nw3, r3, st3, s1, s2, g1, g2, g3, g4, g5, g6, g7, g8, g9, g10⟩ | ⟨c, z, lawT', ca', ti', ac', aw', tls', csh', lat', cn', bh', so', pl', wh', wo', cns', tn', f0', f5', kinds', f1', f2', f3', f4', f6', at3, en3, tok3, wr3, ns3, fr3, le3, nw3, s1, hKB, s2⟩
      · have ht5 : F_X5_takeOver 1 (nI nt) (nI nc) (nI late) kinds' kinds = some (1, nI nt, nI nc, nI late, va_cpy kinds' kinds 0 0 3) := by
          unfold F_X5_takeOver
          rw [if_neg r11]; rfl
        obtain ⟨h0, h1, h2, h3, h4, h5, h6, t1, t2⟩ := X0_takeOver g6 g5.1 f0 f1 f2 f3 f4 f5 f6
        have hm20 := g5.1
        rw [s1, s2, z_b30, if_neg i1_0, ht5, z_b5, t1, z_b8, X9_answeredN (by omega), z_b2]
        refine Or.inr (Or.inr ⟨late, nt, nc, kd, K, _, _, _, _, _, _, _, _, _, _, _, _, _, _, _, _, _, _, _, _, _, _, _, _, _, _, _, _, va_cpy kinds' kinds 0 0 3, h0, h1, h2, h3, h4, h5, h6, _, _, _, _, _, _, _, _, _, _, r3, st3, fun t t3 => ⟨kd t, (g4 t t3).2, (g4 t t3).1⟩, rfl, rfl, g1, g2, g3, fun t t3 => ⟨by rw [cpy_0 t3]; exact (g4 t t3).1, (g4 t t3).2⟩, g5, t2, g7, g8, g9, g10⟩)
      · rw [s1, s2, z_b30, if_pos i0_0, z_b2]
        exact Or.inr (Or.inl ⟨c, z, _, _, _, _, _, _, _, _, _, _, _, _, _, _, _, _, _, _, _, _, _, _, _, _, _, _, _, _, _, _, _, _, _, _, _, _, hKB, rfl, rfl⟩)
    · have hx : ¬ (0 ≤ v ∧ v ≤ nI tp) := fun g => hv2 g.2
      rw [if_neg hv, if_neg hv2, if_neg hx, if_pos n0_0]
      exact Or.inl ⟨_, _, _, _, _, _, _, _, _, _, rfl, rfl⟩
end
