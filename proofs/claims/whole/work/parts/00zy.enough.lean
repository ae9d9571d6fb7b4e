/-! enough: how much later is late enough -/
theorem nstn_eq {y y' : Sy} (hx : ∀ k D, nx y k D = nx y' k D) (h1 : ystr y = ystr y') (h2 : ytil y = ytil y') (h3 : yact y = yact y') (h4 : ywhl y = ywhl y') (h5 : yans y = yans y') (h6 : ykd y = ykd y') : nst y = nst y' := by
  funext k x
  unfold nst otr go say
  rw [hx k x.1, h1, h2, h3, h4, h5, h6]
theorem pkn_eq {y y' : Sy} (h : nst y = nst y') (x : St) : ∀ n G, pk y x n G = pk y' x n G
  | 0, G => rfl
  | n + 1, G => by
    unfold pk
    rw [pkn_eq h x n G, h]
theorem bfn_eq {y y' : Sy} (h : nst y = nst y') : ∀ f s G, bf y f s G = bf y' f s G
  | 0, s, G => rfl
  | f + 1, s, G => by
    unfold bf
    rw [pkn_eq h]
    simp only [bfn_eq h f]
theorem pwkn_eq {y y' : Sy} (h : nst y = nst y') (f : St → Nat) (x : St) : ∀ n, pwk y f x n = pwk y' f x n
  | 0 => rfl
  | n + 1 => by
    unfold pwk
    rw [pwkn_eq h f x n, h]
theorem pwn_eq {y y' : Sy} (h : nst y = nst y') (e : St → Bool) : ∀ n, pw y e n = pw y' e n
  | 0 => rfl
  | n + 1 => by
    funext x
    unfold pw
    rw [pwn_eq h e n, pwkn_eq h]
theorem sysn_eq {y y' : Sy} (h : nst y = nst y') (hi : ini y = ini y') (hw : whole y = whole y') : full y = full y' ∧ PW y (whole y) (ini y) = PW y' (whole y') (ini y') := by
  constructor
  · unfold full gr
    rw [bfn_eq h, hi]
  · unfold PW
    rw [pwn_eq h, hi, hw]
theorem nxn_eq {y y' : Sy} (h0 : ym y = ym y') (h1 : yinn y = yinn y') (h2 : ycsh y = ycsh y') (h3 : ∀ a c, a < ym y → c < ym y → yblk y a c = yblk y' a c) (k D : Nat) : nx y k D = nx y' k D := by
  apply Option.ext
  intro c
  rw [nx_some, nx_some, ← h0, ← h1, ← h2]
  constructor
  · rintro ⟨g1, g2, g3, g4, g5, g6⟩
    exact ⟨g1, g2, g3, g4, g5, fun a ha hi hb => g6 a ha hi (by rw [h3 a c ha g1]; exact hb)⟩
  · rintro ⟨g1, g2, g3, g4, g5, g6⟩
    exact ⟨g1, g2, g3, g4, g5, fun a ha hi hb => g6 a ha hi (by rw [← h3 a c ha g1]; exact hb)⟩
theorem Ye_eq {K : Ca} {kd : Nat → Nat} {nt i : Nat} (h : ∀ a c, a < cm K → c < cm K → enb K a = true → (cb K c : Int) - (ce K a).toInt ≠ ((i + 1 : Nat) : Int)) :
    full (Yk K kd nt (i + 1) 2) = full (Yk K kd nt i 2) ∧ PW (Yk K kd nt (i + 1) 2) (whole (Yk K kd nt (i + 1) 2)) (ini (Yk K kd nt (i + 1) 2)) = PW (Yk K kd nt i 2) (whole (Yk K kd nt i 2)) (ini (Yk K kd nt i 2)) := by
  refine sysn_eq (nstn_eq (nxn_eq rfl rfl rfl (fun a c ha hc => ?_)) rfl rfl rfl rfl rfl rfl) rfl rfl
  show gapped K (enb K) ((i + 1 : Nat) : Int) a c = gapped K (enb K) (i : Int) a c
  unfold gapped
  by_cases e : enb K a = true
  · have := h a c ha hc e
    rw [e]
    congr 1
    apply decide_eq_decide.mpr
    omega
  · have e' : enb K a = false := by simpa using e
    rw [e']; rfl
theorem X1_fr12 {fu : Nat} {K : Ca} {kd : Nat → Nat} {nt : Nat} (hK : okC 4 nt kd K) {f4 f5 : Nat → Int32} (h4 : ∀ c, c < cm K → f4 c = nI (cb K c)) (h5 : ∀ c, c < cm K → f5 c = ce K c) {v a : Nat} (ha : a < cm K) (k2 : Int32 → Option Int32) :
    ∀ (j kf c : Nat), j < kf → c + j = cm K → F_X1_frees_b12 k2 fu (nI (cm K)) f5 f4 (nI v) (nI a) kf (nI c) = some (nI 1) ∨ (F_X1_frees_b12 k2 fu (nI (cm K)) f5 f4 (nI v) (nI a) kf (nI c) = k2 (nI (a + 1)) ∧ ∀ c', c ≤ c' → c' < cm K → enb K a = true → (cb K c' : Int) - (ce K a).toInt ≠ (v : Int))
  | 0, kf, c, hj, hc => by
    obtain ⟨g, rfl⟩ : ∃ g, kf = g + 1 := ⟨kf - 1, by omega⟩
    have hm := hK.1
    right
    rw [F_X1_frees_b12, if_pos (by rw [zd_le (by omega) (by omega)]; omega), zl_1, zq_add]
    exact ⟨rfl, fun c' h1 h2 => by omega⟩
  | j + 1, kf, c, hj, hc => by
    obtain ⟨g, rfl⟩ : ∃ g, kf = g + 1 := ⟨kf - 1, by omega⟩
    have hm := hK.1
    have ih := X1_fr12 (fu := fu) hK h4 h5 (v := v) ha k2 j g (c + 1) (by omega) (by omega)
    have i1 : nI c + (1 : Int32) = nI (c + 1) := by rw [zl_1, zq_add]
    rw [F_X1_frees_b12, if_neg (by rw [zd_le (by omega) (by omega)]; omega), X0_isOpen (by omega), z_b1, h5 a ha]
    unfold F_X1_frees_b45
    rw [i1]
    by_cases d : ce K a = -2
    · rw [if_pos d, if_neg n1_0]
      rcases ih with ih | ⟨ih, h⟩
      · left; exact ih
      · right
        refine ⟨ih, fun c' h1 h2 he => absurd d ((enb_iff ha).mp he)⟩
    · rw [if_neg d, if_pos n0_0, X0_beginOf (by omega), z_b1, X0_endOf (by omega), z_b1, h4 c (by omega), h5 a ha]
      by_cases q : nI (cb K c) - ce K a = nI v
      · rw [if_pos q]
        left; rfl
      · rw [if_neg q]
        rcases ih with ih | ⟨ih, h⟩
        · left; exact ih
        · right
          refine ⟨ih, fun c' h1 h2 he => ?_⟩
          by_cases f : c' = c
          · subst f
            intro hh
            apply q
            obtain ⟨e, he1, he2, he3⟩ : ∃ e, ce K a = nI e ∧ cb K a ≤ e ∧ e ≤ 999 := by
              rcases (hK.2 a ha).2.2.2.2.2.1 with h | h
              · exact absurd h d
              · exact h
            rw [he1, nI_toInt (by omega)] at hh
            rw [he1, zq_sub (by omega)]
            congr 1
            omega
          · exact h c' (by omega) h2 he
theorem X1_fr2 {fu : Nat} (hfu : 20000 ≤ fu) {K : Ca} {kd : Nat → Nat} {nt : Nat} (hK : okC 4 nt kd K) {f4 f5 : Nat → Int32} (h4 : ∀ c, c < cm K → f4 c = nI (cb K c)) (h5 : ∀ c, c < cm K → f5 c = ce K c) {v : Nat} :
    ∀ (j kf a : Nat), j < kf → a + j = cm K → F_X1_frees_b2 fu (nI (cm K)) f5 f4 (nI v) kf (nI a) = some (nI 1) ∨ (F_X1_frees_b2 fu (nI (cm K)) f5 f4 (nI v) kf (nI a) = some (nI 0) ∧ ∀ a' c', a ≤ a' → a' < cm K → c' < cm K → enb K a' = true → (cb K c' : Int) - (ce K a').toInt ≠ (v : Int))
  | 0, kf, a, hj, ha => by
    obtain ⟨g, rfl⟩ : ∃ g, kf = g + 1 := ⟨kf - 1, by omega⟩
    have hm := hK.1
    right
    rw [F_X1_frees_b2, if_pos (by rw [zd_le (by omega) (by omega)]; omega)]
    exact ⟨rfl, fun a' c' h1 h2 => by omega⟩
  | j + 1, kf, a, hj, ha => by
    obtain ⟨g, rfl⟩ : ∃ g, kf = g + 1 := ⟨kf - 1, by omega⟩
    have hm := hK.1
    have ih := X1_fr2 hfu hK h4 h5 (v := v) j g (a + 1) (by omega) (by omega)
    rw [F_X1_frees_b2, if_neg (by rw [zd_le (by omega) (by omega)]; omega)]
    have h0 := X1_fr12 (fu := fu) hK h4 h5 (v := v) (a := a) (by omega) (F_X1_frees_b2 fu (nI (cm K)) f5 f4 (nI v) g) (cm K) fu 0 (by omega) (by omega)
    have hz : (0 : Int32) = nI 0 := rfl
    rw [hz]
    rcases h0 with h0 | ⟨h0, h1⟩
    · left; exact h0
    · rw [h0]
      rcases ih with ih | ⟨ih, h⟩
      · left; exact ih
      · right
        refine ⟨ih, fun a' c' g1 g2 g3 he => ?_⟩
        by_cases f : a' = a
        · subst f; exact h1 c' (by omega) g3 he
        · exact h a' c' (by omega) g2 g3 he
def enl (K : Ca) (kd : Nat → Nat) (nt : Nat) : Nat → Nat → Int32 × Int32
  | 0, _ => (-2, nI 0)
  | f + 1, i => if full (Yk K kd nt i 2) = true then (-1, nI 3) else if PW (Yk K kd nt i 2) (whole (Yk K kd nt i 2)) (ini (Yk K kd nt i 2)) = 0 then enl K kd nt f (i + 1) else (nI i, nI 0)
theorem enl_s {K : Ca} {kd : Nat → Nat} {nt f i : Nat} : enl K kd nt (f + 1) i = (if full (Yk K kd nt i 2) = true then (-1, nI 3) else if PW (Yk K kd nt i 2) (whole (Yk K kd nt i 2)) (ini (Yk K kd nt i 2)) = 0 then enl K kd nt f (i + 1) else (nI i, nI 0)) := by
  conv => lhs; unfold enl
def rs_enough (K : Ca) (kd : Nat → Nat) (nt : Nat) (told : Bool) : Int32 × Int32 := if told = true then enl K kd nt 100 0 else (-1, nI 1)
theorem X1_fe10 {fu : Nat} (hfu : 20000 ≤ fu) {K : Ca} {kd : Nat → Nat} {nt late : Nat} {n l : Int32} {f0 f1 f2 f3 f4 f5 f6 kinds : Nat → Int32} (h : CS K kd nt late n f0 f1 f2 f3 f4 f5 f6 kinds l) (a1 : Nat) :
    ∀ (f kf i sc b : Nat) (cnt : Int32) (own ahd tab done tills leads : Nat → Int32) (ways : Nat → Int64), f < kf → i + f = 100 → TB b tab →
    (0 < i → full (Yk K kd nt (i - 1) 2) = false ∧ PW (Yk K kd nt (i - 1) 2) (whole (Yk K kd nt (i - 1) 2)) (ini (Yk K kd nt (i - 1) 2)) = 0) →
    ∃ r own' ahd' sc' b' cnt' tab' done' tills' leads' ways', F_X1_findEnough_b10 fu a1 n f5 (nI (msk (alb K) (cm K))) (nI (msk (enb K) (cm K))) (nI (msk (enb K) (cm K))) (nI (msk (enb K) (cm K))) f4 f0 kinds f1 f2 f3 f6 kf sc own ahd (nI b) cnt tab done tills leads ways (nI i) =
      some (r, nI (msk (alb K) (cm K)), nI (msk (enb K) (cm K)), nI (msk (enb K) (cm K)), nI (msk (enb K) (cm K)), own', ahd', sc', nI b', cnt', tab', done', tills', leads', ways') ∧ TB b' tab' ∧ F_X9_answered r = some ((enl K kd nt f i).1, (enl K kd nt f i).2)
  | 0, kf, i, sc, b, cnt, own, ahd, tab, done, tills, leads, ways, hf, hi, hT, hp => by
    obtain ⟨g, rfl⟩ : ∃ g, kf = g + 1 := ⟨kf - 1, by omega⟩
    rw [F_X1_findEnough_b10, if_pos (by rw [zl_99, zd_lt (by omega) (by omega)]; omega)]
    exact ⟨_, _, _, _, _, _, _, _, _, _, _, rfl, hT, X9_answered (by decide) (by decide)⟩
  | f + 1, kf, i, sc, b, cnt, own, ahd, tab, done, tills, leads, ways, hf, hi, hT, hp => by
    obtain ⟨g, rfl⟩ : ∃ g, kf = g + 1 := ⟨kf - 1, by omega⟩
    have hm := h.2.1.1
    have i1 : nI i + (1 : Int32) = nI (i + 1) := by rw [zl_1, zq_add]
    have ih := fun sc b cnt own ahd tab done tills leads ways hT hp => X1_fe10 hfu h a1 f g (i + 1) sc b cnt own ahd tab done tills leads ways (by omega) (by omega) hT hp
    have g2 : (nI i).toInt = ((gapk 2 i : Nat) : Int) := by rw [nI_toInt (by omega)]; rfl
    have g3 : 0 ≤ (nI i).toInt := by rw [nI_toInt (by omega)]; omega
    have b28 : ∃ r own' ahd' sc' b' cnt' tab' done' tills' leads' ways', F_X1_findEnough_b28 (F_X1_findEnough_b10 fu a1 n f5 (nI (msk (alb K) (cm K))) (nI (msk (enb K) (cm K))) (nI (msk (enb K) (cm K))) (nI (msk (enb K) (cm K))) f4 f0 kinds f1 f2 f3 f6 g) fu a1 n f5 (nI (msk (alb K) (cm K))) (nI (msk (enb K) (cm K))) (nI (msk (enb K) (cm K))) (nI (msk (enb K) (cm K))) f4 own f0 ahd (nI b) tab done tills kinds f1 f2 f3 f6 leads ways (nI i) =
        some (r, nI (msk (alb K) (cm K)), nI (msk (enb K) (cm K)), nI (msk (enb K) (cm K)), nI (msk (enb K) (cm K)), own', ahd', sc', nI b', cnt', tab', done', tills', leads', ways') ∧ TB b' tab' ∧ F_X9_answered r = some ((enl K kd nt (f + 1) i).1, (enl K kd nt (f + 1) i).2) := by
      obtain ⟨own', ahd', b', cnt', tab', done', tills', leads', ways', e1, hT'⟩ := X1_countWays (str := enb K) (gap := nI i) (own := own) (ahd := ahd) (done := done) (tills := tills) (leads := leads) (ways := ways) hfu h g3 (okI_k K) hT
      rw [g2] at e1
      have hY : sysK K kd nt (alb K) (enb K) (enb K) (enb K) (gapk 2 i : Nat) = Yk K kd nt i 2 := rfl
      rw [hY] at e1
      unfold F_X1_findEnough_b28 F_X1_findEnough_b54
      rw [e1, z_b10, enl_s]
      by_cases cf : full (Yk K kd nt i 2) = true
      · rw [if_pos cf, if_pos cf, if_neg (by decide), if_neg (by decide)]
        exact ⟨_, _, _, _, _, _, _, _, _, _, _, rfl, hT', X9_answered10⟩
      · have hle := PW_le (y := Yk K kd nt i 2) (e := whole (Yk K kd nt i 2)) (x := ini (Yk K kd nt i 2))
        rw [if_neg cf, if_neg cf]
        by_cases cp : PW (Yk K kd nt i 2) (whole (Yk K kd nt i 2)) (ini (Yk K kd nt i 2)) = 0
        · rw [if_pos ((lc_le hle).2.mpr cp), if_pos cp, i1]
          exact ih _ _ _ _ _ _ _ _ _ _ hT' (fun _ => ⟨by simpa using cf, cp⟩)
        · rw [if_neg (fun h => cp ((lc_le hle).2.mp h)), if_pos (lc_pos hle).2, if_neg cp]
          exact ⟨_, _, _, _, _, _, _, _, _, _, _, rfl, hT', X9_answeredN (by omega)⟩
    rw [F_X1_findEnough_b10, if_neg (by rw [zl_99, zd_lt (by omega) (by omega)]; omega)]
    by_cases ci : i = 0
    · rw [if_pos (by rw [ci]; rfl)]
      exact b28
    · rw [if_neg (by rw [zl_0, zd_eq (by omega) (by omega)]; exact ci)]
      have hfr : F_X1_frees fu n f5 f4 (nI i) = some (nI 1) ∨ (F_X1_frees fu n f5 f4 (nI i) = some (nI 0) ∧ ∀ a' c', 0 ≤ a' → a' < cm K → c' < cm K → enb K a' = true → (cb K c' : Int) - (ce K a').toInt ≠ (i : Int)) := by
        rw [h.1.1]
        exact X1_fr2 hfu h.2.1 (fun c hc => (h.1.2 c hc).2.2.2.2.1) (fun c hc => (h.1.2 c hc).2.2.2.2.2.1) (v := i) (cm K) fu 0 (by omega) (by omega)
      rcases hfr with e | ⟨e, hne⟩
      · rw [e, z_b1, if_neg n1_0]
        exact b28
      · obtain ⟨j, rfl⟩ : ∃ j, i = j + 1 := ⟨i - 1, by omega⟩
        obtain ⟨q1, q2⟩ := Ye_eq (K := K) (kd := kd) (nt := nt) (i := j) (fun a c ha hc he => hne a c (by omega) ha hc he)
        obtain ⟨p1, p2⟩ := hp (by omega)
        rw [Nat.add_sub_cancel] at p1 p2
        rw [← q1] at p1
        rw [← q2] at p2
        have hen : enl K kd nt (f + 1) (j + 1) = enl K kd nt f (j + 1 + 1) := by rw [enl_s, if_neg (by rw [p1]; simp), if_pos p2]
        rw [e, z_b1, if_pos n0_0, hen]
        unfold F_X1_findEnough_b54
        rw [i1]
        exact ih _ _ _ _ _ _ _ _ _ _ hT (fun _ => ⟨p1, p2⟩)
theorem X9_enough {fu : Nat} (hfu : 20000 ≤ fu) {K : Ca} {kd : Nat → Nat} {nt late : Nat} {n l : Int32} {f0 f1 f2 f3 f4 f5 f6 kinds : Nat → Int32} (h : CS K kd nt late n f0 f1 f2 f3 f4 f5 f6 kinds l) (told : Bool) (a1 sc : Nat)
    {b : Nat} {r1 r2 r3 r4 cnt : Int32} {own ahd tab done tills leads : Nat → Int32} {ways : Nat → Int64} (hT : TB b tab) :
    ∃ r1' r2' r3' r4' own' ahd' sc' b' cnt' tab' done' tills' leads' ways', F_X9_enough fu a1 sc (nI (if told = true then 1 else 0)) n f5 r1 r2 r3 r4 f4 own f0 ahd (nI b) cnt tab done tills kinds f1 f2 f3 f6 leads ways =
      some ((rs_enough K kd nt told).1, (rs_enough K kd nt told).2, r1', r2', r3', r4', own', ahd', sc', nI b', cnt', tab', done', tills', leads', ways') ∧ TB b' tab' := by
  have hm := h.2.1.1
  unfold F_X9_enough
  rcases told
  · have hrs : rs_enough K kd nt false = (-1, nI 1) := rfl
    rw [if_pos (show nI (if false = true then 1 else 0) = 0 from rfl), hrs]
    exact ⟨r1, r2, r3, r4, own, ahd, sc, b, cnt, tab, done, tills, leads, ways, rfl, hT⟩
  · have hrs : rs_enough K kd nt true = enl K kd nt 100 0 := rfl
    rw [if_neg (show ¬ nI (if true = true then 1 else 0) = 0 by decide), hrs]
    unfold F_X1_findEnough
    obtain ⟨r, own', ahd', sc', b', cnt', tab', done', tills', leads', ways', e1, hT', e2⟩ := X1_fe10 hfu h a1 100 fu 0 sc b cnt own ahd tab done tills leads ways (by omega) (by omega) hT (fun h => absurd h (by omega))
    have e1' : F_X1_findEnough_b10 fu a1 n f5 (nI (msk (alb K) (cm K))) (nI (msk (enb K) (cm K))) (nI (msk (enb K) (cm K))) (nI (msk (enb K) (cm K))) f4 f0 kinds f1 f2 f3 f6 fu sc own ahd (nI b) cnt tab done tills leads ways 0 = _ := e1
    rw [takeAll hfu h, z_b4, e1', z_b15, e2, z_b2]
    exact ⟨_, _, _, _, _, _, _, _, _, _, _, _, _, _, rfl, hT'⟩
