/-! in how many ways an end is reached; ends by a test e -/
def MW : Nat := 1000000000000000000
theorem MW_eq : MW = 1000000000000000000 := rfl
def pwk (y : Sy) (f : St → Nat) (x : St) : Nat → Nat
  | 0 => 0
  | k + 1 => pwk y f x k + (match nst y k x with | none => 0 | some z => f z)
def pw (y : Sy) (e : St → Bool) : Nat → St → Nat
  | 0, _ => 0
  | n + 1, x => min MW ((if e x = true then 1 else 0) + pwk y (pw y e n) x 4)
theorem pw_le (y : Sy) (e : St → Bool) : ∀ n x, pw y e n x ≤ MW
  | 0, _ => Nat.zero_le _
  | n + 1, x => Nat.min_le_left _ _
theorem pwk_cong {y : Sy} {f g : St → Nat} {x : St} (h : ∀ k z, k < 4 → nst y k x = some z → f z = g z) : ∀ k, k ≤ 4 → pwk y f x k = pwk y g x k
  | 0, _ => rfl
  | k + 1, hk => by
    unfold pwk
    rw [pwk_cong h k (by omega)]
    rcases e : nst y k x with _ | z
    · rfl
    · simp only [h k z (by omega) e]
theorem lv_le {y : Sy} (hw : WF y) (x : St) : lv y x ≤ 20 := Nat.le_trans (fb_ct_le _ _) hw.1
theorem pw_stable {y : Sy} (hw : WF y) (e : St → Bool) : ∀ (d n m : Nat) (x : St), okS y x → 20 - lv y x ≤ d → d < n → d < m → pw y e n x = pw y e m x
  | 0, n, m, x, hx, hd, hn, hm => by
    obtain ⟨n, rfl⟩ : ∃ q, n = q + 1 := ⟨n - 1, by omega⟩
    obtain ⟨m, rfl⟩ : ∃ q, m = q + 1 := ⟨m - 1, by omega⟩
    unfold pw
    rw [pwk_cong (fun k z hk hz => ?_) 4 (Nat.le_refl _)]
    have := (nst_okS hw hx hz).2
    have := lv_le hw z
    omega
  | d + 1, n, m, x, hx, hd, hn, hm => by
    obtain ⟨n, rfl⟩ : ∃ q, n = q + 1 := ⟨n - 1, by omega⟩
    obtain ⟨m, rfl⟩ : ∃ q, m = q + 1 := ⟨m - 1, by omega⟩
    unfold pw
    rw [pwk_cong (fun k z hk hz => ?_) 4 (Nat.le_refl _)]
    have h := nst_okS hw hx hz
    exact pw_stable hw e d n m z h.1 (by omega) (by omega) (by omega)
/-- the number of ways from a stand on -/
def PW (y : Sy) (e : St → Bool) (x : St) : Nat := pw y e 21 x
theorem PW_eq {y : Sy} (hw : WF y) (e : St → Bool) {x : St} (hx : okS y x) : PW y e x = min MW ((if e x = true then 1 else 0) + pwk y (PW y e) x 4) := by
  have h : PW y e x = pw y e 22 x := pw_stable hw e 20 21 22 x hx (by omega) (by omega) (by omega)
  rw [h]
  rfl
theorem PW_le {y : Sy} {e : St → Bool} {x : St} : PW y e x ≤ MW := pw_le y e 21 x
theorem pwk_pos {y : Sy} {f : St → Nat} {x : St} : ∀ k, 0 < pwk y f x k ↔ ∃ j z, j < k ∧ nst y j x = some z ∧ 0 < f z
  | 0 => by simp [pwk]
  | k + 1 => by
    unfold pwk
    rw [Nat.add_pos_iff_pos_or_pos, pwk_pos k]
    constructor
    · rintro (⟨j, z, h1, h2, h3⟩ | h)
      · exact ⟨j, z, by omega, h2, h3⟩
      · rcases e : nst y k x with _ | z
        · rw [e] at h; exact absurd h (Nat.lt_irrefl _)
        · rw [e] at h; exact ⟨k, z, by omega, e, h⟩
    · rintro ⟨j, z, h1, h2, h3⟩
      by_cases c : j = k
      · subst c; right; rw [h2]; exact h3
      · left; exact ⟨j, z, by omega, h2, h3⟩
/-- an end, by e, is reached -/
def cne (y : Sy) (e : St → Bool) : Nat → St → Prop
  | 0, x => e x = true
  | n + 1, x => e x = true ∨ ∃ k z, k < 4 ∧ nst y k x = some z ∧ cne y e n z
def CEe (y : Sy) (e : St → Bool) (x : St) : Prop := ∃ n, cne y e n x
theorem CEe_iff {y : Sy} {e : St → Bool} {x : St} : CEe y e x ↔ (e x = true ∨ ∃ k z, k < 4 ∧ nst y k x = some z ∧ CEe y e z) := by
  constructor
  · rintro ⟨n, h⟩
    cases n with
    | zero => exact Or.inl h
    | succ n =>
      rcases h with h | ⟨k, z, h1, h2, h3⟩
      · exact Or.inl h
      · exact Or.inr ⟨k, z, h1, h2, n, h3⟩
  · rintro (h | ⟨k, z, h1, h2, n, h3⟩)
    · exact ⟨0, h⟩
    · exact ⟨n + 1, Or.inr ⟨k, z, h1, h2, h3⟩⟩
theorem CE_CEe {y : Sy} {x : St} : CE y x ↔ CEe y (whole y) x := by
  have h : ∀ n x, cen y n x ↔ cne y (whole y) n x := by
    intro n
    induction n with
    | zero => intro x; exact Iff.rfl
    | succ n ih =>
      intro x
      unfold cen cne
      constructor
      · rintro (h | ⟨k, z, h1, h2, h3⟩)
        · exact Or.inl h
        · exact Or.inr ⟨k, z, h1, h2, (ih z).mp h3⟩
      · rintro (h | ⟨k, z, h1, h2, h3⟩)
        · exact Or.inl h
        · exact Or.inr ⟨k, z, h1, h2, (ih z).mpr h3⟩
  exact exists_congr (fun n => h n x)
theorem PW_pos {y : Sy} (hw : WF y) (e : St → Bool) : ∀ (d : Nat) (x : St), okS y x → 20 - lv y x ≤ d → (0 < PW y e x ↔ CEe y e x)
  | 0, x, hx, hd => by
    rw [PW_eq hw e hx, CEe_iff]
    have hn : ∀ k z, nst y k x = some z → False := by
      intro k z hz
      have := (nst_okS hw hx hz).2
      have := lv_le hw z
      omega
    have h0 : pwk y (PW y e) x 4 = 0 := by
      rcases Nat.eq_zero_or_pos (pwk y (PW y e) x 4) with g | g
      · exact g
      · obtain ⟨j, z, _, h, _⟩ := (pwk_pos 4).mp g
        exact (hn j z h).elim
    rw [h0, Nat.add_zero, MW_eq]
    by_cases c : e x = true
    · rw [if_pos c]; exact ⟨fun _ => Or.inl c, fun _ => by omega⟩
    · rw [if_neg c]
      constructor
      · intro h; omega
      · rintro (h | ⟨k, z, _, h, _⟩)
        · exact absurd h c
        · exact (hn k z h).elim
  | d + 1, x, hx, hd => by
    rw [PW_eq hw e hx, CEe_iff, MW_eq]
    have key : 0 < pwk y (PW y e) x 4 ↔ ∃ k z, k < 4 ∧ nst y k x = some z ∧ CEe y e z := by
      rw [pwk_pos]
      constructor
      · rintro ⟨j, z, h1, h2, h3⟩
        have h := nst_okS hw hx h2
        exact ⟨j, z, h1, h2, (PW_pos hw e d z h.1 (by omega)).mp h3⟩
      · rintro ⟨j, z, h1, h2, h3⟩
        have h := nst_okS hw hx h2
        exact ⟨j, z, h1, h2, (PW_pos hw e d z h.1 (by omega)).mpr h3⟩
    by_cases c : e x = true
    · rw [if_pos c]; exact ⟨fun _ => Or.inl c, fun _ => by omega⟩
    · rw [if_neg c]
      constructor
      · intro h; exact Or.inr (key.mp (by omega))
      · rintro (h | h)
        · exact absurd h c
        · have := key.mpr h; omega
theorem PW_CE {y : Sy} (hw : WF y) {x : St} (hx : okS y x) : 0 < PW y (whole y) x ↔ CE y x := (PW_pos hw _ 20 x hx (by omega)).trans CE_CEe.symm
/-! the class's countWays -/
def NC (y : Sy) (G : Gr) (leads : Nat → Int32) : Prop := ∀ i k, i < G.1 → k < 4 → leads (i * 4 + k) = cd G (nst y k (G.2 i))
def vl (y : Sy) (f : St → Nat) (x : St) (k : Nat) : Nat := match nst y k x with | none => 0 | some z => f z
def sumv (y : Sy) (f : St → Nat) (x : St) : Nat → Nat → Nat
  | 0, _ => 0
  | j + 1, k => vl y f x k + sumv y f x j (k + 1)
theorem sumv_pwk (y : Sy) (f : St → Nat) (x : St) : sumv y f x 4 0 = pwk y f x 4 := by
  show vl y f x 0 + (vl y f x 1 + (vl y f x 2 + (vl y f x 3 + 0))) = (((0 + vl y f x 0) + vl y f x 1) + vl y f x 2) + vl y f x 3
  omega
abbrev RW2 := Option (Int64 × (Nat → Int64))
theorem lN_if {a : Nat} (h : a < 9000000000000000000) : (if (1000000000000000000 : Int64) < lN a then (1000000000000000000 : Int64) else lN a) = lN (min MW a) := by
  rw [zL_1000000000000000000]
  have q := zL_lt (a := 1000000000000000000) (b := a) (by omega) (by omega)
  by_cases g : 1000000000000000000 < a
  · rw [if_pos (by rw [q]; exact g), Nat.min_eq_left (by rw [MW_eq]; omega)]; rfl
  · rw [if_neg (by rw [q]; exact g), Nat.min_eq_right (by rw [MW_eq]; omega)]
theorem X6_cw33 {fu : Nat} {y : Sy} {G : Gr} (hG : GO y G) (k7 : (Nat → Int64) → Int32 → RW2) {ways : Nat → Int64} {done leads : Nat → Int32} {must : Int32} {f : St → Nat} {s : Nat} (hs : s < G.1) (hn : NC y G leads)
    (hf : ∀ z, f z ≤ MW) (hv : ∀ i, s < i → i < G.1 → ways i = lN (f (G.2 i))) : ∀ (j kf k acc : Nat), j < kf → k + j = 4 → acc ≤ 1 + k * MW →
    F_X6_countWays_b33 k7 fu (nI G.1) ways done leads must (nI s) kf (lN acc) (nI k) = k7 (vp_updL ways s (lN (min MW (acc + sumv y f (G.2 s) j k)))) (nI s - nI 1)
  | 0, kf, k, acc, hj, hk, ha => by
    obtain ⟨g, rfl⟩ : ∃ g, kf = g + 1 := ⟨kf - 1, by omega⟩
    have : k = 4 := by omega
    subst this
    have h6 := hG.2.1
    rw [MW_eq] at ha
    rw [F_X6_countWays_b33, if_pos (by decide), if_neg (nI_in (by omega) (by omega)), zd_cl (by omega), lN_if (by omega), zpm]
    unfold sumv
    rw [Nat.add_zero]
  | j + 1, kf, k, acc, hj, hk, ha => by
    obtain ⟨g, rfl⟩ : ∃ g, kf = g + 1 := ⟨kf - 1, by omega⟩
    have h6 := hG.2.1
    have ih := fun acc ha => X6_cw33 (fu := fu) hG k7 (done := done) (must := must) hs hn hf hv j g (k + 1) acc (by omega) (by omega) ha
    have i4 : nI s * (4 : Int32) + nI k = nI (s * 4 + k) := by rw [zl_4, zq_mul, zq_add]
    have i1 : nI k + (1 : Int32) = nI (k + 1) := by rw [zl_1, zq_add]
    rw [F_X6_countWays_b33, if_neg (by rw [zl_4, zd_le (by omega) (by omega)]; omega)]
    unfold F_X6_countWays_b78 F_X6_countWays_b79
    rw [i4, i1, if_neg (nI_in (by omega) (by omega)), zd_cl (by omega), hn s k hs (by omega)]
    rcases e : nst y k (G.2 s) with _ | z
    · have hc : cd G none = -1 := rfl
      rw [hc, if_pos (show (-1 : Int32) ≤ nI s by rw [show (-1 : Int32) = -nI 1 from rfl, zm_le (by omega) (by omega) (by omega)]; trivial)]
      have hvl : vl y f (G.2 s) k = 0 := by unfold vl; rw [e]
      have := ih acc (by rw [Nat.add_mul]; omega)
      rw [show lN acc + (0 : Int64) = lN acc by rw [zL_0, zL_add]; rfl, this]
      congr 4
      show _ = acc + (vl y f (G.2 s) k + sumv y f (G.2 s) j (k + 1))
      omega
    · have hc : cd G (some z) = nI (fnd G z) := rfl
      obtain ⟨f1, f2⟩ := hG.2.2.2.2.2.1 s k z hs (by omega) e
      have hw := hv _ f2 f1
      rw [fnd_lt f1] at hw
      have hz := hf z
      rw [hc, if_neg (by rw [zd_le (by omega) (by omega)]; omega), if_neg (by rw [zd_le (by omega) (by omega)]; omega), if_neg (nI_in (by omega) (by omega)), zd_cl (by omega), hw, zL_add]
      have hvl : vl y f (G.2 s) k = f z := by unfold vl; rw [e]
      rw [ih (acc + f z) (by rw [Nat.add_mul]; omega)]
      congr 4
      show _ = acc + (vl y f (G.2 s) k + sumv y f (G.2 s) j (k + 1))
      omega
theorem X6_cw7 {fu : Nat} (hfu : 20000 ≤ fu) {y : Sy} (hw : WF y) {G : Gr} (hG : GO y G) {done leads : Nat → Int32} {must : Int32} {e : St → Bool} (hn : NC y G leads)
    (he : ∀ i, i < G.1 → (must &&& (done i ^^^ (-1 : Int32)) = 0 ↔ e (G.2 i) = true)) : ∀ (n kf : Nat) (ways : Nat → Int64), n < kf → n ≤ G.1 → (∀ i, n ≤ i → i < G.1 → ways i = lN (PW y e (G.2 i))) →
    ∃ ways', F_X6_countWays_b7 fu (nI G.1) done leads must kf ways (nI n - nI 1) = some (ways' 0, ways') ∧ ∀ i, i < G.1 → ways' i = lN (PW y e (G.2 i))
  | 0, kf, ways, hkf, hle, hl => by
    obtain ⟨g, rfl⟩ : ∃ g, kf = g + 1 := ⟨kf - 1, by omega⟩
    refine ⟨ways, ?_, fun i hi => hl i (Nat.zero_le _) hi⟩
    rw [F_X6_countWays_b7, if_pos (by decide)]
    rfl
  | n + 1, kf, ways, hkf, hle, hl => by
    obtain ⟨g, rfl⟩ : ∃ g, kf = g + 1 := ⟨kf - 1, by omega⟩
    have h6 := hG.2.1
    have e1 : nI (n + 1) - nI 1 = nI n := by rw [zq_sub (by omega)]; rfl
    have h33 := fun acc ha => X6_cw33 (fu := fu) hG (F_X6_countWays_b7 fu (nI G.1) done leads must g) (ways := ways) (done := done) (must := must) (f := PW y e) (s := n) (by omega) hn (fun z => PW_le) (fun i h1 h2 => hl i h1 h2) 4 fu 0 acc (by omega) (by omega) ha
    have hpw := PW_eq hw e (hG.2.2.2.2.1 n (by omega))
    have fin : ∀ acc, acc = (if e (G.2 n) = true then 1 else 0) → ∃ ways', F_X6_countWays_b7 fu (nI G.1) done leads must g (vp_updL ways n (lN (min MW (acc + sumv y (PW y e) (G.2 n) 4 0)))) (nI n - nI 1) = some (ways' 0, ways') ∧ ∀ i, i < G.1 → ways' i = lN (PW y e (G.2 i)) := by
      intro acc ha
      refine X6_cw7 hfu hw hG hn he n g _ (by omega) (by omega) (fun i h1 h2 => ?_)
      rw [z_updL]
      by_cases c : i = n
      · rw [if_pos c, c, hpw, sumv_pwk, ha]
      · rw [if_neg c]; exact hl i (by omega) h2
    rw [e1, F_X6_countWays_b7, if_neg (nI_pos (by omega)), if_neg (nI_in (by omega) (by omega)), zd_cl (by omega)]
    unfold F_X6_countWays_b29
    by_cases c : e (G.2 n) = true
    · rw [if_pos ((he n (by omega)).mpr c), zl_0, zL_1, h33 1 (by omega)]
      exact fin 1 (by rw [if_pos c])
    · rw [if_neg (fun h => c ((he n (by omega)).mp h)), zl_0, zL_0, h33 0 (by omega)]
      exact fin 0 (by rw [if_neg c])
theorem X6_countWays {fu : Nat} (hfu : 20000 ≤ fu) {y : Sy} (hw : WF y) {G : Gr} (hG : GO y G) {done leads : Nat → Int32} {ways : Nat → Int64} {must : Int32} {e : St → Bool} (hn : NC y G leads)
    (he : ∀ i, i < G.1 → (must &&& (done i ^^^ (-1 : Int32)) = 0 ↔ e (G.2 i) = true)) :
    ∃ ways', F_X6_countWays fu (nI G.1) ways done leads must = some (lN (PW y e (G.2 0)), ways') ∧ ∀ i, i < G.1 → ways' i = lN (PW y e (G.2 i)) := by
  have h6 := hG.2.1
  obtain ⟨ways', h1, h2⟩ := X6_cw7 hfu hw hG hn he G.1 fu ways (by omega) (Nat.le_refl _) (fun i a b => by omega)
  refine ⟨ways', ?_, h2⟩
  unfold F_X6_countWays
  rw [zl_1, h1, h2 0 hG.1]
