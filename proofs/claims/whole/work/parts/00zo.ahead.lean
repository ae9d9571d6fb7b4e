/-! AHEAD: a call is done, another not, and an end with it is reached -/
def brn (y : Sy) (c : Nat) : Nat → St → Prop
  | 0, _ => False
  | n + 1, x => ∃ k z, k < 4 ∧ nst y k x = some z ∧ ((cl y x k = c ∧ CE y z) ∨ (cl y x k ≠ c ∧ brn y c n z))
def BR (y : Sy) (c : Nat) (x : St) : Prop := ∃ n, brn y c n x
theorem brn_up {y : Sy} {c : Nat} : ∀ n x, brn y c n x → brn y c (n + 1) x
  | 0, x, h => h.elim
  | n + 1, x, h => by
    obtain ⟨k, z, h1, h2, h3⟩ := h
    refine ⟨k, z, h1, h2, ?_⟩
    rcases h3 with h3 | ⟨h3, h4⟩
    · exact Or.inl h3
    · exact Or.inr ⟨h3, brn_up n z h4⟩
theorem BR_iff {y : Sy} {c : Nat} {x : St} : BR y c x ↔ ∃ k z, k < 4 ∧ nst y k x = some z ∧ ((cl y x k = c ∧ CE y z) ∨ (cl y x k ≠ c ∧ BR y c z)) := by
  constructor
  · rintro ⟨n, h⟩
    cases n with
    | zero => exact h.elim
    | succ n =>
      obtain ⟨k, z, h1, h2, h3⟩ := h
      refine ⟨k, z, h1, h2, ?_⟩
      rcases h3 with h3 | ⟨h3, h4⟩
      · exact Or.inl h3
      · exact Or.inr ⟨h3, n, h4⟩
  · rintro ⟨k, z, h1, h2, h3⟩
    rcases h3 with h3 | ⟨h3, n, h4⟩
    · exact ⟨1, k, z, h1, h2, Or.inl h3⟩
    · exact ⟨n + 1, k, z, h1, h2, Or.inr ⟨h3, h4⟩⟩
theorem nst_D {y : Sy} {k : Nat} {x z : St} (h : nst y k x = some z) : z.1 = x.1 ||| 2 ^ cl y x k ∧ x.1.testBit (cl y x k) = false := by
  obtain ⟨c, h1, _, rfl⟩ := nst_some h
  have hc : cl y x k = c := by unfold cl; rw [h1]; rfl
  rw [hc]
  exact ⟨rfl, (nx_some.mp h1).2.2.2.1⟩
/-- an end behind which c is done -/
def ewc (y : Sy) (c : Nat) (x : St) : Bool := whole y x && x.1.testBit c
theorem CE_bit {y : Sy} {c : Nat} : ∀ n x, cne y (whole y) n x → x.1.testBit c = true → CEe y (ewc y c) x
  | 0, x, h, hb => ⟨0, by show (whole y x && x.1.testBit c) = true; rw [show whole y x = true from h, hb]; rfl⟩
  | n + 1, x, h, hb => by
    rcases h with h | ⟨k, z, h1, h2, h3⟩
    · exact ⟨0, by show (whole y x && x.1.testBit c) = true; rw [h, hb]; rfl⟩
    · have hz : z.1.testBit c = true := by rw [(nst_D h2).1, bit_or, hb]; rfl
      rw [CEe_iff]
      exact Or.inr ⟨k, z, h1, h2, CE_bit n z h3 hz⟩
theorem ewc_CE {y : Sy} {c : Nat} : ∀ n x, cne y (ewc y c) n x → CEe y (whole y) x
  | 0, x, h => ⟨0, (Bool.and_eq_true _ _ |>.mp h).1⟩
  | n + 1, x, h => by
    rw [CEe_iff]
    rcases h with h | ⟨k, z, h1, h2, h3⟩
    · exact Or.inl (Bool.and_eq_true _ _ |>.mp h).1
    · exact Or.inr ⟨k, z, h1, h2, ewc_CE n z h3⟩
theorem BR_of {y : Sy} {c : Nat} : ∀ n x, cne y (ewc y c) n x → x.1.testBit c = false → BR y c x
  | 0, x, h, hb => by
    have := (Bool.and_eq_true _ _ |>.mp h).2
    rw [hb] at this; cases this
  | n + 1, x, h, hb => by
    rcases h with h | ⟨k, z, h1, h2, h3⟩
    · have := (Bool.and_eq_true _ _ |>.mp h).2
      rw [hb] at this; cases this
    · rw [BR_iff]
      refine ⟨k, z, h1, h2, ?_⟩
      by_cases e : cl y x k = c
      · exact Or.inl ⟨e, CE_CEe.mpr (ewc_CE n z h3)⟩
      · right
        refine ⟨e, BR_of n z h3 ?_⟩
        rw [(nst_D h2).1, bit_or, hb]
        simp [e]
theorem of_BR {y : Sy} {c : Nat} : ∀ n x, brn y c n x → CEe y (ewc y c) x ∧ x.1.testBit c = false
  | 0, x, h => h.elim
  | n + 1, x, h => by
    obtain ⟨k, z, h1, h2, h3⟩ := h
    have hD := nst_D h2
    rcases h3 with ⟨h3, h4⟩ | ⟨h3, h4⟩
    · obtain ⟨m, h5⟩ := CE_CEe.mp h4
      have hz : z.1.testBit c = true := by rw [hD.1, bit_or, h3]; simp
      refine ⟨?_, by rw [← h3]; exact hD.2⟩
      rw [CEe_iff]
      exact Or.inr ⟨k, z, h1, h2, CE_bit m z h5 hz⟩
    · obtain ⟨h5, h6⟩ := of_BR n z h4
      rw [hD.1, bit_or] at h6
      refine ⟨?_, (Bool.or_eq_false_iff.mp h6).1⟩
      rw [CEe_iff]
      exact Or.inr ⟨k, z, h1, h2, h5⟩
theorem BR_e {y : Sy} {c : Nat} {x : St} : BR y c x ↔ CEe y (ewc y c) x ∧ x.1.testBit c = false :=
  ⟨fun ⟨n, h⟩ => of_BR n x h, fun ⟨⟨n, h⟩, hb⟩ => BR_of n x h hb⟩
/-- as the class asks it -/
def AHc (y : Sy) (G : Gr) (a c : Nat) : Prop := ∃ s, s < G.1 ∧ (G.2 s).1.testBit a = true ∧ (G.2 s).1.testBit c = false ∧ CEe y (ewc y c) (G.2 s)
/-- as the reference asks it -/
def AHr (y : Sy) (G : Gr) (a c : Nat) : Prop := ∃ s k z, s < G.1 ∧ k < 4 ∧ nst y k (G.2 s) = some z ∧ cl y (G.2 s) k = a ∧ BR y c z
theorem AH_rc {y : Sy} {G : Gr} (hG : GO y G) {a c : Nat} (h : AHr y G a c) : AHc y G a c := by
  obtain ⟨s, k, z, h1, h2, h3, h4, h5⟩ := h
  obtain ⟨f1, f2⟩ := hG.2.2.2.2.2.1 s k z h1 h2 h3
  obtain ⟨h6, h7⟩ := BR_e.mp h5
  refine ⟨fnd G z, f1, ?_, ?_, ?_⟩
  · rw [fnd_lt f1, (nst_D h3).1, bit_or, h4]; simp
  · rw [fnd_lt f1]; exact h7
  · rw [fnd_lt f1]; exact h6
theorem AH_cr {y : Sy} {G : Gr} (hG : GO y G) {a c : Nat} : ∀ (n s : Nat), s ≤ n → s < G.1 → (G.2 s).1.testBit a = true → BR y c (G.2 s) → AHr y G a c
  | n, s, hn, hs, ha, hb => by
    rcases Nat.eq_zero_or_pos s with g | g
    · subst g
      rw [hG.2.2.2.1] at ha
      simp [ini] at ha
    · obtain ⟨j, k, h1, h2, h3⟩ := hG.2.2.2.2.2.2 s g hs
      obtain ⟨n, rfl⟩ : ∃ m, n = m + 1 := ⟨n - 1, by omega⟩
      by_cases e : cl y (G.2 j) k = a
      · exact ⟨j, k, G.2 s, by omega, h2, h3, e, hb⟩
      · have hD := nst_D h3
        have hja : (G.2 j).1.testBit a = true := by
          rw [hD.1, bit_or] at ha
          simpa [e] using ha
        have hc := (BR_e.mp hb).2
        have hne : cl y (G.2 j) k ≠ c := by
          intro q
          rw [hD.1, bit_or, q] at hc
          simp at hc
        exact AH_cr hG n j (by omega) (by omega) hja (BR_iff.mpr ⟨k, G.2 s, h2, h3, Or.inr ⟨hne, hb⟩⟩)
theorem AH_iff {y : Sy} {G : Gr} (hG : GO y G) {a c : Nat} : AHr y G a c ↔ AHc y G a c :=
  ⟨AH_rc hG, fun ⟨s, h1, h2, h3, h4⟩ => AH_cr hG s s (Nat.le_refl _) h1 h2 (BR_e.mpr ⟨h4, h3⟩)⟩
theorem X6_leadsToEndS {y : Sy} {G : Gr} (hG : GO y G) {ways : Nat → Int64} {e : St → Bool} (hv : ∀ i, i < G.1 → ways i = lN (PW y e (G.2 i))) {s : Nat} (hs : s < G.1) :
    F_X6_leadsToEnd (nI G.1) ways (nI s) = some (nI (if 0 < PW y e (G.2 s) then 1 else 0)) := by
  have h6 := hG.2.1
  have hle := PW_le (y := y) (e := e) (x := G.2 s)
  rw [MW_eq] at hle
  unfold F_X6_leadsToEnd
  rw [X6_has h6 (by omega), z_b1, if_pos hs, if_neg n1_0, if_neg (nI_in (by omega) (by omega)), zd_cl (by omega), hv s hs, zL_0]
  have q := zc_le0 (a := PW y e (G.2 s)) (b := 0) (by omega) (by omega)
  by_cases g : 0 < PW y e (G.2 s)
  · rw [if_neg (by rw [q]; omega), if_pos g]; rfl
  · rw [if_pos (by rw [q]; omega), if_neg g]; rfl
theorem X1_ca35 {y : Sy} (hw : WF y) {G : Gr} (hG : GO y G) {own ahd done tills leads tab : Nat → Int32} {ways : Nat → Int64} {r1 r2 r3 r4 b : Int32} {a c : Nat} (ha : a < 20) (hc : c < 20) (hv : ∀ i, i < G.1 → ways i = lN (PW y (ewc y c) (G.2 i))) (hd : ∀ i, i < G.1 → done i = nI (G.2 i).1) :
    ∀ (j kf s : Nat), j < kf → s + j = G.1 → (∀ i, i < s → ¬ ((G.2 i).1.testBit a = true ∧ (G.2 i).1.testBit c = false ∧ CEe y (ewc y c) (G.2 i))) →
    ∃ v, F_X1_comesAhead_b35 r1 r2 r3 r4 own ahd b (nI G.1) tab done tills leads ways (nI a) (nI c) kf (nI s) = some (v, r1, r2, r3, r4, own, ahd, b, nI G.1, tab, done, tills, leads, ways) ∧ isB v (AHc y G a c)
  | 0, kf, s, hj, hs, hno => by
    obtain ⟨g, rfl⟩ : ∃ g, kf = g + 1 := ⟨kf - 1, by omega⟩
    have : s = G.1 := by omega
    subst this
    have h6 := hG.2.1
    refine ⟨nI 0, ?_, Or.inr ⟨rfl, fun ⟨i, h1, h2⟩ => hno i h1 h2⟩⟩
    rw [F_X1_comesAhead_b35, if_pos (by rw [zd_le (by omega) (by omega)]; omega)]
    rfl
  | j + 1, kf, s, hj, hs, hno => by
    obtain ⟨g, rfl⟩ : ∃ g, kf = g + 1 := ⟨kf - 1, by omega⟩
    have h6 := hG.2.1
    have hs' : s < G.1 := by omega
    have hx := hG.2.2.2.2.1 s hs'
    have hDl := okS_lt hw hx
    have i1 : nI s + (1 : Int32) = nI (s + 1) := by rw [zl_1, zq_add]
    have e31 : (31 : Int32) = nI 31 := rfl
    have t1 := tbit (X := (G.2 s).1) (c := a) (by omega) (by omega)
    have t0 := tbit0 (X := (G.2 s).1) (c := c) (by omega) (by omega)
    have ih := fun h => X1_ca35 hw hG (own := own) (ahd := ahd) (tills := tills) (leads := leads) (tab := tab) (r1 := r1) (r2 := r2) (r3 := r3) (r4 := r4) (b := b) ha hc hv hd j g (s + 1) (by omega) (by omega) h
    have go_on : ¬ ((G.2 s).1.testBit a = true ∧ (G.2 s).1.testBit c = false ∧ CEe y (ewc y c) (G.2 s)) → ∀ i, i < s + 1 → ¬ ((G.2 i).1.testBit a = true ∧ (G.2 i).1.testBit c = false ∧ CEe y (ewc y c) (G.2 i)) := by
      intro h i hi
      by_cases q : i = s
      · rw [q]; exact h
      · exact hno i (by omega)
    rw [F_X1_comesAhead_b35, if_neg (by rw [zd_le (by omega) (by omega)]; omega), X6_doneAt h6 hs', z_b1, hd s hs']
    unfold F_X1_comesAhead_b92
    rw [i1]
    by_cases ca : (G.2 s).1.testBit a = true
    · rw [if_pos (show (nI (G.2 s).1 >>> (nI a &&& 31)) &&& (1 : Int32) = 1 by rw [e31]; exact t1.mpr ca)]
      by_cases cc : (G.2 s).1.testBit c = false
      · rw [if_pos (show (nI (G.2 s).1 >>> (nI c &&& 31)) &&& (1 : Int32) = 0 by rw [e31]; exact t0.mpr cc), X6_leadsToEndS hG hv hs', z_b1]
        have hp := PW_pos hw (ewc y c) 20 (G.2 s) hx (by omega)
        by_cases cp : 0 < PW y (ewc y c) (G.2 s)
        · rw [if_pos cp, if_neg n1_0]
          exact ⟨nI 1, rfl, Or.inl ⟨rfl, s, hs', ca, cc, hp.mp cp⟩⟩
        · rw [if_neg cp, if_pos n0_0]
          exact ih (go_on (fun h => cp (hp.mpr h.2.2)))
      · rw [if_neg (show ¬ (nI (G.2 s).1 >>> (nI c &&& 31)) &&& (1 : Int32) = 0 by rw [e31]; exact fun h => cc (t0.mp h))]
        exact ih (go_on (fun h => cc h.2.1))
    · rw [if_neg (show ¬ (nI (G.2 s).1 >>> (nI a &&& 31)) &&& (1 : Int32) = 1 by rw [e31]; exact fun h => ca (t1.mp h))]
      exact ih (go_on (fun h => ca h.1))
noncomputable def rs_ahead (K : Ca) (kd : Nat → Nat) (nt late : Nat) (told : Bool) (v a c : Int32) : Int32 × Int32 := match kin told v 2 with
  | none => (-1, nI 1)
  | some k => match tin (cm K) a, tin (cm K) c with
    | some i, some j => if a = c then (-1, nI 1) else if full (Yk K kd nt late k) = true then (-1, nI 3) else (nI (@ite _ (AHc (Yk K kd nt late k) (gr (Yk K kd nt late k)) i j) (Classical.propDecidable _) 1 0), nI 0)
    | _, _ => (-1, nI 1)
theorem isB_ite {v : Int32} {P : Prop} (h : isB v P) : v = nI (@ite _ P (Classical.propDecidable _) 1 0) := by
  rcases h with ⟨a, b⟩ | ⟨a, b⟩
  · rw [a, if_pos b]
  · rw [a, if_neg b]
theorem X9_ahead {fu : Nat} (hfu : 20000 ≤ fu) {K : Ca} {kd : Nat → Nat} {nt late : Nat} {n l : Int32} {f0 f1 f2 f3 f4 f5 f6 kinds : Nat → Int32} (h : CS K kd nt late n f0 f1 f2 f3 f4 f5 f6 kinds l) (told : Bool) (a1 sc : Nat) (v a c : Int32)
    {b : Nat} {r1 r2 r3 r4 cnt : Int32} {own ahd tab done tills leads : Nat → Int32} {ways : Nat → Int64} (hT : TB b tab) :
    ∃ r1' r2' r3' r4' own' ahd' sc' b' cnt' tab' done' tills' leads' ways', F_X9_ahead fu a1 sc (nI (if told = true then 1 else 0)) l n f5 r1 r2 r3 r4 own f0 f4 ahd (nI b) cnt tab done tills kinds f1 f2 f3 f6 leads ways v a c =
      some ((rs_ahead K kd nt late told v a c).1, (rs_ahead K kd nt late told v a c).2, r1', r2', r3', r4', own', ahd', sc', nI b', cnt', tab', done', tills', leads', ways') ∧ TB b' tab' := by
  have hm := h.2.1.1
  unfold F_X9_ahead F_X9_ahead_b36
  rw [zl_2, X9_hasKind, z_b1]
  rcases e : kin told v 2 with _ | k
  · have hrs : rs_ahead K kd nt late told v a c = (-1, nI 1) := by unfold rs_ahead; rw [e]
    rw [ifn, if_pos n0_0, hrs]
    exact ⟨r1, r2, r3, r4, own, ahd, sc, b, cnt, tab, done, tills, leads, ways, rfl, hT⟩
  obtain ⟨_, rfl, hk⟩ := kin_some (by omega) e
  rw [ifs, if_neg n1_0, h.1.1, X0_has hm, z_b1]
  rcases ea : tin (cm K) a with _ | i
  · have hrs : rs_ahead K kd nt late told (nI k) a c = (-1, nI 1) := by unfold rs_ahead; rw [e]; simp only [ea]
    rw [ifn, if_pos n0_0, hrs]
    exact ⟨r1, r2, r3, r4, own, ahd, sc, b, cnt, tab, done, tills, leads, ways, rfl, hT⟩
  rw [ifs, if_neg n1_0, X0_has hm, z_b1]
  rcases ec : tin (cm K) c with _ | j
  · have hrs : rs_ahead K kd nt late told (nI k) a c = (-1, nI 1) := by unfold rs_ahead; rw [e]; simp only [ea, ec]
    rw [ifn, if_pos n0_0, hrs]
    exact ⟨r1, r2, r3, r4, own, ahd, sc, b, cnt, tab, done, tills, leads, ways, rfl, hT⟩
  rw [ifs, if_neg n1_0]
  obtain ⟨rfl, hi⟩ := tin_some (by omega) ea
  obtain ⟨rfl, hj⟩ := tin_some (by omega) ec
  by_cases hac : nI i = nI j
  · have hrs : rs_ahead K kd nt late told (nI k) (nI i) (nI j) = (-1, nI 1) := by unfold rs_ahead; rw [e]; simp only [ea, ec, hac, ↓reduceIte]
    rw [if_pos hac, hrs]
    exact ⟨r1, r2, r3, r4, own, ahd, sc, b, cnt, tab, done, tills, leads, ways, rfl, hT⟩
  rw [if_neg hac]
  obtain ⟨own', ahd', b', cnt', tab', done', tills', leads', e1, hT', hR, h1⟩ := X1_explore (kind := k) (own := own) (ahd := ahd) (done := done) (tills := tills) (leads := leads) hfu h (by omega) hT
  unfold F_X1_comesAhead
  rw [← h.1.1, e1, z_b13]
  by_cases cf : full (Yk K kd nt late k) = true
  · have hrs : rs_ahead K kd nt late told (nI k) (nI i) (nI j) = (-1, nI 3) := by unfold rs_ahead; rw [e]; simp only [ea, ec, hac, cf, ↓reduceIte]
    rw [if_pos cf, if_pos n0_0, z_b14, X9_answered10, hrs]
    exact ⟨_, _, _, _, _, _, _, _, _, _, _, _, _, _, rfl, hT'⟩
  · have c' : full (Yk K kd nt late k) = false := by simpa using cf
    have hw := CS_Yk h k
    have hG := GO_gr hw c'
    obtain ⟨h2, h3, h4⟩ := h1 c'
    have he : ∀ s, s < (gr (Yk K kd nt late k)).1 → (nI (msk (enb K) (cm K)) &&& (done' s ^^^ (-1 : Int32)) = 0 ↔ whole (Yk K kd nt late k) ((gr (Yk K kd nt late k)).2 s) = true) := JX_end h.2.1.1 (fun a ha => ((okI_k K).2 a ha).1) h3
    have hmm : nI (msk (enb K) (cm K)) ||| (1 : Int32) <<< (nI j &&& 31) = nI (msk (enb K) (cm K) ||| 2 ^ j) := by
      rw [zl_1, show (31 : Int32) = nI 31 from rfl, zs_one (by omega), zq_or]
    have he2 : ∀ s, s < (gr (Yk K kd nt late k)).1 → (nI (msk (enb K) (cm K) ||| 2 ^ j) &&& (done' s ^^^ (-1 : Int32)) = 0 ↔ ewc (Yk K kd nt late k) j ((gr (Yk K kd nt late k)).2 s) = true) := by
      intro s hs
      have a1 := he s hs
      rw [(h3 s hs).1] at a1 ⊢
      rw [must_iff (msk_lt20 _ hm)] at a1
      rw [must_iff (Nat.or_lt_two_pow (msk_lt20 _ hm) (Nat.pow_lt_pow_right (by omega) (by omega)))]
      unfold ewc
      rw [Bool.and_eq_true, ← a1]
      constructor
      · intro q
        exact ⟨fun c hc => q c (by rw [bit_or, hc]; rfl), q j (by rw [bit_or]; simp)⟩
      · rintro ⟨q1, q2⟩ c hc
        rw [bit_or] at hc
        rcases Bool.or_eq_true _ _ |>.mp hc with g | g
        · exact q1 c g
        · have := of_decide_eq_true g
          subst this
          exact q2
    obtain ⟨ways', e2, hv⟩ := X6_countWays (ways := ways) (e := ewc (Yk K kd nt late k) j) hfu hw hG h4 he2
    rw [if_neg cf, if_neg n1_0, h2, hmm, e2, z_b2]
    obtain ⟨vv, e3, hB⟩ := X1_ca35 (own := own') (ahd := ahd') (tills := tills') (leads := leads') (tab := tab') (r1 := nI (msk (alb K) (cm K))) (r2 := nI (msk (enb K) (cm K))) (r3 := nI (msk (enb K) (cm K))) (r4 := nI (msk (enb K) (cm K))) (b := nI b') hw hG (by omega : i < 20) (by omega : j < 20) hv (fun s hs => (h3 s hs).1) (gr (Yk K kd nt late k)).1 fu 0 (by have := hG.2.1; omega) (by omega) (fun i hi => absurd hi (Nat.not_lt_zero i))
    have hrs : rs_ahead K kd nt late told (nI k) (nI i) (nI j) = (vv, nI 0) := by
      unfold rs_ahead; rw [e]; simp only [ea, ec, hac, c', Bool.false_eq_true, ↓reduceIte]
      rw [isB_ite hB]
    have hans : F_X9_answered vv = some (vv, nI 0) := by
      rcases hB with ⟨q, _⟩ | ⟨q, _⟩
      · rw [q]; exact X9_answeredN (by omega)
      · rw [q]; exact X9_answeredN (by omega)
    rw [zl_0, e3, z_b14, hans, hrs]
    exact ⟨_, _, _, _, _, _, _, _, _, _, _, _, _, _, rfl, hT'⟩
