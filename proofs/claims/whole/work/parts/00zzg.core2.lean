def corl (K : Ca) (kd : Nat → Nat) (nt late k : Nat) : Nat → Nat → Int32 × Int32
  | 0, _ => (-3, nI 0)
  | f + 1, sz => match fco K kd nt late k sz with
    | some u => (nI u, nI 0)
    | none => corl K kd nt late k f (sz + 1)
theorem corl_some {K : Ca} {kd : Nat → Nat} {nt late k f sz u : Nat} (h : fco K kd nt late k sz = some u) : corl K kd nt late k (f + 1) sz = (nI u, nI 0) := by
  unfold corl
  rw [h]
theorem corl_none {K : Ca} {kd : Nat → Nat} {nt late k f sz : Nat} (h : fco K kd nt late k sz = none) : corl K kd nt late k (f + 1) sz = corl K kd nt late k f (sz + 1) := by
  conv => lhs; unfold corl
  rw [h]
def corr (K : Ca) (kd : Nat → Nat) (nt late k : Nat) : Int32 × Int32 := if 12 < cm K then (-1, nI 3) else if full (Ys K kd nt late k 0) = true then (-1, nI 3) else
  if 0 < PW (Ys K kd nt late k (Es K)) (whole (Ys K kd nt late k (Es K))) (ini (Ys K kd nt late k (Es K))) then (-2, nI 0) else corl K kd nt late k 3 1
def rs_core (K : Ca) (kd : Nat → Nat) (nt late : Nat) (told : Bool) (v : Int32) : Int32 × Int32 := match kin told v 2 with
  | none => (-1, nI 1)
  | some k => corr K kd nt late k
theorem msk_all (m : Nat) : msk (fun _ => true) m = 2 ^ m - 1 := by
  apply Nat.eq_of_testBit_eq
  intro c
  rw [msk_bit, Nat.testBit_two_pow_sub_one, Bool.and_true]
theorem Es_0 {K : Ca} {kd : Nat → Nat} {nt late k : Nat} (hw : WF (Ys K kd nt late k (Es K))) (h : Es K = 0) : canS K kd nt late k (Es K) := by
  unfold canS
  rw [PW_CE hw (okS_ini hw)]
  refine ⟨0, ?_⟩
  show whole _ _ = true
  rw [whole_iff]
  intro c hc he
  exfalso
  have he' : enb K c = true := he
  have hc' : c < cm K := hc
  have hb : (Es K).testBit c = true := by unfold Es; rw [msk_bit]; simp [hc', he']
  rw [h, Nat.zero_testBit] at hb
  cases hb
theorem X1_fc92 {fu : Nat} (hfu : 20000 ≤ fu) {K : Ca} {kd : Nat → Nat} {nt late k : Nat} {own ahd done tills leads kinds f1 f2 f3 f6 : Nat → Int32} (h : CX K kd nt late k own ahd done tills leads kinds f1 f2 f3 f6) (hm : cm K ≤ 12) {a1 : Nat} {x1 x3 x4 b : Int32} {tab : Nat → Int32} :
    ∀ (f kf sz : Nat) (S : Nat → Nat) (sets : Nat → Int32) (setsOf ways : Nat → Int64), f < kf → sz + f = 4 → 1 ≤ sz → SB 0 S sets setsOf →
    ∃ r sc' setsOf' sets' ways', F_X1_findCore_b92 fu a1 (nI (cm K)) x1 (nI (Es K)) x3 x4 own ahd b (nI (gr (Ys K kd nt late k 0)).1) tab done tills kinds f1 f2 f3 f6 leads kf (nI 0) setsOf sets ways (nI sz) =
      some (r, sc', x1, nI (Es K), x3, x4, own, ahd, a1, b, nI (gr (Ys K kd nt late k 0)).1, tab, done, tills, leads, setsOf', sets', ways') ∧ F_X9_answered r = some ((corl K kd nt late k f sz).1, (corl K kd nt late k f sz).2)
  | 0, kf, sz, S, sets, setsOf, ways, hf, hsz, h1, hS => by
    obtain ⟨g, rfl⟩ : ∃ g, kf = g + 1 := ⟨kf - 1, by omega⟩
    rw [F_X1_findCore_b92, if_pos (by rw [zl_3, zd_lt (by omega) (by omega)]; omega)]
    exact ⟨_, _, _, _, _, rfl, X9_answered (by decide) (by decide)⟩
  | f + 1, kf, sz, S, sets, setsOf, ways, hf, hsz, h1, hS => by
    obtain ⟨g, rfl⟩ : ∃ g, kf = g + 1 := ⟨kf - 1, by omega⟩
    have i1 : nI sz + (1 : Int32) = nI (sz + 1) := by rw [zl_1, zq_add]
    have hp : 2 ^ cm K ≤ 2 ^ 12 := Nat.pow_le_pow_right (by omega) hm
    have hp1 : 0 < 2 ^ cm K := Nat.pow_pos (by omega)
    obtain ⟨r, sets', setsOf', ways', S', e, hS', h2⟩ := X1_fc2 hfu h hm h1 (by omega : sz ≤ 20) (2 ^ cm K - 1) fu 1 0 S sets setsOf ways (by omega) (by omega) (by omega) hS ⟨fun b hb => by omega, fun b b' _ hb' => by omega, fun u hu hc => by have := cnd_pos h1 hc; omega⟩ (fun _ => rfl)
    have e' : F_X1_firstCore fu (nI 0) (nI (Es K)) sets setsOf (nI (gr (Ys K kd nt late k 0)).1) ways done leads own ahd f1 tills kinds f2 f3 f6 (nI sz) (nI (2 ^ cm K - 1)) = _ := e
    rw [F_X1_findCore_b92, if_neg (by rw [zl_3, zd_lt (by omega) (by omega)]; omega), X0_allOnes (by omega), z_b1, msk_all, e', z_b5]
    rcases h2 with ⟨u, hu, rfl, hu0, hfo⟩ | ⟨rfl, hfo⟩
    · rw [if_neg (by rw [zl_0, zd_eq (by omega) (by omega)]; omega), corl_some hfo]
      exact ⟨_, _, _, _, _, rfl, X9_answeredN (by omega)⟩
    · rw [if_pos n0_0, i1, corl_none hfo]
      exact X1_fc92 hfu h hm f g (sz + 1) S' sets' setsOf' ways' (by omega) (by omega) (by omega) hS'
theorem X9_core {fu : Nat} (hfu : 20000 ≤ fu) {K : Ca} {kd : Nat → Nat} {nt late : Nat} {n l : Int32} {f0 f1 f2 f3 f4 f5 f6 kinds : Nat → Int32} (h : CS K kd nt late n f0 f1 f2 f3 f4 f5 f6 kinds l) (told : Bool) (a1 sc : Nat) (v : Int32)
    {b : Nat} {r0 r1 r2 r3 r4 cnt : Int32} {own ahd tab done tills leads sets : Nat → Int32} {setsOf ways : Nat → Int64} (hT : TB b tab) :
    ∃ r0' r1' r2' r3' r4' own' ahd' sc' b' cnt' tab' done' tills' leads' setsOf' sets' ways', F_X9_core fu a1 sc (nI (if told = true then 1 else 0)) l n r0 f5 r1 r2 r3 r4 own f0 f4 ahd (nI b) cnt tab done tills kinds f1 f2 f3 f6 leads setsOf sets ways v =
      some ((rs_core K kd nt late told v).1, (rs_core K kd nt late told v).2, r0', r1', r2', r3', r4', own', ahd', sc', nI b', cnt', tab', done', tills', leads', setsOf', sets', ways') ∧ TB b' tab' := by
  have hm := h.2.1.1
  unfold F_X9_core
  rw [zl_2, X9_hasKind, z_b1]
  rcases e : kin told v 2 with _ | k
  · have hrs : rs_core K kd nt late told v = (-1, nI 1) := by unfold rs_core; rw [e]
    rw [ifn, if_pos n0_0, hrs]
    exact ⟨r0, r1, r2, r3, r4, own, ahd, sc, b, cnt, tab, done, tills, leads, setsOf, sets, ways, rfl, hT⟩
  · obtain ⟨_, rfl, hk⟩ := kin_some (by omega) e
    have hrs : rs_core K kd nt late told (nI k) = corr K kd nt late k := by unfold rs_core; rw [e]
    rw [ifs, if_neg n1_0, hrs]
    unfold F_X1_findCore
    by_cases c12 : 12 < cm K
    · have hco : corr K kd nt late k = (-1, nI 3) := if_pos c12
      rw [if_neg (by rw [h.1.1, zl_12, zd_le (by omega) (by omega)]; omega), z_b18, X9_answered10, hco]
      exact ⟨_, _, _, _, _, _, _, _, _, _, _, _, _, _, _, _, _, rfl, hT⟩
    · obtain ⟨g1, g2, g3⟩ := gap_k (kind := k) (by omega) h.2.2.2.2.2.2
      obtain ⟨own', ahd', b', cnt', tab', done', tills', leads', e1, e2, hR, h1, h2⟩ := JX (mst := enb K) (str := fun c => (0 : Nat).testBit c) (gap := nI (gapk k late)) (own := own) (ahd := ahd) (done := done) (tills := tills) (leads := leads) hfu h g3 (okI_k K) hT
      rw [g2] at e2 hR h2
      have hY : sysK K kd nt (alb K) (enb K) (fun c => (0 : Nat).testBit c) (enb K) (gapk k late : Nat) = Ys K kd nt late k 0 := rfl
      rw [hY] at e2 hR h2
      rw [← h.2.2.2.2.2.1] at g1
      have hz : nI (msk (fun c => (0 : Nat).testBit c) (cm K)) = (0 : Int32) := by
        have : msk (fun c => (0 : Nat).testBit c) (cm K) = 0 := by
          apply Nat.eq_of_testBit_eq
          intro c
          rw [msk_bit, Nat.zero_testBit]
          exact Bool.and_false _
        rw [this]; rfl
      rw [hz] at e2
      have hwS : ∀ S, WF (Ys K kd nt late k S) := fun S => CS_WF h (Int.natCast_nonneg _) (okI_k K)
      have hEs : msk (enb K) (cm K) = Es K := rfl
      rw [if_pos (by rw [h.1.1, zl_12, zd_le (by omega) (by omega)]; omega), takeAll hfu h, z_b4, g1, z_b1, e1, z_b2, e2, z_b7, hEs]
      by_cases c : full (Ys K kd nt late k 0) = true
      · have hco : corr K kd nt late k = (-1, nI 3) := by unfold corr; rw [if_neg c12, if_pos c]
        rw [if_pos c, if_pos n0_0, z_b18, X9_answered10, hco]
        exact ⟨_, _, _, _, _, _, _, _, _, _, _, _, _, _, _, _, _, rfl, h1⟩
      · have c' : full (Ys K kd nt late k 0) = false := by simpa using c
        obtain ⟨h3, h4, h5⟩ := h2 c'
        have hG := GO_gr (hwS 0) c'
        have he := JX_end hm (fun a ha => ((okI_k K).2 a ha).1) h4
        have hX : CX K kd nt late k own' ahd' done' tills' leads' kinds f1 f2 f3 f6 := ⟨hwS 0, hG, hR, h4, h5, ⟨_, CS_CL (mst := enb K) (inn := alb K) (tim := enb K) (gap := (gapk k late : Nat)) (str := fun c => (0 : Nat).testBit c) h⟩, he, hwS⟩
        obtain ⟨setsOf1, e3, hS1⟩ := X1_dropSets (setsOf := setsOf) hfu
        obtain ⟨sets2, setsOf2, e4, hS2⟩ := X1_addSet hfu (by omega) (Es_lt K hm).2 (hS1 sets)
        obtain ⟨r, ways1, e5, h6⟩ := X1_fstc (ways := ways) hfu hX hm hS2 (fun b hb c hc => by
          have hb0 : b = 0 := by omega
          rw [if_pos hb0] at hc
          unfold Es at hc
          rw [msk_bit, Bool.and_eq_true] at hc
          exact hc.2)
        obtain ⟨setsOf3, e6, hS3⟩ := X1_dropSets (setsOf := setsOf2) hfu
        rw [if_neg c, if_neg n1_0, h3, e3, z_b2, e4, z_b3, e5, z_b2]
        rcases h6 with ⟨b0, hb, hr, hnc, _⟩ | ⟨hr, hall⟩
        · have hb0 : b0 = 0 := by omega
          subst hb0
          rw [if_pos rfl] at hr hnc
          have hne : ¬ Es K = 0 := fun q => hnc (Es_0 (hwS _) q)
          have hco : corr K kd nt late k = corl K kd nt late k 3 1 := by unfold corr; unfold canS at hnc; rw [if_neg c12, if_neg c, if_neg hnc]
          have hlt := (Es_lt K hm).2
          obtain ⟨r', sc', setsOf4, sets4, ways4, e7, h7⟩ := X1_fc92 (a1 := a1) (x1 := nI (msk (alb K) (cm K))) (x3 := 0) (x4 := nI (Es K)) (b := nI b') (tab := tab') hfu hX (by omega) 3 fu 1 _ sets2 setsOf3 ways1 (by omega) (by omega) (by omega) (hS3 sets2)
          have e7' : F_X1_findCore_b92 fu a1 (nI (cm K)) (nI (msk (alb K) (cm K))) (nI (Es K)) 0 (nI (Es K)) own' ahd' (nI b') (nI (gr (Ys K kd nt late k 0)).1) tab' done' tills' kinds f1 f2 f3 f6 leads' fu (nI 0) setsOf3 sets2 ways1 1 = _ := e7
          rw [hr, if_neg (by rw [zl_0, zd_eq (by omega) (by omega)]; exact hne), e6, z_b2, h.1.1, e7', z_b18, h7, z_b2, hco]
          exact ⟨_, _, _, _, _, _, _, _, _, _, _, _, _, _, _, _, _, rfl, h1⟩
        · have hc1 := hall 0 (by omega)
          rw [if_pos rfl] at hc1
          have hco : corr K kd nt late k = (-2, nI 0) := by unfold corr; unfold canS at hc1; rw [if_neg c12, if_neg c, if_pos hc1]
          have h92 : F_X9_answered (-2) = some (-2, nI 0) := X9_answered (by decide) (by decide)
          rw [hr, if_pos n0_0, z_b18, h92, z_b2, hco]
          exact ⟨_, _, _, _, _, _, _, _, _, _, _, _, _, _, _, _, _, rfl, h1⟩
