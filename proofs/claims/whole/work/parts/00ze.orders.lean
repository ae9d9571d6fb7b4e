/-! how many orders: each till by itself, the product -/
def prd (a b : Nat) : Nat := if a = 0 ∨ b = 0 then 0 else min MW (a * b)
def pwt (K : Ca) (kd : Nat → Nat) (nt t : Nat) : Option Nat := if full (Yt K kd nt t) = true then none else some (PW (Yt K kd nt t) (whole (Yt K kd nt t)) (ini (Yt K kd nt t)))
def pwk' (K : Ca) (kd : Nat → Nat) (nt late kind : Nat) : Option Nat := if full (Yk K kd nt late kind) = true then none else some (PW (Yk K kd nt late kind) (whole (Yk K kd nt late kind)) (ini (Yk K kd nt late kind)))
def eachw (K : Ca) (kd : Nat → Nat) (nt : Nat) : Nat → Nat → Nat → Option Nat
  | 0, _, p => some p
  | j + 1, t, p => match pwt K kd nt t with
    | none => none
    | some q => eachw K kd nt j (t + 1) (prd p q)
def ordn (K : Ca) (kd : Nat → Nat) (nt late kind : Nat) : Option Nat := if kind = 3 then eachw K kd nt nt 0 1 else pwk' K kd nt late kind
def o64 (o : Option Nat) : Int64 := match o with
  | none => -10
  | some p => lN p
theorem prd_le (a b : Nat) : prd a b ≤ MW := by
  unfold prd
  split
  · exact Nat.zero_le _
  · exact Nat.min_le_left _ _
theorem pwt_le {K : Ca} {kd : Nat → Nat} {nt t q : Nat} (h : pwt K kd nt t = some q) : q ≤ MW := by
  unfold pwt at h
  split at h
  · cases h
  · injection h with h; rw [← h]; exact PW_le
theorem eachw_le {K : Ca} {kd : Nat → Nat} {nt : Nat} : ∀ (j t p q : Nat), p ≤ MW → eachw K kd nt j t p = some q → q ≤ MW
  | 0, t, p, q, hp, h => by injection h with h; omega
  | j + 1, t, p, q, hp, h => by
    unfold eachw at h
    split at h
    · cases h
    · exact eachw_le j (t + 1) _ q (prd_le _ _) h
theorem ordn_le {K : Ca} {kd : Nat → Nat} {nt late kind q : Nat} (h : ordn K kd nt late kind = some q) : q ≤ MW := by
  unfold ordn at h
  split at h
  · exact eachw_le nt 0 1 q (by rw [MW_eq]; omega) h
  · unfold pwk' at h
    split at h
    · cases h
    · injection h with h; rw [← h]; exact PW_le
theorem prd_div {a b : Nat} (hb : 0 < b) : (a ≤ MW / b) ↔ a * b ≤ MW := Nat.le_div_iff_mul_le hb
theorem X6_times {a b : Nat} (ha : a ≤ MW) (hb : b ≤ MW) : F_X6_times (lN a) (lN b) = some (lN (prd a b)) := by
  rw [MW_eq] at ha hb
  unfold F_X6_times prd
  by_cases a0 : a = 0
  · subst a0
    simp (disch := omega) only [zl_0, zl_1, zl_2, zl_3, zl_4, zl_5, zl_6, zl_7, zl_8, zl_9, zl_10, zl_12, zl_14, zl_15, zl_16, zl_17, zl_18, zl_20, zl_24, zl_31, zl_32, zl_44, zl_48, zl_57, zl_59, zl_63, zl_64, zl_70, zl_74, zl_75, zl_97, zl_99, zl_100, zl_122, zl_140, zl_141, zl_142, zl_255, zl_900, zl_999, zl_1000, zl_1998, zl_6000, zl_6001, zl_16383, zl_16384, zl_65536, zl_65537, zq_add, zq_mul, zq_sub, zd_lt, zd_le, zd_eq, zd_cl, zm_lt, zm_le, zm_gt, zm_ge, zm_eq, zm_qe, zm_mm, zt_lt, zf_lt, zt_le, zf_le, zt_eq, zf_eq, z_upd, z_updL, z_b1, z_b2, z_b3, z_b4, z_b5, z_b6, z_b7, z_b8, z_b9, z_b10, z_b11, z_b12, z_b13, z_b14, z_b15, z_b16, z_b17, z_b18, z_b19, z_b20, ↓reduceIte, or_false, false_or, or_self, true_or, or_true, and_true, true_and, and_false, false_and, not_true_eq_false, not_false_eq_true, ite_self, reduceCtorEq, Nat.reduceAdd, Nat.reduceMul, Nat.reduceSub, Nat.reducePow, Nat.reduceDiv, Nat.reduceMod, Nat.reduceLT, Nat.reduceLeDiff, Nat.reduceEqDiff, Nat.add_zero, Nat.zero_add, Nat.mul_one, Nat.one_mul, Nat.mul_zero, Nat.zero_mul, Nat.sub_zero, Nat.not_lt_zero, Nat.zero_le, zL_0, zL_1, zL_9, zL_10, zL_18, zL_31, zL_32, zL_63, zL_99, zL_16383, zL_1000000, zL_1000003, zL_1000000000000000000, zL_add, zL_mul, zL_sub, zL_lt, zL_le, zL_eq, zL_i, zI_64, zcn_lt0, zcn_eq0, zcn_ge0, zcn_le0]
  by_cases b0 : b = 0
  · subst b0
    simp (disch := omega) only [zc_eq, zl_0, zl_1, zl_2, zl_3, zl_4, zl_5, zl_6, zl_7, zl_8, zl_9, zl_10, zl_12, zl_14, zl_15, zl_16, zl_17, zl_18, zl_20, zl_24, zl_31, zl_32, zl_44, zl_48, zl_57, zl_59, zl_63, zl_64, zl_70, zl_74, zl_75, zl_97, zl_99, zl_100, zl_122, zl_140, zl_141, zl_142, zl_255, zl_900, zl_999, zl_1000, zl_1998, zl_6000, zl_6001, zl_16383, zl_16384, zl_65536, zl_65537, zq_add, zq_mul, zq_sub, zd_lt, zd_le, zd_eq, zd_cl, zm_lt, zm_le, zm_gt, zm_ge, zm_eq, zm_qe, zm_mm, zt_lt, zf_lt, zt_le, zf_le, zt_eq, zf_eq, z_upd, z_updL, z_b1, z_b2, z_b3, z_b4, z_b5, z_b6, z_b7, z_b8, z_b9, z_b10, z_b11, z_b12, z_b13, z_b14, z_b15, z_b16, z_b17, z_b18, z_b19, z_b20, ↓reduceIte, or_false, false_or, or_self, true_or, or_true, and_true, true_and, and_false, false_and, not_true_eq_false, not_false_eq_true, ite_self, reduceCtorEq, Nat.reduceAdd, Nat.reduceMul, Nat.reduceSub, Nat.reducePow, Nat.reduceDiv, Nat.reduceMod, Nat.reduceLT, Nat.reduceLeDiff, Nat.reduceEqDiff, Nat.add_zero, Nat.zero_add, Nat.mul_one, Nat.one_mul, Nat.mul_zero, Nat.zero_mul, Nat.sub_zero, Nat.not_lt_zero, Nat.zero_le, zL_0, zL_1, zL_9, zL_10, zL_18, zL_31, zL_32, zL_63, zL_99, zL_16383, zL_1000000, zL_1000003, zL_1000000000000000000, zL_add, zL_mul, zL_sub, zL_lt, zL_le, zL_eq, zL_i, zI_64, zcn_lt0, zcn_eq0, zcn_ge0, zcn_le0]
  have hp : 0 < b := by omega
  have hd : lN 1000000000000000000 / lN b = lN (1000000000000000000 / b) := zL_div (by omega) (by omega) hp
  have hlt : 1000000000000000000 / b < 9223372036854775808 := Nat.lt_of_le_of_lt (Nat.div_le_self _ _) (by omega)
  have h1 : ¬ (lg_cmp (lN a) (0 : Int64) ≤ 0) := by rw [zL_0, zc_le0 (by omega) (by omega)]; omega
  have h2 : (0 : Int32) < lg_cmp (lN b) (0 : Int64) := by rw [zL_0, zc_gt (by omega) (by omega) hp]; decide
  have h3 : ¬ lN b = 0 := by rw [zL_0, zL_eq (by omega) (by omega)]; omega
  rw [if_neg h1, if_pos h2, if_neg h3, zL_1000000000000000000, hd, if_neg (show ¬ (a = 0 ∨ b = 0) by omega)]
  have hq := prd_div (a := a) hp
  rw [MW_eq] at hq ⊢
  by_cases c : a ≤ 1000000000000000000 / b
  · rw [if_pos (by rw [zc_le0 (by omega) hlt]; exact c), zL_mul, Nat.min_eq_right (hq.mp c)]
  · have : ¬ a * b ≤ 1000000000000000000 := fun h => c (hq.mpr h)
    rw [if_neg (by rw [zc_le0 (by omega) hlt]; exact c), Nat.min_eq_left (by omega)]
theorem CS_Yk {K : Ca} {kd : Nat → Nat} {nt late : Nat} {n l : Int32} {f0 f1 f2 f3 f4 f5 f6 kinds : Nat → Int32} (h : CS K kd nt late n f0 f1 f2 f3 f4 f5 f6 kinds l) (kind : Nat) : WF (Yk K kd nt late kind) := CS_WF h (Int.natCast_nonneg _) (okI_k K)
theorem CS_Yt {K : Ca} {kd : Nat → Nat} {nt late : Nat} {n l : Int32} {f0 f1 f2 f3 f4 f5 f6 kinds : Nat → Int32} (h : CS K kd nt late n f0 f1 f2 f3 f4 f5 f6 kinds l) (t : Nat) : WF (Yt K kd nt t) := CS_WF h (Int.natCast_nonneg _) (okI_t K t)
theorem X1_cwTill {fu : Nat} (hfu : 20000 ≤ fu) {K : Ca} {kd : Nat → Nat} {nt late : Nat} {n l : Int32} {f0 f1 f2 f3 f4 f5 f6 kinds : Nat → Int32} (h : CS K kd nt late n f0 f1 f2 f3 f4 f5 f6 kinds l) {t : Nat}
    {b : Nat} {own ahd tab done tills leads : Nat → Int32} {ways : Nat → Int64} (hT : TB b tab) :
    ∃ own' ahd' b' cnt tab' done' tills' leads' ways', F_X1_countWays fu (nI (msk (tlb K t) (cm K))) (nI (msk (fun c => tlb K t c && enb K c) (cm K))) (nI (msk (fun c => tlb K t c && enb K c) (cm K))) (nI (msk (fun c => tlb K t c && enb K c) (cm K))) own n f0 f4 f5 ahd (nI b) tab done tills kinds f1 f2 f3 f6 leads ways (nI 0) =
      some (o64 (pwt K kd nt t), own', ahd', nI b', cnt, tab', done', tills', leads', ways') ∧ TB b' tab' := by
  have e := X1_countWays (str := fun c => tlb K t c && enb K c) (gap := nI 0) (own := own) (ahd := ahd) (done := done) (tills := tills) (leads := leads) (ways := ways) hfu h (by decide) (okI_t K t) hT
  have hg : (nI 0).toInt = ((0 : Nat) : Int) := by decide
  rw [hg] at e
  have : o64 (pwt K kd nt t) = if full (Yt K kd nt t) = true then (-10 : Int64) else lN (PW (Yt K kd nt t) (whole (Yt K kd nt t)) (ini (Yt K kd nt t))) := by
    unfold pwt
    by_cases c : full (Yt K kd nt t) = true
    · rw [if_pos c, if_pos c]; rfl
    · rw [if_neg c, if_neg c]; rfl
  rw [this]
  exact e
theorem X1_cwKind {fu : Nat} (hfu : 20000 ≤ fu) {K : Ca} {kd : Nat → Nat} {nt late : Nat} {n l : Int32} {f0 f1 f2 f3 f4 f5 f6 kinds : Nat → Int32} (h : CS K kd nt late n f0 f1 f2 f3 f4 f5 f6 kinds l) {kind : Nat} (hk : kind < 4)
    {b : Nat} {own ahd tab done tills leads : Nat → Int32} {ways : Nat → Int64} (hT : TB b tab) :
    ∃ own' ahd' b' cnt tab' done' tills' leads' ways', F_X1_countWays fu (nI (msk (alb K) (cm K))) (nI (msk (enb K) (cm K))) (nI (msk (enb K) (cm K))) (nI (msk (enb K) (cm K))) own n f0 f4 f5 ahd (nI b) tab done tills kinds f1 f2 f3 f6 leads ways (nI (gapk kind late)) =
      some (o64 (pwk' K kd nt late kind), own', ahd', nI b', cnt, tab', done', tills', leads', ways') ∧ TB b' tab' := by
  obtain ⟨_, g2, g3⟩ := gap_k hk h.2.2.2.2.2.2
  have e := X1_countWays (str := enb K) (gap := nI (gapk kind late)) (own := own) (ahd := ahd) (done := done) (tills := tills) (leads := leads) (ways := ways) hfu h g3 (okI_k K) hT
  rw [g2] at e
  have : o64 (pwk' K kd nt late kind) = if full (Yk K kd nt late kind) = true then (-10 : Int64) else lN (PW (Yk K kd nt late kind) (whole (Yk K kd nt late kind)) (ini (Yk K kd nt late kind))) := by
    unfold pwk'
    by_cases c : full (Yk K kd nt late kind) = true
    · rw [if_pos c, if_pos c]; rfl
    · rw [if_neg c, if_neg c]; rfl
  rw [this]
  exact e
theorem o64_neg {o : Option Nat} (h : ∀ q, o = some q → q ≤ MW) : (0 ≤ lg_cmp (o64 o) (0 : Int64)) ↔ o ≠ none := by
  rcases o with _ | q
  · have : ¬ (0 ≤ lg_cmp (o64 none) (0 : Int64)) := by show ¬ (0 ≤ lg_cmp (-10) 0); decide
    exact ⟨fun h => absurd h this, fun h => absurd rfl h⟩
  · have hq := h q rfl
    rw [MW_eq] at hq
    have : (0 : Int32) ≤ lg_cmp (o64 (some q)) (0 : Int64) := by
      show 0 ≤ lg_cmp (lN q) 0
      rw [zL_0, zc_ge0 (by omega) (by omega)]; omega
    exact ⟨fun _ => by simp, fun _ => this⟩
theorem X1_co35 {fu : Nat} (hfu : 20000 ≤ fu) {K : Ca} {kd : Nat → Nat} {nt late : Nat} {n l : Int32} {f0 f1 f2 f3 f4 f5 f6 kinds : Nat → Int32} (h : CS K kd nt late n f0 f1 f2 f3 f4 f5 f6 kinds l) (a1 : Nat) :
    ∀ (j kf t p sc b : Nat) (r1 r2 r3 r4 cnt : Int32) (own ahd tab done tills leads : Nat → Int32) (ways : Nat → Int64), j < kf → t + j = nt → p ≤ MW → TB b tab →
    ∃ r1' r2' r3' r4' own' ahd' sc' b' cnt' tab' done' tills' leads' ways', F_X1_countOrders_b35 fu a1 n f5 (nI nt) l f0 f4 kinds f1 f2 f3 f6 kf sc r1 r2 r3 r4 own ahd (nI b) cnt tab done tills leads ways (lN p) (nI t) =
      some (o64 (eachw K kd nt j t p), r1', r2', r3', r4', own', ahd', sc', nI b', cnt', tab', done', tills', leads', ways') ∧ TB b' tab'
  | 0, kf, t, p, sc, b, r1, r2, r3, r4, cnt, own, ahd, tab, done, tills, leads, ways, hj, ht, hp, hT => by
    obtain ⟨g, rfl⟩ : ∃ g, kf = g + 1 := ⟨kf - 1, by omega⟩
    have : t = nt := by omega
    subst this
    have := h.2.2.1
    refine ⟨r1, r2, r3, r4, own, ahd, sc, b, cnt, tab, done, tills, leads, ways, ?_, hT⟩
    rw [F_X1_countOrders_b35, if_pos (by rw [zd_le (by omega) (by omega)]; omega)]
    rfl
  | j + 1, kf, t, p, sc, b, r1, r2, r3, r4, cnt, own, ahd, tab, done, tills, leads, ways, hj, ht, hp, hT => by
    obtain ⟨g, rfl⟩ : ∃ g, kf = g + 1 := ⟨kf - 1, by omega⟩
    have hnt := h.2.2.1
    obtain ⟨e1, E, e2, e3⟩ := takeTill (t := t) hfu h (by omega)
    have hg := (gap_k (kind := 0) (by omega) h.2.2.2.2.2.2).1
    rw [← h.2.2.2.2.2.1] at hg
    have hg' : F_X4_gapOf (0 : Int32) l = some (nI 0) := hg
    obtain ⟨own', ahd', b', cnt', tab', done', tills', leads', ways', e4, hT'⟩ := X1_cwTill (t := t) (own := own) (ahd := ahd) (done := done) (tills := tills) (leads := leads) (ways := ways) hfu h hT
    rw [F_X1_countOrders_b35, if_neg (by rw [zd_le (by omega) (by omega)]; omega), e1, z_b1, e2, z_b1, e3, z_b4, hg', z_b1, e4, z_b10]
    have hle : ∀ q, pwt K kd nt t = some q → q ≤ MW := fun q hq => pwt_le hq
    unfold eachw
    rcases e5 : pwt K kd nt t with _ | q
    · rw [if_neg (by decide)]
      exact ⟨_, _, _, _, _, _, _, _, _, _, _, _, _, _, rfl, hT'⟩
    · rw [if_pos ((o64_neg (fun q' hq' => by injection hq' with hq'; rw [← hq']; exact hle q e5)).mpr (by simp))]
      have hq := hle q e5
      rw [show o64 (some q) = lN q from rfl, X6_times hp hq, z_b1, zl_1, zq_add]
      exact X1_co35 hfu h a1 j g (t + 1) (prd p q) _ b' _ _ _ _ _ _ _ _ _ _ _ _ (by omega) (by omega) (prd_le _ _) hT'
theorem X1_countOrders {fu : Nat} (hfu : 20000 ≤ fu) {K : Ca} {kd : Nat → Nat} {nt late : Nat} {n l : Int32} {f0 f1 f2 f3 f4 f5 f6 kinds : Nat → Int32} (h : CS K kd nt late n f0 f1 f2 f3 f4 f5 f6 kinds l) (a1 sc : Nat) {kind : Nat} (hk : kind < 4)
    {b : Nat} {r1 r2 r3 r4 cnt : Int32} {own ahd tab done tills leads : Nat → Int32} {ways : Nat → Int64} (hT : TB b tab) :
    ∃ r1' r2' r3' r4' own' ahd' sc' b' cnt' tab' done' tills' leads' ways', F_X1_countOrders fu a1 sc n f5 r1 r2 r3 r4 (nI nt) l own f0 f4 ahd (nI b) cnt tab done tills kinds f1 f2 f3 f6 leads ways (nI kind) =
      some (o64 (ordn K kd nt late kind), r1', r2', r3', r4', own', ahd', sc', nI b', cnt', tab', done', tills', leads', ways') ∧ TB b' tab' := by
  unfold F_X1_countOrders ordn
  have ek : (nI kind = (3 : Int32)) = (kind = 3) := by rw [zl_3]; exact zd_eq (by omega) (by omega)
  by_cases c : kind = 3
  · rw [if_pos (by rw [ek]; exact c), if_pos c, zL_1, zl_0]
    exact X1_co35 hfu h a1 nt fu 0 1 sc b r1 r2 r3 r4 cnt own ahd tab done tills leads ways (by have := h.2.2.1; omega) (by omega) (by rw [MW_eq]; omega) hT
  · have hg := (gap_k hk h.2.2.2.2.2.2).1
    rw [← h.2.2.2.2.2.1] at hg
    obtain ⟨own', ahd', b', cnt', tab', done', tills', leads', ways', e4, hT'⟩ := X1_cwKind (own := own) (ahd := ahd) (done := done) (tills := tills) (leads := leads) (ways := ways) hfu h hk hT
    rw [if_neg (by rw [ek]; exact c), if_neg c, takeAll hfu h, z_b4, hg, z_b1, e4, z_b10]
    exact ⟨_, _, _, _, _, _, _, _, _, _, _, _, _, _, rfl, hT'⟩
