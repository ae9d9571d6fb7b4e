/-! the class's search of stands -/
theorem X5_kindOf {kinds : Nat → Int32} {kd : Nat → Nat} (hk : ∀ t, t < 3 → kinds t = nI (kd t)) {t : Nat} (h : t < 3) : F_X5_kindOf kinds (nI t) = some (nI (kd t)) := by
  unfold F_X5_kindOf
  simp (disch := omega) only [hk t h, zl_0, zl_1, zl_2, zl_3, zl_4, zl_5, zl_6, zl_7, zl_8, zl_9, zl_10, zl_12, zl_14, zl_15, zl_16, zl_17, zl_18, zl_20, zl_24, zl_31, zl_32, zl_44, zl_48, zl_57, zl_59, zl_63, zl_64, zl_70, zl_74, zl_75, zl_97, zl_99, zl_100, zl_122, zl_140, zl_141, zl_142, zl_255, zl_900, zl_999, zl_1000, zl_1998, zl_6000, zl_6001, zl_16383, zl_16384, zl_65536, zl_65537, zq_add, zq_mul, zq_sub, zd_lt, zd_le, zd_eq, zd_cl, zm_lt, zm_le, zm_gt, zm_ge, zm_eq, zm_qe, zm_mm, zt_lt, zf_lt, zt_le, zf_le, zt_eq, zf_eq, z_upd, z_updL, z_b1, z_b2, z_b3, z_b4, z_b5, z_b6, z_b7, z_b8, z_b9, z_b10, z_b11, z_b12, z_b13, z_b14, z_b15, z_b16, z_b17, z_b18, z_b19, z_b20, ↓reduceIte, or_false, false_or, or_self, true_or, or_true, and_true, true_and, and_false, false_and, not_true_eq_false, not_false_eq_true, ite_self, reduceCtorEq, Nat.reduceAdd, Nat.reduceMul, Nat.reduceSub, Nat.reducePow, Nat.reduceDiv, Nat.reduceMod, Nat.reduceLT, Nat.reduceLeDiff, Nat.reduceEqDiff, Nat.add_zero, Nat.zero_add, Nat.mul_one, Nat.one_mul, Nat.mul_zero, Nat.zero_mul, Nat.sub_zero, Nat.not_lt_zero, Nat.zero_le]
/-- the class's rows of stands -/
def CR (y : Sy) (G : Gr) (done tills : Nat → Int32) : Prop := ∀ i, i < G.1 → done i = nI (G.2 i).1 ∧ ∀ t, t < 3 → tills (i * 3 + t) = nI (tl (G.2 i) t)
def TB (b : Nat) (tab : Nat → Int32) : Prop := 1 ≤ b ∧ b ≤ 2000006001 ∧ ∃ tb : Nat → Nat, ∀ p, p < 16384 → tab p = nI (tb p) ∧ tb p < b + 6001
def CT (b : Nat) (tab done tills : Nat → Int32) (n : Nat) : Prop := 1 ≤ b ∧ b ≤ 2000006001 ∧ ∃ tb : Nat → Nat, (∀ p, p < 16384 → tab p = nI (tb p) ∧ tb p < b + 6001) ∧ TI (Tc tb b) (HC done tills (-1)) (fun i => i < n)
theorem CT_TB {b n : Nat} {tab done tills : Nat → Int32} (h : CT b tab done tills n) : TB b tab := ⟨h.1, h.2.1, h.2.2.choose, h.2.2.choose_spec.1⟩
/-- the class's rows of the calls of a system -/
def CL (y : Sy) (strict : Int32) (kinds f1 f2 f3 f6 : Nat → Int32) : Prop :=
  (∃ S, strict = nI S ∧ S < 2 ^ 20 ∧ ∀ c, c < ym y → S.testBit c = ystr y c) ∧ (∀ t, t < 3 → kinds t = nI (ykd y t)) ∧
  ∀ c, c < ym y → f1 c = nI (ytil y c) ∧ f2 c = nI (yact y c) ∧ f3 c = nI (ywhl y c) ∧ f6 c = yans y c
theorem X6_isOtherwise {y : Sy} (hw : WF y) {strict : Int32} {kinds f1 f2 f3 f6 tills : Nat → Int32} (hL : CL y strict kinds f1 f2 f3 f6) {x : St} (hx : okS y x) {s c : Nat} (hs : s < 6001)
    (ht : ∀ t, t < 3 → tills (s * 3 + t) = nI (tl x t)) (hc : c < ym y) {str : Nat → Bool} {S : Nat} (hS2 : S < 2 ^ 20) (hS3 : S.testBit c = str c) :
    F_X6_isOtherwise f1 tills kinds f2 f3 f6 (nI s) (nI c) (nI S) = some (nI (if (str c && !(nI (say y x c) == yans y c)) = true then 1 else 0)) := by
  obtain ⟨g1, g2, g3, g4⟩ := hL.2.2 c hc
  have hm := hw.1
  obtain ⟨w1, w2, w3, w4⟩ := hw.2.2.2.1 c hc
  have hnt := hw.2.1
  have ht3 : ytil y c < 3 := by omega
  unfold F_X6_isOtherwise F_X6_isOtherwise_b46
  have e31 : (31 : Int32) = nI 31 := rfl
  by_cases hstr : str c = true
  · have hb : S.testBit c = true := by rw [hS3, hstr]
    have q := X8_says (hw.2.2.1 _ ht3) (hx.2.2 _ ht3) w3.1 w4
    have hst : sy (ykd y (ytil y c)) (tl x (ytil y c)) (yact y c) (ywhl y c) = say y x c := rfl
    simp (disch := omega) only [tbit0, hb, hstr, X0_tillOf, X0_actOf, X0_wholeOf, X0_answerOf, g1, g2, g3, g4, X5_kindOf hL.2.1, ht, q, hst, Bool.true_and, Bool.not_eq_true', beq_eq_false_iff_ne, ne_eq, Bool.true_eq_false, zl_0, zl_1, zl_2, zl_3, zl_4, zl_5, zl_6, zl_7, zl_8, zl_9, zl_10, zl_12, zl_14, zl_15, zl_16, zl_17, zl_18, zl_20, zl_24, zl_31, zl_32, zl_44, zl_48, zl_57, zl_59, zl_63, zl_64, zl_70, zl_74, zl_75, zl_97, zl_99, zl_100, zl_122, zl_140, zl_141, zl_142, zl_255, zl_900, zl_999, zl_1000, zl_1998, zl_6000, zl_6001, zl_16383, zl_16384, zl_65536, zl_65537, zq_add, zq_mul, zq_sub, zd_lt, zd_le, zd_eq, zd_cl, zm_lt, zm_le, zm_gt, zm_ge, zm_eq, zm_qe, zm_mm, zt_lt, zf_lt, zt_le, zf_le, zt_eq, zf_eq, z_upd, z_updL, z_b1, z_b2, z_b3, z_b4, z_b5, z_b6, z_b7, z_b8, z_b9, z_b10, z_b11, z_b12, z_b13, z_b14, z_b15, z_b16, z_b17, z_b18, z_b19, z_b20, ↓reduceIte, or_false, false_or, or_self, true_or, or_true, and_true, true_and, and_false, false_and, not_true_eq_false, not_false_eq_true, ite_self, reduceCtorEq, Nat.reduceAdd, Nat.reduceMul, Nat.reduceSub, Nat.reducePow, Nat.reduceDiv, Nat.reduceMod, Nat.reduceLT, Nat.reduceLeDiff, Nat.reduceEqDiff, Nat.add_zero, Nat.zero_add, Nat.mul_one, Nat.one_mul, Nat.mul_zero, Nat.zero_mul, Nat.sub_zero, Nat.not_lt_zero, Nat.zero_le]
    by_cases e : nI (say y x c) = yans y c
    · rw [if_pos e, if_neg (by simp [e])]
    · rw [if_neg e, if_pos e]
  · have hb : S.testBit c = false := by rw [hS3]; simpa using hstr
    simp (disch := omega) only [tbit0, hb, hstr, Bool.false_and, Bool.false_eq_true, zl_0, zl_1, zl_2, zl_3, zl_4, zl_5, zl_6, zl_7, zl_8, zl_9, zl_10, zl_12, zl_14, zl_15, zl_16, zl_17, zl_18, zl_20, zl_24, zl_31, zl_32, zl_44, zl_48, zl_57, zl_59, zl_63, zl_64, zl_70, zl_74, zl_75, zl_97, zl_99, zl_100, zl_122, zl_140, zl_141, zl_142, zl_255, zl_900, zl_999, zl_1000, zl_1998, zl_6000, zl_6001, zl_16383, zl_16384, zl_65536, zl_65537, zq_add, zq_mul, zq_sub, zd_lt, zd_le, zd_eq, zd_cl, zm_lt, zm_le, zm_gt, zm_ge, zm_eq, zm_qe, zm_mm, zt_lt, zf_lt, zt_le, zf_le, zt_eq, zf_eq, z_upd, z_updL, z_b1, z_b2, z_b3, z_b4, z_b5, z_b6, z_b7, z_b8, z_b9, z_b10, z_b11, z_b12, z_b13, z_b14, z_b15, z_b16, z_b17, z_b18, z_b19, z_b20, ↓reduceIte, or_false, false_or, or_self, true_or, or_true, and_true, true_and, and_false, false_and, not_true_eq_false, not_false_eq_true, ite_self, reduceCtorEq, Nat.reduceAdd, Nat.reduceMul, Nat.reduceSub, Nat.reducePow, Nat.reduceDiv, Nat.reduceMod, Nat.reduceLT, Nat.reduceLeDiff, Nat.reduceEqDiff, Nat.add_zero, Nat.zero_add, Nat.mul_one, Nat.one_mul, Nat.mul_zero, Nat.zero_mul, Nat.sub_zero, Nat.not_lt_zero, Nat.zero_le]
theorem alk_at {done tills : Nat → Int32} {r s : Nat} {x z : St} (hxl : x.1 < 2 ^ 20) (hzl : z.1 < 2 ^ 20) (hxt : ∀ t, t < 3 → tl x t < 134217728) (hzt : ∀ t, t < 3 → tl z t < 134217728)
    (hr : done r = nI x.1) (hs : done s = nI z.1) (hr2 : ∀ t, t < 3 → tills (r * 3 + t) = nI (tl x t)) (hs2 : ∀ t, t < 3 → tills (s * 3 + t) = nI (tl z t)) : (alk done tills (-1) r s = true) = (x = z) := by
  unfold alk
  have a0 := hxt 0 (by omega)
  have a1 := hxt 1 (by omega)
  have a2 := hxt 2 (by omega)
  have b0 := hzt 0 (by omega)
  have b1 := hzt 1 (by omega)
  have b2 := hzt 2 (by omega)
  rw [hr, hs, hr2 0 (by omega), hr2 1 (by omega), hr2 2 (by omega), hs2 0 (by omega), hs2 1 (by omega), hs2 2 (by omega), Int32.and_neg_one]
  simp only [Bool.and_eq_true, decide_eq_true_eq, Int32.xor_eq_zero_iff]
  rw [zd_eq (by omega) (by omega), zd_eq (by omega) (by omega), zd_eq (by omega) (by omega), zd_eq (by omega) (by omega)]
  apply propext
  constructor
  · rintro ⟨h, h0, h1, h2⟩
    apply st_ext h
    intro t ht
    have c : t = 0 ∨ t = 1 ∨ t = 2 := by omega
    rcases c with rfl | rfl | rfl <;> assumption
  · rintro rfl
    exact ⟨rfl, rfl, rfl, rfl⟩
theorem HC_cong {done tills done' tills' : Nat → Int32} {look : Int32} {i : Nat} (h : done' i = done i) (h2 : ∀ t, t < 3 → tills' (i * 3 + t) = tills (i * 3 + t)) : HC done' tills' look i = HC done tills look i := by
  unfold HC hsh
  rw [h, h2 0 (by omega), h2 1 (by omega), h2 2 (by omega)]
/-- the new row, looked up -/
theorem X6_lead146 {fu b s c : Nat} (hfu : 20000 ≤ fu) {y : Sy} (hw : WF y) {G : Gr} (hG : G.1 ≤ 6000) (hnod : nod G) (hok : ∀ i, i < G.1 → okS y (G.2 i)) {done tills tills2 tab : Nat → Int32} (hR : CR y G done tills) (hT : CT b tab done tills G.1)
    (hs : s < G.1) (hc : c < 20) {z : St} (hz : okS y z) (hz1 : z.1 = (G.2 s).1 ||| 2 ^ c) (h2 : ∀ p, p < G.1 * 3 → tills2 p = tills p) (h3 : ∀ t, t < 3 → tills2 (G.1 * 3 + t) = nI (tl z t)) :
    ∃ done' tab', F_X6_leadOn_b146 fu (nI b) (nI G.1) tills2 done tab (nI s) (nI c) = some (nI (fnd (ad G (some z)) z), nI (ad G (some z)).1, tills2, done', tab') ∧
      CR y (ad G (some z)) done' tills2 ∧ CT b tab' done' tills2 (ad G (some z)).1 := by
  obtain ⟨hb1, hb2, tb, ht1, hTI⟩ := hT
  have hd : upd done G.1 (done s ||| (1 : Int32) <<< (nI c &&& 31)) = upd done G.1 (nI z.1) := by
    rw [(hR s hs).1, zl_1, show (31 : Int32) = nI 31 from rfl, zs_one (by omega), zq_or, ← hz1]
  have hc1 : ∀ i, i < G.1 → upd done G.1 (nI z.1) i = done i := fun i hi => by rw [z_upd, if_neg (by omega)]
  have hc2 : ∀ i, i < G.1 → ∀ t, t < 3 → tills2 (i * 3 + t) = tills (i * 3 + t) := fun i hi t ht => h2 _ (by omega)
  have hTI' : TI (Tc tb b) (HC (upd done G.1 (nI z.1)) tills2 (-1)) (fun i => i < G.1) := TI_congr hTI (fun i hi => HC_cong (hc1 i hi) (hc2 i hi)) (fun i => Iff.rfl)
  have hR2 : ∀ i, i < G.1 → upd done G.1 (nI z.1) i = nI (G.2 i).1 ∧ ∀ t, t < 3 → tills2 (i * 3 + t) = nI (tl (G.2 i) t) :=
    fun i hi => ⟨(hc1 i hi).trans (hR i hi).1, fun t ht => (hc2 i hi t ht).trans ((hR i hi).2 t ht)⟩
  have hnew : upd done G.1 (nI z.1) G.1 = nI z.1 := by rw [z_upd, if_pos rfl]
  have hzl := okS_lt hw hz
  have halk : ∀ i, i < G.1 → (alk (upd done G.1 (nI z.1)) tills2 (-1) i G.1 = true) = (G.2 i = z) := fun i hi =>
    alk_at (okS_lt hw (hok i hi)) hzl (fun t ht => okT_lt ((hok i hi).2.2 t ht)) (fun t ht => okT_lt (hz.2.2 t ht)) (hR2 i hi).1 hnew (hR2 i hi).2 h3
  unfold F_X6_leadOn_b146
  rw [if_neg (nI_in (by omega) (by omega)), if_neg (nI_in (by omega) (by omega)), zd_cl (by omega), zd_cl (by omega), hd]
  rcases X6_find fu hfu (look := -1) (by omega) (fun p hp => ⟨(ht1 p hp).1, by have := (ht1 p hp).2; omega⟩) (by omega : G.1 < 6001) hTI' with ⟨r, hr, ha, e⟩ | ⟨hno, hyes⟩
  · have hr' : r < G.1 := hr
    have hz' : G.2 r = z := (halk r hr').mp ha
    have hf : fnd G z = r := by rw [← hz']; exact fnd_at hnod hr'
    have hadG : ad G (some z) = G := by
      unfold ad; simp only; rw [if_pos (by omega)]
    rw [e, hadG, hf]
    refine ⟨upd done G.1 (nI z.1), tab, ?_, hR2, hb1, hb2, tb, ht1, hTI'⟩
    simp (disch := omega) only [zl_0, zl_1, zl_2, zl_3, zl_4, zl_5, zl_6, zl_7, zl_8, zl_9, zl_10, zl_12, zl_14, zl_15, zl_16, zl_17, zl_18, zl_20, zl_24, zl_31, zl_32, zl_44, zl_48, zl_57, zl_59, zl_63, zl_64, zl_70, zl_74, zl_75, zl_97, zl_99, zl_100, zl_122, zl_140, zl_141, zl_142, zl_255, zl_900, zl_999, zl_1000, zl_1998, zl_6000, zl_6001, zl_16383, zl_16384, zl_65536, zl_65537, zq_add, zq_mul, zq_sub, zd_lt, zd_le, zd_eq, zd_cl, zm_lt, zm_le, zm_gt, zm_ge, zm_eq, zm_qe, zm_mm, zt_lt, zf_lt, zt_le, zf_le, zt_eq, zf_eq, z_upd, z_updL, z_b1, z_b2, z_b3, z_b4, z_b5, z_b6, z_b7, z_b8, z_b9, z_b10, z_b11, z_b12, z_b13, z_b14, z_b15, z_b16, z_b17, z_b18, z_b19, z_b20, ↓reduceIte, or_false, false_or, or_self, true_or, or_true, and_true, true_and, and_false, false_and, not_true_eq_false, not_false_eq_true, ite_self, reduceCtorEq, Nat.reduceAdd, Nat.reduceMul, Nat.reduceSub, Nat.reducePow, Nat.reduceDiv, Nat.reduceMod, Nat.reduceLT, Nat.reduceLeDiff, Nat.reduceEqDiff, Nat.add_zero, Nat.zero_add, Nat.mul_one, Nat.one_mul, Nat.mul_zero, Nat.zero_mul, Nat.sub_zero, Nat.not_lt_zero, Nat.zero_le]
  · obtain ⟨tab', tb', e, h4, h5⟩ := hyes (Nat.lt_irrefl _)
    have hnf : ¬ fnd G z < G.1 := by
      intro g
      have := hno (fnd G z) g
      have h6 := (halk _ g).mpr (fnd_lt g)
      rw [this] at h6; cases h6
    have hadG : ad G (some z) = (G.1 + 1, fun i => if i = G.1 then z else G.2 i) := by
      unfold ad; simp only; rw [if_neg hnf]
    have hfad : fnd (ad G (some z)) z = G.1 := by
      have h6 := fnd_at (ad_nod (o := some z) hnod) (i := G.1) (by rw [hadG]; exact Nat.lt_succ_self _)
      have h7 : (ad G (some z)).2 G.1 = z := by rw [hadG]; show (if G.1 = G.1 then z else _) = z; rw [if_pos rfl]
      rw [h7] at h6
      exact h6
    rw [e, hfad]
    refine ⟨upd done G.1 (nI z.1), tab', ?_, ?_, ?_⟩
    · rw [hadG]
      simp (disch := omega) only [zl_0, zl_1, zl_2, zl_3, zl_4, zl_5, zl_6, zl_7, zl_8, zl_9, zl_10, zl_12, zl_14, zl_15, zl_16, zl_17, zl_18, zl_20, zl_24, zl_31, zl_32, zl_44, zl_48, zl_57, zl_59, zl_63, zl_64, zl_70, zl_74, zl_75, zl_97, zl_99, zl_100, zl_122, zl_140, zl_141, zl_142, zl_255, zl_900, zl_999, zl_1000, zl_1998, zl_6000, zl_6001, zl_16383, zl_16384, zl_65536, zl_65537, zq_add, zq_mul, zq_sub, zd_lt, zd_le, zd_eq, zd_cl, zm_lt, zm_le, zm_gt, zm_ge, zm_eq, zm_qe, zm_mm, zt_lt, zf_lt, zt_le, zf_le, zt_eq, zf_eq, z_upd, z_updL, z_b1, z_b2, z_b3, z_b4, z_b5, z_b6, z_b7, z_b8, z_b9, z_b10, z_b11, z_b12, z_b13, z_b14, z_b15, z_b16, z_b17, z_b18, z_b19, z_b20, ↓reduceIte, or_false, false_or, or_self, true_or, or_true, and_true, true_and, and_false, false_and, not_true_eq_false, not_false_eq_true, ite_self, reduceCtorEq, Nat.reduceAdd, Nat.reduceMul, Nat.reduceSub, Nat.reducePow, Nat.reduceDiv, Nat.reduceMod, Nat.reduceLT, Nat.reduceLeDiff, Nat.reduceEqDiff, Nat.add_zero, Nat.zero_add, Nat.mul_one, Nat.one_mul, Nat.mul_zero, Nat.zero_mul, Nat.sub_zero, Nat.not_lt_zero, Nat.zero_le]
    · rw [hadG]
      intro i hi
      have hi' : i < G.1 + 1 := hi
      show _ = nI (if i = G.1 then z else G.2 i).1 ∧ ∀ t, t < 3 → _ = nI (tl (if i = G.1 then z else G.2 i) t)
      by_cases g : i = G.1
      · rw [if_pos g, g]; exact ⟨hnew, h3⟩
      · rw [if_neg g]; exact hR2 i (by omega)
    · rw [hadG]
      refine ⟨hb1, hb2, tb', fun p hp => ⟨(h4 p hp).1, ?_⟩, TI_congr h5 (fun i _ => rfl) (fun i => ?_)⟩
      · rcases (h4 p hp).2 with g | g
        · rw [g]; exact (ht1 p hp).2
        · rw [g]; omega
      · show (i < G.1 ∨ i = G.1) ↔ i < G.1 + 1
        omega
