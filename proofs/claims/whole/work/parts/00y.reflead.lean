def trt (y : Sy) (t T : Nat) (v : Int64) : Prop := if t < ynt y then tr (ykd y t) T v else T = i0 y t ∧ v = lN 0
theorem trt_inj {y : Sy} {t T T' : Nat} {v v' : Int64} (h : trt y t T v) (h' : trt y t T' v') : (T = T') = (v = v') := by
  unfold trt at h h'
  split at h
  · rw [if_pos ‹_›] at h'; exact tr_inj h h'
  · rw [if_neg ‹_›] at h'
    rw [h.1, h'.1, h.2, h'.2]
    simp
/-- the reference's rows of stands -/
def RR (y : Sy) (G : Gr) (doneOf : Nat → Int32) (tills : Nat → Int64) : Prop := ∀ i, i < G.1 → RD y doneOf i (G.2 i) ∧ ∀ t, t < 3 → trt y t (tl (G.2 i) t) (tills (3 * i + t))
def RT (slot doneOf : Nat → Int32) (tills : Nat → Int64) (n : Nat) : Prop := ∃ T, (∀ p, p < 16384 → slot p = cn (T p)) ∧ TI T (HR doneOf tills) (fun i => i < n)
def kinds_r (y : Sy) (r : Nat → Int32) : Prop := r 2 = nI (ynt y) ∧ ∀ t, t < ynt y → r (3 + t) = nI (ykd y t)
theorem X10_has {L c : Nat} (hL : L < 2 ^ 20) (hc : c < 20) : F_X10_has (nI L) (nI c) = some (nI (if L.testBit c = true then 1 else 0)) := by
  unfold F_X10_has
  have e31 : (31 : Int32) = nI 31 := rfl
  have q := tbit (X := L) (c := c) (by omega) (by omega)
  rw [zl_1, e31]
  by_cases h : L.testBit c = true
  · rw [if_pos (by rw [q]; exact h), if_pos h]
  · rw [if_neg (by rw [q]; exact h), if_neg h]; rfl
theorem alR_at {y : Sy} (hw : WF y) {doneOf : Nat → Int32} {tills : Nat → Int64} {r s : Nat} {x z : St} (hx : okS y x) (hz : okS y z) (hr : RD y doneOf r x) (hs : RD y doneOf s z)
    (hr2 : ∀ t, t < 3 → trt y t (tl x t) (tills (3 * r + t))) (hs2 : ∀ t, t < 3 → trt y t (tl z t) (tills (3 * s + t))) : (alR doneOf tills r s = true) = (x = z) := by
  rw [alR_iff]
  apply propext
  constructor
  · rintro ⟨h1, h2⟩
    apply st_ext
    · apply cnt_inj hw hx hz
      intro q hq
      have := h1 q hq
      rw [hr q hq, hs q hq] at this
      have a := Nat.le_trans (cnt_le (y := y) (q := q) (D := x.1)) (lng_le hw)
      have b := Nat.le_trans (cnt_le (y := y) (q := q) (D := z.1)) (lng_le hw)
      rwa [zd_eq (by omega) (by omega)] at this
    · intro t ht
      exact (trt_inj (hr2 t ht) (hs2 t ht)).mpr (h2 t ht)
  · rintro rfl
    exact ⟨fun q hq => (hr q hq).trans (hs q hq).symm, fun t ht => (trt_inj (hr2 t ht) (hs2 t ht)).mp rfl⟩
/-- the new row of the reference, looked up -/
theorem X10_lead_find {fu : Nat} (hfu : 20000 ≤ fu) {y : Sy} (hw : WF y) {G : Gr} (hG : G.1 ≤ 6000) (hnod : nod G) (hok : ∀ i, i < G.1 → okS y (G.2 i)) {doneOf slot doneOf2 : Nat → Int32} {tills tills2 : Nat → Int64} (hR : RR y G doneOf tills) (hT : RT slot doneOf tills G.1)
    {z : St} (hz : okS y z) (h1 : ∀ p, p < 4 * G.1 → doneOf2 p = doneOf p) (h2 : ∀ p, p < 3 * G.1 → tills2 p = tills p) (h3 : RD y doneOf2 G.1 z) (h4 : ∀ t, t < 3 → trt y t (tl z t) (tills2 (3 * G.1 + t))) :
    (6000 < (ad G (some z)).1 ∧ F_X10_findStand fu (nI G.1) (nI 0) doneOf2 tills2 slot (nI G.1) = some (-1, nI G.1, nI 1, slot)) ∨
    ((ad G (some z)).1 ≤ 6000 ∧ ∃ slot', F_X10_findStand fu (nI G.1) (nI 0) doneOf2 tills2 slot (nI G.1) = some (nI (fnd (ad G (some z)) z), nI (ad G (some z)).1, nI 0, slot') ∧
      RR y (ad G (some z)) doneOf2 tills2 ∧ RT slot' doneOf2 tills2 (ad G (some z)).1) := by
  obtain ⟨T, hT1, hTI⟩ := hT
  have hc1 : ∀ i, i < G.1 → RD y doneOf2 i (G.2 i) := fun i hi q hq => by rw [h1 _ (by omega)]; exact (hR i hi).1 q hq
  have hc2 : ∀ i, i < G.1 → ∀ t, t < 3 → trt y t (tl (G.2 i) t) (tills2 (3 * i + t)) := fun i hi t ht => by rw [h2 _ (by omega)]; exact (hR i hi).2 t ht
  have hTI' : TI T (HR doneOf2 tills2) (fun i => i < G.1) := TI_congr hTI (fun i hi => HR_cong (fun q hq => h1 _ (by have h' : i < G.1 := hi; omega)) (fun t ht => h2 _ (by have h' : i < G.1 := hi; omega))) (fun i => Iff.rfl)
  have halk : ∀ i, i < G.1 → (alR doneOf2 tills2 i G.1 = true) = (G.2 i = z) := fun i hi => alR_at hw (hok i hi) hz (hc1 i hi) h3 (hc2 i hi) h4
  rcases X10_find (stands := nI G.1) (isFull := nI 0) hfu hG hT1 hTI' with ⟨r, hr, ha, e⟩ | ⟨hno, hfull, hyes⟩
  · right
    have hr' : r < G.1 := hr
    have hz' : G.2 r = z := (halk r hr').mp ha
    have hf : fnd G z = r := by rw [← hz']; exact fnd_at hnod hr'
    have hadG : ad G (some z) = G := by
      unfold ad; simp only; rw [if_pos (by omega)]
    rw [hadG, hf]
    exact ⟨hG, slot, e, fun i hi => ⟨hc1 i hi, hc2 i hi⟩, T, hT1, hTI'⟩
  · have hnf : ¬ fnd G z < G.1 := by
      intro g
      have := hno (fnd G z) g
      have h6 := (halk _ g).mpr (fnd_lt g)
      rw [this] at h6; cases h6
    have hadG : ad G (some z) = (G.1 + 1, fun i => if i = G.1 then z else G.2 i) := by
      unfold ad; simp only; rw [if_neg hnf]
    have hfad : fnd (ad G (some z)) z = G.1 := by
      have h6 := fnd_at (ad_nod (o := some z) hnod) (i := G.1) (by rw [hadG]; exact Nat.lt_succ_self _)
      have h7 : (ad G (some z)).2 G.1 = z := by rw [hadG]; show (if G.1 = G.1 then z else _) = z; rw [if_pos rfl]
      rw [h7] at h6
      exact h6
    by_cases h6 : G.1 = 6000
    · left
      refine ⟨by rw [hadG]; show 6000 < G.1 + 1; omega, hfull h6⟩
    · right
      obtain ⟨slot', T', e, h7, h8⟩ := hyes h6 (Nat.lt_irrefl _)
      rw [hfad]
      refine ⟨by rw [hadG]; show G.1 + 1 ≤ 6000; omega, slot', ?_, ?_, T', h7, TI_congr h8 (fun i _ => rfl) (fun i => ?_)⟩
      · rw [e, hadG, zl_1, zq_add]
      · rw [hadG]
        intro i hi
        have hi' : i < G.1 + 1 := hi
        show RD y doneOf2 i (if i = G.1 then z else G.2 i) ∧ ∀ t, t < 3 → trt y t (tl (if i = G.1 then z else G.2 i) t) (tills2 (3 * i + t))
        by_cases g : i = G.1
        · rw [if_pos g, g]; exact ⟨h3, h4⟩
        · rw [if_neg g]; exact ⟨hc1 i (by omega), hc2 i (by omega)⟩
      · rw [hadG]
        show (i < G.1 ∨ i = G.1) ↔ i < G.1 + 1
        omega
/-- what was heard: the answers of the steps -/
def HE (y : Sy) (G : Gr) (n : Nat) (heard : Nat → Int32) : Prop := ∀ i k c, 4 * i + k < n → k < 4 → nx y k (G.2 i).1 = some c → otr y (G.2 i) c = false → heard (4 * i + k) = nI (say y (G.2 i) c)
theorem X10_lead164 {fu : Nat} (hfu : 20000 ≤ fu) {y : Sy} (hw : WF y) {G : Gr} (hG : G.1 ≤ 6000) (hnod : nod G) (hok : ∀ i, i < G.1 → okS y (G.2 i)) {nextOf doneOf heard slot : Nat → Int32} {tills : Nat → Int64} (hR : RR y G doneOf tills) (hT : RT slot doneOf tills G.1)
    {s k c : Nat} (hs : s < G.1) (hk : k < 4) (hn : nx y k (G.2 s).1 = some c) {answer : Int32} {v : Int64} (hv : tr (ykd y (ytil y c)) (af (ykd y (ytil y c)) (tl (G.2 s) (ytil y c)) (yact y c) (ywhl y c)) v) :
    ∃ n' full' next' doneOf' tills' slot', F_X10_leadsOn_b164 fu answer (nI G.1) (nI 0) nextOf doneOf tills heard slot (nI s) (nI k) (nI (4 * s + k)) (nI (ytil y c)) v = some (answer, n', full', next', doneOf', tills', upd heard (4 * s + k) answer, slot') ∧
      ((6000 < (ad G (some (go y (G.2 s) c))).1 ∧ full' = nI 1) ∨ ((ad G (some (go y (G.2 s) c))).1 ≤ 6000 ∧ full' = nI 0 ∧ n' = nI (ad G (some (go y (G.2 s) c))).1 ∧ next' = upd nextOf (4 * s + k) (nI (fnd (ad G (some (go y (G.2 s) c))) (go y (G.2 s) c))) ∧
        RR y (ad G (some (go y (G.2 s) c))) doneOf' tills' ∧ RT slot' doneOf' tills' (ad G (some (go y (G.2 s) c))).1)) := by
  have hxs := hok s hs
  have hq := nx_some.mp hn
  obtain ⟨w1, w2, w3, w4⟩ := hw.2.2.2.1 c hq.1
  have hnt := hw.2.1
  have ht3 : ytil y c < 3 := by omega
  obtain ⟨f, hf⟩ : ∃ f, fu = f + 1 + 1 + 1 + 1 + 1 := ⟨fu - 5, by omega⟩
  generalize hD2 : (upd (upd (upd (upd doneOf (4 * G.1) (nI (cnt y 0 (go y (G.2 s) c).1))) (4 * G.1 + 1) (nI (cnt y 1 (go y (G.2 s) c).1))) (4 * G.1 + 2) (nI (cnt y 2 (go y (G.2 s) c).1))) (4 * G.1 + 3) (nI (cnt y 3 (go y (G.2 s) c).1))) = D2
  have hD20 : ∀ p, p < 4 * G.1 → D2 p = doneOf p := by
    intro p hp
    rw [← hD2, z_upd, z_upd, z_upd, z_upd, if_neg (by omega), if_neg (by omega), if_neg (by omega), if_neg (by omega)]
  have hD21 : RD y D2 G.1 (go y (G.2 s) c) := by
    intro q hq
    rw [← hD2, z_upd, z_upd, z_upd, z_upd]
    have c' : q = 0 ∨ q = 1 ∨ q = 2 ∨ q = 3 := by omega
    rcases c' with rfl | rfl | rfl | rfl
    · rw [if_neg (by omega), if_neg (by omega), if_neg (by omega), if_pos (by omega)]
    · rw [if_neg (by omega), if_neg (by omega), if_pos (by omega)]
    · rw [if_neg (by omega), if_pos (by omega)]
    · rw [if_pos (by omega)]
  have hds : ∀ q, q < 4 → doneOf (4 * s + q) = nI (cnt y q (G.2 s).1) := (hR s hs).1
  have hcg : ∀ q, cnt y q (go y (G.2 s) c).1 = cnt y q (G.2 s).1 + if q = k then 1 else 0 := fun q => cnt_go hn
  generalize hT2 : vp_updL (vp_updL (vp_updL tills (3 * G.1) (if 0 = ytil y c then v else tills (3 * s))) (3 * G.1 + 1) (if 1 = ytil y c then v else tills (3 * s + 1))) (3 * G.1 + 2) (if 2 = ytil y c then v else tills (3 * s + 2)) = T2
  have hT20 : ∀ p, p < 3 * G.1 → T2 p = tills p := by
    intro p hp
    rw [← hT2, z_updL, z_updL, z_updL, if_neg (by omega), if_neg (by omega), if_neg (by omega)]
  have hT21 : ∀ t, t < 3 → trt y t (tl (go y (G.2 s) c) t) (T2 (3 * G.1 + t)) := by
    intro t ht
    have e : T2 (3 * G.1 + t) = if t = ytil y c then v else tills (3 * s + t) := by
      rw [← hT2, z_updL, z_updL, z_updL]
      have c' : t = 0 ∨ t = 1 ∨ t = 2 := by omega
      rcases c' with rfl | rfl | rfl
      · rw [if_neg (by omega), if_neg (by omega), if_pos (by omega)]; rfl
      · rw [if_neg (by omega), if_pos (by omega)]
      · rw [if_pos (by omega)]
    rw [e, go_tl ht]
    by_cases g : t = ytil y c
    · rw [if_pos g, if_pos g, g]
      unfold trt
      rw [if_pos w2]
      exact hv
    · rw [if_neg g, if_neg g]
      exact (hR s hs).2 t ht
  have e177 : F_X10_leadsOn_b164 fu answer (nI G.1) (nI 0) nextOf doneOf tills heard slot (nI s) (nI k) (nI (4 * s + k)) (nI (ytil y c)) v =
      F_X10_leadsOn_b229 fu answer (nI G.1) (nI 0) nextOf D2 (upd heard (4 * s + k) answer) slot (nI s) (nI (4 * s + k)) (nI (ytil y c)) v fu tills (nI 0) := by
    unfold F_X10_leadsOn_b164
    rw [if_neg (nI_in (by omega) (by omega)), zd_cl (by omega)]
    rw [show F_X10_leadsOn_b177 fu answer (nI G.1) (nI 0) nextOf tills (upd heard (4 * s + k) answer) slot (nI s) (nI k) (nI (4 * s + k)) (nI (ytil y c)) v fu doneOf (0 : Int32) =
      F_X10_leadsOn_b177 fu answer (nI G.1) (nI 0) nextOf tills (upd heard (4 * s + k) answer) slot (nI s) (nI k) (nI (4 * s + k)) (nI (ytil y c)) v (f + 1 + 1 + 1 + 1 + 1) doneOf (0 : Int32) by rw [← hf]]
    have hstep : ∀ (g q : Nat) (D : Nat → Int32), q < 4 → (∀ q', q' < 4 → D (4 * s + q') = nI (cnt y q' (G.2 s).1)) →
        F_X10_leadsOn_b177 fu answer (nI G.1) (nI 0) nextOf tills (upd heard (4 * s + k) answer) slot (nI s) (nI k) (nI (4 * s + k)) (nI (ytil y c)) v (g + 1) D (nI q) =
        F_X10_leadsOn_b177 fu answer (nI G.1) (nI 0) nextOf tills (upd heard (4 * s + k) answer) slot (nI s) (nI k) (nI (4 * s + k)) (nI (ytil y c)) v g (upd D (4 * G.1 + q) (nI (cnt y q (go y (G.2 s) c).1))) (nI (q + 1)) := by
      intro g q D hq hD
      have hle := Nat.le_trans (cnt_le (y := y) (q := q) (D := (G.2 s).1)) (lng_le hw)
      rw [F_X10_leadsOn_b177]
      unfold F_X10_leadsOn_b218
      rw [hcg q]
      by_cases e : q = k
      · simp (disch := omega) only [hD q hq, e, zl_0, zl_1, zl_2, zl_3, zl_4, zl_5, zl_6, zl_7, zl_8, zl_9, zl_10, zl_12, zl_14, zl_15, zl_16, zl_17, zl_18, zl_20, zl_24, zl_31, zl_32, zl_44, zl_48, zl_57, zl_59, zl_63, zl_64, zl_70, zl_74, zl_75, zl_97, zl_99, zl_100, zl_122, zl_140, zl_141, zl_142, zl_255, zl_900, zl_999, zl_1000, zl_1998, zl_6000, zl_6001, zl_16383, zl_16384, zl_65536, zl_65537, zq_add, zq_mul, zq_sub, zd_lt, zd_le, zd_eq, zd_cl, zm_lt, zm_le, zm_gt, zm_ge, zm_eq, zm_qe, zm_mm, zt_lt, zf_lt, zt_le, zf_le, zt_eq, zf_eq, z_upd, z_updL, z_b1, z_b2, z_b3, z_b4, z_b5, z_b6, z_b7, z_b8, z_b9, z_b10, z_b11, z_b12, z_b13, z_b14, z_b15, z_b16, z_b17, z_b18, z_b19, z_b20, ↓reduceIte, or_false, false_or, or_self, true_or, or_true, and_true, true_and, and_false, false_and, not_true_eq_false, not_false_eq_true, ite_self, reduceCtorEq, Nat.reduceAdd, Nat.reduceMul, Nat.reduceSub, Nat.reducePow, Nat.reduceDiv, Nat.reduceMod, Nat.reduceLT, Nat.reduceLeDiff, Nat.reduceEqDiff, Nat.add_zero, Nat.zero_add, Nat.mul_one, Nat.one_mul, Nat.mul_zero, Nat.zero_mul, Nat.sub_zero, Nat.not_lt_zero, Nat.zero_le]
        rw [← e, hD q hq]
        simp (disch := omega) only [zl_0, zl_1, zl_2, zl_3, zl_4, zl_5, zl_6, zl_7, zl_8, zl_9, zl_10, zl_12, zl_14, zl_15, zl_16, zl_17, zl_18, zl_20, zl_24, zl_31, zl_32, zl_44, zl_48, zl_57, zl_59, zl_63, zl_64, zl_70, zl_74, zl_75, zl_97, zl_99, zl_100, zl_122, zl_140, zl_141, zl_142, zl_255, zl_900, zl_999, zl_1000, zl_1998, zl_6000, zl_6001, zl_16383, zl_16384, zl_65536, zl_65537, zq_add, zq_mul, zq_sub, zd_lt, zd_le, zd_eq, zd_cl, zm_lt, zm_le, zm_gt, zm_ge, zm_eq, zm_qe, zm_mm, zt_lt, zf_lt, zt_le, zf_le, zt_eq, zf_eq, z_upd, z_updL, z_b1, z_b2, z_b3, z_b4, z_b5, z_b6, z_b7, z_b8, z_b9, z_b10, z_b11, z_b12, z_b13, z_b14, z_b15, z_b16, z_b17, z_b18, z_b19, z_b20, ↓reduceIte, or_false, false_or, or_self, true_or, or_true, and_true, true_and, and_false, false_and, not_true_eq_false, not_false_eq_true, ite_self, reduceCtorEq, Nat.reduceAdd, Nat.reduceMul, Nat.reduceSub, Nat.reducePow, Nat.reduceDiv, Nat.reduceMod, Nat.reduceLT, Nat.reduceLeDiff, Nat.reduceEqDiff, Nat.add_zero, Nat.zero_add, Nat.mul_one, Nat.one_mul, Nat.mul_zero, Nat.zero_mul, Nat.sub_zero, Nat.not_lt_zero, Nat.zero_le]
      · simp (disch := omega) only [hD q hq, e, zl_0, zl_1, zl_2, zl_3, zl_4, zl_5, zl_6, zl_7, zl_8, zl_9, zl_10, zl_12, zl_14, zl_15, zl_16, zl_17, zl_18, zl_20, zl_24, zl_31, zl_32, zl_44, zl_48, zl_57, zl_59, zl_63, zl_64, zl_70, zl_74, zl_75, zl_97, zl_99, zl_100, zl_122, zl_140, zl_141, zl_142, zl_255, zl_900, zl_999, zl_1000, zl_1998, zl_6000, zl_6001, zl_16383, zl_16384, zl_65536, zl_65537, zq_add, zq_mul, zq_sub, zd_lt, zd_le, zd_eq, zd_cl, zm_lt, zm_le, zm_gt, zm_ge, zm_eq, zm_qe, zm_mm, zt_lt, zf_lt, zt_le, zf_le, zt_eq, zf_eq, z_upd, z_updL, z_b1, z_b2, z_b3, z_b4, z_b5, z_b6, z_b7, z_b8, z_b9, z_b10, z_b11, z_b12, z_b13, z_b14, z_b15, z_b16, z_b17, z_b18, z_b19, z_b20, ↓reduceIte, or_false, false_or, or_self, true_or, or_true, and_true, true_and, and_false, false_and, not_true_eq_false, not_false_eq_true, ite_self, reduceCtorEq, Nat.reduceAdd, Nat.reduceMul, Nat.reduceSub, Nat.reducePow, Nat.reduceDiv, Nat.reduceMod, Nat.reduceLT, Nat.reduceLeDiff, Nat.reduceEqDiff, Nat.add_zero, Nat.zero_add, Nat.mul_one, Nat.one_mul, Nat.mul_zero, Nat.zero_mul, Nat.sub_zero, Nat.not_lt_zero, Nat.zero_le]
    have hkeep : ∀ (D : Nat → Int32) (q : Nat) (a : Int32), (∀ q', q' < 4 → D (4 * s + q') = nI (cnt y q' (G.2 s).1)) → ∀ q', q' < 4 → upd D (4 * G.1 + q) a (4 * s + q') = nI (cnt y q' (G.2 s).1) := by
      intro D q a hD q' hq'
      rw [z_upd, if_neg (by omega)]
      exact hD q' hq'
    have k1 := hkeep _ 0 (nI (cnt y 0 (go y (G.2 s) c).1)) hds
    have k2 := hkeep _ 1 (nI (cnt y 1 (go y (G.2 s) c).1)) k1
    have k3 := hkeep _ 2 (nI (cnt y 2 (go y (G.2 s) c).1)) k2
    rw [zl_0, hstep _ 0 _ (by omega) hds, hstep _ 1 _ (by omega) k1, hstep _ 2 _ (by omega) k2, hstep _ 3 _ (by omega) k3]
    rw [F_X10_leadsOn_b177, if_pos (by decide)]
    rw [← hD2]
    rfl
  have e229 : F_X10_leadsOn_b229 fu answer (nI G.1) (nI 0) nextOf D2 (upd heard (4 * s + k) answer) slot (nI s) (nI (4 * s + k)) (nI (ytil y c)) v fu tills (nI 0) =
      bnd4 (F_X10_findStand fu (nI G.1) (nI 0) D2 T2 slot (nI G.1)) fun r288 u288_0 u288_1 u288_2 => some (answer, u288_0, u288_1, (upd nextOf (4 * s + k) r288), D2, T2, upd heard (4 * s + k) answer, u288_2) := by
    rw [show F_X10_leadsOn_b229 fu answer (nI G.1) (nI 0) nextOf D2 (upd heard (4 * s + k) answer) slot (nI s) (nI (4 * s + k)) (nI (ytil y c)) v fu tills (nI 0) =
      F_X10_leadsOn_b229 fu answer (nI G.1) (nI 0) nextOf D2 (upd heard (4 * s + k) answer) slot (nI s) (nI (4 * s + k)) (nI (ytil y c)) v (f + 1 + 1 + 1 + 1 + 1) tills (nI 0) by rw [← hf]]
    have hstep : ∀ (g t : Nat) (T : Nat → Int64), t < 3 →
        F_X10_leadsOn_b229 fu answer (nI G.1) (nI 0) nextOf D2 (upd heard (4 * s + k) answer) slot (nI s) (nI (4 * s + k)) (nI (ytil y c)) v (g + 1) T (nI t) =
        F_X10_leadsOn_b229 fu answer (nI G.1) (nI 0) nextOf D2 (upd heard (4 * s + k) answer) slot (nI s) (nI (4 * s + k)) (nI (ytil y c)) v g (vp_updL T (3 * G.1 + t) (if t = ytil y c then v else T (3 * s + t))) (nI (t + 1)) := by
      intro g t T ht
      rw [F_X10_leadsOn_b229]
      unfold F_X10_leadsOn_b271
      by_cases e : t = ytil y c
      · rw [if_pos e]
        simp (disch := omega) only [e, zl_0, zl_1, zl_2, zl_3, zl_4, zl_5, zl_6, zl_7, zl_8, zl_9, zl_10, zl_12, zl_14, zl_15, zl_16, zl_17, zl_18, zl_20, zl_24, zl_31, zl_32, zl_44, zl_48, zl_57, zl_59, zl_63, zl_64, zl_70, zl_74, zl_75, zl_97, zl_99, zl_100, zl_122, zl_140, zl_141, zl_142, zl_255, zl_900, zl_999, zl_1000, zl_1998, zl_6000, zl_6001, zl_16383, zl_16384, zl_65536, zl_65537, zq_add, zq_mul, zq_sub, zd_lt, zd_le, zd_eq, zd_cl, zm_lt, zm_le, zm_gt, zm_ge, zm_eq, zm_qe, zm_mm, zt_lt, zf_lt, zt_le, zf_le, zt_eq, zf_eq, z_upd, z_updL, z_b1, z_b2, z_b3, z_b4, z_b5, z_b6, z_b7, z_b8, z_b9, z_b10, z_b11, z_b12, z_b13, z_b14, z_b15, z_b16, z_b17, z_b18, z_b19, z_b20, ↓reduceIte, or_false, false_or, or_self, true_or, or_true, and_true, true_and, and_false, false_and, not_true_eq_false, not_false_eq_true, ite_self, reduceCtorEq, Nat.reduceAdd, Nat.reduceMul, Nat.reduceSub, Nat.reducePow, Nat.reduceDiv, Nat.reduceMod, Nat.reduceLT, Nat.reduceLeDiff, Nat.reduceEqDiff, Nat.add_zero, Nat.zero_add, Nat.mul_one, Nat.one_mul, Nat.mul_zero, Nat.zero_mul, Nat.sub_zero, Nat.not_lt_zero, Nat.zero_le]
      · rw [if_neg e]
        simp (disch := omega) only [e, zl_0, zl_1, zl_2, zl_3, zl_4, zl_5, zl_6, zl_7, zl_8, zl_9, zl_10, zl_12, zl_14, zl_15, zl_16, zl_17, zl_18, zl_20, zl_24, zl_31, zl_32, zl_44, zl_48, zl_57, zl_59, zl_63, zl_64, zl_70, zl_74, zl_75, zl_97, zl_99, zl_100, zl_122, zl_140, zl_141, zl_142, zl_255, zl_900, zl_999, zl_1000, zl_1998, zl_6000, zl_6001, zl_16383, zl_16384, zl_65536, zl_65537, zq_add, zq_mul, zq_sub, zd_lt, zd_le, zd_eq, zd_cl, zm_lt, zm_le, zm_gt, zm_ge, zm_eq, zm_qe, zm_mm, zt_lt, zf_lt, zt_le, zf_le, zt_eq, zf_eq, z_upd, z_updL, z_b1, z_b2, z_b3, z_b4, z_b5, z_b6, z_b7, z_b8, z_b9, z_b10, z_b11, z_b12, z_b13, z_b14, z_b15, z_b16, z_b17, z_b18, z_b19, z_b20, ↓reduceIte, or_false, false_or, or_self, true_or, or_true, and_true, true_and, and_false, false_and, not_true_eq_false, not_false_eq_true, ite_self, reduceCtorEq, Nat.reduceAdd, Nat.reduceMul, Nat.reduceSub, Nat.reducePow, Nat.reduceDiv, Nat.reduceMod, Nat.reduceLT, Nat.reduceLeDiff, Nat.reduceEqDiff, Nat.add_zero, Nat.zero_add, Nat.mul_one, Nat.one_mul, Nat.mul_zero, Nat.zero_mul, Nat.sub_zero, Nat.not_lt_zero, Nat.zero_le]
    rw [hstep _ 0 _ (by omega), hstep _ 1 _ (by omega), hstep _ 2 _ (by omega)]
    have a1 : vp_updL tills (3 * G.1 + 0) (if 0 = ytil y c then v else tills (3 * s + 0)) (3 * s + 1) = tills (3 * s + 1) := by rw [z_updL, if_neg (by omega)]
    have a2 : vp_updL (vp_updL tills (3 * G.1 + 0) (if 0 = ytil y c then v else tills (3 * s + 0))) (3 * G.1 + 1) (if 1 = ytil y c then v else tills (3 * s + 1)) (3 * s + 2) = tills (3 * s + 2) := by
      rw [z_updL, if_neg (by omega), z_updL, if_neg (by omega)]
    rw [a1, a2]
    rw [F_X10_leadsOn_b229, if_pos (by decide)]
    rw [Nat.add_zero, Nat.add_zero, hT2]
    simp (disch := omega) only [zl_0, zl_1, zl_2, zl_3, zl_4, zl_5, zl_6, zl_7, zl_8, zl_9, zl_10, zl_12, zl_14, zl_15, zl_16, zl_17, zl_18, zl_20, zl_24, zl_31, zl_32, zl_44, zl_48, zl_57, zl_59, zl_63, zl_64, zl_70, zl_74, zl_75, zl_97, zl_99, zl_100, zl_122, zl_140, zl_141, zl_142, zl_255, zl_900, zl_999, zl_1000, zl_1998, zl_6000, zl_6001, zl_16383, zl_16384, zl_65536, zl_65537, zq_add, zq_mul, zq_sub, zd_lt, zd_le, zd_eq, zd_cl, zm_lt, zm_le, zm_gt, zm_ge, zm_eq, zm_qe, zm_mm, zt_lt, zf_lt, zt_le, zf_le, zt_eq, zf_eq, z_upd, z_updL, z_b1, z_b2, z_b3, z_b4, z_b5, z_b6, z_b7, z_b8, z_b9, z_b10, z_b11, z_b12, z_b13, z_b14, z_b15, z_b16, z_b17, z_b18, z_b19, z_b20, ↓reduceIte, or_false, false_or, or_self, true_or, or_true, and_true, true_and, and_false, false_and, not_true_eq_false, not_false_eq_true, ite_self, reduceCtorEq, Nat.reduceAdd, Nat.reduceMul, Nat.reduceSub, Nat.reducePow, Nat.reduceDiv, Nat.reduceMod, Nat.reduceLT, Nat.reduceLeDiff, Nat.reduceEqDiff, Nat.add_zero, Nat.zero_add, Nat.mul_one, Nat.one_mul, Nat.mul_zero, Nat.zero_mul, Nat.sub_zero, Nat.not_lt_zero, Nat.zero_le]
  rw [e177, e229]
  rcases X10_lead_find hfu hw hG hnod hok hR hT (go_okS hw hxs hn).1 hD20 hT20 hD21 hT21 with ⟨h0, e⟩ | ⟨h0, slot', e, h1, h2⟩
  · rw [e, z_b4]
    exact ⟨_, _, _, _, _, _, rfl, Or.inl ⟨h0, rfl⟩⟩
  · rw [e, z_b4]
    exact ⟨_, _, _, _, _, _, rfl, Or.inr ⟨h0, rfl, rfl, rfl, h1, h2⟩⟩
