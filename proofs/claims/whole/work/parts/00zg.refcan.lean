/-! the reference: goes, countOrders -/
theorem pwt_none {K : Ca} {kd : Nat → Nat} {nt t : Nat} : (full (Yt K kd nt t) = true) = (pwt K kd nt t = none) := by
  unfold pwt
  apply propext
  constructor
  · intro h; rw [if_pos h]
  · intro h
    split at h
    · assumption
    · cases h
theorem pwk_none {K : Ca} {kd : Nat → Nat} {nt late kind : Nat} : (full (Yk K kd nt late kind) = true) = (pwk' K kd nt late kind = none) := by
  unfold pwk'
  apply propext
  constructor
  · intro h; rw [if_pos h]
  · intro h
    split at h
    · assumption
    · cases h
theorem FG_ini {y : Sy} (hw : WF y) (hf : full y = false) {n : Int32} {long row' slot doneOf next heard leads : Nat → Int32} {tills : Nat → Int64} (h : FG y n long row' slot doneOf tills next heard leads) : isB (leads 0) (0 < PW y (whole y) (ini y)) := by
  have hG := GO_gr hw hf
  have := h.2.2.2.2.2 0 hG.1
  rw [hG.2.2.2.1] at this
  exact isB_iff this (PW_CE hw (okS_ini hw)).symm
theorem comes_t {fu : Nat} (hfu : 20000 ≤ fu) {K : Ca} {kd : Nat → Nat} {nt late t : Nat} {w r long row' slot doneOf next heard leads : Nat → Int32} {tills : Nat → Int64} {ans : Int32} (hK : okC 4 nt kd K) (hnt : nt ≤ 3) (hkd : ∀ t, t < 3 → kd t < 5) (hl : late ≤ 99) (ht : t < 3) (h : RK K (ce K) w) (hr : RLy kd nt late r) :
    ∃ ans' n' full' long' row2 slot' doneOf' tills' next' heard' leads', F_X10_comes fu ans (nI (msk (fun _ => true) (cm K))) (nI 0) (nI t) (nI late) long w row' slot doneOf tills r next heard leads (nI 3) =
      some (nI (if pwt K kd nt t = none then 0 else 1), ans', nI 3, n', full', long', row2, slot', doneOf', tills', next', heard', leads') ∧ (∀ q, pwt K kd nt t = some q → isB (leads' 0) (0 < q) ∧ FG (Yt K kd nt t) n' long' row2 slot' doneOf' tills' next' heard' leads') := by
  have hw : WF (Yt K kd nt t) := WF_sysK hK hnt hkd (Int.natCast_nonneg _) (fun a ha => ⟨((okI_t K t).1 a ha).1, ((okI_t K t).1 a ha).2.1⟩) (fun a ha => ((okI_t K t).2 a ha).2)
  obtain ⟨ans', n', full', long', row2, slot', doneOf', tills', next', heard', leads', e, h1⟩ := X10_comes (ans := ans) (long := long) (row' := row') (slot := slot) (doneOf := doneOf) (next := next) (heard := heard) (leads := leads) (tills := tills) hfu hw (RK_RW h) (RI_t (late := late) hK h hnt ht) (RE_t hK h hl) (RL_kinds hr)
  refine ⟨ans', n', full', long', row2, slot', doneOf', tills', next', heard', leads', ?_, fun q hq => ?_⟩
  · rw [e]
    simp only [pwt_none]
  · have hf : full (Yt K kd nt t) = false := by
      rcases c : full (Yt K kd nt t)
      · rfl
      · have : pwt K kd nt t = none := by rw [← pwt_none]; exact c
        rw [this] at hq; cases hq
    have hp : q = PW (Yt K kd nt t) (whole (Yt K kd nt t)) (ini (Yt K kd nt t)) := by
      unfold pwt at hq
      rw [if_neg (by rw [hf]; simp)] at hq
      injection hq with hq; exact hq.symm
    rw [hp]
    exact ⟨FG_ini hw hf (h1 hf), h1 hf⟩
theorem comes_k {fu : Nat} (hfu : 20000 ≤ fu) {K : Ca} {kd : Nat → Nat} {nt late kind : Nat} {w r long row' slot doneOf next heard leads : Nat → Int32} {tills : Nat → Int64} {ans : Int32} (hK : okC 4 nt kd K) (hnt : nt ≤ 3) (hkd : ∀ t, t < 3 → kd t < 5) (hl : late ≤ 99) (hk : kind < 4) (h : RK K (ce K) w) (hr : RLy kd nt late r) :
    ∃ ans' n' full' long' row2 slot' doneOf' tills' next' heard' leads', F_X10_comes fu ans (nI (msk (fun _ => true) (cm K))) (nI 0) (-1) (nI late) long w row' slot doneOf tills r next heard leads (nI kind) =
      some (nI (if pwk' K kd nt late kind = none then 0 else 1), ans', nI kind, n', full', long', row2, slot', doneOf', tills', next', heard', leads') ∧ (∀ q, pwk' K kd nt late kind = some q → full (Yk K kd nt late kind) = false ∧ q = PW (Yk K kd nt late kind) (whole (Yk K kd nt late kind)) (ini (Yk K kd nt late kind)) ∧ isB (leads' 0) (0 < q) ∧ FG (Yk K kd nt late kind) n' long' row2 slot' doneOf' tills' next' heard' leads') := by
  have hw : WF (Yk K kd nt late kind) := WF_sysK hK hnt hkd (Int.natCast_nonneg _) (fun a ha => ⟨((okI_k K).1 a ha).1, ((okI_k K).1 a ha).2.1⟩) (fun a ha => ((okI_k K).2 a ha).2)
  obtain ⟨ans', n', full', long', row2, slot', doneOf', tills', next', heard', leads', e, h1⟩ := X10_comes (ans := ans) (long := long) (row' := row') (slot := slot) (doneOf := doneOf) (next := next) (heard := heard) (leads := leads) (tills := tills) hfu hw (RK_RW h) (RI_k hK.1) (RE_k hK h hl hk) (RL_kinds hr)
  refine ⟨ans', n', full', long', row2, slot', doneOf', tills', next', heard', leads', ?_, fun q hq => ?_⟩
  · rw [e]
    simp only [pwk_none]
  · have hf : full (Yk K kd nt late kind) = false := by
      rcases c : full (Yk K kd nt late kind)
      · rfl
      · have : pwk' K kd nt late kind = none := by rw [← pwk_none]; exact c
        rw [this] at hq; cases hq
    have hp : q = PW (Yk K kd nt late kind) (whole (Yk K kd nt late kind)) (ini (Yk K kd nt late kind)) := by
      unfold pwk' at hq
      rw [if_neg (by rw [hf]; simp)] at hq
      injection hq with hq; exact hq.symm
    refine ⟨hf, hp, ?_, h1 hf⟩
    rw [hp]
    exact FG_ini hw hf (h1 hf)
theorem prd_pos {a b : Nat} : 0 < prd a b ↔ 0 < a ∧ 0 < b := by
  unfold prd
  split
  · omega
  · rename_i h
    have : 0 < a * b := Nat.mul_pos (by omega) (by omega)
    rw [MW_eq]
    omega
theorem eachw_none {K : Ca} {kd : Nat → Nat} {nt : Nat} : ∀ (j t p p' : Nat), eachw K kd nt j t p = none ↔ eachw K kd nt j t p' = none
  | 0, t, p, p' => by unfold eachw; simp
  | j + 1, t, p, p' => by
    unfold eachw
    split
    · exact Iff.rfl
    · exact eachw_none j (t + 1) _ _
theorem X10_goes38 {fu : Nat} (hfu : 20000 ≤ fu) {K : Ca} {kd : Nat → Nat} {nt late : Nat} {w r : Nat → Int32} (hK : okC 4 nt kd K) (hnt : nt ≤ 3) (hkd : ∀ t, t < 3 → kd t < 5) (hl : late ≤ 99) (h : RK K (ce K) w) (hr : RLy kd nt late r) :
    ∀ (j kf t p : Nat) (ans onTill bk st isF cb : Int32) (long row' slot doneOf next heard leads : Nat → Int32) (tills : Nat → Int64), j < kf → t + j = nt → isB cb (0 < p) →
    ∃ ans' on' bk' st' isF' cb' long' row2 slot' doneOf' tills' next' heard' leads', F_X10_goes_b38 fu (nI (msk (fun _ => true) (cm K))) (nI 0) (nI late) w r kf ans onTill bk st isF cb long row' slot doneOf tills next heard leads (nI t) =
      some (nI (if eachw K kd nt j t p = none then 0 else 1), ans', nI (msk (fun _ => true) (cm K)), nI 0, on', nI late, bk', st', isF', cb', w, long', row2, slot', doneOf', tills', next', heard', leads') ∧ (∀ q, eachw K kd nt j t p = some q → isB cb' (0 < q))
  | 0, kf, t, p, ans, onTill, bk, st, isF, cb, long, row', slot, doneOf, next, heard, leads, tills, hj, ht, hb => by
    obtain ⟨g, rfl⟩ : ∃ g, kf = g + 1 := ⟨kf - 1, by omega⟩
    have h2 : r (2 : Int32).toNatClampNeg = nI nt := hr.2.1
    refine ⟨ans, onTill, bk, st, isF, cb, long, row', slot, doneOf, tills, next, heard, leads, ?_, fun q hq => ?_⟩
    · rw [F_X10_goes_b38, h2, if_pos (by rw [zd_le (by omega) (by omega)]; omega)]
      rfl
    · unfold eachw at hq; injection hq with hq; rw [← hq]; exact hb
  | j + 1, kf, t, p, ans, onTill, bk, st, isF, cb, long, row', slot, doneOf, next, heard, leads, tills, hj, ht, hb => by
    obtain ⟨g, rfl⟩ : ∃ g, kf = g + 1 := ⟨kf - 1, by omega⟩
    have h2 : r (2 : Int32).toNatClampNeg = nI nt := hr.2.1
    obtain ⟨ans', n', full', long', row2, slot', doneOf', tills', next', heard', leads', e, h1⟩ := comes_t (t := t) (ans := ans) (long := long) (row' := row') (slot := slot) (doneOf := doneOf) (next := next) (heard := heard) (leads := leads) (tills := tills) hfu hK hnt hkd hl (by omega) h hr
    rw [F_X10_goes_b38, h2, if_neg (by rw [zd_le (by omega) (by omega)]; omega), zl_3, e, z_b13]
    unfold eachw
    rcases e5 : pwt K kd nt t with _ | q
    · rw [show (if (none : Option Nat) = none then (0 : Nat) else 1) = 0 from if_pos rfl, if_pos (show (nI 0 : Int32) = 0 by decide)]
      refine ⟨_, _, _, _, _, _, _, _, _, _, _, _, _, _, rfl, fun q hq => by cases hq⟩
    · rw [show (if (some q : Option Nat) = none then (0 : Nat) else 1) = 1 from if_neg (by simp), if_neg (show ¬ (nI 1 : Int32) = 0 by decide)]
      have hb2 := (h1 q e5).1
      unfold F_X10_goes_b84 F_X10_goes_b85
      have ih := fun cb hb => X10_goes38 hfu hK hnt hkd hl h hr j g (t + 1) (prd p q) ans' (nI t) (nI 3) n' full' cb long' row2 slot' doneOf' next' heard' leads' tills' (by omega) (by omega) hb
      have i1 : nI t + (1 : Int32) = nI (t + 1) := by rw [zl_1, zq_add]
      rcases hb with ⟨rfl, hp⟩ | ⟨rfl, hp⟩
      · rw [if_neg (show ¬ (nI 1 : Int32) = 0 by decide), show (Int32.toNatClampNeg 0) = 0 from rfl]
        rcases hb2 with ⟨h3, h4⟩ | ⟨h3, h4⟩
        · rw [h3, if_neg (show ¬ (nI 1 : Int32) = 0 by decide), if_neg (by decide), i1]
          exact ih (nI 1) (Or.inl ⟨rfl, prd_pos.mpr ⟨hp, h4⟩⟩)
        · rw [h3, if_pos (show (nI 0 : Int32) = 0 by decide), if_neg (by decide), i1]
          exact ih (nI 0) (Or.inr ⟨rfl, fun h => h4 (prd_pos.mp h).2⟩)
      · rw [if_pos (show (nI 0 : Int32) = 0 by decide), if_neg (by decide), i1]
        exact ih (nI 0) (Or.inr ⟨rfl, fun h => hp (prd_pos.mp h).1⟩)
/-- goes: whether there's an order, or too many stands -/
theorem X10_goes {fu : Nat} (hfu : 20000 ≤ fu) {K : Ca} {kd : Nat → Nat} {nt late kind : Nat} {st w r : Nat → Int32} (hK : okC 4 nt kd K) (hnt : nt ≤ 3) (hkd : ∀ t, t < 3 → kd t < 5) (hl : late ≤ 99) (hk : kind < 4) (h : RK K (ce K) st) (hr : RLy kd nt late r)
    {ans bk sn isF cb : Int32} {long row' slot doneOf next heard leads : Nat → Int32} {tills : Nat → Int64} :
    ∃ ans' th' lo' on' mi' bk' sn' isF' cb' w' long' row2 slot' doneOf' tills' next' heard' leads', F_X10_goes fu ans bk sn isF cb st w r long row' slot doneOf tills next heard leads (nI kind) =
      some (nI (if ordn K kd nt late kind = none then 0 else 1), ans', th', lo', on', mi', bk', sn', isF', cb', w', long', row2, slot', doneOf', tills', next', heard', leads') ∧
      (∀ q, ordn K kd nt late kind = some q → isB cb' (0 < q) ∧ (kind ≠ 3 → RK K (ce K) w' ∧ full (Yk K kd nt late kind) = false ∧ q = PW (Yk K kd nt late kind) (whole (Yk K kd nt late kind)) (ini (Yk K kd nt late kind)) ∧ isB (leads' 0) (0 < q) ∧ FG (Yk K kd nt late kind) sn' long' row2 slot' doneOf' tills' next' heard' leads')) := by
  obtain ⟨w', e1, h1, _⟩ := layCalls (w := w) hfu hK.1 h hr
  unfold F_X10_goes ordn
  rw [e1, z_b5]
  by_cases c : kind = 3
  · rw [if_pos c, if_pos (by rw [c]; decide)]
    obtain ⟨ans', on', bk', st', isF', cb', long', row2, slot', doneOf', tills', next', heard', leads', e, h2⟩ := X10_goes38 hfu hK hnt hkd hl h1 hr nt fu 0 1 ans (-1) bk sn isF (nI 1) long row' slot doneOf next heard leads tills (by omega) (by omega) (Or.inl ⟨rfl, by omega⟩)
    exact ⟨_, _, _, _, _, _, _, _, _, _, _, _, _, _, _, _, _, _, e, fun q hq => ⟨h2 q hq, fun h => absurd c h⟩⟩
  · obtain ⟨ans', n', full', long', row2, slot', doneOf', tills', next', heard', leads', e, h2⟩ := comes_k (kind := kind) (ans := ans) (long := long) (row' := row') (slot := slot) (doneOf := doneOf) (next := next) (heard := heard) (leads := leads) (tills := tills) hfu hK hnt hkd hl hk h1 hr
    rw [if_neg c, if_neg (by rw [zl_3, zd_le (by omega) (by omega)]; omega), e, z_b13]
    rcases e5 : pwk' K kd nt late kind with _ | q
    · rw [show (if (none : Option Nat) = none then (0 : Nat) else 1) = 0 from if_pos rfl, if_pos (show (nI 0 : Int32) = 0 by decide)]
      exact ⟨_, _, _, _, _, _, _, _, _, _, _, _, _, _, _, _, _, _, rfl, fun q hq => by cases hq⟩
    · rw [show (if (some q : Option Nat) = none then (0 : Nat) else 1) = 1 from if_neg (by simp), if_neg (show ¬ (nI 1 : Int32) = 0 by decide)]
      obtain ⟨a1, a2, a3, a4⟩ := h2 q e5
      have hb : (leads' (0 : Int32).toNatClampNeg = 0 ∨ leads' (0 : Int32).toNatClampNeg = 1) := by
        rcases a3 with ⟨x, _⟩ | ⟨x, _⟩
        · exact Or.inr x
        · exact Or.inl x
      rw [if_neg (fun h => h hb)]
      refine ⟨_, _, _, _, _, _, _, _, _, _, _, _, _, _, _, _, _, _, rfl, fun q' hq' => ?_⟩
      injection hq' with hq'
      subst hq'
      exact ⟨a3, fun _ => ⟨h1, a1, a2, a3, a4⟩⟩
