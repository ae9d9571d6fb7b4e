/-! the loose system and the system in which a set of calls answered as told -/
theorem pig : ∀ (m n : Nat) (f : Nat → Nat), (∀ i, i < n → f i < m) → (∀ i j, i < j → j < n → f i ≠ f j) → n ≤ m
  | 0, n, f, h, _ => by
    rcases Nat.eq_zero_or_pos n with g | g
    · omega
    · exact absurd (h 0 g) (Nat.not_lt_zero _)
  | m + 1, 0, f, _, _ => Nat.zero_le _
  | m + 1, n + 1, f, h, hd => by
    have := pig m n (fun i => if f i = m then f n else f i) (fun i hi => by
      show (if f i = m then f n else f i) < m
      have h1 := h i (by omega)
      have h2 := h n (by omega)
      have h3 := hd i n hi (by omega)
      by_cases c : f i = m
      · rw [if_pos c]; omega
      · rw [if_neg c]; omega) (fun i j hij hj => by
      show (if f i = m then f n else f i) ≠ (if f j = m then f n else f j)
      have h1 := hd i j hij (by omega)
      have h2 := hd i n (by omega) (by omega)
      have h3 := hd j n (by omega) (by omega)
      by_cases c : f i = m
      · by_cases d : f j = m
        · omega
        · rw [if_pos c, if_neg d]; omega
      · by_cases d : f j = m
        · rw [if_neg c, if_pos d]; exact h2
        · rw [if_neg c, if_neg d]; exact h1)
    omega
theorem bf_bi {y : Sy} (hw : WF y) : ∀ (f s : Nat) (G : Gr), bi y s G → ∃ s', bi y s' (bf y f s G)
  | 0, s, G, h => ⟨s, h⟩
  | f + 1, s, G, h => by
    unfold bf
    by_cases hs : s < G.1
    · rw [if_pos hs]
      have h1 := bi_step hw h hs
      by_cases c : 6000 < (pk y (G.2 s) 4 G).1
      · rw [if_pos c]; exact ⟨_, h1⟩
      · rw [if_neg c]; exact bf_bi hw f (s + 1) _ h1
    · rw [if_neg hs]; exact ⟨s, h⟩
def Ys (K : Ca) (kd : Nat → Nat) (nt late k S : Nat) : Sy := sysK K kd nt (alb K) (enb K) (fun c => S.testBit c) (enb K) (gapk k late)
theorem Ys_otr0 {K : Ca} {kd : Nat → Nat} {nt late k : Nat} {x : St} {c : Nat} : otr (Ys K kd nt late k 0) x c = false := by
  show ((0 : Nat).testBit c && _) = false
  rw [Nat.zero_testBit]
  rfl
theorem Ys_nst {K : Ca} {kd : Nat → Nat} {nt late k S q : Nat} {x z : St} : nst (Ys K kd nt late k S) q x = some z ↔ nst (Ys K kd nt late k 0) q x = some z ∧ ¬ (S.testBit (cl (Ys K kd nt late k 0) x q) = true ∧ ¬ nI (say (Ys K kd nt late k 0) x (cl (Ys K kd nt late k 0) x q)) = yans (Ys K kd nt late k 0) (cl (Ys K kd nt late k 0) x q)) := by
  have hnx : nx (Ys K kd nt late k S) q x.1 = nx (Ys K kd nt late k 0) q x.1 := rfl
  have hgo : ∀ c, go (Ys K kd nt late k S) x c = go (Ys K kd nt late k 0) x c := fun _ => rfl
  have hot : ∀ c, otr (Ys K kd nt late k S) x c = (S.testBit c && !(nI (say (Ys K kd nt late k 0) x c) == yans (Ys K kd nt late k 0) c)) := fun _ => rfl
  unfold nst
  rw [hnx]
  rcases e : nx (Ys K kd nt late k 0) q x.1 with _ | c
  · simp
  · have hcl : cl (Ys K kd nt late k 0) x q = c := by unfold cl; rw [e]; rfl
    simp only [hcl, hot, hgo, Ys_otr0, Bool.false_eq_true, ↓reduceIte]
    by_cases d : (S.testBit c && !(nI (say (Ys K kd nt late k 0) x c) == yans (Ys K kd nt late k 0) c)) = true
    · rw [if_pos d]
      constructor
      · intro h; cases h
      · rintro ⟨_, h⟩
        exfalso
        apply h
        simp at d
        exact d
    · rw [if_neg d]
      constructor
      · intro h
        refine ⟨h, fun g => d ?_⟩
        simp [g.1, g.2]
      · intro h; exact h.1
theorem Ys_edg {K : Ca} {kd : Nat → Nat} {nt late k S : Nat} {G : Gr} {j q i : Nat} : edg (Ys K kd nt late k 0) G S j q i ↔ nst (Ys K kd nt late k S) q (G.2 j) = some (G.2 i) := Ys_nst.symm
theorem Ys_can1 {K : Ca} {kd : Nat → Nat} {nt late k S : Nat} {G : Gr} : ∀ (n i : Nat), rcn (Ys K kd nt late k 0) G S n i → CE (Ys K kd nt late k S) (G.2 i) → CE (Ys K kd nt late k S) (G.2 0)
  | 0, i, h, hc => by
    have h' : i = 0 := h
    rw [h'] at hc; exact hc
  | n + 1, i, h, hc => by
    obtain ⟨j, q, h1, h2, h3, h4⟩ := h
    exact Ys_can1 n j h4 (CE_iff.mpr (Or.inr ⟨q, _, h2, Ys_edg.mp h3, hc⟩))
theorem Ys_can2 {K : Ca} {kd : Nat → Nat} {nt late k S : Nat} {G : Gr} (hG : GO (Ys K kd nt late k 0) G) : ∀ (n j : Nat), j < G.1 → rch (Ys K kd nt late k 0) G S j → cen (Ys K kd nt late k S) n (G.2 j) → ∃ i, i < G.1 ∧ whole (Ys K kd nt late k 0) (G.2 i) = true ∧ rch (Ys K kd nt late k 0) G S i
  | 0, j, hj, hr, h => ⟨j, hj, h, hr⟩
  | n + 1, j, hj, hr, h => by
    rcases h with h | ⟨q, z, h1, h2, h3⟩
    · exact ⟨j, hj, h, hr⟩
    · obtain ⟨g1, g2⟩ := hG.2.2.2.2.2.1 j q z hj h1 (Ys_nst.mp h2).1
      have hz := fnd_lt g1
      rw [← hz] at h3
      refine Ys_can2 hG n (fnd G z) g1 (rch_iff.mpr (Or.inr ⟨j, q, g2, h1, Ys_edg.mpr (by rw [hz]; exact h2), hr⟩)) h3
theorem Ys_can {K : Ca} {kd : Nat → Nat} {nt late k S : Nat} {G : Gr} (hG : GO (Ys K kd nt late k 0) G) : (∃ i, i < G.1 ∧ whole (Ys K kd nt late k 0) (G.2 i) = true ∧ rch (Ys K kd nt late k 0) G S i) ↔ CE (Ys K kd nt late k S) (ini (Ys K kd nt late k S)) := by
  have hi : ini (Ys K kd nt late k S) = G.2 0 := hG.2.2.2.1.symm
  rw [hi]
  constructor
  · rintro ⟨i, _, h2, n, h3⟩
    exact Ys_can1 n i h3 ⟨0, h2⟩
  · rintro ⟨n, h⟩
    exact Ys_can2 hG n 0 hG.1 ⟨0, rfl⟩ h
theorem Ys_sub {K : Ca} {kd : Nat → Nat} {nt late k S : Nat} {G G' : Gr} {s' : Nat} (hG : GO (Ys K kd nt late k 0) G) (h : bi (Ys K kd nt late k S) s' G') : ∀ (n i : Nat), i ≤ n → i < G'.1 → ∃ i', i' < G.1 ∧ G.2 i' = G'.2 i
  | n, i, hn, hi => by
    rcases Nat.eq_zero_or_pos i with c | c
    · subst c
      exact ⟨0, hG.1, by rw [hG.2.2.2.1, h.2.1]; rfl⟩
    · obtain ⟨m, rfl⟩ : ∃ m, n = m + 1 := ⟨n - 1, by omega⟩
      obtain ⟨j, q, h1, h2, h3, h4⟩ := h.2.2.2.2.2.2.2.2 i c hi
      obtain ⟨j', h5, h6⟩ := Ys_sub hG h m j (by omega) (by omega)
      rw [← h6] at h4
      obtain ⟨g1, g2⟩ := hG.2.2.2.2.2.1 j' q _ h5 h3 (Ys_nst.mp h4).1
      exact ⟨_, g1, fnd_lt g1⟩
theorem Ys_full {K : Ca} {kd : Nat → Nat} {nt late k S : Nat} (hw0 : WF (Ys K kd nt late k 0)) (hw : WF (Ys K kd nt late k S)) (hf : full (Ys K kd nt late k 0) = false) : full (Ys K kd nt late k S) = false := by
  have hG := GO_gr hw0 hf
  obtain ⟨s', hb⟩ := bf_bi hw 6001 0 _ (bi_0 hw)
  have hb' : bi (Ys K kd nt late k S) s' (gr (Ys K kd nt late k S)) := hb
  have hle : (gr (Ys K kd nt late k S)).1 ≤ (gr (Ys K kd nt late k 0)).1 := by
    refine pig _ _ (fun i => fnd (gr (Ys K kd nt late k 0)) ((gr (Ys K kd nt late k S)).2 i)) (fun i hi => ?_) (fun i j hij hj => ?_)
    · obtain ⟨i', h1, h2⟩ := Ys_sub hG hb' i i (Nat.le_refl i) hi
      show fnd _ _ < _
      rw [← h2]
      exact fnd_has h1 rfl
    · obtain ⟨i', h1, h2⟩ := Ys_sub hG hb' i i (Nat.le_refl i) (by omega)
      obtain ⟨j', h3, h4⟩ := Ys_sub hG hb' j j (Nat.le_refl j) hj
      show fnd _ _ ≠ fnd _ _
      intro e
      have e1 : fnd (gr (Ys K kd nt late k 0)) ((gr (Ys K kd nt late k S)).2 i) < (gr (Ys K kd nt late k 0)).1 := by rw [← h2]; exact fnd_has h1 rfl
      have e2 : fnd (gr (Ys K kd nt late k 0)) ((gr (Ys K kd nt late k S)).2 j) < (gr (Ys K kd nt late k 0)).1 := by rw [← h4]; exact fnd_has h3 rfl
      have q1 := fnd_lt e1
      have q2 := fnd_lt e2
      rw [e, q2] at q1
      exact hb'.2.2.1 i j hij hj q1.symm
  have h6 := hG.2.1
  unfold full
  simp
  omega
