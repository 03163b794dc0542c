/-! ===== what always holds beside inv: the keys handled are those that tell, what lies on a wire stands in its sender's store ===== -/
/-- how many of the numbers 1 .. i tell a key -/
noncomputable def tcn (K T G : Nat → Nat) (b : Nat) : Nat → Nat
  | 0 => 0
  | i + 1 => tcn K T G b i + @ite Nat (rTells K T G b (i + 1)) (Classical.propDecidable _) 1 0
theorem tcn_y {K T G : Nat → Nat} {b i : Nat} (h : rTells K T G b (i + 1)) : tcn K T G b (i + 1) = tcn K T G b i + 1 := congrArg (fun x => tcn K T G b i + x) (if_pos h)
theorem tcn_n {K T G : Nat → Nat} {b i : Nat} (h : ¬ rTells K T G b (i + 1)) : tcn K T G b (i + 1) = tcn K T G b i := congrArg (fun x => tcn K T G b i + x) (if_neg h)
theorem tcn_mono {K T G : Nat → Nat} {b i : Nat} : ∀ k, tcn K T G b i ≤ tcn K T G b (i + k)
  | 0 => Nat.le_refl _
  | k + 1 => by
    refine Nat.le_trans (tcn_mono k) ?_
    rw [← Nat.add_assoc]
    by_cases h : rTells K T G b (i + k + 1)
    · rw [tcn_y h]; omega
    · rw [tcn_n h]; omega
theorem tcn_le {K T G : Nat → Nat} {b i j : Nat} (h : i ≤ j) : tcn K T G b i ≤ tcn K T G b j := by
  have := tcn_mono (K := K) (T := T) (G := G) (b := b) (i := i) (j - i)
  rwa [show i + (j - i) = j by omega] at this
theorem tcn_id {K T G : Nat → Nat} {b : Nat} : ∀ i, tcn K T G b i ≤ i
  | 0 => Nat.le_refl _
  | i + 1 => by
    have h := tcn_id (K := K) (T := T) (G := G) (b := b) i
    by_cases q : rTells K T G b (i + 1)
    · rw [tcn_y q]; omega
    · rw [tcn_n q]; omega
/-- numbers that tell nothing leave the count -/
theorem tcn_gap {K T G : Nat → Nat} {b i : Nat} : ∀ k, (∀ j, i < j → j ≤ i + k → K (b + j) ≠ 5) → tcn K T G b (i + k) = tcn K T G b i
  | 0, _ => rfl
  | k + 1, h => by
    rw [← Nat.add_assoc, tcn_n (fun z => h (i + k + 1) (by omega) (by omega) z.1)]
    exact tcn_gap k (fun j h1 h2 => h j h1 (by omega))
/-- the j-th key stands at a number that tells it -/
theorem tcn_at {K T G : Nat → Nat} {b : Nat} : ∀ {i j : Nat}, j < tcn K T G b i → ∃ n, 1 ≤ n ∧ n ≤ i ∧ rTells K T G b n ∧ tcn K T G b (n - 1) = j
  | 0, j, h => absurd h (Nat.not_lt_zero _)
  | i + 1, j, h => by
    by_cases q : rTells K T G b (i + 1)
    · rw [tcn_y q] at h
      by_cases e : j = tcn K T G b i
      · exact ⟨i + 1, by omega, by omega, q, e.symm⟩
      · obtain ⟨n, h1, h2, h3, h4⟩ := tcn_at (K := K) (T := T) (G := G) (b := b) (i := i) (j := j) (by omega)
        exact ⟨n, h1, by omega, h3, h4⟩
    · rw [tcn_n q] at h
      obtain ⟨n, h1, h2, h3, h4⟩ := tcn_at h
      exact ⟨n, h1, by omega, h3, h4⟩
/-- what is ahead has a first one -/
theorem first_k {K T : Nat → Nat} {b v : Nat} : ∀ {i : Nat}, (∃ k, k < i ∧ 1 ≤ k ∧ K (b + k) = 5 ∧ T (b + k) = v) → ∃ k, k < i ∧ 1 ≤ k ∧ K (b + k) = 5 ∧ T (b + k) = v ∧ ¬ ∃ q, q < k ∧ 1 ≤ q ∧ K (b + q) = 5 ∧ T (b + q) = v
  | 0, ⟨k, h, _⟩ => absurd h (Nat.not_lt_zero _)
  | i + 1, ⟨k, h1, h2, h3, h4⟩ => by
    by_cases q : ∃ k, k < i ∧ 1 ≤ k ∧ K (b + k) = 5 ∧ T (b + k) = v
    · obtain ⟨n, g1, g2⟩ := first_k q
      exact ⟨n, by omega, g2⟩
    · have e : k = i := by
        rcases Nat.lt_or_ge k i with z | z
        · exact absurd ⟨k, z, h2, h3, h4⟩ q
        · omega
      subst e
      exact ⟨k, h1, h2, h3, h4, q⟩
theorem tells_c {K T G K' T' G' : Nat → Nat} {b i M : Nat} (h : ∀ k, 1 ≤ k → k < M → K' (b + k) = K (b + k) ∧ T' (b + k) = T (b + k) ∧ G' (b + k) = G (b + k)) (h1 : 1 ≤ i) (h2 : i < M) : rTells K' T' G' b i ↔ rTells K T G b i := by
  obtain ⟨e1, e2, e3⟩ := h i h1 h2
  unfold rTells rAhead
  rw [e1, e2, e3]
  have ex : (∃ k, k < i ∧ 1 ≤ k ∧ K' (b + k) = 5 ∧ T' (b + k) = T (b + i)) ↔ ∃ k, k < i ∧ 1 ≤ k ∧ K (b + k) = 5 ∧ T (b + k) = T (b + i) := by
    constructor
    · rintro ⟨k, k1, k2, k3, k4⟩
      obtain ⟨f1, f2, -⟩ := h k k2 (by omega)
      exact ⟨k, k1, k2, f1 ▸ k3, f2 ▸ k4⟩
    · rintro ⟨k, k1, k2, k3, k4⟩
      obtain ⟨f1, f2, -⟩ := h k k2 (by omega)
      exact ⟨k, k1, k2, f1.trans k3, f2.trans k4⟩
  rw [ex]
theorem tcn_c {K T G K' T' G' : Nat → Nat} {b M : Nat} (h : ∀ k, 1 ≤ k → k < M → K' (b + k) = K (b + k) ∧ T' (b + k) = T (b + k) ∧ G' (b + k) = G (b + k)) : ∀ i, i < M → tcn K' T' G' b i = tcn K T G b i
  | 0, _ => rfl
  | i + 1, hi => by
    have e := tells_c h (i := i + 1) (by omega) hi
    have e2 := tcn_c h i (by omega)
    by_cases q : rTells K T G b (i + 1)
    · rw [tcn_y q, tcn_y (e.mpr q), e2]
    · rw [tcn_n q, tcn_n (fun z => q (e.mp z)), e2]
/-- what a message on a wire says of the store that it came from -/
abbrev wqk (K T G : Nat → Nat) (b n k t g : Nat) : Prop := (k = 4 → ∀ i, n ≤ i → i < t → K (b + i) ≠ 5) ∧ (k = 5 → K (b + n) = 5 ∧ T (b + n) = t ∧ (G (b + n)).testBit 1 = g.testBit 1) ∧ (k ≠ 4 → k ≠ 5 → K (b + n) ≠ 5)
abbrev kv (d t : Nat) (I : Nat → Nat → Int32) (N : Nat → Nat → Nat) : Prop :=
  (I 3 t = 0 ∨ I 3 t = 1 ∨ I 3 t = 2) ∧ (∃ k, k ≤ d ∧ I 11 t = nI k) ∧
  N 10 t = tcn (N 6) (N 7) (N 8) (201 * (1 - t)) (N 5 t - 1) ∧
  (∀ i, 1 ≤ i → i < N 5 t → rTells (N 6) (N 7) (N 8) (201 * (1 - t)) i → N 9 (201 * t + tcn (N 6) (N 7) (N 8) (201 * (1 - t)) (i - 1)) = N 7 (201 * (1 - t) + i)) ∧
  ∀ j, j < N 17 t → wqk (N 6) (N 7) (N 8) (201 * (1 - t)) (N 18 (60 * t + j)) (N 19 (60 * t + j)) (N 20 (60 * t + j)) (N 21 (60 * t + j))
abbrev inv2 (d : Nat) (s : RS) : Prop := ∀ t, t < 2 → kv d t s.1 s.2
theorem inv2.up {d d' : Nat} {s : RS} (h : inv2 d s) (hd : d ≤ d') : inv2 d' s := fun t ht => by
  obtain ⟨h1, ⟨k, k1, k2⟩, h3⟩ := h t ht
  exact ⟨h1, ⟨k, by omega, k2⟩, h3⟩
/-- raw rows alone change -/
theorem inv2_I {d d' : Nat} {s : RS} {I : Nat → Nat → Int32} (h : inv2 d s) (hI : ∀ t, t < 2 → (I 3 t = 0 ∨ I 3 t = 1 ∨ I 3 t = 2) ∧ ∃ k, k ≤ d' ∧ I 11 t = nI k) : inv2 d' (I, s.2) :=
  fun t ht => ⟨(hI t ht).1, (hI t ht).2, (h t ht).2.2⟩
/-- the rows that a side's facts speak of are as they were -/
theorem kv_c {d t M : Nat} {I : Nat → Nat → Int32} {N N' : Nat → Nat → Nat} (h : kv d t I N) (hr : ∀ k, 1 ≤ k → k < M → N' 6 (201 * (1 - t) + k) = N 6 (201 * (1 - t) + k) ∧ N' 7 (201 * (1 - t) + k) = N 7 (201 * (1 - t) + k) ∧ N' 8 (201 * (1 - t) + k) = N 8 (201 * (1 - t) + k)) (h5 : 1 ≤ N 5 t ∧ N 5 t ≤ M) (e5 : N' 5 t = N 5 t) (e10 : N' 10 t = N 10 t) (e9 : ∀ j, N' 9 j = N 9 j) (e17 : N' 17 t = N 17 t) (e18 : N' 18 = N 18) (e19 : N' 19 = N 19) (e20 : N' 20 = N 20) (e21 : N' 21 = N 21) (hw : ∀ j, j < N 17 t → 1 ≤ N 18 (60 * t + j) ∧ N 18 (60 * t + j) < M ∧ (N 19 (60 * t + j) = 4 → N 20 (60 * t + j) ≤ M)) : kv d t I N' := by
  obtain ⟨h1, h2, h3, h4, h6⟩ := h
  refine ⟨h1, h2, ?_, fun i i1 i2 i3 => ?_, fun j hj => ?_⟩
  · rw [e10, e5, tcn_c hr _ (by omega)]; exact h3
  · rw [e5] at i2
    rw [e9, tcn_c hr _ (by omega), (hr i i1 (by omega)).2.1]
    exact h4 i i1 i2 ((tells_c hr i1 (by omega)).mp i3)
  · rw [e17] at hj
    rw [e18, e19, e20, e21]
    obtain ⟨w1, w2, w3⟩ := h6 j hj
    obtain ⟨g1, g2, g3⟩ := hw j hj
    obtain ⟨r1, r2, r3⟩ := hr _ g1 g2
    refine ⟨fun z i i1 i2 => ?_, fun z => ?_, fun z1 z2 => ?_⟩
    · have := g3 z
      rw [(hr i (by omega) (by omega)).1]; exact w1 z i i1 i2
    · rw [r1, r2, r3]; exact w2 z
    · rw [r1]; exact w3 z1 z2
theorem inv2_put {d : Nat} {tm : Int32} {sd nn kk tt gg : Nat} {s : RS} (h : inv2 d s) (hi : inv s) (hs : sd < 2) (hq : wqk (s.2 6) (s.2 7) (s.2 8) (201 * sd) nn kk tt gg) : inv2 d (rPuts tm sd nn kk tt gg s) := by
  have ea : 1 - (1 - sd) = sd := by omega
  have ne : sd ≠ 1 - sd := by omega
  by_cases q : 60 ≤ s.2 17 (1 - sd)
  · have e2 : rPP (1 - sd) (s.2 17) (s.2 18) (s.2 19) (s.2 20) (s.2 21) nn kk tt gg = (s.2 17, s.2 18, s.2 19, s.2 20, s.2 21) := if_pos q
    unfold rPuts
    rw [e2]
    dsimp only
    rw [up_id (f := s.2) (k := 17), up_id (f := s.2) (k := 18), up_id (f := s.2) (k := 19), up_id (f := s.2) (k := 20), up_id (f := s.2) (k := 21)]
    exact fun t ht => h t ht
  · have e2 : rPP (1 - sd) (s.2 17) (s.2 18) (s.2 19) (s.2 20) (s.2 21) nn kk tt gg = (va_up (s.2 17) (1 - sd) (s.2 17 (1 - sd) + 1), va_up (s.2 18) (60 * (1 - sd) + s.2 17 (1 - sd)) nn, va_up (s.2 19) (60 * (1 - sd) + s.2 17 (1 - sd)) kk, va_up (s.2 20) (60 * (1 - sd) + s.2 17 (1 - sd)) tt, va_up (s.2 21) (60 * (1 - sd) + s.2 17 (1 - sd)) gg) := if_neg q
    unfold rPuts
    rw [e2]
    intro t ht
    obtain ⟨h1, h2, h3, h4, h6⟩ := h t ht
    refine ⟨h1, h2, h3, h4, ?_⟩
    show ∀ j, j < va_up (s.2 17) (1 - sd) (s.2 17 (1 - sd) + 1) t → wqk (s.2 6) (s.2 7) (s.2 8) (201 * (1 - t)) (va_up (s.2 18) (60 * (1 - sd) + s.2 17 (1 - sd)) nn (60 * t + j)) (va_up (s.2 19) (60 * (1 - sd) + s.2 17 (1 - sd)) kk (60 * t + j)) (va_up (s.2 20) (60 * (1 - sd) + s.2 17 (1 - sd)) tt (60 * t + j)) (va_up (s.2 21) (60 * (1 - sd) + s.2 17 (1 - sd)) gg (60 * t + j))
    intro j hj
    rcases two hs ht with rfl | rfl
    · rw [up_n ne] at hj
      have h60 := (hi.1 t ht).2.2.2.2.2.1
      have n9 : 60 * t + j ≠ 60 * (1 - t) + s.2 17 (1 - t) := by
        rcases (show t = 0 ∨ t = 1 by omega) with rfl | rfl <;> omega
      rw [up_n n9, up_n n9, up_n n9, up_n n9]
      exact h6 j hj
    · rw [up_s] at hj
      rw [ea] at h6 ⊢
      by_cases e : j = s.2 17 (1 - sd)
      · subst e
        rw [up_s, up_s, up_s, up_s]
        exact hq
      · have n9 : 60 * (1 - sd) + j ≠ 60 * (1 - sd) + s.2 17 (1 - sd) := by omega
        rw [up_n n9, up_n n9, up_n n9, up_n n9]
        exact h6 j (by omega)
theorem inv2_keep {d sd kk tt gg : Nat} {s : RS} (h : inv2 d s) (hi : inv s) (hs : sd < 2) (q : s.2 4 sd ≤ 200) : inv2 d (s.1, rKeep sd kk tt gg s.2) := by
  intro t ht
  have hw := hi.1 t ht
  refine kv_c (N := s.2) (M := s.2 4 (1 - t)) (h t ht) (fun k k1 k2 => ?_) hw.2.2.2.1 rfl rfl (fun _ => rfl) rfl rfl rfl rfl rfl (fun j hj => ?_)
  · have n4 := (hi.1 (1 - t) (by omega)).2.2.1.2
    have n9 : 201 * (1 - t) + k ≠ 201 * sd + s.2 4 sd := by
      rcases two hs ht with rfl | rfl
      · rcases (show t = 0 ∨ t = 1 by omega) with rfl | rfl <;> omega
      · rw [show 1 - (1 - sd) = sd by omega] at k2 ⊢; omega
    exact ⟨up_n (f := s.2 6) n9, up_n (f := s.2 7) n9, up_n (f := s.2 8) n9⟩
  · obtain ⟨w1, w2, w3, w4⟩ := hw.2.2.2.2.2.2 j hj
    exact ⟨w1, w2, fun z => (w3 z).2⟩
theorem inv_keep {sd kk tt gg : Nat} {s : RS} (h : inv s) (hs : sd < 2) (q : s.2 4 sd ≤ 200) (h3 : kk < 7) (h4 : tt < 1000) (h5 : gg < 8) : inv (s.1, rKeep sd kk tt gg s.2) := by
  obtain ⟨hv, g6, g7, g8, g19, g20, g21, gn⟩ := h
  have e4 : rKeep sd kk tt gg s.2 4 sd = s.2 4 sd + 1 := up_s
  have n4 := (hv sd hs).2.2.1
  refine ⟨fun t ht => ?_, up_all g6 h3, up_all g7 h4, up_all g8 h5, g19, g20, g21, ?_⟩
  · have hw := hv t ht
    have m4 : ∀ u, s.2 4 u ≤ rKeep sd kk tt gg s.2 4 u := fun u => by
      show s.2 4 u ≤ va_up (s.2 4) sd (s.2 4 sd + 1) u
      by_cases e : u = sd
      · subst e; rw [up_s]; omega
      · rw [up_n e]; omega
    have l4 : rKeep sd kk tt gg s.2 4 t ≤ 201 := by
      show va_up (s.2 4) sd (s.2 4 sd + 1) t ≤ 201
      by_cases e : t = sd
      · subst e; rw [up_s]; omega
      · rw [up_n e]; exact hw.2.2.1.2
    have a4 := m4 t
    have b4 := m4 (1 - t)
    refine ⟨hw.1, hw.2.1, ⟨by have := hw.2.2.1.1; show 1 ≤ rKeep sd kk tt gg s.2 4 t; omega, l4⟩, ⟨hw.2.2.2.1.1, Nat.le_trans hw.2.2.2.1.2 b4⟩, hw.2.2.2.2.1, hw.2.2.2.2.2.1, fun j hj => ?_⟩
    obtain ⟨w1, w2, w3, w4⟩ := hw.2.2.2.2.2.2 j hj
    exact ⟨w1, Nat.lt_of_lt_of_le w2 b4, fun z => ⟨(w3 z).1, Nat.le_trans (w3 z).2 b4⟩, w4⟩
  · exact nb_up (nb_up (nb_up (nb_up gn (up_all (gn 6) (by omega))) (up_all (gn 7) (by omega))) (up_all (gn 8) (by omega))) (up_all (gn 4) (by omega))
theorem inv2_send {d : Nat} {tm : Int32} {sd kk tt gg : Nat} {s : RS} (h : inv2 d s) (hi : inv s) (hs : sd < 2) (h3 : kk < 7) (h4 : tt < 1000) (h5 : gg < 8) (h6 : kk ≠ 4) : inv2 d (rSends tm sd kk tt gg s) := by
  unfold rSends
  by_cases q : s.2 4 sd ≤ 200
  · rw [if_pos q]
    refine inv2_put (inv2_keep h hi hs q) (inv_keep hi hs q h3 h4 h5) hs ?_
    have e6 : rKeep sd kk tt gg s.2 6 (201 * sd + (s.2 4 sd + 1 - 1)) = kk := up_s (f := s.2 6)
    have e7 : rKeep sd kk tt gg s.2 7 (201 * sd + (s.2 4 sd + 1 - 1)) = tt := up_s (f := s.2 7)
    have e8 : rKeep sd kk tt gg s.2 8 (201 * sd + (s.2 4 sd + 1 - 1)) = gg := up_s (f := s.2 8)
    refine ⟨fun z => absurd z h6, fun z => ⟨e6.trans z, e7, ?_⟩, fun _ z => ?_⟩
    · show (rKeep sd kk tt gg s.2 8 (201 * sd + (s.2 4 sd + 1 - 1))).testBit 1 = _
      rw [e8]
    · show rKeep sd kk tt gg s.2 6 (201 * sd + (s.2 4 sd + 1 - 1)) ≠ 5
      rw [e6]; exact z
  · rw [if_neg q]; exact h
theorem st_up {I : Nat → Nat → Int32} {sd : Nat} {v : Int32} (hv : v = 0 ∨ v = 1 ∨ v = 2) {t : Nat} (h : I 3 t = 0 ∨ I 3 t = 1 ∨ I 3 t = 2) : va_up (I 3) sd v t = 0 ∨ va_up (I 3) sd v t = 1 ∨ va_up (I 3) sd v t = 2 := by
  by_cases e : t = sd
  · subst e; rw [up_s]; exact hv
  · rw [up_n e]; exact h
theorem inv2_off {d sd : Nat} {s : RS} (h : inv2 d s) : inv2 d (rTurns sd s.1, s.2) := inv2_I h fun t ht => ⟨st_up (Or.inl rfl) (h t ht).1, (h t ht).2.1⟩
theorem inv2_on {d sd : Nat} {v : Int32} {s : RS} (hv : v = 0 ∨ v = 1 ∨ v = 2) (h : inv2 d s) : inv2 d (va_up s.1 3 (va_up (s.1 3) sd v), s.2) := inv2_I h fun t ht => ⟨st_up hv (h t ht).1, (h t ht).2.1⟩
theorem inv2_logs {d : Nat} {tm : Int32} {sd : Nat} {aP : Prop} {s : RS} (h : inv2 d s) (hi : inv s) (hs : sd < 2) : inv2 d (rLogsOn tm sd aP s) := by
  unfold rLogsOn
  by_cases q : aP
  · rw [if_pos q]
    refine inv2_send (inv2_I h fun t ht => ⟨st_up (Or.inr (Or.inr rfl)) (h t ht).1, (h t ht).2.1⟩) (inv_I hi fun t ht => ?_) hs (by omega) (by omega) (by omega) (by omega)
    have hw := hi.1 t ht
    show (va_up (s.1 12) sd 0 t = 0 ∨ va_up (s.1 12) sd 0 t = 1) ∧ (¬ va_up (s.1 3) sd 2 t = 2 → va_up (s.1 12) sd 0 t = 0)
    by_cases e : t = sd
    · subst e; rw [up_s, up_s]; exact ⟨Or.inl rfl, fun _ => rfl⟩
    · rw [up_n e, up_n e]; exact ⟨hw.1, hw.2.1⟩
  · rw [if_neg q]
    by_cases q2 : s.1 3 sd = 1
    · rw [if_pos q2]; exact inv2_on (Or.inr (Or.inr rfl)) h
    · rw [if_neg q2]; exact h
theorem inv2_ask {d : Nat} {tm : Int32} {sd : Nat} {s : RS} (h : inv2 d s) (hi : inv s) (hs : sd < 2) : inv2 d (rAsks tm sd s) := by
  unfold rAsks
  by_cases q : s.1 3 sd = 2
  · rw [if_pos q]
    by_cases q2 : s.1 12 sd = 0
    · rw [if_pos q2]
      have hw := hi.1 sd hs
      have hz := hi.1 (1 - sd) (by omega)
      have h2 := inv2_send (tm := tm) (kk := 3) (tt := s.2 5 sd) (gg := 0) h hi hs (by omega) (by omega) (by omega) (by omega)
      exact inv2_I h2 fun t ht => ⟨(h2 t ht).1, (h2 t ht).2.1⟩
    · rw [if_neg q2]; exact h
  · rw [if_neg q]; exact h
theorem inv2_tickx {d : Nat} {tm : Int32} {sd : Nat} {s : RS} (h : inv2 d s) : inv2 d (rTickX tm sd s.1, s.2) :=
  inv2_I h fun t ht => by rw [tickx_same 3 t (by omega), tickx_same 11 t (by omega)]; exact ⟨(h t ht).1, (h t ht).2.1⟩
theorem inv2_tick {d : Nat} {tm : Int32} {sd : Nat} {s : RS} (h : inv2 d s) (hi : inv s) (hs : sd < 2) : inv2 d (rTick tm sd s) := by
  have hx := inv2_tickx (tm := tm) (sd := sd) h
  have hix := inv_tickx (tm := tm) (sd := sd) hi
  have hsnd : inv2 d (rSends tm sd 1 0 0 (rTickX tm sd s.1, s.2)) := inv2_send hx hix hs (by omega) (by omega) (by omega) (by omega)
  unfold rTick
  by_cases q : s.1 3 sd = 2
  · rw [if_pos q]
    by_cases q1 : tm - s.1 14 sd < 8
    · rw [if_pos q1]
      by_cases q2 : tm - s.1 14 sd < 5
      · rw [if_pos q2]
        by_cases q3 : tm - s.1 16 sd < 3
        · rw [if_pos q3]; exact hx
        · rw [if_neg q3]; exact hsnd
      · rw [if_neg q2]
        by_cases q4 : s.1 15 sd = 0
        · rw [if_pos q4]
          exact inv2_send (inv2_I (s := (rTickX tm sd s.1, s.2)) hx fun t ht => ⟨(hx t ht).1, (hx t ht).2.1⟩) (inv_I (s := (rTickX tm sd s.1, s.2)) hix fun t ht => ⟨(hix.1 t ht).1, (hix.1 t ht).2.1⟩) hs (by omega) (by omega) (by omega) (by omega)
        · rw [if_neg q4]
          by_cases q3 : tm - s.1 16 sd < 3
          · rw [if_pos q3]; exact hx
          · rw [if_neg q3]; exact hsnd
    · rw [if_neg q1]; exact inv2_off (s := (rTickX tm sd s.1, s.2)) hx
  · rw [if_neg q]; exact hx
