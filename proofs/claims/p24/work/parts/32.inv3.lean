/-! ===== .. through receiving, taking, a day's end ===== -/
theorem inv2_fill {d : Nat} {tm : Int32} {sd b : Nat} {fo : Option Nat} {w : WS} {s : RS} (h : inv2 d (wsIn w s)) (hi : inv (wsIn w s)) (hs : sd < 2) (hfo : ∀ f, fo = some f → ∀ i, f ≤ i → i < b → s.2 6 (201 * sd + i) ≠ 5) : inv2 d (wsIn (rFW tm sd fo b w) s) := by
  cases fo with
  | none => exact h
  | some f =>
    have h2 := inv2_put (tm := tm) (nn := f) (kk := 4) (tt := b) (gg := 1) h hi hs ⟨fun _ => hfo f rfl, fun z => absurd z (by omega), fun z => absurd rfl z⟩
    rw [wsIn_puts] at h2
    exact h2
theorem or1_b : ∀ g, g < 8 → (g ||| 1).testBit 1 = g.testBit 1 := by decide
theorem inv2_ansl {d : Nat} {tm : Int32} {sd : Nat} (hs : sd < 2) (s : RS) (h7 : ∀ j, s.2 7 j < 1000) (h8 : ∀ j, s.2 8 j < 8) : ∀ (k i : Nat) (fo : Option Nat) (w : WS), 1 ≤ i → i + k ≤ s.2 4 sd → (∀ f, fo = some f → 1 ≤ f ∧ f < i) → (∀ f, fo = some f → ∀ j, f ≤ j → j < i → s.2 6 (201 * sd + j) ≠ 5) → inv (wsIn w s) → inv2 d (wsIn w s) →
    inv2 d (wsIn (rAnsL tm sd (s.2 6) (s.2 7) (s.2 8) k i fo w).2 s) ∧ ∀ f, (rAnsL tm sd (s.2 6) (s.2 7) (s.2 8) k i fo w).1 = some f → ∀ j, f ≤ j → j < i + k → s.2 6 (201 * sd + j) ≠ 5
  | 0, i, fo, w, _, _, _, hg, _, h => ⟨h, hg⟩
  | k + 1, i, fo, w, hi, hk, hf, hg, hv, h => by
    unfold rAnsL
    by_cases q : s.2 6 (201 * sd + i) = 5
    · rw [if_pos q]
      have h2 := inv2_fill (tm := tm) h hv hs hg
      have v2 := inv_fill (tm := tm) hv hs hf (show i ≤ s.2 4 sd by omega)
      have h3 := inv2_put (tm := tm) (nn := i) (kk := 5) (tt := s.2 7 (201 * sd + i)) (gg := s.2 8 (201 * sd + i) ||| 1) h2 v2 hs ⟨fun z => absurd z (by omega), fun _ => ⟨q, rfl, (or1_b _ (h8 _)).symm⟩, fun _ z => absurd rfl z⟩
      have v3 := inv_put (tm := tm) (nn := i) (kk := 5) (tt := s.2 7 (201 * sd + i)) (gg := s.2 8 (201 * sd + i) ||| 1) v2 hs hi (show i < s.2 4 sd by omega) (by omega) (h7 _) (or1 _ (h8 _)).2 (fun z => by omega) (fun z => by omega)
      rw [wsIn_puts] at h3 v3
      obtain ⟨r1, r2⟩ := inv2_ansl hs s h7 h8 k (i + 1) none _ (by omega) (by omega) (fun f z => by cases z) (fun f z => by cases z) v3 h3
      exact ⟨r1, fun f z j j1 j2 => r2 f z j j1 (by omega)⟩
    · rw [if_neg q]
      have hf2 : ∀ f, (match fo with
        | none => some i
        | some f => some f) = some f → 1 ≤ f ∧ f < i + 1 := by
        intro f z
        cases fo with
        | none => cases z; omega
        | some g => cases z; have := hf f rfl; omega
      have hg2 : ∀ f, (match fo with
        | none => some i
        | some f => some f) = some f → ∀ j, f ≤ j → j < i + 1 → s.2 6 (201 * sd + j) ≠ 5 := by
        intro f z j j1 j2
        cases fo with
        | none => cases z; obtain rfl : j = i := (by omega); exact q
        | some g =>
          cases z
          rcases Nat.lt_or_ge j i with y | y
          · exact hg f rfl j j1 y
          · obtain rfl : j = i := by omega
            exact q
      obtain ⟨r1, r2⟩ := inv2_ansl hs s h7 h8 k (i + 1) _ w (by omega) (by omega) hf2 hg2 hv h
      exact ⟨r1, fun f z j j1 j2 => r2 f z j j1 (by omega)⟩
theorem inv2_answers {d : Nat} {tm : Int32} {sd frm : Nat} {s : RS} (h : inv2 d s) (hi : inv s) (hs : sd < 2) (hf : 1 ≤ frm) : inv2 d (rAnswers tm sd frm s) := by
  have h0 : inv2 d (wsIn (wsOf s) s) := by rw [wsIn_of]; exact h
  have v0 : inv (wsIn (wsOf s) s) := by rw [wsIn_of]; exact hi
  unfold rAnswers rAnsW
  by_cases q : frm ≤ s.2 4 sd
  · obtain ⟨r1, r2⟩ := inv2_ansl (tm := tm) hs s hi.2.2.1 hi.2.2.2.1 (s.2 4 sd - frm) frm none (wsOf s) hf (by omega) (fun f z => by cases z) (fun f z => by cases z) v0 h0
    obtain ⟨v1, v2⟩ := inv_ansl (tm := tm) hs s hi.2.2.1 hi.2.2.2.1 (s.2 4 sd - frm) frm none (wsOf s) hf (by omega) (fun f z => by cases z) v0
    exact inv2_fill r1 v1 hs (fun f z j j1 j2 => r2 f z j j1 (by omega))
  · rw [show s.2 4 sd - frm = 0 by omega]
    exact h0
/-- the next number is past one that tells nothing new -/
theorem inv2_5 {d sd v : Nat} {s : RS} (h : inv2 d s) (hs : sd < 2) (h5 : 1 ≤ s.2 5 sd) (hv : s.2 5 sd ≤ v) (hn : ∀ i, s.2 5 sd ≤ i → i < v → ¬ rTells (s.2 6) (s.2 7) (s.2 8) (201 * (1 - sd)) i) : inv2 d (va_up s.1 12 (va_up (s.1 12) sd 0), va_up s.2 5 (va_up (s.2 5) sd v)) := by
  intro t ht
  obtain ⟨h1, h2, h3, h4, h6⟩ := h t ht
  by_cases e : t = sd
  · subst e
    have gp : ∀ k, k ≤ v - s.2 5 t → tcn (s.2 6) (s.2 7) (s.2 8) (201 * (1 - t)) (s.2 5 t - 1 + k) = tcn (s.2 6) (s.2 7) (s.2 8) (201 * (1 - t)) (s.2 5 t - 1) := by
      intro k
      induction k with
      | zero => intro _; rfl
      | succ k ih =>
        intro hk
        rw [← Nat.add_assoc, tcn_n (hn _ (by omega) (by omega))]
        exact ih (by omega)
    refine ⟨h1, h2, ?_, ?_, h6⟩
    · show s.2 10 t = tcn (s.2 6) (s.2 7) (s.2 8) (201 * (1 - t)) (va_up (s.2 5) t v t - 1)
      rw [up_s, h3, show v - 1 = s.2 5 t - 1 + (v - s.2 5 t) by omega, gp _ (Nat.le_refl _)]
    · show ∀ i, 1 ≤ i → i < va_up (s.2 5) t v t → rTells (s.2 6) (s.2 7) (s.2 8) (201 * (1 - t)) i → s.2 9 (201 * t + tcn (s.2 6) (s.2 7) (s.2 8) (201 * (1 - t)) (i - 1)) = s.2 7 (201 * (1 - t) + i)
      intro i i1 i2 i3
      rw [up_s] at i2
      rcases Nat.lt_or_ge i (s.2 5 t) with y | y
      · exact h4 i i1 y i3
      · exact absurd i3 (hn i y i2)
  · refine ⟨h1, h2, ?_, ?_, h6⟩
    · show s.2 10 t = tcn (s.2 6) (s.2 7) (s.2 8) (201 * (1 - t)) (va_up (s.2 5) sd v t - 1)
      rw [up_n e]; exact h3
    · show ∀ i, 1 ≤ i → i < va_up (s.2 5) sd v t → rTells (s.2 6) (s.2 7) (s.2 8) (201 * (1 - t)) i → s.2 9 (201 * t + tcn (s.2 6) (s.2 7) (s.2 8) (201 * (1 - t)) (i - 1)) = s.2 7 (201 * (1 - t) + i)
      rw [up_n e]; exact h4
/-- .. past one that tells a key, which is added -/
theorem inv2_key {d sd tt : Nat} {s : RS} (h : inv2 d s) (hi : inv s) (hs : sd < 2) (ht2 : rTells (s.2 6) (s.2 7) (s.2 8) (201 * (1 - sd)) (s.2 5 sd)) (hT : s.2 7 (201 * (1 - sd) + s.2 5 sd) = tt) {I : Nat → Nat → Int32} (hI : ∀ t, t < 2 → (I 3 t = 0 ∨ I 3 t = 1 ∨ I 3 t = 2) ∧ ∃ k, k ≤ d ∧ I 11 t = nI k) {N : Nat → Nat → Nat} (hN : N = va_up s.2 5 (va_up (s.2 5) sd (s.2 5 sd + 1))) : inv2 d (I, va_up (va_up N 9 (va_up (N 9) (201 * sd + N 10 sd) tt)) 10 (va_up (N 10) sd (N 10 sd + 1))) := by
  subst hN
  intro t ht
  have h10 := (hi.1 sd hs).2.2.2.2.1
  have n5 := (hi.1 sd hs).2.2.2.1
  have n4 := (hi.1 (1 - sd) (by omega)).2.2.1.2
  obtain ⟨-, -, h3, h4, h6⟩ := h t ht
  refine ⟨(hI t ht).1, (hI t ht).2, ?_, ?_, h6⟩
  · show va_up (s.2 10) sd (s.2 10 sd + 1) t = tcn (s.2 6) (s.2 7) (s.2 8) (201 * (1 - t)) (va_up (s.2 5) sd (s.2 5 sd + 1) t - 1)
    by_cases e : t = sd
    · subst e
      rw [up_s, up_s, show s.2 5 t + 1 - 1 = s.2 5 t - 1 + 1 by omega, tcn_y (by rw [show s.2 5 t - 1 + 1 = s.2 5 t by omega]; exact ht2), h3]
    · rw [up_n e, up_n e]; exact h3
  · show ∀ i, 1 ≤ i → i < va_up (s.2 5) sd (s.2 5 sd + 1) t → rTells (s.2 6) (s.2 7) (s.2 8) (201 * (1 - t)) i → va_up (s.2 9) (201 * sd + s.2 10 sd) tt (201 * t + tcn (s.2 6) (s.2 7) (s.2 8) (201 * (1 - t)) (i - 1)) = s.2 7 (201 * (1 - t) + i)
    intro i i1 i2 i3
    by_cases e : t = sd
    · subst e
      rw [up_s] at i2
      by_cases ei : i = s.2 5 t
      · subst ei
        rw [← h3, up_s]; exact hT.symm
      · have hlt : tcn (s.2 6) (s.2 7) (s.2 8) (201 * (1 - t)) (i - 1) < s.2 10 t := by
          rw [h3]
          have a1 : tcn (s.2 6) (s.2 7) (s.2 8) (201 * (1 - t)) (i - 1 + 1) = _ := tcn_y (by rw [show i - 1 + 1 = i by omega]; exact i3)
          have a2 := tcn_le (K := s.2 6) (T := s.2 7) (G := s.2 8) (b := 201 * (1 - t)) (i := i - 1 + 1) (j := s.2 5 t - 1) (by omega)
          omega
        rw [up_n (by omega)]
        exact h4 i i1 (by omega) i3
    · rw [up_n e] at i2
      have c1 := tcn_id (K := s.2 6) (T := s.2 7) (G := s.2 8) (b := 201 * (1 - t)) (i - 1)
      have n5t := (hi.1 t ht).2.2.2.1
      have n4t := (hi.1 (1 - t) (by omega)).2.2.1.2
      have n9 : 201 * t + tcn (s.2 6) (s.2 7) (s.2 8) (201 * (1 - t)) (i - 1) ≠ 201 * sd + s.2 10 sd := by
        rcases (show (t = 0 ∧ sd = 1) ∨ (t = 1 ∧ sd = 0) by omega) with ⟨rfl, rfl⟩ | ⟨rfl, rfl⟩ <;> omega
      rw [up_n n9]
      exact h4 i i1 i2 i3
/-- the reference's question whether a key was handled is whether it came ahead -/
theorem handled_iff {d sd : Nat} {s : RS} (h : inv2 d s) (hs : sd < 2) (tt : Nat) (h5 : 1 ≤ s.2 5 sd) : (∃ k, k < s.2 10 sd ∧ s.2 9 (201 * sd + k) = tt) ↔ ∃ k, k < s.2 5 sd ∧ 1 ≤ k ∧ s.2 6 (201 * (1 - sd) + k) = 5 ∧ s.2 7 (201 * (1 - sd) + k) = tt := by
  obtain ⟨-, -, h3, h4, -⟩ := h sd hs
  constructor
  · rintro ⟨k, k1, k2⟩
    rw [h3] at k1
    obtain ⟨n, n1, n2, n3, n4⟩ := tcn_at k1
    have e := h4 n n1 (by omega) n3
    rw [n4, k2] at e
    exact ⟨n, by omega, n1, n3.1, e.symm⟩
  · intro z
    obtain ⟨k, k1, k2, k3, k4, k5⟩ := first_k z
    have tl : rTells (s.2 6) (s.2 7) (s.2 8) (201 * (1 - sd)) k := ⟨k3, fun _ y => k5 (by
      obtain ⟨q, q1, q2, q3, q4⟩ := y
      exact ⟨q, q1, q2, q3, q4.trans k4⟩)⟩
    refine ⟨_, ?_, (h4 k k2 k1 tl).trans k4⟩
    rw [h3]
    have a1 : tcn (s.2 6) (s.2 7) (s.2 8) (201 * (1 - sd)) (k - 1 + 1) = _ := tcn_y (by rw [show k - 1 + 1 = k by omega]; exact tl)
    have a2 := tcn_le (K := s.2 6) (T := s.2 7) (G := s.2 8) (b := 201 * (1 - sd)) (i := k - 1 + 1) (j := s.2 5 sd - 1) (by omega)
    omega
theorem db_up {d : Nat} {I : Nat → Nat → Int32} {sd t : Nat} (h : ∀ t, t < 2 → ∃ k, k ≤ d ∧ I 11 t = nI k) (hs : sd < 2) (ht : t < 2) : ∃ k, k ≤ d + 1 ∧ va_up (I 11) sd (I 11 sd + 1) t = nI k := by
  by_cases e : t = sd
  · subst e
    obtain ⟨k, k1, k2⟩ := h t ht
    exact ⟨k + 1, by omega, by rw [up_s, k2]; exact nI_add k 1⟩
  · obtain ⟨k, k1, k2⟩ := h t ht
    exact ⟨k, by omega, by rw [up_n e]; exact k2⟩
theorem inv2_comes {d : Nat} {tm : Int32} {sd nn kk tt gg : Nat} {s : RS} (h : inv2 d s) (hi : inv s) (hs : sd < 2) (ht : tt < 1000) (h1 : 1 ≤ nn) (h2 : nn < s.2 4 (1 - sd)) (h4 : kk = 4 → nn < tt ∧ tt ≤ s.2 4 (1 - sd)) (h3 : kk = 3 → 1 ≤ tt) (hq : wqk (s.2 6) (s.2 7) (s.2 8) (201 * (1 - sd)) nn kk tt gg) : inv2 (d + 1) (rComes tm sd nn kk tt gg s) := by
  have hw := hi.1 sd hs
  have hu : inv2 (d + 1) s := h.up (by omega)
  have hdb : ∀ t, t < 2 → ∃ k, k ≤ d ∧ s.1 11 t = nI k := fun t ht => (h t ht).2.1
  unfold rComes
  by_cases q : nn = s.2 5 sd
  · rw [if_pos q]
    have hlt := hw.2.2.2.2.1
    have i5 : inv (va_up s.1 12 (va_up (s.1 12) sd 0), va_up s.2 5 (va_up (s.2 5) sd (if kk = 4 then tt else nn + 1))) := inv_5 hi hs (by
      by_cases k4 : kk = 4
      · rw [if_pos k4]; have := h4 k4; omega
      · rw [if_neg k4]; omega) (by
      by_cases k4 : kk = 4
      · rw [if_pos k4]; exact (h4 k4).2
      · rw [if_neg k4]; omega)
    by_cases k5 : kk = 5
    · obtain ⟨b1, b2, b3⟩ := hq.2.1 k5
      rw [q] at b1 b2 b3
      have e4 : (if kk = 4 then tt else nn + 1) = s.2 5 sd + 1 := by rw [if_neg (by omega), q]
      rw [e4]
      unfold rHandles
      rw [if_neg (show ¬ kk = 0 by omega), if_neg (show ¬ kk = 2 by omega), if_neg (show ¬ kk = 3 by omega), if_neg (show ¬ kk = 6 by omega), if_pos k5]
      have hI : ∀ t, t < 2 → (va_up s.1 12 (va_up (s.1 12) sd 0) 3 t = 0 ∨ va_up s.1 12 (va_up (s.1 12) sd 0) 3 t = 1 ∨ va_up s.1 12 (va_up (s.1 12) sd 0) 3 t = 2) ∧ ∃ k, k ≤ d + 1 ∧ va_up s.1 12 (va_up (s.1 12) sd 0) 11 t = nI k := fun t ht => ⟨(hu t ht).1, (hu t ht).2.1⟩
      have yes := fun (z : rTells (s.2 6) (s.2 7) (s.2 8) (201 * (1 - sd)) (s.2 5 sd)) => inv2_key (I := va_up s.1 12 (va_up (s.1 12) sd 0)) hu hi hs z b2 hI rfl
      by_cases g1 : gg.testBit 1 = true
      · rw [if_pos g1]
        by_cases ex : ∃ k, k < s.2 10 sd ∧ s.2 9 (201 * sd + k) = tt
        · have nt : ¬ rTells (s.2 6) (s.2 7) (s.2 8) (201 * (1 - sd)) (s.2 5 sd) := fun z => z.2 (b3.trans g1) (by
            obtain ⟨k, k1, k2, k3, k4⟩ := (handled_iff h hs tt hw.2.2.2.1.1).mp ex
            exact ⟨k, k1, k2, k3, k4.trans b2.symm⟩)
          show inv2 (d + 1) (@ite RS (∃ k, k < s.2 10 sd ∧ s.2 9 (201 * sd + k) = tt) (Classical.propDecidable _) _ _)
          rw [if_pos ex]
          have h5 := inv2_5 h hs (v := s.2 5 sd + 1) hw.2.2.2.1.1 (by omega) (fun i i1 i2 => by obtain rfl : i = s.2 5 sd := (by omega); exact nt)
          exact inv2_I h5 (fun t ht => ⟨(h t ht).1, db_up hdb hs ht⟩)
        · show inv2 (d + 1) (@ite RS (∃ k, k < s.2 10 sd ∧ s.2 9 (201 * sd + k) = tt) (Classical.propDecidable _) _ _)
          rw [if_neg ex]
          exact yes ⟨b1, fun _ z => ex ((handled_iff h hs tt hw.2.2.2.1.1).mpr (by
            obtain ⟨k, k1, k2, k3, k4⟩ := z
            exact ⟨k, k1, k2, k3, k4.trans b2⟩))⟩
      · rw [if_neg g1]
        exact yes ⟨b1, fun z => absurd (b3.symm.trans z) g1⟩
    · have h5 : inv2 (d + 1) (va_up s.1 12 (va_up (s.1 12) sd 0), va_up s.2 5 (va_up (s.2 5) sd (if kk = 4 then tt else nn + 1))) := inv2_5 hu hs hw.2.2.2.1.1 (by
          by_cases k4 : kk = 4
          · rw [if_pos k4]; have := h4 k4; omega
          · rw [if_neg k4]; omega) (fun i i1 i2 z => by
          by_cases k4 : kk = 4
          · rw [if_pos k4] at i2; exact hq.1 k4 i (by omega) i2 z.1
          · rw [if_neg k4] at i2
            obtain rfl : i = nn := by omega
            exact hq.2.2 k4 k5 z.1)
      have snd : ∀ k, k < 7 → k ≠ 4 → k ≠ 3 → inv2 (d + 1) (rSends tm sd k 0 0 _) := fun k a b c => inv2_send h5 i5 hs a (by omega) (by omega) b
      unfold rHandles
      by_cases k0 : kk = 0
      · rw [if_pos k0]; exact inv2_logs h5 i5 hs
      rw [if_neg k0]
      by_cases k2 : kk = 2
      · rw [if_pos k2]; exact snd 1 (by omega) (by omega) (by omega)
      rw [if_neg k2]
      by_cases k3 : kk = 3
      · rw [if_pos k3]; exact inv2_answers h5 i5 hs (h3 k3)
      rw [if_neg k3]
      by_cases k6 : kk = 6
      · rw [if_pos k6]; exact inv2_off (s := rSends tm sd 6 0 0 _) (snd 6 (by omega) (by omega) (by omega))
      rw [if_neg k6, if_neg k5]
      exact h5
  · rw [if_neg q]
    by_cases q2 : nn ≤ s.2 5 sd
    · rw [if_pos q2]
      by_cases g0 : gg.testBit 0 = true
      · rw [if_pos g0]; exact inv2_I h (fun t ht => ⟨(h t ht).1, db_up hdb hs ht⟩)
      · rw [if_neg g0]; exact inv2_off hu
    · rw [if_neg q2]
      by_cases k0 : kk = 0
      · rw [if_pos k0]
        have e : rHandles tm sd kk tt gg s = rLogsOn tm sd (gg.testBit 2 = true) s := by unfold rHandles; rw [if_pos k0]
        rw [e]
        exact inv2_ask (inv2_logs hu hi hs) (inv_logs hi hs) hs
      · rw [if_neg k0]
        by_cases k3 : kk = 3
        · rw [if_pos k3]
          have e : rHandles tm sd kk tt gg s = rAnswers tm sd tt s := by unfold rHandles; rw [if_neg k0, if_neg (show ¬ kk = 2 by omega), if_pos k3]
          rw [e]
          exact inv2_ask (inv2_answers hu hi hs (h3 k3)) (inv_answers hi hs (h3 k3)) hs
        · rw [if_neg k3]; exact inv2_ask hu hi hs
theorem inv2_rem {d sd : Nat} {s : RS} (h : inv2 d s) (hi : inv s) (hs : sd < 2) (hc : ¬ s.2 17 sd = 0) : inv2 d (s.1, rRemoves sd s.2) := by
  intro t ht
  obtain ⟨h1, h2, h3, h4, h6⟩ := h t ht
  have h17 := (hi.1 sd hs).2.2.2.2.2.1
  refine ⟨h1, h2, h3, h4, ?_⟩
  show ∀ j, j < va_up (s.2 17) sd (s.2 17 sd - 1) t → wqk (s.2 6) (s.2 7) (s.2 8) (201 * (1 - t)) (rSh (60 * sd) (s.2 17 sd - 1) (s.2 18) (60 * t + j)) (rSh (60 * sd) (s.2 17 sd - 1) (s.2 19) (60 * t + j)) (rSh (60 * sd) (s.2 17 sd - 1) (s.2 20) (60 * t + j)) (rSh (60 * sd) (s.2 17 sd - 1) (s.2 21) (60 * t + j))
  intro j hj
  by_cases e : t = sd
  · subst e
    rw [up_s] at hj
    rw [sh_in hj, sh_in hj, sh_in hj, sh_in hj]
    exact h6 (j + 1) (by omega)
  · rw [up_n e] at hj
    have h60 := (hi.1 t ht).2.2.2.2.2.1
    have ho : 60 * t + j < 60 * sd ∨ 60 * sd + (s.2 17 sd - 1) ≤ 60 * t + j := by
      rcases (show (t = 0 ∧ sd = 1) ∨ (t = 1 ∧ sd = 0) by omega) with ⟨rfl, rfl⟩ | ⟨rfl, rfl⟩ <;> omega
    rw [sh_out ho, sh_out ho, sh_out ho, sh_out ho]
    exact h6 j hj
theorem inv2_taken {d : Nat} {tm : Int32} {sd : Nat} {s : RS} (h : inv2 d s) (hi : inv s) (hs : sd < 2) (hc : ¬ s.2 17 sd = 0) : inv2 d (rTaken tm sd s) :=
  inv2_I (s := (s.1, rRemoves sd s.2)) (inv2_rem h hi hs hc) (fun t ht => ⟨(h t ht).1, (h t ht).2.1⟩)
theorem inv2_wires {d : Nat} {s : RS} (h : inv2 d s) : inv2 d (s.1, va_up (va_up s.2 17 (va_up (s.2 17) 0 0)) 17 (va_up (va_up (s.2 17) 0 0) 1 0)) := by
  have z : ∀ t, t < 2 → va_up (va_up (s.2 17) 0 0) 1 0 t = 0 := fun t ht => by
    rcases (show t = 0 ∨ t = 1 by omega) with rfl | rfl <;> rfl
  intro t ht
  obtain ⟨h1, h2, h3, h4, h6⟩ := h t ht
  refine ⟨h1, h2, h3, h4, fun j hj => ?_⟩
  have hj : j < va_up (va_up (s.2 17) 0 0) 1 0 t := hj
  rw [z t ht] at hj
  exact absurd hj (Nat.not_lt_zero j)
theorem inv2_day {d : Nat} {s : RS} (h : inv2 d s) : inv2 d (rEmpties s) := by
  have x5 : ∀ u, u < 2 → (rEmpties s).2 5 u = 1 := fun u hu => z_two (f := s.2 5) hu
  have x10 : ∀ u, u < 2 → (rEmpties s).2 10 u = 0 := fun u hu => z_two (f := s.2 10) hu
  have x17 : ∀ u, u < 2 → (rEmpties s).2 17 u = 0 := fun u hu => z_two (f := s.2 17) hu
  have x11 : ∀ u, u < 2 → (rEmpties s).1 11 u = 0 := fun u hu => z_two (f := s.1 11) hu
  intro t ht
  refine ⟨(h t ht).1, ⟨0, Nat.zero_le _, x11 t ht⟩, ?_, fun i i1 i2 => ?_, fun j hj => ?_⟩
  · rw [x10 t ht, x5 t ht]; rfl
  · rw [x5 t ht] at i2; omega
  · rw [x17 t ht] at hj; exact absurd hj (Nat.not_lt_zero j)
/-! keys agree as far as they were handled -/
theorem agl_all {c : Nat} {f K T G : Nat → Nat} {b e : Nat} (hc : c = tcn K T G b (e - 1)) (hf : ∀ i, 1 ≤ i → i < e → rTells K T G b i → f (tcn K T G b (i - 1)) = T (b + i)) : ∀ (j i : Nat), 1 ≤ i → i + j = e → rAgL c f K T G b j i (tcn K T G b (i - 1)) = c
  | 0, i, _, he => by
    show tcn K T G b (i - 1) = c
    rw [hc, ← he]; rfl
  | j + 1, i, h1, he => by
    unfold rAgL
    have e1 : i - 1 + 1 = i := by omega
    have ih := agl_all hc hf j (i + 1) (by omega) (by omega)
    rw [show i + 1 - 1 = i by omega] at ih
    by_cases q : rTells K T G b i
    · rw [if_pos q]
      have a1 : tcn K T G b (i - 1 + 1) = tcn K T G b (i - 1) + 1 := tcn_y (by rw [e1]; exact q)
      rw [e1] at a1
      have a2 := tcn_le (K := K) (T := T) (G := G) (b := b) (i := i) (j := e - 1) (by omega)
      rw [if_neg (by omega), if_pos (hf i h1 (by omega) q), ← a1]
      exact ih
    · rw [if_neg q]
      have a1 : tcn K T G b (i - 1 + 1) = tcn K T G b (i - 1) := tcn_n (by rw [e1]; exact q)
      rw [e1] at a1
      rw [← a1]
      exact ih
theorem agreed_all {d sd : Nat} {c o : CS} {s : RS} (h : rel2 sd c o s) (hi : inv s) (h2 : inv2 d s) : cAgreedF (c.2.1 7) (c.2.1 8) (c.2.2 1) (o.2.1 6) (o.2.2 0) = c.2.1 8 := by
  have hs := h.hs
  obtain ⟨-, -, h3, h4, -⟩ := h2 sd hs
  have h5 := (hi.1 sd hs).2.2.2.1.1
  rw [k_agreed h hi, h.a.m8]
  exact agl_all (c := s.2 10 sd) (f := fun k => s.2 9 (201 * sd + k)) h3 h4 (s.2 5 sd - 1) 1 (Nat.le_refl 1) (by omega)
