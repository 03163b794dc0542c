/-! ===== what always holds of the reference ===== -/
abbrev wok (N : Nat → Nat → Nat) (lim k : Nat) : Prop := 1 ≤ N 18 k ∧ N 18 k < lim ∧ (N 19 k = 4 → N 18 k < N 20 k ∧ N 20 k ≤ lim) ∧ (N 19 k = 3 → 1 ≤ N 20 k)
abbrev iv (sd : Nat) (I : Nat → Nat → Int32) (N : Nat → Nat → Nat) : Prop :=
  (I 12 sd = 0 ∨ I 12 sd = 1) ∧ (¬ I 3 sd = 2 → I 12 sd = 0) ∧ (1 ≤ N 4 sd ∧ N 4 sd ≤ 201) ∧ (1 ≤ N 5 sd ∧ N 5 sd ≤ N 4 (1 - sd)) ∧ N 10 sd < N 5 sd ∧ N 17 sd ≤ 60 ∧ ∀ j, j < N 17 sd → wok N (N 4 (1 - sd)) (60 * sd + j)
abbrev ig (N : Nat → Nat → Nat) : Prop := (∀ j, N 6 j < 7) ∧ (∀ j, N 7 j < 1000) ∧ (∀ j, N 8 j < 8) ∧ (∀ j, N 19 j < 7) ∧ (∀ j, N 20 j < 1000) ∧ (∀ j, N 21 j < 8) ∧ nb N
abbrev inv (s : RS) : Prop := (∀ t, t < 2 → iv t s.1 s.2) ∧ ig s.2
theorem up_all {f : Nat → Nat} {k v lim : Nat} (h : ∀ j, f j < lim) (hv : v < lim) (j : Nat) : va_up f k v j < lim := by
  by_cases e : j = k
  · subst e; rw [up_s]; exact hv
  · rw [up_n e]; exact h j
theorem two {t sd : Nat} (hs : sd < 2) (ht : t < 2) : t = sd ∨ t = 1 - sd := by omega
/-- only rows of raw numbers change -/
theorem inv_I {s : RS} {I : Nat → Nat → Int32} (h : inv s) (hI : ∀ t, t < 2 → (I 12 t = 0 ∨ I 12 t = 1) ∧ (¬ I 3 t = 2 → I 12 t = 0)) : inv (I, s.2) :=
  ⟨fun t ht => ⟨(hI t ht).1, (hI t ht).2, (h.1 t ht).2.2⟩, h.2⟩
theorem inv_put {tm : Int32} {sd nn kk tt gg : Nat} {s : RS} (h : inv s) (hs : sd < 2) (h1 : 1 ≤ nn) (h2 : nn < s.2 4 sd) (h3 : kk < 7) (h4 : tt < 1000) (h5 : gg < 8) (h6 : kk = 4 → nn < tt ∧ tt ≤ s.2 4 sd) (h7 : kk = 3 → 1 ≤ tt) : inv (rPuts tm sd nn kk tt gg s) := by
  obtain ⟨hv, g6, g7, g8, g19, g20, g21, gn⟩ := h
  have n4 := (hv sd hs).2.2.1
  have ea : 1 - (1 - sd) = sd := by omega
  have ne : sd ≠ 1 - sd := by omega
  by_cases q : 60 ≤ s.2 17 (1 - sd)
  · have e2 : rPP (1 - sd) (s.2 17) (s.2 18) (s.2 19) (s.2 20) (s.2 21) nn kk tt gg = (s.2 17, s.2 18, s.2 19, s.2 20, s.2 21) := if_pos q
    unfold rPuts
    rw [e2]
    dsimp only
    rw [up_id (f := s.2) (k := 17), up_id (f := s.2) (k := 18), up_id (f := s.2) (k := 19), up_id (f := s.2) (k := 20), up_id (f := s.2) (k := 21)]
    exact ⟨fun t ht => hv t ht, g6, g7, g8, g19, g20, g21, gn⟩
  · have e2 : rPP (1 - sd) (s.2 17) (s.2 18) (s.2 19) (s.2 20) (s.2 21) nn kk tt gg = (va_up (s.2 17) (1 - sd) (s.2 17 (1 - sd) + 1), va_up (s.2 18) (60 * (1 - sd) + s.2 17 (1 - sd)) nn, va_up (s.2 19) (60 * (1 - sd) + s.2 17 (1 - sd)) kk, va_up (s.2 20) (60 * (1 - sd) + s.2 17 (1 - sd)) tt, va_up (s.2 21) (60 * (1 - sd) + s.2 17 (1 - sd)) gg) := if_neg q
    unfold rPuts
    rw [e2]
    refine ⟨fun t ht => ?_, g6, g7, g8, up_all g19 h3, up_all g20 h4, up_all g21 h5, ?_⟩
    · have hw := hv t ht
      have h17 := (hv (1 - sd) (by omega)).2.2.2.2.2.1
      refine ⟨hw.1, hw.2.1, hw.2.2.1, hw.2.2.2.1, hw.2.2.2.2.1, ?_, ?_⟩
      · show va_up (s.2 17) (1 - sd) (s.2 17 (1 - sd) + 1) t ≤ 60
        rcases two hs ht with rfl | rfl
        · rw [up_n ne]; exact hw.2.2.2.2.2.1
        · rw [up_s]; omega
      · show ∀ j, j < va_up (s.2 17) (1 - sd) (s.2 17 (1 - sd) + 1) t → 1 ≤ va_up (s.2 18) _ nn (60 * t + j) ∧ va_up (s.2 18) _ nn (60 * t + j) < s.2 4 (1 - t) ∧ (va_up (s.2 19) _ kk (60 * t + j) = 4 → va_up (s.2 18) _ nn (60 * t + j) < va_up (s.2 20) _ tt (60 * t + j) ∧ va_up (s.2 20) _ tt (60 * t + j) ≤ s.2 4 (1 - t)) ∧ (va_up (s.2 19) _ kk (60 * t + j) = 3 → 1 ≤ va_up (s.2 20) _ tt (60 * t + j))
        intro j hj
        rcases two hs ht with rfl | rfl
        · rw [up_n ne] at hj
          have h60 := hw.2.2.2.2.2.1
          have n9 : 60 * t + j ≠ 60 * (1 - t) + s.2 17 (1 - t) := by
            rcases (show t = 0 ∨ t = 1 by omega) with rfl | rfl <;> omega
          rw [up_n n9, up_n n9, up_n n9]
          exact hw.2.2.2.2.2.2 j hj
        · rw [up_s] at hj
          by_cases e : j = s.2 17 (1 - sd)
          · subst e
            rw [up_s, up_s, up_s, ea]
            exact ⟨h1, h2, h6, h7⟩
          · have n9 : 60 * (1 - sd) + j ≠ 60 * (1 - sd) + s.2 17 (1 - sd) := by omega
            rw [up_n n9, up_n n9, up_n n9]
            exact hw.2.2.2.2.2.2 j (by omega)
    · have h17 := (hv (1 - sd) (by omega)).2.2.2.2.2.1
      exact nb_up (nb_up (nb_up (nb_up (nb_up gn (up_all (gn 17) (by omega))) (up_all (gn 18) (by omega))) (up_all (gn 19) (by omega))) (up_all (gn 20) (by omega))) (up_all (gn 21) (by omega))
theorem inv_send {tm : Int32} {sd kk tt gg : Nat} {s : RS} (h : inv s) (hs : sd < 2) (h3 : kk < 7) (h4 : tt < 1000) (h5 : gg < 8) (h6 : kk ≠ 4) (h7 : kk = 3 → 1 ≤ tt) : inv (rSends tm sd kk tt gg s) := by
  unfold rSends
  by_cases q : s.2 4 sd ≤ 200
  · rw [if_pos q]
    obtain ⟨hv, g6, g7, g8, g19, g20, g21, gn⟩ := h
    have n4 := (hv sd hs).2.2.1
    have e4 : rKeep sd kk tt gg s.2 4 sd = s.2 4 sd + 1 := up_s
    refine inv_put ⟨fun t ht => ?_, up_all g6 h3, up_all g7 h4, up_all g8 h5, g19, g20, g21, ?_⟩ hs (by omega) (by show _ < rKeep sd kk tt gg s.2 4 sd; rw [e4]; omega) h3 h4 h5 (fun z => absurd z h6) h7
    · have hw := hv t ht
      have m4 : ∀ u, s.2 4 u ≤ rKeep sd kk tt gg s.2 4 u := fun u => by
        show s.2 4 u ≤ va_up (s.2 4) sd (s.2 4 sd + 1) u
        by_cases e : u = sd
        · subst e; rw [up_s]; omega
        · rw [up_n e]; omega
      have l4 : rKeep sd kk tt gg s.2 4 t ≤ 201 := by
        show va_up (s.2 4) sd (s.2 4 sd + 1) t ≤ 201
        by_cases e : t = sd
        · subst e; rw [up_s]; omega
        · rw [up_n e]; exact hw.2.2.1.2
      have a4 := m4 t
      have b4 := m4 (1 - t)
      refine ⟨hw.1, hw.2.1, ⟨by have := hw.2.2.1.1; show 1 ≤ rKeep sd kk tt gg s.2 4 t; omega, l4⟩, ⟨hw.2.2.2.1.1, Nat.le_trans hw.2.2.2.1.2 b4⟩, hw.2.2.2.2.1, hw.2.2.2.2.2.1, fun j hj => ?_⟩
      obtain ⟨w1, w2, w3, w4⟩ := hw.2.2.2.2.2.2 j hj
      exact ⟨w1, Nat.lt_of_lt_of_le w2 b4, fun z => ⟨(w3 z).1, Nat.le_trans (w3 z).2 b4⟩, w4⟩
    · exact nb_up (nb_up (nb_up (nb_up gn (up_all (gn 6) (by omega))) (up_all (gn 7) (by omega))) (up_all (gn 8) (by omega))) (up_all (gn 4) (by omega))
  · rw [if_neg q]; exact h
theorem upI_12 {I : Nat → Nat → Int32} {sd : Nat} {v : Int32} (hv : v = 0 ∨ v = 1) {t : Nat} (h : I 12 t = 0 ∨ I 12 t = 1) : va_up (I 12) sd v t = 0 ∨ va_up (I 12) sd v t = 1 := by
  by_cases e : t = sd
  · subst e; rw [up_s]; exact hv
  · rw [up_n e]; exact h
theorem inv_off {sd : Nat} {s : RS} (h : inv s) : inv (rTurns sd s.1, s.2) := inv_I h fun t ht => by
  have hw := h.1 t ht
  show (va_up (s.1 12) sd 0 t = 0 ∨ va_up (s.1 12) sd 0 t = 1) ∧ (¬ va_up (s.1 3) sd 0 t = 2 → va_up (s.1 12) sd 0 t = 0)
  by_cases e : t = sd
  · subst e; rw [up_s, up_s]; exact ⟨Or.inl rfl, fun _ => rfl⟩
  · rw [up_n e, up_n e]; exact ⟨hw.1, hw.2.1⟩
theorem inv_logs {tm : Int32} {sd : Nat} {aP : Prop} {s : RS} (h : inv s) (hs : sd < 2) : inv (rLogsOn tm sd aP s) := by
  unfold rLogsOn
  by_cases q : aP
  · rw [if_pos q]
    refine inv_send (inv_I h fun t ht => ?_) hs (by omega) (by omega) (by omega) (by omega) (fun z => by omega)
    have hw := h.1 t ht
    show (va_up (s.1 12) sd 0 t = 0 ∨ va_up (s.1 12) sd 0 t = 1) ∧ (¬ va_up (s.1 3) sd 2 t = 2 → va_up (s.1 12) sd 0 t = 0)
    by_cases e : t = sd
    · subst e; rw [up_s, up_s]; exact ⟨Or.inl rfl, fun _ => rfl⟩
    · rw [up_n e, up_n e]; exact ⟨hw.1, hw.2.1⟩
  · rw [if_neg q]
    by_cases q2 : s.1 3 sd = 1
    · rw [if_pos q2]
      refine inv_I h fun t ht => ?_
      have hw := h.1 t ht
      show (s.1 12 t = 0 ∨ s.1 12 t = 1) ∧ (¬ va_up (s.1 3) sd 2 t = 2 → s.1 12 t = 0)
      refine ⟨hw.1, fun z => ?_⟩
      by_cases e : t = sd
      · subst e; rw [up_s] at z; exact absurd rfl z
      · rw [up_n e] at z; exact hw.2.1 z
    · rw [if_neg q2]; exact h
theorem inv_ask {tm : Int32} {sd : Nat} {s : RS} (h : inv s) (hs : sd < 2) : inv (rAsks tm sd s) := by
  unfold rAsks
  by_cases q : s.1 3 sd = 2
  · rw [if_pos q]
    by_cases q2 : s.1 12 sd = 0
    · rw [if_pos q2]
      have hw := h.1 sd hs
      have hz := h.1 (1 - sd) (by omega)
      have h2 := inv_send (tm := tm) (kk := 3) (tt := s.2 5 sd) (gg := 0) h hs (by omega) (by omega) (by omega) (by omega) (fun _ => hw.2.2.2.1.1)
      have e3 : (rSends tm sd 3 (s.2 5 sd) 0 s).1 3 sd = 2 := by
        unfold rSends
        by_cases q9 : s.2 4 sd ≤ 200
        · rw [if_pos q9]; exact q
        · rw [if_neg q9]; exact q
      refine inv_I h2 fun t ht => ?_
      have h3 := h2.1 t ht
      show (va_up ((rSends tm sd 3 (s.2 5 sd) 0 s).1 12) sd 1 t = 0 ∨ va_up ((rSends tm sd 3 (s.2 5 sd) 0 s).1 12) sd 1 t = 1) ∧ (¬ (rSends tm sd 3 (s.2 5 sd) 0 s).1 3 t = 2 → va_up ((rSends tm sd 3 (s.2 5 sd) 0 s).1 12) sd 1 t = 0)
      refine ⟨upI_12 (Or.inr rfl) h3.1, fun z => ?_⟩
      by_cases e : t = sd
      · subst e; exact absurd e3 z
      · rw [up_n e]; exact h3.2.1 z
    · rw [if_neg q2]; exact h
  · rw [if_neg q]; exact h
theorem inv_tickx {tm : Int32} {sd : Nat} {s : RS} (h : inv s) : inv (rTickX tm sd s.1, s.2) := by
  unfold rTickX
  by_cases q : s.1 12 sd = 0
  · rw [if_pos q]; exact h
  · rw [if_neg q]
    by_cases q2 : tm - s.1 13 sd < 4
    · rw [if_pos q2]; exact h
    · rw [if_neg q2]
      refine inv_I h fun t ht => ?_
      have hw := h.1 t ht
      show (va_up (s.1 12) sd 0 t = 0 ∨ va_up (s.1 12) sd 0 t = 1) ∧ (¬ s.1 3 t = 2 → va_up (s.1 12) sd 0 t = 0)
      refine ⟨upI_12 (Or.inl rfl) hw.1, fun z => ?_⟩
      by_cases e : t = sd
      · subst e; exact up_s
      · rw [up_n e]; exact hw.2.1 z
theorem inv_tick {tm : Int32} {sd : Nat} {s : RS} (h : inv s) (hs : sd < 2) : inv (rTick tm sd s) := by
  have hx := inv_tickx (tm := tm) (sd := sd) h
  have hsnd : inv (rSends tm sd 1 0 0 (rTickX tm sd s.1, s.2)) := inv_send hx hs (by omega) (by omega) (by omega) (by omega) (fun z => by omega)
  unfold rTick
  by_cases q : s.1 3 sd = 2
  · rw [if_pos q]
    by_cases q1 : tm - s.1 14 sd < 8
    · rw [if_pos q1]
      by_cases q2 : tm - s.1 14 sd < 5
      · rw [if_pos q2]
        by_cases q3 : tm - s.1 16 sd < 3
        · rw [if_pos q3]; exact hx
        · rw [if_neg q3]; exact hsnd
      · rw [if_neg q2]
        by_cases q4 : s.1 15 sd = 0
        · rw [if_pos q4]
          refine inv_send (inv_I (s := (rTickX tm sd s.1, s.2)) hx fun t ht => ⟨(hx.1 t ht).1, (hx.1 t ht).2.1⟩) hs (by omega) (by omega) (by omega) (by omega) (fun z => by omega)
        · rw [if_neg q4]
          by_cases q3 : tm - s.1 16 sd < 3
          · rw [if_pos q3]; exact hx
          · rw [if_neg q3]; exact hsnd
    · rw [if_neg q1]; exact inv_off hx
  · rw [if_neg q]; exact hx
