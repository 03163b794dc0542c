/-! ===== .. through receiving ===== -/
theorem inv_fill {tm : Int32} {sd b : Nat} {fo : Option Nat} {w : WS} {s : RS} (h : inv (wsIn w s)) (hs : sd < 2) (hfo : ∀ f, fo = some f → 1 ≤ f ∧ f < b) (hb : b ≤ s.2 4 sd) : inv (wsIn (rFW tm sd fo b w) s) := by
  cases fo with
  | none => exact h
  | some f =>
    have hf := hfo f rfl
    have n4 : s.2 4 sd ≤ 201 := (h.1 sd hs).2.2.1.2
    have h2 := inv_put (tm := tm) (nn := f) (kk := 4) (tt := b) (gg := 1) h hs hf.1 (show f < s.2 4 sd by omega) (by omega) (by omega) (by omega) (fun _ => ⟨hf.2, hb⟩) (fun z => by omega)
    rw [wsIn_puts] at h2
    exact h2
theorem inv_ansl {tm : Int32} {sd : Nat} (hs : sd < 2) (s : RS) (h7 : ∀ j, s.2 7 j < 1000) (h8 : ∀ j, s.2 8 j < 8) : ∀ (k i : Nat) (fo : Option Nat) (w : WS), 1 ≤ i → i + k ≤ s.2 4 sd → (∀ f, fo = some f → 1 ≤ f ∧ f < i) → inv (wsIn w s) →
    inv (wsIn (rAnsL tm sd (s.2 6) (s.2 7) (s.2 8) k i fo w).2 s) ∧ ∀ f, (rAnsL tm sd (s.2 6) (s.2 7) (s.2 8) k i fo w).1 = some f → 1 ≤ f ∧ f < i + k
  | 0, i, fo, w, _, _, hf, h => ⟨h, hf⟩
  | k + 1, i, fo, w, hi, hk, hf, h => by
    unfold rAnsL
    by_cases q : s.2 6 (201 * sd + i) = 5
    · rw [if_pos q]
      have h2 := inv_fill (tm := tm) h hs hf (show i ≤ s.2 4 sd by omega)
      have h3 := inv_put (tm := tm) (nn := i) (kk := 5) (tt := s.2 7 (201 * sd + i)) (gg := s.2 8 (201 * sd + i) ||| 1) h2 hs hi (show i < s.2 4 sd by omega) (by omega) (h7 _) (or1 _ (h8 _)).2 (fun z => by omega) (fun z => by omega)
      rw [wsIn_puts] at h3
      obtain ⟨r1, r2⟩ := inv_ansl hs s h7 h8 k (i + 1) none _ (by omega) (by omega) (fun f z => by cases z) h3
      exact ⟨r1, fun f z => by have := r2 f z; omega⟩
    · rw [if_neg q]
      have hf2 : ∀ f, (match fo with
        | none => some i
        | some f => some f) = some f → 1 ≤ f ∧ f < i + 1 := by
        intro f z
        cases fo with
        | none => cases z; omega
        | some g => cases z; have := hf f rfl; omega
      obtain ⟨r1, r2⟩ := inv_ansl hs s h7 h8 k (i + 1) _ w (by omega) (by omega) hf2 h
      exact ⟨r1, fun f z => by have := r2 f z; omega⟩
theorem inv_answers {tm : Int32} {sd frm : Nat} {s : RS} (h : inv s) (hs : sd < 2) (hf : 1 ≤ frm) : inv (rAnswers tm sd frm s) := by
  have h0 : inv (wsIn (wsOf s) s) := by rw [wsIn_of]; exact h
  unfold rAnswers rAnsW
  by_cases q : frm ≤ s.2 4 sd
  · obtain ⟨r1, r2⟩ := inv_ansl (tm := tm) hs s h.2.2.1 h.2.2.2.1 (s.2 4 sd - frm) frm none (wsOf s) hf (by omega) (fun f z => by cases z) h0
    exact inv_fill r1 hs (fun f z => by have := r2 f z; omega) (Nat.le_refl _)
  · rw [show s.2 4 sd - frm = 0 by omega]
    exact h0
theorem inv_key {sd tt : Nat} {s : RS} (h : inv s) (hs : sd < 2) (ht : tt < 1000) (hk : s.2 10 sd + 1 < s.2 5 sd) : inv (s.1, va_up (va_up s.2 9 (va_up (s.2 9) (201 * sd + s.2 10 sd) tt)) 10 (va_up (s.2 10) sd (s.2 10 sd + 1))) := by
  obtain ⟨hv, g6, g7, g8, g19, g20, g21, gn⟩ := h
  have hw := hv sd hs
  refine ⟨fun t ht => ?_, g6, g7, g8, g19, g20, g21, nb_up (nb_up gn (up_all (gn 9) (by omega))) (up_all (gn 10) (by have := gn 5 sd; omega))⟩
  have hz := hv t ht
  refine ⟨hz.1, hz.2.1, hz.2.2.1, hz.2.2.2.1, ?_, hz.2.2.2.2.2⟩
  show va_up (s.2 10) sd (s.2 10 sd + 1) t < s.2 5 t
  by_cases e : t = sd
  · subst e; rw [up_s]; exact hk
  · rw [up_n e]; exact hz.2.2.2.2.1
theorem inv_handles {tm : Int32} {sd kk tt gg : Nat} {s : RS} (h : inv s) (hs : sd < 2) (ht : tt < 1000) (hk : kk = 5 → s.2 10 sd + 1 < s.2 5 sd) (h3 : kk = 3 → 1 ≤ tt) : inv (rHandles tm sd kk tt gg s) := by
  have snd : ∀ k, k < 7 → k ≠ 4 → k ≠ 3 → inv (rSends tm sd k 0 0 s) := fun k a b c => inv_send h hs a (by omega) (by omega) b (fun z => absurd z c)
  unfold rHandles
  by_cases k0 : kk = 0
  · rw [if_pos k0]; exact inv_logs h hs
  rw [if_neg k0]
  by_cases k2 : kk = 2
  · rw [if_pos k2]; exact snd 1 (by omega) (by omega) (by omega)
  rw [if_neg k2]
  by_cases k3 : kk = 3
  · rw [if_pos k3]; exact inv_answers h hs (h3 k3)
  rw [if_neg k3]
  by_cases k6 : kk = 6
  · rw [if_pos k6]; exact inv_off (s := rSends tm sd 6 0 0 s) (snd 6 (by omega) (by omega) (by omega))
  rw [if_neg k6]
  by_cases k5 : kk = 5
  · rw [if_pos k5]
    by_cases g1 : gg.testBit 1 = true
    · rw [if_pos g1]
      by_cases ex : ∃ k, k < s.2 10 sd ∧ s.2 9 (201 * sd + k) = tt
      · rw [if_pos ex]; exact inv_I h (fun t ht => ⟨(h.1 t ht).1, (h.1 t ht).2.1⟩)
      · rw [if_neg ex]; exact inv_key h hs ht (hk k5)
    · rw [if_neg g1]; exact inv_key h hs ht (hk k5)
  · rw [if_neg k5]; exact h
theorem inv_5 {sd v : Nat} {s : RS} (h : inv s) (hs : sd < 2) (h1 : s.2 10 sd < v) (h2 : v ≤ s.2 4 (1 - sd)) : inv (va_up s.1 12 (va_up (s.1 12) sd 0), va_up s.2 5 (va_up (s.2 5) sd v)) := by
  obtain ⟨hv, g6, g7, g8, g19, g20, g21, gn⟩ := h
  have n4 := (hv (1 - sd) (by omega)).2.2.1.2
  refine ⟨fun t ht => ?_, g6, g7, g8, g19, g20, g21, nb_up gn (up_all (gn 5) (by omega))⟩
  have hz := hv t ht
  by_cases e : t = sd
  · subst e
    refine ⟨Or.inl up_s, fun _ => up_s, hz.2.2.1, ?_, ?_, hz.2.2.2.2.2⟩
    · show 1 ≤ va_up (s.2 5) t v t ∧ va_up (s.2 5) t v t ≤ s.2 4 (1 - t)
      rw [up_s]; omega
    · show s.2 10 t < va_up (s.2 5) t v t
      rw [up_s]; exact h1
  · refine ⟨?_, ?_, hz.2.2.1, ?_, ?_, hz.2.2.2.2.2⟩
    · show va_up (s.1 12) sd 0 t = 0 ∨ va_up (s.1 12) sd 0 t = 1
      rw [up_n e]; exact hz.1
    · show ¬ s.1 3 t = 2 → va_up (s.1 12) sd 0 t = 0
      rw [up_n e]; exact hz.2.1
    · show 1 ≤ va_up (s.2 5) sd v t ∧ va_up (s.2 5) sd v t ≤ s.2 4 (1 - t)
      rw [up_n e]; exact hz.2.2.2.1
    · show s.2 10 t < va_up (s.2 5) sd v t
      rw [up_n e]; exact hz.2.2.2.2.1
theorem inv_comes {tm : Int32} {sd nn kk tt gg : Nat} {s : RS} (h : inv s) (hs : sd < 2) (ht : tt < 1000) (h1 : 1 ≤ nn) (h2 : nn < s.2 4 (1 - sd)) (h4 : kk = 4 → nn < tt ∧ tt ≤ s.2 4 (1 - sd)) (h3 : kk = 3 → 1 ≤ tt) : inv (rComes tm sd nn kk tt gg s) := by
  have hw := h.1 sd hs
  unfold rComes
  by_cases q : nn = s.2 5 sd
  · rw [if_pos q]
    have hlt := hw.2.2.2.2.1
    refine inv_handles (inv_5 h hs ?_ ?_) hs ht (fun z => ?_) h3
    · by_cases k4 : kk = 4
      · rw [if_pos k4]; have := h4 k4; omega
      · rw [if_neg k4]; omega
    · by_cases k4 : kk = 4
      · rw [if_pos k4]; exact (h4 k4).2
      · rw [if_neg k4]; omega
    · show s.2 10 sd + 1 < va_up (s.2 5) sd _ sd
      rw [up_s, if_neg (by omega)]; omega
  · rw [if_neg q]
    by_cases q2 : nn ≤ s.2 5 sd
    · rw [if_pos q2]
      by_cases g0 : gg.testBit 0 = true
      · rw [if_pos g0]; exact inv_I h (fun t ht => ⟨(h.1 t ht).1, (h.1 t ht).2.1⟩)
      · rw [if_neg g0]; exact inv_off h
    · rw [if_neg q2]
      by_cases k0 : kk = 0
      · rw [if_pos k0]; exact inv_ask (inv_handles h hs ht (fun z => by omega) h3) hs
      · rw [if_neg k0]
        by_cases k3 : kk = 3
        · rw [if_pos k3]; exact inv_ask (inv_handles h hs ht (fun z => by omega) h3) hs
        · rw [if_neg k3]; exact inv_ask h hs
theorem sh_all {lo c lim : Nat} {g : Nat → Nat} (h : ∀ j, g j < lim) (j : Nat) : rSh lo c g j < lim := by
  unfold rSh
  by_cases q : lo ≤ j ∧ j < lo + c
  · rw [if_pos q]; exact h _
  · rw [if_neg q]; exact h _
theorem sh_in {lo c j : Nat} {g : Nat → Nat} (h : j < c) : rSh lo c g (lo + j) = g (lo + (j + 1)) := (if_pos (by omega)).trans (by rw [Nat.add_assoc])
theorem sh_out {lo c j : Nat} {g : Nat → Nat} (h : j < lo ∨ lo + c ≤ j) : rSh lo c g j = g j := if_neg (by omega)
theorem inv_rem {sd : Nat} {s : RS} (h : inv s) (hs : sd < 2) (hc : ¬ s.2 17 sd = 0) : inv (s.1, rRemoves sd s.2) := by
  obtain ⟨hv, g6, g7, g8, g19, g20, g21, gn⟩ := h
  refine ⟨fun t ht => ?_, g6, g7, g8, sh_all g19, sh_all g20, sh_all g21, nb_rem gn⟩
  have hz := hv t ht
  have h17 := (hv sd hs).2.2.2.2.2.1
  refine ⟨hz.1, hz.2.1, hz.2.2.1, hz.2.2.2.1, hz.2.2.2.2.1, ?_, ?_⟩
  · show va_up (s.2 17) sd (s.2 17 sd - 1) t ≤ 60
    by_cases e : t = sd
    · subst e; rw [up_s]; omega
    · rw [up_n e]; exact hz.2.2.2.2.2.1
  · show ∀ j, j < va_up (s.2 17) sd (s.2 17 sd - 1) t → 1 ≤ rSh (60 * sd) (s.2 17 sd - 1) (s.2 18) (60 * t + j) ∧ rSh (60 * sd) (s.2 17 sd - 1) (s.2 18) (60 * t + j) < s.2 4 (1 - t) ∧ (rSh (60 * sd) (s.2 17 sd - 1) (s.2 19) (60 * t + j) = 4 → rSh (60 * sd) (s.2 17 sd - 1) (s.2 18) (60 * t + j) < rSh (60 * sd) (s.2 17 sd - 1) (s.2 20) (60 * t + j) ∧ rSh (60 * sd) (s.2 17 sd - 1) (s.2 20) (60 * t + j) ≤ s.2 4 (1 - t)) ∧ (rSh (60 * sd) (s.2 17 sd - 1) (s.2 19) (60 * t + j) = 3 → 1 ≤ rSh (60 * sd) (s.2 17 sd - 1) (s.2 20) (60 * t + j))
    intro j hj
    by_cases e : t = sd
    · subst e
      rw [up_s] at hj
      rw [sh_in hj, sh_in hj, sh_in hj]
      exact hz.2.2.2.2.2.2 (j + 1) (by omega)
    · rw [up_n e] at hj
      have h60 := hz.2.2.2.2.2.1
      have ho : 60 * t + j < 60 * sd ∨ 60 * sd + (s.2 17 sd - 1) ≤ 60 * t + j := by
        rcases (show (t = 0 ∧ sd = 1) ∨ (t = 1 ∧ sd = 0) by omega) with ⟨rfl, rfl⟩ | ⟨rfl, rfl⟩ <;> omega
      rw [sh_out ho, sh_out ho, sh_out ho]
      exact hz.2.2.2.2.2.2 j hj
theorem inv_taken {tm : Int32} {sd : Nat} {s : RS} (h : inv s) (hs : sd < 2) (hc : ¬ s.2 17 sd = 0) : inv (rTaken tm sd s) :=
  inv_I (s := (s.1, rRemoves sd s.2)) (inv_rem h hs hc) (fun t ht => ⟨(h.1 t ht).1, (h.1 t ht).2.1⟩)
/-! the same for the relation -/
theorem rel_handle {tm : Int32} {sd mm nn kk tt gg : Nat} {c o : CS} {s : RS} (h : rel2 sd c o s) (hm : mm = mg nn kk tt gg) (hq : okq nn kk tt gg) (h0 : ¬ kk = 0) (h3 : ¬ kk = 3) (hc : kk = 5 → s.2 10 sd < 200) (ho : s.2 10 (1 - sd) ≤ 200) : rel2 sd (cHandle tm mm c o).1 (cHandle tm mm c o).2 (rHandles tm sd kk tt gg s) := by
  have hk : kd mm = kk := by rw [hm]; exact mg_kd hq.1 (by omega) (by omega)
  unfold cHandle rHandles
  rw [hk, if_neg h0, if_neg h3]
  by_cases k2 : kk = 2
  · rw [if_pos k2, if_pos k2]; exact (rel_send (tm := tm) (kk := 1) (tt := 0) (gg := 0) h).1
  rw [if_neg k2, if_neg k2]
  by_cases k5 : kk = 5
  · rw [if_pos k5, if_neg (show ¬ kk = 6 by omega), if_pos k5]; exact rel_bus h hm hq (hc k5) ho
  rw [if_neg k5, if_neg k5]
  by_cases k6 : kk = 6
  · rw [if_pos k6, if_pos k6]; exact rel_off (s := rSends tm sd 6 0 0 s) (rel_send (tm := tm) (kk := 6) (tt := 0) (gg := 0) h).1
  rw [if_neg k6, if_neg k6]; exact h
theorem rel_5 {sd v : Nat} {c o : CS} {s : RS} (h : rel2 sd c o s) : rel2 sd (va_up c.1 1 0, va_up c.2.1 7 v, c.2.2) o (va_up s.1 12 (va_up (s.1 12) sd 0), va_up s.2 5 (va_up (s.2 5) sd v)) := by
  have h2 := h.xs (x := va_up c.1 1 0) (I := va_up s.1 12 (va_up (s.1 12) sd 0)) h.a.e0 (up_s (f := s.1 12)).symm h.a.e2 h.a.e3 h.a.e4 h.a.e5 h.a.e9 (upI_n h.hs)
  have hs := h.hs
  exact ⟨hs, ⟨h2.a.e0, h2.a.e1, h2.a.e2, h2.a.e3, h2.a.e4, h2.a.e5, h2.a.e9, h.a.m6, (up_s (f := s.2 5)).symm, h.a.m8, h.a.m10, h.a.b0, h.a.b1, h.a.b2⟩,
    ⟨h2.b.e0, h2.b.e1, h2.b.e2, h2.b.e3, h2.b.e4, h2.b.e5, h2.b.e9, h.b.m6, h.b.m7.trans (up_n (f := s.2 5) (by omega)).symm, h.b.m8, h.b.m10, h.b.b0, h.b.b1, h.b.b2⟩, h.ca, h.cb, h.na, h.nb, h.ka, h.kb⟩
theorem rows_of {sd : Nat} {s : RS} (h : ig s.2) (i : Nat) : okq i (s.2 6 (201 * sd + i)) (s.2 7 (201 * sd + i)) (s.2 8 (201 * sd + i)) ∨ 200 < i := by
  rcases Nat.lt_or_ge 200 i with q | q
  · exact Or.inr q
  · exact Or.inl ⟨by omega, h.1 _, h.2.1 _, h.2.2.1 _⟩
theorem rel_recv2 {tm : Int32} {sd mm nn kk tt gg : Nat} {c o : CS} {s : RS} (h : rel2 sd c o s) (hi : inv s) (hm : mm = mg nn kk tt gg) (hq : okq nn kk tt gg) (h2 : nn < s.2 4 (1 - sd)) (h3 : kk = 3 → 1 ≤ tt) : rel2 sd (cRecv2 tm mm c o).1 (cRecv2 tm mm c o).2 (rComes tm sd nn kk tt gg s) := by
  have hs := h.hs
  have hk : kd mm = kk := by rw [hm]; exact mg_kd hq.1 (by omega) (by omega)
  have hn : nu mm = nn := by rw [hm]; exact mg_nu hq.1 (by omega) (by omega)
  have ht : td mm = tt := by rw [hm]; exact mg_td hq.1 (by omega) (by omega)
  have hw := hi.1 sd hs
  have hz := hi.1 (1 - sd) (by omega)
  have ea : 1 - (1 - sd) = sd := by omega
  have n4 := hz.2.2.1.2
  have n10 := hz.2.2.2.2.1
  have n5 := hz.2.2.2.1.2
  rw [ea] at n5
  have n4b := hw.2.2.1.2
  have w10 := hw.2.2.2.2.1
  unfold cRecv2 rComes
  rw [hk, hn, ht, h.a.m7]
  by_cases q : nn = s.2 5 sd
  · rw [if_pos q, if_pos (show s.2 5 sd ≤ nn by omega), if_pos (show nn ≤ s.2 5 sd by omega)]
    have h5 := rel_5 (v := if kk = 4 then tt else nn + 1) h
    by_cases k0 : kk = 0
    · rw [if_pos k0]
      unfold rHandles
      rw [if_pos k0]
      exact rel_logon2 h5 hm hq
    · rw [if_neg k0]
      by_cases k3 : kk = 3
      · rw [if_pos k3]
        unfold rHandles
        rw [if_neg k0, if_neg (show ¬ kk = 2 by omega), if_pos k3]
        exact rel_resend h5 (rows_of (s := s) hi.2) (h3 k3)
      · rw [if_neg k3]
        exact rel_handle h5 hm hq k0 k3 (fun _ => show s.2 10 sd < 200 by omega) (show s.2 10 (1 - sd) ≤ 200 by omega)
  · rw [if_neg q]
    by_cases q2 : nn ≤ s.2 5 sd
    · rw [if_neg (show ¬ s.2 5 sd ≤ nn by omega), if_pos q2]
      have hb : mm.testBit 21 = gg.testBit 0 := by rw [hm]; exact mg_bit hq.1 (by omega) (by omega) 0
      unfold cRefuse
      rw [hb]
      by_cases g0 : gg.testBit 0 = true
      · rw [if_pos g0, if_pos g0, h.a.e9]
        exact h.xs h.a.e0 h.a.e1 h.a.e2 h.a.e3 h.a.e4 h.a.e5 (up_s (f := s.1 11)).symm (upI_n hs)
      · rw [if_neg g0, if_neg g0]; exact rel_off h
    · rw [if_pos (show s.2 5 sd ≤ nn by omega), if_neg q2, if_neg q2]
      by_cases k0 : kk = 0
      · rw [if_pos k0, if_pos k0]
        have h6 := rel_logon2 (tm := tm) h hm hq
        have e : rHandles tm sd kk tt gg s = rLogsOn tm sd (gg.testBit 2 = true) s := by unfold rHandles; rw [if_pos k0]
        rw [e]
        exact rel_ask h6
      · rw [if_neg k0, if_neg k0]
        by_cases k3 : kk = 3
        · rw [if_pos k3, if_pos k3]
          have e : rHandles tm sd kk tt gg s = rAnswers tm sd tt s := by unfold rHandles; rw [if_neg k0, if_neg (show ¬ kk = 2 by omega), if_pos k3]
          rw [e]
          exact rel_ask (rel_resend h (rows_of (s := s) hi.2) (h3 k3))
        · rw [if_neg k3, if_neg k3]; exact rel_ask h
