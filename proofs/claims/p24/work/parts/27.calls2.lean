/-! ===== the calls: taking from the wire, a day's end, a tick ===== -/
theorem rel_rem {sd : Nat} {c o : CS} {s : RS} (h : rel2 sd c o s) (hc : ¬ c.2.1 10 = 0) : rel2 sd (c.1, va_up c.2.1 10 (c.2.1 10 - 1), va_up c.2.2 2 (cShift (c.2.1 10) (c.2.2 2))) o (s.1, rRemoves sd s.2) := by
  have hs := h.hs
  have ca := h.ca
  have cb := h.cb
  have m10 := h.a.m10
  refine ⟨hs, ⟨h.a.e0, h.a.e1, h.a.e2, h.a.e3, h.a.e4, h.a.e5, h.a.e9, h.a.m6, h.a.m7, h.a.m8, ?_, h.a.b0, h.a.b1, fun j hj => ?_⟩,
    ⟨h.b.e0, h.b.e1, h.b.e2, h.b.e3, h.b.e4, h.b.e5, h.b.e9, h.b.m6, h.b.m7, h.b.m8, h.b.m10.trans (up_n (f := s.2 17) (by omega)).symm, h.b.b0, h.b.b1, fun j hj => ?_⟩, (show c.2.1 10 - 1 ≤ 60 by omega), cb, h.na, h.nb, h.ka, h.kb⟩
  · show c.2.1 10 - 1 = va_up (s.2 17) sd (s.2 17 sd - 1) sd
    rw [up_s, m10]
  · have hj : j < c.2.1 10 - 1 := hj
    show cShift (c.2.1 10) (c.2.2 2) j = mg (rSh (60 * sd) (s.2 17 sd - 1) (s.2 18) (60 * sd + j)) (rSh (60 * sd) (s.2 17 sd - 1) (s.2 19) (60 * sd + j)) (rSh (60 * sd) (s.2 17 sd - 1) (s.2 20) (60 * sd + j)) (rSh (60 * sd) (s.2 17 sd - 1) (s.2 21) (60 * sd + j))
    rw [← m10, sh_in hj, sh_in hj, sh_in hj, sh_in hj]
    unfold cShift
    rw [if_pos (by omega)]
    exact h.a.b2 (j + 1) (by omega)
  · have hj : j < o.2.1 10 := hj
    have ho : 60 * (1 - sd) + j < 60 * sd ∨ 60 * sd + (s.2 17 sd - 1) ≤ 60 * (1 - sd) + j := by
      rw [← m10]
      rcases (show sd = 0 ∨ sd = 1 by omega) with rfl | rfl <;> omega
    show o.2.2 2 j = mg (rSh (60 * sd) (s.2 17 sd - 1) (s.2 18) (60 * (1 - sd) + j)) (rSh (60 * sd) (s.2 17 sd - 1) (s.2 19) (60 * (1 - sd) + j)) (rSh (60 * sd) (s.2 17 sd - 1) (s.2 20) (60 * (1 - sd) + j)) (rSh (60 * sd) (s.2 17 sd - 1) (s.2 21) (60 * (1 - sd) + j))
    rw [sh_out ho, sh_out ho, sh_out ho, sh_out ho]
    exact h.b.b2 j hj
theorem rel_taken {tm : Int32} {sd : Nat} {c o : CS} {s : RS} (h : rel2 sd c o s) (hc : ¬ c.2.1 10 = 0) : rel2 sd (cTaken tm c) o (rTaken tm sd s) := by
  have h2 := rel_rem h hc
  exact h2.xs h2.a.e0 h2.a.e1 h2.a.e2 (up_s (f := s.1 14)).symm h2.a.e4 (up_s (f := s.1 15)).symm h2.a.e9 (fun k => by
    by_cases e : k = 15
    · subst e; rw [up_s, up_n (by have := h.hs; omega)]
    · rw [up_n e]; exact upI_n h.hs k)
/-- the first message on the wire -/
theorem first_of {sd : Nat} {c o : CS} {s : RS} (h : rel2 sd c o s) (hi : inv s) (hc : ¬ c.2.1 10 = 0) : c.2.2 2 0 = mg (s.2 18 (60 * sd)) (s.2 19 (60 * sd)) (s.2 20 (60 * sd)) (s.2 21 (60 * sd)) ∧ okq (s.2 18 (60 * sd)) (s.2 19 (60 * sd)) (s.2 20 (60 * sd)) (s.2 21 (60 * sd)) ∧ wok s.2 (s.2 4 (1 - sd)) (60 * sd) := by
  have hs := h.hs
  have m10 := h.a.m10
  have hw := hi.1 sd hs
  have hz := hi.1 (1 - sd) (by omega)
  have w := hw.2.2.2.2.2.2 0 (by omega)
  have n4 := hz.2.2.1.2
  have w : wok s.2 (s.2 4 (1 - sd)) (60 * sd) := w
  exact ⟨h.a.b2 0 (by omega), ⟨by have := w.2.1; omega, hi.2.2.2.2.1 _, hi.2.2.2.2.2.1 _, hi.2.2.2.2.2.2.1 _⟩, w⟩
theorem k_deliver {tm p0 : Int32} {sd : Nat} {c o : CS} {s : RS} (h : rel2 sd c o s) (hi : inv s) (hp : p0 = 0 ∨ p0 = 1) : ans (w2 (p0 = 0 ∨ p0 = 1) (¬ c.2.1 10 = 0) (nI (cDeliverF tm c o).1) (c, o) (cDeliverF tm c o).2) (rDeliverF tm sd s) ∧ rel2 sd (w2 (p0 = 0 ∨ p0 = 1) (¬ c.2.1 10 = 0) (nI (cDeliverF tm c o).1) (c, o) (cDeliverF tm c o).2).2.2.1 (w2 (p0 = 0 ∨ p0 = 1) (¬ c.2.1 10 = 0) (nI (cDeliverF tm c o).1) (c, o) (cDeliverF tm c o).2).2.2.2 (rDeliverF tm sd s).2.2 ∧ inv (rDeliverF tm sd s).2.2 := by
  have m10 := h.a.m10
  have hs := h.hs
  by_cases q : c.2.1 10 = 0
  · have eF : rDeliverF tm sd s = (2, 0, s) := if_pos (m10 ▸ q)
    have eW := w2_2 (A := (p0 = 0 ∨ p0 = 1)) (B := (¬ c.2.1 10 = 0)) (r := nI (cDeliverF tm c o).1) (s := (c, o)) (s' := (cDeliverF tm c o).2) ⟨hp, fun z => z q⟩
    rw [eW, eF]; exact ⟨⟨rfl, fun z => absurd z ne2⟩, h, hi⟩
  · have eF : rDeliverF tm sd s = _ := if_neg (m10 ▸ q)
    have eW := w2_0 (A := (p0 = 0 ∨ p0 = 1)) (B := (¬ c.2.1 10 = 0)) (r := nI (cDeliverF tm c o).1) (s := (c, o)) (s' := (cDeliverF tm c o).2) ⟨hp, q⟩
    obtain ⟨em, hq, w1, w2, w3, w4⟩ := first_of h hi q
    have ek : kd (c.2.2 2 0) = s.2 19 (60 * sd) := by rw [em]; exact mg_kd hq.1 (by omega) (by omega)
    have ht := rel_taken (tm := tm) h q
    have hti := inv_taken (tm := tm) hi hs (m10 ▸ q)
    have hr := rel_recv2 (tm := tm) ht hti em hq w2 w4
    have hri := inv_comes (tm := tm) (gg := s.2 21 (60 * sd)) hti hs hq.2.2.1 w1 w2 w3 w4
    rw [eW, eF]
    refine ⟨⟨rfl, fun _ => congrArg nI ek⟩, ?_⟩
    show rel2 sd (cReceive tm (c.2.2 2 0) (cTaken tm c) o).1 (cReceive tm (c.2.2 2 0) (cTaken tm c) o).2 _ ∧ _
    unfold cReceive
    rw [ek, show (cTaken tm c).1 0 = s.1 3 sd from h.a.e0]
    dsimp only
    by_cases k0 : s.2 19 (60 * sd) = 0
    · rw [if_pos k0, if_pos k0]; exact ⟨hr, hri⟩
    · rw [if_neg k0, if_neg k0]
      by_cases k2 : s.1 3 sd = 2
      · rw [if_pos k2, if_pos k2]; exact ⟨hr, hri⟩
      · rw [if_neg k2, if_neg k2]; exact ⟨ht, hti⟩
theorem k_lose {p0 : Int32} {sd : Nat} {c o : CS} {s : RS} (h : rel2 sd c o s) (hi : inv s) (hp : p0 = 0 ∨ p0 = 1) : ans (w2 (p0 = 0 ∨ p0 = 1) (¬ c.2.1 10 = 0) (nI (kd (c.2.2 2 0))) (c.1, c.2.1, c.2.2) (c.1, va_up c.2.1 10 (c.2.1 10 - 1), va_up c.2.2 2 (cShift (c.2.1 10) (c.2.2 2)))) (rLoseF sd s) ∧ rel2 sd (w2 (p0 = 0 ∨ p0 = 1) (¬ c.2.1 10 = 0) (nI (kd (c.2.2 2 0))) (c.1, c.2.1, c.2.2) (c.1, va_up c.2.1 10 (c.2.1 10 - 1), va_up c.2.2 2 (cShift (c.2.1 10) (c.2.2 2)))).2.2 o (rLoseF sd s).2.2 ∧ inv (rLoseF sd s).2.2 := by
  have m10 := h.a.m10
  by_cases q : c.2.1 10 = 0
  · have eF : rLoseF sd s = (2, 0, s) := if_pos (m10 ▸ q)
    have eW := w2_2 (A := (p0 = 0 ∨ p0 = 1)) (B := (¬ c.2.1 10 = 0)) (r := nI (kd (c.2.2 2 0))) (s := (c.1, c.2.1, c.2.2)) (s' := (c.1, va_up c.2.1 10 (c.2.1 10 - 1), va_up c.2.2 2 (cShift (c.2.1 10) (c.2.2 2)))) ⟨hp, fun z => z q⟩
    rw [eW, eF]; exact ⟨⟨rfl, fun z => absurd z ne2⟩, h, hi⟩
  · have eF : rLoseF sd s = _ := if_neg (m10 ▸ q)
    have eW := w2_0 (A := (p0 = 0 ∨ p0 = 1)) (B := (¬ c.2.1 10 = 0)) (r := nI (kd (c.2.2 2 0))) (s := (c.1, c.2.1, c.2.2)) (s' := (c.1, va_up c.2.1 10 (c.2.1 10 - 1), va_up c.2.2 2 (cShift (c.2.1 10) (c.2.2 2)))) ⟨hp, q⟩
    obtain ⟨em, hq, -⟩ := first_of h hi q
    have ek : kd (c.2.2 2 0) = s.2 19 (60 * sd) := by rw [em]; exact mg_kd hq.1 (by omega) (by omega)
    rw [eW, eF]
    exact ⟨⟨rfl, fun _ => congrArg nI ek⟩, rel_rem h q, inv_rem hi h.hs (m10 ▸ q)⟩
theorem k_crash {p0 : Int32} {sd : Nat} {c o : CS} {s : RS} (h : rel2 sd c o s) (hi : inv s) (hp : p0 = 0 ∨ p0 = 1) : w1 (p0 = 0 ∨ p0 = 1) (b2i (c.1 0 = 2)) (c.1, c.2.1, c.2.2) (va_up (va_up c.1 0 0) 1 0, c.2.1, c.2.2) = (0, b2i (s.1 3 sd = 2), (cOff c.1, c.2)) ∧ rel2 sd (cOff c.1, c.2) o (rTurns sd s.1, s.2) ∧ inv (rTurns sd s.1, s.2) :=
  ⟨(w1_0 hp).trans (by rw [h.a.e0]; rfl), rel_off h, inv_off hi⟩
theorem z_two {α : Type} {f : Nat → α} {v : α} {t : Nat} (ht : t < 2) : va_up (va_up f 0 v) 1 v t = v := by
  rcases (show t = 0 ∨ t = 1 by omega) with rfl | rfl <;> rfl
theorem rel_day {c o : CS} {s : RS} (h : rel2 0 c o s) : rel2 0 (va_up c.1 9 0, va_up (va_up (va_up (va_up c.2.1 6 0) 7 1) 8 0) 10 0, c.2.2) (va_up o.1 9 0, va_up (va_up (va_up (va_up o.2.1 6 0) 7 1) 8 0) 10 0, o.2.2) (rEmpties s) :=
  ⟨h.hs, ⟨h.a.e0, h.a.e1, h.a.e2, h.a.e3, h.a.e4, h.a.e5, rfl, rfl, rfl, rfl, rfl, fun j hj => absurd hj (Nat.not_lt_zero j), fun j hj => absurd hj (Nat.not_lt_zero j), fun j hj => absurd hj (Nat.not_lt_zero j)⟩,
    ⟨h.b.e0, h.b.e1, h.b.e2, h.b.e3, h.b.e4, h.b.e5, rfl, rfl, rfl, rfl, rfl, fun j hj => absurd hj (Nat.not_lt_zero j), fun j hj => absurd hj (Nat.not_lt_zero j), fun j hj => absurd hj (Nat.not_lt_zero j)⟩, Nat.zero_le 60, Nat.zero_le 60, Nat.zero_le 200, Nat.zero_le 200, Nat.zero_le 200, Nat.zero_le 200⟩
theorem inv_day {s : RS} (h : inv s) : inv (rEmpties s) := by
  obtain ⟨hv, g6, g7, g8, g19, g20, g21, gn⟩ := h
  refine ⟨fun t ht => ?_, g6, g7, g8, g19, g20, g21, nb_up (nb_up (nb_up (nb_up gn (up_all (up_all (gn 4) (by omega)) (by omega))) (up_all (up_all (gn 5) (by omega)) (by omega))) (up_all (up_all (gn 10) (by omega)) (by omega))) (up_all (up_all (gn 17) (by omega)) (by omega))⟩
  have hz := hv t ht
  have x4 : ∀ u, u < 2 → (rEmpties s).2 4 u = 1 := fun u hu => z_two (f := s.2 4) hu
  have x5 : ∀ u, u < 2 → (rEmpties s).2 5 u = 1 := fun u hu => z_two (f := s.2 5) hu
  have x10 : ∀ u, u < 2 → (rEmpties s).2 10 u = 0 := fun u hu => z_two (f := s.2 10) hu
  have x17 : ∀ u, u < 2 → (rEmpties s).2 17 u = 0 := fun u hu => z_two (f := s.2 17) hu
  refine ⟨hz.1, hz.2.1, ?_, ?_, ?_, ?_, fun j hj => ?_⟩
  · rw [x4 t ht]; omega
  · rw [x5 t ht, x4 (1 - t) (by omega)]; omega
  · rw [x10 t ht, x5 t ht]; omega
  · rw [x17 t ht]; omega
  · rw [x17 t ht] at hj; exact absurd hj (Nat.not_lt_zero j)
theorem k_endDay {c o : CS} {s : RS} (h : rel2 0 c o s) (hi : inv s) : ans (w1 (c.1 0 = 0 ∧ o.1 0 = 0) (nI (c.2.1 6 + o.2.1 6)) (c, o) ((va_up c.1 9 0, va_up (va_up (va_up (va_up c.2.1 6 0) 7 1) 8 0) 10 0, c.2.2), (va_up o.1 9 0, va_up (va_up (va_up (va_up o.2.1 6 0) 7 1) 8 0) 10 0, o.2.2))) (rEndDayF s) ∧
    rel2 0 (w1 (c.1 0 = 0 ∧ o.1 0 = 0) (nI (c.2.1 6 + o.2.1 6)) (c, o) ((va_up c.1 9 0, va_up (va_up (va_up (va_up c.2.1 6 0) 7 1) 8 0) 10 0, c.2.2), (va_up o.1 9 0, va_up (va_up (va_up (va_up o.2.1 6 0) 7 1) 8 0) 10 0, o.2.2))).2.2.1 (w1 (c.1 0 = 0 ∧ o.1 0 = 0) (nI (c.2.1 6 + o.2.1 6)) (c, o) ((va_up c.1 9 0, va_up (va_up (va_up (va_up c.2.1 6 0) 7 1) 8 0) 10 0, c.2.2), (va_up o.1 9 0, va_up (va_up (va_up (va_up o.2.1 6 0) 7 1) 8 0) 10 0, o.2.2))).2.2.2 (rEndDayF s).2.2 ∧ inv (rEndDayF s).2.2 := by
  have a0 : c.1 0 = s.1 3 0 := h.a.e0
  have b0 : o.1 0 = s.1 3 1 := h.b.e0
  have m6 : c.2.1 6 + 1 = s.2 4 0 := h.a.m6
  have n6 : o.2.1 6 + 1 = s.2 4 1 := h.b.m6
  by_cases q : c.1 0 = 0 ∧ o.1 0 = 0
  · have eF : rEndDayF s = _ := (if_pos (a0 ▸ q.1)).trans (if_pos (b0 ▸ q.2))
    have eW := w1_0 (r := nI (c.2.1 6 + o.2.1 6)) (s := (c, o)) (s' := ((va_up c.1 9 0, va_up (va_up (va_up (va_up c.2.1 6 0) 7 1) 8 0) 10 0, c.2.2), (va_up o.1 9 0, va_up (va_up (va_up (va_up o.2.1 6 0) 7 1) 8 0) 10 0, o.2.2))) q
    rw [eW, eF]
    exact ⟨⟨rfl, fun _ => congrArg nI (by omega)⟩, rel_day h, inv_day hi⟩
  · have eF : rEndDayF s = (1, 0, s) := by
      unfold rEndDayF
      by_cases q1 : s.1 3 0 = 0
      · rw [if_pos q1, if_neg (fun q2 => q ⟨a0.trans q1, b0.trans q2⟩)]
      · rw [if_neg q1]
    have eW := w1_1 (r := nI (c.2.1 6 + o.2.1 6)) (s := (c, o)) (s' := ((va_up c.1 9 0, va_up (va_up (va_up (va_up c.2.1 6 0) 7 1) 8 0) 10 0, c.2.2), (va_up o.1 9 0, va_up (va_up (va_up (va_up o.2.1 6 0) 7 1) 8 0) 10 0, o.2.2))) q
    rw [eW, eF]; exact ⟨⟨rfl, fun z => absurd z ne1⟩, h, hi⟩
theorem k_tick {tm : Int32} {c o : CS} {s : RS} (h : rel2 0 c o s) (hi : inv s) : rel2 0 (cTickF tm c o).1 (cTickF tm c o).2 (rTick (tm + 1) 1 (rTick (tm + 1) 0 s)) ∧ inv (rTick (tm + 1) 1 (rTick (tm + 1) 0 s)) := by
  have h1 := rel_tick (tm := tm + 1) h (hi.1 0 (by omega)).2.1
  have hi1 := inv_tick (tm := tm + 1) hi (show 0 < 2 by omega)
  have h2 := rel_tick (tm := tm + 1) (sd := 1) h1.flip (hi1.1 1 (by omega)).2.1
  exact ⟨h2.flip, inv_tick hi1 (by omega)⟩
