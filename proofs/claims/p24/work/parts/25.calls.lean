/-! ===== the calls, side by side: what they answer, what they leave ===== -/
/-- the same answer: the same throw; where none, the same value -/
abbrev ans {α β : Type} (W : Int32 × Int32 × α) (F : Int32 × Int32 × β) : Prop := W.1 = F.1 ∧ (W.1 = 0 → W.2.1 = F.2.1)
theorem ans_0 {α β : Type} {W : Int32 × Int32 × α} {F : Int32 × Int32 × β} {r r' : Int32} {a : α} {b : β} (hW : W = (0, r, a)) (hF : F = (0, r', b)) (h : r = r') : ans W F := by rw [hW, hF]; exact ⟨rfl, fun _ => h⟩
theorem ans_x {α β : Type} {W : Int32 × Int32 × α} {F : Int32 × Int32 × β} {r r' k : Int32} {a : α} {b : β} (hW : W = (k, r, a)) (hF : F = (k, r', b)) (h : ¬ k = 0) : ans W F := by rw [hW, hF]; exact ⟨rfl, fun z => absurd z h⟩
theorem ne1 : ¬ (1 : Int32) = 0 := by decide
theorem ne2 : ¬ (2 : Int32) = 0 := by decide
theorem ne3 : ¬ (3 : Int32) = 0 := by decide
/-- the wires are emptied -/
theorem rel_wires {sd : Nat} {c o : CS} {s : RS} (h : rel2 sd c o s) : rel2 sd (c.1, va_up c.2.1 10 0, c.2.2) (o.1, va_up o.2.1 10 0, o.2.2) (s.1, va_up (va_up s.2 17 (va_up (s.2 17) 0 0)) 17 (va_up (va_up (s.2 17) 0 0) 1 0)) := by
  have hs := h.hs
  have z : ∀ t, t < 2 → va_up (va_up (s.2 17) 0 0) 1 0 t = 0 := fun t ht => by
    rcases (show t = 0 ∨ t = 1 by omega) with rfl | rfl <;> rfl
  exact ⟨hs, ⟨h.a.e0, h.a.e1, h.a.e2, h.a.e3, h.a.e4, h.a.e5, h.a.e9, h.a.m6, h.a.m7, h.a.m8, (z sd hs).symm, h.a.b0, h.a.b1, fun j hj => absurd hj (Nat.not_lt_zero j)⟩,
    ⟨h.b.e0, h.b.e1, h.b.e2, h.b.e3, h.b.e4, h.b.e5, h.b.e9, h.b.m6, h.b.m7, h.b.m8, (z (1 - sd) (by omega)).symm, h.b.b0, h.b.b1, fun j hj => absurd hj (Nat.not_lt_zero j)⟩, Nat.zero_le 60, Nat.zero_le 60, h.na, h.nb, h.ka, h.kb⟩
theorem inv_wires {s : RS} (h : inv s) : inv (s.1, va_up (va_up s.2 17 (va_up (s.2 17) 0 0)) 17 (va_up (va_up (s.2 17) 0 0) 1 0)) := by
  obtain ⟨hv, g6, g7, g8, g19, g20, g21, gn⟩ := h
  have z : ∀ t, t < 2 → va_up (va_up (s.2 17) 0 0) 1 0 t = 0 := fun t ht => by
    rcases (show t = 0 ∨ t = 1 by omega) with rfl | rfl <;> rfl
  refine ⟨fun t ht => ?_, g6, g7, g8, g19, g20, g21, nb_up (nb_up gn (up_all (gn 17) (by omega))) (up_all (up_all (gn 17) (by omega)) (by omega))⟩
  have hz := hv t ht
  refine ⟨hz.1, hz.2.1, hz.2.2.1, hz.2.2.2.1, hz.2.2.2.2.1, ?_, ?_⟩
  · show va_up (va_up (s.2 17) 0 0) 1 0 t ≤ 60
    rw [z t ht]; omega
  · intro j hj
    have hj : j < va_up (va_up (s.2 17) 0 0) 1 0 t := hj
    rw [z t ht] at hj
    exact absurd hj (Nat.not_lt_zero j)
theorem inv_on {sd : Nat} {v : Int32} {s : RS} (h : inv s) (h0 : ¬ s.1 3 sd = 2) : inv (va_up s.1 3 (va_up (s.1 3) sd v), s.2) := inv_I h fun t ht => by
  have hw := h.1 t ht
  refine ⟨hw.1, fun z => ?_⟩
  have z : ¬ va_up (s.1 3) sd v t = 2 := z
  by_cases e : t = sd
  · subst e; exact hw.2.1 h0
  · rw [up_n e] at z; exact hw.2.1 z
theorem rel_on {sd : Nat} {v : Int32} {c o : CS} {s : RS} (h : rel2 sd c o s) : rel2 sd (va_up c.1 0 v, c.2) o (va_up s.1 3 (va_up (s.1 3) sd v), s.2) :=
  h.xs (up_s (f := s.1 3)).symm h.a.e1 h.a.e2 h.a.e3 h.a.e4 h.a.e5 h.a.e9 (upI_n h.hs)
theorem p_side {sd : Nat} (hs : sd < 2) : nI sd = 0 ∨ nI sd = 1 := by
  rcases (show sd = 0 ∨ sd = 1 by omega) with rfl | rfl
  · exact Or.inl rfl
  · exact Or.inr rfl
theorem k_logon {tm p0 : Int32} {sd : Nat} {c o : CS} {s : RS} (h : rel2 sd c o s) (hi : inv s) (hp : p0 = 0 ∨ p0 = 1) : ans (w2 (p0 = 0 ∨ p0 = 1) (c.1 0 = 0 ∧ c.2.1 6 < 200) (cLogonF tm c o).1 (c, o) (cLogonF tm c o).2) (rLogonF tm sd s) ∧ rel2 sd (w2 (p0 = 0 ∨ p0 = 1) (c.1 0 = 0 ∧ c.2.1 6 < 200) (cLogonF tm c o).1 (c, o) (cLogonF tm c o).2).2.2.1 (w2 (p0 = 0 ∨ p0 = 1) (c.1 0 = 0 ∧ c.2.1 6 < 200) (cLogonF tm c o).1 (c, o) (cLogonF tm c o).2).2.2.2 (rLogonF tm sd s).2.2 ∧ inv (rLogonF tm sd s).2.2 := by
  have m6 := h.a.m6
  by_cases q : s.1 3 sd = 0
  · by_cases q2 : 200 < s.2 4 sd
    · have eF : rLogonF tm sd s = (2, 0, s) := (if_pos q).trans (if_pos q2)
      have eW := w2_2 (r := (cLogonF tm c o).1) (s := (c, o)) (s' := (cLogonF tm c o).2) ⟨hp, (show ¬ (c.1 0 = 0 ∧ c.2.1 6 < 200) by omega)⟩
      rw [eW, eF]; exact ⟨⟨rfl, fun z => absurd z ne2⟩, h, hi⟩
    · have eF : rLogonF tm sd s = _ := (if_pos q).trans (if_neg q2)
      have eW := w2_0 (A := (p0 = 0 ∨ p0 = 1)) (B := (c.1 0 = 0 ∧ c.2.1 6 < 200)) (r := (cLogonF tm c o).1) (s := (c, o)) (s' := (cLogonF tm c o).2) ⟨hp, h.a.e0.trans q, (show c.2.1 6 < 200 by omega)⟩
      rw [eW, eF]
      have h2 := rel_send (tm := tm) (kk := 0) (tt := 0) (gg := 4) (rel_wires (rel_on (v := 1) h))
      exact ⟨⟨rfl, fun _ => h2.2 (show c.2.1 6 < 200 by omega)⟩, h2.1, inv_send (inv_wires (inv_on hi (by rw [q]; decide))) h.hs (by omega) (by omega) (by omega) (by omega) (fun z => by omega)⟩
  · have eF : rLogonF tm sd s = (2, 0, s) := if_neg q
    have eW := w2_2 (r := (cLogonF tm c o).1) (s := (c, o)) (s' := (cLogonF tm c o).2) ⟨hp, (fun z => q (h.a.e0.symm.trans z.1) : ¬ (c.1 0 = 0 ∧ c.2.1 6 < 200))⟩
    rw [eW, eF]; exact ⟨⟨rfl, fun z => absurd z ne2⟩, h, hi⟩
theorem k_logout {tm p0 : Int32} {sd : Nat} {c o : CS} {s : RS} (h : rel2 sd c o s) (hi : inv s) (hp : p0 = 0 ∨ p0 = 1) : ans (w2 (p0 = 0 ∨ p0 = 1) (c.1 0 = 2 ∧ c.2.1 6 < 200) (cLogoutF tm c o).1 (c, o) (cLogoutF tm c o).2) (rLogoutF tm sd s) ∧ rel2 sd (w2 (p0 = 0 ∨ p0 = 1) (c.1 0 = 2 ∧ c.2.1 6 < 200) (cLogoutF tm c o).1 (c, o) (cLogoutF tm c o).2).2.2.1 (w2 (p0 = 0 ∨ p0 = 1) (c.1 0 = 2 ∧ c.2.1 6 < 200) (cLogoutF tm c o).1 (c, o) (cLogoutF tm c o).2).2.2.2 (rLogoutF tm sd s).2.2 ∧ inv (rLogoutF tm sd s).2.2 := by
  have m6 := h.a.m6
  by_cases q : s.1 3 sd = 2
  · by_cases q2 : 200 < s.2 4 sd
    · have eF : rLogoutF tm sd s = (2, 0, s) := (if_pos q).trans (if_pos q2)
      have eW := w2_2 (r := (cLogoutF tm c o).1) (s := (c, o)) (s' := (cLogoutF tm c o).2) ⟨hp, (show ¬ (c.1 0 = 2 ∧ c.2.1 6 < 200) by omega)⟩
      rw [eW, eF]; exact ⟨⟨rfl, fun z => absurd z ne2⟩, h, hi⟩
    · have eF : rLogoutF tm sd s = _ := (if_pos q).trans (if_neg q2)
      have eW := w2_0 (A := (p0 = 0 ∨ p0 = 1)) (B := (c.1 0 = 2 ∧ c.2.1 6 < 200)) (r := (cLogoutF tm c o).1) (s := (c, o)) (s' := (cLogoutF tm c o).2) ⟨hp, h.a.e0.trans q, (show c.2.1 6 < 200 by omega)⟩
      rw [eW, eF]
      have h2 := rel_send (tm := tm) (kk := 6) (tt := 0) (gg := 0) h
      exact ⟨⟨rfl, fun _ => h2.2 (by omega)⟩, rel_off (s := rSends tm sd 6 0 0 s) h2.1, inv_off (s := rSends tm sd 6 0 0 s) (inv_send hi h.hs (by omega) (by omega) (by omega) (by omega) (fun z => by omega))⟩
  · have eF : rLogoutF tm sd s = (2, 0, s) := if_neg q
    have eW := w2_2 (r := (cLogoutF tm c o).1) (s := (c, o)) (s' := (cLogoutF tm c o).2) ⟨hp, (fun z => q (h.a.e0.symm.trans z.1) : ¬ (c.1 0 = 2 ∧ c.2.1 6 < 200))⟩
    rw [eW, eF]; exact ⟨⟨rfl, fun z => absurd z ne2⟩, h, hi⟩
theorem k_err {sd : Nat} {c o : CS} {s : RS} (h : rel2 sd c o s) : rErr (s.1 3 sd) (s.2 4 sd) ↔ ¬ (c.1 0 = 2 ∧ c.2.1 6 < 200) := by
  have m6 := h.a.m6
  rw [h.a.e0]
  unfold rErr
  by_cases q : s.1 3 sd = 2
  · exact ⟨fun z y => z.elim (fun x => x q) (fun x => by omega), fun z => Or.inr (by have : ¬ c.2.1 6 < 200 := fun y => z ⟨q, y⟩; omega)⟩
  · exact ⟨fun _ y => q y.1, fun _ => Or.inl q⟩
theorem k_send {tm p0 p1 : Int32} {sd : Nat} {c o : CS} {s : RS} (h : rel2 sd c o s) (hi : inv s) (hp : p0 = 0 ∨ p0 = 1) : ans (w3 (p0 = 0 ∨ p0 = 1) (¬ p1 < 0 ∧ p1 ≤ 999) (c.1 0 = 2 ∧ c.2.1 6 < 200) (cSend tm 5 p1.toNatClampNeg 0 c o).1 (c, o) (cSend tm 5 p1.toNatClampNeg 0 c o).2) (rSendF tm sd p1 s) ∧ rel2 sd (w3 (p0 = 0 ∨ p0 = 1) (¬ p1 < 0 ∧ p1 ≤ 999) (c.1 0 = 2 ∧ c.2.1 6 < 200) (cSend tm 5 p1.toNatClampNeg 0 c o).1 (c, o) (cSend tm 5 p1.toNatClampNeg 0 c o).2).2.2.1 (w3 (p0 = 0 ∨ p0 = 1) (¬ p1 < 0 ∧ p1 ≤ 999) (c.1 0 = 2 ∧ c.2.1 6 < 200) (cSend tm 5 p1.toNatClampNeg 0 c o).1 (c, o) (cSend tm 5 p1.toNatClampNeg 0 c o).2).2.2.2 (rSendF tm sd p1 s).2.2 ∧ inv (rSendF tm sd p1 s).2.2 := by
  by_cases q : ¬ p1 < 0 ∧ ¬ 999 < p1
  · have q' : ¬ p1 < 0 ∧ p1 ≤ 999 := ⟨q.1, Int32.not_lt.mp q.2⟩
    obtain ⟨j, hj, ej⟩ := ix_le2 q
    have h9 : p1.toNatClampNeg < 1000 := by rw [ej, nI_clamp (by omega)]; omega
    by_cases q2 : rErr (s.1 3 sd) (s.2 4 sd)
    · have eF : rSendF tm sd p1 s = (3, 0, s) := (if_pos q).trans (if_pos q2)
      have eW := w3_3 (r := (cSend tm 5 p1.toNatClampNeg 0 c o).1) (s := (c, o)) (s' := (cSend tm 5 p1.toNatClampNeg 0 c o).2) ⟨hp, q', (k_err h).mp q2⟩
      rw [eW, eF]; exact ⟨⟨rfl, fun z => absurd z ne3⟩, h, hi⟩
    · have eF : rSendF tm sd p1 s = _ := (if_pos q).trans (if_neg q2)
      have q3 : c.1 0 = 2 ∧ c.2.1 6 < 200 := Classical.byContradiction fun z => q2 ((k_err h).mpr z)
      have eW := w3_0 (r := (cSend tm 5 p1.toNatClampNeg 0 c o).1) (s := (c, o)) (s' := (cSend tm 5 p1.toNatClampNeg 0 c o).2) ⟨hp, q', q3⟩
      rw [eW, eF]
      have h2 := rel_send (tm := tm) (kk := 5) (tt := p1.toNatClampNeg) (gg := 0) h
      exact ⟨⟨rfl, fun _ => h2.2 q3.2⟩, h2.1, inv_send hi h.hs (by omega) h9 (by omega) (by omega) (fun z => by omega)⟩
  · have eF : rSendF tm sd p1 s = (2, 0, s) := if_neg q
    have eW := w3_2 (C := (c.1 0 = 2 ∧ c.2.1 6 < 200)) (r := (cSend tm 5 p1.toNatClampNeg 0 c o).1) (s := (c, o)) (s' := (cSend tm 5 p1.toNatClampNeg 0 c o).2) ⟨hp, (fun z => q ⟨z.1, Int32.not_lt.mpr z.2⟩ : ¬ (¬ p1 < 0 ∧ p1 ≤ 999))⟩
    rw [eW, eF]; exact ⟨⟨rfl, fun z => absurd z ne2⟩, h, hi⟩
theorem k_has {sd : Nat} {p1 : Int32} {c o : CS} {s : RS} (h : rel2 sd c o s) (hi : inv s) : hasBI (c.2.1 6) (c.2.2 0) p1 ↔ inN (s.2 4 sd) p1 ∧ s.2 6 (201 * sd + p1.toNatClampNeg) = 5 := by
  have m6 := h.a.m6
  have na := h.na
  have key : ∀ j, 1 ≤ j → j ≤ c.2.1 6 → kd (c.2.2 0 (j - 1)) = s.2 6 (201 * sd + j) := fun j h1 h2 => by
    have e := h.a.b0 (j - 1) (by omega)
    rw [show j - 1 + 1 = j by omega] at e
    have hq := (rows_of (sd := sd) (s := s) hi.2 j).resolve_right (by omega)
    rw [e]; exact mg_kd hq.1 (by omega) (by omega)
  constructor
  · rintro ⟨h0, h1, h2, h3⟩
    obtain ⟨j, hj, rfl⟩ := nI_of h0
    rw [nI_clamp hj] at h1 h2 h3 ⊢
    exact ⟨inN_n (by omega) h1 (by omega), (key j h1 h2).symm.trans h3⟩
  · rintro ⟨h0, h1⟩
    obtain ⟨j, j1, j2, rfl⟩ := inN_of (by omega) h0
    rw [nI_clamp (by omega)] at h1
    refine ⟨nI_pos (by omega), ?_⟩
    rw [nI_clamp (by omega)]
    exact ⟨j1, by omega, (key j j1 (by omega)).trans h1⟩
theorem k_again {tm p0 p1 : Int32} {sd : Nat} {c o : CS} {s : RS} (h : rel2 sd c o s) (hi : inv s) (hp : p0 = 0 ∨ p0 = 1) : ans (w2 ((p0 = 0 ∨ p0 = 1) ∧ hasBI (c.2.1 6) (c.2.2 0) p1) (c.1 0 = 2 ∧ c.2.1 6 < 200) (cSend tm 5 (td (c.2.2 0 (p1.toNatClampNeg - 1))) 4194304 c o).1 (c, o) (cSend tm 5 (td (c.2.2 0 (p1.toNatClampNeg - 1))) 4194304 c o).2) (rAgainF tm sd p1 s) ∧ rel2 sd (w2 ((p0 = 0 ∨ p0 = 1) ∧ hasBI (c.2.1 6) (c.2.2 0) p1) (c.1 0 = 2 ∧ c.2.1 6 < 200) (cSend tm 5 (td (c.2.2 0 (p1.toNatClampNeg - 1))) 4194304 c o).1 (c, o) (cSend tm 5 (td (c.2.2 0 (p1.toNatClampNeg - 1))) 4194304 c o).2).2.2.1 (w2 ((p0 = 0 ∨ p0 = 1) ∧ hasBI (c.2.1 6) (c.2.2 0) p1) (c.1 0 = 2 ∧ c.2.1 6 < 200) (cSend tm 5 (td (c.2.2 0 (p1.toNatClampNeg - 1))) 4194304 c o).1 (c, o) (cSend tm 5 (td (c.2.2 0 (p1.toNatClampNeg - 1))) 4194304 c o).2).2.2.2 (rAgainF tm sd p1 s).2.2 ∧ inv (rAgainF tm sd p1 s).2.2 := by
  have na := h.na
  by_cases q : hasBI (c.2.1 6) (c.2.2 0) p1
  · obtain ⟨a1, a2⟩ := (k_has h hi).mp q
    by_cases q2 : rErr (s.1 3 sd) (s.2 4 sd)
    · have eF : rAgainF tm sd p1 s = (2, 0, s) := (if_pos a1).trans ((if_pos a2).trans (if_pos q2))
      have eW := w2_2 (r := (cSend tm 5 (td (c.2.2 0 (p1.toNatClampNeg - 1))) 4194304 c o).1) (s := (c, o)) (s' := (cSend tm 5 (td (c.2.2 0 (p1.toNatClampNeg - 1))) 4194304 c o).2) ⟨(⟨hp, q⟩ : (p0 = 0 ∨ p0 = 1) ∧ hasBI (c.2.1 6) (c.2.2 0) p1), (k_err h).mp q2⟩
      rw [eW, eF]; exact ⟨⟨rfl, fun z => absurd z ne2⟩, h, hi⟩
    · have eF : rAgainF tm sd p1 s = _ := (if_pos a1).trans ((if_pos a2).trans (if_neg q2))
      have q3 : c.1 0 = 2 ∧ c.2.1 6 < 200 := Classical.byContradiction fun z => q2 ((k_err h).mpr z)
      have eW := w2_0 (r := (cSend tm 5 (td (c.2.2 0 (p1.toNatClampNeg - 1))) 4194304 c o).1) (s := (c, o)) (s' := (cSend tm 5 (td (c.2.2 0 (p1.toNatClampNeg - 1))) 4194304 c o).2) ⟨(⟨hp, q⟩ : (p0 = 0 ∨ p0 = 1) ∧ hasBI (c.2.1 6) (c.2.2 0) p1), q3⟩
      have et : td (c.2.2 0 (p1.toNatClampNeg - 1)) = s.2 7 (201 * sd + p1.toNatClampNeg) := by
        obtain ⟨-, b1, b2, -⟩ := q
        have e := h.a.b0 (p1.toNatClampNeg - 1) (by omega)
        rw [show p1.toNatClampNeg - 1 + 1 = p1.toNatClampNeg by omega] at e
        have hq := (rows_of (sd := sd) (s := s) hi.2 p1.toNatClampNeg).resolve_right (by omega)
        rw [e]; exact mg_td hq.1 (by omega) (by omega)
      rw [eW, eF, et]
      have h2 := rel_send (tm := tm) (kk := 5) (tt := s.2 7 (201 * sd + p1.toNatClampNeg)) (gg := 2) h
      exact ⟨⟨rfl, fun _ => h2.2 q3.2⟩, h2.1, inv_send hi h.hs (by omega) (hi.2.2.1 _) (by omega) (by omega) (fun z => by omega)⟩
  · have eF : rAgainF tm sd p1 s = (1, 0, s) := by
      unfold rAgainF
      by_cases a1 : inN (s.2 4 sd) p1
      · rw [if_pos a1, if_neg (fun a2 => q ((k_has h hi).mpr ⟨a1, a2⟩))]
      · rw [if_neg a1]
    have eW := w2_1 (B := (c.1 0 = 2 ∧ c.2.1 6 < 200)) (r := (cSend tm 5 (td (c.2.2 0 (p1.toNatClampNeg - 1))) 4194304 c o).1) (s := (c, o)) (s' := (cSend tm 5 (td (c.2.2 0 (p1.toNatClampNeg - 1))) 4194304 c o).2) (fun z => q z.2 : ¬ ((p0 = 0 ∨ p0 = 1) ∧ hasBI (c.2.1 6) (c.2.2 0) p1))
    rw [eW, eF]; exact ⟨⟨rfl, fun z => absurd z ne1⟩, h, hi⟩
