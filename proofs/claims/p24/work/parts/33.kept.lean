/-! ===== both objects' state: what is known of it, and that every call keeps it ===== -/
theorem f_cok {sd : Nat} {c o : CS} {s : RS} (hr : rel2 sd c o s) (hi : inv s) (b1 : ba c.2.2) (b2 : ba o.2.2) : cok c o := by
  have hb := f_bd hr hi
  exact ⟨hb.1, by have := hb.2.1; omega, b1, b2⟩
def GG (d sd : Nat) (c o : CS) : Prop := ∃ s : RS, rel2 sd c o s ∧ inv s ∧ inv2 d s ∧ ba c.2.2 ∧ ba o.2.2
theorem GG.flip {d sd : Nat} {c o : CS} (h : GG d sd c o) : GG d (1 - sd) o c := by
  obtain ⟨s, h1, h2, h3, h4, h5⟩ := h
  exact ⟨s, h1.flip, h2, h3, h5, h4⟩
theorem GG.up {d d' sd : Nat} {c o : CS} (h : GG d sd c o) (hd : d ≤ d') : GG d' sd c o := by
  obtain ⟨s, h1, h2, h3, h4⟩ := h
  exact ⟨s, h1, h2, h3.up hd, h4⟩
/-- a message as it lies on a wire -/
def okw (m n6 : Nat) : Prop := ∃ nn kk tt gg : Nat, m = mg nn kk tt gg ∧ okq nn kk tt gg ∧ 1 ≤ nn ∧ nn < n6 + 1
/-- what the law asks of one side -/
abbrev okc (d : Nat) (c o : CS) : Prop :=
  (∃ k, k ≤ 2 ∧ c.1 0 = nI k) ∧ (c.1 1 = 0 ∨ c.1 1 = 1) ∧ (¬ c.1 0 = 2 → c.1 1 = 0) ∧ (∃ k, k ≤ d ∧ c.1 9 = nI k) ∧ c.2.1 6 ≤ 200 ∧ (1 ≤ c.2.1 7 ∧ c.2.1 7 ≤ o.2.1 6 + 1) ∧ c.2.1 8 < c.2.1 7 ∧ c.2.1 10 ≤ 60 ∧ cAgreedF (c.2.1 7) (c.2.1 8) (c.2.2 1) (o.2.1 6) (o.2.2 0) = c.2.1 8 ∧ (∀ j, j < c.2.1 10 → okw (c.2.2 2 j) (o.2.1 6)) ∧ bd c.2.1 ∧ ba c.2.2
theorem GG.okc {d sd : Nat} {c o : CS} (h : GG d sd c o) : okc d c o := by
  obtain ⟨s, hr, hi, h2, b1, b2⟩ := h
  have hs := hr.hs
  have hv := hi.1 sd hs
  have hz := hi.1 (1 - sd) (by omega)
  have hk := h2 sd hs
  refine ⟨?_, f_01 hr hi, ?_, ?_, hr.na, ?_, ?_, hr.ca, agreed_all hr hi h2, ?_, f_bd hr hi, b1⟩
  · rw [hr.a.e0]
    rcases hk.1 with e | e | e
    · exact ⟨0, by omega, e⟩
    · exact ⟨1, by omega, e⟩
    · exact ⟨2, by omega, e⟩
  · rw [hr.a.e0, hr.a.e1]; exact hv.2.1
  · rw [hr.a.e9]; exact hk.2.1
  · rw [hr.a.m7, hr.b.m6]; exact hv.2.2.2.1
  · rw [hr.a.m7, hr.a.m8]; exact hv.2.2.2.2.1
  · intro j hj
    obtain ⟨e, hq⟩ := f_msg hr hi hj
    obtain ⟨w1, w2, -⟩ := hv.2.2.2.2.2.2 j (by rw [← hr.a.m10]; exact hj)
    exact ⟨_, _, _, _, e, hq, w1, by rw [hr.b.m6]; exact w2⟩
theorem okw.okm {m n6 : Nat} (h : okw m n6) : okm m := by
  obtain ⟨nn, kk, tt, gg, rfl, hq, -⟩ := h
  exact ⟨mg_lt hq.1 (by have := hq.2.1; omega) (by have := hq.2.2.1; omega) hq.2.2.2, by rw [mg_kd hq.1 (by have := hq.2.1; omega) (by have := hq.2.2.1; omega)]; exact hq.2.1, by rw [mg_td hq.1 (by have := hq.2.1; omega) (by have := hq.2.2.1; omega)]; exact hq.2.2.1⟩
/-! what one call does: an answer, or that it threw, and the state behind it -/
noncomputable def dz (A : Prop) (r : Int32) (s s' : CS × CS) : Int32 × CS × CS := @ite _ A (Classical.propDecidable _) (r, s') (-99999, s)
theorem dz_0 {A : Prop} {r : Int32} {s s' : CS × CS} (h : A) : dz A r s s' = (r, s') := if_pos h
theorem dz_1 {A : Prop} {r : Int32} {s s' : CS × CS} (h : ¬ A) : dz A r s s' = (-99999, s) := if_neg h
noncomputable def dLogon (tm p0 p1 : Int32) (c o : CS) := dz ((p0 = 0 ∨ p0 = 1) ∧ c.1 0 = 0 ∧ c.2.1 6 < 200) (cLogonF tm c o).1 (c, o) (cLogonF tm c o).2
noncomputable def dLogout (tm p0 p1 : Int32) (c o : CS) := dz ((p0 = 0 ∨ p0 = 1) ∧ c.1 0 = 2 ∧ c.2.1 6 < 200) (cLogoutF tm c o).1 (c, o) (cLogoutF tm c o).2
noncomputable def dCrash (tm p0 p1 : Int32) (c o : CS) := dz (p0 = 0 ∨ p0 = 1) (b2i (c.1 0 = 2)) (c, o) ((va_up (va_up c.1 0 0) 1 0, c.2), o)
noncomputable def dSend (tm p0 p1 : Int32) (c o : CS) := dz ((p0 = 0 ∨ p0 = 1) ∧ (¬ p1 < 0 ∧ p1 ≤ 999) ∧ c.1 0 = 2 ∧ c.2.1 6 < 200) (cSend tm 5 p1.toNatClampNeg 0 c o).1 (c, o) (cSend tm 5 p1.toNatClampNeg 0 c o).2
noncomputable def dAgain (tm p0 p1 : Int32) (c o : CS) := dz (((p0 = 0 ∨ p0 = 1) ∧ hasBI (c.2.1 6) (c.2.2 0) p1) ∧ c.1 0 = 2 ∧ c.2.1 6 < 200) (cSend tm 5 (td (c.2.2 0 (p1.toNatClampNeg - 1))) 4194304 c o).1 (c, o) (cSend tm 5 (td (c.2.2 0 (p1.toNatClampNeg - 1))) 4194304 c o).2
noncomputable def dDeliver (tm p0 p1 : Int32) (c o : CS) := dz ((p0 = 0 ∨ p0 = 1) ∧ ¬ c.2.1 10 = 0) (nI (cDeliverF tm c o).1) (c, o) (cDeliverF tm c o).2
noncomputable def dLose (tm p0 p1 : Int32) (c o : CS) := dz ((p0 = 0 ∨ p0 = 1) ∧ ¬ c.2.1 10 = 0) (nI (kd (c.2.2 2 0))) (c, o) ((c.1, va_up c.2.1 10 (c.2.1 10 - 1), va_up c.2.2 2 (cShift (c.2.1 10) (c.2.2 2))), o)
noncomputable def dDay (tm p0 p1 : Int32) (c o : CS) := dz (c.1 0 = 0 ∧ o.1 0 = 0) (nI (c.2.1 6 + o.2.1 6)) (c, o) ((va_up c.1 9 0, va_up (va_up (va_up (va_up c.2.1 6 0) 7 1) 8 0) 10 0, c.2.2), (va_up o.1 9 0, va_up (va_up (va_up (va_up o.2.1 6 0) 7 1) 8 0) 10 0, o.2.2))
/-- kept: and nothing has changed where it threw -/
abbrev kept (d sd : Nat) (c o : CS) (x : Int32 × CS × CS) : Prop := GG (d + 1) sd x.2.1 x.2.2 ∧ (x.1 = -99999 → x = (-99999, c, o))
theorem nI_no {n : Nat} (h : n < 2 ^ 31) : nI n ≠ -99999 := fun z => absurd (show nI n < 0 by rw [z]; decide) (nI_pos h)
theorem kept_1 {d sd : Nat} {c o : CS} {A : Prop} {r : Int32} {s' : CS × CS} (h : GG d sd c o) (h' : A → r ≠ -99999 ∧ GG (d + 1) sd s'.1 s'.2) : kept d sd c o (dz A r (c, o) s') := by
  by_cases q : A
  · rw [dz_0 q]; exact ⟨(h' q).2, fun z => absurd z (h' q).1⟩
  · rw [dz_1 q]; exact ⟨h.up (by omega), fun _ => rfl⟩
theorem send_1 {tm : Int32} {kk tt gg : Nat} {c o : CS} (h : c.2.1 6 < 200) : (cSend tm kk tt gg c o).1 = nI (c.2.1 6 + 1) := by
  have e1 : cSend tm kk tt gg c o = (nI (c.2.1 6 + 1), _) := if_neg (by omega)
  rw [e1]
section KEPT
variable {d sd : Nat} {tm p0 p1 : Int32} {c o : CS}
theorem kept_logon (h : GG d sd c o) : kept d sd c o (dLogon tm p0 p1 c o) := kept_1 h fun ⟨hp, q1, q2⟩ => by
  refine ⟨(send_1 (tm := tm) (kk := 0) (tt := 0) (gg := 8388608) (c := (va_up c.1 0 1, va_up c.2.1 10 0, c.2.2)) (o := (o.1, va_up o.2.1 10 0, o.2.2)) q2).symm ▸ nI_no (show c.2.1 6 + 1 < 2 ^ 31 by omega), ?_⟩
  obtain ⟨s, hr, hi, h2, b1, b2⟩ := h
  have hx := f_cok hr hi b1 b2
  have hc := cok_send (tm := tm) (kk := 0) (tt := 0) (g := 4) (c := (va_up c.1 0 1, va_up c.2.1 10 0, c.2.2)) (o := (o.1, va_up o.2.1 10 0, o.2.2)) ⟨hx.1, hx.2.1, hx.2.2.1, hx.2.2.2⟩ (by omega) (by omega) (by omega)
  have q : s.1 3 sd = 0 := hr.a.e0.symm.trans q1
  have hi2 := inv_wires (inv_on (sd := sd) (v := 1) hi (by rw [q]; decide))
  exact ⟨_, (rel_send (tm := tm) (kk := 0) (tt := 0) (gg := 4) (rel_wires (rel_on (v := 1) hr))).1, inv_send hi2 hr.hs (by omega) (by omega) (by omega) (by omega) (fun z => by omega), inv2_send (inv2_wires (inv2_on (Or.inr (Or.inl rfl)) (h2.up (Nat.le_succ d)))) hi2 hr.hs (by omega) (by omega) (by omega) (by omega), hc.2.2.1, hc.2.2.2⟩
theorem kept_logout (h : GG d sd c o) : kept d sd c o (dLogout tm p0 p1 c o) := kept_1 h fun ⟨hp, q1, q2⟩ => by
  refine ⟨(send_1 (tm := tm) (kk := 6) (tt := 0) (gg := 0) (c := c) (o := o) q2).symm ▸ nI_no (show c.2.1 6 + 1 < 2 ^ 31 by omega), ?_⟩
  obtain ⟨s, hr, hi, h2, b1, b2⟩ := h
  have hc := cok_send (tm := tm) (kk := 6) (tt := 0) (g := 0) (f_cok hr hi b1 b2) (by omega) (by omega) (by omega)
  exact ⟨_, rel_off (s := rSends tm sd 6 0 0 s) (rel_send (tm := tm) (kk := 6) (tt := 0) (gg := 0) hr).1, inv_off (s := rSends tm sd 6 0 0 s) (inv_send hi hr.hs (by omega) (by omega) (by omega) (by omega) (fun z => by omega)), inv2_off (s := rSends tm sd 6 0 0 s) (inv2_send (h2.up (Nat.le_succ d)) hi hr.hs (by omega) (by omega) (by omega) (by omega)), hc.2.2.1, hc.2.2.2⟩
theorem kept_crash (h : GG d sd c o) : kept d sd c o (dCrash tm p0 p1 c o) := kept_1 h fun hp => by
  refine ⟨fun z => ?_, ?_⟩
  · by_cases q : c.1 0 = 2
    · rw [← b2i_t q] at z; exact absurd z (by decide)
    · rw [← b2i_f q] at z; exact absurd z (by decide)
  · obtain ⟨s, hr, hi, h2, b1, b2⟩ := h
    exact ⟨_, rel_off hr, inv_off hi, inv2_off (h2.up (Nat.le_succ d)), b1, b2⟩
theorem kept_send (h : GG d sd c o) : kept d sd c o (dSend tm p0 p1 c o) := kept_1 h fun ⟨hp, hq, q1, q2⟩ => by
  refine ⟨(send_1 (tm := tm) (kk := 5) (tt := p1.toNatClampNeg) (gg := 0) (c := c) (o := o) q2).symm ▸ nI_no (show c.2.1 6 + 1 < 2 ^ 31 by omega), ?_⟩
  obtain ⟨s, hr, hi, h2, b1, b2⟩ := h
  obtain ⟨j, hj, ej⟩ := ix_le2 ⟨hq.1, Int32.not_lt.mpr hq.2⟩
  have h9 : p1.toNatClampNeg < 1000 := by rw [ej, nI_clamp (by omega)]; omega
  have hc := cok_send (tm := tm) (kk := 5) (tt := p1.toNatClampNeg) (g := 0) (f_cok hr hi b1 b2) (by omega) (by omega) (by omega)
  exact ⟨_, (rel_send (tm := tm) (kk := 5) (tt := p1.toNatClampNeg) (gg := 0) hr).1, inv_send hi hr.hs (by omega) h9 (by omega) (by omega) (fun z => by omega), inv2_send (h2.up (Nat.le_succ d)) hi hr.hs (by omega) h9 (by omega) (by omega), hc.2.2.1, hc.2.2.2⟩
theorem kept_again (h : GG d sd c o) : kept d sd c o (dAgain tm p0 p1 c o) := kept_1 h fun ⟨⟨hp, hq⟩, q1, q2⟩ => by
  refine ⟨(send_1 (tm := tm) (kk := 5) (tt := td (c.2.2 0 (p1.toNatClampNeg - 1))) (gg := 4194304) (c := c) (o := o) q2).symm ▸ nI_no (show c.2.1 6 + 1 < 2 ^ 31 by omega), ?_⟩
  obtain ⟨s, hr, hi, h2, b1, b2⟩ := h
  have na := hr.na
  have h9 : td (c.2.2 0 (p1.toNatClampNeg - 1)) < 1000 := by
    obtain ⟨-, g1, g2, -⟩ := hq
    have e := hr.a.b0 (p1.toNatClampNeg - 1) (by omega)
    rw [show p1.toNatClampNeg - 1 + 1 = p1.toNatClampNeg by omega] at e
    have hk := (rows_of (sd := sd) (s := s) hi.2 p1.toNatClampNeg).resolve_right (by omega)
    rw [e, mg_td hk.1 (by have := hk.2.1; omega) (by have := hk.2.2.1; omega)]; exact hi.2.2.1 _
  have hc := cok_send (tm := tm) (kk := 5) (tt := td (c.2.2 0 (p1.toNatClampNeg - 1))) (g := 2) (f_cok hr hi b1 b2) (by omega) (by omega) (by omega)
  exact ⟨_, (rel_send (tm := tm) (kk := 5) (tt := td (c.2.2 0 (p1.toNatClampNeg - 1))) (gg := 2) hr).1, inv_send hi hr.hs (by omega) h9 (by omega) (by omega) (fun z => by omega), inv2_send (h2.up (Nat.le_succ d)) hi hr.hs (by omega) h9 (by omega) (by omega), hc.2.2.1, hc.2.2.2⟩
theorem kept_deliver (h : GG d sd c o) : kept d sd c o (dDeliver tm p0 p1 c o) := kept_1 h fun ⟨hp, q⟩ => by
  refine ⟨nI_no (show kd (c.2.2 2 0) < 2 ^ 31 by have := kd_lt (c.2.2 2 0); omega), ?_⟩
  obtain ⟨s, hr, hi, h2, b1, b2⟩ := h
  have hs := hr.hs
  have m10 := hr.a.m10
  obtain ⟨em, hq, w1, w2, w3, w4⟩ := first_of hr hi q
  have ek : kd (c.2.2 2 0) = s.2 19 (60 * sd) := by rw [em]; exact mg_kd hq.1 (by have := hq.2.1; omega) (by have := hq.2.2.1; omega)
  have q17 : ¬ s.2 17 sd = 0 := m10 ▸ q
  have ht := rel_taken (tm := tm) hr q
  have hti := inv_taken (tm := tm) hi hs q17
  have ht2 := inv2_taken (tm := tm) h2 hi hs q17
  have hw : wqk (s.2 6) (s.2 7) (s.2 8) (201 * (1 - sd)) (s.2 18 (60 * sd)) (s.2 19 (60 * sd)) (s.2 20 (60 * sd)) (s.2 21 (60 * sd)) := (h2 sd hs).2.2.2.2 0 (by omega)
  have hr9 := rel_recv2 (tm := tm) ht hti em hq w2 w4
  have hri := inv_comes (tm := tm) (gg := s.2 21 (60 * sd)) hti hs hq.2.2.1 w1 w2 w3 w4
  have hr2 := inv2_comes (tm := tm) (gg := s.2 21 (60 * sd)) ht2 hti hs hq.2.2.1 w1 w2 w3 w4 hw
  have hcr := cok_receive (tm := tm) (mm := c.2.2 2 0) (cok_taken (tm := tm) (f_cok hr hi b1 b2))
  show GG (d + 1) sd (cReceive tm (c.2.2 2 0) (cTaken tm c) o).1 (cReceive tm (c.2.2 2 0) (cTaken tm c) o).2
  unfold cReceive at hcr ⊢
  rw [ek, show (cTaken tm c).1 0 = s.1 3 sd from hr.a.e0] at hcr ⊢
  by_cases k0 : s.2 19 (60 * sd) = 0
  · rw [if_pos k0] at hcr ⊢; exact ⟨_, hr9, hri, hr2, hcr.2.2.1, hcr.2.2.2⟩
  · rw [if_neg k0] at hcr ⊢
    by_cases k2 : s.1 3 sd = 2
    · rw [if_pos k2] at hcr ⊢; exact ⟨_, hr9, hri, hr2, hcr.2.2.1, hcr.2.2.2⟩
    · rw [if_neg k2] at hcr ⊢; exact ⟨_, ht, hti, ht2.up (Nat.le_succ d), hcr.2.2.1, hcr.2.2.2⟩
theorem kept_lose (h : GG d sd c o) : kept d sd c o (dLose tm p0 p1 c o) := kept_1 h fun ⟨hp, q⟩ => by
  refine ⟨nI_no (show kd (c.2.2 2 0) < 2 ^ 31 by have := kd_lt (c.2.2 2 0); omega), ?_⟩
  obtain ⟨s, hr, hi, h2, b1, b2⟩ := h
  have q17 : ¬ s.2 17 sd = 0 := hr.a.m10 ▸ q
  exact ⟨_, rel_rem hr q, inv_rem hi hr.hs q17, inv2_rem (h2.up (Nat.le_succ d)) hi hr.hs q17, ba_up b1 (sh_lt (b1 2)), b2⟩
theorem kept_day (h : GG d 0 c o) : kept d 0 c o (dDay tm p0 p1 c o) := kept_1 h fun q => by
  obtain ⟨s, hr, hi, h2, b1, b2⟩ := h
  have na := hr.na
  have nb := hr.nb
  exact ⟨nI_no (show c.2.1 6 + o.2.1 6 < 2 ^ 31 by omega), _, rel_day hr, inv_day hi, inv2_day (h2.up (Nat.le_succ d)), b1, b2⟩
theorem kept_tick (h : GG d 0 c o) : GG d 0 (cTickF tm c o).1 (cTickF tm c o).2 := by
  obtain ⟨s, hr, hi, h2, b1, b2⟩ := h
  obtain ⟨r1, r2⟩ := k_tick (tm := tm) hr hi
  have h7 := rel_tick (tm := tm + 1) hr (hi.1 0 (by omega)).2.1
  have hi7 := inv_tick (tm := tm + 1) hi (show 0 < 2 by omega)
  have c1 := cok_tick (tm := tm + 1) (f_cok hr hi b1 b2)
  have c2 := cok_tick (tm := tm + 1) (f_cok h7.flip hi7 c1.2.2.2 c1.2.2.1)
  exact ⟨_, r1, r2, inv2_tick (inv2_tick h2 hi (by omega)) hi7 (by omega), c2.2.2.2, c2.2.2.1⟩
end KEPT
