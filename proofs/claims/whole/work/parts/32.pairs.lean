/-! ===== each call of the class beside the reference's ===== -/
theorem w1_p {α : Type} {A : Prop} {r : Int32} {s s' : α} {P : α → Prop} (h : P s) (h' : A → P s') : P (w1 A r s s').2.2 := by
  by_cases a : A
  · rw [w1_0 a]; exact h' a
  · rw [w1_1 a]; exact h
theorem w2_p {α : Type} {A B : Prop} {r : Int32} {s s' : α} {P : α → Prop} (h : P s) (h' : A → B → P s') : P (w2 A B r s s').2.2 := by
  by_cases a : A
  · by_cases b : B
    · rw [w2_0 ⟨a, b⟩]; exact h' a b
    · rw [w2_2 ⟨a, b⟩]; exact h
  · rw [w2_1 a]; exact h
theorem w3_p {α : Type} {A B C : Prop} {r : Int32} {s s' : α} {P : α → Prop} (h : P s) (h' : A → B → C → P s') : P (w3 A B C r s s').2.2 := by
  by_cases a : A
  · by_cases b : B
    · by_cases d : C
      · rw [w3_0 ⟨a, b, d⟩]; exact h' a b d
      · rw [w3_3 ⟨a, b, d⟩]; exact h
    · rw [w3_2 ⟨a, b⟩]; exact h
  · rw [w3_1 a]; exact h
theorem b2i_01 {P : Prop} : b2i P = 0 ∨ b2i P = 1 := by
  by_cases h : P
  · exact Or.inr (if_pos h)
  · exact Or.inl (if_neg h)
theorem bad01 {p0 : Int32} (h : ¬ (p0 = 0 ∨ p0 = 1)) : ¬ (¬ p0 < 0 ∧ ¬ 1 < p0) := by
  rintro ⟨h0, h1⟩
  obtain ⟨j, hj, rfl⟩ := nI_of h0
  have h2 : ¬ 1 < j := fun z => h1 ((nI_ltI (a := 1) (b := j) (by omega) hj).mpr z)
  exact h (p_side (by omega))
section PAIRS
variable {l : Launch} {D : va_G} {cI cB cL cZ cC : ClassId} {h ou g zz oo sd : Nat} {qa qb qz qo q : Nat → Nat} {tm : Int32} {c o : CS} {s : RS}
theorem f_18 (hr : rel2 sd c o s) (hi : inv s) : ¬ s.2 17 sd = 0 → s.2 18 (60 * sd) < 16777000 := fun hc => by
  have hw := hi.1 sd hr.hs
  have hz := hi.1 (1 - sd) (by have := hr.hs; omega)
  have w : wok s.2 (s.2 4 (1 - sd)) (60 * sd) := hw.2.2.2.2.2.2 0 (by omega)
  have n4 := hz.2.2.1.2
  have := w.2.1
  omega
theorem f_cok (hr : rel2 sd c o s) (hi : inv s) (b1 : ba c.2.2) (b2 : ba o.2.2) : cok c o := by
  have hb := f_bd hr hi
  exact ⟨hb.1, by have := hb.2.1; omega, b1, b2⟩
theorem asks_eq (hr : rel2 sd c o s) (hi : inv s) : c.1 1 = b2i (¬ s.1 12 sd = 0) := by
  rw [← hr.a.e1]
  rcases f_01 hr hi with e | e
  · rw [e]; exact b2i_f (fun z => z rfl)
  · rw [e]; exact b2i_t ne1
abbrev wRw (cI cZ cC : ClassId) (q : Nat → Nat) (s : RS) : va_W := [(q 0, .inl (cC, 63, .inl nmF)), (q 3, .inl (cI, 2, .inl (s.1 3))), (q 4, .inl (cI, 2, .inl (ni (s.2 4)))), (q 5, .inl (cI, 2, .inl (ni (s.2 5)))), (q 6, .inl (cI, 402, .inl (ni (s.2 6)))), (q 7, .inl (cI, 402, .inl (ni (s.2 7)))), (q 8, .inl (cI, 402, .inl (ni (s.2 8)))), (q 9, .inl (cI, 402, .inl (ni (s.2 9)))), (q 10, .inl (cI, 2, .inl (ni (s.2 10)))), (q 11, .inl (cI, 2, .inl (s.1 11))), (q 12, .inl (cZ, 2, .inl (s.1 12))), (q 13, .inl (cI, 2, .inl (s.1 13))), (q 14, .inl (cI, 2, .inl (s.1 14))), (q 15, .inl (cZ, 2, .inl (s.1 15))), (q 16, .inl (cI, 2, .inl (s.1 16))), (q 17, .inl (cI, 2, .inl (ni (s.2 17)))), (q 18, .inl (cI, 120, .inl (ni (s.2 18)))), (q 19, .inl (cI, 120, .inl (ni (s.2 19)))), (q 20, .inl (cI, 120, .inl (ni (s.2 20)))), (q 21, .inl (cI, 120, .inl (ni (s.2 21))))]
set_option maxHeartbeats 4000000 in
set_option maxRecDepth 100000 in
theorem t_logon (hlt : l.stackTraces = false) (hz : nI sd = 0 → zz = qa 0 ∧ oo = qb 0) (ho : ¬ nI sd = 0 → oo = qa 0 ∧ zz = qb 0) (hr : rel2 sd c o s) (hi : inv s) (b1 : ba c.2.2) (b2 : ba o.2.2) : PS l D cI cB cL cZ cC h ou g q tm yL_logon wsL_logon ({ frames := 8, cells := 2, slots := 12, locals := 133 }) 2 12 yX5_logon wsX5_logon [.int (nI sd)] (fun _ => True) sd zz oo qa qb c o s := by
  obtain ⟨ha, hr2, hi2⟩ := k_logon (tm := tm) (p0 := nI sd) hr hi (p_side hr.hs)
  have hb : ba (w2 (nI sd = 0 ∨ nI sd = 1) (c.1 0 = 0 ∧ c.2.1 6 < 200) (cLogonF tm c o).1 (c, o) (cLogonF tm c o).2).2.2.1.2.2 ∧ ba (w2 (nI sd = 0 ∨ nI sd = 1) (c.1 0 = 0 ∧ c.2.1 6 < 200) (cLogonF tm c o).1 (c, o) (cLogonF tm c o).2).2.2.2.2.2 := w2_p (P := fun x : CS × CS => ba x.1.2.2 ∧ ba x.2.2.2) ⟨b1, b2⟩ (fun _ _ => (fun hx : cok (cLogonF tm c o).2.1 (cLogonF tm c o).2.2 => hx.2.2) (cok_send (tm := tm) (kk := 0) (tt := 0) (g := 4) (c := (va_up c.1 0 1, va_up c.2.1 10 0, c.2.2)) (o := (o.1, va_up o.2.1 10 0, o.2.2)) (have h9 := f_cok hr hi b1 b2; ⟨h9.1, h9.2.1, h9.2.2.1, h9.2.2.2⟩) (by omega) (by omega) (by omega)))
  exact ⟨({ frames := 2, cells := 0, slots := 0, locals := 52 } : Room), (w2 (nI sd = 0 ∨ nI sd = 1) (c.1 0 = 0 ∧ c.2.1 6 < 200) (cLogonF tm c o).1 (c, o) (cLogonF tm c o).2).1, (rLogonF tm sd s).1, (w2 (nI sd = 0 ∨ nI sd = 1) (c.1 0 = 0 ∧ c.2.1 6 < 200) (cLogonF tm c o).1 (c, o) (cLogonF tm c o).2).2.1, (rLogonF tm sd s).2.1, (w2 (nI sd = 0 ∨ nI sd = 1) (c.1 0 = 0 ∧ c.2.1 6 < 200) (cLogonF tm c o).1 (c, o) (cLogonF tm c o).2).2.2.1, (w2 (nI sd = 0 ∨ nI sd = 1) (c.1 0 = 0 ∧ c.2.1 6 < 200) (cLogonF tm c o).1 (c, o) (cLogonF tm c o).2).2.2.2, (rLogonF tm sd s).2.2, ⟨rfl, rfl, Nat.le_of_ble_eq_true rfl, Nat.le_of_ble_eq_true rfl⟩, fun sz f => c_L_logon l D sz cI cB cL h zz oo tm (nI sd) qa c.1 c.2.1 c.2.2 qb o.1 o.2.1 o.2.2 ou f hlt hz ho (f_bd hr hi) (f_bd hr.flip hi), fun sz t1 => c_X5_logon_ok l D sz cI cZ cC g q (jj t1 tm) s.1 s.2 sd hr.hs (f_rw hi) (f_nb hi), ⟨ha.1, ha.2, trivial⟩, hr2, hi2, hb.1, hb.2⟩
set_option maxHeartbeats 4000000 in
set_option maxRecDepth 100000 in
theorem b_logon {p0 : Int32} (hlt : l.stackTraces = false) (hb : ¬ (p0 = 0 ∨ p0 = 1)) (ho : oo = qa 0 ∧ zz = qb 0) (hr : rel2 1 c o s) (hi : inv s) (b1 : ba c.2.2) (b2 : ba o.2.2) : PS l D cI cB cL cZ cC h ou g q tm yL_logon wsL_logon ({ frames := 8, cells := 2, slots := 12, locals := 133 }) 2 12 yX5_logon wsX5_logon [.int p0] (fun _ => True) 1 zz oo qa qb c o s := by
  have e : (w2 (p0 = 0 ∨ p0 = 1) (c.1 0 = 0 ∧ c.2.1 6 < 200) (cLogonF tm c o).1 (c, o) (cLogonF tm c o).2) = _ := w2_1 hb
  refine ⟨({ frames := 2, cells := 0, slots := 0, locals := 42 } : Room), (w2 (p0 = 0 ∨ p0 = 1) (c.1 0 = 0 ∧ c.2.1 6 < 200) (cLogonF tm c o).1 (c, o) (cLogonF tm c o).2).1, 1, (w2 (p0 = 0 ∨ p0 = 1) (c.1 0 = 0 ∧ c.2.1 6 < 200) (cLogonF tm c o).1 (c, o) (cLogonF tm c o).2).2.1, 0, (w2 (p0 = 0 ∨ p0 = 1) (c.1 0 = 0 ∧ c.2.1 6 < 200) (cLogonF tm c o).1 (c, o) (cLogonF tm c o).2).2.2.1, (w2 (p0 = 0 ∨ p0 = 1) (c.1 0 = 0 ∧ c.2.1 6 < 200) (cLogonF tm c o).1 (c, o) (cLogonF tm c o).2).2.2.2, s, ⟨rfl, rfl, Nat.le_of_ble_eq_true rfl, Nat.le_of_ble_eq_true rfl⟩, fun sz f => c_L_logon l D sz cI cB cL h zz oo tm p0 qa c.1 c.2.1 c.2.2 qb o.1 o.2.1 o.2.2 ou f hlt (fun z => absurd (Or.inl z) hb) (fun _ => ho) (f_bd hr hi) (f_bd hr.flip hi), fun sz t1 => CT.re (wr := wRw cI cZ cC q s) (c_X5_logon_bad l D sz cI cZ cC g q (jj t1 tm) p0 (bad01 hb)) [0] [1, 2, 3, 4, 5, 6, 7, 8, 9, 10, 11, 12, 13, 14, 15, 16, 17, 18, 19, 20] [20, 0, 1, 2, 3, 4, 5, 6, 7, 8, 9, 10, 11, 12, 13, 14, 15, 16, 17, 18, 19] rfl (by decide) rfl (by decide) (by decide) (by decide) rfl, ?_⟩
  rw [e]
  exact ⟨⟨rfl, fun z => absurd z ne1, trivial⟩, hr, hi, b1, b2⟩
set_option maxHeartbeats 4000000 in
set_option maxRecDepth 100000 in
theorem p_logon (p0 : Int32) (hlt : l.stackTraces = false) (hr : rel2 0 c o s) (hi : inv s) (b1 : ba c.2.2) (b2 : ba o.2.2) : PS l D cI cB cL cZ cC h ou g q tm yL_logon wsL_logon ({ frames := 8, cells := 2, slots := 12, locals := 133 }) 2 12 yX5_logon wsX5_logon [.int p0] (fun _ => True) 0 (qz 0) (qo 0) qz qo c o s := by
  by_cases e0 : p0 = nI 0
  · rw [e0]; exact t_logon hlt (fun _ => ⟨rfl, rfl⟩) (fun z => absurd rfl z) hr hi b1 b2
  · by_cases e1 : p0 = nI 1
    · rw [e1]; exact (t_logon (sd := 1) hlt (fun z => absurd z ne1) (fun _ => ⟨rfl, rfl⟩) hr.flip hi b2 b1).flip
    · exact (b_logon hlt (fun z => z.elim e0 e1) ⟨rfl, rfl⟩ hr.flip hi b2 b1).flip
set_option maxHeartbeats 4000000 in
set_option maxRecDepth 100000 in
theorem t_logout (hlt : l.stackTraces = false) (hz : nI sd = 0 → zz = qa 0 ∧ oo = qb 0) (ho : ¬ nI sd = 0 → oo = qa 0 ∧ zz = qb 0) (hr : rel2 sd c o s) (hi : inv s) (b1 : ba c.2.2) (b2 : ba o.2.2) : PS l D cI cB cL cZ cC h ou g q tm yL_logout wsL_logout ({ frames := 8, cells := 2, slots := 12, locals := 134 }) 2 12 yX5_logout wsX5_logout [.int (nI sd)] (fun _ => True) sd zz oo qa qb c o s := by
  obtain ⟨ha, hr2, hi2⟩ := k_logout (tm := tm) (p0 := nI sd) hr hi (p_side hr.hs)
  have hb : ba (w2 (nI sd = 0 ∨ nI sd = 1) (c.1 0 = 2 ∧ c.2.1 6 < 200) (cLogoutF tm c o).1 (c, o) (cLogoutF tm c o).2).2.2.1.2.2 ∧ ba (w2 (nI sd = 0 ∨ nI sd = 1) (c.1 0 = 2 ∧ c.2.1 6 < 200) (cLogoutF tm c o).1 (c, o) (cLogoutF tm c o).2).2.2.2.2.2 := w2_p (P := fun x : CS × CS => ba x.1.2.2 ∧ ba x.2.2.2) ⟨b1, b2⟩ (fun _ _ => (cok_send (tm := tm) (kk := 6) (tt := 0) (g := 0) (f_cok hr hi b1 b2) (by omega) (by omega) (by omega)).2.2)
  exact ⟨({ frames := 2, cells := 0, slots := 0, locals := 52 } : Room), (w2 (nI sd = 0 ∨ nI sd = 1) (c.1 0 = 2 ∧ c.2.1 6 < 200) (cLogoutF tm c o).1 (c, o) (cLogoutF tm c o).2).1, (rLogoutF tm sd s).1, (w2 (nI sd = 0 ∨ nI sd = 1) (c.1 0 = 2 ∧ c.2.1 6 < 200) (cLogoutF tm c o).1 (c, o) (cLogoutF tm c o).2).2.1, (rLogoutF tm sd s).2.1, (w2 (nI sd = 0 ∨ nI sd = 1) (c.1 0 = 2 ∧ c.2.1 6 < 200) (cLogoutF tm c o).1 (c, o) (cLogoutF tm c o).2).2.2.1, (w2 (nI sd = 0 ∨ nI sd = 1) (c.1 0 = 2 ∧ c.2.1 6 < 200) (cLogoutF tm c o).1 (c, o) (cLogoutF tm c o).2).2.2.2, (rLogoutF tm sd s).2.2, ⟨rfl, rfl, Nat.le_of_ble_eq_true rfl, Nat.le_of_ble_eq_true rfl⟩, fun sz f => c_L_logout l D sz cI cB cL h zz oo tm (nI sd) qa c.1 c.2.1 c.2.2 qb o.1 o.2.1 o.2.2 ou f hlt hz ho (f_bd hr hi) (f_bd hr.flip hi), fun sz t1 => c_X5_logout_ok l D sz cI cZ cC g q (jj t1 tm) s.1 s.2 sd hr.hs (f_rw hi) (f_nb hi), ⟨ha.1, ha.2, trivial⟩, hr2, hi2, hb.1, hb.2⟩
set_option maxHeartbeats 4000000 in
set_option maxRecDepth 100000 in
theorem b_logout {p0 : Int32} (hlt : l.stackTraces = false) (hb : ¬ (p0 = 0 ∨ p0 = 1)) (ho : oo = qa 0 ∧ zz = qb 0) (hr : rel2 1 c o s) (hi : inv s) (b1 : ba c.2.2) (b2 : ba o.2.2) : PS l D cI cB cL cZ cC h ou g q tm yL_logout wsL_logout ({ frames := 8, cells := 2, slots := 12, locals := 134 }) 2 12 yX5_logout wsX5_logout [.int p0] (fun _ => True) 1 zz oo qa qb c o s := by
  have e : (w2 (p0 = 0 ∨ p0 = 1) (c.1 0 = 2 ∧ c.2.1 6 < 200) (cLogoutF tm c o).1 (c, o) (cLogoutF tm c o).2) = _ := w2_1 hb
  refine ⟨({ frames := 2, cells := 0, slots := 0, locals := 42 } : Room), (w2 (p0 = 0 ∨ p0 = 1) (c.1 0 = 2 ∧ c.2.1 6 < 200) (cLogoutF tm c o).1 (c, o) (cLogoutF tm c o).2).1, 1, (w2 (p0 = 0 ∨ p0 = 1) (c.1 0 = 2 ∧ c.2.1 6 < 200) (cLogoutF tm c o).1 (c, o) (cLogoutF tm c o).2).2.1, 0, (w2 (p0 = 0 ∨ p0 = 1) (c.1 0 = 2 ∧ c.2.1 6 < 200) (cLogoutF tm c o).1 (c, o) (cLogoutF tm c o).2).2.2.1, (w2 (p0 = 0 ∨ p0 = 1) (c.1 0 = 2 ∧ c.2.1 6 < 200) (cLogoutF tm c o).1 (c, o) (cLogoutF tm c o).2).2.2.2, s, ⟨rfl, rfl, Nat.le_of_ble_eq_true rfl, Nat.le_of_ble_eq_true rfl⟩, fun sz f => c_L_logout l D sz cI cB cL h zz oo tm p0 qa c.1 c.2.1 c.2.2 qb o.1 o.2.1 o.2.2 ou f hlt (fun z => absurd (Or.inl z) hb) (fun _ => ho) (f_bd hr hi) (f_bd hr.flip hi), fun sz t1 => CT.re (wr := wRw cI cZ cC q s) (c_X5_logout_bad l D sz cI cZ cC g q (jj t1 tm) p0 (bad01 hb)) [0] [1, 2, 3, 4, 5, 6, 7, 8, 9, 10, 11, 12, 13, 14, 15, 16, 17, 18, 19, 20] [20, 0, 1, 2, 3, 4, 5, 6, 7, 8, 9, 10, 11, 12, 13, 14, 15, 16, 17, 18, 19] rfl (by decide) rfl (by decide) (by decide) (by decide) rfl, ?_⟩
  rw [e]
  exact ⟨⟨rfl, fun z => absurd z ne1, trivial⟩, hr, hi, b1, b2⟩
set_option maxHeartbeats 4000000 in
set_option maxRecDepth 100000 in
theorem p_logout (p0 : Int32) (hlt : l.stackTraces = false) (hr : rel2 0 c o s) (hi : inv s) (b1 : ba c.2.2) (b2 : ba o.2.2) : PS l D cI cB cL cZ cC h ou g q tm yL_logout wsL_logout ({ frames := 8, cells := 2, slots := 12, locals := 134 }) 2 12 yX5_logout wsX5_logout [.int p0] (fun _ => True) 0 (qz 0) (qo 0) qz qo c o s := by
  by_cases e0 : p0 = nI 0
  · rw [e0]; exact t_logout hlt (fun _ => ⟨rfl, rfl⟩) (fun z => absurd rfl z) hr hi b1 b2
  · by_cases e1 : p0 = nI 1
    · rw [e1]; exact (t_logout (sd := 1) hlt (fun z => absurd z ne1) (fun _ => ⟨rfl, rfl⟩) hr.flip hi b2 b1).flip
    · exact (b_logout hlt (fun z => z.elim e0 e1) ⟨rfl, rfl⟩ hr.flip hi b2 b1).flip
set_option maxHeartbeats 4000000 in
set_option maxRecDepth 100000 in
theorem t_crash (hlt : l.stackTraces = false) (hz : nI sd = 0 → zz = qa 0 ∧ oo = qb 0) (ho : ¬ nI sd = 0 → oo = qa 0 ∧ zz = qb 0) (hr : rel2 sd c o s) (hi : inv s) (b1 : ba c.2.2) (b2 : ba o.2.2) : PS l D cI cB cL cZ cC h ou g q tm yL_crash wsL_crash ({ frames := 8, cells := 1, slots := 6, locals := 133 }) 1 6 yX5_crash wsX5_crash [.int (nI sd)] (fun v => v = 0 ∨ v = 1) sd zz oo qa qb c o s := by
  obtain ⟨e, hr2, hi2⟩ := k_crash (p0 := nI sd) hr hi (p_side hr.hs)
  refine ⟨({ frames := 2, cells := 0, slots := 0, locals := 42 } : Room), (w1 (nI sd = 0 ∨ nI sd = 1) (b2i (c.1 0 = 2)) (c.1, c.2.1, c.2.2) (va_up (va_up c.1 0 0) 1 0, c.2.1, c.2.2)).1, 0, (w1 (nI sd = 0 ∨ nI sd = 1) (b2i (c.1 0 = 2)) (c.1, c.2.1, c.2.2) (va_up (va_up c.1 0 0) 1 0, c.2.1, c.2.2)).2.1, b2i (s.1 3 sd = 2), (w1 (nI sd = 0 ∨ nI sd = 1) (b2i (c.1 0 = 2)) (c.1, c.2.1, c.2.2) (va_up (va_up c.1 0 0) 1 0, c.2.1, c.2.2)).2.2, o, (rTurns sd s.1, s.2), ⟨rfl, rfl, Nat.le_of_ble_eq_true rfl, Nat.le_of_ble_eq_true rfl⟩, fun sz f => c_L_crash l D sz cI cB cL h zz oo tm (nI sd) qa c.1 c.2.1 c.2.2 qb o.1 o.2.1 o.2.2 ou f hlt hz ho, fun sz t1 => c_X5_crash_ok l D sz cI cZ cC g q (jj t1 tm) s.1 s.2 sd hr.hs (f_rw hi) (f_nb hi), ?_⟩
  rw [e]
  exact ⟨⟨rfl, fun _ => rfl, b2i_01⟩, hr2, hi2, b1, b2⟩
set_option maxHeartbeats 4000000 in
set_option maxRecDepth 100000 in
theorem b_crash {p0 : Int32} (hlt : l.stackTraces = false) (hb : ¬ (p0 = 0 ∨ p0 = 1)) (ho : oo = qa 0 ∧ zz = qb 0) (hr : rel2 1 c o s) (hi : inv s) (b1 : ba c.2.2) (b2 : ba o.2.2) : PS l D cI cB cL cZ cC h ou g q tm yL_crash wsL_crash ({ frames := 8, cells := 1, slots := 6, locals := 133 }) 1 6 yX5_crash wsX5_crash [.int p0] (fun v => v = 0 ∨ v = 1) 1 zz oo qa qb c o s := by
  have e : (w1 (p0 = 0 ∨ p0 = 1) (b2i (c.1 0 = 2)) (c.1, c.2.1, c.2.2) (va_up (va_up c.1 0 0) 1 0, c.2.1, c.2.2)) = _ := w1_1 hb
  refine ⟨({ frames := 2, cells := 0, slots := 0, locals := 42 } : Room), (w1 (p0 = 0 ∨ p0 = 1) (b2i (c.1 0 = 2)) (c.1, c.2.1, c.2.2) (va_up (va_up c.1 0 0) 1 0, c.2.1, c.2.2)).1, 1, (w1 (p0 = 0 ∨ p0 = 1) (b2i (c.1 0 = 2)) (c.1, c.2.1, c.2.2) (va_up (va_up c.1 0 0) 1 0, c.2.1, c.2.2)).2.1, 0, (w1 (p0 = 0 ∨ p0 = 1) (b2i (c.1 0 = 2)) (c.1, c.2.1, c.2.2) (va_up (va_up c.1 0 0) 1 0, c.2.1, c.2.2)).2.2, o, s, ⟨rfl, rfl, Nat.le_of_ble_eq_true rfl, Nat.le_of_ble_eq_true rfl⟩, fun sz f => c_L_crash l D sz cI cB cL h zz oo tm p0 qa c.1 c.2.1 c.2.2 qb o.1 o.2.1 o.2.2 ou f hlt (fun z => absurd (Or.inl z) hb) (fun _ => ho), fun sz t1 => CT.re (wr := wRw cI cZ cC q s) (c_X5_crash_bad l D sz cI cZ cC g q (jj t1 tm) p0 (bad01 hb)) [0] [1, 2, 3, 4, 5, 6, 7, 8, 9, 10, 11, 12, 13, 14, 15, 16, 17, 18, 19, 20] [20, 0, 1, 2, 3, 4, 5, 6, 7, 8, 9, 10, 11, 12, 13, 14, 15, 16, 17, 18, 19] rfl (by decide) rfl (by decide) (by decide) (by decide) rfl, ?_⟩
  rw [e]
  exact ⟨⟨rfl, fun z => absurd z ne1, Or.inl rfl⟩, hr, hi, b1, b2⟩
set_option maxHeartbeats 4000000 in
set_option maxRecDepth 100000 in
theorem p_crash (p0 : Int32) (hlt : l.stackTraces = false) (hr : rel2 0 c o s) (hi : inv s) (b1 : ba c.2.2) (b2 : ba o.2.2) : PS l D cI cB cL cZ cC h ou g q tm yL_crash wsL_crash ({ frames := 8, cells := 1, slots := 6, locals := 133 }) 1 6 yX5_crash wsX5_crash [.int p0] (fun v => v = 0 ∨ v = 1) 0 (qz 0) (qo 0) qz qo c o s := by
  by_cases e0 : p0 = nI 0
  · rw [e0]; exact t_crash hlt (fun _ => ⟨rfl, rfl⟩) (fun z => absurd rfl z) hr hi b1 b2
  · by_cases e1 : p0 = nI 1
    · rw [e1]; exact (t_crash (sd := 1) hlt (fun z => absurd z ne1) (fun _ => ⟨rfl, rfl⟩) hr.flip hi b2 b1).flip
    · exact (b_crash hlt (fun z => z.elim e0 e1) ⟨rfl, rfl⟩ hr.flip hi b2 b1).flip
set_option maxHeartbeats 4000000 in
set_option maxRecDepth 100000 in
theorem t_send {p1 : Int32} (hlt : l.stackTraces = false) (hz : nI sd = 0 → zz = qa 0 ∧ oo = qb 0) (ho : ¬ nI sd = 0 → oo = qa 0 ∧ zz = qb 0) (hr : rel2 sd c o s) (hi : inv s) (b1 : ba c.2.2) (b2 : ba o.2.2) : PS l D cI cB cL cZ cC h ou g q tm yL_send wsL_send ({ frames := 8, cells := 2, slots := 12, locals := 134 }) 2 12 yX5_send wsX5_send [.int (nI sd), .int p1] (fun _ => True) sd zz oo qa qb c o s := by
  obtain ⟨ha, hr2, hi2⟩ := k_send (tm := tm) (p0 := nI sd) (p1 := p1) hr hi (p_side hr.hs)
  have hb : ba (w3 (nI sd = 0 ∨ nI sd = 1) (¬ p1 < 0 ∧ p1 ≤ 999) (c.1 0 = 2 ∧ c.2.1 6 < 200) (cSend tm 5 p1.toNatClampNeg 0 c o).1 (c, o) (cSend tm 5 p1.toNatClampNeg 0 c o).2).2.2.1.2.2 ∧ ba (w3 (nI sd = 0 ∨ nI sd = 1) (¬ p1 < 0 ∧ p1 ≤ 999) (c.1 0 = 2 ∧ c.2.1 6 < 200) (cSend tm 5 p1.toNatClampNeg 0 c o).1 (c, o) (cSend tm 5 p1.toNatClampNeg 0 c o).2).2.2.2.2.2 := w3_p (P := fun x : CS × CS => ba x.1.2.2 ∧ ba x.2.2.2) ⟨b1, b2⟩ (fun _ hq _ => (cok_send (tm := tm) (kk := 5) (tt := p1.toNatClampNeg) (g := 0) (f_cok hr hi b1 b2) (by omega) (by obtain ⟨j, hj, ej⟩ := ix_le2 ⟨hq.1, Int32.not_lt.mpr hq.2⟩; rw [ej, nI_clamp (by omega)]; omega) (by omega)).2.2)
  exact ⟨({ frames := 2, cells := 0, slots := 0, locals := 52 } : Room), (w3 (nI sd = 0 ∨ nI sd = 1) (¬ p1 < 0 ∧ p1 ≤ 999) (c.1 0 = 2 ∧ c.2.1 6 < 200) (cSend tm 5 p1.toNatClampNeg 0 c o).1 (c, o) (cSend tm 5 p1.toNatClampNeg 0 c o).2).1, (rSendF tm sd p1 s).1, (w3 (nI sd = 0 ∨ nI sd = 1) (¬ p1 < 0 ∧ p1 ≤ 999) (c.1 0 = 2 ∧ c.2.1 6 < 200) (cSend tm 5 p1.toNatClampNeg 0 c o).1 (c, o) (cSend tm 5 p1.toNatClampNeg 0 c o).2).2.1, (rSendF tm sd p1 s).2.1, (w3 (nI sd = 0 ∨ nI sd = 1) (¬ p1 < 0 ∧ p1 ≤ 999) (c.1 0 = 2 ∧ c.2.1 6 < 200) (cSend tm 5 p1.toNatClampNeg 0 c o).1 (c, o) (cSend tm 5 p1.toNatClampNeg 0 c o).2).2.2.1, (w3 (nI sd = 0 ∨ nI sd = 1) (¬ p1 < 0 ∧ p1 ≤ 999) (c.1 0 = 2 ∧ c.2.1 6 < 200) (cSend tm 5 p1.toNatClampNeg 0 c o).1 (c, o) (cSend tm 5 p1.toNatClampNeg 0 c o).2).2.2.2, (rSendF tm sd p1 s).2.2, ⟨rfl, rfl, Nat.le_of_ble_eq_true rfl, Nat.le_of_ble_eq_true rfl⟩, fun sz f => c_L_send l D sz cI cB cL h zz oo tm (nI sd) p1 qa c.1 c.2.1 c.2.2 qb o.1 o.2.1 o.2.2 ou f hlt hz ho (f_bd hr hi) (f_bd hr.flip hi), fun sz t1 => c_X5_send_ok l D sz cI cZ cC g q (jj t1 tm) s.1 s.2 sd p1 hr.hs (f_rw hi) (f_nb hi), ⟨ha.1, ha.2, trivial⟩, hr2, hi2, hb.1, hb.2⟩
set_option maxHeartbeats 4000000 in
set_option maxRecDepth 100000 in
theorem b_send {p0 : Int32} {p1 : Int32} (hlt : l.stackTraces = false) (hb : ¬ (p0 = 0 ∨ p0 = 1)) (ho : oo = qa 0 ∧ zz = qb 0) (hr : rel2 1 c o s) (hi : inv s) (b1 : ba c.2.2) (b2 : ba o.2.2) : PS l D cI cB cL cZ cC h ou g q tm yL_send wsL_send ({ frames := 8, cells := 2, slots := 12, locals := 134 }) 2 12 yX5_send wsX5_send [.int p0, .int p1] (fun _ => True) 1 zz oo qa qb c o s := by
  have e : (w3 (p0 = 0 ∨ p0 = 1) (¬ p1 < 0 ∧ p1 ≤ 999) (c.1 0 = 2 ∧ c.2.1 6 < 200) (cSend tm 5 p1.toNatClampNeg 0 c o).1 (c, o) (cSend tm 5 p1.toNatClampNeg 0 c o).2) = _ := w3_1 hb
  refine ⟨({ frames := 2, cells := 0, slots := 0, locals := 42 } : Room), (w3 (p0 = 0 ∨ p0 = 1) (¬ p1 < 0 ∧ p1 ≤ 999) (c.1 0 = 2 ∧ c.2.1 6 < 200) (cSend tm 5 p1.toNatClampNeg 0 c o).1 (c, o) (cSend tm 5 p1.toNatClampNeg 0 c o).2).1, 1, (w3 (p0 = 0 ∨ p0 = 1) (¬ p1 < 0 ∧ p1 ≤ 999) (c.1 0 = 2 ∧ c.2.1 6 < 200) (cSend tm 5 p1.toNatClampNeg 0 c o).1 (c, o) (cSend tm 5 p1.toNatClampNeg 0 c o).2).2.1, 0, (w3 (p0 = 0 ∨ p0 = 1) (¬ p1 < 0 ∧ p1 ≤ 999) (c.1 0 = 2 ∧ c.2.1 6 < 200) (cSend tm 5 p1.toNatClampNeg 0 c o).1 (c, o) (cSend tm 5 p1.toNatClampNeg 0 c o).2).2.2.1, (w3 (p0 = 0 ∨ p0 = 1) (¬ p1 < 0 ∧ p1 ≤ 999) (c.1 0 = 2 ∧ c.2.1 6 < 200) (cSend tm 5 p1.toNatClampNeg 0 c o).1 (c, o) (cSend tm 5 p1.toNatClampNeg 0 c o).2).2.2.2, s, ⟨rfl, rfl, Nat.le_of_ble_eq_true rfl, Nat.le_of_ble_eq_true rfl⟩, fun sz f => c_L_send l D sz cI cB cL h zz oo tm p0 p1 qa c.1 c.2.1 c.2.2 qb o.1 o.2.1 o.2.2 ou f hlt (fun z => absurd (Or.inl z) hb) (fun _ => ho) (f_bd hr hi) (f_bd hr.flip hi), fun sz t1 => CT.re (wr := wRw cI cZ cC q s) (c_X5_send_bad l D sz cI cZ cC g q (jj t1 tm) p0 p1 (bad01 hb)) [0] [1, 2, 3, 4, 5, 6, 7, 8, 9, 10, 11, 12, 13, 14, 15, 16, 17, 18, 19, 20] [20, 0, 1, 2, 3, 4, 5, 6, 7, 8, 9, 10, 11, 12, 13, 14, 15, 16, 17, 18, 19] rfl (by decide) rfl (by decide) (by decide) (by decide) rfl, ?_⟩
  rw [e]
  exact ⟨⟨rfl, fun z => absurd z ne1, trivial⟩, hr, hi, b1, b2⟩
set_option maxHeartbeats 4000000 in
set_option maxRecDepth 100000 in
theorem p_send (p0 p1 : Int32) (hlt : l.stackTraces = false) (hr : rel2 0 c o s) (hi : inv s) (b1 : ba c.2.2) (b2 : ba o.2.2) : PS l D cI cB cL cZ cC h ou g q tm yL_send wsL_send ({ frames := 8, cells := 2, slots := 12, locals := 134 }) 2 12 yX5_send wsX5_send [.int p0, .int p1] (fun _ => True) 0 (qz 0) (qo 0) qz qo c o s := by
  by_cases e0 : p0 = nI 0
  · rw [e0]; exact t_send hlt (fun _ => ⟨rfl, rfl⟩) (fun z => absurd rfl z) hr hi b1 b2
  · by_cases e1 : p0 = nI 1
    · rw [e1]; exact (t_send (sd := 1) hlt (fun z => absurd z ne1) (fun _ => ⟨rfl, rfl⟩) hr.flip hi b2 b1).flip
    · exact (b_send hlt (fun z => z.elim e0 e1) ⟨rfl, rfl⟩ hr.flip hi b2 b1).flip
set_option maxHeartbeats 4000000 in
set_option maxRecDepth 100000 in
theorem t_again {p1 : Int32} (hlt : l.stackTraces = false) (hz : nI sd = 0 → zz = qa 0 ∧ oo = qb 0) (ho : ¬ nI sd = 0 → oo = qa 0 ∧ zz = qb 0) (hr : rel2 sd c o s) (hi : inv s) (b1 : ba c.2.2) (b2 : ba o.2.2) : PS l D cI cB cL cZ cC h ou g q tm yL_again wsL_again ({ frames := 8, cells := 2, slots := 12, locals := 136 }) 2 12 yX5_again wsX5_again [.int (nI sd), .int p1] (fun _ => True) sd zz oo qa qb c o s := by
  obtain ⟨ha, hr2, hi2⟩ := k_again (tm := tm) (p0 := nI sd) (p1 := p1) hr hi (p_side hr.hs)
  have hb : ba (w2 ((nI sd = 0 ∨ nI sd = 1) ∧ hasBI (c.2.1 6) (c.2.2 0) p1) (c.1 0 = 2 ∧ c.2.1 6 < 200) (cSend tm 5 (td (c.2.2 0 (p1.toNatClampNeg - 1))) 4194304 c o).1 (c, o) (cSend tm 5 (td (c.2.2 0 (p1.toNatClampNeg - 1))) 4194304 c o).2).2.2.1.2.2 ∧ ba (w2 ((nI sd = 0 ∨ nI sd = 1) ∧ hasBI (c.2.1 6) (c.2.2 0) p1) (c.1 0 = 2 ∧ c.2.1 6 < 200) (cSend tm 5 (td (c.2.2 0 (p1.toNatClampNeg - 1))) 4194304 c o).1 (c, o) (cSend tm 5 (td (c.2.2 0 (p1.toNatClampNeg - 1))) 4194304 c o).2).2.2.2.2.2 := w2_p (P := fun x : CS × CS => ba x.1.2.2 ∧ ba x.2.2.2) ⟨b1, b2⟩ (fun _ _ => (cok_send (tm := tm) (kk := 5) (tt := td (c.2.2 0 (p1.toNatClampNeg - 1))) (g := 2) (f_cok hr hi b1 b2) (by omega) (td_lt _) (by omega)).2.2)
  exact ⟨({ frames := 2, cells := 0, slots := 0, locals := 52 } : Room), (w2 ((nI sd = 0 ∨ nI sd = 1) ∧ hasBI (c.2.1 6) (c.2.2 0) p1) (c.1 0 = 2 ∧ c.2.1 6 < 200) (cSend tm 5 (td (c.2.2 0 (p1.toNatClampNeg - 1))) 4194304 c o).1 (c, o) (cSend tm 5 (td (c.2.2 0 (p1.toNatClampNeg - 1))) 4194304 c o).2).1, (rAgainF tm sd p1 s).1, (w2 ((nI sd = 0 ∨ nI sd = 1) ∧ hasBI (c.2.1 6) (c.2.2 0) p1) (c.1 0 = 2 ∧ c.2.1 6 < 200) (cSend tm 5 (td (c.2.2 0 (p1.toNatClampNeg - 1))) 4194304 c o).1 (c, o) (cSend tm 5 (td (c.2.2 0 (p1.toNatClampNeg - 1))) 4194304 c o).2).2.1, (rAgainF tm sd p1 s).2.1, (w2 ((nI sd = 0 ∨ nI sd = 1) ∧ hasBI (c.2.1 6) (c.2.2 0) p1) (c.1 0 = 2 ∧ c.2.1 6 < 200) (cSend tm 5 (td (c.2.2 0 (p1.toNatClampNeg - 1))) 4194304 c o).1 (c, o) (cSend tm 5 (td (c.2.2 0 (p1.toNatClampNeg - 1))) 4194304 c o).2).2.2.1, (w2 ((nI sd = 0 ∨ nI sd = 1) ∧ hasBI (c.2.1 6) (c.2.2 0) p1) (c.1 0 = 2 ∧ c.2.1 6 < 200) (cSend tm 5 (td (c.2.2 0 (p1.toNatClampNeg - 1))) 4194304 c o).1 (c, o) (cSend tm 5 (td (c.2.2 0 (p1.toNatClampNeg - 1))) 4194304 c o).2).2.2.2, (rAgainF tm sd p1 s).2.2, ⟨rfl, rfl, Nat.le_of_ble_eq_true rfl, Nat.le_of_ble_eq_true rfl⟩, fun sz f => c_L_again l D sz cI cB cL h zz oo tm (nI sd) p1 qa c.1 c.2.1 c.2.2 qb o.1 o.2.1 o.2.2 ou f hlt hz ho (f_bd hr hi) (f_bd hr.flip hi) b1, fun sz t1 => c_X5_again_ok l D sz cI cZ cC g q (jj t1 tm) s.1 s.2 sd p1 hr.hs (f_rw hi) (f_nb hi), ⟨ha.1, ha.2, trivial⟩, hr2, hi2, hb.1, hb.2⟩
set_option maxHeartbeats 4000000 in
set_option maxRecDepth 100000 in
theorem b_again {p0 : Int32} {p1 : Int32} (hlt : l.stackTraces = false) (hb : ¬ (p0 = 0 ∨ p0 = 1)) (ho : oo = qa 0 ∧ zz = qb 0) (hr : rel2 1 c o s) (hi : inv s) (b1 : ba c.2.2) (b2 : ba o.2.2) : PS l D cI cB cL cZ cC h ou g q tm yL_again wsL_again ({ frames := 8, cells := 2, slots := 12, locals := 136 }) 2 12 yX5_again wsX5_again [.int p0, .int p1] (fun _ => True) 1 zz oo qa qb c o s := by
  have e : (w2 ((p0 = 0 ∨ p0 = 1) ∧ hasBI (c.2.1 6) (c.2.2 0) p1) (c.1 0 = 2 ∧ c.2.1 6 < 200) (cSend tm 5 (td (c.2.2 0 (p1.toNatClampNeg - 1))) 4194304 c o).1 (c, o) (cSend tm 5 (td (c.2.2 0 (p1.toNatClampNeg - 1))) 4194304 c o).2) = _ := w2_1 (fun z => hb z.1)
  refine ⟨({ frames := 2, cells := 0, slots := 0, locals := 42 } : Room), (w2 ((p0 = 0 ∨ p0 = 1) ∧ hasBI (c.2.1 6) (c.2.2 0) p1) (c.1 0 = 2 ∧ c.2.1 6 < 200) (cSend tm 5 (td (c.2.2 0 (p1.toNatClampNeg - 1))) 4194304 c o).1 (c, o) (cSend tm 5 (td (c.2.2 0 (p1.toNatClampNeg - 1))) 4194304 c o).2).1, 1, (w2 ((p0 = 0 ∨ p0 = 1) ∧ hasBI (c.2.1 6) (c.2.2 0) p1) (c.1 0 = 2 ∧ c.2.1 6 < 200) (cSend tm 5 (td (c.2.2 0 (p1.toNatClampNeg - 1))) 4194304 c o).1 (c, o) (cSend tm 5 (td (c.2.2 0 (p1.toNatClampNeg - 1))) 4194304 c o).2).2.1, 0, (w2 ((p0 = 0 ∨ p0 = 1) ∧ hasBI (c.2.1 6) (c.2.2 0) p1) (c.1 0 = 2 ∧ c.2.1 6 < 200) (cSend tm 5 (td (c.2.2 0 (p1.toNatClampNeg - 1))) 4194304 c o).1 (c, o) (cSend tm 5 (td (c.2.2 0 (p1.toNatClampNeg - 1))) 4194304 c o).2).2.2.1, (w2 ((p0 = 0 ∨ p0 = 1) ∧ hasBI (c.2.1 6) (c.2.2 0) p1) (c.1 0 = 2 ∧ c.2.1 6 < 200) (cSend tm 5 (td (c.2.2 0 (p1.toNatClampNeg - 1))) 4194304 c o).1 (c, o) (cSend tm 5 (td (c.2.2 0 (p1.toNatClampNeg - 1))) 4194304 c o).2).2.2.2, s, ⟨rfl, rfl, Nat.le_of_ble_eq_true rfl, Nat.le_of_ble_eq_true rfl⟩, fun sz f => c_L_again l D sz cI cB cL h zz oo tm p0 p1 qa c.1 c.2.1 c.2.2 qb o.1 o.2.1 o.2.2 ou f hlt (fun z => absurd (Or.inl z) hb) (fun _ => ho) (f_bd hr hi) (f_bd hr.flip hi) b1, fun sz t1 => CT.re (wr := wRw cI cZ cC q s) (c_X5_again_bad l D sz cI cZ cC g q (jj t1 tm) p0 p1 (bad01 hb)) [0] [1, 2, 3, 4, 5, 6, 7, 8, 9, 10, 11, 12, 13, 14, 15, 16, 17, 18, 19, 20] [20, 0, 1, 2, 3, 4, 5, 6, 7, 8, 9, 10, 11, 12, 13, 14, 15, 16, 17, 18, 19] rfl (by decide) rfl (by decide) (by decide) (by decide) rfl, ?_⟩
  rw [e]
  exact ⟨⟨rfl, fun z => absurd z ne1, trivial⟩, hr, hi, b1, b2⟩
set_option maxHeartbeats 4000000 in
set_option maxRecDepth 100000 in
theorem p_again (p0 p1 : Int32) (hlt : l.stackTraces = false) (hr : rel2 0 c o s) (hi : inv s) (b1 : ba c.2.2) (b2 : ba o.2.2) : PS l D cI cB cL cZ cC h ou g q tm yL_again wsL_again ({ frames := 8, cells := 2, slots := 12, locals := 136 }) 2 12 yX5_again wsX5_again [.int p0, .int p1] (fun _ => True) 0 (qz 0) (qo 0) qz qo c o s := by
  by_cases e0 : p0 = nI 0
  · rw [e0]; exact t_again hlt (fun _ => ⟨rfl, rfl⟩) (fun z => absurd rfl z) hr hi b1 b2
  · by_cases e1 : p0 = nI 1
    · rw [e1]; exact (t_again (sd := 1) hlt (fun z => absurd z ne1) (fun _ => ⟨rfl, rfl⟩) hr.flip hi b2 b1).flip
    · exact (b_again hlt (fun z => z.elim e0 e1) ⟨rfl, rfl⟩ hr.flip hi b2 b1).flip
set_option maxHeartbeats 4000000 in
set_option maxRecDepth 100000 in
theorem t_deliver (hlt : l.stackTraces = false) (hz : nI sd = 0 → zz = qa 0 ∧ oo = qb 0) (ho : ¬ nI sd = 0 → oo = qa 0 ∧ zz = qb 0) (hr : rel2 sd c o s) (hi : inv s) (b1 : ba c.2.2) (b2 : ba o.2.2) : PS l D cI cB cL cZ cC h ou g q tm yL_deliver wsL_deliver ({ frames := 9, cells := 2, slots := 12, locals := 155 }) 2 12 yX5_deliver wsX5_deliver [.int (nI sd)] (fun _ => True) sd zz oo qa qb c o s := by
  obtain ⟨ha, hr2, hi2⟩ := k_deliver (tm := tm) (p0 := nI sd) hr hi (p_side hr.hs)
  have hb : ba (w2 (nI sd = 0 ∨ nI sd = 1) (¬ c.2.1 10 = 0) (nI (cDeliverF tm c o).1) (c, o) (cDeliverF tm c o).2).2.2.1.2.2 ∧ ba (w2 (nI sd = 0 ∨ nI sd = 1) (¬ c.2.1 10 = 0) (nI (cDeliverF tm c o).1) (c, o) (cDeliverF tm c o).2).2.2.2.2.2 := w2_p (P := fun x : CS × CS => ba x.1.2.2 ∧ ba x.2.2.2) ⟨b1, b2⟩ (fun _ _ => (fun hx : cok (cDeliverF tm c o).2.1 (cDeliverF tm c o).2.2 => hx.2.2) (cok_receive (tm := tm) (mm := c.2.2 2 0) (cok_taken (tm := tm) (f_cok hr hi b1 b2))))
  exact ⟨({ frames := 5, cells := 0, slots := 0, locals := 123 } : Room), (w2 (nI sd = 0 ∨ nI sd = 1) (¬ c.2.1 10 = 0) (nI (cDeliverF tm c o).1) (c, o) (cDeliverF tm c o).2).1, (rDeliverF tm sd s).1, (w2 (nI sd = 0 ∨ nI sd = 1) (¬ c.2.1 10 = 0) (nI (cDeliverF tm c o).1) (c, o) (cDeliverF tm c o).2).2.1, (rDeliverF tm sd s).2.1, (w2 (nI sd = 0 ∨ nI sd = 1) (¬ c.2.1 10 = 0) (nI (cDeliverF tm c o).1) (c, o) (cDeliverF tm c o).2).2.2.1, (w2 (nI sd = 0 ∨ nI sd = 1) (¬ c.2.1 10 = 0) (nI (cDeliverF tm c o).1) (c, o) (cDeliverF tm c o).2).2.2.2, (rDeliverF tm sd s).2.2, ⟨rfl, rfl, Nat.le_of_ble_eq_true rfl, Nat.le_of_ble_eq_true rfl⟩, fun sz f => c_L_deliver l D sz cI cB cL h zz oo tm (nI sd) qa c.1 c.2.1 c.2.2 qb o.1 o.2.1 o.2.2 ou f hlt hz ho (f_bd hr hi) (f_bd hr.flip hi) b1, fun sz t1 => c_X5_deliver_ok l D sz cI cZ cC g q (jj t1 tm) s.1 s.2 sd hr.hs (f_rw hi) (f_nb hi) (f_h hi hr.hs).1 (f_18 hr hi), ⟨ha.1, ha.2, trivial⟩, hr2, hi2, hb.1, hb.2⟩
set_option maxHeartbeats 4000000 in
set_option maxRecDepth 100000 in
theorem b_deliver {p0 : Int32} (hlt : l.stackTraces = false) (hb : ¬ (p0 = 0 ∨ p0 = 1)) (ho : oo = qa 0 ∧ zz = qb 0) (hr : rel2 1 c o s) (hi : inv s) (b1 : ba c.2.2) (b2 : ba o.2.2) : PS l D cI cB cL cZ cC h ou g q tm yL_deliver wsL_deliver ({ frames := 9, cells := 2, slots := 12, locals := 155 }) 2 12 yX5_deliver wsX5_deliver [.int p0] (fun _ => True) 1 zz oo qa qb c o s := by
  have e : (w2 (p0 = 0 ∨ p0 = 1) (¬ c.2.1 10 = 0) (nI (cDeliverF tm c o).1) (c, o) (cDeliverF tm c o).2) = _ := w2_1 hb
  refine ⟨({ frames := 2, cells := 0, slots := 0, locals := 42 } : Room), (w2 (p0 = 0 ∨ p0 = 1) (¬ c.2.1 10 = 0) (nI (cDeliverF tm c o).1) (c, o) (cDeliverF tm c o).2).1, 1, (w2 (p0 = 0 ∨ p0 = 1) (¬ c.2.1 10 = 0) (nI (cDeliverF tm c o).1) (c, o) (cDeliverF tm c o).2).2.1, 0, (w2 (p0 = 0 ∨ p0 = 1) (¬ c.2.1 10 = 0) (nI (cDeliverF tm c o).1) (c, o) (cDeliverF tm c o).2).2.2.1, (w2 (p0 = 0 ∨ p0 = 1) (¬ c.2.1 10 = 0) (nI (cDeliverF tm c o).1) (c, o) (cDeliverF tm c o).2).2.2.2, s, ⟨rfl, rfl, Nat.le_of_ble_eq_true rfl, Nat.le_of_ble_eq_true rfl⟩, fun sz f => c_L_deliver l D sz cI cB cL h zz oo tm p0 qa c.1 c.2.1 c.2.2 qb o.1 o.2.1 o.2.2 ou f hlt (fun z => absurd (Or.inl z) hb) (fun _ => ho) (f_bd hr hi) (f_bd hr.flip hi) b1, fun sz t1 => CT.re (wr := wRw cI cZ cC q s) (c_X5_deliver_bad l D sz cI cZ cC g q (jj t1 tm) p0 (bad01 hb)) [0] [1, 2, 3, 4, 5, 6, 7, 8, 9, 10, 11, 12, 13, 14, 15, 16, 17, 18, 19, 20] [20, 0, 1, 2, 3, 4, 5, 6, 7, 8, 9, 10, 11, 12, 13, 14, 15, 16, 17, 18, 19] rfl (by decide) rfl (by decide) (by decide) (by decide) rfl, ?_⟩
  rw [e]
  exact ⟨⟨rfl, fun z => absurd z ne1, trivial⟩, hr, hi, b1, b2⟩
set_option maxHeartbeats 4000000 in
set_option maxRecDepth 100000 in
theorem p_deliver (p0 : Int32) (hlt : l.stackTraces = false) (hr : rel2 0 c o s) (hi : inv s) (b1 : ba c.2.2) (b2 : ba o.2.2) : PS l D cI cB cL cZ cC h ou g q tm yL_deliver wsL_deliver ({ frames := 9, cells := 2, slots := 12, locals := 155 }) 2 12 yX5_deliver wsX5_deliver [.int p0] (fun _ => True) 0 (qz 0) (qo 0) qz qo c o s := by
  by_cases e0 : p0 = nI 0
  · rw [e0]; exact t_deliver hlt (fun _ => ⟨rfl, rfl⟩) (fun z => absurd rfl z) hr hi b1 b2
  · by_cases e1 : p0 = nI 1
    · rw [e1]; exact (t_deliver (sd := 1) hlt (fun z => absurd z ne1) (fun _ => ⟨rfl, rfl⟩) hr.flip hi b2 b1).flip
    · exact (b_deliver hlt (fun z => z.elim e0 e1) ⟨rfl, rfl⟩ hr.flip hi b2 b1).flip
set_option maxHeartbeats 4000000 in
set_option maxRecDepth 100000 in
theorem t_lose (hlt : l.stackTraces = false) (hz : nI sd = 0 → zz = qa 0 ∧ oo = qb 0) (ho : ¬ nI sd = 0 → oo = qa 0 ∧ zz = qb 0) (hr : rel2 sd c o s) (hi : inv s) (b1 : ba c.2.2) (b2 : ba o.2.2) : PS l D cI cB cL cZ cC h ou g q tm yL_lose wsL_lose ({ frames := 9, cells := 2, slots := 12, locals := 154 }) 2 12 yX5_lose wsX5_lose [.int (nI sd)] (fun _ => True) sd zz oo qa qb c o s := by
  obtain ⟨ha, hr2, hi2⟩ := k_lose (p0 := nI sd) hr hi (p_side hr.hs)
  have hb : ba (w2 (nI sd = 0 ∨ nI sd = 1) (¬ c.2.1 10 = 0) (nI (kd (c.2.2 2 0))) (c.1, c.2.1, c.2.2) (c.1, va_up c.2.1 10 (c.2.1 10 - 1), va_up c.2.2 2 (cShift (c.2.1 10) (c.2.2 2)))).2.2.2.2 := w2_p (P := fun x : CS => ba x.2.2) b1 (fun _ _ => ba_up b1 (sh_lt (b1 2)))
  exact ⟨({ frames := 2, cells := 0, slots := 0, locals := 42 } : Room), (w2 (nI sd = 0 ∨ nI sd = 1) (¬ c.2.1 10 = 0) (nI (kd (c.2.2 2 0))) (c.1, c.2.1, c.2.2) (c.1, va_up c.2.1 10 (c.2.1 10 - 1), va_up c.2.2 2 (cShift (c.2.1 10) (c.2.2 2)))).1, (rLoseF sd s).1, (w2 (nI sd = 0 ∨ nI sd = 1) (¬ c.2.1 10 = 0) (nI (kd (c.2.2 2 0))) (c.1, c.2.1, c.2.2) (c.1, va_up c.2.1 10 (c.2.1 10 - 1), va_up c.2.2 2 (cShift (c.2.1 10) (c.2.2 2)))).2.1, (rLoseF sd s).2.1, (w2 (nI sd = 0 ∨ nI sd = 1) (¬ c.2.1 10 = 0) (nI (kd (c.2.2 2 0))) (c.1, c.2.1, c.2.2) (c.1, va_up c.2.1 10 (c.2.1 10 - 1), va_up c.2.2 2 (cShift (c.2.1 10) (c.2.2 2)))).2.2, o, (rLoseF sd s).2.2, ⟨rfl, rfl, Nat.le_of_ble_eq_true rfl, Nat.le_of_ble_eq_true rfl⟩, fun sz f => c_L_lose l D sz cI cB cL h zz oo tm (nI sd) qa c.1 c.2.1 c.2.2 qb o.1 o.2.1 o.2.2 ou f hlt hz ho (f_bd hr hi) b1, fun sz t1 => c_X5_lose_ok l D sz cI cZ cC g q (jj t1 tm) s.1 s.2 sd hr.hs (f_rw hi) (f_nb hi), ⟨ha.1, ha.2, trivial⟩, hr2, hi2, hb, b2⟩
set_option maxHeartbeats 4000000 in
set_option maxRecDepth 100000 in
theorem b_lose {p0 : Int32} (hlt : l.stackTraces = false) (hb : ¬ (p0 = 0 ∨ p0 = 1)) (ho : oo = qa 0 ∧ zz = qb 0) (hr : rel2 1 c o s) (hi : inv s) (b1 : ba c.2.2) (b2 : ba o.2.2) : PS l D cI cB cL cZ cC h ou g q tm yL_lose wsL_lose ({ frames := 9, cells := 2, slots := 12, locals := 154 }) 2 12 yX5_lose wsX5_lose [.int p0] (fun _ => True) 1 zz oo qa qb c o s := by
  have e : (w2 (p0 = 0 ∨ p0 = 1) (¬ c.2.1 10 = 0) (nI (kd (c.2.2 2 0))) (c.1, c.2.1, c.2.2) (c.1, va_up c.2.1 10 (c.2.1 10 - 1), va_up c.2.2 2 (cShift (c.2.1 10) (c.2.2 2)))) = _ := w2_1 hb
  refine ⟨({ frames := 2, cells := 0, slots := 0, locals := 42 } : Room), (w2 (p0 = 0 ∨ p0 = 1) (¬ c.2.1 10 = 0) (nI (kd (c.2.2 2 0))) (c.1, c.2.1, c.2.2) (c.1, va_up c.2.1 10 (c.2.1 10 - 1), va_up c.2.2 2 (cShift (c.2.1 10) (c.2.2 2)))).1, 1, (w2 (p0 = 0 ∨ p0 = 1) (¬ c.2.1 10 = 0) (nI (kd (c.2.2 2 0))) (c.1, c.2.1, c.2.2) (c.1, va_up c.2.1 10 (c.2.1 10 - 1), va_up c.2.2 2 (cShift (c.2.1 10) (c.2.2 2)))).2.1, 0, (w2 (p0 = 0 ∨ p0 = 1) (¬ c.2.1 10 = 0) (nI (kd (c.2.2 2 0))) (c.1, c.2.1, c.2.2) (c.1, va_up c.2.1 10 (c.2.1 10 - 1), va_up c.2.2 2 (cShift (c.2.1 10) (c.2.2 2)))).2.2, o, s, ⟨rfl, rfl, Nat.le_of_ble_eq_true rfl, Nat.le_of_ble_eq_true rfl⟩, fun sz f => c_L_lose l D sz cI cB cL h zz oo tm p0 qa c.1 c.2.1 c.2.2 qb o.1 o.2.1 o.2.2 ou f hlt (fun z => absurd (Or.inl z) hb) (fun _ => ho) (f_bd hr hi) b1, fun sz t1 => CT.re (wr := wRw cI cZ cC q s) (c_X5_lose_bad l D sz cI cZ cC g q (jj t1 tm) p0 (bad01 hb)) [0] [1, 2, 3, 4, 5, 6, 7, 8, 9, 10, 11, 12, 13, 14, 15, 16, 17, 18, 19, 20] [20, 0, 1, 2, 3, 4, 5, 6, 7, 8, 9, 10, 11, 12, 13, 14, 15, 16, 17, 18, 19] rfl (by decide) rfl (by decide) (by decide) (by decide) rfl, ?_⟩
  rw [e]
  exact ⟨⟨rfl, fun z => absurd z ne1, trivial⟩, hr, hi, b1, b2⟩
set_option maxHeartbeats 4000000 in
set_option maxRecDepth 100000 in
theorem p_lose (p0 : Int32) (hlt : l.stackTraces = false) (hr : rel2 0 c o s) (hi : inv s) (b1 : ba c.2.2) (b2 : ba o.2.2) : PS l D cI cB cL cZ cC h ou g q tm yL_lose wsL_lose ({ frames := 9, cells := 2, slots := 12, locals := 154 }) 2 12 yX5_lose wsX5_lose [.int p0] (fun _ => True) 0 (qz 0) (qo 0) qz qo c o s := by
  by_cases e0 : p0 = nI 0
  · rw [e0]; exact t_lose hlt (fun _ => ⟨rfl, rfl⟩) (fun z => absurd rfl z) hr hi b1 b2
  · by_cases e1 : p0 = nI 1
    · rw [e1]; exact (t_lose (sd := 1) hlt (fun z => absurd z ne1) (fun _ => ⟨rfl, rfl⟩) hr.flip hi b2 b1).flip
    · exact (b_lose hlt (fun z => z.elim e0 e1) ⟨rfl, rfl⟩ hr.flip hi b2 b1).flip
set_option maxHeartbeats 4000000 in
set_option maxRecDepth 100000 in
theorem t_stateOf (hlt : l.stackTraces = false) (hz : nI sd = 0 → zz = qa 0 ∧ oo = qb 0) (ho : ¬ nI sd = 0 → oo = qa 0 ∧ zz = qb 0) (hr : rel2 sd c o s) (hi : inv s) (b1 : ba c.2.2) (b2 : ba o.2.2) : PS l D cI cB cL cZ cC h ou g q tm yL_stateOf wsL_stateOf ({ frames := 8, cells := 1, slots := 6, locals := 132 }) 1 6 yX5_stateOf wsX5_stateOf [.int (nI sd)] (fun _ => True) sd zz oo qa qb c o s := by
  have e : (w1 (nI sd = 0 ∨ nI sd = 1) (c.1 0) () ()) = _ := w1_0 (p_side hr.hs)
  refine ⟨({ frames := 3, cells := 0, slots := 0, locals := 64 } : Room), (w1 (nI sd = 0 ∨ nI sd = 1) (c.1 0) () ()).1, 0, (w1 (nI sd = 0 ∨ nI sd = 1) (c.1 0) () ()).2.1, s.1 3 sd, c, o, s, ⟨rfl, rfl, Nat.le_of_ble_eq_true rfl, Nat.le_of_ble_eq_true rfl⟩, fun sz f => c_L_stateOf l D sz cI cB cL h zz oo tm (nI sd) qa c.1 c.2.1 c.2.2 qb o.1 o.2.1 o.2.2 ou f hlt hz ho, fun sz t1 => c_X5_stateOf_ok l D sz cI cZ cC g q (jj t1 tm) s.1 s.2 sd hr.hs, ?_⟩
  rw [e]
  exact ⟨⟨rfl, fun _ => hr.a.e0, trivial⟩, hr, hi, b1, b2⟩
set_option maxHeartbeats 4000000 in
set_option maxRecDepth 100000 in
theorem b_stateOf {p0 : Int32} (hlt : l.stackTraces = false) (hb : ¬ (p0 = 0 ∨ p0 = 1)) (ho : oo = qa 0 ∧ zz = qb 0) (hr : rel2 1 c o s) (hi : inv s) (b1 : ba c.2.2) (b2 : ba o.2.2) : PS l D cI cB cL cZ cC h ou g q tm yL_stateOf wsL_stateOf ({ frames := 8, cells := 1, slots := 6, locals := 132 }) 1 6 yX5_stateOf wsX5_stateOf [.int p0] (fun _ => True) 1 zz oo qa qb c o s := by
  have e : (w1 (p0 = 0 ∨ p0 = 1) (c.1 0) () ()) = _ := w1_1 hb
  refine ⟨({ frames := 3, cells := 0, slots := 0, locals := 64 } : Room), (w1 (p0 = 0 ∨ p0 = 1) (c.1 0) () ()).1, 1, (w1 (p0 = 0 ∨ p0 = 1) (c.1 0) () ()).2.1, 0, c, o, s, ⟨rfl, rfl, Nat.le_of_ble_eq_true rfl, Nat.le_of_ble_eq_true rfl⟩, fun sz f => c_L_stateOf l D sz cI cB cL h zz oo tm p0 qa c.1 c.2.1 c.2.2 qb o.1 o.2.1 o.2.2 ou f hlt (fun z => absurd (Or.inl z) hb) (fun _ => ho), fun sz t1 => CT.re (wr := wRw cI cZ cC q s) (c_X5_stateOf_bad l D sz cI cZ cC g q (jj t1 tm) p0 (bad01 hb)) [0] [1, 2, 3, 4, 5, 6, 7, 8, 9, 10, 11, 12, 13, 14, 15, 16, 17, 18, 19, 20] [20, 0, 1, 2, 3, 4, 5, 6, 7, 8, 9, 10, 11, 12, 13, 14, 15, 16, 17, 18, 19] rfl (by decide) rfl (by decide) (by decide) (by decide) rfl, ?_⟩
  rw [e]
  exact ⟨⟨rfl, fun z => absurd z ne1, trivial⟩, hr, hi, b1, b2⟩
set_option maxHeartbeats 4000000 in
set_option maxRecDepth 100000 in
theorem p_stateOf (p0 : Int32) (hlt : l.stackTraces = false) (hr : rel2 0 c o s) (hi : inv s) (b1 : ba c.2.2) (b2 : ba o.2.2) : PS l D cI cB cL cZ cC h ou g q tm yL_stateOf wsL_stateOf ({ frames := 8, cells := 1, slots := 6, locals := 132 }) 1 6 yX5_stateOf wsX5_stateOf [.int p0] (fun _ => True) 0 (qz 0) (qo 0) qz qo c o s := by
  by_cases e0 : p0 = nI 0
  · rw [e0]; exact t_stateOf hlt (fun _ => ⟨rfl, rfl⟩) (fun z => absurd rfl z) hr hi b1 b2
  · by_cases e1 : p0 = nI 1
    · rw [e1]; exact (t_stateOf (sd := 1) hlt (fun z => absurd z ne1) (fun _ => ⟨rfl, rfl⟩) hr.flip hi b2 b1).flip
    · exact (b_stateOf hlt (fun z => z.elim e0 e1) ⟨rfl, rfl⟩ hr.flip hi b2 b1).flip
set_option maxHeartbeats 4000000 in
set_option maxRecDepth 100000 in
theorem t_next (hlt : l.stackTraces = false) (hz : nI sd = 0 → zz = qa 0 ∧ oo = qb 0) (ho : ¬ nI sd = 0 → oo = qa 0 ∧ zz = qb 0) (hr : rel2 sd c o s) (hi : inv s) (b1 : ba c.2.2) (b2 : ba o.2.2) : PS l D cI cB cL cZ cC h ou g q tm yL_next wsL_next ({ frames := 8, cells := 1, slots := 6, locals := 132 }) 1 6 yX5_next wsX5_next [.int (nI sd)] (fun _ => True) sd zz oo qa qb c o s := by
  have e : (w1 (nI sd = 0 ∨ nI sd = 1) (nI (c.2.1 6 + 1)) () ()) = _ := w1_0 (p_side hr.hs)
  refine ⟨({ frames := 3, cells := 0, slots := 0, locals := 64 } : Room), (w1 (nI sd = 0 ∨ nI sd = 1) (nI (c.2.1 6 + 1)) () ()).1, 0, (w1 (nI sd = 0 ∨ nI sd = 1) (nI (c.2.1 6 + 1)) () ()).2.1, nI (s.2 4 sd), c, o, s, ⟨rfl, rfl, Nat.le_of_ble_eq_true rfl, Nat.le_of_ble_eq_true rfl⟩, fun sz f => c_L_next l D sz cI cB cL h zz oo tm (nI sd) qa c.1 c.2.1 c.2.2 qb o.1 o.2.1 o.2.2 ou f hlt hz ho, fun sz t1 => c_X5_next_ok l D sz cI cZ cC g q (jj t1 tm) s.1 s.2 sd hr.hs, ?_⟩
  rw [e]
  exact ⟨⟨rfl, fun _ => congrArg nI hr.a.m6, trivial⟩, hr, hi, b1, b2⟩
set_option maxHeartbeats 4000000 in
set_option maxRecDepth 100000 in
theorem b_next {p0 : Int32} (hlt : l.stackTraces = false) (hb : ¬ (p0 = 0 ∨ p0 = 1)) (ho : oo = qa 0 ∧ zz = qb 0) (hr : rel2 1 c o s) (hi : inv s) (b1 : ba c.2.2) (b2 : ba o.2.2) : PS l D cI cB cL cZ cC h ou g q tm yL_next wsL_next ({ frames := 8, cells := 1, slots := 6, locals := 132 }) 1 6 yX5_next wsX5_next [.int p0] (fun _ => True) 1 zz oo qa qb c o s := by
  have e : (w1 (p0 = 0 ∨ p0 = 1) (nI (c.2.1 6 + 1)) () ()) = _ := w1_1 hb
  refine ⟨({ frames := 3, cells := 0, slots := 0, locals := 64 } : Room), (w1 (p0 = 0 ∨ p0 = 1) (nI (c.2.1 6 + 1)) () ()).1, 1, (w1 (p0 = 0 ∨ p0 = 1) (nI (c.2.1 6 + 1)) () ()).2.1, 0, c, o, s, ⟨rfl, rfl, Nat.le_of_ble_eq_true rfl, Nat.le_of_ble_eq_true rfl⟩, fun sz f => c_L_next l D sz cI cB cL h zz oo tm p0 qa c.1 c.2.1 c.2.2 qb o.1 o.2.1 o.2.2 ou f hlt (fun z => absurd (Or.inl z) hb) (fun _ => ho), fun sz t1 => CT.re (wr := wRw cI cZ cC q s) (c_X5_next_bad l D sz cI cZ cC g q (jj t1 tm) p0 (bad01 hb)) [0] [1, 2, 3, 4, 5, 6, 7, 8, 9, 10, 11, 12, 13, 14, 15, 16, 17, 18, 19, 20] [20, 0, 1, 2, 3, 4, 5, 6, 7, 8, 9, 10, 11, 12, 13, 14, 15, 16, 17, 18, 19] rfl (by decide) rfl (by decide) (by decide) (by decide) rfl, ?_⟩
  rw [e]
  exact ⟨⟨rfl, fun z => absurd z ne1, trivial⟩, hr, hi, b1, b2⟩
set_option maxHeartbeats 4000000 in
set_option maxRecDepth 100000 in
theorem p_next (p0 : Int32) (hlt : l.stackTraces = false) (hr : rel2 0 c o s) (hi : inv s) (b1 : ba c.2.2) (b2 : ba o.2.2) : PS l D cI cB cL cZ cC h ou g q tm yL_next wsL_next ({ frames := 8, cells := 1, slots := 6, locals := 132 }) 1 6 yX5_next wsX5_next [.int p0] (fun _ => True) 0 (qz 0) (qo 0) qz qo c o s := by
  by_cases e0 : p0 = nI 0
  · rw [e0]; exact t_next hlt (fun _ => ⟨rfl, rfl⟩) (fun z => absurd rfl z) hr hi b1 b2
  · by_cases e1 : p0 = nI 1
    · rw [e1]; exact (t_next (sd := 1) hlt (fun z => absurd z ne1) (fun _ => ⟨rfl, rfl⟩) hr.flip hi b2 b1).flip
    · exact (b_next hlt (fun z => z.elim e0 e1) ⟨rfl, rfl⟩ hr.flip hi b2 b1).flip
set_option maxHeartbeats 4000000 in
set_option maxRecDepth 100000 in
theorem t_expected (hlt : l.stackTraces = false) (hz : nI sd = 0 → zz = qa 0 ∧ oo = qb 0) (ho : ¬ nI sd = 0 → oo = qa 0 ∧ zz = qb 0) (hr : rel2 sd c o s) (hi : inv s) (b1 : ba c.2.2) (b2 : ba o.2.2) : PS l D cI cB cL cZ cC h ou g q tm yL_expected wsL_expected ({ frames := 8, cells := 1, slots := 6, locals := 132 }) 1 6 yX5_expected wsX5_expected [.int (nI sd)] (fun _ => True) sd zz oo qa qb c o s := by
  have e : (w1 (nI sd = 0 ∨ nI sd = 1) (nI (c.2.1 7)) () ()) = _ := w1_0 (p_side hr.hs)
  refine ⟨({ frames := 3, cells := 0, slots := 0, locals := 64 } : Room), (w1 (nI sd = 0 ∨ nI sd = 1) (nI (c.2.1 7)) () ()).1, 0, (w1 (nI sd = 0 ∨ nI sd = 1) (nI (c.2.1 7)) () ()).2.1, nI (s.2 5 sd), c, o, s, ⟨rfl, rfl, Nat.le_of_ble_eq_true rfl, Nat.le_of_ble_eq_true rfl⟩, fun sz f => c_L_expected l D sz cI cB cL h zz oo tm (nI sd) qa c.1 c.2.1 c.2.2 qb o.1 o.2.1 o.2.2 ou f hlt hz ho, fun sz t1 => c_X5_expected_ok l D sz cI cZ cC g q (jj t1 tm) s.1 s.2 sd hr.hs, ?_⟩
  rw [e]
  exact ⟨⟨rfl, fun _ => congrArg nI hr.a.m7, trivial⟩, hr, hi, b1, b2⟩
set_option maxHeartbeats 4000000 in
set_option maxRecDepth 100000 in
theorem b_expected {p0 : Int32} (hlt : l.stackTraces = false) (hb : ¬ (p0 = 0 ∨ p0 = 1)) (ho : oo = qa 0 ∧ zz = qb 0) (hr : rel2 1 c o s) (hi : inv s) (b1 : ba c.2.2) (b2 : ba o.2.2) : PS l D cI cB cL cZ cC h ou g q tm yL_expected wsL_expected ({ frames := 8, cells := 1, slots := 6, locals := 132 }) 1 6 yX5_expected wsX5_expected [.int p0] (fun _ => True) 1 zz oo qa qb c o s := by
  have e : (w1 (p0 = 0 ∨ p0 = 1) (nI (c.2.1 7)) () ()) = _ := w1_1 hb
  refine ⟨({ frames := 3, cells := 0, slots := 0, locals := 64 } : Room), (w1 (p0 = 0 ∨ p0 = 1) (nI (c.2.1 7)) () ()).1, 1, (w1 (p0 = 0 ∨ p0 = 1) (nI (c.2.1 7)) () ()).2.1, 0, c, o, s, ⟨rfl, rfl, Nat.le_of_ble_eq_true rfl, Nat.le_of_ble_eq_true rfl⟩, fun sz f => c_L_expected l D sz cI cB cL h zz oo tm p0 qa c.1 c.2.1 c.2.2 qb o.1 o.2.1 o.2.2 ou f hlt (fun z => absurd (Or.inl z) hb) (fun _ => ho), fun sz t1 => CT.re (wr := wRw cI cZ cC q s) (c_X5_expected_bad l D sz cI cZ cC g q (jj t1 tm) p0 (bad01 hb)) [0] [1, 2, 3, 4, 5, 6, 7, 8, 9, 10, 11, 12, 13, 14, 15, 16, 17, 18, 19, 20] [20, 0, 1, 2, 3, 4, 5, 6, 7, 8, 9, 10, 11, 12, 13, 14, 15, 16, 17, 18, 19] rfl (by decide) rfl (by decide) (by decide) (by decide) rfl, ?_⟩
  rw [e]
  exact ⟨⟨rfl, fun z => absurd z ne1, trivial⟩, hr, hi, b1, b2⟩
set_option maxHeartbeats 4000000 in
set_option maxRecDepth 100000 in
theorem p_expected (p0 : Int32) (hlt : l.stackTraces = false) (hr : rel2 0 c o s) (hi : inv s) (b1 : ba c.2.2) (b2 : ba o.2.2) : PS l D cI cB cL cZ cC h ou g q tm yL_expected wsL_expected ({ frames := 8, cells := 1, slots := 6, locals := 132 }) 1 6 yX5_expected wsX5_expected [.int p0] (fun _ => True) 0 (qz 0) (qo 0) qz qo c o s := by
  by_cases e0 : p0 = nI 0
  · rw [e0]; exact t_expected hlt (fun _ => ⟨rfl, rfl⟩) (fun z => absurd rfl z) hr hi b1 b2
  · by_cases e1 : p0 = nI 1
    · rw [e1]; exact (t_expected (sd := 1) hlt (fun z => absurd z ne1) (fun _ => ⟨rfl, rfl⟩) hr.flip hi b2 b1).flip
    · exact (b_expected hlt (fun z => z.elim e0 e1) ⟨rfl, rfl⟩ hr.flip hi b2 b1).flip
set_option maxHeartbeats 4000000 in
set_option maxRecDepth 100000 in
theorem t_isAsking (hlt : l.stackTraces = false) (hz : nI sd = 0 → zz = qa 0 ∧ oo = qb 0) (ho : ¬ nI sd = 0 → oo = qa 0 ∧ zz = qb 0) (hr : rel2 sd c o s) (hi : inv s) (b1 : ba c.2.2) (b2 : ba o.2.2) : PS l D cI cB cL cZ cC h ou g q tm yL_isAsking wsL_isAsking ({ frames := 8, cells := 1, slots := 6, locals := 132 }) 1 6 yX5_isAsking wsX5_isAsking [.int (nI sd)] (fun v => v = 0 ∨ v = 1) sd zz oo qa qb c o s := by
  have e : (w1 (nI sd = 0 ∨ nI sd = 1) (c.1 1) () ()) = _ := w1_0 (p_side hr.hs)
  refine ⟨({ frames := 2, cells := 0, slots := 0, locals := 42 } : Room), (w1 (nI sd = 0 ∨ nI sd = 1) (c.1 1) () ()).1, 0, (w1 (nI sd = 0 ∨ nI sd = 1) (c.1 1) () ()).2.1, b2i (¬ s.1 12 sd = 0), c, o, s, ⟨rfl, rfl, Nat.le_of_ble_eq_true rfl, Nat.le_of_ble_eq_true rfl⟩, fun sz f => c_L_isAsking l D sz cI cB cL h zz oo tm (nI sd) qa c.1 c.2.1 c.2.2 qb o.1 o.2.1 o.2.2 ou f hlt hz ho (f_01 hr hi), fun sz t1 => c_X5_isAsking_ok l D sz cI cZ cC g q (jj t1 tm) s.1 s.2 sd hr.hs (f_rw hi) (f_nb hi), ?_⟩
  rw [e]
  exact ⟨⟨rfl, fun _ => asks_eq hr hi, b2i_01⟩, hr, hi, b1, b2⟩
set_option maxHeartbeats 4000000 in
set_option maxRecDepth 100000 in
theorem b_isAsking {p0 : Int32} (hlt : l.stackTraces = false) (hb : ¬ (p0 = 0 ∨ p0 = 1)) (ho : oo = qa 0 ∧ zz = qb 0) (hr : rel2 1 c o s) (hi : inv s) (b1 : ba c.2.2) (b2 : ba o.2.2) : PS l D cI cB cL cZ cC h ou g q tm yL_isAsking wsL_isAsking ({ frames := 8, cells := 1, slots := 6, locals := 132 }) 1 6 yX5_isAsking wsX5_isAsking [.int p0] (fun v => v = 0 ∨ v = 1) 1 zz oo qa qb c o s := by
  have e : (w1 (p0 = 0 ∨ p0 = 1) (c.1 1) () ()) = _ := w1_1 hb
  refine ⟨({ frames := 2, cells := 0, slots := 0, locals := 42 } : Room), (w1 (p0 = 0 ∨ p0 = 1) (c.1 1) () ()).1, 1, (w1 (p0 = 0 ∨ p0 = 1) (c.1 1) () ()).2.1, 0, c, o, s, ⟨rfl, rfl, Nat.le_of_ble_eq_true rfl, Nat.le_of_ble_eq_true rfl⟩, fun sz f => c_L_isAsking l D sz cI cB cL h zz oo tm p0 qa c.1 c.2.1 c.2.2 qb o.1 o.2.1 o.2.2 ou f hlt (fun z => absurd (Or.inl z) hb) (fun _ => ho) (f_01 hr hi), fun sz t1 => CT.re (wr := wRw cI cZ cC q s) (c_X5_isAsking_bad l D sz cI cZ cC g q (jj t1 tm) p0 (bad01 hb)) [0] [1, 2, 3, 4, 5, 6, 7, 8, 9, 10, 11, 12, 13, 14, 15, 16, 17, 18, 19, 20] [20, 0, 1, 2, 3, 4, 5, 6, 7, 8, 9, 10, 11, 12, 13, 14, 15, 16, 17, 18, 19] rfl (by decide) rfl (by decide) (by decide) (by decide) rfl, ?_⟩
  rw [e]
  exact ⟨⟨rfl, fun z => absurd z ne1, Or.inl rfl⟩, hr, hi, b1, b2⟩
set_option maxHeartbeats 4000000 in
set_option maxRecDepth 100000 in
theorem p_isAsking (p0 : Int32) (hlt : l.stackTraces = false) (hr : rel2 0 c o s) (hi : inv s) (b1 : ba c.2.2) (b2 : ba o.2.2) : PS l D cI cB cL cZ cC h ou g q tm yL_isAsking wsL_isAsking ({ frames := 8, cells := 1, slots := 6, locals := 132 }) 1 6 yX5_isAsking wsX5_isAsking [.int p0] (fun v => v = 0 ∨ v = 1) 0 (qz 0) (qo 0) qz qo c o s := by
  by_cases e0 : p0 = nI 0
  · rw [e0]; exact t_isAsking hlt (fun _ => ⟨rfl, rfl⟩) (fun z => absurd rfl z) hr hi b1 b2
  · by_cases e1 : p0 = nI 1
    · rw [e1]; exact (t_isAsking (sd := 1) hlt (fun z => absurd z ne1) (fun _ => ⟨rfl, rfl⟩) hr.flip hi b2 b1).flip
    · exact (b_isAsking hlt (fun z => z.elim e0 e1) ⟨rfl, rfl⟩ hr.flip hi b2 b1).flip
set_option maxHeartbeats 4000000 in
set_option maxRecDepth 100000 in
theorem t_wire (hlt : l.stackTraces = false) (hz : nI sd = 0 → zz = qa 0 ∧ oo = qb 0) (ho : ¬ nI sd = 0 → oo = qa 0 ∧ zz = qb 0) (hr : rel2 sd c o s) (hi : inv s) (b1 : ba c.2.2) (b2 : ba o.2.2) : PS l D cI cB cL cZ cC h ou g q tm yL_wire wsL_wire ({ frames := 8, cells := 1, slots := 6, locals := 132 }) 1 6 yX5_wire wsX5_wire [.int (nI sd)] (fun _ => True) sd zz oo qa qb c o s := by
  have e : (w1 (nI sd = 0 ∨ nI sd = 1) (nI (c.2.1 10)) () ()) = _ := w1_0 (p_side hr.hs)
  refine ⟨({ frames := 3, cells := 0, slots := 0, locals := 64 } : Room), (w1 (nI sd = 0 ∨ nI sd = 1) (nI (c.2.1 10)) () ()).1, 0, (w1 (nI sd = 0 ∨ nI sd = 1) (nI (c.2.1 10)) () ()).2.1, nI (s.2 17 sd), c, o, s, ⟨rfl, rfl, Nat.le_of_ble_eq_true rfl, Nat.le_of_ble_eq_true rfl⟩, fun sz f => c_L_wire l D sz cI cB cL h zz oo tm (nI sd) qa c.1 c.2.1 c.2.2 qb o.1 o.2.1 o.2.2 ou f hlt hz ho, fun sz t1 => c_X5_wire_ok l D sz cI cZ cC g q (jj t1 tm) s.1 s.2 sd hr.hs, ?_⟩
  rw [e]
  exact ⟨⟨rfl, fun _ => congrArg nI hr.a.m10, trivial⟩, hr, hi, b1, b2⟩
set_option maxHeartbeats 4000000 in
set_option maxRecDepth 100000 in
theorem b_wire {p0 : Int32} (hlt : l.stackTraces = false) (hb : ¬ (p0 = 0 ∨ p0 = 1)) (ho : oo = qa 0 ∧ zz = qb 0) (hr : rel2 1 c o s) (hi : inv s) (b1 : ba c.2.2) (b2 : ba o.2.2) : PS l D cI cB cL cZ cC h ou g q tm yL_wire wsL_wire ({ frames := 8, cells := 1, slots := 6, locals := 132 }) 1 6 yX5_wire wsX5_wire [.int p0] (fun _ => True) 1 zz oo qa qb c o s := by
  have e : (w1 (p0 = 0 ∨ p0 = 1) (nI (c.2.1 10)) () ()) = _ := w1_1 hb
  refine ⟨({ frames := 3, cells := 0, slots := 0, locals := 64 } : Room), (w1 (p0 = 0 ∨ p0 = 1) (nI (c.2.1 10)) () ()).1, 1, (w1 (p0 = 0 ∨ p0 = 1) (nI (c.2.1 10)) () ()).2.1, 0, c, o, s, ⟨rfl, rfl, Nat.le_of_ble_eq_true rfl, Nat.le_of_ble_eq_true rfl⟩, fun sz f => c_L_wire l D sz cI cB cL h zz oo tm p0 qa c.1 c.2.1 c.2.2 qb o.1 o.2.1 o.2.2 ou f hlt (fun z => absurd (Or.inl z) hb) (fun _ => ho), fun sz t1 => CT.re (wr := wRw cI cZ cC q s) (c_X5_wire_bad l D sz cI cZ cC g q (jj t1 tm) p0 (bad01 hb)) [0] [1, 2, 3, 4, 5, 6, 7, 8, 9, 10, 11, 12, 13, 14, 15, 16, 17, 18, 19, 20] [20, 0, 1, 2, 3, 4, 5, 6, 7, 8, 9, 10, 11, 12, 13, 14, 15, 16, 17, 18, 19] rfl (by decide) rfl (by decide) (by decide) (by decide) rfl, ?_⟩
  rw [e]
  exact ⟨⟨rfl, fun z => absurd z ne1, trivial⟩, hr, hi, b1, b2⟩
set_option maxHeartbeats 4000000 in
set_option maxRecDepth 100000 in
theorem p_wire (p0 : Int32) (hlt : l.stackTraces = false) (hr : rel2 0 c o s) (hi : inv s) (b1 : ba c.2.2) (b2 : ba o.2.2) : PS l D cI cB cL cZ cC h ou g q tm yL_wire wsL_wire ({ frames := 8, cells := 1, slots := 6, locals := 132 }) 1 6 yX5_wire wsX5_wire [.int p0] (fun _ => True) 0 (qz 0) (qo 0) qz qo c o s := by
  by_cases e0 : p0 = nI 0
  · rw [e0]; exact t_wire hlt (fun _ => ⟨rfl, rfl⟩) (fun z => absurd rfl z) hr hi b1 b2
  · by_cases e1 : p0 = nI 1
    · rw [e1]; exact (t_wire (sd := 1) hlt (fun z => absurd z ne1) (fun _ => ⟨rfl, rfl⟩) hr.flip hi b2 b1).flip
    · exact (b_wire hlt (fun z => z.elim e0 e1) ⟨rfl, rfl⟩ hr.flip hi b2 b1).flip
set_option maxHeartbeats 4000000 in
set_option maxRecDepth 100000 in
theorem t_numberAt {p1 : Int32} (hlt : l.stackTraces = false) (hz : nI sd = 0 → zz = qa 0 ∧ oo = qb 0) (ho : ¬ nI sd = 0 → oo = qa 0 ∧ zz = qb 0) (hr : rel2 sd c o s) (hi : inv s) (b1 : ba c.2.2) (b2 : ba o.2.2) : PS l D cI cB cL cZ cC h ou g q tm yL_numberAt wsL_numberAt ({ frames := 9, cells := 2, slots := 12, locals := 156 }) 2 12 yX5_numberAt wsX5_numberAt [.int (nI sd), .int p1] (fun _ => True) sd zz oo qa qb c o s := by
  have h9 := hr.ca
  have m9 : c.2.1 10 = s.2 17 sd := hr.a.m10
  have key : (w1 ((nI sd = 0 ∨ nI sd = 1) ∧ ¬ p1 < 0 ∧ p1 < nI (c.2.1 10)) (nI (nu (c.2.2 2 p1.toNatClampNeg))) () ()).1 = (rNumF sd p1 s.2).1 ∧ ((w1 ((nI sd = 0 ∨ nI sd = 1) ∧ ¬ p1 < 0 ∧ p1 < nI (c.2.1 10)) (nI (nu (c.2.2 2 p1.toNatClampNeg))) () ()).1 = 0 → (w1 ((nI sd = 0 ∨ nI sd = 1) ∧ ¬ p1 < 0 ∧ p1 < nI (c.2.1 10)) (nI (nu (c.2.2 2 p1.toNatClampNeg))) () ()).2.1 = (rNumF sd p1 s.2).2) := by
    by_cases q9 : ¬ p1 < 0 ∧ p1 < nI (c.2.1 10)
    · have q8 : onW (s.2 17 sd) p1 := (onW_iff (by omega)).mpr (by rw [← m9]; exact q9)
      obtain ⟨j, hj, ej⟩ := onW_of (by omega) q8
      have ec : p1.toNatClampNeg = j := by rw [ej]; exact nI_clamp (by omega)
      obtain ⟨em, hq⟩ := f_msg hr hi (j := j) (by omega)
      have e : (w1 ((nI sd = 0 ∨ nI sd = 1) ∧ ¬ p1 < 0 ∧ p1 < nI (c.2.1 10)) (nI (nu (c.2.2 2 p1.toNatClampNeg))) () ()) = _ := w1_0 ⟨p_side hr.hs, q9⟩
      have eF : (rNumF sd p1 s.2) = _ := if_pos q8
      rw [e, eF]
      refine ⟨rfl, fun _ => ?_⟩
      show nI (nu (c.2.2 2 p1.toNatClampNeg)) = nI (s.2 18 (60 * sd + p1.toNatClampNeg))
      rw [ec, em, mg_nu hq.1 (by omega) (by omega)]
    · have q8 : ¬ onW (s.2 17 sd) p1 := fun z => q9 (by rw [m9]; exact (onW_iff (by omega)).mp z)
      have e : (w1 ((nI sd = 0 ∨ nI sd = 1) ∧ ¬ p1 < 0 ∧ p1 < nI (c.2.1 10)) (nI (nu (c.2.2 2 p1.toNatClampNeg))) () ()) = _ := w1_1 (fun z => q9 z.2)
      have eF : (rNumF sd p1 s.2) = _ := if_neg q8
      rw [e, eF]
      exact ⟨rfl, fun z => absurd z ne1⟩
  exact ⟨({ frames := 3, cells := 0, slots := 0, locals := 64 } : Room), (w1 ((nI sd = 0 ∨ nI sd = 1) ∧ ¬ p1 < 0 ∧ p1 < nI (c.2.1 10)) (nI (nu (c.2.2 2 p1.toNatClampNeg))) () ()).1, (rNumF sd p1 s.2).1, (w1 ((nI sd = 0 ∨ nI sd = 1) ∧ ¬ p1 < 0 ∧ p1 < nI (c.2.1 10)) (nI (nu (c.2.2 2 p1.toNatClampNeg))) () ()).2.1, (rNumF sd p1 s.2).2, c, o, s, ⟨rfl, rfl, Nat.le_of_ble_eq_true rfl, Nat.le_of_ble_eq_true rfl⟩, fun sz f => c_L_numberAt l D sz cI cB cL h zz oo tm (nI sd) p1 qa c.1 c.2.1 c.2.2 qb o.1 o.2.1 o.2.2 ou f hlt hz ho (f_bd hr hi) b1, fun sz t1 => c_X5_numberAt_ok l D sz cI cZ cC g q (jj t1 tm) s.1 s.2 sd p1 hr.hs (f_rw hi) (f_nb hi), ⟨key.1, key.2, trivial⟩, hr, hi, b1, b2⟩
set_option maxHeartbeats 4000000 in
set_option maxRecDepth 100000 in
theorem b_numberAt {p0 : Int32} {p1 : Int32} (hlt : l.stackTraces = false) (hb : ¬ (p0 = 0 ∨ p0 = 1)) (ho : oo = qa 0 ∧ zz = qb 0) (hr : rel2 1 c o s) (hi : inv s) (b1 : ba c.2.2) (b2 : ba o.2.2) : PS l D cI cB cL cZ cC h ou g q tm yL_numberAt wsL_numberAt ({ frames := 9, cells := 2, slots := 12, locals := 156 }) 2 12 yX5_numberAt wsX5_numberAt [.int p0, .int p1] (fun _ => True) 1 zz oo qa qb c o s := by
  have e : (w1 ((p0 = 0 ∨ p0 = 1) ∧ ¬ p1 < 0 ∧ p1 < nI (c.2.1 10)) (nI (nu (c.2.2 2 p1.toNatClampNeg))) () ()) = _ := w1_1 (fun z => hb z.1)
  refine ⟨({ frames := 3, cells := 0, slots := 0, locals := 64 } : Room), (w1 ((p0 = 0 ∨ p0 = 1) ∧ ¬ p1 < 0 ∧ p1 < nI (c.2.1 10)) (nI (nu (c.2.2 2 p1.toNatClampNeg))) () ()).1, 1, (w1 ((p0 = 0 ∨ p0 = 1) ∧ ¬ p1 < 0 ∧ p1 < nI (c.2.1 10)) (nI (nu (c.2.2 2 p1.toNatClampNeg))) () ()).2.1, 0, c, o, s, ⟨rfl, rfl, Nat.le_of_ble_eq_true rfl, Nat.le_of_ble_eq_true rfl⟩, fun sz f => c_L_numberAt l D sz cI cB cL h zz oo tm p0 p1 qa c.1 c.2.1 c.2.2 qb o.1 o.2.1 o.2.2 ou f hlt (fun z => absurd (Or.inl z) hb) (fun _ => ho) (f_bd hr hi) b1, fun sz t1 => CT.re (wr := wRw cI cZ cC q s) (c_X5_numberAt_bad l D sz cI cZ cC g q (jj t1 tm) p0 p1 (bad01 hb)) [0] [1, 2, 3, 4, 5, 6, 7, 8, 9, 10, 11, 12, 13, 14, 15, 16, 17, 18, 19, 20] [20, 0, 1, 2, 3, 4, 5, 6, 7, 8, 9, 10, 11, 12, 13, 14, 15, 16, 17, 18, 19] rfl (by decide) rfl (by decide) (by decide) (by decide) rfl, ?_⟩
  rw [e]
  exact ⟨⟨rfl, fun z => absurd z ne1, trivial⟩, hr, hi, b1, b2⟩
set_option maxHeartbeats 4000000 in
set_option maxRecDepth 100000 in
theorem p_numberAt (p0 p1 : Int32) (hlt : l.stackTraces = false) (hr : rel2 0 c o s) (hi : inv s) (b1 : ba c.2.2) (b2 : ba o.2.2) : PS l D cI cB cL cZ cC h ou g q tm yL_numberAt wsL_numberAt ({ frames := 9, cells := 2, slots := 12, locals := 156 }) 2 12 yX5_numberAt wsX5_numberAt [.int p0, .int p1] (fun _ => True) 0 (qz 0) (qo 0) qz qo c o s := by
  by_cases e0 : p0 = nI 0
  · rw [e0]; exact t_numberAt hlt (fun _ => ⟨rfl, rfl⟩) (fun z => absurd rfl z) hr hi b1 b2
  · by_cases e1 : p0 = nI 1
    · rw [e1]; exact (t_numberAt (sd := 1) hlt (fun z => absurd z ne1) (fun _ => ⟨rfl, rfl⟩) hr.flip hi b2 b1).flip
    · exact (b_numberAt hlt (fun z => z.elim e0 e1) ⟨rfl, rfl⟩ hr.flip hi b2 b1).flip
set_option maxHeartbeats 4000000 in
set_option maxRecDepth 100000 in
theorem t_textLength {p1 : Int32} (hlt : l.stackTraces = false) (hz : nI sd = 0 → zz = qa 0 ∧ oo = qb 0) (ho : ¬ nI sd = 0 → oo = qa 0 ∧ zz = qb 0) (hr : rel2 sd c o s) (hi : inv s) (b1 : ba c.2.2) (b2 : ba o.2.2) : PS l D cI cB cL cZ cC h ou g q tm yL_textLength wsL_textLength ({ frames := 9, cells := 11, slots := 270, locals := 192 }) 11 270 yX5_textLength wsX5_textLength [.int (nI sd), .int p1] (fun _ => True) sd zz oo qa qb c o s := by
  have h9 := hr.ca
  have m9 : c.2.1 10 = s.2 17 sd := hr.a.m10
  have key : (w1 ((nI sd = 0 ∨ nI sd = 1) ∧ ¬ p1 < 0 ∧ p1 < nI (c.2.1 10)) (nI (textM (c.2.2 2 p1.toNatClampNeg)).length) () ()).1 = (rTextLF sd p1 s.2).1 ∧ ((w1 ((nI sd = 0 ∨ nI sd = 1) ∧ ¬ p1 < 0 ∧ p1 < nI (c.2.1 10)) (nI (textM (c.2.2 2 p1.toNatClampNeg)).length) () ()).1 = 0 → (w1 ((nI sd = 0 ∨ nI sd = 1) ∧ ¬ p1 < 0 ∧ p1 < nI (c.2.1 10)) (nI (textM (c.2.2 2 p1.toNatClampNeg)).length) () ()).2.1 = (rTextLF sd p1 s.2).2) := by
    by_cases q9 : ¬ p1 < 0 ∧ p1 < nI (c.2.1 10)
    · have q8 : onW (s.2 17 sd) p1 := (onW_iff (by omega)).mpr (by rw [← m9]; exact q9)
      obtain ⟨j, hj, ej⟩ := onW_of (by omega) q8
      have ec : p1.toNatClampNeg = j := by rw [ej]; exact nI_clamp (by omega)
      obtain ⟨em, hq⟩ := f_msg hr hi (j := j) (by omega)
      have e : (w1 ((nI sd = 0 ∨ nI sd = 1) ∧ ¬ p1 < 0 ∧ p1 < nI (c.2.1 10)) (nI (textM (c.2.2 2 p1.toNatClampNeg)).length) () ()) = _ := w1_0 ⟨p_side hr.hs, q9⟩
      have eF : (rTextLF sd p1 s.2) = _ := if_pos q8
      rw [e, eF]
      refine ⟨rfl, fun _ => ?_⟩
      show nI (textM (c.2.2 2 p1.toNatClampNeg)).length = nI (rLen (s.2 18 (60 * sd + p1.toNatClampNeg)) (s.2 19 (60 * sd + p1.toNatClampNeg)) (s.2 20 (60 * sd + p1.toNatClampNeg)) (s.2 21 (60 * sd + p1.toNatClampNeg)))
      rw [ec, em, textM_mg hq, txt_len hq.2.1]
    · have q8 : ¬ onW (s.2 17 sd) p1 := fun z => q9 (by rw [m9]; exact (onW_iff (by omega)).mp z)
      have e : (w1 ((nI sd = 0 ∨ nI sd = 1) ∧ ¬ p1 < 0 ∧ p1 < nI (c.2.1 10)) (nI (textM (c.2.2 2 p1.toNatClampNeg)).length) () ()) = _ := w1_1 (fun z => q9 z.2)
      have eF : (rTextLF sd p1 s.2) = _ := if_neg q8
      rw [e, eF]
      exact ⟨rfl, fun z => absurd z ne1⟩
  exact ⟨({ frames := 3, cells := 0, slots := 0, locals := 65 } : Room), (w1 ((nI sd = 0 ∨ nI sd = 1) ∧ ¬ p1 < 0 ∧ p1 < nI (c.2.1 10)) (nI (textM (c.2.2 2 p1.toNatClampNeg)).length) () ()).1, (rTextLF sd p1 s.2).1, (w1 ((nI sd = 0 ∨ nI sd = 1) ∧ ¬ p1 < 0 ∧ p1 < nI (c.2.1 10)) (nI (textM (c.2.2 2 p1.toNatClampNeg)).length) () ()).2.1, (rTextLF sd p1 s.2).2, c, o, s, ⟨rfl, rfl, Nat.le_of_ble_eq_true rfl, Nat.le_of_ble_eq_true rfl⟩, fun sz f => c_L_textLength l D sz cI cB cL h zz oo tm (nI sd) p1 qa c.1 c.2.1 c.2.2 qb o.1 o.2.1 o.2.2 ou f hlt hz ho (f_bd hr hi) (f_okm hr hi), fun sz t1 => c_X5_textLength_ok l D sz cI cZ cC g q (jj t1 tm) s.1 s.2 sd p1 hr.hs (f_rw hi) (f_nb hi) (f_k9 hi), ⟨key.1, key.2, trivial⟩, hr, hi, b1, b2⟩
set_option maxHeartbeats 4000000 in
set_option maxRecDepth 100000 in
theorem b_textLength {p0 : Int32} {p1 : Int32} (hlt : l.stackTraces = false) (hb : ¬ (p0 = 0 ∨ p0 = 1)) (ho : oo = qa 0 ∧ zz = qb 0) (hr : rel2 1 c o s) (hi : inv s) (b1 : ba c.2.2) (b2 : ba o.2.2) : PS l D cI cB cL cZ cC h ou g q tm yL_textLength wsL_textLength ({ frames := 9, cells := 11, slots := 270, locals := 192 }) 11 270 yX5_textLength wsX5_textLength [.int p0, .int p1] (fun _ => True) 1 zz oo qa qb c o s := by
  have e : (w1 ((p0 = 0 ∨ p0 = 1) ∧ ¬ p1 < 0 ∧ p1 < nI (c.2.1 10)) (nI (textM (c.2.2 2 p1.toNatClampNeg)).length) () ()) = _ := w1_1 (fun z => hb z.1)
  refine ⟨({ frames := 3, cells := 0, slots := 0, locals := 64 } : Room), (w1 ((p0 = 0 ∨ p0 = 1) ∧ ¬ p1 < 0 ∧ p1 < nI (c.2.1 10)) (nI (textM (c.2.2 2 p1.toNatClampNeg)).length) () ()).1, 1, (w1 ((p0 = 0 ∨ p0 = 1) ∧ ¬ p1 < 0 ∧ p1 < nI (c.2.1 10)) (nI (textM (c.2.2 2 p1.toNatClampNeg)).length) () ()).2.1, 0, c, o, s, ⟨rfl, rfl, Nat.le_of_ble_eq_true rfl, Nat.le_of_ble_eq_true rfl⟩, fun sz f => c_L_textLength l D sz cI cB cL h zz oo tm p0 p1 qa c.1 c.2.1 c.2.2 qb o.1 o.2.1 o.2.2 ou f hlt (fun z => absurd (Or.inl z) hb) (fun _ => ho) (f_bd hr hi) (f_okm hr hi), fun sz t1 => CT.re (wr := wRw cI cZ cC q s) (c_X5_textLength_bad l D sz cI cZ cC g q (jj t1 tm) p0 p1 (bad01 hb)) [0] [1, 2, 3, 4, 5, 6, 7, 8, 9, 10, 11, 12, 13, 14, 15, 16, 17, 18, 19, 20] [20, 0, 1, 2, 3, 4, 5, 6, 7, 8, 9, 10, 11, 12, 13, 14, 15, 16, 17, 18, 19] rfl (by decide) rfl (by decide) (by decide) (by decide) rfl, ?_⟩
  rw [e]
  exact ⟨⟨rfl, fun z => absurd z ne1, trivial⟩, hr, hi, b1, b2⟩
set_option maxHeartbeats 4000000 in
set_option maxRecDepth 100000 in
theorem p_textLength (p0 p1 : Int32) (hlt : l.stackTraces = false) (hr : rel2 0 c o s) (hi : inv s) (b1 : ba c.2.2) (b2 : ba o.2.2) : PS l D cI cB cL cZ cC h ou g q tm yL_textLength wsL_textLength ({ frames := 9, cells := 11, slots := 270, locals := 192 }) 11 270 yX5_textLength wsX5_textLength [.int p0, .int p1] (fun _ => True) 0 (qz 0) (qo 0) qz qo c o s := by
  by_cases e0 : p0 = nI 0
  · rw [e0]; exact t_textLength hlt (fun _ => ⟨rfl, rfl⟩) (fun z => absurd rfl z) hr hi b1 b2
  · by_cases e1 : p0 = nI 1
    · rw [e1]; exact (t_textLength (sd := 1) hlt (fun z => absurd z ne1) (fun _ => ⟨rfl, rfl⟩) hr.flip hi b2 b1).flip
    · exact (b_textLength hlt (fun z => z.elim e0 e1) ⟨rfl, rfl⟩ hr.flip hi b2 b1).flip
set_option maxHeartbeats 4000000 in
set_option maxRecDepth 100000 in
theorem t_textChar {p1 : Int32} {p2 : Int32} (hlt : l.stackTraces = false) (hz : nI sd = 0 → zz = qa 0 ∧ oo = qb 0) (ho : ¬ nI sd = 0 → oo = qa 0 ∧ zz = qb 0) (hr : rel2 sd c o s) (hi : inv s) (b1 : ba c.2.2) (b2 : ba o.2.2) : PS l D cI cB cL cZ cC h ou g q tm yL_textChar wsL_textChar ({ frames := 9, cells := 12, slots := 276, locals := 194 }) 12 276 yX5_textChar wsX5_textChar [.int (nI sd), .int p1, .int p2] (fun _ => True) sd zz oo qa qb c o s := by
  have h9 := hr.ca
  have m9 : c.2.1 10 = s.2 17 sd := hr.a.m10
  have key : (w1 (((nI sd = 0 ∨ nI sd = 1) ∧ ¬ p1 < 0 ∧ p1 < nI (c.2.1 10)) ∧ ¬ p2 < 0 ∧ p2 < nI (textM (c.2.2 2 p1.toNatClampNeg)).length) (nI ((textM (c.2.2 2 p1.toNatClampNeg)).getD p2.toNatClampNeg 0)) () ()).1 = (rTextCF sd p1 p2 s.2).1 ∧ ((w1 (((nI sd = 0 ∨ nI sd = 1) ∧ ¬ p1 < 0 ∧ p1 < nI (c.2.1 10)) ∧ ¬ p2 < 0 ∧ p2 < nI (textM (c.2.2 2 p1.toNatClampNeg)).length) (nI ((textM (c.2.2 2 p1.toNatClampNeg)).getD p2.toNatClampNeg 0)) () ()).1 = 0 → (w1 (((nI sd = 0 ∨ nI sd = 1) ∧ ¬ p1 < 0 ∧ p1 < nI (c.2.1 10)) ∧ ¬ p2 < 0 ∧ p2 < nI (textM (c.2.2 2 p1.toNatClampNeg)).length) (nI ((textM (c.2.2 2 p1.toNatClampNeg)).getD p2.toNatClampNeg 0)) () ()).2.1 = (rTextCF sd p1 p2 s.2).2) := by
    by_cases q9 : ¬ p1 < 0 ∧ p1 < nI (c.2.1 10)
    · have q8 : onW (s.2 17 sd) p1 := (onW_iff (by omega)).mpr (by rw [← m9]; exact q9)
      obtain ⟨j, hj, ej⟩ := onW_of (by omega) q8
      have ec : p1.toNatClampNeg = j := by rw [ej]; exact nI_clamp (by omega)
      obtain ⟨em, hq⟩ := f_msg hr hi (j := j) (by omega)
      have eL : (textM (c.2.2 2 p1.toNatClampNeg)).length = rLen (s.2 18 (60 * sd + p1.toNatClampNeg)) (s.2 19 (60 * sd + p1.toNatClampNeg)) (s.2 20 (60 * sd + p1.toNatClampNeg)) (s.2 21 (60 * sd + p1.toNatClampNeg)) := by rw [ec, em, textM_mg hq, txt_len hq.2.1]
      have l1 := rLen_1 (s.2 18 (60 * sd + p1.toNatClampNeg)) (s.2 19 (60 * sd + p1.toNatClampNeg)) (s.2 20 (60 * sd + p1.toNatClampNeg)) (s.2 21 (60 * sd + p1.toNatClampNeg))
      by_cases q7 : ¬ p2 < 0 ∧ p2 < nI (textM (c.2.2 2 p1.toNatClampNeg)).length
      · obtain ⟨i, hi9, ei⟩ := ix_of q7.1 q7.2 (by rw [eL]; omega)
        rw [eL] at hi9
        have q6 : inL (rLen (s.2 18 (60 * sd + p1.toNatClampNeg)) (s.2 19 (60 * sd + p1.toNatClampNeg)) (s.2 20 (60 * sd + p1.toNatClampNeg)) (s.2 21 (60 * sd + p1.toNatClampNeg))) p2 := by rw [ei]; exact inL_n (by omega) hi9
        have e : (w1 (((nI sd = 0 ∨ nI sd = 1) ∧ ¬ p1 < 0 ∧ p1 < nI (c.2.1 10)) ∧ ¬ p2 < 0 ∧ p2 < nI (textM (c.2.2 2 p1.toNatClampNeg)).length) (nI ((textM (c.2.2 2 p1.toNatClampNeg)).getD p2.toNatClampNeg 0)) () ()) = _ := w1_0 ⟨⟨p_side hr.hs, q9⟩, q7⟩
        have eF : (rTextCF sd p1 p2 s.2) = _ := (if_pos q8).trans (if_pos q6)
        rw [e, eF]
        refine ⟨rfl, fun _ => ?_⟩
        have ec2 : p2.toNatClampNeg = i := by rw [ei]; exact nI_clamp (by omega)
        show nI ((textM (c.2.2 2 p1.toNatClampNeg)).getD p2.toNatClampNeg 0) = rCharI (s.2 18 (60 * sd + p1.toNatClampNeg)) (s.2 19 (60 * sd + p1.toNatClampNeg)) (s.2 20 (60 * sd + p1.toNatClampNeg)) (s.2 21 (60 * sd + p1.toNatClampNeg)) p2.toNatClampNeg
        rw [ec] at hi9
        rw [ec2, ec, em, textM_mg hq, txt_at hq hi9]
      · have q6 : ¬ inL (rLen (s.2 18 (60 * sd + p1.toNatClampNeg)) (s.2 19 (60 * sd + p1.toNatClampNeg)) (s.2 20 (60 * sd + p1.toNatClampNeg)) (s.2 21 (60 * sd + p1.toNatClampNeg))) p2 := fun z => by
          obtain ⟨i, hi9, ei⟩ := inL_of l1.1 (by omega) z
          exact q7 ⟨z.1, by rw [eL, ei]; exact (nI_ltI (by omega) (by omega)).mpr hi9⟩
        have e : (w1 (((nI sd = 0 ∨ nI sd = 1) ∧ ¬ p1 < 0 ∧ p1 < nI (c.2.1 10)) ∧ ¬ p2 < 0 ∧ p2 < nI (textM (c.2.2 2 p1.toNatClampNeg)).length) (nI ((textM (c.2.2 2 p1.toNatClampNeg)).getD p2.toNatClampNeg 0)) () ()) = _ := w1_1 (fun z => q7 z.2)
        have eF : (rTextCF sd p1 p2 s.2) = _ := (if_pos q8).trans (if_neg q6)
        rw [e, eF]
        exact ⟨rfl, fun z => absurd z ne1⟩
    · have q8 : ¬ onW (s.2 17 sd) p1 := fun z => q9 (by rw [m9]; exact (onW_iff (by omega)).mp z)
      have e : (w1 (((nI sd = 0 ∨ nI sd = 1) ∧ ¬ p1 < 0 ∧ p1 < nI (c.2.1 10)) ∧ ¬ p2 < 0 ∧ p2 < nI (textM (c.2.2 2 p1.toNatClampNeg)).length) (nI ((textM (c.2.2 2 p1.toNatClampNeg)).getD p2.toNatClampNeg 0)) () ()) = _ := w1_1 (fun z => q9 z.1.2)
      have eF : (rTextCF sd p1 p2 s.2) = _ := if_neg q8
      rw [e, eF]
      exact ⟨rfl, fun z => absurd z ne1⟩
  exact ⟨({ frames := 3, cells := 0, slots := 0, locals := 69 } : Room), (w1 (((nI sd = 0 ∨ nI sd = 1) ∧ ¬ p1 < 0 ∧ p1 < nI (c.2.1 10)) ∧ ¬ p2 < 0 ∧ p2 < nI (textM (c.2.2 2 p1.toNatClampNeg)).length) (nI ((textM (c.2.2 2 p1.toNatClampNeg)).getD p2.toNatClampNeg 0)) () ()).1, (rTextCF sd p1 p2 s.2).1, (w1 (((nI sd = 0 ∨ nI sd = 1) ∧ ¬ p1 < 0 ∧ p1 < nI (c.2.1 10)) ∧ ¬ p2 < 0 ∧ p2 < nI (textM (c.2.2 2 p1.toNatClampNeg)).length) (nI ((textM (c.2.2 2 p1.toNatClampNeg)).getD p2.toNatClampNeg 0)) () ()).2.1, (rTextCF sd p1 p2 s.2).2, c, o, s, ⟨rfl, rfl, Nat.le_of_ble_eq_true rfl, Nat.le_of_ble_eq_true rfl⟩, fun sz f => c_L_textChar l D sz cI cB cL h zz oo tm (nI sd) p1 p2 qa c.1 c.2.1 c.2.2 qb o.1 o.2.1 o.2.2 ou f hlt hz ho (f_bd hr hi) (f_okm hr hi), fun sz t1 => c_X5_textChar_ok l D sz cI cZ cC g q (jj t1 tm) s.1 s.2 sd p1 p2 hr.hs (f_rw hi) (f_nb hi) (f_k9 hi), ⟨key.1, key.2, trivial⟩, hr, hi, b1, b2⟩
set_option maxHeartbeats 4000000 in
set_option maxRecDepth 100000 in
theorem b_textChar {p0 : Int32} {p1 : Int32} {p2 : Int32} (hlt : l.stackTraces = false) (hb : ¬ (p0 = 0 ∨ p0 = 1)) (ho : oo = qa 0 ∧ zz = qb 0) (hr : rel2 1 c o s) (hi : inv s) (b1 : ba c.2.2) (b2 : ba o.2.2) : PS l D cI cB cL cZ cC h ou g q tm yL_textChar wsL_textChar ({ frames := 9, cells := 12, slots := 276, locals := 194 }) 12 276 yX5_textChar wsX5_textChar [.int p0, .int p1, .int p2] (fun _ => True) 1 zz oo qa qb c o s := by
  have e : (w1 (((p0 = 0 ∨ p0 = 1) ∧ ¬ p1 < 0 ∧ p1 < nI (c.2.1 10)) ∧ ¬ p2 < 0 ∧ p2 < nI (textM (c.2.2 2 p1.toNatClampNeg)).length) (nI ((textM (c.2.2 2 p1.toNatClampNeg)).getD p2.toNatClampNeg 0)) () ()) = _ := w1_1 (fun z => hb z.1.1)
  refine ⟨({ frames := 3, cells := 0, slots := 0, locals := 64 } : Room), (w1 (((p0 = 0 ∨ p0 = 1) ∧ ¬ p1 < 0 ∧ p1 < nI (c.2.1 10)) ∧ ¬ p2 < 0 ∧ p2 < nI (textM (c.2.2 2 p1.toNatClampNeg)).length) (nI ((textM (c.2.2 2 p1.toNatClampNeg)).getD p2.toNatClampNeg 0)) () ()).1, 1, (w1 (((p0 = 0 ∨ p0 = 1) ∧ ¬ p1 < 0 ∧ p1 < nI (c.2.1 10)) ∧ ¬ p2 < 0 ∧ p2 < nI (textM (c.2.2 2 p1.toNatClampNeg)).length) (nI ((textM (c.2.2 2 p1.toNatClampNeg)).getD p2.toNatClampNeg 0)) () ()).2.1, 32, c, o, s, ⟨rfl, rfl, Nat.le_of_ble_eq_true rfl, Nat.le_of_ble_eq_true rfl⟩, fun sz f => c_L_textChar l D sz cI cB cL h zz oo tm p0 p1 p2 qa c.1 c.2.1 c.2.2 qb o.1 o.2.1 o.2.2 ou f hlt (fun z => absurd (Or.inl z) hb) (fun _ => ho) (f_bd hr hi) (f_okm hr hi), fun sz t1 => CT.re (wr := wRw cI cZ cC q s) (c_X5_textChar_bad l D sz cI cZ cC g q (jj t1 tm) p0 p1 p2 (bad01 hb)) [0] [1, 2, 3, 4, 5, 6, 7, 8, 9, 10, 11, 12, 13, 14, 15, 16, 17, 18, 19, 20] [20, 0, 1, 2, 3, 4, 5, 6, 7, 8, 9, 10, 11, 12, 13, 14, 15, 16, 17, 18, 19] rfl (by decide) rfl (by decide) (by decide) (by decide) rfl, ?_⟩
  rw [e]
  exact ⟨⟨rfl, fun z => absurd z ne1, trivial⟩, hr, hi, b1, b2⟩
set_option maxHeartbeats 4000000 in
set_option maxRecDepth 100000 in
theorem p_textChar (p0 p1 p2 : Int32) (hlt : l.stackTraces = false) (hr : rel2 0 c o s) (hi : inv s) (b1 : ba c.2.2) (b2 : ba o.2.2) : PS l D cI cB cL cZ cC h ou g q tm yL_textChar wsL_textChar ({ frames := 9, cells := 12, slots := 276, locals := 194 }) 12 276 yX5_textChar wsX5_textChar [.int p0, .int p1, .int p2] (fun _ => True) 0 (qz 0) (qo 0) qz qo c o s := by
  by_cases e0 : p0 = nI 0
  · rw [e0]; exact t_textChar hlt (fun _ => ⟨rfl, rfl⟩) (fun z => absurd rfl z) hr hi b1 b2
  · by_cases e1 : p0 = nI 1
    · rw [e1]; exact (t_textChar (sd := 1) hlt (fun z => absurd z ne1) (fun _ => ⟨rfl, rfl⟩) hr.flip hi b2 b1).flip
    · exact (b_textChar hlt (fun z => z.elim e0 e1) ⟨rfl, rfl⟩ hr.flip hi b2 b1).flip
set_option maxHeartbeats 4000000 in
set_option maxRecDepth 100000 in
theorem t_handled (hlt : l.stackTraces = false) (hz : nI sd = 0 → zz = qa 0 ∧ oo = qb 0) (ho : ¬ nI sd = 0 → oo = qa 0 ∧ zz = qb 0) (hr : rel2 sd c o s) (hi : inv s) (b1 : ba c.2.2) (b2 : ba o.2.2) : PS l D cI cB cL cZ cC h ou g q tm yL_handled wsL_handled ({ frames := 8, cells := 1, slots := 6, locals := 132 }) 1 6 yX5_handled wsX5_handled [.int (nI sd)] (fun _ => True) sd zz oo qa qb c o s := by
  have e : (w1 (nI sd = 0 ∨ nI sd = 1) (nI (c.2.1 8)) () ()) = _ := w1_0 (p_side hr.hs)
  refine ⟨({ frames := 3, cells := 0, slots := 0, locals := 64 } : Room), (w1 (nI sd = 0 ∨ nI sd = 1) (nI (c.2.1 8)) () ()).1, 0, (w1 (nI sd = 0 ∨ nI sd = 1) (nI (c.2.1 8)) () ()).2.1, nI (s.2 10 sd), c, o, s, ⟨rfl, rfl, Nat.le_of_ble_eq_true rfl, Nat.le_of_ble_eq_true rfl⟩, fun sz f => c_L_handled l D sz cI cB cL h zz oo tm (nI sd) qa c.1 c.2.1 c.2.2 qb o.1 o.2.1 o.2.2 ou f hlt hz ho, fun sz t1 => c_X5_handled_ok l D sz cI cZ cC g q (jj t1 tm) s.1 s.2 sd hr.hs, ?_⟩
  rw [e]
  exact ⟨⟨rfl, fun _ => congrArg nI hr.a.m8, trivial⟩, hr, hi, b1, b2⟩
set_option maxHeartbeats 4000000 in
set_option maxRecDepth 100000 in
theorem b_handled {p0 : Int32} (hlt : l.stackTraces = false) (hb : ¬ (p0 = 0 ∨ p0 = 1)) (ho : oo = qa 0 ∧ zz = qb 0) (hr : rel2 1 c o s) (hi : inv s) (b1 : ba c.2.2) (b2 : ba o.2.2) : PS l D cI cB cL cZ cC h ou g q tm yL_handled wsL_handled ({ frames := 8, cells := 1, slots := 6, locals := 132 }) 1 6 yX5_handled wsX5_handled [.int p0] (fun _ => True) 1 zz oo qa qb c o s := by
  have e : (w1 (p0 = 0 ∨ p0 = 1) (nI (c.2.1 8)) () ()) = _ := w1_1 hb
  refine ⟨({ frames := 3, cells := 0, slots := 0, locals := 64 } : Room), (w1 (p0 = 0 ∨ p0 = 1) (nI (c.2.1 8)) () ()).1, 1, (w1 (p0 = 0 ∨ p0 = 1) (nI (c.2.1 8)) () ()).2.1, 0, c, o, s, ⟨rfl, rfl, Nat.le_of_ble_eq_true rfl, Nat.le_of_ble_eq_true rfl⟩, fun sz f => c_L_handled l D sz cI cB cL h zz oo tm p0 qa c.1 c.2.1 c.2.2 qb o.1 o.2.1 o.2.2 ou f hlt (fun z => absurd (Or.inl z) hb) (fun _ => ho), fun sz t1 => CT.re (wr := wRw cI cZ cC q s) (c_X5_handled_bad l D sz cI cZ cC g q (jj t1 tm) p0 (bad01 hb)) [0] [1, 2, 3, 4, 5, 6, 7, 8, 9, 10, 11, 12, 13, 14, 15, 16, 17, 18, 19, 20] [20, 0, 1, 2, 3, 4, 5, 6, 7, 8, 9, 10, 11, 12, 13, 14, 15, 16, 17, 18, 19] rfl (by decide) rfl (by decide) (by decide) (by decide) rfl, ?_⟩
  rw [e]
  exact ⟨⟨rfl, fun z => absurd z ne1, trivial⟩, hr, hi, b1, b2⟩
set_option maxHeartbeats 4000000 in
set_option maxRecDepth 100000 in
theorem p_handled (p0 : Int32) (hlt : l.stackTraces = false) (hr : rel2 0 c o s) (hi : inv s) (b1 : ba c.2.2) (b2 : ba o.2.2) : PS l D cI cB cL cZ cC h ou g q tm yL_handled wsL_handled ({ frames := 8, cells := 1, slots := 6, locals := 132 }) 1 6 yX5_handled wsX5_handled [.int p0] (fun _ => True) 0 (qz 0) (qo 0) qz qo c o s := by
  by_cases e0 : p0 = nI 0
  · rw [e0]; exact t_handled hlt (fun _ => ⟨rfl, rfl⟩) (fun z => absurd rfl z) hr hi b1 b2
  · by_cases e1 : p0 = nI 1
    · rw [e1]; exact (t_handled (sd := 1) hlt (fun z => absurd z ne1) (fun _ => ⟨rfl, rfl⟩) hr.flip hi b2 b1).flip
    · exact (b_handled hlt (fun z => z.elim e0 e1) ⟨rfl, rfl⟩ hr.flip hi b2 b1).flip
set_option maxHeartbeats 4000000 in
set_option maxRecDepth 100000 in
theorem t_handledKey {p1 : Int32} (hlt : l.stackTraces = false) (hz : nI sd = 0 → zz = qa 0 ∧ oo = qb 0) (ho : ¬ nI sd = 0 → oo = qa 0 ∧ zz = qb 0) (hr : rel2 sd c o s) (hi : inv s) (b1 : ba c.2.2) (b2 : ba o.2.2) : PS l D cI cB cL cZ cC h ou g q tm yL_handledKey wsL_handledKey ({ frames := 8, cells := 2, slots := 12, locals := 134 }) 2 12 yX5_handledKey wsX5_handledKey [.int (nI sd), .int p1] (fun _ => True) sd zz oo qa qb c o s := by
  have h9 := hr.ka
  have m9 : c.2.1 8 = s.2 10 sd := hr.a.m8
  have key : (w1 ((nI sd = 0 ∨ nI sd = 1) ∧ ¬ p1 < 0 ∧ p1 < nI (c.2.1 8)) (nI (c.2.2 1 p1.toNatClampNeg)) () ()).1 = (rKeyF sd p1 s.2).1 ∧ ((w1 ((nI sd = 0 ∨ nI sd = 1) ∧ ¬ p1 < 0 ∧ p1 < nI (c.2.1 8)) (nI (c.2.2 1 p1.toNatClampNeg)) () ()).1 = 0 → (w1 ((nI sd = 0 ∨ nI sd = 1) ∧ ¬ p1 < 0 ∧ p1 < nI (c.2.1 8)) (nI (c.2.2 1 p1.toNatClampNeg)) () ()).2.1 = (rKeyF sd p1 s.2).2) := by
    by_cases q9 : ¬ p1 < 0 ∧ p1 < nI (c.2.1 8)
    · have q8 : onW (s.2 10 sd) p1 := (onW_iff (by omega)).mpr (by rw [← m9]; exact q9)
      obtain ⟨j, hj, ej⟩ := onW_of (by omega) q8
      have ec : p1.toNatClampNeg = j := by rw [ej]; exact nI_clamp (by omega)
      have e : (w1 ((nI sd = 0 ∨ nI sd = 1) ∧ ¬ p1 < 0 ∧ p1 < nI (c.2.1 8)) (nI (c.2.2 1 p1.toNatClampNeg)) () ()) = _ := w1_0 ⟨p_side hr.hs, q9⟩
      have eF : (rKeyF sd p1 s.2) = _ := if_pos q8
      rw [e, eF]
      refine ⟨rfl, fun _ => ?_⟩
      show nI (c.2.2 1 p1.toNatClampNeg) = nI (s.2 9 (201 * sd + p1.toNatClampNeg))
      rw [ec, hr.a.b1 j (by omega)]
    · have q8 : ¬ onW (s.2 10 sd) p1 := fun z => q9 (by rw [m9]; exact (onW_iff (by omega)).mp z)
      have e : (w1 ((nI sd = 0 ∨ nI sd = 1) ∧ ¬ p1 < 0 ∧ p1 < nI (c.2.1 8)) (nI (c.2.2 1 p1.toNatClampNeg)) () ()) = _ := w1_1 (fun z => q9 z.2)
      have eF : (rKeyF sd p1 s.2) = _ := if_neg q8
      rw [e, eF]
      exact ⟨rfl, fun z => absurd z ne1⟩
  exact ⟨({ frames := 2, cells := 0, slots := 0, locals := 42 } : Room), (w1 ((nI sd = 0 ∨ nI sd = 1) ∧ ¬ p1 < 0 ∧ p1 < nI (c.2.1 8)) (nI (c.2.2 1 p1.toNatClampNeg)) () ()).1, (rKeyF sd p1 s.2).1, (w1 ((nI sd = 0 ∨ nI sd = 1) ∧ ¬ p1 < 0 ∧ p1 < nI (c.2.1 8)) (nI (c.2.2 1 p1.toNatClampNeg)) () ()).2.1, (rKeyF sd p1 s.2).2, c, o, s, ⟨rfl, rfl, Nat.le_of_ble_eq_true rfl, Nat.le_of_ble_eq_true rfl⟩, fun sz f => c_L_handledKey l D sz cI cB cL h zz oo tm (nI sd) p1 qa c.1 c.2.1 c.2.2 qb o.1 o.2.1 o.2.2 ou f hlt hz ho (f_bd hr hi), fun sz t1 => c_X5_handledKey_ok l D sz cI cZ cC g q (jj t1 tm) s.1 s.2 sd p1 hr.hs (f_rw hi) (f_nb hi) (f_h hi hr.hs).1, ⟨key.1, key.2, trivial⟩, hr, hi, b1, b2⟩
set_option maxHeartbeats 4000000 in
set_option maxRecDepth 100000 in
theorem b_handledKey {p0 : Int32} {p1 : Int32} (hlt : l.stackTraces = false) (hb : ¬ (p0 = 0 ∨ p0 = 1)) (ho : oo = qa 0 ∧ zz = qb 0) (hr : rel2 1 c o s) (hi : inv s) (b1 : ba c.2.2) (b2 : ba o.2.2) : PS l D cI cB cL cZ cC h ou g q tm yL_handledKey wsL_handledKey ({ frames := 8, cells := 2, slots := 12, locals := 134 }) 2 12 yX5_handledKey wsX5_handledKey [.int p0, .int p1] (fun _ => True) 1 zz oo qa qb c o s := by
  have e : (w1 ((p0 = 0 ∨ p0 = 1) ∧ ¬ p1 < 0 ∧ p1 < nI (c.2.1 8)) (nI (c.2.2 1 p1.toNatClampNeg)) () ()) = _ := w1_1 (fun z => hb z.1)
  refine ⟨({ frames := 2, cells := 0, slots := 0, locals := 42 } : Room), (w1 ((p0 = 0 ∨ p0 = 1) ∧ ¬ p1 < 0 ∧ p1 < nI (c.2.1 8)) (nI (c.2.2 1 p1.toNatClampNeg)) () ()).1, 1, (w1 ((p0 = 0 ∨ p0 = 1) ∧ ¬ p1 < 0 ∧ p1 < nI (c.2.1 8)) (nI (c.2.2 1 p1.toNatClampNeg)) () ()).2.1, 0, c, o, s, ⟨rfl, rfl, Nat.le_of_ble_eq_true rfl, Nat.le_of_ble_eq_true rfl⟩, fun sz f => c_L_handledKey l D sz cI cB cL h zz oo tm p0 p1 qa c.1 c.2.1 c.2.2 qb o.1 o.2.1 o.2.2 ou f hlt (fun z => absurd (Or.inl z) hb) (fun _ => ho) (f_bd hr hi), fun sz t1 => CT.re (wr := wRw cI cZ cC q s) (c_X5_handledKey_bad l D sz cI cZ cC g q (jj t1 tm) p0 p1 (bad01 hb)) [0] [1, 2, 3, 4, 5, 6, 7, 8, 9, 10, 11, 12, 13, 14, 15, 16, 17, 18, 19, 20] [20, 0, 1, 2, 3, 4, 5, 6, 7, 8, 9, 10, 11, 12, 13, 14, 15, 16, 17, 18, 19] rfl (by decide) rfl (by decide) (by decide) (by decide) rfl, ?_⟩
  rw [e]
  exact ⟨⟨rfl, fun z => absurd z ne1, trivial⟩, hr, hi, b1, b2⟩
set_option maxHeartbeats 4000000 in
set_option maxRecDepth 100000 in
theorem p_handledKey (p0 p1 : Int32) (hlt : l.stackTraces = false) (hr : rel2 0 c o s) (hi : inv s) (b1 : ba c.2.2) (b2 : ba o.2.2) : PS l D cI cB cL cZ cC h ou g q tm yL_handledKey wsL_handledKey ({ frames := 8, cells := 2, slots := 12, locals := 134 }) 2 12 yX5_handledKey wsX5_handledKey [.int p0, .int p1] (fun _ => True) 0 (qz 0) (qo 0) qz qo c o s := by
  by_cases e0 : p0 = nI 0
  · rw [e0]; exact t_handledKey hlt (fun _ => ⟨rfl, rfl⟩) (fun z => absurd rfl z) hr hi b1 b2
  · by_cases e1 : p0 = nI 1
    · rw [e1]; exact (t_handledKey (sd := 1) hlt (fun z => absurd z ne1) (fun _ => ⟨rfl, rfl⟩) hr.flip hi b2 b1).flip
    · exact (b_handledKey hlt (fun z => z.elim e0 e1) ⟨rfl, rfl⟩ hr.flip hi b2 b1).flip
set_option maxHeartbeats 4000000 in
set_option maxRecDepth 100000 in
theorem t_doubles (hlt : l.stackTraces = false) (hz : nI sd = 0 → zz = qa 0 ∧ oo = qb 0) (ho : ¬ nI sd = 0 → oo = qa 0 ∧ zz = qb 0) (hr : rel2 sd c o s) (hi : inv s) (b1 : ba c.2.2) (b2 : ba o.2.2) : PS l D cI cB cL cZ cC h ou g q tm yL_doubles wsL_doubles ({ frames := 8, cells := 1, slots := 6, locals := 132 }) 1 6 yX5_doubles wsX5_doubles [.int (nI sd)] (fun _ => True) sd zz oo qa qb c o s := by
  have e : (w1 (nI sd = 0 ∨ nI sd = 1) (c.1 9) () ()) = _ := w1_0 (p_side hr.hs)
  refine ⟨({ frames := 3, cells := 0, slots := 0, locals := 64 } : Room), (w1 (nI sd = 0 ∨ nI sd = 1) (c.1 9) () ()).1, 0, (w1 (nI sd = 0 ∨ nI sd = 1) (c.1 9) () ()).2.1, s.1 11 sd, c, o, s, ⟨rfl, rfl, Nat.le_of_ble_eq_true rfl, Nat.le_of_ble_eq_true rfl⟩, fun sz f => c_L_doubles l D sz cI cB cL h zz oo tm (nI sd) qa c.1 c.2.1 c.2.2 qb o.1 o.2.1 o.2.2 ou f hlt hz ho, fun sz t1 => c_X5_doubles_ok l D sz cI cZ cC g q (jj t1 tm) s.1 s.2 sd hr.hs, ?_⟩
  rw [e]
  exact ⟨⟨rfl, fun _ => hr.a.e9, trivial⟩, hr, hi, b1, b2⟩
set_option maxHeartbeats 4000000 in
set_option maxRecDepth 100000 in
theorem b_doubles {p0 : Int32} (hlt : l.stackTraces = false) (hb : ¬ (p0 = 0 ∨ p0 = 1)) (ho : oo = qa 0 ∧ zz = qb 0) (hr : rel2 1 c o s) (hi : inv s) (b1 : ba c.2.2) (b2 : ba o.2.2) : PS l D cI cB cL cZ cC h ou g q tm yL_doubles wsL_doubles ({ frames := 8, cells := 1, slots := 6, locals := 132 }) 1 6 yX5_doubles wsX5_doubles [.int p0] (fun _ => True) 1 zz oo qa qb c o s := by
  have e : (w1 (p0 = 0 ∨ p0 = 1) (c.1 9) () ()) = _ := w1_1 hb
  refine ⟨({ frames := 3, cells := 0, slots := 0, locals := 64 } : Room), (w1 (p0 = 0 ∨ p0 = 1) (c.1 9) () ()).1, 1, (w1 (p0 = 0 ∨ p0 = 1) (c.1 9) () ()).2.1, 0, c, o, s, ⟨rfl, rfl, Nat.le_of_ble_eq_true rfl, Nat.le_of_ble_eq_true rfl⟩, fun sz f => c_L_doubles l D sz cI cB cL h zz oo tm p0 qa c.1 c.2.1 c.2.2 qb o.1 o.2.1 o.2.2 ou f hlt (fun z => absurd (Or.inl z) hb) (fun _ => ho), fun sz t1 => CT.re (wr := wRw cI cZ cC q s) (c_X5_doubles_bad l D sz cI cZ cC g q (jj t1 tm) p0 (bad01 hb)) [0] [1, 2, 3, 4, 5, 6, 7, 8, 9, 10, 11, 12, 13, 14, 15, 16, 17, 18, 19, 20] [20, 0, 1, 2, 3, 4, 5, 6, 7, 8, 9, 10, 11, 12, 13, 14, 15, 16, 17, 18, 19] rfl (by decide) rfl (by decide) (by decide) (by decide) rfl, ?_⟩
  rw [e]
  exact ⟨⟨rfl, fun z => absurd z ne1, trivial⟩, hr, hi, b1, b2⟩
set_option maxHeartbeats 4000000 in
set_option maxRecDepth 100000 in
theorem p_doubles (p0 : Int32) (hlt : l.stackTraces = false) (hr : rel2 0 c o s) (hi : inv s) (b1 : ba c.2.2) (b2 : ba o.2.2) : PS l D cI cB cL cZ cC h ou g q tm yL_doubles wsL_doubles ({ frames := 8, cells := 1, slots := 6, locals := 132 }) 1 6 yX5_doubles wsX5_doubles [.int p0] (fun _ => True) 0 (qz 0) (qo 0) qz qo c o s := by
  by_cases e0 : p0 = nI 0
  · rw [e0]; exact t_doubles hlt (fun _ => ⟨rfl, rfl⟩) (fun z => absurd rfl z) hr hi b1 b2
  · by_cases e1 : p0 = nI 1
    · rw [e1]; exact (t_doubles (sd := 1) hlt (fun z => absurd z ne1) (fun _ => ⟨rfl, rfl⟩) hr.flip hi b2 b1).flip
    · exact (b_doubles hlt (fun z => z.elim e0 e1) ⟨rfl, rfl⟩ hr.flip hi b2 b1).flip
set_option maxHeartbeats 4000000 in
set_option maxRecDepth 100000 in
theorem t_agreed (hlt : l.stackTraces = false) (hz : nI sd = 0 → zz = qa 0 ∧ oo = qb 0) (ho : ¬ nI sd = 0 → oo = qa 0 ∧ zz = qb 0) (hr : rel2 sd c o s) (hi : inv s) (b1 : ba c.2.2) (b2 : ba o.2.2) : PS l D cI cB cL cZ cC h ou g q tm yL_agreed wsL_agreed ({ frames := 8, cells := 1, slots := 6, locals := 137 }) 1 6 yX5_agreed wsX5_agreed [.int (nI sd)] (fun _ => True) sd zz oo qa qb c o s := by
  have e : (w1 (nI sd = 0 ∨ nI sd = 1) (nI (cAgreedF (c.2.1 7) (c.2.1 8) (c.2.2 1) (o.2.1 6) (o.2.2 0))) () ()) = _ := w1_0 (p_side hr.hs)
  refine ⟨({ frames := 2, cells := 0, slots := 0, locals := 42 } : Room), (w1 (nI sd = 0 ∨ nI sd = 1) (nI (cAgreedF (c.2.1 7) (c.2.1 8) (c.2.2 1) (o.2.1 6) (o.2.2 0))) () ()).1, 0, (w1 (nI sd = 0 ∨ nI sd = 1) (nI (cAgreedF (c.2.1 7) (c.2.1 8) (c.2.2 1) (o.2.1 6) (o.2.2 0))) () ()).2.1, nI (rAgreedF (s.2 5 sd) (s.2 10 sd) (fun k => s.2 9 (201 * sd + k)) (s.2 6) (s.2 7) (s.2 8) (201 * (1 - sd))), c, o, s, ⟨rfl, rfl, Nat.le_of_ble_eq_true rfl, Nat.le_of_ble_eq_true rfl⟩, fun sz f => c_L_agreed l D sz cI cB cL h zz oo tm (nI sd) qa c.1 c.2.1 c.2.2 qb o.1 o.2.1 o.2.2 ou f hlt hz ho (f_bd hr hi) (f_bd hr.flip hi) b1 b2 (f_e hr hi), fun sz t1 => c_X5_agreed_ok l D sz cI cZ cC g q (jj t1 tm) s.1 s.2 sd hr.hs (f_rw hi) (f_nb hi) (f_h hi hr.hs).1 (f_h hi hr.hs).2, ?_⟩
  rw [e]
  exact ⟨⟨rfl, fun _ => congrArg nI (k_agreed hr hi), trivial⟩, hr, hi, b1, b2⟩
set_option maxHeartbeats 4000000 in
set_option maxRecDepth 100000 in
theorem b_agreed {p0 : Int32} (hlt : l.stackTraces = false) (hb : ¬ (p0 = 0 ∨ p0 = 1)) (ho : oo = qa 0 ∧ zz = qb 0) (hr : rel2 1 c o s) (hi : inv s) (b1 : ba c.2.2) (b2 : ba o.2.2) : PS l D cI cB cL cZ cC h ou g q tm yL_agreed wsL_agreed ({ frames := 8, cells := 1, slots := 6, locals := 137 }) 1 6 yX5_agreed wsX5_agreed [.int p0] (fun _ => True) 1 zz oo qa qb c o s := by
  have e : (w1 (p0 = 0 ∨ p0 = 1) (nI (cAgreedF (c.2.1 7) (c.2.1 8) (c.2.2 1) (o.2.1 6) (o.2.2 0))) () ()) = _ := w1_1 hb
  refine ⟨({ frames := 2, cells := 0, slots := 0, locals := 42 } : Room), (w1 (p0 = 0 ∨ p0 = 1) (nI (cAgreedF (c.2.1 7) (c.2.1 8) (c.2.2 1) (o.2.1 6) (o.2.2 0))) () ()).1, 1, (w1 (p0 = 0 ∨ p0 = 1) (nI (cAgreedF (c.2.1 7) (c.2.1 8) (c.2.2 1) (o.2.1 6) (o.2.2 0))) () ()).2.1, 0, c, o, s, ⟨rfl, rfl, Nat.le_of_ble_eq_true rfl, Nat.le_of_ble_eq_true rfl⟩, fun sz f => c_L_agreed l D sz cI cB cL h zz oo tm p0 qa c.1 c.2.1 c.2.2 qb o.1 o.2.1 o.2.2 ou f hlt (fun z => absurd (Or.inl z) hb) (fun _ => ho) (f_bd hr hi) (f_bd hr.flip hi) b1 b2 (f_e hr hi), fun sz t1 => CT.re (wr := wRw cI cZ cC q s) (c_X5_agreed_bad l D sz cI cZ cC g q (jj t1 tm) p0 (bad01 hb)) [0] [1, 2, 3, 4, 5, 6, 7, 8, 9, 10, 11, 12, 13, 14, 15, 16, 17, 18, 19, 20] [20, 0, 1, 2, 3, 4, 5, 6, 7, 8, 9, 10, 11, 12, 13, 14, 15, 16, 17, 18, 19] rfl (by decide) rfl (by decide) (by decide) (by decide) rfl, ?_⟩
  rw [e]
  exact ⟨⟨rfl, fun z => absurd z ne1, trivial⟩, hr, hi, b1, b2⟩
set_option maxHeartbeats 4000000 in
set_option maxRecDepth 100000 in
theorem p_agreed (p0 : Int32) (hlt : l.stackTraces = false) (hr : rel2 0 c o s) (hi : inv s) (b1 : ba c.2.2) (b2 : ba o.2.2) : PS l D cI cB cL cZ cC h ou g q tm yL_agreed wsL_agreed ({ frames := 8, cells := 1, slots := 6, locals := 137 }) 1 6 yX5_agreed wsX5_agreed [.int p0] (fun _ => True) 0 (qz 0) (qo 0) qz qo c o s := by
  by_cases e0 : p0 = nI 0
  · rw [e0]; exact t_agreed hlt (fun _ => ⟨rfl, rfl⟩) (fun z => absurd rfl z) hr hi b1 b2
  · by_cases e1 : p0 = nI 1
    · rw [e1]; exact (t_agreed (sd := 1) hlt (fun z => absurd z ne1) (fun _ => ⟨rfl, rfl⟩) hr.flip hi b2 b1).flip
    · exact (b_agreed hlt (fun z => z.elim e0 e1) ⟨rfl, rfl⟩ hr.flip hi b2 b1).flip
set_option maxHeartbeats 4000000 in
set_option maxRecDepth 100000 in
theorem p_endDay (hlt : l.stackTraces = false) (hr : rel2 0 c o s) (hi : inv s) (b1 : ba c.2.2) (b2 : ba o.2.2) : PS l D cI cB cL cZ cC h ou g q tm yL_endDay wsL_endDay ({ frames := 7, cells := 1, slots := 6, locals := 111 }) 1 6 yX5_endDay wsX5_endDay [] (fun _ => True) 0 (qz 0) (qo 0) qz qo c o s := by
  obtain ⟨ha, hr2, hi2⟩ := k_endDay hr hi
  have hb : ba (w1 (c.1 0 = 0 ∧ o.1 0 = 0) (nI (c.2.1 6 + o.2.1 6)) (c, o) ((va_up c.1 9 0, va_up (va_up (va_up (va_up c.2.1 6 0) 7 1) 8 0) 10 0, c.2.2), (va_up o.1 9 0, va_up (va_up (va_up (va_up o.2.1 6 0) 7 1) 8 0) 10 0, o.2.2))).2.2.1.2.2 ∧ ba (w1 (c.1 0 = 0 ∧ o.1 0 = 0) (nI (c.2.1 6 + o.2.1 6)) (c, o) ((va_up c.1 9 0, va_up (va_up (va_up (va_up c.2.1 6 0) 7 1) 8 0) 10 0, c.2.2), (va_up o.1 9 0, va_up (va_up (va_up (va_up o.2.1 6 0) 7 1) 8 0) 10 0, o.2.2))).2.2.2.2.2 := w1_p (P := fun x : CS × CS => ba x.1.2.2 ∧ ba x.2.2.2) ⟨b1, b2⟩ (fun _ => ⟨b1, b2⟩)
  exact ⟨({ frames := 1, cells := 0, slots := 0, locals := 21 } : Room), (w1 (c.1 0 = 0 ∧ o.1 0 = 0) (nI (c.2.1 6 + o.2.1 6)) (c, o) ((va_up c.1 9 0, va_up (va_up (va_up (va_up c.2.1 6 0) 7 1) 8 0) 10 0, c.2.2), (va_up o.1 9 0, va_up (va_up (va_up (va_up o.2.1 6 0) 7 1) 8 0) 10 0, o.2.2))).1, (rEndDayF s).1, (w1 (c.1 0 = 0 ∧ o.1 0 = 0) (nI (c.2.1 6 + o.2.1 6)) (c, o) ((va_up c.1 9 0, va_up (va_up (va_up (va_up c.2.1 6 0) 7 1) 8 0) 10 0, c.2.2), (va_up o.1 9 0, va_up (va_up (va_up (va_up o.2.1 6 0) 7 1) 8 0) 10 0, o.2.2))).2.1, (rEndDayF s).2.1, (w1 (c.1 0 = 0 ∧ o.1 0 = 0) (nI (c.2.1 6 + o.2.1 6)) (c, o) ((va_up c.1 9 0, va_up (va_up (va_up (va_up c.2.1 6 0) 7 1) 8 0) 10 0, c.2.2), (va_up o.1 9 0, va_up (va_up (va_up (va_up o.2.1 6 0) 7 1) 8 0) 10 0, o.2.2))).2.2.1, (w1 (c.1 0 = 0 ∧ o.1 0 = 0) (nI (c.2.1 6 + o.2.1 6)) (c, o) ((va_up c.1 9 0, va_up (va_up (va_up (va_up c.2.1 6 0) 7 1) 8 0) 10 0, c.2.2), (va_up o.1 9 0, va_up (va_up (va_up (va_up o.2.1 6 0) 7 1) 8 0) 10 0, o.2.2))).2.2.2, (rEndDayF s).2.2, ⟨rfl, rfl, Nat.le_of_ble_eq_true rfl, Nat.le_of_ble_eq_true rfl⟩, fun sz f => c_L_endDay l D sz cI cB cL h tm qz c.1 c.2.1 c.2.2 qo o.1 o.2.1 o.2.2 ou f hlt, fun sz t1 => c_X5_endDay l D sz cI cZ cC g q (jj t1 tm) s.1 s.2 (f_rw hi) (f_nb hi), ⟨ha.1, ha.2, trivial⟩, hr2, hi2, hb.1, hb.2⟩
end PAIRS
