/-! ===== messages taken apart; handling; receiving ===== -/
theorem mg_sum {n k t g : Nat} (hn : n < 256) (hk : k < 8) (ht : t < 1024) : mg n k t g = 2 ^ 21 * g + (2 ^ 11 * t + (2 ^ 8 * k + n)) := by
  unfold mg pkm
  rw [Nat.two_pow_add_eq_or_of_lt (i := 8) (a := k) (by omega), Nat.two_pow_add_eq_or_of_lt (i := 11) (a := t) (by
    have := Nat.two_pow_add_eq_or_of_lt (i := 8) (b := n) (by omega) k
    rw [← this]; omega), Nat.two_pow_add_eq_or_of_lt (i := 21) (a := g) (by
    have e1 := Nat.two_pow_add_eq_or_of_lt (i := 8) (b := n) (by omega) k
    have e2 := Nat.two_pow_add_eq_or_of_lt (i := 11) (b := 2 ^ 8 * k + n) (by omega) t
    rw [← e1, ← e2]; omega)]
  rw [show n ||| k * 256 = 2 ^ 8 * k ||| n by rw [Nat.or_comm, Nat.mul_comm], show t * 2048 = 2 ^ 11 * t by rw [Nat.mul_comm], show g * 2097152 = 2 ^ 21 * g by rw [Nat.mul_comm]]
  rw [Nat.or_comm (2 ^ 8 * k ||| n) (2 ^ 11 * t), Nat.or_comm _ (2 ^ 21 * g)]
theorem mg_nu {n k t g : Nat} (hn : n < 256) (hk : k < 8) (ht : t < 1024) : nu (mg n k t g) = n := by rw [mg_sum hn hk ht]; unfold nu; omega
theorem mg_kd {n k t g : Nat} (hn : n < 256) (hk : k < 8) (ht : t < 1024) : kd (mg n k t g) = k := by rw [mg_sum hn hk ht]; unfold kd; omega
theorem mg_td {n k t g : Nat} (hn : n < 256) (hk : k < 8) (ht : t < 1024) : td (mg n k t g) = t := by rw [mg_sum hn hk ht]; unfold td; omega
theorem mg_lt {n k t g : Nat} (hn : n < 256) (hk : k < 8) (ht : t < 1024) (hg : g < 8) : mg n k t g < 16777216 := by rw [mg_sum hn hk ht]; omega
theorem mg_bit {n k t g : Nat} (hn : n < 256) (hk : k < 8) (ht : t < 1024) (i : Nat) : (mg n k t g).testBit (21 + i) = g.testBit i := by
  rw [mg_sum hn hk ht, Nat.testBit_two_pow_mul_add _ (by omega), if_neg (by omega), Nat.add_sub_cancel_left]
theorem or1 : ∀ g, g < 8 → (g ||| 1) * 2097152 = g * 2097152 ||| 2097152 ∧ (g ||| 1) < 8 := by decide
theorem mg_or {n k t g : Nat} (hg : g < 8) : mg n k t g ||| 2097152 = mg n k t (g ||| 1) := by
  unfold mg pkm
  rw [(or1 g hg).1, Nat.or_assoc]
/-- a message in hand -/
abbrev okq (nn kk tt gg : Nat) : Prop := nn < 256 ∧ kk < 7 ∧ tt < 1000 ∧ gg < 8
theorem up_id {α : Type} {f : Nat → α} {k : Nat} : va_up f k (f k) = f := by
  funext j
  by_cases e : j = k
  · subst e; exact up_s
  · exact up_n e
theorem rel_logon2 {tm : Int32} {sd mm nn kk tt gg : Nat} {c o : CS} {s : RS} (h : rel2 sd c o s) (hm : mm = mg nn kk tt gg) (hq : okq nn kk tt gg) : rel2 sd (cLogon2 tm mm c o).1 (cLogon2 tm mm c o).2 (rLogsOn tm sd (gg.testBit 2 = true) s) := by
  have hb : mm.testBit 23 = gg.testBit 2 := by rw [hm]; exact mg_bit hq.1 (by omega) (by omega) 2
  unfold cLogon2 rLogsOn
  rw [hb, h.a.e0]
  by_cases q : gg.testBit 2 = true
  · rw [if_pos q, if_pos q]
    have h2 : rel2 sd (va_up (va_up c.1 0 2) 1 0, c.2) o (va_up (va_up s.1 3 (va_up (s.1 3) sd 2)) 12 (va_up (s.1 12) sd 0), s.2) :=
      h.xs (up_s (f := s.1 3)).symm (up_s (f := s.1 12)).symm h.a.e2 h.a.e3 h.a.e4 h.a.e5 h.a.e9 (fun k => by
        by_cases e : k = 12
        · subst e; rw [up_s, up_n (by have := h.hs; omega)]
        · rw [up_n e]; exact upI_n h.hs k)
    exact (rel_send (tm := tm) (kk := 0) (tt := 0) (gg := 0) h2).1
  · rw [if_neg q, if_neg q]
    by_cases q2 : s.1 3 sd = 1
    · rw [if_pos q2, if_pos q2]
      exact h.xs (up_s (f := s.1 3)).symm h.a.e1 h.a.e2 h.a.e3 h.a.e4 h.a.e5 h.a.e9 (upI_n h.hs)
    · rw [if_neg q2, if_neg q2]; exact h
/-- one side's keys grow -/
theorem rel_key {sd tt : Nat} {c o : CS} {s : RS} (h : rel2 sd c o s) (hc : s.2 10 sd < 200) (ho : s.2 10 (1 - sd) ≤ 200) : rel2 sd (c.1, va_up c.2.1 8 (cApp 200 (c.2.1 8) (c.2.2 1) tt).1, va_up c.2.2 1 (cApp 200 (c.2.1 8) (c.2.2 1) tt).2) o (s.1, va_up (va_up s.2 9 (va_up (s.2 9) (201 * sd + s.2 10 sd) tt)) 10 (va_up (s.2 10) sd (s.2 10 sd + 1))) := by
  have hs := h.hs
  have m8 := h.a.m8
  have n8 := h.b.m8
  have e1 : cApp 200 (c.2.1 8) (c.2.2 1) tt = (c.2.1 8 + 1, va_up (c.2.2 1) (c.2.1 8) tt) := if_neg (by omega)
  rw [e1, ← m8]
  refine ⟨hs, ⟨h.a.e0, h.a.e1, h.a.e2, h.a.e3, h.a.e4, h.a.e5, h.a.e9, h.a.m6, h.a.m7, (up_s (f := s.2 10)).symm, h.a.m10, h.a.b0, fun j hj => ?_, h.a.b2⟩,
    ⟨h.b.e0, h.b.e1, h.b.e2, h.b.e3, h.b.e4, h.b.e5, h.b.e9, h.b.m6, h.b.m7, h.b.m8.trans (up_n (f := s.2 10) (by omega)).symm, h.b.m10, h.b.b0, fun j hj => ?_, h.b.b2⟩, h.ca, h.cb, h.na, h.nb, (show c.2.1 8 + 1 ≤ 200 by omega), h.kb⟩
  · have hj : j < c.2.1 8 + 1 := hj
    show va_up (c.2.2 1) (c.2.1 8) tt j = va_up (s.2 9) (201 * sd + c.2.1 8) tt (201 * sd + j)
    by_cases e : j = c.2.1 8
    · subst e; rw [up_s, up_s]
    · rw [up_n e, up_n (by omega)]; exact h.a.b1 j (by omega)
  · have hj : j < o.2.1 8 := hj
    show o.2.2 1 j = va_up (s.2 9) (201 * sd + c.2.1 8) tt (201 * (1 - sd) + j)
    rw [up_n (by rcases (show sd = 0 ∨ sd = 1 by omega) with rfl | rfl <;> omega)]
    exact h.b.b1 j hj
theorem rel_bus {sd mm nn kk tt gg : Nat} {c o : CS} {s : RS} (h : rel2 sd c o s) (hm : mm = mg nn kk tt gg) (hq : okq nn kk tt gg) (hc : s.2 10 sd < 200) (ho : s.2 10 (1 - sd) ≤ 200) : rel2 sd (cBus c mm) o (if gg.testBit 1 = true then @ite RS (∃ k, k < s.2 10 sd ∧ s.2 9 (201 * sd + k) = tt) (Classical.propDecidable _) (va_up s.1 11 (va_up (s.1 11) sd (s.1 11 sd + 1)), s.2)
        (s.1, va_up (va_up s.2 9 (va_up (s.2 9) (201 * sd + s.2 10 sd) tt)) 10 (va_up (s.2 10) sd (s.2 10 sd + 1)))
     else (s.1, va_up (va_up s.2 9 (va_up (s.2 9) (201 * sd + s.2 10 sd) tt)) 10 (va_up (s.2 10) sd (s.2 10 sd + 1)))) := by
  have hb : mm.testBit 22 = gg.testBit 1 := by rw [hm]; exact mg_bit hq.1 (by omega) (by omega) 1
  have ht : td mm = tt := by rw [hm]; exact mg_td hq.1 (by omega) (by omega)
  have hg : rel2 sd (va_up c.1 9 (c.1 9), va_up c.2.1 8 (cApp 200 (c.2.1 8) (c.2.2 1) tt).1, va_up c.2.2 1 (cApp 200 (c.2.1 8) (c.2.2 1) tt).2) o (s.1, va_up (va_up s.2 9 (va_up (s.2 9) (201 * sd + s.2 10 sd) tt)) 10 (va_up (s.2 10) sd (s.2 10 sd + 1))) := by
    rw [up_id]; exact rel_key h hc ho
  unfold cBus cBusP
  rw [hb, ht]
  by_cases q : gg.testBit 1 = true
  · rw [if_pos q, if_pos q]
    have hx : (∃ k, k < c.2.1 8 ∧ c.2.2 1 k = tt) ↔ ∃ k, k < s.2 10 sd ∧ s.2 9 (201 * sd + k) = tt :=
      ⟨fun ⟨k, k1, k2⟩ => ⟨k, h.a.m8 ▸ k1, (h.a.b1 k k1) ▸ k2⟩, fun ⟨k, k1, k2⟩ => ⟨k, h.a.m8 ▸ k1, (h.a.b1 k (h.a.m8 ▸ k1)).trans k2⟩⟩
    by_cases q2 : ∃ k, k < s.2 10 sd ∧ s.2 9 (201 * sd + k) = tt
    · rw [if_pos q2, if_pos (hx.mpr q2)]
      rw [up_id, up_id, h.a.e9]
      exact h.xs h.a.e0 h.a.e1 h.a.e2 h.a.e3 h.a.e4 h.a.e5 (up_s (f := s.1 11)).symm (upI_n h.hs)
    · rw [if_neg q2, if_neg (fun z => q2 (hx.mp z))]
      exact hg
  · rw [if_neg q, if_neg q]
    exact hg
/-! answers -/
theorem wsIn_of (s : RS) : wsIn (wsOf s) s = s := by
  unfold wsIn wsOf
  refine Prod.ext up_id ?_
  show va_up (va_up (va_up (va_up (va_up s.2 17 (s.2 17)) 18 (s.2 18)) 19 (s.2 19)) 20 (s.2 20)) 21 (s.2 21) = s.2
  rw [up_id (f := s.2) (k := 17), up_id (f := s.2) (k := 18), up_id (f := s.2) (k := 19), up_id (f := s.2) (k := 20), up_id (f := s.2) (k := 21)]
theorem wsIn_puts {tm : Int32} {sd nn kk tt gg : Nat} {w : WS} {s : RS} : rPuts tm sd nn kk tt gg (wsIn w s) = wsIn (rPW tm sd nn kk tt gg w) s := by
  refine Prod.ext ?_ ?_
  · funext k
    by_cases e : k = 16
    · subst e; rfl
    · show va_up (va_up s.1 16 w.1) 16 _ k = va_up s.1 16 _ k
      rw [up_n e, up_n e, up_n e]
  · funext k
    by_cases e1 : k = 17
    · subst e1; rfl
    by_cases e2 : k = 18
    · subst e2; rfl
    by_cases e3 : k = 19
    · subst e3; rfl
    by_cases e4 : k = 20
    · subst e4; rfl
    by_cases e5 : k = 21
    · subst e5; rfl
    unfold rPuts wsIn
    dsimp only
    rw [up_n e5, up_n e4, up_n e3, up_n e2, up_n e1, up_n e5, up_n e4, up_n e3, up_n e2, up_n e1, up_n e5, up_n e4, up_n e3, up_n e2, up_n e1]
theorem rel_fill {tm : Int32} {sd b : Nat} {fo : Option Nat} {c o : CS} {w : WS} {s : RS} (h : rel2 sd c o (wsIn w s)) : rel2 sd (cFill tm fo b c o).1 (cFill tm fo b c o).2 (wsIn (rFW tm sd fo b w) s) := by
  cases fo with
  | none =>
    show rel2 sd (va_up c.1 4 (c.1 4), c.2) (o.1, va_up o.2.1 10 (o.2.1 10), va_up o.2.2 2 (o.2.2 2)) (wsIn w s)
    rw [up_id, up_id, up_id]
    exact h
  | some f =>
    have h2 := rel_put (tm := tm) (mm := mg f 4 b 1) h rfl
    rw [wsIn_puts] at h2
    exact h2
theorem cFill_own {tm : Int32} {b : Nat} {fo : Option Nat} {c o : CS} : (cFill tm fo b c o).1.2 = c.2 := rfl
theorem rel_rsl {tm : Int32} {sd : Nat} (s : RS) (hrow : ∀ i, okq i (s.2 6 (201 * sd + i)) (s.2 7 (201 * sd + i)) (s.2 8 (201 * sd + i)) ∨ 200 < i) : ∀ (k i : Nat) (fo : Option Nat) (c o : CS) (w : WS), 1 ≤ i → c.2.1 6 + 1 - i = k → c.2.1 6 ≤ 200 → rel2 sd c o (wsIn w s) →
    (cRsL tm k i fo c o).1 = (rAnsL tm sd (s.2 6) (s.2 7) (s.2 8) k i fo w).1 ∧ rel2 sd (cRsL tm k i fo c o).2.1 (cRsL tm k i fo c o).2.2 (wsIn (rAnsL tm sd (s.2 6) (s.2 7) (s.2 8) k i fo w).2 s)
  | 0, i, fo, c, o, w, _, _, _, h => ⟨rfl, h⟩
  | k + 1, i, fo, c, o, w, hi, hk, hn, h => by
    have hq := (hrow i).resolve_right (by omega)
    have hb0 : c.2.2 0 (i - 1) = mg i (s.2 6 (201 * sd + i)) (s.2 7 (201 * sd + i)) (s.2 8 (201 * sd + i)) := by
      have := h.a.b0 (i - 1) (by omega)
      rw [show i - 1 + 1 = i by omega] at this
      exact this
    have hB : hasB (c.2.1 6) (c.2.2 0) i ↔ s.2 6 (201 * sd + i) = 5 := by
      unfold hasB
      rw [hb0, mg_kd hq.1 (by omega) (by omega)]
      omega
    unfold cRsL rAnsL
    by_cases q : s.2 6 (201 * sd + i) = 5
    · rw [if_pos q, if_pos (hB.mpr q)]
      have h2 := rel_fill (tm := tm) (b := i) (fo := fo) h
      have h3 := rel_put (tm := tm) (mm := c.2.2 0 (i - 1) ||| 2097152) (nn := i) (kk := 5) (tt := s.2 7 (201 * sd + i)) (gg := s.2 8 (201 * sd + i) ||| 1) h2 (by rw [hb0, mg_or hq.2.2.2, q])
      rw [wsIn_puts] at h3
      exact rel_rsl s hrow k (i + 1) none _ _ _ (by omega) (show c.2.1 6 + 1 - (i + 1) = k by omega) hn h3
    · rw [if_neg q, if_neg (fun z => q (hB.mp z))]
      exact rel_rsl s hrow k (i + 1) _ c o w (by omega) (by omega) hn h
theorem rel_resend {tm : Int32} {sd frm : Nat} {c o : CS} {s : RS} (h : rel2 sd c o s) (hrow : ∀ i, okq i (s.2 6 (201 * sd + i)) (s.2 7 (201 * sd + i)) (s.2 8 (201 * sd + i)) ∨ 200 < i) (hf : 1 ≤ frm) : rel2 sd (cResend tm frm c o).1 (cResend tm frm c o).2 (rAnswers tm sd frm s) := by
  have h0 : rel2 sd c o (wsIn (wsOf s) s) := by rw [wsIn_of]; exact h
  have em : max frm 1 = frm := by omega
  obtain ⟨g1, g2⟩ := rel_rsl (tm := tm) s hrow (c.2.1 6 + 1 - frm) frm none c o (wsOf s) hf rfl h.na h0
  unfold cResend rAnswers rAnsW
  rw [em, ← h.a.m6, g1]
  exact rel_fill g2
