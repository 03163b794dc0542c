/-! ===== class and reference: what they have in common ===== -/
/-- a message, packed: number, kind, what it tells, marks -/
def mg (n k t g : Nat) : Nat := pkm n k t (g * 2097152)
theorem up_s {α : Type} {f : Nat → α} {k : Nat} {v : α} : va_up f k v k = v := if_pos rfl
theorem up_n {α : Type} {f : Nat → α} {k j : Nat} {v : α} (h : j ≠ k) : va_up f k v j = f j := if_neg h
abbrev rel (sd : Nat) (c : CS) (s : RS) : Prop :=
  (c.1 0 = s.1 3 sd) ∧
  (c.1 1 = s.1 12 sd) ∧
  (c.1 2 = s.1 13 sd) ∧
  (c.1 3 = s.1 14 sd) ∧
  (c.1 4 = s.1 16 sd) ∧
  (c.1 5 = s.1 15 sd) ∧
  (c.1 9 = s.1 11 sd) ∧
  (c.2.1 6 + 1 = s.2 4 sd) ∧
  (c.2.1 7 = s.2 5 sd) ∧
  (c.2.1 8 = s.2 10 sd) ∧
  (c.2.1 10 = s.2 17 sd) ∧
  (∀ j, j < c.2.1 6 → c.2.2 0 j = mg (j + 1) (s.2 6 (201 * sd + (j + 1))) (s.2 7 (201 * sd + (j + 1))) (s.2 8 (201 * sd + (j + 1)))) ∧
  (∀ j, j < c.2.1 8 → c.2.2 1 j = s.2 9 (201 * sd + j)) ∧
  (∀ j, j < c.2.1 10 → c.2.2 2 j = mg (s.2 18 (60 * sd + j)) (s.2 19 (60 * sd + j)) (s.2 20 (60 * sd + j)) (s.2 21 (60 * sd + j)))
theorem rel.e0 {sd : Nat} {c : CS} {s : RS} (h : rel sd c s) : c.1 0 = s.1 3 sd := h.1
theorem rel.e1 {sd : Nat} {c : CS} {s : RS} (h : rel sd c s) : c.1 1 = s.1 12 sd := h.2.1
theorem rel.e2 {sd : Nat} {c : CS} {s : RS} (h : rel sd c s) : c.1 2 = s.1 13 sd := h.2.2.1
theorem rel.e3 {sd : Nat} {c : CS} {s : RS} (h : rel sd c s) : c.1 3 = s.1 14 sd := h.2.2.2.1
theorem rel.e4 {sd : Nat} {c : CS} {s : RS} (h : rel sd c s) : c.1 4 = s.1 16 sd := h.2.2.2.2.1
theorem rel.e5 {sd : Nat} {c : CS} {s : RS} (h : rel sd c s) : c.1 5 = s.1 15 sd := h.2.2.2.2.2.1
theorem rel.e9 {sd : Nat} {c : CS} {s : RS} (h : rel sd c s) : c.1 9 = s.1 11 sd := h.2.2.2.2.2.2.1
theorem rel.m6 {sd : Nat} {c : CS} {s : RS} (h : rel sd c s) : c.2.1 6 + 1 = s.2 4 sd := h.2.2.2.2.2.2.2.1
theorem rel.m7 {sd : Nat} {c : CS} {s : RS} (h : rel sd c s) : c.2.1 7 = s.2 5 sd := h.2.2.2.2.2.2.2.2.1
theorem rel.m8 {sd : Nat} {c : CS} {s : RS} (h : rel sd c s) : c.2.1 8 = s.2 10 sd := h.2.2.2.2.2.2.2.2.2.1
theorem rel.m10 {sd : Nat} {c : CS} {s : RS} (h : rel sd c s) : c.2.1 10 = s.2 17 sd := h.2.2.2.2.2.2.2.2.2.2.1
theorem rel.b0 {sd : Nat} {c : CS} {s : RS} (h : rel sd c s) : ∀ j, j < c.2.1 6 → c.2.2 0 j = mg (j + 1) (s.2 6 (201 * sd + (j + 1))) (s.2 7 (201 * sd + (j + 1))) (s.2 8 (201 * sd + (j + 1))) := h.2.2.2.2.2.2.2.2.2.2.2.1
theorem rel.b1 {sd : Nat} {c : CS} {s : RS} (h : rel sd c s) : ∀ j, j < c.2.1 8 → c.2.2 1 j = s.2 9 (201 * sd + j) := h.2.2.2.2.2.2.2.2.2.2.2.2.1
theorem rel.b2 {sd : Nat} {c : CS} {s : RS} (h : rel sd c s) : ∀ j, j < c.2.1 10 → c.2.2 2 j = mg (s.2 18 (60 * sd + j)) (s.2 19 (60 * sd + j)) (s.2 20 (60 * sd + j)) (s.2 21 (60 * sd + j)) := h.2.2.2.2.2.2.2.2.2.2.2.2.2
/-- both sides -/
abbrev rel2 (sd : Nat) (c o : CS) (s : RS) : Prop :=
  (sd < 2) ∧
  (rel sd c s) ∧
  (rel (1 - sd) o s) ∧
  (c.2.1 10 ≤ 60) ∧
  (o.2.1 10 ≤ 60) ∧
  (c.2.1 6 ≤ 200) ∧
  (o.2.1 6 ≤ 200) ∧
  (c.2.1 8 ≤ 200) ∧
  (o.2.1 8 ≤ 200)
theorem rel2.hs {sd : Nat} {c o : CS} {s : RS} (h : rel2 sd c o s) : sd < 2 := h.1
theorem rel2.a {sd : Nat} {c o : CS} {s : RS} (h : rel2 sd c o s) : rel sd c s := h.2.1
theorem rel2.b {sd : Nat} {c o : CS} {s : RS} (h : rel2 sd c o s) : rel (1 - sd) o s := h.2.2.1
theorem rel2.ca {sd : Nat} {c o : CS} {s : RS} (h : rel2 sd c o s) : c.2.1 10 ≤ 60 := h.2.2.2.1
theorem rel2.cb {sd : Nat} {c o : CS} {s : RS} (h : rel2 sd c o s) : o.2.1 10 ≤ 60 := h.2.2.2.2.1
theorem rel2.na {sd : Nat} {c o : CS} {s : RS} (h : rel2 sd c o s) : c.2.1 6 ≤ 200 := h.2.2.2.2.2.1
theorem rel2.nb {sd : Nat} {c o : CS} {s : RS} (h : rel2 sd c o s) : o.2.1 6 ≤ 200 := h.2.2.2.2.2.2.1
theorem rel2.ka {sd : Nat} {c o : CS} {s : RS} (h : rel2 sd c o s) : c.2.1 8 ≤ 200 := h.2.2.2.2.2.2.2.1
theorem rel2.kb {sd : Nat} {c o : CS} {s : RS} (h : rel2 sd c o s) : o.2.1 8 ≤ 200 := h.2.2.2.2.2.2.2.2
theorem rel2.flip {sd : Nat} {c o : CS} {s : RS} (h : rel2 sd c o s) : rel2 (1 - sd) o c s :=
  have e : 1 - (1 - sd) = sd := by have := h.hs; omega
  ⟨by omega, h.b, by rw [e]; exact h.a, h.cb, h.ca, h.nb, h.na, h.kb, h.ka⟩
theorem rel_put {tm : Int32} {sd nn kk tt gg mm : Nat} {c o : CS} {s : RS} (h : rel2 sd c o s) (hm : mm = mg nn kk tt gg) : rel2 sd (cPutW tm mm c o).1 (cPutW tm mm c o).2 (rPuts tm sd nn kk tt gg s) := by
  have hs := h.hs
  have ne : sd ≠ 1 - sd := by omega
  have ca := h.ca
  have cb := h.cb
  by_cases q : 60 ≤ o.2.1 10
  · have q' : 60 ≤ s.2 17 (1 - sd) := h.b.m10 ▸ q
    have e1 : cApp 60 (o.2.1 10) (o.2.2 2) mm = (o.2.1 10, o.2.2 2) := if_pos q
    have e2 : rPP (1 - sd) (s.2 17) (s.2 18) (s.2 19) (s.2 20) (s.2 21) nn kk tt gg = (s.2 17, s.2 18, s.2 19, s.2 20, s.2 21) := if_pos q'
    unfold cPutW rPuts
    rw [e1, e2]
    exact ⟨hs, ⟨h.a.e0, h.a.e1, h.a.e2, h.a.e3, up_s.symm, h.a.e5, h.a.e9, h.a.m6, h.a.m7, h.a.m8, h.a.m10, h.a.b0, h.a.b1, h.a.b2⟩,
      ⟨h.b.e0, h.b.e1, h.b.e2, h.b.e3, h.b.e4.trans (up_n (Ne.symm ne)).symm, h.b.e5, h.b.e9, h.b.m6, h.b.m7, h.b.m8, h.b.m10, h.b.b0, h.b.b1, h.b.b2⟩, ca, cb, h.na, h.nb, h.ka, h.kb⟩
  · have q' : ¬ 60 ≤ s.2 17 (1 - sd) := h.b.m10 ▸ q
    have e1 : cApp 60 (o.2.1 10) (o.2.2 2) mm = (o.2.1 10 + 1, va_up (o.2.2 2) (o.2.1 10) mm) := if_neg q
    have e2 : rPP (1 - sd) (s.2 17) (s.2 18) (s.2 19) (s.2 20) (s.2 21) nn kk tt gg = (va_up (s.2 17) (1 - sd) (s.2 17 (1 - sd) + 1), va_up (s.2 18) (60 * (1 - sd) + s.2 17 (1 - sd)) nn, va_up (s.2 19) (60 * (1 - sd) + s.2 17 (1 - sd)) kk, va_up (s.2 20) (60 * (1 - sd) + s.2 17 (1 - sd)) tt, va_up (s.2 21) (60 * (1 - sd) + s.2 17 (1 - sd)) gg) := if_neg q'
    unfold cPutW rPuts
    rw [e1, e2, ← h.b.m10]
    refine ⟨hs, ⟨h.a.e0, h.a.e1, h.a.e2, h.a.e3, up_s.symm, h.a.e5, h.a.e9, h.a.m6, h.a.m7, h.a.m8, h.a.m10.trans (up_n ne).symm, h.a.b0, h.a.b1, fun j hj => ?_⟩,
      ⟨h.b.e0, h.b.e1, h.b.e2, h.b.e3, h.b.e4.trans (up_n (Ne.symm ne)).symm, h.b.e5, h.b.e9, h.b.m6, h.b.m7, h.b.m8, (up_s (f := s.2 17) (k := 1 - sd) (v := o.2.1 10 + 1)).symm, h.b.b0, h.b.b1, fun j hj => ?_⟩, ca, (show o.2.1 10 + 1 ≤ 60 by omega), h.na, h.nb, h.ka, h.kb⟩
    · have hj : j < c.2.1 10 := hj
      have n9 : 60 * sd + j ≠ 60 * (1 - sd) + o.2.1 10 := by
        rcases (show sd = 0 ∨ sd = 1 by omega) with rfl | rfl <;> omega
      show c.2.2 2 j = mg (va_up (s.2 18) _ nn (60 * sd + j)) (va_up (s.2 19) _ kk (60 * sd + j)) (va_up (s.2 20) _ tt (60 * sd + j)) (va_up (s.2 21) _ gg (60 * sd + j))
      rw [up_n n9, up_n n9, up_n n9, up_n n9]
      exact h.a.b2 j hj
    · have hj : j < o.2.1 10 + 1 := hj
      show va_up (o.2.2 2) (o.2.1 10) mm j = mg (va_up (s.2 18) _ nn (60 * (1 - sd) + j)) (va_up (s.2 19) _ kk (60 * (1 - sd) + j)) (va_up (s.2 20) _ tt (60 * (1 - sd) + j)) (va_up (s.2 21) _ gg (60 * (1 - sd) + j))
      by_cases e : j = o.2.1 10
      · subst e
        rw [up_s, up_s, up_s, up_s, up_s]
        exact hm
      · have n9 : 60 * (1 - sd) + j ≠ 60 * (1 - sd) + o.2.1 10 := by omega
        rw [up_n e, up_n n9, up_n n9, up_n n9, up_n n9]
        exact h.b.b2 j (by omega)
theorem rel_send {tm : Int32} {sd kk tt gg : Nat} {c o : CS} {s : RS} (h : rel2 sd c o s) : rel2 sd (cSend tm kk tt (gg * 2097152) c o).2.1 (cSend tm kk tt (gg * 2097152) c o).2.2 (rSends tm sd kk tt gg s) ∧ (c.2.1 6 < 200 → (cSend tm kk tt (gg * 2097152) c o).1 = nI ((rSends tm sd kk tt gg s).2 4 sd - 1)) := by
  have hs := h.hs
  have ne : sd ≠ 1 - sd := by omega
  have m6 := h.a.m6
  by_cases q : 200 ≤ c.2.1 6
  · have q' : ¬ s.2 4 sd ≤ 200 := by omega
    have e1 : cSend tm kk tt (gg * 2097152) c o = (-1, c, o) := if_pos q
    have e2 : rSends tm sd kk tt gg s = s := if_neg q'
    rw [e1, e2]
    exact ⟨h, fun z => by omega⟩
  · have q' : s.2 4 sd ≤ 200 := by omega
    have q2 : cApp 200 (c.2.1 6) (c.2.2 0) (pkm (c.2.1 6 + 1) kk tt (gg * 2097152)) = (c.2.1 6 + 1, va_up (c.2.2 0) (c.2.1 6) (pkm (c.2.1 6 + 1) kk tt (gg * 2097152))) := if_neg q
    have e1 : cSend tm kk tt (gg * 2097152) c o = (nI (c.2.1 6 + 1), cPutW tm (mg (c.2.1 6 + 1) kk tt gg) (c.1, va_up c.2.1 6 (c.2.1 6 + 1), va_up c.2.2 0 (va_up (c.2.2 0) (c.2.1 6) (mg (c.2.1 6 + 1) kk tt gg))) o) := by
      unfold cSend
      rw [if_neg q, q2]
      rfl
    have e2 : rSends tm sd kk tt gg s = rPuts tm sd (c.2.1 6 + 1) kk tt gg (s.1, rKeep sd kk tt gg s.2) := by
      unfold rSends
      rw [if_pos q', ← m6]
      rfl
    rw [e1, e2]
    have n4 : rKeep sd kk tt gg s.2 4 sd = c.2.1 6 + 2 := by
      show va_up (s.2 4) sd (s.2 4 sd + 1) sd = _
      rw [up_s]; omega
    refine ⟨rel_put ⟨hs, ⟨h.a.e0, h.a.e1, h.a.e2, h.a.e3, h.a.e4, h.a.e5, h.a.e9, (show c.2.1 6 + 1 + 1 = rKeep sd kk tt gg s.2 4 sd by rw [n4]), h.a.m7, h.a.m8, h.a.m10, fun j hj => ?_, h.a.b1, h.a.b2⟩,
      ⟨h.b.e0, h.b.e1, h.b.e2, h.b.e3, h.b.e4, h.b.e5, h.b.e9, h.b.m6.trans (up_n (f := s.2 4) (Ne.symm ne)).symm, h.b.m7, h.b.m8, h.b.m10, fun j hj => ?_, h.b.b1, h.b.b2⟩, h.ca, h.cb, (show c.2.1 6 + 1 ≤ 200 by omega), h.nb, h.ka, h.kb⟩ rfl, fun _ => ?_⟩
    · have hj : j < c.2.1 6 + 1 := hj
      show va_up (c.2.2 0) (c.2.1 6) (mg (c.2.1 6 + 1) kk tt gg) j = mg (j + 1) (va_up (s.2 6) (201 * sd + s.2 4 sd) kk (201 * sd + (j + 1))) (va_up (s.2 7) (201 * sd + s.2 4 sd) tt (201 * sd + (j + 1))) (va_up (s.2 8) (201 * sd + s.2 4 sd) gg (201 * sd + (j + 1)))
      rw [← m6]
      by_cases e : j = c.2.1 6
      · subst e
        rw [up_s, up_s, up_s, up_s]
      · have n9 : 201 * sd + (j + 1) ≠ 201 * sd + (c.2.1 6 + 1) := by omega
        rw [up_n e, up_n n9, up_n n9, up_n n9]
        exact h.a.b0 j (by omega)
    · have hj : j < o.2.1 6 := hj
      have nb := h.nb
      show o.2.2 0 j = mg (j + 1) (va_up (s.2 6) (201 * sd + s.2 4 sd) kk (201 * (1 - sd) + (j + 1))) (va_up (s.2 7) (201 * sd + s.2 4 sd) tt (201 * (1 - sd) + (j + 1))) (va_up (s.2 8) (201 * sd + s.2 4 sd) gg (201 * (1 - sd) + (j + 1)))
      have n9 : 201 * (1 - sd) + (j + 1) ≠ 201 * sd + s.2 4 sd := by
        rcases (show sd = 0 ∨ sd = 1 by omega) with rfl | rfl <;> omega
      rw [up_n n9, up_n n9, up_n n9]
      exact h.b.b0 j hj
    · show nI (c.2.1 6 + 1) = nI (rKeep sd kk tt gg s.2 4 sd - 1)
      rw [n4]
      rfl
/-! one side's row of numbers changes -/
theorem rel2.xs {sd : Nat} {c o : CS} {s : RS} (h : rel2 sd c o s) {x : Nat → Int32} {I : Nat → Nat → Int32} (g0 : x 0 = I 3 sd) (g1 : x 1 = I 12 sd) (g2 : x 2 = I 13 sd) (g3 : x 3 = I 14 sd) (g4 : x 4 = I 16 sd) (g5 : x 5 = I 15 sd) (g9 : x 9 = I 11 sd) (ho : ∀ k, I k (1 - sd) = s.1 k (1 - sd)) : rel2 sd (x, c.2) o (I, s.2) :=
  ⟨h.hs, ⟨g0, g1, g2, g3, g4, g5, g9, h.a.m6, h.a.m7, h.a.m8, h.a.m10, h.a.b0, h.a.b1, h.a.b2⟩,
    ⟨h.b.e0.trans (ho 3).symm, h.b.e1.trans (ho 12).symm, h.b.e2.trans (ho 13).symm, h.b.e3.trans (ho 14).symm, h.b.e4.trans (ho 16).symm, h.b.e5.trans (ho 15).symm, h.b.e9.trans (ho 11).symm, h.b.m6, h.b.m7, h.b.m8, h.b.m10, h.b.b0, h.b.b1, h.b.b2⟩, h.ca, h.cb, h.na, h.nb, h.ka, h.kb⟩
theorem upI_n {I : Nat → Nat → Int32} {sd f : Nat} {v : Int32} (hs : sd < 2) (k : Nat) : va_up I f (va_up (I f) sd v) k (1 - sd) = I k (1 - sd) := by
  by_cases e : k = f
  · subst e; rw [up_s, up_n (by omega)]
  · rw [up_n e]
theorem rel_off {sd : Nat} {c o : CS} {s : RS} (h : rel2 sd c o s) : rel2 sd (cOff c.1, c.2) o (rTurns sd s.1, s.2) :=
  h.xs (up_s (f := s.1 3)).symm (up_s (f := s.1 12)).symm h.a.e2 h.a.e3 h.a.e4 h.a.e5 h.a.e9 (fun k => by
    unfold rTurns
    by_cases e : k = 12
    · subst e; rw [up_s, up_n (by have := h.hs; omega)]
    · rw [up_n e]; exact upI_n h.hs k)
theorem rel_ask {tm : Int32} {sd : Nat} {c o : CS} {s : RS} (h : rel2 sd c o s) : rel2 sd (cAsk tm c o).1 (cAsk tm c o).2 (rAsks tm sd s) := by
  unfold cAsk rAsks
  rw [h.a.e0, h.a.e1]
  by_cases q : s.1 3 sd = 2
  · rw [if_pos q, if_pos q]
    by_cases q2 : s.1 12 sd = 0
    · rw [if_pos q2, if_pos q2]
      have h2 := (rel_send (tm := tm) (kk := 3) (tt := c.2.1 7) (gg := 0) h).1
      rw [h.a.m7] at h2 ⊢
      exact h2.xs h2.a.e0 (up_s (f := (rSends tm sd 3 (s.2 5 sd) 0 s).1 12)).symm (up_s (f := (rSends tm sd 3 (s.2 5 sd) 0 s).1 13)).symm h2.a.e3 h2.a.e4 h2.a.e5 h2.a.e9 (fun k => by
        by_cases e : k = 13
        · subst e; rw [up_s, up_n (by have := h.hs; omega)]
        · rw [up_n e]; exact upI_n h.hs k)
    · rw [if_neg q2, if_neg q2]; exact h
  · rw [if_neg q, if_neg q]; exact h
theorem rel_tickx {tm : Int32} {sd : Nat} {c o : CS} {s : RS} (h : rel2 sd c o s) : rel2 sd (cTickX tm c.1, c.2) o (rTickX tm sd s.1, s.2) := by
  unfold cTickX rTickX
  rw [h.a.e2]
  by_cases q : s.1 12 sd = 0
  · rw [if_pos q]
    by_cases q2 : tm - s.1 13 sd < 4
    · rw [if_pos q2]; exact h
    · rw [if_neg q2]
      exact h.xs h.a.e0 q.symm h.a.e2 h.a.e3 h.a.e4 h.a.e5 h.a.e9 (fun _ => rfl)
  · rw [if_neg q]
    by_cases q2 : tm - s.1 13 sd < 4
    · rw [if_pos q2, if_pos q2]; exact h
    · rw [if_neg q2, if_neg q2]
      exact h.xs h.a.e0 (up_s (f := s.1 12)).symm h.a.e2 h.a.e3 h.a.e4 h.a.e5 h.a.e9 (upI_n h.hs)
theorem tickx_same {tm : Int32} {sd : Nat} {I : Nat → Nat → Int32} (k j : Nat) (hk : k ≠ 12) : rTickX tm sd I k j = I k j := by
  unfold rTickX
  by_cases q : I 12 sd = 0
  · rw [if_pos q]
  · rw [if_neg q]
    by_cases q2 : tm - I 13 sd < 4
    · rw [if_pos q2]
    · rw [if_neg q2, up_n hk]
theorem rel_tick {tm : Int32} {sd : Nat} {c o : CS} {s : RS} (h : rel2 sd c o s) (ha : ¬ s.1 3 sd = 2 → s.1 12 sd = 0) : rel2 sd (cTick tm c o).1 (cTick tm c o).2 (rTick tm sd s) := by
  have hx := rel_tickx (tm := tm) h
  have hsnd : ∀ kk, rel2 sd (cSend tm kk 0 0 (cTickX tm c.1, c.2) o).2.1 (cSend tm kk 0 0 (cTickX tm c.1, c.2) o).2.2 (rSends tm sd kk 0 0 (rTickX tm sd s.1, s.2)) := fun kk => (rel_send (tm := tm) (kk := kk) (tt := 0) (gg := 0) hx).1
  unfold cTick rTick
  rw [h.a.e0, h.a.e3, h.a.e4, h.a.e5]
  by_cases q : s.1 3 sd = 2
  · rw [if_pos q, if_pos q]
    by_cases q1 : tm - s.1 14 sd < 8
    · rw [if_pos q1, if_pos q1]
      by_cases q2 : tm - s.1 14 sd < 5
      · rw [if_pos q2, if_pos q2]
        by_cases q3 : tm - s.1 16 sd < 3
        · rw [if_pos q3, if_pos q3]; exact hx
        · rw [if_neg q3, if_neg q3]; exact hsnd 1
      · rw [if_neg q2, if_neg q2]
        by_cases q4 : s.1 15 sd = 0
        · rw [if_pos q4, if_pos q4]
          have hy : rel2 sd (va_up (cTickX tm c.1) 5 1, c.2) o (va_up (rTickX tm sd s.1) 15 (va_up (rTickX tm sd s.1 15) sd 1), s.2) :=
            hx.xs hx.a.e0 hx.a.e1 hx.a.e2 hx.a.e3 hx.a.e4 (up_s (f := rTickX tm sd s.1 15)).symm hx.a.e9 (upI_n h.hs)
          exact (rel_send (tm := tm) (kk := 2) (tt := 0) (gg := 0) hy).1
        · rw [if_neg q4, if_neg q4]
          by_cases q3 : tm - s.1 16 sd < 3
          · rw [if_pos q3, if_pos q3]; exact hx
          · rw [if_neg q3, if_neg q3]; exact hsnd 1
    · rw [if_neg q1, if_neg q1]
      exact rel_off hx
  · rw [if_neg q, if_neg q]
    have e : rTickX tm sd s.1 = s.1 := if_pos (ha q)
    rw [e]
    exact h
