/-! ===== the reference's state: rows of numbers as they are (I), rows of naturals (N), by the field's place ===== -/
abbrev RS : Type := (Nat → Nat → Int32) × (Nat → Nat → Nat)
abbrev nb (N : Nat → Nat → Nat) : Prop := ∀ k j, N k j < 16777216
def rw' (N : Nat → Nat → Nat) : Prop := ∀ sd, sd < 2 → (1 ≤ N 4 sd ∧ N 4 sd ≤ 201 ∧ N 17 sd ≤ 60)
def rPP (too : Nat) (m17 m18 m19 m20 m21 : Nat → Nat) (nn kk tt gg : Nat) : (Nat → Nat) × (Nat → Nat) × (Nat → Nat) × (Nat → Nat) × (Nat → Nat) := if 60 ≤ m17 too then (m17, m18, m19, m20, m21) else
  (va_up m17 too (m17 too + 1), va_up m18 (60 * too + m17 too) nn, va_up m19 (60 * too + m17 too) kk, va_up m20 (60 * too + m17 too) tt, va_up m21 (60 * too + m17 too) gg)
def rPuts (tm : Int32) (sd nn kk tt gg : Nat) (s : RS) : RS := (va_up s.1 16 (va_up (s.1 16) sd tm),
  va_up (va_up (va_up (va_up (va_up s.2 17 (rPP (1 - sd) (s.2 17) (s.2 18) (s.2 19) (s.2 20) (s.2 21) nn kk tt gg).1) 18 (rPP (1 - sd) (s.2 17) (s.2 18) (s.2 19) (s.2 20) (s.2 21) nn kk tt gg).2.1) 19 (rPP (1 - sd) (s.2 17) (s.2 18) (s.2 19) (s.2 20) (s.2 21) nn kk tt gg).2.2.1) 20 (rPP (1 - sd) (s.2 17) (s.2 18) (s.2 19) (s.2 20) (s.2 21) nn kk tt gg).2.2.2.1) 21 (rPP (1 - sd) (s.2 17) (s.2 18) (s.2 19) (s.2 20) (s.2 21) nn kk tt gg).2.2.2.2)
def rKeep (sd kk tt gg : Nat) (N : Nat → Nat → Nat) : Nat → Nat → Nat := va_up (va_up (va_up (va_up N 6 (va_up (N 6) (201 * sd + N 4 sd) kk)) 7 (va_up (N 7) (201 * sd + N 4 sd) tt)) 8 (va_up (N 8) (201 * sd + N 4 sd) gg)) 4 (va_up (N 4) sd (N 4 sd + 1))
def rSends (tm : Int32) (sd kk tt gg : Nat) (s : RS) : RS := if s.2 4 sd ≤ 200 then rPuts tm sd (s.2 4 sd + 1 - 1) kk tt gg (s.1, rKeep sd kk tt gg s.2) else s
def rTurns (sd : Nat) (I : Nat → Nat → Int32) : Nat → Nat → Int32 := va_up (va_up I 3 (va_up (I 3) sd 0)) 12 (va_up (I 12) sd 0)
noncomputable def rLogsOn (tm : Int32) (sd : Nat) (aP : Prop) (s : RS) : RS := @ite RS aP (Classical.propDecidable _) (rSends tm sd 0 0 0 (va_up (va_up s.1 3 (va_up (s.1 3) sd 2)) 12 (va_up (s.1 12) sd 0), s.2)) (if s.1 3 sd = 1 then (va_up s.1 3 (va_up (s.1 3) sd 2), s.2) else s)
/-- the wires and the times of putting -/
abbrev WS : Type := (Nat → Int32) × (Nat → Nat) × (Nat → Nat) × (Nat → Nat) × (Nat → Nat) × (Nat → Nat)
def rPW (tm : Int32) (sd nn kk tt gg : Nat) (w : WS) : WS := (va_up w.1 sd tm, rPP (1 - sd) w.2.1 w.2.2.1 w.2.2.2.1 w.2.2.2.2.1 w.2.2.2.2.2 nn kk tt gg)
def rFW (tm : Int32) (sd : Nat) (fo : Option Nat) (behind : Nat) (w : WS) : WS := match fo with
  | none => w
  | some f => rPW tm sd f 4 behind 1 w
noncomputable def rAnsL (tm : Int32) (sd : Nat) (K T G : Nat → Nat) : Nat → Nat → Option Nat → WS → Option Nat × WS
  | 0, _, fo, w => (fo, w)
  | k + 1, i, fo, w => @ite (Option Nat × WS) (K (201 * sd + i) = 5) (Classical.propDecidable _)
      (rAnsL tm sd K T G k (i + 1) none (rPW tm sd i 5 (T (201 * sd + i)) (G (201 * sd + i) ||| 1) (rFW tm sd fo i w)))
      (rAnsL tm sd K T G k (i + 1) (match fo with
        | none => some i
        | some f => some f) w)
def wsOf (s : RS) : WS := (s.1 16, s.2 17, s.2 18, s.2 19, s.2 20, s.2 21)
def wsIn (w : WS) (s : RS) : RS := (va_up s.1 16 w.1, va_up (va_up (va_up (va_up (va_up s.2 17 w.2.1) 18 w.2.2.1) 19 w.2.2.2.1) 20 w.2.2.2.2.1) 21 w.2.2.2.2.2)
noncomputable def rAnsW (tm : Int32) (sd frm : Nat) (n4 : Nat) (K T G : Nat → Nat) (w : WS) : WS := rFW tm sd (rAnsL tm sd K T G (n4 - frm) frm none w).1 n4 (rAnsL tm sd K T G (n4 - frm) frm none w).2
noncomputable def rAnswers (tm : Int32) (sd frm : Nat) (s : RS) : RS := wsIn (rAnsW tm sd frm (s.2 4 sd) (s.2 6) (s.2 7) (s.2 8) (wsOf s)) s
noncomputable def rHandles (tm : Int32) (sd kk tt gg : Nat) (s : RS) : RS :=
  if kk = 0 then rLogsOn tm sd (gg.testBit 2 = true) s
  else if kk = 2 then rSends tm sd 1 0 0 s
  else if kk = 3 then rAnswers tm sd tt s
  else if kk = 6 then (rTurns sd (rSends tm sd 6 0 0 s).1, (rSends tm sd 6 0 0 s).2)
  else if kk = 5 then
    (if gg.testBit 1 = true then @ite RS (∃ k, k < s.2 10 sd ∧ s.2 9 (201 * sd + k) = tt) (Classical.propDecidable _) (va_up s.1 11 (va_up (s.1 11) sd (s.1 11 sd + 1)), s.2)
        (s.1, va_up (va_up s.2 9 (va_up (s.2 9) (201 * sd + s.2 10 sd) tt)) 10 (va_up (s.2 10) sd (s.2 10 sd + 1)))
     else (s.1, va_up (va_up s.2 9 (va_up (s.2 9) (201 * sd + s.2 10 sd) tt)) 10 (va_up (s.2 10) sd (s.2 10 sd + 1))))
  else s
def rAsks (tm : Int32) (sd : Nat) (s : RS) : RS := if s.1 3 sd = 2 then if s.1 12 sd = 0 then
    (va_up (va_up (rSends tm sd 3 (s.2 5 sd) 0 s).1 12 (va_up ((rSends tm sd 3 (s.2 5 sd) 0 s).1 12) sd 1)) 13 (va_up ((rSends tm sd 3 (s.2 5 sd) 0 s).1 13) sd tm), (rSends tm sd 3 (s.2 5 sd) 0 s).2) else s else s
noncomputable def rComes (tm : Int32) (sd nn kk tt gg : Nat) (s : RS) : RS :=
  if nn = s.2 5 sd then rHandles tm sd kk tt gg (va_up s.1 12 (va_up (s.1 12) sd 0), va_up s.2 5 (va_up (s.2 5) sd (if kk = 4 then tt else nn + 1)))
  else if nn ≤ s.2 5 sd then (if gg.testBit 0 = true then (va_up s.1 11 (va_up (s.1 11) sd (s.1 11 sd + 1)), s.2) else (rTurns sd s.1, s.2))
  else if kk = 0 then rAsks tm sd (rHandles tm sd kk tt gg s)
  else if kk = 3 then rAsks tm sd (rHandles tm sd kk tt gg s)
  else rAsks tm sd s
def rTickX (tm : Int32) (sd : Nat) (I : Nat → Nat → Int32) : Nat → Nat → Int32 := if I 12 sd = 0 then I else if tm - I 13 sd < 4 then I else va_up I 12 (va_up (I 12) sd 0)
def rTick (tm : Int32) (sd : Nat) (s : RS) : RS := if s.1 3 sd = 2 then
    if tm - s.1 14 sd < 8 then
      if tm - s.1 14 sd < 5 then (if tm - s.1 16 sd < 3 then (rTickX tm sd s.1, s.2) else rSends tm sd 1 0 0 (rTickX tm sd s.1, s.2))
      else if s.1 15 sd = 0 then rSends tm sd 2 0 0 (va_up (rTickX tm sd s.1) 15 (va_up (rTickX tm sd s.1 15) sd 1), s.2)
      else if tm - s.1 16 sd < 3 then (rTickX tm sd s.1, s.2) else rSends tm sd 1 0 0 (rTickX tm sd s.1, s.2)
    else (rTurns sd (rTickX tm sd s.1), s.2)
  else (rTickX tm sd s.1, s.2)
def rEmpties (s : RS) : RS := (va_up s.1 11 (va_up (va_up (s.1 11) 0 0) 1 0), va_up (va_up (va_up (va_up s.2 4 (va_up (va_up (s.2 4) 0 1) 1 1)) 5 (va_up (va_up (s.2 5) 0 1) 1 1)) 10 (va_up (va_up (s.2 10) 0 0) 1 0)) 17 (va_up (va_up (s.2 17) 0 0) 1 0))
/-- a row from lo on moves down by one, c places of it -/
def rSh (lo c : Nat) (g : Nat → Nat) : Nat → Nat := fun j => if lo ≤ j ∧ j < lo + c then g (j + 1) else g j
def rRemoves (sd : Nat) (N : Nat → Nat → Nat) : Nat → Nat → Nat := va_up (va_up (va_up (va_up (va_up N 17 (va_up (N 17) sd (N 17 sd - 1))) 18 (rSh (60 * sd) (N 17 sd - 1) (N 18))) 19 (rSh (60 * sd) (N 17 sd - 1) (N 19))) 20 (rSh (60 * sd) (N 17 sd - 1) (N 20))) 21 (rSh (60 * sd) (N 17 sd - 1) (N 21))
theorem rSh_0 {lo : Nat} {g : Nat → Nat} (k : Nat) : g k = rSh lo 0 g k := by
  unfold rSh
  rw [if_neg (by omega)]
theorem rSh_step {lo i : Nat} {g f : Nat → Nat} (hf : ∀ k, f k = rSh lo i g k) (k : Nat) : va_up f (lo + i) (f (lo + i + 1)) k = rSh lo (i + 1) g k := by
  unfold va_up
  by_cases h : k = lo + i
  · rw [if_pos h, hf]
    unfold rSh
    rw [if_neg (by omega), if_pos (by omega), h]
  · rw [if_neg h, hf]
    unfold rSh
    by_cases h2 : lo ≤ k ∧ k < lo + i
    · rw [if_pos h2, if_pos (by omega)]
    · rw [if_neg h2, if_neg (by omega)]
theorem ra_end {tm : Int32} {sd : Nat} {K T G : Nat → Nat} {n4 frm i : Nat} {fo : Option Nat} {w w0 : WS} (hinv : rAnsL tm sd K T G (n4 - i) i fo w = rAnsL tm sd K T G (n4 - frm) frm none w0) (hi : n4 ≤ i) : rAnsW tm sd frm n4 K T G w0 = rFW tm sd fo n4 w := by
  rw [show n4 - i = 0 by omega] at hinv
  have e : rAnsL tm sd K T G (n4 - frm) frm none w0 = (fo, w) := hinv.symm
  unfold rAnsW
  rw [e]
theorem ra_yes {tm : Int32} {sd : Nat} {K T G : Nat → Nat} {n4 i : Nat} {fo : Option Nat} {w : WS} (hi : i < n4) (h : K (201 * sd + i) = 5) : rAnsL tm sd K T G (n4 - i) i fo w = rAnsL tm sd K T G (n4 - (i + 1)) (i + 1) none (rPW tm sd i 5 (T (201 * sd + i)) (G (201 * sd + i) ||| 1) (rFW tm sd fo i w)) := by
  rw [show n4 - i = (n4 - (i + 1)) + 1 by omega]
  exact if_pos h
theorem ra_no {tm : Int32} {sd : Nat} {K T G : Nat → Nat} {n4 i : Nat} {fo fo2 : Option Nat} {w : WS} (hi : i < n4) (h : ¬ K (201 * sd + i) = 5) (hfo : fo2 = match fo with
    | none => some i
    | some f => some f) : rAnsL tm sd K T G (n4 - i) i fo w = rAnsL tm sd K T G (n4 - (i + 1)) (i + 1) fo2 w := by
  rw [show n4 - i = (n4 - (i + 1)) + 1 by omega, hfo]
  exact if_neg h
theorem rPP_17 {too : Nat} {m17 m18 m19 m20 m21 : Nat → Nat} {nn kk tt gg : Nat} (h : m17 too ≤ 60) (j : Nat) (hj : m17 j ≤ 60) : (rPP too m17 m18 m19 m20 m21 nn kk tt gg).1 j ≤ 60 := by
  unfold rPP
  by_cases q : 60 ≤ m17 too
  · rw [if_pos q]; exact hj
  · rw [if_neg q]
    show va_up m17 too (m17 too + 1) j ≤ 60
    unfold va_up
    by_cases q2 : j = too
    · rw [if_pos q2]; omega
    · rw [if_neg q2]; exact hj
theorem rw_puts {tm : Int32} {sd nn kk tt gg : Nat} {s : RS} (hsd : sd < 2) (h : rw' s.2) : rw' (rPuts tm sd nn kk tt gg s).2 := by
  intro j hj
  obtain ⟨h1, h2, h3⟩ := h j hj
  exact ⟨h1, h2, rPP_17 (h (1 - sd) (by omega)).2.2 j h3⟩
theorem rw_sends {tm : Int32} {sd kk tt gg : Nat} {s : RS} (hsd : sd < 2) (h : rw' s.2) : rw' (rSends tm sd kk tt gg s).2 := by
  unfold rSends
  by_cases q : s.2 4 sd ≤ 200
  · rw [if_pos q]
    apply rw_puts hsd
    intro j hj
    obtain ⟨h1, h2, h3⟩ := h j hj
    have e : rKeep sd kk tt gg s.2 4 j = if j = sd then s.2 4 sd + 1 else s.2 4 j := rfl
    show 1 ≤ rKeep sd kk tt gg s.2 4 j ∧ rKeep sd kk tt gg s.2 4 j ≤ 201 ∧ _
    rw [e]
    by_cases q2 : j = sd
    · rw [if_pos q2]; exact ⟨by omega, by omega, h3⟩
    · rw [if_neg q2]; exact ⟨h1, h2, h3⟩
  · rw [if_neg q]; exact h
theorem rFW_17 {tm : Int32} {sd : Nat} {fo : Option Nat} {b : Nat} {w : WS} (h : ∀ j, j < 2 → w.2.1 j ≤ 60) (hsd : sd < 2) : ∀ j, j < 2 → (rFW tm sd fo b w).2.1 j ≤ 60 := by
  cases fo
  · exact h
  · exact fun j hj => rPP_17 (h (1 - sd) (by omega)) j (h j hj)
theorem rAnsL_17 {tm : Int32} {sd : Nat} {K T G : Nat → Nat} (hsd : sd < 2) : ∀ (k i : Nat) (fo : Option Nat) (w : WS), (∀ j, j < 2 → w.2.1 j ≤ 60) → ∀ j, j < 2 → (rAnsL tm sd K T G k i fo w).2.2.1 j ≤ 60
  | 0, _, _, _, h => h
  | k + 1, i, fo, w, h => by
    unfold rAnsL
    by_cases q : K (201 * sd + i) = 5
    · rw [if_pos q]
      exact rAnsL_17 hsd k (i + 1) none _ (fun j hj => rPP_17 (rFW_17 h hsd (1 - sd) (by omega)) j (rFW_17 h hsd j hj))
    · rw [if_neg q]
      exact rAnsL_17 hsd k (i + 1) _ _ h
theorem rw_answers {tm : Int32} {sd frm : Nat} {s : RS} (hsd : sd < 2) (h : rw' s.2) : rw' (rAnswers tm sd frm s).2 := by
  intro j hj
  obtain ⟨h1, h2, h3⟩ := h j hj
  exact ⟨h1, h2, rFW_17 (rAnsL_17 hsd _ _ _ _ (fun j hj => (h j hj).2.2)) hsd j hj⟩
theorem rw_logs {tm : Int32} {sd : Nat} {aP : Prop} {s : RS} (hsd : sd < 2) (h : rw' s.2) : rw' (rLogsOn tm sd aP s).2 := by
  unfold rLogsOn
  by_cases q : aP
  · rw [if_pos q]; exact rw_sends hsd h
  · rw [if_neg q]
    by_cases q2 : s.1 3 sd = 1
    · rw [if_pos q2]; exact h
    · rw [if_neg q2]; exact h
theorem rw_handles {tm : Int32} {sd kk tt gg : Nat} {s : RS} (hsd : sd < 2) (h : rw' s.2) : rw' (rHandles tm sd kk tt gg s).2 := by
  unfold rHandles
  by_cases k0 : kk = 0
  · rw [if_pos k0]; exact rw_logs hsd h
  rw [if_neg k0]
  by_cases k2 : kk = 2
  · rw [if_pos k2]; exact rw_sends hsd h
  rw [if_neg k2]
  by_cases k3 : kk = 3
  · rw [if_pos k3]; exact rw_answers hsd h
  rw [if_neg k3]
  by_cases k6 : kk = 6
  · rw [if_pos k6]; exact rw_sends hsd h
  rw [if_neg k6]
  by_cases k5 : kk = 5
  · rw [if_pos k5]
    by_cases g1 : gg.testBit 1 = true
    · rw [if_pos g1]
      by_cases ex : ∃ k, k < s.2 10 sd ∧ s.2 9 (201 * sd + k) = tt
      · rw [if_pos ex]; exact h
      · rw [if_neg ex]; exact h
    · rw [if_neg g1]; exact h
  · rw [if_neg k5]; exact h
theorem rw_5 {N : Nat → Nat → Nat} {f : Nat → Nat} (h : rw' N) : rw' (va_up N 5 f) := h
theorem side_ok {sd : Nat} (h : sd < 2) : b2i (¬ nI sd < 0 ∧ ¬ 1 < nI sd) = 1 := (b2i_t ⟨nI_pos (by omega), fun z => absurd ((nI_ltI (a := 1) (b := sd) (by omega) (by omega)).mp z) (by omega)⟩).symm
def nmF : Nat → Int32 := va_up (va_up (va_up (va_up (va_up (va_up (va_up (va_up (va_up (va_up (va_up (va_up (va_up (va_up (va_up (va_up (va_up (va_up (va_up (va_up (va_up (va_up (va_up (va_up (va_up (va_up (va_up (va_up (va_up (va_up (va_up (va_up (va_up (va_up (va_up (va_up (va_up (va_up (va_up (va_up (va_up (va_up (va_up (va_up (va_up (va_up (va_up (va_up (va_up (va_up (va_up (va_up (va_up (va_up (va_up (va_up (va_up (va_up (va_up (va_up (va_up (va_up (va_up (fun _ => 0) 0 76) 1 79) 2 71) 3 79) 4 78) 5 32) 6 32) 7 32) 8 32) 9 72) 10 69) 11 65) 12 82) 13 84) 14 66) 15 69) 16 65) 17 84) 18 84) 19 69) 20 83) 21 84) 22 32) 23 32) 24 32) 25 32) 26 32) 27 82) 28 69) 29 83) 30 69) 31 78) 32 68) 33 32) 34 32) 35 32) 36 70) 37 73) 38 76) 39 76) 40 32) 41 32) 42 32) 43 32) 44 32) 45 66) 46 85) 47 83) 48 73) 49 78) 50 69) 51 83) 52 83) 53 32) 54 76) 55 79) 56 71) 57 79) 58 85) 59 84) 60 32) 61 32) 62 32
theorem rw_keep {sd kk tt gg : Nat} {N : Nat → Nat → Nat} (hsd : sd < 2) (h : rw' N) (q : N 4 sd ≤ 200) : rw' (rKeep sd kk tt gg N) := by
  intro j hj
  obtain ⟨h1, h2, h3⟩ := h j hj
  have e : rKeep sd kk tt gg N 4 j = if j = sd then N 4 sd + 1 else N 4 j := rfl
  rw [e]
  by_cases q2 : j = sd
  · rw [if_pos q2]; exact ⟨by omega, by omega, h3⟩
  · rw [if_neg q2]; exact ⟨h1, h2, h3⟩
theorem nb_5 {N : Nat → Nat → Nat} {sd v : Nat} (h : nb N) (hv : v < 16777216) : nb (va_up N 5 (va_up (N 5) sd v)) := by
  intro k j
  unfold va_up
  by_cases q : k = 5
  · rw [if_pos q]
    by_cases q2 : j = sd
    · rw [if_pos q2]; exact hv
    · rw [if_neg q2]; exact h 5 j
  · rw [if_neg q]; exact h k j
theorem rw_tick {tm : Int32} {sd : Nat} {s : RS} (hsd : sd < 2) (h : rw' s.2) : rw' (rTick tm sd s).2 := by
  unfold rTick
  by_cases q : s.1 3 sd = 2
  · rw [if_pos q]
    by_cases q1 : tm - s.1 14 sd < 8
    · rw [if_pos q1]
      by_cases q2 : tm - s.1 14 sd < 5
      · rw [if_pos q2]
        by_cases q3 : tm - s.1 16 sd < 3
        · rw [if_pos q3]; exact h
        · rw [if_neg q3]; exact rw_sends (s := (_, s.2)) hsd h
      · rw [if_neg q2]
        by_cases q4 : s.1 15 sd = 0
        · rw [if_pos q4]; exact rw_sends (s := (_, s.2)) hsd h
        · rw [if_neg q4]
          by_cases q3 : tm - s.1 16 sd < 3
          · rw [if_pos q3]; exact h
          · rw [if_neg q3]; exact rw_sends (s := (_, s.2)) hsd h
    · rw [if_neg q1]; exact h
  · rw [if_neg q]; exact h
theorem b2i_gt {P : Prop} : 0 < b2i P ↔ P := by
  by_cases h : P
  · rw [← b2i_t h]; exact ⟨fun _ => h, fun _ => by decide⟩
  · rw [← b2i_f h]; exact ⟨fun z => absurd z (by decide), fun z => absurd z h⟩
theorem b2i_ngt {P : Prop} : ¬ 0 < b2i P ↔ ¬ P := not_congr b2i_gt
theorem b2i_le {P : Prop} : b2i P ≤ 0 ↔ ¬ P := by
  by_cases h : P
  · rw [← b2i_t h]; exact ⟨fun z => absurd z (by decide), fun z => absurd h z⟩
  · rw [← b2i_f h]; exact ⟨fun _ => h, fun _ => by decide⟩
theorem b2i_nle {P : Prop} : ¬ b2i P ≤ 0 ↔ P := by rw [b2i_le]; exact ⟨fun h => Classical.byContradiction h, fun h z => z h⟩
/-! ===== the reference's calls, for a side that is one ===== -/
def rErr (a : Int32) (n : Nat) : Prop := ¬ a = 2 ∨ 200 < n
def onW (n : Nat) (p1 : Int32) : Prop := ¬ p1 < 0 ∧ ¬ nI n - 1 < p1
theorem onW_of {n : Nat} {p1 : Int32} (hn : n ≤ 300) (h : onW n p1) : ∃ j, j < n ∧ p1 = nI j := by
  obtain ⟨h0, h1⟩ := h
  obtain ⟨j, hj, rfl⟩ := nI_of h0
  refine ⟨j, ?_, rfl⟩
  rcases Nat.lt_or_ge j n with q | q
  · exact q
  · refine absurd ?_ h1
    rcases Nat.eq_zero_or_pos n with z | z
    · subst z
      rw [Int32.lt_iff_toInt_lt, nI_toInt hj]
      rw [show (nI 0 - 1).toInt = -1 by decide]
      omega
    · rw [show nI n - 1 = nI (n - 1) from pk_sub (a := n) (b := 1) z]
      exact (nI_ltI (a := n - 1) (b := j) (by omega) hj).mpr (by omega)
theorem onW_n {n j : Nat} (hn : n ≤ 300) (hj : j < n) : onW n (nI j) := by
  refine ⟨nI_pos (by omega), ?_⟩
  rw [show nI n - 1 = nI (n - 1) from pk_sub (a := n) (b := 1) (by omega)]
  exact fun z => absurd ((nI_ltI (a := n - 1) (b := j) (by omega) (by omega)).mp z) (by omega)
theorem ix_le2 {x : Int32} (h : ¬ x < 0 ∧ ¬ 999 < x) : ∃ j : Nat, j ≤ 999 ∧ x = nI j := by
  obtain ⟨j, hj, rfl⟩ := nI_of h.1
  refine ⟨j, ?_, rfl⟩
  rcases Nat.lt_or_ge 999 j with q | q
  · exact absurd ((nI_ltI (a := 999) (b := j) (by omega) hj).mpr q) h.2
  · exact q
def inN (n4 : Nat) (p1 : Int32) : Prop := ¬ p1 < 1 ∧ ¬ nI (n4 - 1) < p1
theorem inN_of {n4 : Nat} {p1 : Int32} (hn : n4 ≤ 300) (h : inN n4 p1) : ∃ j, 1 ≤ j ∧ j ≤ n4 - 1 ∧ p1 = nI j := by
  obtain ⟨h0, h1⟩ := h
  have h2 : ¬ p1 < 0 := fun z => h0 (lt_01 z)
  obtain ⟨j, hj, rfl⟩ := nI_of h2
  refine ⟨j, ?_, ?_, rfl⟩
  · rcases Nat.lt_or_ge j 1 with q | q
    · exact absurd ((nI_ltI (a := j) (b := 1) hj (by omega)).mpr q) h0
    · exact q
  · rcases Nat.lt_or_ge (n4 - 1) j with q | q
    · exact absurd ((nI_ltI (a := n4 - 1) (b := j) (by omega) hj).mpr q) h1
    · exact q
theorem inN_n {n4 j : Nat} (hn : n4 ≤ 300) (h1 : 1 ≤ j) (h2 : j ≤ n4 - 1) : inN n4 (nI j) :=
  ⟨fun z => absurd ((nI_ltI (a := j) (b := 1) (by omega) (by omega)).mp z) (by omega), fun z => absurd ((nI_ltI (a := n4 - 1) (b := j) (by omega) (by omega)).mp z) (by omega)⟩
def rLogonF (tm : Int32) (sd : Nat) (s : RS) : Int32 × Int32 × RS := if s.1 3 sd = 0 then if 200 < s.2 4 sd then (2, 0, s) else
    (0, nI ((rSends tm sd 0 0 4 (va_up s.1 3 (va_up (s.1 3) sd 1), va_up (va_up s.2 17 (va_up (s.2 17) 0 0)) 17 (va_up (va_up (s.2 17) 0 0) 1 0))).2 4 sd - 1), rSends tm sd 0 0 4 (va_up s.1 3 (va_up (s.1 3) sd 1), va_up (va_up s.2 17 (va_up (s.2 17) 0 0)) 17 (va_up (va_up (s.2 17) 0 0) 1 0)))
  else (2, 0, s)
def rLogoutF (tm : Int32) (sd : Nat) (s : RS) : Int32 × Int32 × RS := if s.1 3 sd = 2 then if 200 < s.2 4 sd then (2, 0, s) else
    (0, nI ((rSends tm sd 6 0 0 s).2 4 sd - 1), (rTurns sd (rSends tm sd 6 0 0 s).1, (rSends tm sd 6 0 0 s).2))
  else (2, 0, s)
def rEndDayF (s : RS) : Int32 × Int32 × RS := if s.1 3 0 = 0 then if s.1 3 1 = 0 then (0, nI (s.2 4 0 + s.2 4 1 - 2), rEmpties s) else (1, 0, s) else (1, 0, s)
noncomputable def rSendF (tm : Int32) (sd : Nat) (p1 : Int32) (s : RS) : Int32 × Int32 × RS := if ¬ p1 < 0 ∧ ¬ 999 < p1 then
    @ite _ (rErr (s.1 3 sd) (s.2 4 sd)) (Classical.propDecidable _) (3, 0, s) (0, nI ((rSends tm sd 5 p1.toNatClampNeg 0 s).2 4 sd - 1), rSends tm sd 5 p1.toNatClampNeg 0 s)
  else (2, 0, s)
noncomputable def rAgainF (tm : Int32) (sd : Nat) (p1 : Int32) (s : RS) : Int32 × Int32 × RS := @ite _ (inN (s.2 4 sd) p1) (Classical.propDecidable _)
  (if s.2 6 (201 * sd + p1.toNatClampNeg) = 5 then
    @ite _ (rErr (s.1 3 sd) (s.2 4 sd)) (Classical.propDecidable _) (2, 0, s) (0, nI ((rSends tm sd 5 (s.2 7 (201 * sd + p1.toNatClampNeg)) 2 s).2 4 sd - 1), rSends tm sd 5 (s.2 7 (201 * sd + p1.toNatClampNeg)) 2 s)
   else (1, 0, s)) (1, 0, s)
def rTaken (tm : Int32) (sd : Nat) (s : RS) : RS := (va_up (va_up s.1 14 (va_up (s.1 14) sd tm)) 15 (va_up (s.1 15) sd 0), rRemoves sd s.2)
noncomputable def rDeliverF (tm : Int32) (sd : Nat) (s : RS) : Int32 × Int32 × RS := if s.2 17 sd = 0 then (2, 0, s) else
  (0, nI (s.2 19 (60 * sd)), if s.2 19 (60 * sd) = 0 then rComes tm sd (s.2 18 (60 * sd)) (s.2 19 (60 * sd)) (s.2 20 (60 * sd)) (s.2 21 (60 * sd)) (rTaken tm sd s)
    else if s.1 3 sd = 2 then rComes tm sd (s.2 18 (60 * sd)) (s.2 19 (60 * sd)) (s.2 20 (60 * sd)) (s.2 21 (60 * sd)) (rTaken tm sd s) else rTaken tm sd s)
def rLoseF (sd : Nat) (s : RS) : Int32 × Int32 × RS := if s.2 17 sd = 0 then (2, 0, s) else (0, nI (s.2 19 (60 * sd)), (s.1, rRemoves sd s.2))
noncomputable def rNumF (sd : Nat) (p1 : Int32) (N : Nat → Nat → Nat) : Int32 × Int32 := @ite _ (onW (N 17 sd) p1) (Classical.propDecidable _) (0, nI (N 18 (60 * sd + p1.toNatClampNeg))) (1, 0)
noncomputable def rKeyF (sd : Nat) (p1 : Int32) (N : Nat → Nat → Nat) : Int32 × Int32 := @ite _ (onW (N 10 sd) p1) (Classical.propDecidable _) (0, nI (N 9 (201 * sd + p1.toNatClampNeg))) (1, 0)
def rAhead (K T : Nat → Nat) (b i : Nat) : Prop := ∃ k, k < i ∧ 1 ≤ k ∧ K (b + k) = 5 ∧ T (b + k) = T (b + i)
def rTells (K T G : Nat → Nat) (b i : Nat) : Prop := K (b + i) = 5 ∧ ((G (b + i)).testBit 1 = true → ¬ rAhead K T b i)
noncomputable def rAgL (c : Nat) (f : Nat → Nat) (K T G : Nat → Nat) (b : Nat) : Nat → Nat → Nat → Nat
  | 0, _, n => n
  | j + 1, i, n => @ite Nat (rTells K T G b i) (Classical.propDecidable _) (if n = c then n else if f n = T (b + i) then rAgL c f K T G b j (i + 1) (n + 1) else n) (rAgL c f K T G b j (i + 1) n)
noncomputable def rAgreedF (e c : Nat) (f : Nat → Nat) (K T G : Nat → Nat) (b : Nat) : Nat := rAgL c f K T G b (e - 1) 1 0
theorem rag_in {c : Nat} {f : Nat → Nat} {K T G : Nat → Nat} {b e i n : Nat} (hi : i < e) : rAgL c f K T G b (e - i) i n = @ite Nat (rTells K T G b i) (Classical.propDecidable _) (if n = c then n else if f n = T (b + i) then rAgL c f K T G b (e - (i + 1)) (i + 1) (n + 1) else n) (rAgL c f K T G b (e - (i + 1)) (i + 1) n) := by
  rw [show e - i = (e - (i + 1)) + 1 by omega]
  rfl
theorem rag_end {c : Nat} {f : Nat → Nat} {K T G : Nat → Nat} {b e i n r : Nat} (hinv : rAgL c f K T G b (e - i) i n = r) (hi : e ≤ i) : n = r := by
  rw [show e - i = 0 by omega] at hinv; exact hinv
theorem rag_stop {c : Nat} {f : Nat → Nat} {K T G : Nat → Nat} {b e i n r : Nat} (hinv : rAgL c f K T G b (e - i) i n = r) (hi : i < e) (ht : rTells K T G b i) (h : n = c ∨ ¬ f n = T (b + i)) : n = r := by
  rw [rag_in hi, if_pos ht] at hinv
  by_cases q : n = c
  · rw [if_pos q] at hinv; exact hinv
  · rw [if_neg q, if_neg (h.resolve_left q)] at hinv; exact hinv
theorem rag_yes {c : Nat} {f : Nat → Nat} {K T G : Nat → Nat} {b e i n r : Nat} (hinv : rAgL c f K T G b (e - i) i n = r) (hi : i < e) (ht : rTells K T G b i) (h1 : ¬ n = c) (h2 : f n = T (b + i)) : rAgL c f K T G b (e - (i + 1)) (i + 1) (n + 1) = r := by
  rw [rag_in hi, if_pos ht, if_neg h1, if_pos h2] at hinv; exact hinv
theorem rag_no {c : Nat} {f : Nat → Nat} {K T G : Nat → Nat} {b e i n r : Nat} (hinv : rAgL c f K T G b (e - i) i n = r) (hi : i < e) (ht : ¬ rTells K T G b i) : rAgL c f K T G b (e - (i + 1)) (i + 1) n = r := by
  rw [rag_in hi, if_neg ht] at hinv; exact hinv
theorem rw_17 {N : Nat → Nat → Nat} {f : Nat → Nat} (h : rw' N) (hf : ∀ j, j < 2 → f j ≤ 60) : rw' (va_up N 17 f) := fun j hj => ⟨(h j hj).1, (h j hj).2.1, hf j hj⟩
theorem rw_1717 {N : Nat → Nat → Nat} {f g : Nat → Nat} (h : rw' N) (hg : ∀ j, j < 2 → g j ≤ 60) : rw' (va_up (va_up N 17 f) 17 g) := fun j hj => ⟨(h j hj).1, (h j hj).2.1, hg j hj⟩
theorem z01 {f : Nat → Nat} : ∀ j, j < 2 → va_up (va_up f 0 0) 1 0 j ≤ 60 := fun j hj => by
  have : j = 0 ∨ j = 1 := by omega
  rcases this with rfl | rfl
  · exact Nat.zero_le 60
  · exact Nat.zero_le 60
theorem rw_rem {sd : Nat} {N : Nat → Nat → Nat} (h : rw' N) : rw' (rRemoves sd N) := fun j hj => ⟨(h j hj).1, (h j hj).2.1, by
  show va_up (N 17) sd (N 17 sd - 1) j ≤ 60
  unfold va_up
  by_cases q : j = sd
  · rw [if_pos q, ← q]; have := (h j hj).2.2; omega
  · rw [if_neg q]; exact (h j hj).2.2⟩
theorem nb_sh {lo c : Nat} {g : Nat → Nat} (h : ∀ j, g j < 16777216) (j : Nat) : rSh lo c g j < 16777216 := by
  unfold rSh
  by_cases q : lo ≤ j ∧ j < lo + c
  · rw [if_pos q]; exact h _
  · rw [if_neg q]; exact h _
theorem nb_up {N : Nat → Nat → Nat} {k : Nat} {f : Nat → Nat} (h : nb N) (hf : ∀ j, f j < 16777216) : nb (va_up N k f) := by
  intro a j
  unfold va_up
  by_cases q : a = k
  · rw [if_pos q]; exact hf j
  · rw [if_neg q]; exact h a j
theorem nb_rem {sd : Nat} {N : Nat → Nat → Nat} (h : nb N) : nb (rRemoves sd N) :=
  nb_up (nb_up (nb_up (nb_up (nb_up h (fun j => by
    unfold va_up
    by_cases q : j = sd
    · rw [if_pos q]; have := h 17 sd; omega
    · rw [if_neg q]; exact h 17 j)) (nb_sh (h 18))) (nb_sh (h 19))) (nb_sh (h 20))) (nb_sh (h 21))
/-! ===== the reference's texts ===== -/
def rDig (v : Nat) : Nat := if v ≤ 99 then if v ≤ 9 then 1 else 2 else 3
def nmL (kk : Nat) : Nat := [5, 9, 4, 6, 4, 8, 6].getD kk 0
theorem rDig_1 (v : Nat) : 1 ≤ rDig v ∧ rDig v ≤ 3 := by
  unfold rDig
  split
  · split <;> omega
  · omega
theorem nmL_9 (kk : Nat) : nmL kk ≤ 9 := by
  rcases Nat.lt_or_ge kk 7 with h | h
  · rcases (show kk = 0 ∨ kk = 1 ∨ kk = 2 ∨ kk = 3 ∨ kk = 4 ∨ kk = 5 ∨ kk = 6 by omega) with rfl | rfl | rfl | rfl | rfl | rfl | rfl <;> decide
  · unfold nmL
    rw [List.getD_eq_getElem?_getD, List.getElem?_eq_none (by simpa using h)]
    exact Nat.zero_le 9
def tlsN (kk : Nat) : Prop := kk = 3 ∨ kk = 4 ∨ kk = 5
noncomputable def rPlain (num kk told : Nat) : Nat := rDig num + 1 + nmL kk + @ite Nat (tlsN kk) (Classical.propDecidable _) (1 + rDig told) 0
noncomputable def rLen (num kk told gg : Nat) : Nat := rPlain num kk told + (if gg.testBit 0 = true then 2 else 0) + (if gg.testBit 1 = true then 2 else 0)
def dgAt (v place : Nat) : Nat := v / 10 ^ (rDig v - 1 - place) % 10
noncomputable def rCharI (num kk told gg c : Nat) : Int32 :=
  if rDig num + 1 + nmL kk ≤ c then
    if rPlain num kk told ≤ c then
      if (c - rPlain num kk told) % 2 = 0 then 32
      else if c - rPlain num kk told = 1 then (if gg.testBit 0 = true then 68 else 80) else 80
    else if c = rDig num + 1 + nmL kk then 32 else nI (48 + dgAt told (c - (rDig num + 1 + nmL kk) - 1))
  else if rDig num ≤ c then if c = rDig num then 32 else nmF (9 * kk + c - rDig num - 1)
  else nI (48 + dgAt num c)
def inL (n : Nat) (p2 : Int32) : Prop := ¬ p2 < 0 ∧ ¬ nI (n - 1) < p2
theorem inL_of {n : Nat} {p2 : Int32} (hn : 1 ≤ n) (hn2 : n ≤ 300) (h : inL n p2) : ∃ j, j < n ∧ p2 = nI j := by
  obtain ⟨h0, h1⟩ := h
  obtain ⟨j, hj, rfl⟩ := nI_of h0
  refine ⟨j, ?_, rfl⟩
  rcases Nat.lt_or_ge (n - 1) j with q | q
  · exact absurd ((nI_ltI (a := n - 1) (b := j) (by omega) hj).mpr q) h1
  · omega
theorem inL_n {n j : Nat} (hn2 : n ≤ 300) (hj : j < n) : inL n (nI j) := ⟨nI_pos (by omega), fun z => absurd ((nI_ltI (a := n - 1) (b := j) (by omega) (by omega)).mp z) (by omega)⟩
theorem i2cN {q : Nat} (h : q < 65536) : ((nI q).toUInt32 % 65536).toInt32 = nI q := by
  rw [pk_char, pk_tn (by omega), Nat.mod_eq_of_lt h]
theorem dg_step {v i : Nat} : v / 10 ^ i / 10 = v / 10 ^ (i + 1) := by rw [Nat.div_div_eq_div_mul, Nat.pow_succ]
theorem nmF_nar {k : Nat} (h : k < 63) : narrow .char (.int (nmF k)) = .int (nmF k) := by
  have hh : (List.range 63).all (fun k => decide (0 ≤ (nmF k).toInt ∧ (nmF k).toInt < 65536)) = true := by decide +kernel
  have h1 := of_decide_eq_true (List.all_eq_true.mp hh k (List.mem_range.mpr h))
  obtain ⟨j, hj, e⟩ := nI_of (x := nmF k) (by rw [Int32.lt_iff_toInt_lt]; rw [show (0 : Int32).toInt = 0 from rfl]; omega)
  rw [e] at h1 ⊢
  rw [nI_toInt hj] at h1
  exact (pk_charN (by omega)).1
theorem rPlain_1 (num kk told : Nat) : rDig num + 1 + nmL kk ≤ rPlain num kk told ∧ rPlain num kk told ≤ 17 := by
  have h1 := rDig_1 num
  have h2 := nmL_9 kk
  have h3 := rDig_1 told
  unfold rPlain
  by_cases q : tlsN kk
  · rw [if_pos q]; omega
  · rw [if_neg q]; omega
theorem rLen_1 (num kk told gg : Nat) : 1 ≤ rLen num kk told gg ∧ rLen num kk told gg ≤ 21 := by
  have h1 := rPlain_1 num kk told
  have h2 := rDig_1 num
  unfold rLen
  split <;> split <;> omega
noncomputable def rTextLF (sd : Nat) (p1 : Int32) (N : Nat → Nat → Nat) : Int32 × Int32 := @ite _ (onW (N 17 sd) p1) (Classical.propDecidable _) (0, nI (rLen (N 18 (60 * sd + p1.toNatClampNeg)) (N 19 (60 * sd + p1.toNatClampNeg)) (N 20 (60 * sd + p1.toNatClampNeg)) (N 21 (60 * sd + p1.toNatClampNeg)))) (1, 0)
noncomputable def rTextCF (sd : Nat) (p1 p2 : Int32) (N : Nat → Nat → Nat) : Int32 × Int32 := @ite _ (onW (N 17 sd) p1) (Classical.propDecidable _)
  (@ite _ (inL (rLen (N 18 (60 * sd + p1.toNatClampNeg)) (N 19 (60 * sd + p1.toNatClampNeg)) (N 20 (60 * sd + p1.toNatClampNeg)) (N 21 (60 * sd + p1.toNatClampNeg))) p2) (Classical.propDecidable _)
    (0, rCharI (N 18 (60 * sd + p1.toNatClampNeg)) (N 19 (60 * sd + p1.toNatClampNeg)) (N 20 (60 * sd + p1.toNatClampNeg)) (N 21 (60 * sd + p1.toNatClampNeg)) p2.toNatClampNeg) (1, 32)) (1, 32)
theorem char_32 : narrow .char (.int 32) = .int 32 := rfl
/-- the reference at its start -/
def rI0 : Nat → Nat → Int32 := fun _ _ => 0
def rN0 : Nat → Nat → Nat := fun _ _ => 0
def rJ0 : Nat → Int32 := fun _ => 0
theorem rCh_nar {num kk told gg c : Nat} (hk : kk < 7) : narrow .char (.int (rCharI num kk told gg c)) = .int (rCharI num kk told gg c) := by
  have h1 := rDig_1 num
  have h2 := nmL_9 kk
  unfold rCharI
  by_cases q1 : rDig num + 1 + nmL kk ≤ c
  · rw [if_pos q1]
    by_cases q2 : rPlain num kk told ≤ c
    · rw [if_pos q2]
      by_cases q3 : (c - rPlain num kk told) % 2 = 0
      · rw [if_pos q3]; rfl
      · rw [if_neg q3]
        by_cases q4 : c - rPlain num kk told = 1
        · rw [if_pos q4]
          by_cases q5 : gg.testBit 0 = true
          · rw [if_pos q5]; rfl
          · rw [if_neg q5]; rfl
        · rw [if_neg q4]; rfl
    · rw [if_neg q2]
      by_cases q3 : c = rDig num + 1 + nmL kk
      · rw [if_pos q3]; rfl
      · rw [if_neg q3]
        exact (pk_charN (by have := Nat.mod_lt (told / 10 ^ (rDig told - 1 - (c - (rDig num + 1 + nmL kk) - 1))) (show 0 < 10 by decide); unfold dgAt; omega)).1
  · rw [if_neg q1]
    by_cases q2 : rDig num ≤ c
    · rw [if_pos q2]
      by_cases q3 : c = rDig num
      · rw [if_pos q3]; rfl
      · rw [if_neg q3]; exact nmF_nar (by omega)
    · rw [if_neg q2]
      exact (pk_charN (by have := Nat.mod_lt (num / 10 ^ (rDig num - 1 - c)) (show 0 < 10 by decide); unfold dgAt; omega)).1
