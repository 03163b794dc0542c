/-! ===== texts and agreement, side by side ===== -/
theorem getD_l {l m : List Nat} {j : Nat} (h : j < l.length) : (l ++ m).getD j 0 = l.getD j 0 := by
  rw [List.getD_eq_getElem?_getD, List.getD_eq_getElem?_getD, List.getElem?_append_left h]
theorem getD_r {l m : List Nat} {j k : Nat} (h : l.length ≤ j) (e : j - l.length = k) : (l ++ m).getD j 0 = m.getD k 0 := by
  rw [List.getD_eq_getElem?_getD, List.getD_eq_getElem?_getD, List.getElem?_append_right h, e]
theorem dgs_at {v c : Nat} (hv : v < 1000) (hc : c < rDig v) : (dgs v).getD c 0 = 48 + dgAt v c := by
  unfold dgAt
  unfold rDig at hc ⊢
  unfold dgs
  by_cases q : v ≤ 99
  · rw [if_pos q] at hc
    rw [if_pos q, if_pos q]
    by_cases q2 : v ≤ 9
    · rw [if_pos q2] at hc
      rw [if_pos q2, if_pos q2]
      obtain rfl : c = 0 := by omega
      show 48 + v = 48 + v / 10 ^ 0 % 10
      rw [Nat.pow_zero, Nat.div_one, Nat.mod_eq_of_lt (by omega)]
    · rw [if_neg q2] at hc
      rw [if_neg q2, if_neg q2]
      rcases (show c = 0 ∨ c = 1 by omega) with rfl | rfl
      · show 48 + v / 10 = 48 + v / 10 ^ 1 % 10
        rw [Nat.pow_one]; omega
      · show 48 + v % 10 = 48 + v / 10 ^ 0 % 10
        rw [Nat.pow_zero, Nat.div_one]
  · rw [if_neg q] at hc
    rw [if_neg q, if_neg q]
    rcases (show c = 0 ∨ c = 1 ∨ c = 2 by omega) with rfl | rfl | rfl
    · show 48 + v / 100 = 48 + v / 10 ^ 2 % 10
      rw [show 10 ^ 2 = 100 from rfl]; omega
    · show 48 + v % 100 / 10 = 48 + v / 10 ^ 1 % 10
      rw [Nat.pow_one]; omega
    · show 48 + v % 100 % 10 = 48 + v / 10 ^ 0 % 10
      rw [Nat.pow_zero, Nat.div_one]; omega
theorem nm_at : ∀ kk, kk < 7 → (sbL kk).length = nmL kk ∧ ∀ j, j < 9 → j < nmL kk → nI ((sbL kk).getD j 0) = nmF (9 * kk + j) := by decide +kernel
/-- the text of a message by its parts -/
def txt (nn kk tt gg : Nat) : List Nat := (dgs nn ++ ([32] ++ sbL kk)) ++ ((if kk = 3 ∨ kk = 4 ∨ kk = 5 then [32] ++ dgs tt else []) ++ ((if gg.testBit 0 = true then [32, 68] else []) ++ (if gg.testBit 1 = true then [32, 80] else [])))
theorem textM_mg {nn kk tt gg : Nat} (hq : okq nn kk tt gg) : textM (mg nn kk tt gg) = txt nn kk tt gg := by
  unfold textM txt
  rw [mg_nu hq.1 (by omega) (by omega), mg_kd hq.1 (by omega) (by omega), mg_td hq.1 (by omega) (by omega), mg_bit hq.1 (by omega) (by omega) 0, mg_bit hq.1 (by omega) (by omega) 1]
  simp only [List.append_assoc]
  rfl
theorem txt_1 {nn kk : Nat} (hk : kk < 7) : (dgs nn ++ ([32] ++ sbL kk)).length = rDig nn + 1 + nmL kk := by
  rw [List.length_append, List.length_append, dgs_len, (nm_at kk hk).1]
  show rDig nn + (1 + nmL kk) = _
  omega
theorem txt_2 {kk tt : Nat} : (if kk = 3 ∨ kk = 4 ∨ kk = 5 then [32] ++ dgs tt else []).length = @ite Nat (tlsN kk) (Classical.propDecidable _) (1 + rDig tt) 0 := by
  by_cases q : kk = 3 ∨ kk = 4 ∨ kk = 5
  · rw [if_pos q, if_pos (show tlsN kk from q), List.length_append, dgs_len]; rfl
  · rw [if_neg q, if_neg (show ¬ tlsN kk from q)]; rfl
theorem txt_len {nn kk tt gg : Nat} (hk : kk < 7) : (txt nn kk tt gg).length = rLen nn kk tt gg := by
  unfold txt rLen rPlain
  rw [List.length_append, txt_1 hk, List.length_append, txt_2, List.length_append]
  by_cases q0 : gg.testBit 0 = true
  · by_cases q1 : gg.testBit 1 = true
    · rw [if_pos q0, if_pos q1, if_pos q0, if_pos q1]; show _ + (_ + (2 + 2)) = _; omega
    · rw [if_pos q0, if_neg q1, if_pos q0, if_neg q1]; show _ + (_ + (2 + 0)) = _; omega
  · by_cases q1 : gg.testBit 1 = true
    · rw [if_neg q0, if_pos q1, if_neg q0, if_pos q1]; show _ + (_ + (0 + 2)) = _; omega
    · rw [if_neg q0, if_neg q1, if_neg q0, if_neg q1]; show _ + (_ + (0 + 0)) = _; omega
theorem txt_at {nn kk tt gg c : Nat} (hq : okq nn kk tt gg) (hc : c < rLen nn kk tt gg) : nI ((txt nn kk tt gg).getD c 0) = rCharI nn kk tt gg c := by
  obtain ⟨hn, hk, ht, hg⟩ := hq
  have l1 := txt_1 (nn := nn) hk
  have l2 := txt_2 (kk := kk) (tt := tt)
  unfold txt rCharI
  by_cases c1 : rDig nn + 1 + nmL kk ≤ c
  · rw [if_pos c1, getD_r (k := c - (rDig nn + 1 + nmL kk)) (by omega) (by omega)]
    by_cases c2 : rPlain nn kk tt ≤ c
    · rw [if_pos c2]
      have hp : rPlain nn kk tt = rDig nn + 1 + nmL kk + (if kk = 3 ∨ kk = 4 ∨ kk = 5 then [32] ++ dgs tt else []).length := by rw [l2]; rfl
      rw [getD_r (k := c - rPlain nn kk tt) (by omega) (by omega)]
      obtain ⟨e, he⟩ : ∃ e, e = c - rPlain nn kk tt := ⟨_, rfl⟩
      rw [← he]
      unfold rLen at hc
      by_cases q0 : gg.testBit 0 = true
      · by_cases q1 : gg.testBit 1 = true
        · rw [if_pos q0, if_pos q1] at hc
          rw [if_pos q0, if_pos q1, if_pos q0]
          rcases (show e = 0 ∨ e = 1 ∨ e = 2 ∨ e = 3 by omega) with h | h | h | h <;> (rw [h]; rfl)
        · rw [if_pos q0, if_neg q1] at hc
          rw [if_pos q0, if_neg q1, if_pos q0]
          rcases (show e = 0 ∨ e = 1 by omega) with h | h <;> (rw [h]; rfl)
      · by_cases q1 : gg.testBit 1 = true
        · rw [if_neg q0, if_pos q1] at hc
          rw [if_neg q0, if_pos q1, if_neg q0]
          rcases (show e = 0 ∨ e = 1 by omega) with h | h <;> (rw [h]; rfl)
        · rw [if_neg q0, if_neg q1] at hc
          omega
    · rw [if_neg c2]
      have hp : rPlain nn kk tt = rDig nn + 1 + nmL kk + (if kk = 3 ∨ kk = 4 ∨ kk = 5 then [32] ++ dgs tt else []).length := by rw [l2]; rfl
      rw [getD_l (by omega)]
      by_cases q : kk = 3 ∨ kk = 4 ∨ kk = 5
      · rw [if_pos q, List.length_append, dgs_len] at hp
        have hp : rPlain nn kk tt = rDig nn + 1 + nmL kk + (1 + rDig tt) := hp
        rw [if_pos q]
        by_cases c3 : c = rDig nn + 1 + nmL kk
        · rw [if_pos c3, show c - (rDig nn + 1 + nmL kk) = 0 by omega]; rfl
        · rw [if_neg c3, getD_r (k := c - (rDig nn + 1 + nmL kk) - 1) (show 1 ≤ _ by omega) rfl, dgs_at ht (by omega)]
      · rw [if_neg q] at hp
        have hp : rPlain nn kk tt = rDig nn + 1 + nmL kk + 0 := hp
        omega
  · rw [if_neg c1, getD_l (by omega)]
    by_cases c2 : rDig nn ≤ c
    · rw [if_pos c2, getD_r (k := c - rDig nn) (by rw [dgs_len]; exact c2) (by rw [dgs_len])]
      by_cases c3 : c = rDig nn
      · rw [if_pos c3, show c - rDig nn = 0 by omega]; rfl
      · have l9 := nmL_9 kk
        rw [if_neg c3, getD_r (k := c - rDig nn - 1) (show 1 ≤ _ by omega) rfl, (nm_at kk hk).2 _ (by omega) (by omega)]
        congr 1
        omega
    · rw [if_neg c2, getD_l (by rw [dgs_len]; omega), dgs_at (by omega) (by omega)]
/-! agreement -/
theorem ag_row {n6 b : Nat} {g K T G : Nat → Nat} (hr : ∀ j, 1 ≤ j → j ≤ n6 → g (j - 1) = mg j (K (b + j)) (T (b + j)) (G (b + j)) ∧ okq j (K (b + j)) (T (b + j)) (G (b + j))) {j : Nat} (h1 : 1 ≤ j) (h2 : j ≤ n6) : kd (g (j - 1)) = K (b + j) ∧ td (g (j - 1)) = T (b + j) ∧ (g (j - 1)).testBit 22 = (G (b + j)).testBit 1 := by
  obtain ⟨e, q⟩ := hr j h1 h2
  rw [e]
  exact ⟨mg_kd q.1 (by omega) (by omega), mg_td q.1 (by omega) (by omega), mg_bit q.1 (by omega) (by omega) 1⟩
theorem ag_tells {n6 b : Nat} {g K T G : Nat → Nat} (hr : ∀ j, 1 ≤ j → j ≤ n6 → g (j - 1) = mg j (K (b + j)) (T (b + j)) (G (b + j)) ∧ okq j (K (b + j)) (T (b + j)) (G (b + j))) {i : Nat} (h1 : 1 ≤ i) (h2 : i ≤ n6) : tellsK n6 g i ↔ rTells K T G b i := by
  obtain ⟨e1, e2, e3⟩ := ag_row hr h1 h2
  have ha : keyAhead n6 g (td (g (i - 1))) i ↔ rAhead K T b i := by
    rw [e2]
    constructor
    · rintro ⟨k, k1, ⟨k2, k3, k4⟩, k5⟩
      obtain ⟨f1, f2, -⟩ := ag_row hr k2 k3
      exact ⟨k, k1, k2, f1.symm.trans k4, f2.symm.trans k5⟩
    · rintro ⟨k, k1, k2, k4, k5⟩
      obtain ⟨f1, f2, -⟩ := ag_row hr k2 (show k ≤ n6 by omega)
      exact ⟨k, k1, ⟨k2, by omega, f1.trans k4⟩, f2.trans k5⟩
  have hb : hasB n6 g i ↔ K (b + i) = 5 := ⟨fun z => e1.symm.trans z.2.2, fun z => ⟨h1, h2, e1.trans z⟩⟩
  unfold tellsK rTells
  rw [hb, e3, ha]
theorem ag_loop {c n6 b : Nat} {f f' g K T G : Nat → Nat} (hr : ∀ j, 1 ≤ j → j ≤ n6 → g (j - 1) = mg j (K (b + j)) (T (b + j)) (G (b + j)) ∧ okq j (K (b + j)) (T (b + j)) (G (b + j))) (hf : ∀ k, k < c → f k = f' k) : ∀ (j i n : Nat), 1 ≤ i → i + j ≤ n6 + 1 → n ≤ c → cAgL c f n6 g j i n = rAgL c f' K T G b j i n
  | 0, _, _, _, _, _ => rfl
  | j + 1, i, n, h1, h2, h3 => by
    have ht := ag_tells hr h1 (show i ≤ n6 by omega)
    unfold cAgL rAgL
    by_cases q : rTells K T G b i
    · rw [if_pos q, if_pos (ht.mpr q)]
      by_cases q2 : n = c
      · rw [if_pos q2, if_pos (show c ≤ n by omega)]
      · rw [if_neg q2, if_neg (show ¬ c ≤ n by omega), hf n (by omega), (ag_row hr h1 (show i ≤ n6 by omega)).2.1]
        by_cases q3 : f' n = T (b + i)
        · rw [if_pos q3, if_pos q3]; exact ag_loop hr hf j (i + 1) (n + 1) (by omega) (by omega) (by omega)
        · rw [if_neg q3, if_neg q3]
    · rw [if_neg q, if_neg (fun z => q (ht.mp z))]
      exact ag_loop hr hf j (i + 1) n (by omega) (by omega) h3
theorem k_agreed {sd : Nat} {c o : CS} {s : RS} (h : rel2 sd c o s) (hi : inv s) : cAgreedF (c.2.1 7) (c.2.1 8) (c.2.2 1) (o.2.1 6) (o.2.2 0) = rAgreedF (s.2 5 sd) (s.2 10 sd) (fun k => s.2 9 (201 * sd + k)) (s.2 6) (s.2 7) (s.2 8) (201 * (1 - sd)) := by
  have hs := h.hs
  have hw := hi.1 sd hs
  have n5 := hw.2.2.2.1
  have m6 := h.b.m6
  have nb := h.nb
  unfold cAgreedF rAgreedF
  rw [h.a.m7, h.a.m8, show min (s.2 5 sd - 1) (o.2.1 6) = s.2 5 sd - 1 by omega]
  refine ag_loop (fun j h1 h2 => ⟨?_, ?_⟩) (fun k hk => h.a.b1 k (h.a.m8 ▸ hk)) _ _ _ (by omega) (by omega) (by omega)
  · have e := h.b.b0 (j - 1) (by omega)
    rw [show j - 1 + 1 = j by omega] at e
    exact e
  · exact (rows_of (sd := 1 - sd) (s := s) hi.2 j).resolve_right (by omega)
theorem onW_iff {n : Nat} {p1 : Int32} (hn : n ≤ 300) : onW n p1 ↔ ¬ p1 < 0 ∧ p1 < nI n := by
  constructor
  · intro h
    obtain ⟨j, hj, rfl⟩ := onW_of hn h
    exact ⟨h.1, (nI_ltI (a := j) (b := n) (by omega) (by omega)).mpr hj⟩
  · rintro ⟨h0, h1⟩
    obtain ⟨j, hj, rfl⟩ := ix_of h0 h1 (by omega)
    exact onW_n hn hj
