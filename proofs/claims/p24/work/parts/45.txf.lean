/-! ===== what a text of a message is made of ===== -/
abbrev dgc (c : Nat) : Prop := (48 ≤ c ∧ c ≤ 57) ∨ (65 ≤ c ∧ c ≤ 90)
abbrev wrd (l : List Nat) : Prop := 1 ≤ l.length ∧ ∀ j, j < l.length → dgc (l.getD j 0)
abbrev cgd (l : List Nat) (j : Nat) : Prop := dgc (l.getD j 0) ∨ (l.getD j 0 = 32 ∧ 0 < j ∧ j + 1 < l.length ∧ l.getD (j - 1) 0 ≠ 32)
def spN (f : Nat → Nat) : Nat → Nat
  | 0 => 0
  | k + 1 => spN f k + if f k = 32 then 1 else 0
theorem spN_y {f : Nat → Nat} {k : Nat} (h : f k = 32) : spN f (k + 1) = spN f k + 1 := congrArg (fun x => spN f k + x) (if_pos h)
theorem spN_n {f : Nat → Nat} {k : Nat} (h : ¬ f k = 32) : spN f (k + 1) = spN f k := congrArg (fun x => spN f k + x) (if_neg h)
theorem spN_c {f g : Nat → Nat} : ∀ {k : Nat}, (∀ j, j < k → f j = g j) → spN f k = spN g k
  | 0, _ => rfl
  | k + 1, h => by
    have e := h k (by omega)
    have ih := spN_c (f := f) (g := g) (k := k) (fun j hj => h j (by omega))
    by_cases q : f k = 32
    · rw [spN_y q, spN_y (e ▸ q), ih]
    · rw [spN_n q, spN_n (fun z => q (e.trans z)), ih]
theorem spN_add {f : Nat → Nat} {a : Nat} : ∀ b, spN f (a + b) = spN f a + spN (fun j => f (a + j)) b
  | 0 => rfl
  | b + 1 => by
    have ih := spN_add (f := f) (a := a) b
    rw [← Nat.add_assoc]
    by_cases q : f (a + b) = 32
    · rw [spN_y q, spN_y (f := fun j => f (a + j)) (k := b) q, ih]; omega
    · rw [spN_n q, spN_n (f := fun j => f (a + j)) (k := b) q, ih]
theorem spN_w {f : Nat → Nat} : ∀ {k : Nat}, (∀ j, j < k → dgc (f j)) → spN f k = 0
  | 0, _ => rfl
  | k + 1, h => by
    have e := h k (by omega)
    rw [spN_n (show ¬ f k = 32 by omega)]
    exact spN_w (fun j hj => h j (by omega))
theorem spN_3 {F f : Nat → Nat} {L W : Nat} (h1 : ∀ j, j < L → F j = f j) (h2 : F L = 32) (h3 : ∀ j, j < W → dgc (F (L + (1 + j)))) : spN F (L + (1 + W)) = spN f L + 1 := by
  have a1 := spN_add (f := F) (a := L) (1 + W)
  have a2 : spN (fun j => F (L + j)) (1 + W) = spN (fun j => F (L + j)) 1 + spN (fun j => F (L + (1 + j))) W := spN_add (f := fun j => F (L + j)) (a := 1) W
  have a3 : spN F L = spN f L := spN_c h1
  have a4 : spN (fun j => F (L + (1 + j))) W = 0 := spN_w h3
  have a5 : spN (fun j => F (L + j)) 1 = 0 + 1 := spN_y (f := fun j => F (L + j)) (k := 0) h2
  omega
/-- words, one space between them: how many spaces -/
def tks (l : List Nat) (a b : Nat) : Prop := 1 ≤ l.length ∧ (∀ j, j < l.length → cgd l j) ∧ a ≤ spN (fun j => l.getD j 0) l.length ∧ spN (fun j => l.getD j 0) l.length ≤ b
theorem tks_w {w : List Nat} (h : wrd w) : tks w 0 0 := ⟨h.1, fun j hj => Or.inl (h.2 j hj), Nat.zero_le _, Nat.le_of_eq (spN_w h.2)⟩
theorem getD_32 {w : List Nat} (k : Nat) : ([32] ++ w).getD (k + 1) 0 = w.getD k 0 := rfl
theorem tks_app {l w : List Nat} {a b : Nat} (h : tks l a b) (hw : wrd w) : tks (l ++ ([32] ++ w)) (a + 1) (b + 1) := by
  obtain ⟨h1, h2, h3, h4⟩ := h
  obtain ⟨w1, w2⟩ := hw
  have hlen : (l ++ ([32] ++ w)).length = l.length + (1 + w.length) := by rw [List.length_append, List.length_append]; rfl
  have e0 : (l ++ ([32] ++ w)).getD l.length 0 = 32 := getD_r (k := 0) (Nat.le_refl _) (by omega)
  have ek : ∀ k, (l ++ ([32] ++ w)).getD (l.length + (1 + k)) 0 = w.getD k 0 := fun k => (getD_r (k := k + 1) (by omega) (by omega)).trans (getD_32 k)
  have hsp : spN (fun j => (l ++ ([32] ++ w)).getD j 0) (l.length + (1 + w.length)) = spN (fun j => l.getD j 0) l.length + 1 :=
    spN_3 (F := fun j => (l ++ ([32] ++ w)).getD j 0) (f := fun j => l.getD j 0) (fun j hj => getD_l hj) e0 (fun j hj => by
      show dgc ((l ++ ([32] ++ w)).getD (l.length + (1 + j)) 0)
      rw [ek]; exact w2 j hj)
  refine ⟨by omega, fun j hj => ?_, by rw [hlen, hsp]; omega, by rw [hlen, hsp]; omega⟩
  rw [hlen] at hj
  unfold cgd
  rw [hlen]
  rcases Nat.lt_or_ge j l.length with q | q
  · rw [getD_l q, getD_l (show j - 1 < l.length by omega)]
    rcases h2 j q with z | ⟨z1, z2, z3, z4⟩
    · exact Or.inl z
    · exact Or.inr ⟨z1, z2, by omega, z4⟩
  · by_cases e : j = l.length
    · subst e
      rw [e0, getD_l (show l.length - 1 < l.length by omega)]
      refine Or.inr ⟨rfl, by omega, by omega, fun z => ?_⟩
      rcases h2 (l.length - 1) (by omega) with y | ⟨y1, y2, y3, y4⟩
      · omega
      · omega
    · have hk := ek (j - l.length - 1)
      rw [show l.length + (1 + (j - l.length - 1)) = j by omega] at hk
      rw [hk]
      exact Or.inl (w2 _ (by omega))
theorem tks_opt {l w : List Nat} {a b : Nat} {P : Prop} {inst : Decidable P} (h : tks l a b) (hw : wrd w) : tks (l ++ (@ite _ P inst ([32] ++ w) [])) a (b + 1) := by
  by_cases q : P
  · rw [if_pos q]
    obtain ⟨h1, h2, h3, h4⟩ := tks_app h hw
    exact ⟨h1, h2, by omega, h4⟩
  · rw [if_neg q, List.append_nil]
    obtain ⟨h1, h2, h3, h4⟩ := h
    exact ⟨h1, h2, h3, by omega⟩
theorem wrd_dgs {v : Nat} (hv : v < 1000) : wrd (dgs v) := by
  have h1 := rDig_1 v
  refine ⟨by rw [dgs_len]; omega, fun j hj => ?_⟩
  rw [dgs_len] at hj
  rw [dgs_at hv hj]
  have : dgAt v j < 10 := Nat.mod_lt _ (by omega)
  exact Or.inl ⟨by omega, by omega⟩
theorem wrd_sb0 : ∀ kk, kk < 7 → 1 ≤ (sbL kk).length ∧ ∀ j, j < 9 → j < (sbL kk).length → dgc ((sbL kk).getD j 0) := by decide +kernel
theorem wrd_sb {kk : Nat} (hk : kk < 7) : wrd (sbL kk) := ⟨(wrd_sb0 kk hk).1, fun j hj => (wrd_sb0 kk hk).2 j (by have := (sb_2 kk (by omega)).2; omega) hj⟩
theorem wrd_D : wrd [68] := ⟨Nat.le_refl 1, fun j hj => by
  have hj : j < 1 := hj
  obtain rfl : j = 0 := (by omega)
  exact Or.inr ⟨by decide, by decide⟩⟩
theorem wrd_P : wrd [80] := ⟨Nat.le_refl 1, fun j hj => by
  have hj : j < 1 := hj
  obtain rfl : j = 0 := (by omega)
  exact Or.inr ⟨by decide, by decide⟩⟩
theorem txt_tks {nn kk tt gg : Nat} (hq : okq nn kk tt gg) : tks (txt nn kk tt gg) 1 4 := by
  obtain ⟨q1, q2, q3, q4⟩ := hq
  have a1 := tks_app (tks_w (wrd_dgs (show nn < 1000 by omega))) (wrd_sb q2)
  have a2 := tks_opt (P := kk = 3 ∨ kk = 4 ∨ kk = 5) (inst := inferInstance) a1 (wrd_dgs q3)
  have a3 := tks_opt (P := gg.testBit 0 = true) (inst := inferInstance) a2 wrd_D
  have a4 := tks_opt (P := gg.testBit 1 = true) (inst := inferInstance) a3 wrd_P
  have e : txt nn kk tt gg = (((dgs nn ++ ([32] ++ sbL kk)) ++ (if kk = 3 ∨ kk = 4 ∨ kk = 5 then [32] ++ dgs tt else [])) ++ (if gg.testBit 0 = true then [32] ++ [68] else [])) ++ (if gg.testBit 1 = true then [32] ++ [80] else []) := by
    unfold txt
    exact (List.append_assoc _ _ _).symm.trans (List.append_assoc _ _ _).symm
  rw [e]
  exact a4
theorem ite_len {P : Prop} {inst : Decidable P} {l : List Nat} : (@ite _ P inst l []).length ≤ l.length := by
  by_cases q : P
  · rw [if_pos q]; exact Nat.le_refl _
  · rw [if_neg q]; exact Nat.zero_le _
theorem txt_21 {nn kk tt gg : Nat} (hq : okq nn kk tt gg) : (txt nn kk tt gg).length ≤ 21 := by
  have h1 := rDig_1 nn
  have h2 := rDig_1 tt
  have h3 := (sb_2 kk (by have := hq.2.1; omega)).2
  have h4 : (if kk = 3 ∨ kk = 4 ∨ kk = 5 then [32] ++ dgs tt else []).length ≤ _ := ite_len
  have h5 : (if gg.testBit 0 = true then [32, 68] else []).length ≤ _ := ite_len
  have h6 : (if gg.testBit 1 = true then [32, 80] else []).length ≤ _ := ite_len
  have e1 : ([32] ++ dgs tt).length = 1 + rDig tt := by rw [List.length_append, dgs_len]; rfl
  have e2 : ([32, 68] : List Nat).length = 2 := rfl
  have e3 : ([32, 80] : List Nat).length = 2 := rfl
  have e4 : ([32] ++ sbL kk).length = 1 + (sbL kk).length := by rw [List.length_append]; rfl
  have e5 : ([32] : List Nat).length = 1 := rfl
  unfold txt
  simp only [List.length_append, dgs_len]
  omega
/-- a number's digits read one by one -/
def nuN (f : Nat → Nat) : Nat → Nat
  | 0 => 0
  | k + 1 => 10 * nuN f k + f k - 48
theorem nuN_s (f : Nat → Nat) (k : Nat) : 10 * nuN f k + f k - 48 = nuN f (k + 1) := rfl
theorem nuN_999 {f : Nat → Nat} {k : Nat} (hk : k ≤ 3) (h : ∀ j, j < k → 48 ≤ f j ∧ f j ≤ 57) : nuN f k ≤ 999 := by
  rcases (show k = 0 ∨ k = 1 ∨ k = 2 ∨ k = 3 by omega) with rfl | rfl | rfl | rfl
  · exact Nat.zero_le _
  · have a := h 0 (by omega)
    show 10 * 0 + f 0 - 48 ≤ 999
    omega
  · have a := h 0 (by omega)
    have b := h 1 (by omega)
    show 10 * (10 * 0 + f 0 - 48) + f 1 - 48 ≤ 999
    omega
  · have a := h 0 (by omega)
    have b := h 1 (by omega)
    have c := h 2 (by omega)
    show 10 * (10 * (10 * 0 + f 0 - 48) + f 1 - 48) + f 2 - 48 ≤ 999
    omega
theorem nuN_v {f : Nat → Nat} {v : Nat} (hv : v < 1000) (h : ∀ j, j < rDig v → f j = (dgs v).getD j 0) : nuN f (rDig v) = v := by
  unfold rDig at h ⊢
  unfold dgs at h
  by_cases q : v ≤ 99
  · rw [if_pos q] at h ⊢
    by_cases q2 : v ≤ 9
    · rw [if_pos q2] at h ⊢
      have a : f 0 = 48 + v := (h 0 (by omega)).trans (by rw [if_pos q, if_pos q2]; rfl)
      show 10 * 0 + f 0 - 48 = v
      omega
    · rw [if_neg q2] at h ⊢
      have a : f 0 = 48 + v / 10 := (h 0 (by omega)).trans (by rw [if_pos q, if_neg q2]; rfl)
      have b : f 1 = 48 + v % 10 := (h 1 (by omega)).trans (by rw [if_pos q, if_neg q2]; rfl)
      show 10 * (10 * 0 + f 0 - 48) + f 1 - 48 = v
      omega
  · rw [if_neg q] at h ⊢
    have a : f 0 = 48 + v / 100 := (h 0 (by omega)).trans (by rw [if_neg q]; rfl)
    have b : f 1 = 48 + v % 100 / 10 := (h 1 (by omega)).trans (by rw [if_neg q]; rfl)
    have c : f 2 = 48 + v % 100 % 10 := (h 2 (by omega)).trans (by rw [if_neg q]; rfl)
    show 10 * (10 * (10 * 0 + f 0 - 48) + f 1 - 48) + f 2 - 48 = v
    omega
/-- what the law asks of a text l whose message has the number nn -/
def tgood (l : List Nat) (nn : Nat) : Prop := l.length ≤ 21 ∧ (∀ j, j < l.length → l.getD j 0 < 128) ∧ (∀ j, j < l.length → cgd l j) ∧ rDig nn < l.length ∧ (∀ j, j < rDig nn → 48 ≤ l.getD j 0 ∧ l.getD j 0 ≤ 57) ∧ l.getD (rDig nn) 0 = 32 ∧ nuN (fun j => l.getD j 0) (rDig nn) = nn ∧ 1 ≤ spN (fun j => l.getD j 0) l.length ∧ spN (fun j => l.getD j 0) l.length ≤ 4
theorem okw.tgood {m n6 : Nat} (h : okw m n6) : tgood (textM m) (nu m) ∧ 1 ≤ nu m ∧ nu m < n6 + 1 := by
  obtain ⟨nn, kk, tt, gg, rfl, hq, h1, h2⟩ := h
  have hk := hq.2.1
  have htt := hq.2.2.1
  rw [textM_mg hq, mg_nu hq.1 (by omega) (by omega)]
  obtain ⟨t1, t2, t3, t4⟩ := txt_tks hq
  have hr := rDig_1 nn
  have e : ∀ j, j < rDig nn → (txt nn kk tt gg).getD j 0 = (dgs nn).getD j 0 := fun j hj => by
    unfold txt
    rw [List.append_assoc]
    exact getD_l (by rw [dgs_len]; exact hj)
  have e32 : (txt nn kk tt gg).getD (rDig nn) 0 = 32 := by
    unfold txt
    rw [List.append_assoc]
    exact (getD_r (k := 0) (by rw [dgs_len]; exact Nat.le_refl _) (by rw [dgs_len]; omega)).trans rfl
  have hl : rDig nn < (txt nn kk tt gg).length := by
    unfold txt
    rw [List.append_assoc, List.length_append, dgs_len, List.append_assoc, List.length_append]
    show rDig nn < rDig nn + (1 + _)
    omega
  refine ⟨⟨txt_21 hq, fun j hj => ?_, t2, hl, fun j hj => ?_, e32, nuN_v (by have := hq.1; omega) e, t3, t4⟩, h1, h2⟩
  · have := t2 j hj
    omega
  · rw [e j hj]
    have hd := dgs_at (v := nn) (c := j) (by have := hq.1; omega) hj
    have : dgAt nn j < 10 := Nat.mod_lt _ (by omega)
    omega
