/-! ===== what of the launch holds at the law's entry ===== -/
set_option maxRecDepth 100000 in
theorem st_F : ∀ q ∈ evF, Cond.fieldLinkNest q.1 q.2.1 q.2.2.1 q.2.2.2.1 q.2.2.2.2 "SessionFix" ∈ tables_1 := by decide +kernel
set_option maxRecDepth 100000 in
theorem st_M : ∀ q ∈ evM, Cond.methodLinkNest q.1 q.2.1 q.2.2 "SessionFix" ∈ tables_1 := by decide +kernel
set_option maxRecDepth 100000 in
theorem st_C : ∀ q ∈ evC, Cond.castable q.1 q.2 ∈ tables_1 := by decide +kernel
set_option maxRecDepth 100000 in
theorem st_D : ∀ q ∈ evD, Cond.declares q ∈ tables_1 := by decide +kernel
abbrev stN : Cond := Jvm.Cond.and given_1 narrow_1
set_option maxRecDepth 100000 in
theorem st_N : ∀ q ∈ evN, Cond.not (.castable q.1 q.2) ∈ flatC stN := by decide +kernel
abbrev tOnes : Term := Term.static "java/lang/Integer" "DigitOnes" "[B"
abbrev tTens : Term := Term.static "java/lang/Integer" "DigitTens" "[B"
set_option maxRecDepth 100000 in
theorem st_O0 : ∀ j, j < 20 → (flatC stN)[10 + j]? = some (Cond.eq (.elem tOnes (.int (Int32.ofNat (0 + j)))) (.int (evOnes (0 + j)))) := by decide +kernel
set_option maxRecDepth 100000 in
theorem st_O1 : ∀ j, j < 20 → (flatC stN)[30 + j]? = some (Cond.eq (.elem tOnes (.int (Int32.ofNat (20 + j)))) (.int (evOnes (20 + j)))) := by decide +kernel
set_option maxRecDepth 100000 in
theorem st_O2 : ∀ j, j < 20 → (flatC stN)[50 + j]? = some (Cond.eq (.elem tOnes (.int (Int32.ofNat (40 + j)))) (.int (evOnes (40 + j)))) := by decide +kernel
set_option maxRecDepth 100000 in
theorem st_O3 : ∀ j, j < 20 → (flatC stN)[70 + j]? = some (Cond.eq (.elem tOnes (.int (Int32.ofNat (60 + j)))) (.int (evOnes (60 + j)))) := by decide +kernel
set_option maxRecDepth 100000 in
theorem st_O4 : ∀ j, j < 20 → (flatC stN)[90 + j]? = some (Cond.eq (.elem tOnes (.int (Int32.ofNat (80 + j)))) (.int (evOnes (80 + j)))) := by decide +kernel
set_option maxRecDepth 100000 in
theorem st_O : ∀ j, j < 100 → Cond.eq (.elem tOnes (.int (Int32.ofNat j))) (.int (evOnes j)) ∈ flatC stN := fun j hj => by
  rcases (show j < 20 ∨ (20 ≤ j ∧ j < 40) ∨ (40 ≤ j ∧ j < 60) ∨ (60 ≤ j ∧ j < 80) ∨ 80 ≤ j by omega) with h | h | h | h | h
  · have e := st_O0 (j - 0) (by omega)
    rw [show 0 + (j - 0) = j by omega] at e
    exact List.mem_of_getElem? e
  · have e := st_O1 (j - 20) (by omega)
    rw [show 20 + (j - 20) = j by omega] at e
    exact List.mem_of_getElem? e
  · have e := st_O2 (j - 40) (by omega)
    rw [show 40 + (j - 40) = j by omega] at e
    exact List.mem_of_getElem? e
  · have e := st_O3 (j - 60) (by omega)
    rw [show 60 + (j - 60) = j by omega] at e
    exact List.mem_of_getElem? e
  · have e := st_O4 (j - 80) (by omega)
    rw [show 80 + (j - 80) = j by omega] at e
    exact List.mem_of_getElem? e
set_option maxRecDepth 100000 in
theorem st_T0 : ∀ j, j < 20 → (flatC stN)[113 + j]? = some (Cond.eq (.elem tTens (.int (Int32.ofNat (0 + j)))) (.int (evTens (0 + j)))) := by decide +kernel
set_option maxRecDepth 100000 in
theorem st_T1 : ∀ j, j < 20 → (flatC stN)[133 + j]? = some (Cond.eq (.elem tTens (.int (Int32.ofNat (20 + j)))) (.int (evTens (20 + j)))) := by decide +kernel
set_option maxRecDepth 100000 in
theorem st_T2 : ∀ j, j < 20 → (flatC stN)[153 + j]? = some (Cond.eq (.elem tTens (.int (Int32.ofNat (40 + j)))) (.int (evTens (40 + j)))) := by decide +kernel
set_option maxRecDepth 100000 in
theorem st_T3 : ∀ j, j < 20 → (flatC stN)[173 + j]? = some (Cond.eq (.elem tTens (.int (Int32.ofNat (60 + j)))) (.int (evTens (60 + j)))) := by decide +kernel
set_option maxRecDepth 100000 in
theorem st_T4 : ∀ j, j < 20 → (flatC stN)[193 + j]? = some (Cond.eq (.elem tTens (.int (Int32.ofNat (80 + j)))) (.int (evTens (80 + j)))) := by decide +kernel
set_option maxRecDepth 100000 in
theorem st_T : ∀ j, j < 100 → Cond.eq (.elem tTens (.int (Int32.ofNat j))) (.int (evTens j)) ∈ flatC stN := fun j hj => by
  rcases (show j < 20 ∨ (20 ≤ j ∧ j < 40) ∨ (40 ≤ j ∧ j < 60) ∨ (60 ≤ j ∧ j < 80) ∨ 80 ≤ j by omega) with h | h | h | h | h
  · have e := st_T0 (j - 0) (by omega)
    rw [show 0 + (j - 0) = j by omega] at e
    exact List.mem_of_getElem? e
  · have e := st_T1 (j - 20) (by omega)
    rw [show 20 + (j - 20) = j by omega] at e
    exact List.mem_of_getElem? e
  · have e := st_T2 (j - 40) (by omega)
    rw [show 40 + (j - 40) = j by omega] at e
    exact List.mem_of_getElem? e
  · have e := st_T3 (j - 60) (by omega)
    rw [show 60 + (j - 60) = j by omega] at e
    exact List.mem_of_getElem? e
  · have e := st_T4 (j - 80) (by omega)
    rw [show 80 + (j - 80) = j by omega] at e
    exact List.mem_of_getElem? e
def stI (i : Nat) : Nat := [48, 50, 52, 54, 56, 58, 60, 43, 46].getD i 0
abbrev tStr (i : Nat) : Term := Term.string "SessionFix$Message" (stI i)
abbrev tVal (i : Nat) : Term := Term.field (tStr i) "java/lang/String" "value" "[B"
set_option maxRecDepth 100000 in
theorem st_S1 : ∀ i, i < 9 → Cond.exactly (tStr i) "java/lang/String" ∈ flatC stN ∧ Cond.eq (.field (tStr i) "java/lang/String" "coder" "B") (.int 0) ∈ flatC stN ∧ Cond.arrayOf (tVal i) .byte ∈ flatC stN ∧ Cond.eq (.length (tVal i)) (.int (Int32.ofNat (evLn.getD i 0))) ∈ flatC stN ∧ evLn.getD i 0 < 2 ^ 31 ∧ evLn.getD i 0 ≤ 9 := by decide +kernel
set_option maxRecDepth 100000 in
theorem st_S2 : ∀ i, i < 9 → ∀ j, j < 9 → j < evLn.getD i 0 → Cond.eq (.elem (tVal i) (.int (Int32.ofNat j))) (.int ((evBy.getD i []).getD j 0)) ∈ flatC stN := by decide +kernel
set_option maxRecDepth 100000 in
theorem st_S3 : ∀ i, i < 9 → ∀ j, j < 9 → i ≠ j → Cond.not (Cond.eq (tStr i) (tStr j)) ∈ flatC stN ∨ Cond.not (Cond.eq (tStr j) (tStr i)) ∈ flatC stN := by decide +kernel
set_option maxRecDepth 100000 in
theorem st_S4 : ∀ i, i < 9 → ∀ q, evTx[i]? = some q → Cond.stringRef "SessionFix$Message" q.1 q.2 ∈ tables_1 ∧ q.1 = stI i := by
  intro i hi q hq
  have h : ∀ i, i < 9 → Cond.stringRef "SessionFix$Message" (evTx.getD i (0, "")).1 (evTx.getD i (0, "")).2 ∈ tables_1 ∧ (evTx.getD i (0, "")).1 = stI i := by decide +kernel
  have e : evTx.getD i (0, "") = q := by rw [List.getD_eq_getElem?_getD, hq]; rfl
  rw [← e]
  exact h i hi
section START
variable {args : Array Value} {s : State}
theorem st_W (hts : ∀ w ∈ tables_1, w.before args s = true) (hN : ∀ q ∈ evN, (Cond.not (.castable q.1 q.2)).before args s = true) : evW s :=
  ⟨fun q hq => va_Nw.of rfl (hts _ (st_F q hq)), fun q hq => va_Nw.of rfl (hts _ (st_M q hq)), fun q hq => va_Nw.of rfl (hts _ (st_C q hq)), fun q hq => va_Nw.of rfl (hts _ (st_D q hq)), fun q hq => va_Nc.of (hN q hq)⟩
theorem st_ev (hts : ∀ w ∈ tables_1, w.before args s = true) (hgv : stN.before args s = true) : ev (fun q => s.heap.size ≤ q) s s.heap := by
  have hs := flat_of_before _ hgv
  have hA : ∀ a : Nat, a < s.heap.size → ¬ s.heap.size ≤ a := fun a h => Nat.not_le.mpr h
  refine ⟨st_W hts (fun q hq => hs _ (st_N q hq)), ⟨vx_Zqof (hts _ (by decide +kernel)) (hts _ (by decide +kernel)) (hs _ (by decide +kernel)) hA, vx_Zqof (hts _ (by decide +kernel)) (hts _ (by decide +kernel)) (hs _ (by decide +kernel)) hA⟩,
    va_Zqof (hts _ (by decide +kernel)) (hts _ (by decide +kernel)) (hs _ (by decide +kernel)) hA, va_Zof (hts _ (by decide +kernel)) (hts _ (by decide +kernel)) (va_eqi (hs _ (by decide +kernel))) hA, ?_, ?_, ?_⟩
  · obtain ⟨t, ht, hT⟩ := va_Tof (tm := tOnes) (ty := .byte) (N := 100) (f := fun j => .int (evOnes j)) (by decide) (hs _ (by decide +kernel)) (va_eqt (hs _ (by decide +kernel))) (fun j hj => va_eqt (hs _ (st_O j hj))) hA
    exact ⟨t, va_Zof (hts _ (by decide +kernel)) (hts _ (by decide +kernel)) ht hA, hT⟩
  · obtain ⟨t, ht, hT⟩ := va_Tof (tm := tTens) (ty := .byte) (N := 100) (f := fun j => .int (evTens j)) (by decide) (hs _ (by decide +kernel)) (va_eqt (hs _ (by decide +kernel))) (fun j hj => va_eqt (hs _ (st_T j hj))) hA
    exact ⟨t, va_Zof (hts _ (by decide +kernel)) (hts _ (by decide +kernel)) ht hA, hT⟩
  · obtain ⟨aK, aV, h1, h2⟩ := vk_Sof (N := 9) (tm := tStr) (len := evLn) (byt := evBy) (fun i hi => (st_S1 i hi).2.2.2.2.1) (fun i hi => hs _ (st_S1 i hi).1) (fun i hi => hs _ (st_S1 i hi).2.1) (fun i hi => hs _ (st_S1 i hi).2.2.1) (fun i hi => hs _ (st_S1 i hi).2.2.2.1) (fun i hi j hj => hs _ (st_S2 i hi j (Nat.lt_of_lt_of_le hj (st_S1 i hi).2.2.2.2.2) hj)) (fun i j hi hj hne => (st_S3 i hi j hj hne).imp (hs _) (hs _)) hA
    refine ⟨aK, aV, h1, fun i q hq => ?_⟩
    have hi : i < 9 := (List.getElem?_eq_some_iff.mp hq).1
    obtain ⟨g1, g2⟩ := st_S4 i hi q hq
    have h3 : (Term.string "SessionFix$Message" (stI i)).eval args s none [] s = some (.ref (aK i)) := h2 i hi
    rw [← g2] at h3
    exact vk_R.of (hts _ g1) h3
end START
