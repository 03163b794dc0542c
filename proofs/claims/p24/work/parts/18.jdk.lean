/-! ===== texts: what StringBuilder's own methods do ===== -/
theorem narB : ∀ v : Nat, v < 128 → vp_nar .byte (nI v) = nI v := by decide +kernel
theorem toB : ∀ v : Nat, v < 128 → (nI v).toInt8.toInt32 = nI v := by decide +kernel
theorem fitB : ∀ v : Nat, v < 128 → fits .byte (.int (nI v)) = true := by decide +kernel
/-- place sz: a capacity, what lies in the bytes, the text so far -/
def tx (cap cn : Nat) (f : Nat → Nat) (cs : List Nat) : Prop := (cap = 16 ∨ cap = 34) ∧ cn = cs.length ∧ cn ≤ cap ∧ (∀ j, j < cn → f j = cs.getD j 0) ∧ ∀ j, f j < 128
theorem tx_0 : tx 16 0 (fun _ => 0) [] := ⟨Or.inl rfl, rfl, by omega, fun j hj => absurd hj (Nat.not_lt_zero j), fun _ => show 0 < 128 by decide⟩
theorem tx_app {cap cn : Nat} {f f' : Nat → Nat} {cs ds : List Nat} (h : tx cap cn f cs) {k : Nat} (hk : k = ds.length) (hc : cn + k ≤ cap) (h1 : ∀ j, j < cn → f' j = f j) (h2 : ∀ j, j < k → f' (cn + j) = ds.getD j 0) (h3 : ∀ j, f' j < 128) : tx cap (cn + k) f' (cs ++ ds) := by
  obtain ⟨g1, g2, g3, g4, g5⟩ := h
  refine ⟨g1, by rw [List.length_append]; omega, hc, fun j hj => ?_, h3⟩
  rcases Nat.lt_or_ge j cn with q | q
  · rw [h1 j q, g4 j q, List.getD_eq_getElem?_getD, List.getD_eq_getElem?_getD, List.getElem?_append_left (by omega)]
  · rw [List.getD_eq_getElem?_getD, List.getElem?_append_right (by omega), ← g2, ← List.getD_eq_getElem?_getD, ← h2 (j - cn) (by omega)]
    congr 1
    omega
theorem tx_push {cap cn c : Nat} {f : Nat → Nat} {cs : List Nat} (h : tx cap cn f cs) (hc : cn + 1 ≤ cap) (hv : c < 128) : tx cap (cn + 1) (va_up f cn c) (cs ++ [c]) := by
  refine tx_app h rfl hc (fun j hj => ?_) (fun j hj => ?_) (fun j => ?_)
  · exact if_neg (by omega)
  · obtain rfl : j = 0 := by omega
    exact if_pos rfl
  · unfold va_up
    by_cases q : j = cn
    · rw [if_pos q]; exact hv
    · rw [if_neg q]; exact h.2.2.2.2 j
theorem tx_grow {cn : Nat} {f : Nat → Nat} {cs : List Nat} (h : tx 16 cn f cs) : tx 34 cn (va_cpy f (fun _ => 0) 0 0 16) cs := by
  obtain ⟨g1, g2, g3, g4, g5⟩ := h
  refine ⟨Or.inr rfl, g2, by omega, fun j hj => ?_, fun j => ?_⟩
  · rw [← g4 j hj]
    rw [pk_cpy_in (by omega) (by omega)]
    congr 1
    omega
  · unfold va_cpy
    by_cases q : 0 ≤ j ∧ j < 0 + 16
    · rw [if_pos q]; exact g5 _
    · rw [if_neg q]; show 0 < 128; decide
def dgs (v : Nat) : List Nat := if v ≤ 99 then if v ≤ 9 then [48 + v] else [48 + v / 10, 48 + v % 10] else [48 + v / 100, 48 + v % 100 / 10, 48 + v % 100 % 10]
theorem dgs_len (v : Nat) : (dgs v).length = rDig v := by
  unfold dgs rDig
  by_cases q : v ≤ 99
  · rw [if_pos q, if_pos q]
    by_cases q2 : v ≤ 9
    · rw [if_pos q2, if_pos q2]; rfl
    · rw [if_neg q2, if_neg q2]; rfl
  · rw [if_neg q, if_neg q]; rfl
/-- what Integer.getChars leaves, written up to place ix -/
def gcN (v ix : Nat) (f : Nat → Nat) : Nat → Nat :=
  if v ≤ 99 then if v ≤ 9 then va_up f (ix - 1) (48 + v % 10) else va_up (va_up f (ix - 1) (48 + v % 10)) (ix - 1 - 1) (48 + v / 10)
  else va_up (va_up (va_up f (ix - 1) (48 + v % 100 % 10)) (ix - 1 - 1) (48 + v % 100 / 10)) (ix - 1 - 1 - 1) (48 + v / 100 % 10)
theorem up_lt {f : Nat → Nat} {k c : Nat} (h : ∀ j, f j < 128) (hc : c < 128) (j : Nat) : va_up f k c j < 128 := by
  unfold va_up
  by_cases q : j = k
  · rw [if_pos q]; exact hc
  · rw [if_neg q]; exact h j
theorem tx_int {cap cn v : Nat} {f : Nat → Nat} {cs : List Nat} (h : tx cap cn f cs) (hv : v < 1000) (hc : cn + rDig v ≤ cap) : tx cap (cn + rDig v) (gcN v (cn + rDig v) f) (cs ++ dgs v) := by
  have g5 := h.2.2.2.2
  refine tx_app h (dgs_len v).symm hc (fun j hj => ?_) (fun j hj => ?_) (fun j => ?_)
  · unfold gcN rDig
    by_cases q : v ≤ 99
    · simp only [if_pos q]
      by_cases q2 : v ≤ 9
      · simp only [if_pos q2]; exact if_neg (by omega)
      · simp only [if_neg q2]
        exact (if_neg (by omega)).trans (if_neg (by omega))
    · simp only [if_neg q]
      exact (if_neg (by omega)).trans ((if_neg (by omega)).trans (if_neg (by omega)))
  · unfold gcN dgs
    unfold rDig at hj ⊢
    by_cases q : v ≤ 99
    · simp only [if_pos q] at hj ⊢
      by_cases q2 : v ≤ 9
      · simp only [if_pos q2] at hj ⊢
        obtain rfl : j = 0 := by omega
        rw [Nat.mod_eq_of_lt (by omega)]
        exact if_pos (by omega)
      · simp only [if_neg q2] at hj ⊢
        rcases (show j = 0 ∨ j = 1 by omega) with rfl | rfl
        · exact if_pos (by omega)
        · exact (if_neg (by omega)).trans (if_pos (by omega))
    · simp only [if_neg q] at hj ⊢
      rcases (show j = 0 ∨ j = 1 ∨ j = 2 by omega) with rfl | rfl | rfl
      · rw [Nat.mod_eq_of_lt (show v / 100 < 10 by omega)]
        exact if_pos (by omega)
      · exact (if_neg (by omega)).trans (if_pos (by omega))
      · exact (if_neg (by omega)).trans ((if_neg (by omega)).trans (if_pos (by omega)))
  · unfold gcN
    by_cases q : v ≤ 99
    · simp only [if_pos q]
      by_cases q2 : v ≤ 9
      · simp only [if_pos q2]; exact up_lt g5 (by omega) j
      · simp only [if_neg q2]; exact up_lt (up_lt g5 (by omega)) (by omega) j
    · simp only [if_neg q]; exact up_lt (up_lt (up_lt g5 (by omega)) (by omega)) (by omega) j
/-! the minus of a small number -/
theorem neg_le {v k : Nat} (hv : v < 2 ^ 30) (hk : k < 2 ^ 30) : -(nI v) ≤ -(nI k) ↔ k ≤ v := by
  rw [Int32.le_iff_toInt_le, Int32.toInt_neg, Int32.toInt_neg, nI_toInt (by omega), nI_toInt (by omega)]
  rw [Int.bmod_eq_of_le (by omega) (by omega), Int.bmod_eq_of_le (by omega) (by omega)]
  omega
theorem neg_lt {v k : Nat} (hv : v < 2 ^ 30) (hk : k < 2 ^ 30) : -(nI k) < -(nI v) ↔ v < k := by
  rw [Int32.lt_iff_toInt_lt, Int32.toInt_neg, Int32.toInt_neg, nI_toInt (by omega), nI_toInt (by omega)]
  rw [Int.bmod_eq_of_le (by omega) (by omega), Int.bmod_eq_of_le (by omega) (by omega)]
  omega
theorem neg_div : ∀ v : Nat, v < 1000 → -(nI v) / 100 = -(nI (v / 100)) := by decide +kernel
theorem neg_rem : ∀ v : Nat, v < 1000 → -(nI (v / 100)) * 100 - -(nI v) = nI (v % 100) := by decide +kernel
theorem neg_neg (v : Nat) : - -(nI v) = nI v := Int32.neg_neg
theorem sub_le0 {a b : Nat} (ha : a < 2 ^ 30) (hb : b < 2 ^ 30) : nI a - nI b ≤ 0 ↔ a ≤ b := by
  rw [Int32.le_iff_toInt_le, Int32.toInt_sub, nI_toInt (by omega), nI_toInt (by omega), show (0 : Int32).toInt = 0 from rfl]
  rw [Int.bmod_eq_of_le (by omega) (by omega)]
  omega
theorem shr0 {n : Nat} (h : n < 2 ^ 31) : nI n >>> ((0 : Int32) &&& 31) = nI n := by
  have e := pk_shrN h ((0 : Int32) &&& 31) 0 (by decide)
  rw [e, Nat.pow_zero, Nat.div_one]
theorem shl0 {n : Nat} (h : n < 2 ^ 31) : nI n <<< ((0 : Int32) &&& 31) = nI n := by
  have e := pk_shlN (n := n) ((0 : Int32) &&& 31) 0 (by decide) (by omega)
  rw [e, Nat.pow_zero, Nat.mul_one]
/-! the constants -/
def strK (i k : Nat) (U : State) : Prop := ∃ q, evTx[i]? = some q ∧ vk_R "SessionFix$Message" q.1 q.2 k U
theorem strK.same {i k : Nat} {u U : State} (h : u.vm = U.vm) (g : strK i k u) : strK i k U := by
  obtain ⟨q, h1, h2⟩ := g
  exact ⟨q, h1, vk_R.same h.symm h2⟩
theorem strK.warm {i k : Nat} {s U : State} (hW : s.WarmedH U.vm) (g : strK i k s) : strK i k U := by
  obtain ⟨q, h1, h2⟩ := g
  exact ⟨q, h1, vk_R.warm hW h2⟩
theorem strK.R {i k : Nat} {s : State} (g : strK i k s) {q : Nat × String} (hq : evTx[i]? = some q) : vk_R "SessionFix$Message" q.1 q.2 k s := by
  obtain ⟨q', h1, h2⟩ := g
  cases hq.symm.trans h1
  exact h2
theorem rDig_c (v : Nat) : (9 < v → 2 ≤ rDig v) ∧ (99 < v → 3 ≤ rDig v) := by
  unfold rDig
  by_cases q : v ≤ 99
  · rw [if_pos q]
    by_cases q2 : v ≤ 9
    · rw [if_pos q2]; omega
    · rw [if_neg q2]; omega
  · rw [if_neg q]; omega
def sbL (i : Nat) : List Nat := ([[76, 79, 71, 79, 78], [72, 69, 65, 82, 84, 66, 69, 65, 84], [84, 69, 83, 84], [82, 69, 83, 69, 78, 68], [70, 73, 76, 76], [66, 85, 83, 73, 78, 69, 83, 83], [76, 79, 71, 79, 85, 84], [32, 68], [32, 80]] : List (List Nat)).getD i []
theorem sb_1 : ∀ i, i < 9 → ∀ j, j < 10 → ((evBy.getD i []).getD j 0 : Int32) = nI ((sbL i).getD j 0) := by decide +kernel
theorem sb_2 : ∀ i, i < 9 → evLn.getD i 0 = (sbL i).length ∧ (sbL i).length ≤ 9 := by decide +kernel
theorem sb_3 : ∀ i, i < 9 → ∀ j, j < 10 → (sbL i).getD j 0 < 128 := by decide +kernel
theorem strK_S {A : Nat → Prop} {s : State} {H : Heap} {i k : Nat} (hT : evT A s H) (g : strK i k s) (hi : i < 9) : ∃ t : Nat, va_O "java/lang/String" k A s H ∧ va_OF "java/lang/String" "coder" "B" (.int 0) k A s H ∧ va_OF "java/lang/String" "value" "[B" (.ref t) k A s H ∧ va_T .byte t (sbL i).length (fun j => .int ((evBy.getD i []).getD j 0)) A s H := by
  obtain ⟨-, -, -, -, aK, aV, h1, h2⟩ := hT
  obtain ⟨q, g1, g2⟩ := g
  have e := h2 i q g1
  have e2 : aK i = k := by
    have a := e.2.symm.trans g2.2
    cases a
    rfl
  subst e2
  obtain ⟨a1, a2, a3, a4⟩ := h1.1 i hi
  exact ⟨aV i, a1, a2, a3, by rw [← (sb_2 i hi).1]; exact a4⟩
theorem strK_recv {A : Nat → Prop} {s : State} {H : Heap} {locs : List Loc} {k : Nat} (h : va_O "java/lang/String" k A s s.heap) (hS : va_S A s.heap H locs) : ∃ cell : Cell, H[k]? = some cell ∧ cell.vm.isStatics = false ∧ s.vm.findClass "java/lang/String" = some cell.cls := by
  obtain ⟨cell, h1, h2, h3, -⟩ := h.kept hS.2.1
  exact ⟨cell, h1, h2, h3⟩
theorem strK_ev {A : Nat → Prop} {s : State} {H : Heap} (hT : evT A s H) : ∃ aK : Nat → Nat, ∀ i, i < 9 → strK i (aK i) s := by
  obtain ⟨-, -, -, -, aK, aV, h1, h2⟩ := hT
  refine ⟨aK, fun i hi => ?_⟩
  obtain ⟨q, hq⟩ : ∃ q, evTx[i]? = some q := ⟨evTx[i]'(by simpa [evTx] using hi), List.getElem?_eq_getElem _⟩
  exact ⟨q, hq, h2 i q hq⟩
theorem tx_str {cap cn i : Nat} {f : Nat → Nat} {cs : List Nat} (h : tx cap cn f cs) (hi : i < 9) (hc : cn + (sbL i).length ≤ cap) : tx cap (cn + (sbL i).length) (va_cpy (fun j => (sbL i).getD j 0) f 0 cn (sbL i).length) (cs ++ sbL i) := by
  refine tx_app h rfl hc (fun j hj => pk_cpy_out (Or.inl hj)) (fun j hj => ?_) (fun j => ?_)
  · rw [pk_cpy_in (by omega) (by omega)]
    show (sbL i).getD (0 + (cn + j - cn)) 0 = _
    congr 1
    omega
  · unfold va_cpy
    by_cases q : cn ≤ j ∧ j < cn + (sbL i).length
    · rw [if_pos q]
      exact sb_3 i hi _ (by have := (sb_2 i hi).2; omega)
    · rw [if_neg q]; exact h.2.2.2.2 j
/-! the contracts' kinds -/
abbrev X3 := Nat × Nat × (Nat → Nat)
def qxv (D : va_G) (tys : List (ClassId × FieldType)) (post : X3 → Prop) (w : X3 → va_W) : (Nat → Prop) → Array Value → State → Outcome → State → Prop := fun A => va_Qv post (fun u t => bb D tys (w u) A t) A
def qxr (D : va_G) (tys : List (ClassId × FieldType)) (post : X3 → Prop) (r : Nat) (w : X3 → va_W) : (Nat → Prop) → Array Value → State → Outcome → State → Prop := fun A => va_Qr post (fun u a t => a = r ∧ bb D tys (w u) A t) A
def qxn (D : va_G) (tys : List (ClassId × FieldType)) (post : X3 → Prop) (w : X3 → Nat → va_W) : (Nat → Prop) → Array Value → State → Outcome → State → Prop := fun A => va_Qr post (fun u a t => bb D tys (w u a) A t) A
def qrn (D : va_G) (tys : List (ClassId × FieldType)) (w : Nat → va_W) : (Nat → Prop) → Array Value → State → Outcome → State → Prop := fun A => va_Qr (fun (_ : Unit) => True) (fun _ a t => bb D tys (w a) A t) A
section LFX
variable {D : va_G} {tys : List (ClassId × FieldType)} {A : Nat → Prop} {s t : State} {H : Heap} {locs : List Loc} {args : Array Value}
theorem lfxv {post : X3 → Prop} {w : X3 → va_W} (u : X3) (hr : post u) (hP : va_P D vwCl (w u) H) (hK : va_K D vwCl tys s) (hD : va_D A (w u)) (hS : va_S A s.heap H locs) (ht : t.heap = H) (hW : s.WarmedH t.vm) : qxv D tys post w A args s (.returned none) t := ⟨⟨u, rfl, hr, lfb hP hK hD ht hW⟩, hS.F ht⟩
theorem lfxr {post : X3 → Prop} {w : X3 → va_W} {r a : Nat} (u : X3) (ha : a = r) (hr : post u) (hP : va_P D vwCl (w u) H) (hK : va_K D vwCl tys s) (hD : va_D A (w u)) (hS : va_S A s.heap H locs) (ht : t.heap = H) (hW : s.WarmedH t.vm) : qxr D tys post r w A args s (.returned (some (.ref a))) t := ⟨⟨u, a, rfl, hr, ha, lfb hP hK hD ht hW⟩, hS.F ht⟩
theorem lfxn {post : X3 → Prop} {w : X3 → Nat → va_W} {a : Nat} (u : X3) (hr : post u) (hP : va_P D vwCl (w u a) H) (hK : va_K D vwCl tys s) (hD : va_D A (w u a)) (hS : va_S A s.heap H locs) (ht : t.heap = H) (hW : s.WarmedH t.vm) : qxn D tys post w A args s (.returned (some (.ref a))) t := ⟨⟨u, a, rfl, hr, lfb hP hK hD ht hW⟩, hS.F ht⟩
theorem lfrn {w : Nat → va_W} {a : Nat} (hP : va_P D vwCl (w a) H) (hK : va_K D vwCl tys s) (hD : va_D A (w a)) (hS : va_S A s.heap H locs) (ht : t.heap = H) (hW : s.WarmedH t.vm) : qrn D tys w A args s (.returned (some (.ref a))) t := ⟨⟨(), a, rfl, trivial, lfb hP hK hD ht hW⟩, hS.F ht⟩
end LFX
def pcsK (i k : Nat) (z : Bool) (D : va_G) (tys : List (ClassId × FieldType)) (w : va_W) (sz : Nat) (av : List Value) : Array Value → State → Prop := fun a U => pcs z D tys w sz av a U ∧ strK i k U
theorem pcsK_blind {i k : Nat} {z : Bool} {D : va_G} {tys : List (ClassId × FieldType)} {w : va_W} {sz : Nat} {av : List Value} : FrameBlind (pcsK i k z D tys w sz av) := fun a U g mk q =>
  ⟨pcs_blind a U g mk q.1, strK.same (u := U) (U := U.calling g mk a) rfl q.2⟩
theorem pcsK_pre {i k : Nat} {z : Bool} {D : va_G} {tys : List (ClassId × FieldType)} {w : va_W} {sz : Nat} {av : List Value} {a : Array Value} {s : State} {H : Heap} (h : ∀ U : State, U.heap = H → s.WarmedH U.vm → pcs z D tys w sz av a U) (g : strK i k s) : ∀ U : State, U.heap = H → s.WarmedH U.vm → pcsK i k z D tys w sz av a U := fun U hU hW => ⟨h U hU hW, g.warm hW⟩
def CTK (l : Launch) (y : MethodName) (ws : List Cond) (rm : Room) (z : Bool) (D : va_G) (tys : List (ClassId × FieldType)) (w : va_W) (sz i k : Nat) (av : List Value) (Q : (Nat → Prop) → Array Value → State → Outcome → State → Prop) (mc ms : Nat) : Prop :=
  Met l y ws rm (pcsK i k z D tys w sz av) (Q (va_A w sz)) mc ms (va_A w sz)
theorem CTK.of {l : Launch} {y : MethodName} {ws ws' : List Cond} {rm : Room} {z : Bool} {D : va_G} {tys : List (ClassId × FieldType)} {w : va_W} {sz i k : Nat} {av : List Value} {Q : (Nat → Prop) → Array Value → State → Outcome → State → Prop} {mc ms : Nat} {cc : ByteArray} {maxL : Nat} {ret : Option FieldType}
    (hy : plainName y.cls = true) (hw : ws = Cond.code y cc maxL ret :: ws') (hl : (lg_sl av).length ≤ maxL)
    (body : ∀ (A : Nat → Prop) (p : Program) (e : Env) (s : State) (m : MethodId) (args : Array Value) (below : List Frame) (meth : Method) (c : Code) (ls : Array Slot) (H : Heap) (locs : List Loc), En p s m args meth c cc maxL ret y.cls y.name ws → strK i k s → args = av.toArray → va_P D vwCl w H → va_K D vwCl tys s → va_D A w → (z = true → ev A s s.heap) → (∀ q : Nat, s.heap.size ≤ q → A q) → va_S A s.heap H locs → lv_has ls maxL (lv_args 0 av) →
      W p l e rm s m args below meth c H locs 0 0 (MQ below (Q A) args s mc ms A) (F0 m 0 ls [])) : CTK l y ws rm z D tys w sz i k av Q mc ms := by
  refine Met.ofW (cc := cc) (maxL := maxL) (ret := ret) hy hw ?_
  intro p e s m args below meth c s₁ B hml hv
  obtain ⟨⟨rfl, hsz, hP, hK, hD0, hE⟩, hk⟩ := hv
  subst hsz
  rw [lg_entry_eq]
  exact body (va_A w s.heap.size) p e s m _ below meth c _ _ _ ⟨B.exec, B.bytes, B.returns, hml, findClass_of_methodNamed B.named, atoms_spec (ws := ws) B.pre, B.notSynchronized, (name_of_methodNamed B.named B.method).1⟩ hk rfl hP hK hD0.self hE (fun q h => Or.inr h) va_S.rf (lv_entry av hl)
/-! bytes -/
section BYT
variable {p : Program} {l : Launch} {e : Env} {R : Room} {s : State} {m : MethodId} {args : Array Value} {below : List Frame} {meth : Method} {c : Code} {H : Heap} {locs : List Loc} {cells slots : Nat} {Q : State → Prop}
variable {cc : ByteArray} {pc : Nat} {ls : Array Slot} {rest : List Value} {D : va_G} {cl : List vw_C} {A : Nat → Prop} {a : Nat} {tys : List (ClassId × FieldType)} {ws : va_W} {H0 : Heap}
theorem bld (hexec : p.tables.exec = Jvm.exec) (hb : c.code = cc) (hK : va_K D cl tys s) (hP : va_P D cl ws H) (q0 t0 : Nat) {cA : ClassId} {n : Nat} {f : Nat → Nat} {k : Nat} (hk : k < n) (hn : n ≤ 65536) (ha : ws[q0]? = some (a, .inl (cA, n, .inl (ni f)))) (ht : tys[t0]? = some (cA, .byte)) (hdg : decode cc pc = .ok (.baload, 1))
    (kk : W p l e R s m args below meth c H locs cells slots Q (F0 m (pc + 1) ls (.int (nI (f k)) :: rest))) : W p l e R s m args below meth c H locs cells slots Q (F0 m pc ls (.int (nI k) :: .ref a :: rest)) := by
  refine va_bald hexec hb hK hP q0 t0 ha ht (vin hk hn) hdg ?_
  rw [nI_clamp (show k < 2 ^ 31 by omega)]
  exact kk
theorem bst (hexec : p.tables.exec = Jvm.exec) (hb : c.code = cc) (hK : va_K D cl tys s) (hP : va_P D cl ws H) (hD : va_D A ws) (hS : va_S A H0 H locs) (q0 t0 : Nat) {cA : ClassId} {n : Nat} {f : Nat → Nat} {k v : Nat} (hv : v < 128) (hk : k < n) (hn : n ≤ 65536) (ha : ws[q0]? = some (a, .inl (cA, n, .inl (ni f)))) (ht : tys[t0]? = some (cA, .byte)) (hdg : decode cc pc = .ok (.bastore, 1))
    (kk : ∀ (H1 : Heap) (locs1 : List Loc), va_P D cl (ws.set q0 (a, .inl (cA, n, .inl (ni (va_up f k v))))) H1 → va_D A (ws.set q0 (a, .inl (cA, n, .inl (ni (va_up f k v))))) → va_S A H0 H1 locs1 → W p l e R s m args below meth c H1 locs1 cells slots Q (F0 m (pc + 1) ls rest)) : W p l e R s m args below meth c H locs cells slots Q (F0 m pc ls (.int (nI v) :: .int (nI k) :: .ref a :: rest)) := by
  refine va_bast hexec hb hK hP hD hS q0 t0 ha ht (vin hk hn) hdg ?_
  rw [nI_clamp (show k < 2 ^ 31 by omega), narB v hv, upd_ni]
  exact kk
theorem ni_cpy {f g : Nat → Nat} {a b n : Nat} : va_cpy (ni f) (ni g) a b n = ni (va_cpy f g a b n) := by
  funext j
  unfold ni va_cpy
  by_cases q : b ≤ j ∧ j < b + n
  · rw [if_pos q, if_pos q]
  · rw [if_neg q, if_neg q]
theorem nI_n0 {n : Nat} (h : n < 2 ^ 30) : ¬ nI n < 0 := nI_pos (by omega)
theorem bcpy (hexec : p.tables.exec = Jvm.exec) (hb : c.code = cc) (hml : c.maxLocals = ls.size) {own : String} {index : Nat} (hown : s.vm.findClass own = some m.cls) (hlink : (Cond.methodLink own index arraycopyName).before args s = true) (hnat : (Cond.native arraycopyName).before args s = true) (hstat : (Cond.static arraycopyName).before args s = true) (hini : (Cond.initialized "java/lang/System").before args s = true)
    (hK : va_K D cl tys s) (hP : va_P D cl ws H) (hD : va_D A ws) (hS : va_S A H0 H locs) (q0 q1 t0 t1 : Nat) {a0 : Nat} {c0 c1 : ClassId} {n0 n1 : Nat} {f g : Nat → Nat} (ha0 : ws[q0]? = some (a0, .inl (c0, n0, .inl (ni f)))) (ha1 : ws[q1]? = some (a, .inl (c1, n1, .inl (ni g)))) (ht0 : tys[t0]? = some (c0, .byte)) (ht1 : tys[t1]? = some (c1, .byte))
    {sp dp n : Nat} (h1 : sp < 2 ^ 30) (h2 : dp < 2 ^ 30) (h3 : n < 2 ^ 30) (h4 : sp + n ≤ n0) (h5 : dp + n ≤ n1) (hf : ∀ j, f j < 128)
    (hframes : 1 ≤ R.frames) (hlocals : (rest.map fun v => v.category).sum + (nativeFrameWords "java/lang/System" "arraycopy" 5 + 11) ≤ R.locals) (hdg : decode cc pc = .ok (.invokestatic index, 3))
    (kk : ∀ (H1 : Heap) (locs1 : List Loc), va_P D cl (ws.set q1 (a, .inl (c1, n1, .inl (ni (va_cpy f g sp dp n))))) H1 → va_D A (ws.set q1 (a, .inl (c1, n1, .inl (ni (va_cpy f g sp dp n))))) → va_S A H0 H1 locs1 → W p l e R s m args below meth c H1 locs1 cells slots Q (F0 m (pc + 3) ls rest)) : W p l e R s m args below meth c H locs cells slots Q (F0 m pc ls (.int (nI n) :: .int (nI dp) :: .ref a :: .int (nI sp) :: .ref a0 :: rest)) := by
  have e1 := nI_clamp (n := sp) (by omega)
  have e2 := nI_clamp (n := dp) (by omega)
  have e3 := nI_clamp (n := n) (by omega)
  refine va_copyi hexec hb hml hown hlink hnat hstat hini hK hP hD hS q0 q1 t0 t1 ha0 ha1 ht0 ht1 rfl (nI_n0 h1) (nI_n0 h2) (nI_n0 h3) (by rw [e1, e3]; exact h4) (by rw [e2, e3]; exact h5) (fun i _ => fitB _ (hf _)) hframes hlocals hdg ?_
  rw [e1, e2, e3, ni_cpy]
  exact kk
theorem bcpyT (hexec : p.tables.exec = Jvm.exec) (hb : c.code = cc) (hml : c.maxLocals = ls.size) {own : String} {index : Nat} (hown : s.vm.findClass own = some m.cls) (hlink : (Cond.methodLink own index arraycopyName).before args s = true) (hnat : (Cond.native arraycopyName).before args s = true) (hstat : (Cond.static arraycopyName).before args s = true) (hini : (Cond.initialized "java/lang/System").before args s = true)
    (hK : va_K D cl tys s) (hP : va_P D cl ws H) (hD : va_D A ws) (hS : va_S A s.heap H locs) {b0 n0 : Nat} {f : Nat → Int32} {f9 : Nat → Nat} (hX : va_T .byte b0 n0 (fun j => .int (f j)) A s s.heap) (q1 t1 : Nat) {c1 : ClassId} {n1 : Nat} {g : Nat → Nat} (ha1 : ws[q1]? = some (a, .inl (c1, n1, .inl (ni g)))) (ht1 : tys[t1]? = some (c1, .byte))
    {dp n : Nat} (h2 : dp < 2 ^ 30) (h3 : n < 2 ^ 30) (h4 : n ≤ n0) (h5 : dp + n ≤ n1) (hf : ∀ j, j < n → f j = nI (f9 j) ∧ f9 j < 128)
    (hframes : 1 ≤ R.frames) (hlocals : (rest.map fun v => v.category).sum + (nativeFrameWords "java/lang/System" "arraycopy" 5 + 11) ≤ R.locals) (hdg : decode cc pc = .ok (.invokestatic index, 3))
    (kk : ∀ (H1 : Heap) (locs1 : List Loc), va_P D cl (ws.set q1 (a, .inl (c1, n1, .inl (ni (va_cpy f9 g 0 dp n))))) H1 → va_D A (ws.set q1 (a, .inl (c1, n1, .inl (ni (va_cpy f9 g 0 dp n))))) → va_S A s.heap H1 locs1 → W p l e R s m args below meth c H1 locs1 cells slots Q (F0 m (pc + 3) ls rest)) : W p l e R s m args below meth c H locs cells slots Q (F0 m pc ls (.int (nI n) :: .int (nI dp) :: .ref a :: .int 0 :: .ref b0 :: rest)) := by
  have e1 : (0 : Int32).toNatClampNeg = 0 := rfl
  have e2 := nI_clamp (n := dp) (by omega)
  have e3 := nI_clamp (n := n) (by omega)
  refine vk_copyt hexec hb hml hown hlink hnat hstat hini hK hP hD hS hX q1 t1 ha1 ht1 (by decide) (nI_n0 h2) (nI_n0 h3) (by rw [e1, e3]; omega) (by rw [e2, e3]; exact h5) (fun i hi => ?_) hframes hlocals hdg ?_
  · rw [e3] at hi
    rw [e1, Nat.zero_add, (hf i hi).1]
    exact fitB _ (hf i hi).2
  · rw [e1, e2, e3]
    have e4 : va_cpy f (ni g) 0 dp n = ni (va_cpy f9 g 0 dp n) := by
      funext j
      unfold ni va_cpy
      by_cases q : dp ≤ j ∧ j < dp + n
      · rw [if_pos q, if_pos q]; exact (hf _ (by omega)).1
      · rw [if_neg q, if_neg q]
    rw [e4]
    exact kk
end BYT
set_option maxRecDepth 20000 in
theorem in_J5_isLatin1_aae02_J4 : ∀ w ∈ u_ws RJ4 TJ4 4, w ∈ wsJ5_isLatin1_aae02 := by decide +kernel
set_option maxHeartbeats 4000000 in
set_option maxRecDepth 100000 in
theorem c_J5_isLatin1_aae02 (l : Launch) (D : va_G) (sz : Nat) (cI : ClassId) (cB : ClassId) (b : Nat) (v : Nat) (cn : Nat)  : CT l yJ5_isLatin1_aae02 wsJ5_isLatin1_aae02 ({ frames := 0, cells := 0, slots := 0, locals := 0 }) true D ([(cI, .int), (cB, .byte)]) [(b, .inr (0, [.ref v, .int 0, .int 0, .int (nI cn)]))] sz [.ref b] (qi D ([(cI, .int), (cB, .byte)]) (fun r => r = 1) [(b, .inr (0, [.ref v, .int 0, .int 0, .int (nI cn)]))]) 0 0 := by
  refine CT.of (cc := cJ5_isLatin1_aae02) (maxL := 1) (ret := (some .boolean)) (by decide) rfl (Nat.le_of_ble_eq_true rfl) ?_
  intro A p e s m args below meth c ls H locs En0 argsE hP hK hD hE hA hS hl
  obtain ⟨hx, hb, hr, hml, hown, hts, hlocks, hin⟩ := En0
  have hEw := (hE rfl).1
  have hP : va_P D vwCl [(b, .inr (0, [.ref v, .int 0, .int 0, .int (nI cn)]))] H := hP
  have hD : va_D A [(b, .inr (0, [.ref v, .int 0, .int 0, .int (nI cn)]))] := hD
  have hl : lv_has ls 1 [(0, .ref b)] := hl
  obtain ⟨hz0, hcs, hOn, hTn, hstr⟩ := (hE rfl).2.2
  refine va_gets hx hb hcs hS hown (hts (.fieldLink RJ5 18 "java/lang/String" "COMPACT_STRINGS" "Z") (by decide +kernel)) (fun _ h => h) dJ5_isLatin1_aae02_0 ?_
  refine lv_if_eq (tgt := 17) hx hb dJ5_isLatin1_aae02_3 (by decide) (fun c_1 => ?_) (fun c_1 => ?_)
  · exact absurd c_1 (by decide)
  · refine lv_aload_n hx hb dJ5_isLatin1_aae02_6 rfl (lv_at hl 0 rfl) ?_
    refine va_get (ci := 0) (v := .int 0) (C := RJ4) (T := TJ4) (N := 4) hx hb hts in_J5_isLatin1_aae02_J4 hown hK hP 0 rfl rfl 1 (by decide) (hts (.fieldLink RJ5 22 "java/lang/AbstractStringBuilder" "coder" "B") (by decide +kernel)) (fun _ h9 => h9) rfl dJ5_isLatin1_aae02_7 ?_
    refine lv_if_ne (tgt := 17) hx hb dJ5_isLatin1_aae02_10 (by decide) (fun c_2 => ?_) (fun c_2 => ?_)
    · exact absurd c_2 (by decide)
    · refine lv_iconst (v := 1) hx hb dJ5_isLatin1_aae02_13 (by decide) ?_
      refine lv_goto (tgt := 18) hx hb dJ5_isLatin1_aae02_14 (by decide) ?_
      exact W.zret (v := 1) hx hb hr rfl (fun t ht hW => lfe rfl hP hK hD hS ht hW) hS.2.2 dJ5_isLatin1_aae02_18 hlocks
set_option maxHeartbeats 4000000 in
set_option maxRecDepth 100000 in
theorem c_J8_newLength_cabcc (l : Launch) (D : va_G) (sz : Nat) (cI : ClassId) (cB : ClassId) (mg : Nat) (hmg : mg ≤ 18) : CT l yJ8_newLength_cabcc wsJ8_newLength_cabcc ({ frames := 1, cells := 0, slots := 0, locals := 24 }) false D ([(cI, .int), (cB, .byte)]) [] sz [.int 16, .int (nI mg), .int 18] (qi D ([(cI, .int), (cB, .byte)]) (fun r => r = 34) []) 0 0 := by
  refine CT.of (cc := cJ8_newLength_cabcc) (maxL := 4) (ret := (some .int)) (by decide) rfl (Nat.le_of_ble_eq_true rfl) ?_
  intro A p e s m args below meth c ls H locs En0 argsE hP hK hD hE hA hS hl
  obtain ⟨hx, hb, hr, hml, hown, hts, hlocks, hin⟩ := En0
  have hP : va_P D vwCl [] H := hP
  have hD : va_D A [] := hD
  have hl : lv_has ls 4 [(0, .int 16), (1, .int (nI mg)), (2, .int 18)] := hl
  refine lv_iload_n hx hb dJ8_newLength_cabcc_0 rfl (lv_at hl 0 rfl) ?_
  refine lv_iload_n hx hb dJ8_newLength_cabcc_1 rfl (lv_at hl 1 rfl) ?_
  refine lv_iload_n hx hb dJ8_newLength_cabcc_2 rfl (lv_at hl 2 rfl) ?_
  refine va_mmax hx hb (by rw [hml]; exact hl.1.symm) hown (hts (.methodLink RJ8 194 Lib.Math.max.name) (by decide +kernel)) (hts (.static Lib.Math.max.name) (by decide +kernel)) (hts (.initialized "java/lang/Math") (by decide +kernel)) (hts (.code Lib.Math.max.name Lib.Math.max.code 2 (some .int)) (by decide +kernel)) (Nat.le_of_ble_eq_true rfl) (Nat.le_of_ble_eq_true rfl) (Nat.le_of_ble_eq_true rfl) (Nat.le_of_ble_eq_true rfl) dJ8_newLength_cabcc_3 ?_
  refine tp (nI_max (a := mg) (b := 18) (by omega) (by omega)) ?_
  refine lv_iadd hx hb dJ8_newLength_cabcc_6 ?_
  refine tp (show 16 + (nI (max mg 18)) = nI (16 + (max mg 18)) from nI_add 16 (max mg 18)) ?_
  refine tp (show _ = 34 from (by rw [show 16 + max mg 18 = 34 by omega]; rfl)) ?_
  refine lv_istore_n (lv' := [(3, .int 34), (0, .int 16), (1, .int (nI mg)), (2, .int 18)]) hx hb dJ8_newLength_cabcc_7 rfl hl (by decide) rfl (fun ls hl => ?_)
  refine lv_iconst (v := 0) hx hb dJ8_newLength_cabcc_8 (by decide) ?_
  refine lv_iload_n hx hb dJ8_newLength_cabcc_9 rfl (lv_at hl 0 rfl) ?_
  refine lv_icmp_ge (tgt := 21) hx hb dJ8_newLength_cabcc_10 (by decide) (fun c_1 => ?_) (fun c_1 => ?_)
  · exact absurd c_1 (by decide)
  · refine lv_iload_n hx hb dJ8_newLength_cabcc_13 rfl (lv_at hl 0 rfl) ?_
    refine lv_ldc (v := 2147483639) hx hb hown (hts (.constant RJ8 200 2147483639) (by decide +kernel)) dJ8_newLength_cabcc_14 ?_
    refine lv_icmp_gt (tgt := 21) hx hb dJ8_newLength_cabcc_16 (by decide) (fun c_2 => ?_) (fun c_2 => ?_)
    · exact absurd c_2 (by decide)
    · refine lv_iload_n hx hb dJ8_newLength_cabcc_19 rfl (lv_at hl 0 rfl) ?_
      exact W.iret (v := 34) hx hb hr (fun t ht hW => lfe rfl hP hK hD hS ht hW) hS.2.2 dJ8_newLength_cabcc_20 hlocks
set_option maxRecDepth 20000 in
theorem in_J5_newCapacity_0f7a4_J4 : ∀ w ∈ u_ws RJ4 TJ4 4, w ∈ wsJ5_newCapacity_0f7a4 := by decide +kernel
set_option maxHeartbeats 4000000 in
set_option maxRecDepth 100000 in
theorem c_J5_newCapacity_0f7a4 (l : Launch) (D : va_G) (sz : Nat) (cI : ClassId) (cB : ClassId) (b : Nat) (v : Nat) (cn : Nat) (f : Nat → Nat) (mn : Nat) (hm1 : 16 ≤ mn) (hm2 : mn ≤ 34) : CT l yJ5_newCapacity_0f7a4 wsJ5_newCapacity_0f7a4 ({ frames := 2, cells := 0, slots := 0, locals := 47 }) false D ([(cI, .int), (cB, .byte)]) [(b, .inr (0, [.ref v, .int 0, .int 0, .int (nI cn)])), (v, .inl (cB, 16, .inl (ni f)))] sz [.ref b, .int (nI mn)] (qi D ([(cI, .int), (cB, .byte)]) (fun r => r = 34) [(b, .inr (0, [.ref v, .int 0, .int 0, .int (nI cn)])), (v, .inl (cB, 16, .inl (ni f)))]) 0 0 := by
  refine CT.of (cc := cJ5_newCapacity_0f7a4) (maxL := 6) (ret := (some .int)) (by decide) rfl (Nat.le_of_ble_eq_true rfl) ?_
  intro A p e s m args below meth c ls H locs En0 argsE hP hK hD hE hA hS hl
  obtain ⟨hx, hb, hr, hml, hown, hts, hlocks, hin⟩ := En0
  have hP : va_P D vwCl [(b, .inr (0, [.ref v, .int 0, .int 0, .int (nI cn)])), (v, .inl (cB, 16, .inl (ni f)))] H := hP
  have hD : va_D A [(b, .inr (0, [.ref v, .int 0, .int 0, .int (nI cn)])), (v, .inl (cB, 16, .inl (ni f)))] := hD
  have hl : lv_has ls 6 [(0, .ref b), (1, .int (nI mn))] := hl
  refine lv_aload_n hx hb dJ5_newCapacity_0f7a4_0 rfl (lv_at hl 0 rfl) ?_
  refine va_get (ci := 0) (v := .ref v) (C := RJ4) (T := TJ4) (N := 4) hx hb hts in_J5_newCapacity_0f7a4_J4 hown hK hP 0 rfl rfl 0 (by decide) (hts (.fieldLink RJ5 15 "java/lang/AbstractStringBuilder" "value" "[B") (by decide +kernel)) (fun _ h9 => h9) rfl dJ5_newCapacity_0f7a4_1 ?_
  refine va_alen (v := 16) hx hb hK hP 1 1 rfl rfl rfl dJ5_newCapacity_0f7a4_4 ?_
  refine lv_istore_n (lv' := [(2, .int 16), (0, .ref b), (1, .int (nI mn))]) hx hb dJ5_newCapacity_0f7a4_5 rfl hl (by decide) rfl (fun ls hl => ?_)
  refine lv_iload_n hx hb dJ5_newCapacity_0f7a4_6 rfl (lv_at hl 2 rfl) ?_
  refine lv_aload_n hx hb dJ5_newCapacity_0f7a4_7 rfl (lv_at hl 1 rfl) ?_
  refine va_get (ci := 0) (v := .int 0) (C := RJ4) (T := TJ4) (N := 4) hx hb hts in_J5_newCapacity_0f7a4_J4 hown hK hP 0 rfl rfl 1 (by decide) (hts (.fieldLink RJ5 22 "java/lang/AbstractStringBuilder" "coder" "B") (by decide +kernel)) (fun _ h9 => h9) rfl dJ5_newCapacity_0f7a4_8 ?_
  refine lv_ishl hx hb dJ5_newCapacity_0f7a4_11 ?_
  refine tp (show _ = nI mn from shl0 (n := mn) (by omega)) ?_
  refine lv_istore_n (lv' := [(3, .int (nI mn)), (2, .int 16), (0, .ref b), (1, .int (nI mn))]) hx hb dJ5_newCapacity_0f7a4_12 rfl hl (by decide) rfl (fun ls hl => ?_)
  refine lv_iload_n hx hb dJ5_newCapacity_0f7a4_13 rfl (lv_at hl 0 rfl) ?_
  refine lv_iload_n hx hb dJ5_newCapacity_0f7a4_14 rfl (lv_at hl 1 rfl) ?_
  refine lv_isub hx hb dJ5_newCapacity_0f7a4_15 ?_
  refine tp (show (nI mn) - 16 = nI (mn - 16) from pk_sub (a := mn) (b := 16) (by omega)) ?_
  refine lv_istore (lv' := [(4, .int (nI (mn - 16))), (3, .int (nI mn)), (2, .int 16), (0, .ref b), (1, .int (nI mn))]) hx hb dJ5_newCapacity_0f7a4_16 hl (by decide) rfl (fun ls hl => ?_)
  refine lv_iload_n hx hb dJ5_newCapacity_0f7a4_18 rfl (lv_at hl 2 rfl) ?_
  refine lv_iload hx hb dJ5_newCapacity_0f7a4_19 (lv_at hl 0 rfl) ?_
  refine lv_iload_n hx hb dJ5_newCapacity_0f7a4_21 rfl (lv_at hl 2 rfl) ?_
  refine lv_iconst (v := 2) hx hb dJ5_newCapacity_0f7a4_22 (by decide) ?_
  refine lv_aload_n hx hb dJ5_newCapacity_0f7a4_23 rfl (lv_at hl 3 rfl) ?_
  refine va_get (ci := 0) (v := .int 0) (C := RJ4) (T := TJ4) (N := 4) hx hb hts in_J5_newCapacity_0f7a4_J4 hown hK hP 0 rfl rfl 1 (by decide) (hts (.fieldLink RJ5 22 "java/lang/AbstractStringBuilder" "coder" "B") (by decide +kernel)) (fun _ h9 => h9) rfl dJ5_newCapacity_0f7a4_24 ?_
  refine lv_ishl hx hb dJ5_newCapacity_0f7a4_27 ?_
  refine tp ((by decide : _ = (2 : Int32))) ?_
  refine lv_iadd hx hb dJ5_newCapacity_0f7a4_28 ?_
  refine tp ((by decide : (16 + 2 : Int32) = 18)) ?_
  have hPc := hP.sub (ws' := []) [] rfl
  have hDc := hD.sub (ws' := []) [] (by decide) rfl
  have hFc := va_free (wc := []) hD hS hA [] rfl
  refine va_calli (va_runS (As := [.int 16, .int (nI (mn - 16)), .int 18]) (rest := []) ⟨hx, hb, hml, hown, hts⟩ (c_J8_newLength_cabcc l D H.size cI cB (mn - 16) (by omega)) (va_cwS 3 hts gJ5_newCapacity_0f7a4_J8_newLength_cabcc rfl rfl rfl (by decide +kernel) ⟨Nat.le_of_ble_eq_true rfl, Nat.le_of_ble_eq_true rfl⟩) ⟨pcs_blind, (pcs_pre (fun h => h) hE hS hPc hK hDc hFc)⟩ rfl rfl hl.1 rfl (lv_room (Nat.le_of_ble_eq_true rfl)) dJ5_newCapacity_0f7a4_29 ⟨Nat.le_of_ble_eq_true rfl, Nat.le_of_ble_eq_true rfl⟩) hS (fun q _ h => hFc q h) hFc (fun r_1 u t H1 locs1 ht hvm hw hB hz1 hk1 hS => ?_)
  have hw : r_1 = 34 := hw
  subst hw
  obtain ⟨hP, hD⟩ := aft (wr := [(b, .inr (0, [.ref v, .int 0, .int 0, .int (nI cn)])), (v, .inl (cB, 16, .inl (ni f)))]) (w1 := []) (w2 := [(b, .inr (0, [.ref v, .int 0, .int 0, .int (nI cn)])), (v, .inl (cB, 16, .inl (ni f)))]) hP hD [] [0, 1] [0, 1] rfl rfl (by decide) (by decide) hFc hk1 ht hB rfl (by decide) rfl
  clear hPc hDc hFc hk1 ht hB hz1 hvm
  generalize H1 = H at hP hS ⊢
  have hP : va_P D vwCl [(b, .inr (0, [.ref v, .int 0, .int 0, .int (nI cn)])), (v, .inl (cB, 16, .inl (ni f)))] H := hP
  have hD : va_D A [(b, .inr (0, [.ref v, .int 0, .int 0, .int (nI cn)])), (v, .inl (cB, 16, .inl (ni f)))] := hD
  refine lv_istore (lv' := [(5, .int 34), (4, .int (nI (mn - 16))), (3, .int (nI mn)), (2, .int 16), (0, .ref b), (1, .int (nI mn))]) hx hb dJ5_newCapacity_0f7a4_32 hl (by decide) rfl (fun ls hl => ?_)
  refine lv_iload hx hb dJ5_newCapacity_0f7a4_34 (lv_at hl 0 rfl) ?_
  refine lv_ldc (v := 2147483647) hx hb hown (hts (.constant RJ5 39 2147483647) (by decide +kernel)) dJ5_newCapacity_0f7a4_36 ?_
  refine lv_icmp_ne (tgt := 51) hx hb dJ5_newCapacity_0f7a4_38 (by decide) (fun c_2 => ?_) (fun c_2 => ?_)
  · refine lv_iload hx hb dJ5_newCapacity_0f7a4_51 (lv_at hl 0 rfl) ?_
    refine lv_aload_n hx hb dJ5_newCapacity_0f7a4_53 rfl (lv_at hl 4 rfl) ?_
    refine va_get (ci := 0) (v := .int 0) (C := RJ4) (T := TJ4) (N := 4) hx hb hts in_J5_newCapacity_0f7a4_J4 hown hK hP 0 rfl rfl 1 (by decide) (hts (.fieldLink RJ5 22 "java/lang/AbstractStringBuilder" "coder" "B") (by decide +kernel)) (fun _ h9 => h9) rfl dJ5_newCapacity_0f7a4_54 ?_
    refine lv_ishr hx hb dJ5_newCapacity_0f7a4_57 ?_
    refine tp ((by decide : _ = (34 : Int32))) ?_
    exact W.iret (v := 34) hx hb hr (fun t ht hW => lfe rfl hP hK hD hS ht hW) hS.2.2 dJ5_newCapacity_0f7a4_58 hlocks
  · exact absurd c_2 (by decide)
set_option maxHeartbeats 4000000 in
set_option maxRecDepth 100000 in
theorem c_J7_copyOf_9075b (l : Launch) (D : va_G) (sz : Nat) (cI : ClassId) (cB : ClassId) (v : Nat) (f : Nat → Nat) (hf : ∀ j, f j < 128) : CT l yJ7_copyOf_9075b wsJ7_copyOf_9075b ({ frames := 1, cells := 1, slots := 34, locals := 60 }) false D ([(cI, .int), (cB, .byte)]) [(v, .inl (cB, 16, .inl (ni f)))] sz [.ref v, .int 34] (qrn D ([(cI, .int), (cB, .byte)]) (fun a => [(v, .inl (cB, 16, .inl (ni f))), (a, .inl (cB, 34, .inl (ni (va_cpy f (fun _ => 0) 0 0 16))))])) 1 34 := by
  refine CT.of (cc := cJ7_copyOf_9075b) (maxL := 3) (ret := (some (.array .byte))) (by decide) rfl (Nat.le_of_ble_eq_true rfl) ?_
  intro A p e s m args below meth c ls H locs En0 argsE hP hK hD hE hA hS hl
  obtain ⟨hx, hb, hr, hml, hown, hts, hlocks, hin⟩ := En0
  have hP : va_P D vwCl [(v, .inl (cB, 16, .inl (ni f)))] H := hP
  have hD : va_D A [(v, .inl (cB, 16, .inl (ni f)))] := hD
  have hl : lv_has ls 3 [(0, .ref v), (1, .int 34)] := hl
  refine lv_iload_n hx hb dJ7_copyOf_9075b_0 rfl (lv_at hl 1 rfl) ?_
  refine lv_aload_n hx hb dJ7_copyOf_9075b_1 rfl (lv_at hl 0 rfl) ?_
  refine va_alen (v := 16) hx hb hK hP 0 1 rfl rfl rfl dJ7_copyOf_9075b_2 ?_
  refine lv_icmp_ne (tgt := 14) hx hb dJ7_copyOf_9075b_3 (by decide) (fun c_1 => ?_) (fun c_1 => ?_)
  · refine lv_iload_n hx hb dJ7_copyOf_9075b_14 rfl (lv_at hl 1 rfl) ?_
    refine newI (atype := .byte) (ty := .byte) (cA := cB) (t0 := 1) (a0 := (34, .inl (ni (fun _ => 0)))) (N' := 34) hx hb (hts (.arrayClass .byte) (by decide +kernel)) rfl hK rfl (fun c h => h) hP hD hS hA (fun _ => rfl) (by decide) (by decide) (by decide) (Nat.le_of_ble_eq_true rfl) (Nat.le_of_ble_eq_true rfl) dJ7_copyOf_9075b_15 (fun q_2 H hP hD hS => ?_)
    have hP : va_P D vwCl [(v, .inl (cB, 16, .inl (ni f))), (q_2, .inl (cB, 34, .inl (ni (fun _ => 0))))] H := hP
    have hD : va_D A [(v, .inl (cB, 16, .inl (ni f))), (q_2, .inl (cB, 34, .inl (ni (fun _ => 0))))] := hD
    refine lv_astore_n (lv' := [(2, .ref q_2), (0, .ref v), (1, .int 34)]) hx hb dJ7_copyOf_9075b_17 rfl hl (by decide) rfl (fun ls hl => ?_)
    refine lv_aload_n hx hb dJ7_copyOf_9075b_18 rfl (lv_at hl 1 rfl) ?_
    refine lv_iconst (v := 0) hx hb dJ7_copyOf_9075b_19 (by decide) ?_
    refine lv_aload_n hx hb dJ7_copyOf_9075b_20 rfl (lv_at hl 0 rfl) ?_
    refine lv_iconst (v := 0) hx hb dJ7_copyOf_9075b_21 (by decide) ?_
    refine lv_aload_n hx hb dJ7_copyOf_9075b_22 rfl (lv_at hl 1 rfl) ?_
    refine va_alen (v := 16) hx hb hK hP 0 1 rfl rfl rfl dJ7_copyOf_9075b_23 ?_
    refine lv_iload_n hx hb dJ7_copyOf_9075b_24 rfl (lv_at hl 2 rfl) ?_
    refine va_mmin hx hb (by rw [hml]; exact hl.1.symm) hown (hts (.methodLink RJ7 304 Lib.Math.min.name) (by decide +kernel)) (hts (.static Lib.Math.min.name) (by decide +kernel)) (hts (.initialized "java/lang/Math") (by decide +kernel)) (hts (.code Lib.Math.min.name Lib.Math.min.code 2 (some .int)) (by decide +kernel)) (Nat.le_of_ble_eq_true rfl) (Nat.le_of_ble_eq_true rfl) (Nat.le_of_ble_eq_true rfl) (Nat.le_of_ble_eq_true rfl) dJ7_copyOf_9075b_25 ?_
    refine tp (nI_min (a := 16) (b := 34) (by omega) (by omega)) ?_
    refine tp (show _ = 16 from (by decide)) ?_
    refine bcpy (sp := 0) (dp := 0) (n := 16) hx hb (by rw [hml]; exact hl.1.symm) hown (hts (.methodLink RJ7 150 arraycopyName) (by decide +kernel)) (hts (.native arraycopyName) (by decide +kernel)) (hts (.static arraycopyName) (by decide +kernel)) (hts (.initialized "java/lang/System") (by decide +kernel)) hK hP hD hS 0 1 1 1 rfl rfl rfl rfl (by omega) (by omega) (by omega) (by omega) (by omega) hf (Nat.le_of_ble_eq_true rfl) (Nat.le_of_ble_eq_true rfl) dJ7_copyOf_9075b_28 (fun H locs hP hD hS => ?_)
    have hP : va_P D vwCl [(v, .inl (cB, 16, .inl (ni f))), (q_2, .inl (cB, 34, .inl (ni (va_cpy f (fun _ => 0) 0 0 16))))] H := hP
    have hD : va_D A [(v, .inl (cB, 16, .inl (ni f))), (q_2, .inl (cB, 34, .inl (ni (va_cpy f (fun _ => 0) 0 0 16))))] := hD
    refine lv_aload_n hx hb dJ7_copyOf_9075b_31 rfl (lv_at hl 0 rfl) ?_
    refine W.widen (k := 1) (n := 34) (Nat.le_of_ble_eq_true rfl) (Nat.le_of_ble_eq_true rfl) ?_
    have hP9 := hP.sub (ws' := [(v, .inl (cB, 16, .inl (ni f))), (q_2, .inl (cB, 34, .inl (ni (va_cpy f (fun _ => 0) 0 0 16))))]) [0, 1] rfl
    have hD9 := hD.sub (ws' := [(v, .inl (cB, 16, .inl (ni f))), (q_2, .inl (cB, 34, .inl (ni (va_cpy f (fun _ => 0) 0 0 16))))]) [0, 1] (by decide) rfl
    exact W.aret (v := .ref q_2) hx hb hr (Or.inr ⟨_, rfl⟩) (Or.inr ⟨_, rfl⟩) (fun t ht hW => lfrn hP9 hK hD9 hS ht hW) hS.2.2 dJ7_copyOf_9075b_32 hlocks
  · exact absurd c_1 (by decide)
set_option maxRecDepth 20000 in
theorem in_J5_ensureCapacityInternal_d00df_J4 : ∀ w ∈ u_ws RJ4 TJ4 4, w ∈ wsJ5_ensureCapacityInternal_d00df := by decide +kernel
set_option maxHeartbeats 4000000 in
set_option maxRecDepth 100000 in
theorem c_J5_ensureCapacityInternal_d00df (l : Launch) (D : va_G) (sz : Nat) (cI : ClassId) (cB : ClassId) (b : Nat) (v : Nat) (cap : Nat) (cn : Nat) (f : Nat → Nat) (cs : List Nat) (mn : Nat) (htx : tx cap cn f cs) (hmn : mn ≤ 34) : CT l yJ5_ensureCapacityInternal_d00df wsJ5_ensureCapacityInternal_d00df ({ frames := 3, cells := 1, slots := 34, locals := 82 }) false D ([(cI, .int), (cB, .byte)]) [(b, .inr (0, [.ref v, .int 0, .int 0, .int (nI cn)])), (v, .inl (cB, cap, .inl (ni f)))] sz [.ref b, .int (nI mn)] (qxv D ([(cI, .int), (cB, .byte)]) (fun u => tx u.2.1 cn u.2.2 cs ∧ mn ≤ u.2.1) (fun u => [(b, .inr (0, [.ref u.1, .int 0, .int 0, .int (nI cn)])), (u.1, .inl (cB, u.2.1, .inl (ni u.2.2)))])) 1 34 := by
  refine CT.of (cc := cJ5_ensureCapacityInternal_d00df) (maxL := 3) (ret := none) (by decide) rfl (Nat.le_of_ble_eq_true rfl) ?_
  intro A p e s m args below meth c ls H locs En0 argsE hP hK hD hE hA hS hl
  obtain ⟨hx, hb, hr, hml, hown, hts, hlocks, hin⟩ := En0
  have hP : va_P D vwCl [(b, .inr (0, [.ref v, .int 0, .int 0, .int (nI cn)])), (v, .inl (cB, cap, .inl (ni f)))] H := hP
  have hD : va_D A [(b, .inr (0, [.ref v, .int 0, .int 0, .int (nI cn)])), (v, .inl (cB, cap, .inl (ni f)))] := hD
  have hl : lv_has ls 3 [(0, .ref b), (1, .int (nI mn))] := hl
  have hca : cap = 16 ∨ cap = 34 := htx.1
  have hcn : cn ≤ cap := htx.2.2.1
  refine lv_aload_n hx hb dJ5_ensureCapacityInternal_d00df_0 rfl (lv_at hl 0 rfl) ?_
  refine va_get (ci := 0) (v := .ref v) (C := RJ4) (T := TJ4) (N := 4) hx hb hts in_J5_ensureCapacityInternal_d00df_J4 hown hK hP 0 rfl rfl 0 (by decide) (hts (.fieldLink RJ5 15 "java/lang/AbstractStringBuilder" "value" "[B") (by decide +kernel)) (fun _ h9 => h9) rfl dJ5_ensureCapacityInternal_d00df_1 ?_
  refine va_alen (v := nI cap) hx hb hK hP 1 1 rfl rfl rfl dJ5_ensureCapacityInternal_d00df_4 ?_
  refine lv_aload_n hx hb dJ5_ensureCapacityInternal_d00df_5 rfl (lv_at hl 0 rfl) ?_
  refine va_get (ci := 0) (v := .int 0) (C := RJ4) (T := TJ4) (N := 4) hx hb hts in_J5_ensureCapacityInternal_d00df_J4 hown hK hP 0 rfl rfl 1 (by decide) (hts (.fieldLink RJ5 22 "java/lang/AbstractStringBuilder" "coder" "B") (by decide +kernel)) (fun _ h9 => h9) rfl dJ5_ensureCapacityInternal_d00df_6 ?_
  refine lv_ishr hx hb dJ5_ensureCapacityInternal_d00df_9 ?_
  refine tp (show _ = nI cap from shr0 (n := cap) (by omega)) ?_
  refine lv_istore_n (lv' := [(2, .int (nI cap)), (0, .ref b), (1, .int (nI mn))]) hx hb dJ5_ensureCapacityInternal_d00df_10 rfl hl (by decide) rfl (fun ls hl => ?_)
  refine lv_iload_n hx hb dJ5_ensureCapacityInternal_d00df_11 rfl (lv_at hl 2 rfl) ?_
  refine lv_iload_n hx hb dJ5_ensureCapacityInternal_d00df_12 rfl (lv_at hl 0 rfl) ?_
  refine lv_isub hx hb dJ5_ensureCapacityInternal_d00df_13 ?_
  refine lv_if_le (tgt := 38) hx hb dJ5_ensureCapacityInternal_d00df_14 (by decide) (fun c_1 => ?_) (fun c_1 => ?_)
  · have c_1q := (sub_le0 (by omega) (by omega)).mp c_1
    refine W.widen (k := 1) (n := 34) (Nat.le_of_ble_eq_true rfl) (Nat.le_of_ble_eq_true rfl) ?_
    have hP9 := hP.sub (ws' := [(b, .inr (0, [.ref v, .int 0, .int 0, .int (nI cn)])), (v, .inl (cB, cap, .inl (ni f)))]) [0, 1] rfl
    have hD9 := hD.sub (ws' := [(b, .inr (0, [.ref v, .int 0, .int 0, .int (nI cn)])), (v, .inl (cB, cap, .inl (ni f)))]) [0, 1] (by decide) rfl
    exact W.vret hx hb hr (fun t ht hW => lfxv (v, cap, f) ⟨htx, c_1q⟩ hP9 hK hD9 hS ht hW) hS.2.2 dJ5_ensureCapacityInternal_d00df_38 hlocks
  · have c_1q : ¬ (mn ≤ cap) := fun z9 => c_1 ((sub_le0 (by omega) (by omega)).mpr z9)
    obtain rfl : cap = 16 := by have := htx.1; omega
    have hP : va_P D vwCl [(b, .inr (0, [.ref v, .int 0, .int 0, .int (nI cn)])), (v, .inl (cB, 16, .inl (ni f)))] H := hP
    have hD : va_D A [(b, .inr (0, [.ref v, .int 0, .int 0, .int (nI cn)])), (v, .inl (cB, 16, .inl (ni f)))] := hD
    refine lv_aload_n hx hb dJ5_ensureCapacityInternal_d00df_17 rfl (lv_at hl 1 rfl) ?_
    refine lv_aload_n hx hb dJ5_ensureCapacityInternal_d00df_18 rfl (lv_at hl 1 rfl) ?_
    refine va_get (ci := 0) (v := .ref v) (C := RJ4) (T := TJ4) (N := 4) hx hb hts in_J5_ensureCapacityInternal_d00df_J4 hown hK hP 0 rfl rfl 0 (by decide) (hts (.fieldLink RJ5 15 "java/lang/AbstractStringBuilder" "value" "[B") (by decide +kernel)) (fun _ h9 => h9) rfl dJ5_ensureCapacityInternal_d00df_19 ?_
    refine lv_aload_n hx hb dJ5_ensureCapacityInternal_d00df_22 rfl (lv_at hl 1 rfl) ?_
    refine lv_iload_n hx hb dJ5_ensureCapacityInternal_d00df_23 rfl (lv_at hl 2 rfl) ?_
    have hPc := hP
    have hDc := hD
    have hFc := va_free (wc := [(b, .inr (0, [.ref v, .int 0, .int 0, .int (nI cn)])), (v, .inl (cB, 16, .inl (ni f)))]) hD hS hA [0, 1] rfl
    refine va_calli (va_runU (As := [.int (nI mn)]) (rest := [.ref v, .ref b]) ⟨hx, hb, hml, hown, hts⟩ (c_J5_newCapacity_0f7a4 l D H.size cI cB b v cn f mn (by omega) (by omega)) (va_cwU (C := RJ4) 1 hts gJ5_ensureCapacityInternal_d00df_J5_newCapacity_0f7a4_u104J4 rfl rfl rfl rfl (by decide +kernel) ⟨Nat.le_of_ble_eq_true rfl, Nat.le_of_ble_eq_true rfl⟩) ⟨pcs_blind, va_recv hK hP (ci := 0) (q0 := 0) rfl rfl, (pcs_pre (fun h => h) hE hS hPc hK hDc hFc)⟩ rfl rfl hl.1 rfl (lv_room (Nat.le_of_ble_eq_true rfl)) dJ5_ensureCapacityInternal_d00df_24 ⟨Nat.le_of_ble_eq_true rfl, Nat.le_of_ble_eq_true rfl⟩) hS (fun q _ h => hFc q h) hFc (fun r_2 u t H1 locs1 ht hvm hw hB hz1 hk1 hS => ?_)
    have hw : r_2 = 34 := hw
    subst hw
    obtain ⟨hP, hD⟩ := aftW hFc ht hB
    clear hPc hDc hFc hk1 ht hB hz1 hvm
    generalize H1 = H at hP hS ⊢
    have hP : va_P D vwCl [(b, .inr (0, [.ref v, .int 0, .int 0, .int (nI cn)])), (v, .inl (cB, 16, .inl (ni f)))] H := hP
    have hD : va_D A [(b, .inr (0, [.ref v, .int 0, .int 0, .int (nI cn)])), (v, .inl (cB, 16, .inl (ni f)))] := hD
    refine lv_aload_n hx hb dJ5_ensureCapacityInternal_d00df_27 rfl (lv_at hl 1 rfl) ?_
    refine va_get (ci := 0) (v := .int 0) (C := RJ4) (T := TJ4) (N := 4) hx hb hts in_J5_ensureCapacityInternal_d00df_J4 hown hK hP 0 rfl rfl 1 (by decide) (hts (.fieldLink RJ5 22 "java/lang/AbstractStringBuilder" "coder" "B") (by decide +kernel)) (fun _ h9 => h9) rfl dJ5_ensureCapacityInternal_d00df_28 ?_
    refine lv_ishl hx hb dJ5_ensureCapacityInternal_d00df_31 ?_
    refine tp ((by decide : _ = (34 : Int32))) ?_
    have hPc := hP.sub (ws' := [(v, .inl (cB, 16, .inl (ni f)))]) [1] rfl
    have hDc := hD.sub (ws' := [(v, .inl (cB, 16, .inl (ni f)))]) [1] (by decide) rfl
    have hFc := va_free (wc := [(v, .inl (cB, 16, .inl (ni f)))]) hD hS hA [1] rfl
    refine va_callr (va_runS (As := [.ref v, .int 34]) (rest := [.ref b]) ⟨hx, hb, hml, hown, hts⟩ (c_J7_copyOf_9075b l D H.size cI cB v f (htx.2.2.2.2)) (va_cwS 2 hts gJ5_ensureCapacityInternal_d00df_J7_copyOf_9075b rfl rfl rfl (by decide +kernel) ⟨Nat.le_of_ble_eq_true rfl, Nat.le_of_ble_eq_true rfl⟩) ⟨pcs_blind, (pcs_pre (fun h => h) hE hS hPc hK hDc hFc)⟩ rfl rfl hl.1 rfl (lv_room (Nat.le_of_ble_eq_true rfl)) dJ5_ensureCapacityInternal_d00df_32 ⟨Nat.le_of_ble_eq_true rfl, Nat.le_of_ble_eq_true rfl⟩) hS (fun q _ h => hFc q h) hFc (fun u r_3 t H1 locs1 ht hvm hw hB hz1 hk1 hS => ?_)
    obtain ⟨hP, hD⟩ := aft (wr := [(b, .inr (0, [.ref v, .int 0, .int 0, .int (nI cn)]))]) (w1 := [(v, .inl (cB, 16, .inl (ni f))), (r_3, .inl (cB, 34, .inl (ni (va_cpy f (fun _ => 0) 0 0 16))))]) (w2 := [(b, .inr (0, [.ref v, .int 0, .int 0, .int (nI cn)])), (v, .inl (cB, 16, .inl (ni f))), (r_3, .inl (cB, 34, .inl (ni (va_cpy f (fun _ => 0) 0 0 16))))]) hP hD [1] [0] [0, 1, 2] rfl rfl (by decide) (by decide) hFc hk1 ht hB rfl (by decide) rfl
    clear hPc hDc hFc hk1 ht hB hz1 hvm
    generalize H1 = H at hP hS ⊢
    have hP : va_P D vwCl [(b, .inr (0, [.ref v, .int 0, .int 0, .int (nI cn)])), (v, .inl (cB, 16, .inl (ni f))), (r_3, .inl (cB, 34, .inl (ni (va_cpy f (fun _ => 0) 0 0 16))))] H := hP
    have hD : va_D A [(b, .inr (0, [.ref v, .int 0, .int 0, .int (nI cn)])), (v, .inl (cB, 16, .inl (ni f))), (r_3, .inl (cB, 34, .inl (ni (va_cpy f (fun _ => 0) 0 0 16))))] := hD
    refine va_put (ci := 0) (v := .ref r_3) (ty := (tyJ4 0)) (C := RJ4) (T := TJ4) (N := 4) hx hb hts in_J5_ensureCapacityInternal_d00df_J4 tyJ4 tyJ4_ok nmJ4 hown hK hP hD hS 0 rfl rfl 0 (by decide) (hts (.fieldLink RJ5 15 "java/lang/AbstractStringBuilder" "value" "[B") (by decide +kernel)) (fun _ h9 => h9) rfl (by decide +kernel) rfl rfl (Nat.le_of_ble_eq_true rfl) dJ5_ensureCapacityInternal_d00df_35 (fun H locs hP hD hS => ?_)
    have hP : va_P D vwCl [(b, .inr (0, [.ref r_3, .int 0, .int 0, .int (nI cn)])), (v, .inl (cB, 16, .inl (ni f))), (r_3, .inl (cB, 34, .inl (ni (va_cpy f (fun _ => 0) 0 0 16))))] H := hP
    have hD : va_D A [(b, .inr (0, [.ref r_3, .int 0, .int 0, .int (nI cn)])), (v, .inl (cB, 16, .inl (ni f))), (r_3, .inl (cB, 34, .inl (ni (va_cpy f (fun _ => 0) 0 0 16))))] := hD
    refine W.widen (k := 1) (n := 34) (Nat.le_of_ble_eq_true rfl) (Nat.le_of_ble_eq_true rfl) ?_
    have hP9 := hP.sub (ws' := [(b, .inr (0, [.ref r_3, .int 0, .int 0, .int (nI cn)])), (r_3, .inl (cB, 34, .inl (ni (va_cpy f (fun _ => 0) 0 0 16))))]) [0, 2] rfl
    have hD9 := hD.sub (ws' := [(b, .inr (0, [.ref r_3, .int 0, .int 0, .int (nI cn)])), (r_3, .inl (cB, 34, .inl (ni (va_cpy f (fun _ => 0) 0 0 16))))]) [0, 2] (by decide) rfl
    exact W.vret hx hb hr (fun t ht hW => lfxv (r_3, 34, (va_cpy f (fun _ => 0) 0 0 16)) ⟨tx_grow htx, by omega⟩ hP9 hK hD9 hS ht hW) hS.2.2 dJ5_ensureCapacityInternal_d00df_38 hlocks
set_option maxHeartbeats 4000000 in
set_option maxRecDepth 100000 in
theorem c_J6_stringSize_0f7a4 (l : Launch) (D : va_G) (sz : Nat) (cI : ClassId) (cB : ClassId) (nv : Nat) (hnv : nv < 1000) : CT l yJ6_stringSize_0f7a4 wsJ6_stringSize_0f7a4 ({ frames := 0, cells := 0, slots := 0, locals := 0 }) false D ([(cI, .int), (cB, .byte)]) [] sz [.int (nI nv)] (qi D ([(cI, .int), (cB, .byte)]) (fun r => r = nI (rDig nv)) []) 0 0 := by
  refine CT.of (cc := cJ6_stringSize_0f7a4) (maxL := 4) (ret := (some .int)) (by decide) rfl (Nat.le_of_ble_eq_true rfl) ?_
  intro A p e s m args below meth c ls H locs En0 argsE hP hK hD hE hA hS hl
  obtain ⟨hx, hb, hr, hml, hown, hts, hlocks, hin⟩ := En0
  have hP : va_P D vwCl [] H := hP
  have hD : va_D A [] := hD
  have hl : lv_has ls 4 [(0, .int (nI nv))] := hl
  refine lv_iconst (v := 1) hx hb dJ6_stringSize_0f7a4_0 (by decide) ?_
  refine lv_istore_n (lv' := [(1, .int 1), (0, .int (nI nv))]) hx hb dJ6_stringSize_0f7a4_1 rfl hl (by decide) rfl (fun ls hl => ?_)
  refine lv_iload_n hx hb dJ6_stringSize_0f7a4_2 rfl (lv_at hl 1 rfl) ?_
  refine lv_if_lt (tgt := 11) hx hb dJ6_stringSize_0f7a4_3 (by decide) (fun c_1 => ?_) (fun c_1 => ?_)
  · exact absurd c_1 (nI_pos (n := nv) (by omega))
  · refine lv_iconst (v := 0) hx hb dJ6_stringSize_0f7a4_6 (by decide) ?_
    refine lv_istore_n (lv' := [(1, .int 0), (0, .int (nI nv))]) hx hb dJ6_stringSize_0f7a4_7 rfl hl (by decide) rfl (fun ls hl => ?_)
    refine lv_iload_n hx hb dJ6_stringSize_0f7a4_8 rfl (lv_at hl 1 rfl) ?_
    refine lv_ineg hx hb dJ6_stringSize_0f7a4_9 ?_
    refine lv_istore_n (lv' := [(0, .int (-(nI nv))), (1, .int 0)]) hx hb dJ6_stringSize_0f7a4_10 rfl hl (by decide) rfl (fun ls hl => ?_)
    refine lv_bipush (v := (-10)) hx hb dJ6_stringSize_0f7a4_11 (by decide) ?_
    refine lv_istore_n (lv' := [(2, .int (-10)), (0, .int (-(nI nv))), (1, .int 0)]) hx hb dJ6_stringSize_0f7a4_13 rfl hl (by decide) rfl (fun ls hl => ?_)
    refine lv_iconst (v := 1) hx hb dJ6_stringSize_0f7a4_14 (by decide) ?_
    refine lv_istore_n (lv' := [(3, .int 1), (2, .int (-10)), (0, .int (-(nI nv))), (1, .int 0)]) hx hb dJ6_stringSize_0f7a4_15 rfl hl (by decide) rfl (fun ls hl => ?_)
    refine lv_iload_n hx hb dJ6_stringSize_0f7a4_16 rfl (lv_at hl 0 rfl) ?_
    refine lv_bipush (v := 10) hx hb dJ6_stringSize_0f7a4_17 (by decide) ?_
    refine lv_icmp_ge (tgt := 42) hx hb dJ6_stringSize_0f7a4_19 (by decide) (fun c_2 => ?_) (fun c_2 => ?_)
    · exact absurd c_2 (by decide)
    · refine lv_iload_n hx hb dJ6_stringSize_0f7a4_22 rfl (lv_at hl 2 rfl) ?_
      refine lv_iload_n hx hb dJ6_stringSize_0f7a4_23 rfl (lv_at hl 1 rfl) ?_
      refine lv_icmp_le (tgt := 31) hx hb dJ6_stringSize_0f7a4_24 (by decide) (fun c_3 => ?_) (fun c_3 => ?_)
      · have c_3q := (neg_le (v := nv) (k := 10) (by omega) (by omega)).mp c_3
        refine lv_bipush (v := 10) hx hb dJ6_stringSize_0f7a4_31 (by decide) ?_
        refine lv_iload_n hx hb dJ6_stringSize_0f7a4_33 rfl (lv_at hl 1 rfl) ?_
        refine lv_imul hx hb dJ6_stringSize_0f7a4_34 ?_
        refine tp ((by decide : (10 * (-10) : Int32) = (-100))) ?_
        refine lv_istore_n (lv' := [(2, .int (-100)), (3, .int 1), (0, .int (-(nI nv))), (1, .int 0)]) hx hb dJ6_stringSize_0f7a4_35 rfl hl (by decide) rfl (fun ls hl => ?_)
        refine lv_iinc (v := 2) (lv' := [(3, .int 2), (2, .int (-100)), (0, .int (-(nI nv))), (1, .int 0)]) hx hb dJ6_stringSize_0f7a4_36 hl (k := 1) rfl (by decide) (by decide) rfl (fun ls hl => ?_)
        refine lv_goto (tgt := 16) hx hb dJ6_stringSize_0f7a4_39 (by decide) ?_
        refine lv_iload_n hx hb dJ6_stringSize_0f7a4_16 rfl (lv_at hl 0 rfl) ?_
        refine lv_bipush (v := 10) hx hb dJ6_stringSize_0f7a4_17 (by decide) ?_
        refine lv_icmp_ge (tgt := 42) hx hb dJ6_stringSize_0f7a4_19 (by decide) (fun c_4 => ?_) (fun c_4 => ?_)
        · exact absurd c_4 (by decide)
        · refine lv_iload_n hx hb dJ6_stringSize_0f7a4_22 rfl (lv_at hl 2 rfl) ?_
          refine lv_iload_n hx hb dJ6_stringSize_0f7a4_23 rfl (lv_at hl 1 rfl) ?_
          refine lv_icmp_le (tgt := 31) hx hb dJ6_stringSize_0f7a4_24 (by decide) (fun c_5 => ?_) (fun c_5 => ?_)
          · have c_5q := (neg_le (v := nv) (k := 100) (by omega) (by omega)).mp c_5
            refine lv_bipush (v := 10) hx hb dJ6_stringSize_0f7a4_31 (by decide) ?_
            refine lv_iload_n hx hb dJ6_stringSize_0f7a4_33 rfl (lv_at hl 1 rfl) ?_
            refine lv_imul hx hb dJ6_stringSize_0f7a4_34 ?_
            refine tp ((by decide : (10 * (-100) : Int32) = (-1000))) ?_
            refine lv_istore_n (lv' := [(2, .int (-1000)), (3, .int 2), (0, .int (-(nI nv))), (1, .int 0)]) hx hb dJ6_stringSize_0f7a4_35 rfl hl (by decide) rfl (fun ls hl => ?_)
            refine lv_iinc (v := 3) (lv' := [(3, .int 3), (2, .int (-1000)), (0, .int (-(nI nv))), (1, .int 0)]) hx hb dJ6_stringSize_0f7a4_36 hl (k := 1) rfl (by decide) (by decide) rfl (fun ls hl => ?_)
            refine lv_goto (tgt := 16) hx hb dJ6_stringSize_0f7a4_39 (by decide) ?_
            refine lv_iload_n hx hb dJ6_stringSize_0f7a4_16 rfl (lv_at hl 0 rfl) ?_
            refine lv_bipush (v := 10) hx hb dJ6_stringSize_0f7a4_17 (by decide) ?_
            refine lv_icmp_ge (tgt := 42) hx hb dJ6_stringSize_0f7a4_19 (by decide) (fun c_6 => ?_) (fun c_6 => ?_)
            · exact absurd c_6 (by decide)
            · refine lv_iload_n hx hb dJ6_stringSize_0f7a4_22 rfl (lv_at hl 2 rfl) ?_
              refine lv_iload_n hx hb dJ6_stringSize_0f7a4_23 rfl (lv_at hl 1 rfl) ?_
              refine lv_icmp_le (tgt := 31) hx hb dJ6_stringSize_0f7a4_24 (by decide) (fun c_7 => ?_) (fun c_7 => ?_)
              · have c_7q := (neg_le (v := nv) (k := 1000) (by omega) (by omega)).mp c_7
                exfalso; omega
              · have c_7q : ¬ (1000 ≤ nv) := fun z9 => c_7 ((neg_le (v := nv) (k := 1000) (by omega) (by omega)).mpr z9)
                refine lv_iload_n hx hb dJ6_stringSize_0f7a4_27 rfl (lv_at hl 0 rfl) ?_
                refine lv_iload_n hx hb dJ6_stringSize_0f7a4_28 rfl (lv_at hl 3 rfl) ?_
                refine lv_iadd hx hb dJ6_stringSize_0f7a4_29 ?_
                refine tp ((by decide : (3 + 0 : Int32) = 3)) ?_
                exact W.iret (v := 3) hx hb hr (fun t ht hW => lfe (by unfold rDig; rw [if_neg (by omega)]; rfl) hP hK hD hS ht hW) hS.2.2 dJ6_stringSize_0f7a4_30 hlocks
          · have c_5q : ¬ (100 ≤ nv) := fun z9 => c_5 ((neg_le (v := nv) (k := 100) (by omega) (by omega)).mpr z9)
            refine lv_iload_n hx hb dJ6_stringSize_0f7a4_27 rfl (lv_at hl 0 rfl) ?_
            refine lv_iload_n hx hb dJ6_stringSize_0f7a4_28 rfl (lv_at hl 3 rfl) ?_
            refine lv_iadd hx hb dJ6_stringSize_0f7a4_29 ?_
            refine tp ((by decide : (2 + 0 : Int32) = 2)) ?_
            exact W.iret (v := 2) hx hb hr (fun t ht hW => lfe (by unfold rDig; rw [if_pos (by omega), if_neg (by omega)]; rfl) hP hK hD hS ht hW) hS.2.2 dJ6_stringSize_0f7a4_30 hlocks
      · have c_3q : ¬ (10 ≤ nv) := fun z9 => c_3 ((neg_le (v := nv) (k := 10) (by omega) (by omega)).mpr z9)
        refine lv_iload_n hx hb dJ6_stringSize_0f7a4_27 rfl (lv_at hl 0 rfl) ?_
        refine lv_iload_n hx hb dJ6_stringSize_0f7a4_28 rfl (lv_at hl 3 rfl) ?_
        refine lv_iadd hx hb dJ6_stringSize_0f7a4_29 ?_
        refine tp ((by decide : (1 + 0 : Int32) = 1)) ?_
        exact W.iret (v := 1) hx hb hr (fun t ht hW => lfe (by unfold rDig; rw [if_pos (by omega), if_pos (by omega)]; rfl) hP hK hD hS ht hW) hS.2.2 dJ6_stringSize_0f7a4_30 hlocks
set_option maxHeartbeats 4000000 in
set_option maxRecDepth 100000 in
theorem c_J6_getChars_ba4f3 (l : Launch) (D : va_G) (sz : Nat) (cI : ClassId) (cB : ClassId) (v : Nat) (cap : Nat) (f : Nat → Nat) (nv : Nat) (ix : Nat) (hnv : nv < 1000) (hix : rDig nv ≤ ix) (hic : ix ≤ cap) (hcp : cap ≤ 34) : CT l yJ6_getChars_ba4f3 wsJ6_getChars_ba4f3 ({ frames := 0, cells := 0, slots := 0, locals := 0 }) true D ([(cI, .int), (cB, .byte)]) [(v, .inl (cB, cap, .inl (ni f)))] sz [.int (nI nv), .int (nI ix), .ref v] (qi D ([(cI, .int), (cB, .byte)]) (fun r => True) [(v, .inl (cB, cap, .inl (ni (gcN nv ix f))))]) 0 0 := by
  refine CT.of (cc := cJ6_getChars_ba4f3) (maxL := 7) (ret := (some .int)) (by decide) rfl (Nat.le_of_ble_eq_true rfl) ?_
  intro A p e s m args below meth c ls H locs En0 argsE hP hK hD hE hA hS hl
  obtain ⟨hx, hb, hr, hml, hown, hts, hlocks, hin⟩ := En0
  have hEw := (hE rfl).1
  have hP : va_P D vwCl [(v, .inl (cB, cap, .inl (ni f)))] H := hP
  have hD : va_D A [(v, .inl (cB, cap, .inl (ni f)))] := hD
  have hl : lv_has ls 7 [(0, .int (nI nv)), (1, .int (nI ix)), (2, .ref v)] := hl
  obtain ⟨hz0, hcs, hOn, hTn, hstr⟩ := (hE rfl).2.2
  obtain ⟨tO, hO1, hO2⟩ := hOn
  obtain ⟨tT, hT1, hT2⟩ := hTn
  have hd1 := rDig_1 nv
  have hd2 := rDig_c nv
  refine lv_iload_n hx hb dJ6_getChars_ba4f3_0 rfl (lv_at hl 1 rfl) ?_
  refine lv_istore (lv' := [(5, .int (nI ix)), (0, .int (nI nv)), (1, .int (nI ix)), (2, .ref v)]) hx hb dJ6_getChars_ba4f3_1 hl (by decide) rfl (fun ls hl => ?_)
  refine lv_iload_n hx hb dJ6_getChars_ba4f3_3 rfl (lv_at hl 1 rfl) ?_
  refine lv_if_ge (tgt := 11) hx hb dJ6_getChars_ba4f3_4 (by decide) (fun c_1 => ?_) (fun c_1 => ?_)
  · refine lv_iconst (v := 0) hx hb dJ6_getChars_ba4f3_11 (by decide) ?_
    refine lv_istore (lv' := [(6, .int 0), (5, .int (nI ix)), (0, .int (nI nv)), (1, .int (nI ix)), (2, .ref v)]) hx hb dJ6_getChars_ba4f3_12 hl (by decide) rfl (fun ls hl => ?_)
    refine lv_iload hx hb dJ6_getChars_ba4f3_14 (lv_at hl 0 rfl) ?_
    refine lv_if_ne (tgt := 22) hx hb dJ6_getChars_ba4f3_16 (by decide) (fun c_2 => ?_) (fun c_2 => ?_)
    · exact absurd c_2 (by decide)
    · refine lv_iload_n hx hb dJ6_getChars_ba4f3_19 rfl (lv_at hl 2 rfl) ?_
      refine lv_ineg hx hb dJ6_getChars_ba4f3_20 ?_
      refine lv_istore_n (lv' := [(0, .int (-(nI nv))), (6, .int 0), (5, .int (nI ix)), (1, .int (nI ix)), (2, .ref v)]) hx hb dJ6_getChars_ba4f3_21 rfl hl (by decide) rfl (fun ls hl => ?_)
      refine lv_iload_n hx hb dJ6_getChars_ba4f3_22 rfl (lv_at hl 0 rfl) ?_
      refine lv_bipush (v := (-100)) hx hb dJ6_getChars_ba4f3_23 (by decide) ?_
      refine lv_icmp_gt (tgt := 72) hx hb dJ6_getChars_ba4f3_25 (by decide) (fun c_3 => ?_) (fun c_3 => ?_)
      · have c_3q := (neg_lt (v := nv) (k := 100) (by omega) (by omega)).mp c_3
        refine lv_aload_n hx hb dJ6_getChars_ba4f3_72 rfl (lv_at hl 4 rfl) ?_
        refine lv_iinc (v := nI (ix - 1)) (lv' := [(5, .int (nI (ix - 1))), (0, .int (-(nI nv))), (6, .int 0), (1, .int (nI ix)), (2, .ref v)]) hx hb dJ6_getChars_ba4f3_73 hl (k := 2) rfl (nI_dec (by omega)) (by decide) rfl (fun ls hl => ?_)
        refine lv_iload hx hb dJ6_getChars_ba4f3_76 (lv_at hl 0 rfl) ?_
        refine va_gets hx hb hO1 hS hown (hts (.fieldLink RJ6 83 "java/lang/Integer" "DigitOnes" "[B") (by decide +kernel)) (fun _ h => h) dJ6_getChars_ba4f3_78 ?_
        refine lv_iload_n hx hb dJ6_getChars_ba4f3_81 rfl (lv_at hl 1 rfl) ?_
        refine lv_ineg hx hb dJ6_getChars_ba4f3_82 ?_
        refine tp (neg_neg _) ?_
        refine va_tb hx hb hO2 hS (vin (k := nv) (by omega) (by decide)) (v := .int (nI (48 + nv % 10))) (by rw [nI_clamp (show nv < 2 ^ 31 by omega)]; rfl) dJ6_getChars_ba4f3_83 ?_
        refine bst (k := (ix - 1)) (v := (48 + nv % 10)) hx hb hK hP hD hS 0 1 (by omega) (by omega) (by omega) rfl rfl dJ6_getChars_ba4f3_84 (fun H locs hP hD hS => ?_)
        have hP : va_P D vwCl [(v, .inl (cB, cap, .inl (ni (va_up f (ix - 1) (48 + nv % 10)))))] H := hP
        have hD : va_D A [(v, .inl (cB, cap, .inl (ni (va_up f (ix - 1) (48 + nv % 10)))))] := hD
        refine lv_iload_n hx hb dJ6_getChars_ba4f3_85 rfl (lv_at hl 1 rfl) ?_
        refine lv_bipush (v := (-9)) hx hb dJ6_getChars_ba4f3_86 (by decide) ?_
        refine lv_icmp_ge (tgt := 104) hx hb dJ6_getChars_ba4f3_88 (by decide) (fun c_4 => ?_) (fun c_4 => ?_)
        · have c_4q := (neg_le (v := 9) (k := nv) (by omega) (by omega)).mp c_4
          refine lv_iload hx hb dJ6_getChars_ba4f3_104 (lv_at hl 2 rfl) ?_
          refine lv_if_eq (tgt := 118) hx hb dJ6_getChars_ba4f3_106 (by decide) (fun c_5 => ?_) (fun c_5 => ?_)
          · refine lv_iload hx hb dJ6_getChars_ba4f3_118 (lv_at hl 0 rfl) ?_
            have hP9 := hP.sub (ws' := [(v, .inl (cB, cap, .inl (ni (va_up f (ix - 1) (48 + nv % 10)))))]) [0] rfl
            have hD9 := hD.sub (ws' := [(v, .inl (cB, cap, .inl (ni (va_up f (ix - 1) (48 + nv % 10)))))]) [0] (by decide) rfl
            have eF : gcN nv ix f = (va_up f (ix - 1) (48 + nv % 10)) := by unfold gcN; rw [if_pos (by omega), if_pos (by omega)]
            have hP9 : va_P D vwCl [(v, .inl (cB, cap, .inl (ni (gcN nv ix f))))] H := by rw [eF]; exact hP9
            have hD9 : va_D A [(v, .inl (cB, cap, .inl (ni (gcN nv ix f))))] := by rw [eF]; exact hD9
            exact W.iret (v := nI (ix - 1)) hx hb hr (fun t ht hW => lfi trivial hP9 hK hD9 hS ht hW) hS.2.2 dJ6_getChars_ba4f3_120 hlocks
          · exact absurd c_5 (by decide)
        · have c_4q : ¬ (nv ≤ 9) := fun z9 => c_4 ((neg_le (v := 9) (k := nv) (by omega) (by omega)).mpr z9)
          refine lv_aload_n hx hb dJ6_getChars_ba4f3_91 rfl (lv_at hl 4 rfl) ?_
          refine lv_iinc (v := nI ((ix - 1) - 1)) (lv' := [(5, .int (nI ((ix - 1) - 1))), (0, .int (-(nI nv))), (6, .int 0), (1, .int (nI ix)), (2, .ref v)]) hx hb dJ6_getChars_ba4f3_92 hl (k := 0) rfl (nI_dec (by omega)) (by decide) rfl (fun ls hl => ?_)
          refine lv_iload hx hb dJ6_getChars_ba4f3_95 (lv_at hl 0 rfl) ?_
          refine va_gets hx hb hT1 hS hown (hts (.fieldLink RJ6 87 "java/lang/Integer" "DigitTens" "[B") (by decide +kernel)) (fun _ h => h) dJ6_getChars_ba4f3_97 ?_
          refine lv_iload_n hx hb dJ6_getChars_ba4f3_100 rfl (lv_at hl 1 rfl) ?_
          refine lv_ineg hx hb dJ6_getChars_ba4f3_101 ?_
          refine tp (neg_neg _) ?_
          refine va_tb hx hb hT2 hS (vin (k := nv) (by omega) (by decide)) (v := .int (nI (48 + nv / 10))) (by rw [nI_clamp (show nv < 2 ^ 31 by omega)]; rfl) dJ6_getChars_ba4f3_102 ?_
          refine bst (k := ((ix - 1) - 1)) (v := (48 + nv / 10)) hx hb hK hP hD hS 0 1 (by omega) (by omega) (by omega) rfl rfl dJ6_getChars_ba4f3_103 (fun H locs hP hD hS => ?_)
          have hP : va_P D vwCl [(v, .inl (cB, cap, .inl (ni (va_up (va_up f (ix - 1) (48 + nv % 10)) ((ix - 1) - 1) (48 + nv / 10)))))] H := hP
          have hD : va_D A [(v, .inl (cB, cap, .inl (ni (va_up (va_up f (ix - 1) (48 + nv % 10)) ((ix - 1) - 1) (48 + nv / 10)))))] := hD
          refine lv_iload hx hb dJ6_getChars_ba4f3_104 (lv_at hl 2 rfl) ?_
          refine lv_if_eq (tgt := 118) hx hb dJ6_getChars_ba4f3_106 (by decide) (fun c_6 => ?_) (fun c_6 => ?_)
          · refine lv_iload hx hb dJ6_getChars_ba4f3_118 (lv_at hl 0 rfl) ?_
            have hP9 := hP.sub (ws' := [(v, .inl (cB, cap, .inl (ni (va_up (va_up f (ix - 1) (48 + nv % 10)) ((ix - 1) - 1) (48 + nv / 10)))))]) [0] rfl
            have hD9 := hD.sub (ws' := [(v, .inl (cB, cap, .inl (ni (va_up (va_up f (ix - 1) (48 + nv % 10)) ((ix - 1) - 1) (48 + nv / 10)))))]) [0] (by decide) rfl
            have eF : gcN nv ix f = (va_up (va_up f (ix - 1) (48 + nv % 10)) ((ix - 1) - 1) (48 + nv / 10)) := by unfold gcN; rw [if_pos (by omega), if_neg (by omega)]
            have hP9 : va_P D vwCl [(v, .inl (cB, cap, .inl (ni (gcN nv ix f))))] H := by rw [eF]; exact hP9
            have hD9 : va_D A [(v, .inl (cB, cap, .inl (ni (gcN nv ix f))))] := by rw [eF]; exact hD9
            exact W.iret (v := nI ((ix - 1) - 1)) hx hb hr (fun t ht hW => lfi trivial hP9 hK hD9 hS ht hW) hS.2.2 dJ6_getChars_ba4f3_120 hlocks
          · exact absurd c_6 (by decide)
      · have c_3q : ¬ (nv < 100) := fun z9 => c_3 ((neg_lt (v := nv) (k := 100) (by omega) (by omega)).mpr z9)
        refine lv_iload_n hx hb dJ6_getChars_ba4f3_28 rfl (lv_at hl 0 rfl) ?_
        refine lv_bipush (v := 100) hx hb dJ6_getChars_ba4f3_29 (by decide) ?_
        refine lv_idiv hx hb dJ6_getChars_ba4f3_31 (by decide) ?_
        refine tp (neg_div nv hnv) ?_
        refine lv_istore_n (lv' := [(3, .int (-(nI (nv / 100)))), (0, .int (-(nI nv))), (6, .int 0), (5, .int (nI ix)), (1, .int (nI ix)), (2, .ref v)]) hx hb dJ6_getChars_ba4f3_32 rfl hl (by decide) rfl (fun ls hl => ?_)
        refine lv_iload_n hx hb dJ6_getChars_ba4f3_33 rfl (lv_at hl 0 rfl) ?_
        refine lv_bipush (v := 100) hx hb dJ6_getChars_ba4f3_34 (by decide) ?_
        refine lv_imul hx hb dJ6_getChars_ba4f3_36 ?_
        refine lv_iload_n hx hb dJ6_getChars_ba4f3_37 rfl (lv_at hl 1 rfl) ?_
        refine lv_isub hx hb dJ6_getChars_ba4f3_38 ?_
        refine tp (neg_rem nv hnv) ?_
        refine lv_istore (lv' := [(4, .int (nI (nv % 100))), (3, .int (-(nI (nv / 100)))), (0, .int (-(nI nv))), (6, .int 0), (5, .int (nI ix)), (1, .int (nI ix)), (2, .ref v)]) hx hb dJ6_getChars_ba4f3_39 hl (by decide) rfl (fun ls hl => ?_)
        refine lv_iload_n hx hb dJ6_getChars_ba4f3_41 rfl (lv_at hl 1 rfl) ?_
        refine lv_istore_n (lv' := [(0, .int (-(nI (nv / 100)))), (4, .int (nI (nv % 100))), (3, .int (-(nI (nv / 100)))), (6, .int 0), (5, .int (nI ix)), (1, .int (nI ix)), (2, .ref v)]) hx hb dJ6_getChars_ba4f3_42 rfl hl (by decide) rfl (fun ls hl => ?_)
        refine lv_aload_n hx hb dJ6_getChars_ba4f3_43 rfl (lv_at hl 6 rfl) ?_
        refine lv_iinc (v := nI (ix - 1)) (lv' := [(5, .int (nI (ix - 1))), (0, .int (-(nI (nv / 100)))), (4, .int (nI (nv % 100))), (3, .int (-(nI (nv / 100)))), (6, .int 0), (1, .int (nI ix)), (2, .ref v)]) hx hb dJ6_getChars_ba4f3_44 hl (k := 4) rfl (nI_dec (by omega)) (by decide) rfl (fun ls hl => ?_)
        refine lv_iload hx hb dJ6_getChars_ba4f3_47 (lv_at hl 0 rfl) ?_
        refine va_gets hx hb hO1 hS hown (hts (.fieldLink RJ6 83 "java/lang/Integer" "DigitOnes" "[B") (by decide +kernel)) (fun _ h => h) dJ6_getChars_ba4f3_49 ?_
        refine lv_iload hx hb dJ6_getChars_ba4f3_52 (lv_at hl 2 rfl) ?_
        refine va_tb hx hb hO2 hS (vin (k := (nv % 100)) (by omega) (by decide)) (v := .int (nI (48 + (nv % 100) % 10))) (by rw [nI_clamp (show (nv % 100) < 2 ^ 31 by omega)]; rfl) dJ6_getChars_ba4f3_54 ?_
        refine bst (k := (ix - 1)) (v := (48 + (nv % 100) % 10)) hx hb hK hP hD hS 0 1 (by omega) (by omega) (by omega) rfl rfl dJ6_getChars_ba4f3_55 (fun H locs hP hD hS => ?_)
        have hP : va_P D vwCl [(v, .inl (cB, cap, .inl (ni (va_up f (ix - 1) (48 + (nv % 100) % 10)))))] H := hP
        have hD : va_D A [(v, .inl (cB, cap, .inl (ni (va_up f (ix - 1) (48 + (nv % 100) % 10)))))] := hD
        refine lv_aload_n hx hb dJ6_getChars_ba4f3_56 rfl (lv_at hl 6 rfl) ?_
        refine lv_iinc (v := nI ((ix - 1) - 1)) (lv' := [(5, .int (nI ((ix - 1) - 1))), (0, .int (-(nI (nv / 100)))), (4, .int (nI (nv % 100))), (3, .int (-(nI (nv / 100)))), (6, .int 0), (1, .int (nI ix)), (2, .ref v)]) hx hb dJ6_getChars_ba4f3_57 hl (k := 0) rfl (nI_dec (by omega)) (by decide) rfl (fun ls hl => ?_)
        refine lv_iload hx hb dJ6_getChars_ba4f3_60 (lv_at hl 0 rfl) ?_
        refine va_gets hx hb hT1 hS hown (hts (.fieldLink RJ6 87 "java/lang/Integer" "DigitTens" "[B") (by decide +kernel)) (fun _ h => h) dJ6_getChars_ba4f3_62 ?_
        refine lv_iload hx hb dJ6_getChars_ba4f3_65 (lv_at hl 2 rfl) ?_
        refine va_tb hx hb hT2 hS (vin (k := (nv % 100)) (by omega) (by decide)) (v := .int (nI (48 + (nv % 100) / 10))) (by rw [nI_clamp (show (nv % 100) < 2 ^ 31 by omega)]; rfl) dJ6_getChars_ba4f3_67 ?_
        refine bst (k := ((ix - 1) - 1)) (v := (48 + (nv % 100) / 10)) hx hb hK hP hD hS 0 1 (by omega) (by omega) (by omega) rfl rfl dJ6_getChars_ba4f3_68 (fun H locs hP hD hS => ?_)
        have hP : va_P D vwCl [(v, .inl (cB, cap, .inl (ni (va_up (va_up f (ix - 1) (48 + (nv % 100) % 10)) ((ix - 1) - 1) (48 + (nv % 100) / 10)))))] H := hP
        have hD : va_D A [(v, .inl (cB, cap, .inl (ni (va_up (va_up f (ix - 1) (48 + (nv % 100) % 10)) ((ix - 1) - 1) (48 + (nv % 100) / 10)))))] := hD
        refine lv_goto (tgt := 22) hx hb dJ6_getChars_ba4f3_69 (by decide) ?_
        refine lv_iload_n hx hb dJ6_getChars_ba4f3_22 rfl (lv_at hl 1 rfl) ?_
        refine lv_bipush (v := (-100)) hx hb dJ6_getChars_ba4f3_23 (by decide) ?_
        refine lv_icmp_gt (tgt := 72) hx hb dJ6_getChars_ba4f3_25 (by decide) (fun c_7 => ?_) (fun c_7 => ?_)
        · have c_7q := (neg_lt (v := (nv / 100)) (k := 100) (by omega) (by omega)).mp c_7
          refine lv_aload_n hx hb dJ6_getChars_ba4f3_72 rfl (lv_at hl 6 rfl) ?_
          refine lv_iinc (v := nI (((ix - 1) - 1) - 1)) (lv' := [(5, .int (nI (((ix - 1) - 1) - 1))), (0, .int (-(nI (nv / 100)))), (4, .int (nI (nv % 100))), (3, .int (-(nI (nv / 100)))), (6, .int 0), (1, .int (nI ix)), (2, .ref v)]) hx hb dJ6_getChars_ba4f3_73 hl (k := 0) rfl (nI_dec (by omega)) (by decide) rfl (fun ls hl => ?_)
          refine lv_iload hx hb dJ6_getChars_ba4f3_76 (lv_at hl 0 rfl) ?_
          refine va_gets hx hb hO1 hS hown (hts (.fieldLink RJ6 83 "java/lang/Integer" "DigitOnes" "[B") (by decide +kernel)) (fun _ h => h) dJ6_getChars_ba4f3_78 ?_
          refine lv_iload_n hx hb dJ6_getChars_ba4f3_81 rfl (lv_at hl 1 rfl) ?_
          refine lv_ineg hx hb dJ6_getChars_ba4f3_82 ?_
          refine tp (neg_neg _) ?_
          refine va_tb hx hb hO2 hS (vin (k := (nv / 100)) (by omega) (by decide)) (v := .int (nI (48 + (nv / 100) % 10))) (by rw [nI_clamp (show (nv / 100) < 2 ^ 31 by omega)]; rfl) dJ6_getChars_ba4f3_83 ?_
          refine bst (k := (((ix - 1) - 1) - 1)) (v := (48 + (nv / 100) % 10)) hx hb hK hP hD hS 0 1 (by omega) (by omega) (by omega) rfl rfl dJ6_getChars_ba4f3_84 (fun H locs hP hD hS => ?_)
          have hP : va_P D vwCl [(v, .inl (cB, cap, .inl (ni (va_up (va_up (va_up f (ix - 1) (48 + (nv % 100) % 10)) ((ix - 1) - 1) (48 + (nv % 100) / 10)) (((ix - 1) - 1) - 1) (48 + (nv / 100) % 10)))))] H := hP
          have hD : va_D A [(v, .inl (cB, cap, .inl (ni (va_up (va_up (va_up f (ix - 1) (48 + (nv % 100) % 10)) ((ix - 1) - 1) (48 + (nv % 100) / 10)) (((ix - 1) - 1) - 1) (48 + (nv / 100) % 10)))))] := hD
          refine lv_iload_n hx hb dJ6_getChars_ba4f3_85 rfl (lv_at hl 1 rfl) ?_
          refine lv_bipush (v := (-9)) hx hb dJ6_getChars_ba4f3_86 (by decide) ?_
          refine lv_icmp_ge (tgt := 104) hx hb dJ6_getChars_ba4f3_88 (by decide) (fun c_8 => ?_) (fun c_8 => ?_)
          · have c_8q := (neg_le (v := 9) (k := (nv / 100)) (by omega) (by omega)).mp c_8
            refine lv_iload hx hb dJ6_getChars_ba4f3_104 (lv_at hl 4 rfl) ?_
            refine lv_if_eq (tgt := 118) hx hb dJ6_getChars_ba4f3_106 (by decide) (fun c_9 => ?_) (fun c_9 => ?_)
            · refine lv_iload hx hb dJ6_getChars_ba4f3_118 (lv_at hl 0 rfl) ?_
              have hP9 := hP.sub (ws' := [(v, .inl (cB, cap, .inl (ni (va_up (va_up (va_up f (ix - 1) (48 + (nv % 100) % 10)) ((ix - 1) - 1) (48 + (nv % 100) / 10)) (((ix - 1) - 1) - 1) (48 + (nv / 100) % 10)))))]) [0] rfl
              have hD9 := hD.sub (ws' := [(v, .inl (cB, cap, .inl (ni (va_up (va_up (va_up f (ix - 1) (48 + (nv % 100) % 10)) ((ix - 1) - 1) (48 + (nv % 100) / 10)) (((ix - 1) - 1) - 1) (48 + (nv / 100) % 10)))))]) [0] (by decide) rfl
              have eF : gcN nv ix f = (va_up (va_up (va_up f (ix - 1) (48 + (nv % 100) % 10)) ((ix - 1) - 1) (48 + (nv % 100) / 10)) (((ix - 1) - 1) - 1) (48 + (nv / 100) % 10)) := by unfold gcN; rw [if_neg (by omega)]
              have hP9 : va_P D vwCl [(v, .inl (cB, cap, .inl (ni (gcN nv ix f))))] H := by rw [eF]; exact hP9
              have hD9 : va_D A [(v, .inl (cB, cap, .inl (ni (gcN nv ix f))))] := by rw [eF]; exact hD9
              exact W.iret (v := nI (((ix - 1) - 1) - 1)) hx hb hr (fun t ht hW => lfi trivial hP9 hK hD9 hS ht hW) hS.2.2 dJ6_getChars_ba4f3_120 hlocks
            · exact absurd c_9 (by decide)
          · have c_8q : ¬ ((nv / 100) ≤ 9) := fun z9 => c_8 ((neg_le (v := 9) (k := (nv / 100)) (by omega) (by omega)).mpr z9)
            exfalso; omega
        · have c_7q : ¬ ((nv / 100) < 100) := fun z9 => c_7 ((neg_lt (v := (nv / 100)) (k := 100) (by omega) (by omega)).mpr z9)
          exfalso; omega
  · exact absurd (nI_pos' (n := nv) (by omega)) c_1
set_option maxRecDepth 20000 in
theorem in_J5_append_c97b9_J4 : ∀ w ∈ u_ws RJ4 TJ4 4, w ∈ wsJ5_append_c97b9 := by decide +kernel
set_option maxHeartbeats 4000000 in
set_option maxRecDepth 100000 in
theorem c_J5_append_c97b9 (l : Launch) (D : va_G) (sz : Nat) (cI : ClassId) (cB : ClassId) (b : Nat) (v : Nat) (cap : Nat) (cn : Nat) (f : Nat → Nat) (cs : List Nat) (nv : Nat) (htx : tx cap cn f cs) (hnv : nv < 1000) (hca : cn + 3 ≤ 34) : CT l yJ5_append_c97b9 wsJ5_append_c97b9 ({ frames := 4, cells := 1, slots := 34, locals := 104 }) true D ([(cI, .int), (cB, .byte)]) [(b, .inr (0, [.ref v, .int 0, .int 0, .int (nI cn)])), (v, .inl (cB, cap, .inl (ni f)))] sz [.ref b, .int (nI nv)] (qxr D ([(cI, .int), (cB, .byte)]) (fun u => tx u.2.1 (cn + rDig nv) u.2.2 (cs ++ dgs nv)) b (fun u => [(b, .inr (0, [.ref u.1, .int 0, .int 0, .int (nI (cn + rDig nv))])), (u.1, .inl (cB, u.2.1, .inl (ni u.2.2)))])) 1 34 := by
  refine CT.of (cc := cJ5_append_c97b9) (maxL := 4) (ret := (some (.object "java/lang/AbstractStringBuilder"))) (by decide) rfl (Nat.le_of_ble_eq_true rfl) ?_
  intro A p e s m args below meth c ls H locs En0 argsE hP hK hD hE hA hS hl
  obtain ⟨hx, hb, hr, hml, hown, hts, hlocks, hin⟩ := En0
  have hEw := (hE rfl).1
  have hP : va_P D vwCl [(b, .inr (0, [.ref v, .int 0, .int 0, .int (nI cn)])), (v, .inl (cB, cap, .inl (ni f)))] H := hP
  have hD : va_D A [(b, .inr (0, [.ref v, .int 0, .int 0, .int (nI cn)])), (v, .inl (cB, cap, .inl (ni f)))] := hD
  have hl : lv_has ls 4 [(0, .ref b), (1, .int (nI nv))] := hl
  refine lv_aload_n hx hb dJ5_append_c97b9_0 rfl (lv_at hl 0 rfl) ?_
  refine va_get (ci := 0) (v := .int (nI cn)) (C := RJ4) (T := TJ4) (N := 4) hx hb hts in_J5_append_c97b9_J4 hown hK hP 0 rfl rfl 3 (by decide) (hts (.fieldLink RJ5 79 "java/lang/AbstractStringBuilder" "count" "I") (by decide +kernel)) (fun _ h9 => h9) rfl dJ5_append_c97b9_1 ?_
  refine lv_istore_n (lv' := [(2, .int (nI cn)), (0, .ref b), (1, .int (nI nv))]) hx hb dJ5_append_c97b9_4 rfl hl (by decide) rfl (fun ls hl => ?_)
  refine lv_iload_n hx hb dJ5_append_c97b9_5 rfl (lv_at hl 0 rfl) ?_
  refine lv_iload_n hx hb dJ5_append_c97b9_6 rfl (lv_at hl 2 rfl) ?_
  have hPc := hP.sub (ws' := []) [] rfl
  have hDc := hD.sub (ws' := []) [] (by decide) rfl
  have hFc := va_free (wc := []) hD hS hA [] rfl
  refine va_calli (va_runS (As := [.int (nI nv)]) (rest := [.int (nI cn)]) ⟨hx, hb, hml, hown, hts⟩ (c_J6_stringSize_0f7a4 l D H.size cI cB nv (by omega)) (va_cwS 1 hts gJ5_append_c97b9_J6_stringSize_0f7a4 rfl rfl rfl (by decide +kernel) ⟨Nat.le_of_ble_eq_true rfl, Nat.le_of_ble_eq_true rfl⟩) ⟨pcs_blind, (pcs_pre (fun h => by cases h) hE hS hPc hK hDc hFc)⟩ rfl rfl hl.1 rfl (lv_room (Nat.le_of_ble_eq_true rfl)) dJ5_append_c97b9_7 ⟨Nat.le_of_ble_eq_true rfl, Nat.le_of_ble_eq_true rfl⟩) hS (fun q _ h => hFc q h) hFc (fun r_1 u t H1 locs1 ht hvm hw hB hz1 hk1 hS => ?_)
  have hw : r_1 = nI (rDig nv) := hw
  subst hw
  obtain ⟨hP, hD⟩ := aft (wr := [(b, .inr (0, [.ref v, .int 0, .int 0, .int (nI cn)])), (v, .inl (cB, cap, .inl (ni f)))]) (w1 := []) (w2 := [(b, .inr (0, [.ref v, .int 0, .int 0, .int (nI cn)])), (v, .inl (cB, cap, .inl (ni f)))]) hP hD [] [0, 1] [0, 1] rfl rfl (by decide) (by decide) hFc hk1 ht hB rfl (by decide) rfl
  clear hPc hDc hFc hk1 ht hB hz1 hvm
  generalize H1 = H at hP hS ⊢
  have hP : va_P D vwCl [(b, .inr (0, [.ref v, .int 0, .int 0, .int (nI cn)])), (v, .inl (cB, cap, .inl (ni f)))] H := hP
  have hD : va_D A [(b, .inr (0, [.ref v, .int 0, .int 0, .int (nI cn)])), (v, .inl (cB, cap, .inl (ni f)))] := hD
  have hf_2 : 1 ≤ rDig nv ∧ rDig nv ≤ 3 := rDig_1 _
  refine lv_iadd hx hb dJ5_append_c97b9_10 ?_
  refine tp (show (nI cn) + (nI (rDig nv)) = nI (cn + (rDig nv)) from nI_add cn (rDig nv)) ?_
  refine lv_istore_n (lv' := [(3, .int (nI (cn + (rDig nv)))), (2, .int (nI cn)), (0, .ref b), (1, .int (nI nv))]) hx hb dJ5_append_c97b9_11 rfl hl (by decide) rfl (fun ls hl => ?_)
  refine lv_aload_n hx hb dJ5_append_c97b9_12 rfl (lv_at hl 2 rfl) ?_
  refine lv_iload_n hx hb dJ5_append_c97b9_13 rfl (lv_at hl 0 rfl) ?_
  have hPc := hP
  have hDc := hD
  have hFc := va_free (wc := [(b, .inr (0, [.ref v, .int 0, .int 0, .int (nI cn)])), (v, .inl (cB, cap, .inl (ni f)))]) hD hS hA [0, 1] rfl
  refine va_callv (va_runU (As := [.int (nI (cn + (rDig nv)))]) (rest := []) ⟨hx, hb, hml, hown, hts⟩ (c_J5_ensureCapacityInternal_d00df l D H.size cI cB b v cap cn f cs (cn + (rDig nv)) htx (by omega)) (va_cwU (C := RJ4) 1 hts gJ5_append_c97b9_J5_ensureCapacityInternal_d00df_u100J4 rfl rfl rfl rfl (by decide +kernel) ⟨Nat.le_of_ble_eq_true rfl, Nat.le_of_ble_eq_true rfl⟩) ⟨pcs_blind, va_recv hK hP (ci := 0) (q0 := 0) rfl rfl, (pcs_pre (fun h => by cases h) hE hS hPc hK hDc hFc)⟩ rfl rfl hl.1 rfl (lv_room (Nat.le_of_ble_eq_true rfl)) dJ5_append_c97b9_14 ⟨Nat.le_of_ble_eq_true rfl, Nat.le_of_ble_eq_true rfl⟩) hS (fun q _ h => hFc q h) hFc (fun u_4 t H1 locs1 ht hvm hw hB hz1 hk1 hS => ?_)
  obtain ⟨v_4, cap_4, f_4⟩ := u_4
  have htx_4 : tx cap_4 cn f_4 cs := hw.1
  have hcp_4 : cn + (rDig nv) ≤ cap_4 := hw.2
  obtain ⟨hP, hD⟩ := aft (wr := []) (w1 := [(b, .inr (0, [.ref v_4, .int 0, .int 0, .int (nI cn)])), (v_4, .inl (cB, cap_4, .inl (ni f_4)))]) (w2 := [(b, .inr (0, [.ref v_4, .int 0, .int 0, .int (nI cn)])), (v_4, .inl (cB, cap_4, .inl (ni f_4)))]) hP hD [0, 1] [] [0, 1] rfl rfl (by decide) (by decide) hFc hk1 ht hB rfl (by decide) rfl
  clear hPc hDc hFc hk1 ht hB hz1 hvm
  generalize H1 = H at hP hS ⊢
  have hP : va_P D vwCl [(b, .inr (0, [.ref v_4, .int 0, .int 0, .int (nI cn)])), (v_4, .inl (cB, cap_4, .inl (ni f_4)))] H := hP
  have hD : va_D A [(b, .inr (0, [.ref v_4, .int 0, .int 0, .int (nI cn)])), (v_4, .inl (cB, cap_4, .inl (ni f_4)))] := hD
  have hcq : cap_4 ≤ 34 := by have := htx_4.1; omega
  refine lv_aload_n hx hb dJ5_append_c97b9_17 rfl (lv_at hl 2 rfl) ?_
  have hPc := hP.sub (ws' := [(b, .inr (0, [.ref v_4, .int 0, .int 0, .int (nI cn)]))]) [0] rfl
  have hDc := hD.sub (ws' := [(b, .inr (0, [.ref v_4, .int 0, .int 0, .int (nI cn)]))]) [0] (by decide) rfl
  have hFc := va_free (wc := [(b, .inr (0, [.ref v_4, .int 0, .int 0, .int (nI cn)]))]) hD hS hA [0] rfl
  refine va_calli (va_runU (As := []) (rest := []) ⟨hx, hb, hml, hown, hts⟩ (c_J5_isLatin1_aae02 l D H.size cI cB b v_4 cn) (va_cwU (C := RJ4) 0 hts gJ5_append_c97b9_J5_isLatin1_aae02_u83J4 rfl rfl rfl rfl (by decide +kernel) ⟨Nat.le_of_ble_eq_true rfl, Nat.le_of_ble_eq_true rfl⟩) ⟨pcs_blind, va_recv hK hP (ci := 0) (q0 := 0) rfl rfl, (pcs_pre (fun h => h) hE hS hPc hK hDc hFc)⟩ rfl rfl hl.1 rfl (lv_room (Nat.le_of_ble_eq_true rfl)) dJ5_append_c97b9_18 ⟨Nat.le_of_ble_eq_true rfl, Nat.le_of_ble_eq_true rfl⟩) hS (fun q _ h => hFc q h) hFc (fun r_5 u t H1 locs1 ht hvm hw hB hz1 hk1 hS => ?_)
  have hw : r_5 = 1 := hw
  subst hw
  obtain ⟨hP, hD⟩ := aft (wr := [(v_4, .inl (cB, cap_4, .inl (ni f_4)))]) (w1 := [(b, .inr (0, [.ref v_4, .int 0, .int 0, .int (nI cn)]))]) (w2 := [(b, .inr (0, [.ref v_4, .int 0, .int 0, .int (nI cn)])), (v_4, .inl (cB, cap_4, .inl (ni f_4)))]) hP hD [0] [1] [1, 0] rfl rfl (by decide) (by decide) hFc hk1 ht hB rfl (by decide) rfl
  clear hPc hDc hFc hk1 ht hB hz1 hvm
  generalize H1 = H at hP hS ⊢
  have hP : va_P D vwCl [(b, .inr (0, [.ref v_4, .int 0, .int 0, .int (nI cn)])), (v_4, .inl (cB, cap_4, .inl (ni f_4)))] H := hP
  have hD : va_D A [(b, .inr (0, [.ref v_4, .int 0, .int 0, .int (nI cn)])), (v_4, .inl (cB, cap_4, .inl (ni f_4)))] := hD
  refine lv_if_eq (tgt := 37) hx hb dJ5_append_c97b9_21 (by decide) (fun c_6 => ?_) (fun c_6 => ?_)
  · exact absurd c_6 (by decide)
  · refine lv_iload_n hx hb dJ5_append_c97b9_24 rfl (lv_at hl 3 rfl) ?_
    refine lv_iload_n hx hb dJ5_append_c97b9_25 rfl (lv_at hl 0 rfl) ?_
    refine lv_aload_n hx hb dJ5_append_c97b9_26 rfl (lv_at hl 2 rfl) ?_
    refine va_get (ci := 0) (v := .ref v_4) (C := RJ4) (T := TJ4) (N := 4) hx hb hts in_J5_append_c97b9_J4 hown hK hP 0 rfl rfl 0 (by decide) (hts (.fieldLink RJ5 15 "java/lang/AbstractStringBuilder" "value" "[B") (by decide +kernel)) (fun _ h9 => h9) rfl dJ5_append_c97b9_27 ?_
    have hPc := hP.sub (ws' := [(v_4, .inl (cB, cap_4, .inl (ni f_4)))]) [1] rfl
    have hDc := hD.sub (ws' := [(v_4, .inl (cB, cap_4, .inl (ni f_4)))]) [1] (by decide) rfl
    have hFc := va_free (wc := [(v_4, .inl (cB, cap_4, .inl (ni f_4)))]) hD hS hA [1] rfl
    refine va_calli (va_runS (As := [.int (nI nv), .int (nI (cn + (rDig nv))), .ref v_4]) (rest := []) ⟨hx, hb, hml, hown, hts⟩ (c_J6_getChars_ba4f3 l D H.size cI cB v_4 cap_4 f_4 nv (cn + (rDig nv)) (by omega) (by omega) (by omega) (by have := htx_4.1; omega)) (va_cwS 3 hts gJ5_append_c97b9_J6_getChars_ba4f3 rfl rfl rfl (by decide +kernel) ⟨Nat.le_of_ble_eq_true rfl, Nat.le_of_ble_eq_true rfl⟩) ⟨pcs_blind, (pcs_pre (fun h => h) hE hS hPc hK hDc hFc)⟩ rfl rfl hl.1 rfl (lv_room (Nat.le_of_ble_eq_true rfl)) dJ5_append_c97b9_30 ⟨Nat.le_of_ble_eq_true rfl, Nat.le_of_ble_eq_true rfl⟩) hS (fun q _ h => hFc q h) hFc (fun r_7 u t H1 locs1 ht hvm hw hB hz1 hk1 hS => ?_)
    obtain ⟨hP, hD⟩ := aft (wr := [(b, .inr (0, [.ref v_4, .int 0, .int 0, .int (nI cn)]))]) (w1 := [(v_4, .inl (cB, cap_4, .inl (ni (gcN nv (cn + (rDig nv)) f_4))))]) (w2 := [(b, .inr (0, [.ref v_4, .int 0, .int 0, .int (nI cn)])), (v_4, .inl (cB, cap_4, .inl (ni (gcN nv (cn + (rDig nv)) f_4))))]) hP hD [1] [0] [0, 1] rfl rfl (by decide) (by decide) hFc hk1 ht hB rfl (by decide) rfl
    clear hPc hDc hFc hk1 ht hB hz1 hvm
    generalize H1 = H at hP hS ⊢
    have hP : va_P D vwCl [(b, .inr (0, [.ref v_4, .int 0, .int 0, .int (nI cn)])), (v_4, .inl (cB, cap_4, .inl (ni (gcN nv (cn + (rDig nv)) f_4))))] H := hP
    have hD : va_D A [(b, .inr (0, [.ref v_4, .int 0, .int 0, .int (nI cn)])), (v_4, .inl (cB, cap_4, .inl (ni (gcN nv (cn + (rDig nv)) f_4))))] := hD
    refine lv_pop hx hb dJ5_append_c97b9_33 rfl ?_
    refine lv_goto (tgt := 48) hx hb dJ5_append_c97b9_34 (by decide) ?_
    refine lv_aload_n hx hb dJ5_append_c97b9_48 rfl (lv_at hl 2 rfl) ?_
    refine lv_iload_n hx hb dJ5_append_c97b9_49 rfl (lv_at hl 0 rfl) ?_
    refine va_put (ci := 0) (v := .int (nI (cn + (rDig nv)))) (ty := .int) (C := RJ4) (T := TJ4) (N := 4) hx hb hts in_J5_append_c97b9_J4 tyJ4 tyJ4_ok nmJ4 hown hK hP hD hS 0 rfl rfl 3 (by decide) (hts (.fieldLink RJ5 79 "java/lang/AbstractStringBuilder" "count" "I") (by decide +kernel)) (fun _ h9 => h9) rfl (by decide +kernel) rfl rfl (Nat.le_of_ble_eq_true rfl) dJ5_append_c97b9_50 (fun H locs hP hD hS => ?_)
    have hP : va_P D vwCl [(b, .inr (0, [.ref v_4, .int 0, .int 0, .int (nI (cn + (rDig nv)))])), (v_4, .inl (cB, cap_4, .inl (ni (gcN nv (cn + (rDig nv)) f_4))))] H := hP
    have hD : va_D A [(b, .inr (0, [.ref v_4, .int 0, .int 0, .int (nI (cn + (rDig nv)))])), (v_4, .inl (cB, cap_4, .inl (ni (gcN nv (cn + (rDig nv)) f_4))))] := hD
    refine lv_aload_n hx hb dJ5_append_c97b9_53 rfl (lv_at hl 2 rfl) ?_
    refine W.widen (k := 1) (n := 34) (Nat.le_of_ble_eq_true rfl) (Nat.le_of_ble_eq_true rfl) ?_
    have hP9 := hP.sub (ws' := [(b, .inr (0, [.ref v_4, .int 0, .int 0, .int (nI (cn + (rDig nv)))])), (v_4, .inl (cB, cap_4, .inl (ni (gcN nv (cn + (rDig nv)) f_4))))]) [0, 1] rfl
    have hD9 := hD.sub (ws' := [(b, .inr (0, [.ref v_4, .int 0, .int 0, .int (nI (cn + (rDig nv)))])), (v_4, .inl (cB, cap_4, .inl (ni (gcN nv (cn + (rDig nv)) f_4))))]) [0, 1] (by decide) rfl
    exact W.aret (v := .ref b) hx hb hr (Or.inl ⟨_, rfl⟩) (Or.inr ⟨_, rfl⟩) (fun t ht hW => lfxr (v_4, cap_4, (gcN nv (cn + (rDig nv)) f_4)) rfl (tx_int htx_4 hnv (by omega)) hP9 hK hD9 hS ht hW) hS.2.2 dJ5_append_c97b9_54 hlocks
set_option maxHeartbeats 4000000 in
set_option maxRecDepth 100000 in
theorem c_J1_canEncode_fc78d (l : Launch) (D : va_G) (sz : Nat) (cI : ClassId) (cB : ClassId) (cv : Nat) (hcv : cv < 128) : CT l yJ1_canEncode_fc78d wsJ1_canEncode_fc78d ({ frames := 0, cells := 0, slots := 0, locals := 0 }) false D ([(cI, .int), (cB, .byte)]) [] sz [.int (nI cv)] (qi D ([(cI, .int), (cB, .byte)]) (fun r => r = 1) []) 0 0 := by
  refine CT.of (cc := cJ1_canEncode_fc78d) (maxL := 1) (ret := (some .boolean)) (by decide) rfl (Nat.le_of_ble_eq_true rfl) ?_
  intro A p e s m args below meth c ls H locs En0 argsE hP hK hD hE hA hS hl
  obtain ⟨hx, hb, hr, hml, hown, hts, hlocks, hin⟩ := En0
  have hP : va_P D vwCl [] H := hP
  have hD : va_D A [] := hD
  have hl : lv_has ls 1 [(0, .int (nI cv))] := hl
  refine lv_iload_n hx hb dJ1_canEncode_fc78d_0 rfl (lv_at hl 0 rfl) ?_
  refine lv_sipush (v := 255) hx hb dJ1_canEncode_fc78d_1 (by decide) ?_
  refine lv_icmp_gt (tgt := 11) hx hb dJ1_canEncode_fc78d_4 (by decide) (fun c_1 => ?_) (fun c_1 => ?_)
  · replace c_1 : 255 < cv := (nI_ltI (a := 255) (b := cv) (by omega) (by omega)).mp c_1
    exfalso; omega
  · replace c_1 : ¬ (255 < cv) := fun z => c_1 ((nI_ltI (a := 255) (b := cv) (by omega) (by omega)).mpr z)
    refine lv_iconst (v := 1) hx hb dJ1_canEncode_fc78d_7 (by decide) ?_
    refine lv_goto (tgt := 12) hx hb dJ1_canEncode_fc78d_8 (by decide) ?_
    exact W.zret (v := 1) hx hb hr rfl (fun t ht hW => lfe rfl hP hK hD hS ht hW) hS.2.2 dJ1_canEncode_fc78d_12 hlocks
set_option maxRecDepth 20000 in
theorem in_J5_append_3fe6f_J4 : ∀ w ∈ u_ws RJ4 TJ4 4, w ∈ wsJ5_append_3fe6f := by decide +kernel
set_option maxHeartbeats 4000000 in
set_option maxRecDepth 100000 in
theorem c_J5_append_3fe6f (l : Launch) (D : va_G) (sz : Nat) (cI : ClassId) (cB : ClassId) (b : Nat) (v : Nat) (cap : Nat) (cn : Nat) (f : Nat → Nat) (cs : List Nat) (cv : Nat) (htx : tx cap cn f cs) (hcv : cv < 128) (hca : cn + 1 ≤ 34) : CT l yJ5_append_3fe6f wsJ5_append_3fe6f ({ frames := 4, cells := 1, slots := 34, locals := 104 }) true D ([(cI, .int), (cB, .byte)]) [(b, .inr (0, [.ref v, .int 0, .int 0, .int (nI cn)])), (v, .inl (cB, cap, .inl (ni f)))] sz [.ref b, .int (nI cv)] (qxr D ([(cI, .int), (cB, .byte)]) (fun u => tx u.2.1 (cn + 1) u.2.2 (cs ++ [cv])) b (fun u => [(b, .inr (0, [.ref u.1, .int 0, .int 0, .int (nI (cn + 1))])), (u.1, .inl (cB, u.2.1, .inl (ni u.2.2)))])) 1 34 := by
  refine CT.of (cc := cJ5_append_3fe6f) (maxL := 2) (ret := (some (.object "java/lang/AbstractStringBuilder"))) (by decide) rfl (Nat.le_of_ble_eq_true rfl) ?_
  intro A p e s m args below meth c ls H locs En0 argsE hP hK hD hE hA hS hl
  obtain ⟨hx, hb, hr, hml, hown, hts, hlocks, hin⟩ := En0
  have hEw := (hE rfl).1
  have hP : va_P D vwCl [(b, .inr (0, [.ref v, .int 0, .int 0, .int (nI cn)])), (v, .inl (cB, cap, .inl (ni f)))] H := hP
  have hD : va_D A [(b, .inr (0, [.ref v, .int 0, .int 0, .int (nI cn)])), (v, .inl (cB, cap, .inl (ni f)))] := hD
  have hl : lv_has ls 2 [(0, .ref b), (1, .int (nI cv))] := hl
  refine lv_aload_n hx hb dJ5_append_3fe6f_0 rfl (lv_at hl 0 rfl) ?_
  refine lv_aload_n hx hb dJ5_append_3fe6f_1 rfl (lv_at hl 0 rfl) ?_
  refine va_get (ci := 0) (v := .int (nI cn)) (C := RJ4) (T := TJ4) (N := 4) hx hb hts in_J5_append_3fe6f_J4 hown hK hP 0 rfl rfl 3 (by decide) (hts (.fieldLink RJ5 79 "java/lang/AbstractStringBuilder" "count" "I") (by decide +kernel)) (fun _ h9 => h9) rfl dJ5_append_3fe6f_2 ?_
  refine lv_iconst (v := 1) hx hb dJ5_append_3fe6f_5 (by decide) ?_
  refine lv_iadd hx hb dJ5_append_3fe6f_6 ?_
  refine tp (show (nI cn) + 1 = nI (cn + 1) from nI_add cn 1) ?_
  have hPc := hP
  have hDc := hD
  have hFc := va_free (wc := [(b, .inr (0, [.ref v, .int 0, .int 0, .int (nI cn)])), (v, .inl (cB, cap, .inl (ni f)))]) hD hS hA [0, 1] rfl
  refine va_callv (va_runU (As := [.int (nI (cn + 1))]) (rest := []) ⟨hx, hb, hml, hown, hts⟩ (c_J5_ensureCapacityInternal_d00df l D H.size cI cB b v cap cn f cs (cn + 1) htx (by omega)) (va_cwU (C := RJ4) 1 hts gJ5_append_3fe6f_J5_ensureCapacityInternal_d00df_u100J4 rfl rfl rfl rfl (by decide +kernel) ⟨Nat.le_of_ble_eq_true rfl, Nat.le_of_ble_eq_true rfl⟩) ⟨pcs_blind, va_recv hK hP (ci := 0) (q0 := 0) rfl rfl, (pcs_pre (fun h => by cases h) hE hS hPc hK hDc hFc)⟩ rfl rfl hl.1 rfl (lv_room (Nat.le_of_ble_eq_true rfl)) dJ5_append_3fe6f_7 ⟨Nat.le_of_ble_eq_true rfl, Nat.le_of_ble_eq_true rfl⟩) hS (fun q _ h => hFc q h) hFc (fun u_2 t H1 locs1 ht hvm hw hB hz1 hk1 hS => ?_)
  obtain ⟨v_2, cap_2, f_2⟩ := u_2
  have htx_2 : tx cap_2 cn f_2 cs := hw.1
  have hcp_2 : cn + 1 ≤ cap_2 := hw.2
  obtain ⟨hP, hD⟩ := aft (wr := []) (w1 := [(b, .inr (0, [.ref v_2, .int 0, .int 0, .int (nI cn)])), (v_2, .inl (cB, cap_2, .inl (ni f_2)))]) (w2 := [(b, .inr (0, [.ref v_2, .int 0, .int 0, .int (nI cn)])), (v_2, .inl (cB, cap_2, .inl (ni f_2)))]) hP hD [0, 1] [] [0, 1] rfl rfl (by decide) (by decide) hFc hk1 ht hB rfl (by decide) rfl
  clear hPc hDc hFc hk1 ht hB hz1 hvm
  generalize H1 = H at hP hS ⊢
  have hP : va_P D vwCl [(b, .inr (0, [.ref v_2, .int 0, .int 0, .int (nI cn)])), (v_2, .inl (cB, cap_2, .inl (ni f_2)))] H := hP
  have hD : va_D A [(b, .inr (0, [.ref v_2, .int 0, .int 0, .int (nI cn)])), (v_2, .inl (cB, cap_2, .inl (ni f_2)))] := hD
  have hcq : cap_2 ≤ 34 := by have := htx_2.1; omega
  refine lv_aload_n hx hb dJ5_append_3fe6f_10 rfl (lv_at hl 0 rfl) ?_
  have hPc := hP.sub (ws' := [(b, .inr (0, [.ref v_2, .int 0, .int 0, .int (nI cn)]))]) [0] rfl
  have hDc := hD.sub (ws' := [(b, .inr (0, [.ref v_2, .int 0, .int 0, .int (nI cn)]))]) [0] (by decide) rfl
  have hFc := va_free (wc := [(b, .inr (0, [.ref v_2, .int 0, .int 0, .int (nI cn)]))]) hD hS hA [0] rfl
  refine va_calli (va_runU (As := []) (rest := []) ⟨hx, hb, hml, hown, hts⟩ (c_J5_isLatin1_aae02 l D H.size cI cB b v_2 cn) (va_cwU (C := RJ4) 0 hts gJ5_append_3fe6f_J5_isLatin1_aae02_u83J4 rfl rfl rfl rfl (by decide +kernel) ⟨Nat.le_of_ble_eq_true rfl, Nat.le_of_ble_eq_true rfl⟩) ⟨pcs_blind, va_recv hK hP (ci := 0) (q0 := 0) rfl rfl, (pcs_pre (fun h => h) hE hS hPc hK hDc hFc)⟩ rfl rfl hl.1 rfl (lv_room (Nat.le_of_ble_eq_true rfl)) dJ5_append_3fe6f_11 ⟨Nat.le_of_ble_eq_true rfl, Nat.le_of_ble_eq_true rfl⟩) hS (fun q _ h => hFc q h) hFc (fun r_3 u t H1 locs1 ht hvm hw hB hz1 hk1 hS => ?_)
  have hw : r_3 = 1 := hw
  subst hw
  obtain ⟨hP, hD⟩ := aft (wr := [(v_2, .inl (cB, cap_2, .inl (ni f_2)))]) (w1 := [(b, .inr (0, [.ref v_2, .int 0, .int 0, .int (nI cn)]))]) (w2 := [(b, .inr (0, [.ref v_2, .int 0, .int 0, .int (nI cn)])), (v_2, .inl (cB, cap_2, .inl (ni f_2)))]) hP hD [0] [1] [1, 0] rfl rfl (by decide) (by decide) hFc hk1 ht hB rfl (by decide) rfl
  clear hPc hDc hFc hk1 ht hB hz1 hvm
  generalize H1 = H at hP hS ⊢
  have hP : va_P D vwCl [(b, .inr (0, [.ref v_2, .int 0, .int 0, .int (nI cn)])), (v_2, .inl (cB, cap_2, .inl (ni f_2)))] H := hP
  have hD : va_D A [(b, .inr (0, [.ref v_2, .int 0, .int 0, .int (nI cn)])), (v_2, .inl (cB, cap_2, .inl (ni f_2)))] := hD
  refine lv_if_eq (tgt := 45) hx hb dJ5_append_3fe6f_14 (by decide) (fun c_4 => ?_) (fun c_4 => ?_)
  · exact absurd c_4 (by decide)
  · refine lv_iload_n hx hb dJ5_append_3fe6f_17 rfl (lv_at hl 1 rfl) ?_
    have hPc := hP.sub (ws' := []) [] rfl
    have hDc := hD.sub (ws' := []) [] (by decide) rfl
    have hFc := va_free (wc := []) hD hS hA [] rfl
    refine va_calli (va_runS (As := [.int (nI cv)]) (rest := []) ⟨hx, hb, hml, hown, hts⟩ (c_J1_canEncode_fc78d l D H.size cI cB cv (by omega)) (va_cwS 1 hts gJ5_append_3fe6f_J1_canEncode_fc78d rfl rfl rfl (by decide +kernel) ⟨Nat.le_of_ble_eq_true rfl, Nat.le_of_ble_eq_true rfl⟩) ⟨pcs_blind, (pcs_pre (fun h => by cases h) hE hS hPc hK hDc hFc)⟩ rfl rfl hl.1 rfl (lv_room (Nat.le_of_ble_eq_true rfl)) dJ5_append_3fe6f_18 ⟨Nat.le_of_ble_eq_true rfl, Nat.le_of_ble_eq_true rfl⟩) hS (fun q _ h => hFc q h) hFc (fun r_5 u t H1 locs1 ht hvm hw hB hz1 hk1 hS => ?_)
    have hw : r_5 = 1 := hw
    subst hw
    obtain ⟨hP, hD⟩ := aft (wr := [(b, .inr (0, [.ref v_2, .int 0, .int 0, .int (nI cn)])), (v_2, .inl (cB, cap_2, .inl (ni f_2)))]) (w1 := []) (w2 := [(b, .inr (0, [.ref v_2, .int 0, .int 0, .int (nI cn)])), (v_2, .inl (cB, cap_2, .inl (ni f_2)))]) hP hD [] [0, 1] [0, 1] rfl rfl (by decide) (by decide) hFc hk1 ht hB rfl (by decide) rfl
    clear hPc hDc hFc hk1 ht hB hz1 hvm
    generalize H1 = H at hP hS ⊢
    have hP : va_P D vwCl [(b, .inr (0, [.ref v_2, .int 0, .int 0, .int (nI cn)])), (v_2, .inl (cB, cap_2, .inl (ni f_2)))] H := hP
    have hD : va_D A [(b, .inr (0, [.ref v_2, .int 0, .int 0, .int (nI cn)])), (v_2, .inl (cB, cap_2, .inl (ni f_2)))] := hD
    refine lv_if_eq (tgt := 45) hx hb dJ5_append_3fe6f_21 (by decide) (fun c_6 => ?_) (fun c_6 => ?_)
    · exact absurd c_6 (by decide)
    · refine lv_aload_n hx hb dJ5_append_3fe6f_24 rfl (lv_at hl 0 rfl) ?_
      refine va_get (ci := 0) (v := .ref v_2) (C := RJ4) (T := TJ4) (N := 4) hx hb hts in_J5_append_3fe6f_J4 hown hK hP 0 rfl rfl 0 (by decide) (hts (.fieldLink RJ5 15 "java/lang/AbstractStringBuilder" "value" "[B") (by decide +kernel)) (fun _ h9 => h9) rfl dJ5_append_3fe6f_25 ?_
      refine lv_aload_n hx hb dJ5_append_3fe6f_28 rfl (lv_at hl 0 rfl) ?_
      refine lv_dup hx hb dJ5_append_3fe6f_29 rfl ?_
      refine va_get (ci := 0) (v := .int (nI cn)) (C := RJ4) (T := TJ4) (N := 4) hx hb hts in_J5_append_3fe6f_J4 hown hK hP 0 rfl rfl 3 (by decide) (hts (.fieldLink RJ5 79 "java/lang/AbstractStringBuilder" "count" "I") (by decide +kernel)) (fun _ h9 => h9) rfl dJ5_append_3fe6f_30 ?_
      refine lv_dup_x1 hx hb dJ5_append_3fe6f_33 rfl rfl ?_
      refine lv_iconst (v := 1) hx hb dJ5_append_3fe6f_34 (by decide) ?_
      refine lv_iadd hx hb dJ5_append_3fe6f_35 ?_
      refine tp (show (nI cn) + 1 = nI (cn + 1) from nI_add cn 1) ?_
      refine va_put (ci := 0) (v := .int (nI (cn + 1))) (ty := .int) (C := RJ4) (T := TJ4) (N := 4) hx hb hts in_J5_append_3fe6f_J4 tyJ4 tyJ4_ok nmJ4 hown hK hP hD hS 0 rfl rfl 3 (by decide) (hts (.fieldLink RJ5 79 "java/lang/AbstractStringBuilder" "count" "I") (by decide +kernel)) (fun _ h9 => h9) rfl (by decide +kernel) rfl rfl (Nat.le_of_ble_eq_true rfl) dJ5_append_3fe6f_36 (fun H locs hP hD hS => ?_)
      have hP : va_P D vwCl [(b, .inr (0, [.ref v_2, .int 0, .int 0, .int (nI (cn + 1))])), (v_2, .inl (cB, cap_2, .inl (ni f_2)))] H := hP
      have hD : va_D A [(b, .inr (0, [.ref v_2, .int 0, .int 0, .int (nI (cn + 1))])), (v_2, .inl (cB, cap_2, .inl (ni f_2)))] := hD
      refine lv_iload_n hx hb dJ5_append_3fe6f_39 rfl (lv_at hl 1 rfl) ?_
      refine lv_i2b (v := nI cv) hx hb dJ5_append_3fe6f_40 (toB _ (by omega)) ?_
      refine bst (k := cn) (v := cv) hx hb hK hP hD hS 1 1 (by omega) (by omega) (by omega) rfl rfl dJ5_append_3fe6f_41 (fun H locs hP hD hS => ?_)
      have hP : va_P D vwCl [(b, .inr (0, [.ref v_2, .int 0, .int 0, .int (nI (cn + 1))])), (v_2, .inl (cB, cap_2, .inl (ni (va_up f_2 cn cv))))] H := hP
      have hD : va_D A [(b, .inr (0, [.ref v_2, .int 0, .int 0, .int (nI (cn + 1))])), (v_2, .inl (cB, cap_2, .inl (ni (va_up f_2 cn cv))))] := hD
      refine lv_goto (tgt := 75) hx hb dJ5_append_3fe6f_42 (by decide) ?_
      refine lv_aload_n hx hb dJ5_append_3fe6f_75 rfl (lv_at hl 0 rfl) ?_
      refine W.widen (k := 1) (n := 34) (Nat.le_of_ble_eq_true rfl) (Nat.le_of_ble_eq_true rfl) ?_
      have hP9 := hP.sub (ws' := [(b, .inr (0, [.ref v_2, .int 0, .int 0, .int (nI (cn + 1))])), (v_2, .inl (cB, cap_2, .inl (ni (va_up f_2 cn cv))))]) [0, 1] rfl
      have hD9 := hD.sub (ws' := [(b, .inr (0, [.ref v_2, .int 0, .int 0, .int (nI (cn + 1))])), (v_2, .inl (cB, cap_2, .inl (ni (va_up f_2 cn cv))))]) [0, 1] (by decide) rfl
      exact W.aret (v := .ref b) hx hb hr (Or.inl ⟨_, rfl⟩) (Or.inr ⟨_, rfl⟩) (fun t ht hW => lfxr (v_2, cap_2, (va_up f_2 cn cv)) rfl (tx_push htx_2 (by omega) hcv) hP9 hK hD9 hS ht hW) hS.2.2 dJ5_append_3fe6f_76 hlocks
set_option maxHeartbeats 4000000 in
set_option maxRecDepth 100000 in
theorem c_J0_coder_7d493 (l : Launch) (D : va_G) (sz : Nat) (cI : ClassId) (cB : ClassId) (si : Nat) (sk : Nat) (hsi : si < 9) : CTK l yJ0_coder_7d493 wsJ0_coder_7d493 ({ frames := 0, cells := 0, slots := 0, locals := 0 }) true D ([(cI, .int), (cB, .byte)]) [] sz si sk [.ref sk] (qi D ([(cI, .int), (cB, .byte)]) (fun r => r = 0) []) 0 0 := by
  refine CTK.of (cc := cJ0_coder_7d493) (maxL := 1) (ret := (some .byte)) (by decide) rfl (Nat.le_of_ble_eq_true rfl) ?_
  intro A p e s m args below meth c ls H locs En0 hSK argsE hP hK hD hE hA hS hl
  obtain ⟨hx, hb, hr, hml, hown, hts, hlocks, hin⟩ := En0
  have hEw := (hE rfl).1
  have hP : va_P D vwCl [] H := hP
  have hD : va_D A [] := hD
  have hl : lv_has ls 1 [(0, .ref sk)] := hl
  obtain ⟨hz0, hcs, hOn, hTn, hstr⟩ := (hE rfl).2.2
  obtain ⟨sv, hsO, hsC, hsV, hsT⟩ := strK_S (hE rfl).2.2 hSK hsi
  have hsl : (sbL si).length ≤ 9 := (sb_2 si hsi).2
  refine va_gets hx hb hcs hS hown (hts (.fieldLink RJ0 38 "java/lang/String" "COMPACT_STRINGS" "Z") (by decide +kernel)) (fun _ h => h) dJ0_coder_7d493_0 ?_
  refine lv_if_eq (tgt := 13) hx hb dJ0_coder_7d493_3 (by decide) (fun c_1 => ?_) (fun c_1 => ?_)
  · exact absurd c_1 (by decide)
  · refine lv_aload_n hx hb dJ0_coder_7d493_6 rfl (lv_at hl 0 rfl) ?_
    refine vk_getf hx hb hsC hS hown (hts (.fieldLink RJ0 15 "java/lang/String" "coder" "B") (by decide +kernel)) (fun _ h => h) dJ0_coder_7d493_7 ?_
    refine lv_goto (tgt := 14) hx hb dJ0_coder_7d493_10 (by decide) ?_
    exact W.zret (v := 0) hx hb hr rfl (fun t ht hW => lfe rfl hP hK hD hS ht hW) hS.2.2 dJ0_coder_7d493_14 hlocks
set_option maxHeartbeats 4000000 in
set_option maxRecDepth 100000 in
theorem c_J0_length_8abf5 (l : Launch) (D : va_G) (sz : Nat) (cI : ClassId) (cB : ClassId) (si : Nat) (sk : Nat) (hsi : si < 9) : CTK l yJ0_length_8abf5 wsJ0_length_8abf5 ({ frames := 1, cells := 0, slots := 0, locals := 20 }) true D ([(cI, .int), (cB, .byte)]) [] sz si sk [.ref sk] (qi D ([(cI, .int), (cB, .byte)]) (fun r => r = nI ((sbL si).length)) []) 0 0 := by
  refine CTK.of (cc := cJ0_length_8abf5) (maxL := 1) (ret := (some .int)) (by decide) rfl (Nat.le_of_ble_eq_true rfl) ?_
  intro A p e s m args below meth c ls H locs En0 hSK argsE hP hK hD hE hA hS hl
  obtain ⟨hx, hb, hr, hml, hown, hts, hlocks, hin⟩ := En0
  have hEw := (hE rfl).1
  have hP : va_P D vwCl [] H := hP
  have hD : va_D A [] := hD
  have hl : lv_has ls 1 [(0, .ref sk)] := hl
  obtain ⟨hz0, hcs, hOn, hTn, hstr⟩ := (hE rfl).2.2
  obtain ⟨sv, hsO, hsC, hsV, hsT⟩ := strK_S (hE rfl).2.2 hSK hsi
  have hsl : (sbL si).length ≤ 9 := (sb_2 si hsi).2
  refine lv_aload_n hx hb dJ0_length_8abf5_0 rfl (lv_at hl 0 rfl) ?_
  refine vk_getf hx hb hsV hS hown (hts (.fieldLink RJ0 9 "java/lang/String" "value" "[B") (by decide +kernel)) (fun _ h => h) dJ0_length_8abf5_1 ?_
  refine va_tlen hx hb hsT hS (v := nI ((sbL si).length)) rfl dJ0_length_8abf5_4 ?_
  refine lv_aload_n hx hb dJ0_length_8abf5_5 rfl (lv_at hl 0 rfl) ?_
  have hPc := hP
  have hDc := hD
  have hFc := va_free (wc := []) hD hS hA [] rfl
  refine va_calli (va_runV (As := []) (rest := [.int (nI ((sbL si).length))]) ⟨hx, hb, hml, hown, hts⟩ (c_J0_coder_7d493 l D H.size cI cB si sk hsi) (cwV 0 hts gJ0_length_8abf5_J0_coder_7d493 rfl rfl rfl (by decide +kernel) ⟨Nat.le_of_ble_eq_true rfl, Nat.le_of_ble_eq_true rfl⟩) ⟨pcsK_blind, strK_recv hsO hS, (pcsK_pre (pcs_pre (fun h => h) hE hS hPc hK hDc hFc) hSK)⟩ rfl rfl hl.1 rfl (lv_room (Nat.le_of_ble_eq_true rfl)) dJ0_length_8abf5_6 ⟨Nat.le_of_ble_eq_true rfl, Nat.le_of_ble_eq_true rfl⟩) hS (fun q _ h => hFc q h) hFc (fun r_1 u t H1 locs1 ht hvm hw hB hz1 hk1 hS => ?_)
  have hw : r_1 = 0 := hw
  subst hw
  obtain ⟨hP, hD⟩ := aftW hFc ht hB
  clear hPc hDc hFc hk1 ht hB hz1 hvm
  generalize H1 = H at hP hS ⊢
  have hP : va_P D vwCl [] H := hP
  have hD : va_D A [] := hD
  refine lv_ishr hx hb dJ0_length_8abf5_9 ?_
  refine tp (show _ = nI ((sbL si).length) from shr0 (n := ((sbL si).length)) (by omega)) ?_
  exact W.iret (v := nI ((sbL si).length)) hx hb hr (fun t ht hW => lfe rfl hP hK hD hS ht hW) hS.2.2 dJ0_length_8abf5_10 hlocks
set_option maxRecDepth 20000 in
theorem in_J5_inflateIfNeededFor_a7421_J4 : ∀ w ∈ u_ws RJ4 TJ4 4, w ∈ wsJ5_inflateIfNeededFor_a7421 := by decide +kernel
set_option maxHeartbeats 4000000 in
set_option maxRecDepth 100000 in
theorem c_J5_inflateIfNeededFor_a7421 (l : Launch) (D : va_G) (sz : Nat) (cI : ClassId) (cB : ClassId) (b : Nat) (v : Nat) (cn : Nat) (si : Nat) (sk : Nat) (hsi : si < 9) : CTK l yJ5_inflateIfNeededFor_a7421 wsJ5_inflateIfNeededFor_a7421 ({ frames := 1, cells := 0, slots := 0, locals := 20 }) true D ([(cI, .int), (cB, .byte)]) [(b, .inr (0, [.ref v, .int 0, .int 0, .int (nI cn)]))] sz si sk [.ref b, .ref sk] (qv D ([(cI, .int), (cB, .byte)]) (True) [(b, .inr (0, [.ref v, .int 0, .int 0, .int (nI cn)]))]) 0 0 := by
  refine CTK.of (cc := cJ5_inflateIfNeededFor_a7421) (maxL := 2) (ret := none) (by decide) rfl (Nat.le_of_ble_eq_true rfl) ?_
  intro A p e s m args below meth c ls H locs En0 hSK argsE hP hK hD hE hA hS hl
  obtain ⟨hx, hb, hr, hml, hown, hts, hlocks, hin⟩ := En0
  have hEw := (hE rfl).1
  have hP : va_P D vwCl [(b, .inr (0, [.ref v, .int 0, .int 0, .int (nI cn)]))] H := hP
  have hD : va_D A [(b, .inr (0, [.ref v, .int 0, .int 0, .int (nI cn)]))] := hD
  have hl : lv_has ls 2 [(0, .ref b), (1, .ref sk)] := hl
  obtain ⟨hz0, hcs, hOn, hTn, hstr⟩ := (hE rfl).2.2
  obtain ⟨sv, hsO, hsC, hsV, hsT⟩ := strK_S (hE rfl).2.2 hSK hsi
  have hsl : (sbL si).length ≤ 9 := (sb_2 si hsi).2
  refine va_gets hx hb hcs hS hown (hts (.fieldLink RJ5 18 "java/lang/String" "COMPACT_STRINGS" "Z") (by decide +kernel)) (fun _ h => h) dJ5_inflateIfNeededFor_a7421_0 ?_
  refine lv_if_eq (tgt := 21) hx hb dJ5_inflateIfNeededFor_a7421_3 (by decide) (fun c_1 => ?_) (fun c_1 => ?_)
  · exact absurd c_1 (by decide)
  · refine lv_aload_n hx hb dJ5_inflateIfNeededFor_a7421_6 rfl (lv_at hl 0 rfl) ?_
    refine va_get (ci := 0) (v := .int 0) (C := RJ4) (T := TJ4) (N := 4) hx hb hts in_J5_inflateIfNeededFor_a7421_J4 hown hK hP 0 rfl rfl 1 (by decide) (hts (.fieldLink RJ5 22 "java/lang/AbstractStringBuilder" "coder" "B") (by decide +kernel)) (fun _ h9 => h9) rfl dJ5_inflateIfNeededFor_a7421_7 ?_
    refine lv_aload_n hx hb dJ5_inflateIfNeededFor_a7421_10 rfl (lv_at hl 1 rfl) ?_
    have hPc := hP.sub (ws' := []) [] rfl
    have hDc := hD.sub (ws' := []) [] (by decide) rfl
    have hFc := va_free (wc := []) hD hS hA [] rfl
    refine va_calli (va_runV (As := []) (rest := [.int 0]) ⟨hx, hb, hml, hown, hts⟩ (c_J0_coder_7d493 l D H.size cI cB si sk hsi) (cwV 0 hts gJ5_inflateIfNeededFor_a7421_J0_coder_7d493 rfl rfl rfl (by decide +kernel) ⟨Nat.le_of_ble_eq_true rfl, Nat.le_of_ble_eq_true rfl⟩) ⟨pcsK_blind, strK_recv hsO hS, (pcsK_pre (pcs_pre (fun h => h) hE hS hPc hK hDc hFc) hSK)⟩ rfl rfl hl.1 rfl (lv_room (Nat.le_of_ble_eq_true rfl)) dJ5_inflateIfNeededFor_a7421_11 ⟨Nat.le_of_ble_eq_true rfl, Nat.le_of_ble_eq_true rfl⟩) hS (fun q _ h => hFc q h) hFc (fun r_2 u t H1 locs1 ht hvm hw hB hz1 hk1 hS => ?_)
    have hw : r_2 = 0 := hw
    subst hw
    obtain ⟨hP, hD⟩ := aft (wr := [(b, .inr (0, [.ref v, .int 0, .int 0, .int (nI cn)]))]) (w1 := []) (w2 := [(b, .inr (0, [.ref v, .int 0, .int 0, .int (nI cn)]))]) hP hD [] [0] [0] rfl rfl (by decide) (by decide) hFc hk1 ht hB rfl (by decide) rfl
    clear hPc hDc hFc hk1 ht hB hz1 hvm
    generalize H1 = H at hP hS ⊢
    have hP : va_P D vwCl [(b, .inr (0, [.ref v, .int 0, .int 0, .int (nI cn)]))] H := hP
    have hD : va_D A [(b, .inr (0, [.ref v, .int 0, .int 0, .int (nI cn)]))] := hD
    refine lv_icmp_eq (tgt := 21) hx hb dJ5_inflateIfNeededFor_a7421_14 (by decide) (fun c_3 => ?_) (fun c_3 => ?_)
    · skip
      exact W.vret hx hb hr (fun t ht hW => lfv trivial hP hK hD hS ht hW) hS.2.2 dJ5_inflateIfNeededFor_a7421_21 hlocks
    · exact absurd c_3 (by decide)
set_option maxHeartbeats 4000000 in
set_option maxRecDepth 100000 in
theorem c_J0_getBytes_840e7 (l : Launch) (D : va_G) (sz : Nat) (cI : ClassId) (cB : ClassId) (si : Nat) (sk : Nat) (v : Nat) (cap : Nat) (f : Nat → Nat) (dp : Nat) (hdc : dp + (sbL si).length ≤ cap) (hcp : cap ≤ 34) (hsi : si < 9) : CTK l yJ0_getBytes_840e7 wsJ0_getBytes_840e7 ({ frames := 1, cells := 0, slots := 0, locals := 60 }) true D ([(cI, .int), (cB, .byte)]) [(v, .inl (cB, cap, .inl (ni f)))] sz si sk [.ref sk, .ref v, .int (nI dp), .int 0] (qv D ([(cI, .int), (cB, .byte)]) True [(v, .inl (cB, cap, .inl (ni (va_cpy (fun j => (sbL si).getD j 0) f 0 dp (sbL si).length))))]) 0 0 := by
  refine CTK.of (cc := cJ0_getBytes_840e7) (maxL := 4) (ret := none) (by decide) rfl (Nat.le_of_ble_eq_true rfl) ?_
  intro A p e s m args below meth c ls H locs En0 hSK argsE hP hK hD hE hA hS hl
  obtain ⟨hx, hb, hr, hml, hown, hts, hlocks, hin⟩ := En0
  have hEw := (hE rfl).1
  have hP : va_P D vwCl [(v, .inl (cB, cap, .inl (ni f)))] H := hP
  have hD : va_D A [(v, .inl (cB, cap, .inl (ni f)))] := hD
  have hl : lv_has ls 4 [(0, .ref sk), (1, .ref v), (2, .int (nI dp)), (3, .int 0)] := hl
  obtain ⟨hz0, hcs, hOn, hTn, hstr⟩ := (hE rfl).2.2
  obtain ⟨sv, hsO, hsC, hsV, hsT⟩ := strK_S (hE rfl).2.2 hSK hsi
  have hsl : (sbL si).length ≤ 9 := (sb_2 si hsi).2
  refine lv_aload_n hx hb dJ0_getBytes_840e7_0 rfl (lv_at hl 0 rfl) ?_
  have hPc := hP.sub (ws' := []) [] rfl
  have hDc := hD.sub (ws' := []) [] (by decide) rfl
  have hFc := va_free (wc := []) hD hS hA [] rfl
  refine va_calli (va_runV (As := []) (rest := []) ⟨hx, hb, hml, hown, hts⟩ (c_J0_coder_7d493 l D H.size cI cB si sk hsi) (cwV 0 hts gJ0_getBytes_840e7_J0_coder_7d493 rfl rfl rfl (by decide +kernel) ⟨Nat.le_of_ble_eq_true rfl, Nat.le_of_ble_eq_true rfl⟩) ⟨pcsK_blind, strK_recv hsO hS, (pcsK_pre (pcs_pre (fun h => h) hE hS hPc hK hDc hFc) hSK)⟩ rfl rfl hl.1 rfl (lv_room (Nat.le_of_ble_eq_true rfl)) dJ0_getBytes_840e7_1 ⟨Nat.le_of_ble_eq_true rfl, Nat.le_of_ble_eq_true rfl⟩) hS (fun q _ h => hFc q h) hFc (fun r_1 u t H1 locs1 ht hvm hw hB hz1 hk1 hS => ?_)
  have hw : r_1 = 0 := hw
  subst hw
  obtain ⟨hP, hD⟩ := aft (wr := [(v, .inl (cB, cap, .inl (ni f)))]) (w1 := []) (w2 := [(v, .inl (cB, cap, .inl (ni f)))]) hP hD [] [0] [0] rfl rfl (by decide) (by decide) hFc hk1 ht hB rfl (by decide) rfl
  clear hPc hDc hFc hk1 ht hB hz1 hvm
  generalize H1 = H at hP hS ⊢
  have hP : va_P D vwCl [(v, .inl (cB, cap, .inl (ni f)))] H := hP
  have hD : va_D A [(v, .inl (cB, cap, .inl (ni f)))] := hD
  refine lv_iload_n hx hb dJ0_getBytes_840e7_4 rfl (lv_at hl 3 rfl) ?_
  refine lv_icmp_ne (tgt := 28) hx hb dJ0_getBytes_840e7_5 (by decide) (fun c_2 => ?_) (fun c_2 => ?_)
  · exact absurd c_2 (by decide)
  · refine lv_aload_n hx hb dJ0_getBytes_840e7_8 rfl (lv_at hl 0 rfl) ?_
    refine vk_getf hx hb hsV hS hown (hts (.fieldLink RJ0 9 "java/lang/String" "value" "[B") (by decide +kernel)) (fun _ h => h) dJ0_getBytes_840e7_9 ?_
    refine lv_iconst (v := 0) hx hb dJ0_getBytes_840e7_12 (by decide) ?_
    refine lv_aload_n hx hb dJ0_getBytes_840e7_13 rfl (lv_at hl 1 rfl) ?_
    refine lv_iload_n hx hb dJ0_getBytes_840e7_14 rfl (lv_at hl 2 rfl) ?_
    refine lv_iload_n hx hb dJ0_getBytes_840e7_15 rfl (lv_at hl 3 rfl) ?_
    refine lv_ishl hx hb dJ0_getBytes_840e7_16 ?_
    refine tp (show _ = nI dp from shl0 (n := dp) (by omega)) ?_
    refine lv_aload_n hx hb dJ0_getBytes_840e7_17 rfl (lv_at hl 0 rfl) ?_
    refine vk_getf hx hb hsV hS hown (hts (.fieldLink RJ0 9 "java/lang/String" "value" "[B") (by decide +kernel)) (fun _ h => h) dJ0_getBytes_840e7_18 ?_
    refine va_tlen hx hb hsT hS (v := nI ((sbL si).length)) rfl dJ0_getBytes_840e7_21 ?_
    refine bcpyT (f9 := fun j => (sbL si).getD j 0) (dp := dp) (n := ((sbL si).length)) hx hb (by rw [hml]; exact hl.1.symm) hown (hts (.methodLink RJ0 212 arraycopyName) (by decide +kernel)) (hts (.native arraycopyName) (by decide +kernel)) (hts (.static arraycopyName) (by decide +kernel)) (hts (.initialized "java/lang/System") (by decide +kernel)) hK hP hD hS hsT 0 1 rfl rfl (by omega) (by omega) (by omega) (by omega) (fun j hj => ⟨sb_1 si hsi j (by omega), sb_3 si hsi j (by omega)⟩) (Nat.le_of_ble_eq_true rfl) (Nat.le_of_ble_eq_true rfl) dJ0_getBytes_840e7_22 (fun H locs hP hD hS => ?_)
    have hP : va_P D vwCl [(v, .inl (cB, cap, .inl (ni (va_cpy (fun j => (sbL si).getD j 0) f 0 dp ((sbL si).length)))))] H := hP
    have hD : va_D A [(v, .inl (cB, cap, .inl (ni (va_cpy (fun j => (sbL si).getD j 0) f 0 dp ((sbL si).length)))))] := hD
    refine lv_goto (tgt := 43) hx hb dJ0_getBytes_840e7_25 (by decide) ?_
    have hP9 := hP.sub (ws' := [(v, .inl (cB, cap, .inl (ni (va_cpy (fun j => (sbL si).getD j 0) f 0 dp ((sbL si).length)))))]) [0] rfl
    have hD9 := hD.sub (ws' := [(v, .inl (cB, cap, .inl (ni (va_cpy (fun j => (sbL si).getD j 0) f 0 dp ((sbL si).length)))))]) [0] (by decide) rfl
    exact W.vret hx hb hr (fun t ht hW => lfv trivial hP9 hK hD9 hS ht hW) hS.2.2 dJ0_getBytes_840e7_43 hlocks
set_option maxRecDepth 20000 in
theorem in_J5_putStringAt_47b60_J4 : ∀ w ∈ u_ws RJ4 TJ4 4, w ∈ wsJ5_putStringAt_47b60 := by decide +kernel
set_option maxHeartbeats 4000000 in
set_option maxRecDepth 100000 in
theorem c_J5_putStringAt_47b60 (l : Launch) (D : va_G) (sz : Nat) (cI : ClassId) (cB : ClassId) (b : Nat) (v : Nat) (cn : Nat) (cap : Nat) (f : Nat → Nat) (dp : Nat) (si : Nat) (sk : Nat) (hdc : dp + (sbL si).length ≤ cap) (hcp : cap ≤ 34) (hsi : si < 9) : CTK l yJ5_putStringAt_47b60 wsJ5_putStringAt_47b60 ({ frames := 2, cells := 0, slots := 0, locals := 83 }) true D ([(cI, .int), (cB, .byte)]) [(b, .inr (0, [.ref v, .int 0, .int 0, .int (nI cn)])), (v, .inl (cB, cap, .inl (ni f)))] sz si sk [.ref b, .int (nI dp), .ref sk] (qv D ([(cI, .int), (cB, .byte)]) True [(b, .inr (0, [.ref v, .int 0, .int 0, .int (nI cn)])), (v, .inl (cB, cap, .inl (ni (va_cpy (fun j => (sbL si).getD j 0) f 0 dp (sbL si).length))))]) 0 0 := by
  refine CTK.of (cc := cJ5_putStringAt_47b60) (maxL := 3) (ret := none) (by decide) rfl (Nat.le_of_ble_eq_true rfl) ?_
  intro A p e s m args below meth c ls H locs En0 hSK argsE hP hK hD hE hA hS hl
  obtain ⟨hx, hb, hr, hml, hown, hts, hlocks, hin⟩ := En0
  have hEw := (hE rfl).1
  have hP : va_P D vwCl [(b, .inr (0, [.ref v, .int 0, .int 0, .int (nI cn)])), (v, .inl (cB, cap, .inl (ni f)))] H := hP
  have hD : va_D A [(b, .inr (0, [.ref v, .int 0, .int 0, .int (nI cn)])), (v, .inl (cB, cap, .inl (ni f)))] := hD
  have hl : lv_has ls 3 [(0, .ref b), (1, .int (nI dp)), (2, .ref sk)] := hl
  obtain ⟨hz0, hcs, hOn, hTn, hstr⟩ := (hE rfl).2.2
  obtain ⟨sv, hsO, hsC, hsV, hsT⟩ := strK_S (hE rfl).2.2 hSK hsi
  have hsl : (sbL si).length ≤ 9 := (sb_2 si hsi).2
  refine lv_aload_n hx hb dJ5_putStringAt_47b60_0 rfl (lv_at hl 0 rfl) ?_
  refine lv_aload_n hx hb dJ5_putStringAt_47b60_1 rfl (lv_at hl 2 rfl) ?_
  have hPc := hP.sub (ws' := [(b, .inr (0, [.ref v, .int 0, .int 0, .int (nI cn)]))]) [0] rfl
  have hDc := hD.sub (ws' := [(b, .inr (0, [.ref v, .int 0, .int 0, .int (nI cn)]))]) [0] (by decide) rfl
  have hFc := va_free (wc := [(b, .inr (0, [.ref v, .int 0, .int 0, .int (nI cn)]))]) hD hS hA [0] rfl
  refine va_callv (va_runU (As := [.ref sk]) (rest := []) ⟨hx, hb, hml, hown, hts⟩ (c_J5_inflateIfNeededFor_a7421 l D H.size cI cB b v cn si sk hsi) (va_cwU (C := RJ4) 1 hts gJ5_putStringAt_47b60_J5_inflateIfNeededFor_a7421_u397J4 rfl rfl rfl rfl (by decide +kernel) ⟨Nat.le_of_ble_eq_true rfl, Nat.le_of_ble_eq_true rfl⟩) ⟨pcsK_blind, va_recv hK hP (ci := 0) (q0 := 0) rfl rfl, (pcsK_pre (pcs_pre (fun h => h) hE hS hPc hK hDc hFc) hSK)⟩ rfl rfl hl.1 rfl (lv_room (Nat.le_of_ble_eq_true rfl)) dJ5_putStringAt_47b60_2 ⟨Nat.le_of_ble_eq_true rfl, Nat.le_of_ble_eq_true rfl⟩) hS (fun q _ h => hFc q h) hFc (fun u t H1 locs1 ht hvm hw hB hz1 hk1 hS => ?_)
  obtain ⟨hP, hD⟩ := aft (wr := [(v, .inl (cB, cap, .inl (ni f)))]) (w1 := [(b, .inr (0, [.ref v, .int 0, .int 0, .int (nI cn)]))]) (w2 := [(b, .inr (0, [.ref v, .int 0, .int 0, .int (nI cn)])), (v, .inl (cB, cap, .inl (ni f)))]) hP hD [0] [1] [1, 0] rfl rfl (by decide) (by decide) hFc hk1 ht hB rfl (by decide) rfl
  clear hPc hDc hFc hk1 ht hB hz1 hvm
  generalize H1 = H at hP hS ⊢
  have hP : va_P D vwCl [(b, .inr (0, [.ref v, .int 0, .int 0, .int (nI cn)])), (v, .inl (cB, cap, .inl (ni f)))] H := hP
  have hD : va_D A [(b, .inr (0, [.ref v, .int 0, .int 0, .int (nI cn)])), (v, .inl (cB, cap, .inl (ni f)))] := hD
  refine lv_aload_n hx hb dJ5_putStringAt_47b60_5 rfl (lv_at hl 2 rfl) ?_
  refine lv_aload_n hx hb dJ5_putStringAt_47b60_6 rfl (lv_at hl 0 rfl) ?_
  refine va_get (ci := 0) (v := .ref v) (C := RJ4) (T := TJ4) (N := 4) hx hb hts in_J5_putStringAt_47b60_J4 hown hK hP 0 rfl rfl 0 (by decide) (hts (.fieldLink RJ5 15 "java/lang/AbstractStringBuilder" "value" "[B") (by decide +kernel)) (fun _ h9 => h9) rfl dJ5_putStringAt_47b60_7 ?_
  refine lv_iload_n hx hb dJ5_putStringAt_47b60_10 rfl (lv_at hl 1 rfl) ?_
  refine lv_aload_n hx hb dJ5_putStringAt_47b60_11 rfl (lv_at hl 0 rfl) ?_
  refine va_get (ci := 0) (v := .int 0) (C := RJ4) (T := TJ4) (N := 4) hx hb hts in_J5_putStringAt_47b60_J4 hown hK hP 0 rfl rfl 1 (by decide) (hts (.fieldLink RJ5 22 "java/lang/AbstractStringBuilder" "coder" "B") (by decide +kernel)) (fun _ h9 => h9) rfl dJ5_putStringAt_47b60_12 ?_
  have hPc := hP.sub (ws' := [(v, .inl (cB, cap, .inl (ni f)))]) [1] rfl
  have hDc := hD.sub (ws' := [(v, .inl (cB, cap, .inl (ni f)))]) [1] (by decide) rfl
  have hFc := va_free (wc := [(v, .inl (cB, cap, .inl (ni f)))]) hD hS hA [1] rfl
  refine va_callv (va_runV (As := [.ref v, .int (nI dp), .int 0]) (rest := []) ⟨hx, hb, hml, hown, hts⟩ (c_J0_getBytes_840e7 l D H.size cI cB si sk v cap f dp (by omega) (by omega) hsi) (cwV 3 hts gJ5_putStringAt_47b60_J0_getBytes_840e7 rfl rfl rfl (by decide +kernel) ⟨Nat.le_of_ble_eq_true rfl, Nat.le_of_ble_eq_true rfl⟩) ⟨pcsK_blind, strK_recv hsO hS, (pcsK_pre (pcs_pre (fun h => h) hE hS hPc hK hDc hFc) hSK)⟩ rfl rfl hl.1 rfl (lv_room (Nat.le_of_ble_eq_true rfl)) dJ5_putStringAt_47b60_15 ⟨Nat.le_of_ble_eq_true rfl, Nat.le_of_ble_eq_true rfl⟩) hS (fun q _ h => hFc q h) hFc (fun u t H1 locs1 ht hvm hw hB hz1 hk1 hS => ?_)
  obtain ⟨hP, hD⟩ := aft (wr := [(b, .inr (0, [.ref v, .int 0, .int 0, .int (nI cn)]))]) (w1 := [(v, .inl (cB, cap, .inl (ni (va_cpy (fun j => (sbL si).getD j 0) f 0 dp (sbL si).length))))]) (w2 := [(b, .inr (0, [.ref v, .int 0, .int 0, .int (nI cn)])), (v, .inl (cB, cap, .inl (ni (va_cpy (fun j => (sbL si).getD j 0) f 0 dp (sbL si).length))))]) hP hD [1] [0] [0, 1] rfl rfl (by decide) (by decide) hFc hk1 ht hB rfl (by decide) rfl
  clear hPc hDc hFc hk1 ht hB hz1 hvm
  generalize H1 = H at hP hS ⊢
  have hP : va_P D vwCl [(b, .inr (0, [.ref v, .int 0, .int 0, .int (nI cn)])), (v, .inl (cB, cap, .inl (ni (va_cpy (fun j => (sbL si).getD j 0) f 0 dp (sbL si).length))))] H := hP
  have hD : va_D A [(b, .inr (0, [.ref v, .int 0, .int 0, .int (nI cn)])), (v, .inl (cB, cap, .inl (ni (va_cpy (fun j => (sbL si).getD j 0) f 0 dp (sbL si).length))))] := hD
  have hP9 := hP.sub (ws' := [(b, .inr (0, [.ref v, .int 0, .int 0, .int (nI cn)])), (v, .inl (cB, cap, .inl (ni (va_cpy (fun j => (sbL si).getD j 0) f 0 dp (sbL si).length))))]) [0, 1] rfl
  have hD9 := hD.sub (ws' := [(b, .inr (0, [.ref v, .int 0, .int 0, .int (nI cn)])), (v, .inl (cB, cap, .inl (ni (va_cpy (fun j => (sbL si).getD j 0) f 0 dp (sbL si).length))))]) [0, 1] (by decide) rfl
  exact W.vret hx hb hr (fun t ht hW => lfv trivial hP9 hK hD9 hS ht hW) hS.2.2 dJ5_putStringAt_47b60_18 hlocks
set_option maxRecDepth 20000 in
theorem in_J5_append_cf1ce_J4 : ∀ w ∈ u_ws RJ4 TJ4 4, w ∈ wsJ5_append_cf1ce := by decide +kernel
set_option maxHeartbeats 4000000 in
set_option maxRecDepth 100000 in
theorem c_J5_append_cf1ce (l : Launch) (D : va_G) (sz : Nat) (cI : ClassId) (cB : ClassId) (b : Nat) (v : Nat) (cap : Nat) (cn : Nat) (f : Nat → Nat) (cs : List Nat) (si : Nat) (sk : Nat) (htx : tx cap cn f cs) (hca : cn + 9 ≤ 34) (hsi : si < 9) : CTK l yJ5_append_cf1ce wsJ5_append_cf1ce ({ frames := 4, cells := 1, slots := 34, locals := 105 }) true D ([(cI, .int), (cB, .byte)]) [(b, .inr (0, [.ref v, .int 0, .int 0, .int (nI cn)])), (v, .inl (cB, cap, .inl (ni f)))] sz si sk [.ref b, .ref sk] (qxr D ([(cI, .int), (cB, .byte)]) (fun u => tx u.2.1 (cn + (sbL si).length) u.2.2 (cs ++ sbL si)) b (fun u => [(b, .inr (0, [.ref u.1, .int 0, .int 0, .int (nI (cn + (sbL si).length))])), (u.1, .inl (cB, u.2.1, .inl (ni u.2.2)))])) 1 34 := by
  refine CTK.of (cc := cJ5_append_cf1ce) (maxL := 3) (ret := (some (.object "java/lang/AbstractStringBuilder"))) (by decide) rfl (Nat.le_of_ble_eq_true rfl) ?_
  intro A p e s m args below meth c ls H locs En0 hSK argsE hP hK hD hE hA hS hl
  obtain ⟨hx, hb, hr, hml, hown, hts, hlocks, hin⟩ := En0
  have hEw := (hE rfl).1
  have hP : va_P D vwCl [(b, .inr (0, [.ref v, .int 0, .int 0, .int (nI cn)])), (v, .inl (cB, cap, .inl (ni f)))] H := hP
  have hD : va_D A [(b, .inr (0, [.ref v, .int 0, .int 0, .int (nI cn)])), (v, .inl (cB, cap, .inl (ni f)))] := hD
  have hl : lv_has ls 3 [(0, .ref b), (1, .ref sk)] := hl
  obtain ⟨hz0, hcs, hOn, hTn, hstr⟩ := (hE rfl).2.2
  obtain ⟨sv, hsO, hsC, hsV, hsT⟩ := strK_S (hE rfl).2.2 hSK hsi
  have hsl : (sbL si).length ≤ 9 := (sb_2 si hsi).2
  refine lv_aload_n hx hb dJ5_append_cf1ce_0 rfl (lv_at hl 1 rfl) ?_
  refine lv_ifnonnull (tgt := 9) hx hb dJ5_append_cf1ce_1 (by decide) ?_
  refine lv_aload_n hx hb dJ5_append_cf1ce_9 rfl (lv_at hl 1 rfl) ?_
  have hPc := hP.sub (ws' := []) [] rfl
  have hDc := hD.sub (ws' := []) [] (by decide) rfl
  have hFc := va_free (wc := []) hD hS hA [] rfl
  refine va_calli (va_runV (As := []) (rest := []) ⟨hx, hb, hml, hown, hts⟩ (c_J0_length_8abf5 l D H.size cI cB si sk hsi) (cwV 0 hts gJ5_append_cf1ce_J0_length_8abf5 rfl rfl rfl (by decide +kernel) ⟨Nat.le_of_ble_eq_true rfl, Nat.le_of_ble_eq_true rfl⟩) ⟨pcsK_blind, strK_recv hsO hS, (pcsK_pre (pcs_pre (fun h => h) hE hS hPc hK hDc hFc) hSK)⟩ rfl rfl hl.1 rfl (lv_room (Nat.le_of_ble_eq_true rfl)) dJ5_append_cf1ce_10 ⟨Nat.le_of_ble_eq_true rfl, Nat.le_of_ble_eq_true rfl⟩) hS (fun q _ h => hFc q h) hFc (fun r_1 u t H1 locs1 ht hvm hw hB hz1 hk1 hS => ?_)
  have hw : r_1 = nI ((sbL si).length) := hw
  subst hw
  obtain ⟨hP, hD⟩ := aft (wr := [(b, .inr (0, [.ref v, .int 0, .int 0, .int (nI cn)])), (v, .inl (cB, cap, .inl (ni f)))]) (w1 := []) (w2 := [(b, .inr (0, [.ref v, .int 0, .int 0, .int (nI cn)])), (v, .inl (cB, cap, .inl (ni f)))]) hP hD [] [0, 1] [0, 1] rfl rfl (by decide) (by decide) hFc hk1 ht hB rfl (by decide) rfl
  clear hPc hDc hFc hk1 ht hB hz1 hvm
  generalize H1 = H at hP hS ⊢
  have hP : va_P D vwCl [(b, .inr (0, [.ref v, .int 0, .int 0, .int (nI cn)])), (v, .inl (cB, cap, .inl (ni f)))] H := hP
  have hD : va_D A [(b, .inr (0, [.ref v, .int 0, .int 0, .int (nI cn)])), (v, .inl (cB, cap, .inl (ni f)))] := hD
  refine lv_istore_n (lv' := [(2, .int (nI ((sbL si).length))), (0, .ref b), (1, .ref sk)]) hx hb dJ5_append_cf1ce_13 rfl hl (by decide) rfl (fun ls hl => ?_)
  refine lv_aload_n hx hb dJ5_append_cf1ce_14 rfl (lv_at hl 1 rfl) ?_
  refine lv_aload_n hx hb dJ5_append_cf1ce_15 rfl (lv_at hl 1 rfl) ?_
  refine va_get (ci := 0) (v := .int (nI cn)) (C := RJ4) (T := TJ4) (N := 4) hx hb hts in_J5_append_cf1ce_J4 hown hK hP 0 rfl rfl 3 (by decide) (hts (.fieldLink RJ5 79 "java/lang/AbstractStringBuilder" "count" "I") (by decide +kernel)) (fun _ h9 => h9) rfl dJ5_append_cf1ce_16 ?_
  refine lv_iload_n hx hb dJ5_append_cf1ce_19 rfl (lv_at hl 0 rfl) ?_
  refine lv_iadd hx hb dJ5_append_cf1ce_20 ?_
  refine tp (show (nI cn) + (nI ((sbL si).length)) = nI (cn + ((sbL si).length)) from nI_add cn ((sbL si).length)) ?_
  have hPc := hP
  have hDc := hD
  have hFc := va_free (wc := [(b, .inr (0, [.ref v, .int 0, .int 0, .int (nI cn)])), (v, .inl (cB, cap, .inl (ni f)))]) hD hS hA [0, 1] rfl
  refine va_callv (va_runU (As := [.int (nI (cn + ((sbL si).length)))]) (rest := []) ⟨hx, hb, hml, hown, hts⟩ (c_J5_ensureCapacityInternal_d00df l D H.size cI cB b v cap cn f cs (cn + ((sbL si).length)) htx (by omega)) (va_cwU (C := RJ4) 1 hts gJ5_append_cf1ce_J5_ensureCapacityInternal_d00df_u100J4 rfl rfl rfl rfl (by decide +kernel) ⟨Nat.le_of_ble_eq_true rfl, Nat.le_of_ble_eq_true rfl⟩) ⟨pcs_blind, va_recv hK hP (ci := 0) (q0 := 0) rfl rfl, (pcs_pre (fun h => by cases h) hE hS hPc hK hDc hFc)⟩ rfl rfl hl.1 rfl (lv_room (Nat.le_of_ble_eq_true rfl)) dJ5_append_cf1ce_21 ⟨Nat.le_of_ble_eq_true rfl, Nat.le_of_ble_eq_true rfl⟩) hS (fun q _ h => hFc q h) hFc (fun u_3 t H1 locs1 ht hvm hw hB hz1 hk1 hS => ?_)
  obtain ⟨v_3, cap_3, f_3⟩ := u_3
  have htx_3 : tx cap_3 cn f_3 cs := hw.1
  have hcp_3 : cn + ((sbL si).length) ≤ cap_3 := hw.2
  obtain ⟨hP, hD⟩ := aft (wr := []) (w1 := [(b, .inr (0, [.ref v_3, .int 0, .int 0, .int (nI cn)])), (v_3, .inl (cB, cap_3, .inl (ni f_3)))]) (w2 := [(b, .inr (0, [.ref v_3, .int 0, .int 0, .int (nI cn)])), (v_3, .inl (cB, cap_3, .inl (ni f_3)))]) hP hD [0, 1] [] [0, 1] rfl rfl (by decide) (by decide) hFc hk1 ht hB rfl (by decide) rfl
  clear hPc hDc hFc hk1 ht hB hz1 hvm
  generalize H1 = H at hP hS ⊢
  have hP : va_P D vwCl [(b, .inr (0, [.ref v_3, .int 0, .int 0, .int (nI cn)])), (v_3, .inl (cB, cap_3, .inl (ni f_3)))] H := hP
  have hD : va_D A [(b, .inr (0, [.ref v_3, .int 0, .int 0, .int (nI cn)])), (v_3, .inl (cB, cap_3, .inl (ni f_3)))] := hD
  have hcq : cap_3 ≤ 34 := by have := htx_3.1; omega
  refine lv_aload_n hx hb dJ5_append_cf1ce_24 rfl (lv_at hl 1 rfl) ?_
  refine lv_aload_n hx hb dJ5_append_cf1ce_25 rfl (lv_at hl 1 rfl) ?_
  refine va_get (ci := 0) (v := .int (nI cn)) (C := RJ4) (T := TJ4) (N := 4) hx hb hts in_J5_append_cf1ce_J4 hown hK hP 0 rfl rfl 3 (by decide) (hts (.fieldLink RJ5 79 "java/lang/AbstractStringBuilder" "count" "I") (by decide +kernel)) (fun _ h9 => h9) rfl dJ5_append_cf1ce_26 ?_
  refine lv_aload_n hx hb dJ5_append_cf1ce_29 rfl (lv_at hl 2 rfl) ?_
  have hPc := hP
  have hDc := hD
  have hFc := va_free (wc := [(b, .inr (0, [.ref v_3, .int 0, .int 0, .int (nI cn)])), (v_3, .inl (cB, cap_3, .inl (ni f_3)))]) hD hS hA [0, 1] rfl
  refine va_callv (va_runU (As := [.int (nI cn), .ref sk]) (rest := []) ⟨hx, hb, hml, hown, hts⟩ (c_J5_putStringAt_47b60 l D H.size cI cB b v_3 cn cap_3 f_3 cn si sk (by omega) (by omega) hsi) (va_cwU (C := RJ4) 2 hts gJ5_append_cf1ce_J5_putStringAt_47b60_u208J4 rfl rfl rfl rfl (by decide +kernel) ⟨Nat.le_of_ble_eq_true rfl, Nat.le_of_ble_eq_true rfl⟩) ⟨pcsK_blind, va_recv hK hP (ci := 0) (q0 := 0) rfl rfl, (pcsK_pre (pcs_pre (fun h => h) hE hS hPc hK hDc hFc) hSK)⟩ rfl rfl hl.1 rfl (lv_room (Nat.le_of_ble_eq_true rfl)) dJ5_append_cf1ce_30 ⟨Nat.le_of_ble_eq_true rfl, Nat.le_of_ble_eq_true rfl⟩) hS (fun q _ h => hFc q h) hFc (fun u t H1 locs1 ht hvm hw hB hz1 hk1 hS => ?_)
  obtain ⟨hP, hD⟩ := aft (wr := []) (w1 := [(b, .inr (0, [.ref v_3, .int 0, .int 0, .int (nI cn)])), (v_3, .inl (cB, cap_3, .inl (ni (va_cpy (fun j => (sbL si).getD j 0) f_3 0 cn (sbL si).length))))]) (w2 := [(b, .inr (0, [.ref v_3, .int 0, .int 0, .int (nI cn)])), (v_3, .inl (cB, cap_3, .inl (ni (va_cpy (fun j => (sbL si).getD j 0) f_3 0 cn (sbL si).length))))]) hP hD [0, 1] [] [0, 1] rfl rfl (by decide) (by decide) hFc hk1 ht hB rfl (by decide) rfl
  clear hPc hDc hFc hk1 ht hB hz1 hvm
  generalize H1 = H at hP hS ⊢
  have hP : va_P D vwCl [(b, .inr (0, [.ref v_3, .int 0, .int 0, .int (nI cn)])), (v_3, .inl (cB, cap_3, .inl (ni (va_cpy (fun j => (sbL si).getD j 0) f_3 0 cn (sbL si).length))))] H := hP
  have hD : va_D A [(b, .inr (0, [.ref v_3, .int 0, .int 0, .int (nI cn)])), (v_3, .inl (cB, cap_3, .inl (ni (va_cpy (fun j => (sbL si).getD j 0) f_3 0 cn (sbL si).length))))] := hD
  refine lv_aload_n hx hb dJ5_append_cf1ce_33 rfl (lv_at hl 1 rfl) ?_
  refine lv_dup hx hb dJ5_append_cf1ce_34 rfl ?_
  refine va_get (ci := 0) (v := .int (nI cn)) (C := RJ4) (T := TJ4) (N := 4) hx hb hts in_J5_append_cf1ce_J4 hown hK hP 0 rfl rfl 3 (by decide) (hts (.fieldLink RJ5 79 "java/lang/AbstractStringBuilder" "count" "I") (by decide +kernel)) (fun _ h9 => h9) rfl dJ5_append_cf1ce_35 ?_
  refine lv_iload_n hx hb dJ5_append_cf1ce_38 rfl (lv_at hl 0 rfl) ?_
  refine lv_iadd hx hb dJ5_append_cf1ce_39 ?_
  refine tp (show (nI cn) + (nI ((sbL si).length)) = nI (cn + ((sbL si).length)) from nI_add cn ((sbL si).length)) ?_
  refine va_put (ci := 0) (v := .int (nI (cn + ((sbL si).length)))) (ty := .int) (C := RJ4) (T := TJ4) (N := 4) hx hb hts in_J5_append_cf1ce_J4 tyJ4 tyJ4_ok nmJ4 hown hK hP hD hS 0 rfl rfl 3 (by decide) (hts (.fieldLink RJ5 79 "java/lang/AbstractStringBuilder" "count" "I") (by decide +kernel)) (fun _ h9 => h9) rfl (by decide +kernel) rfl rfl (Nat.le_of_ble_eq_true rfl) dJ5_append_cf1ce_40 (fun H locs hP hD hS => ?_)
  have hP : va_P D vwCl [(b, .inr (0, [.ref v_3, .int 0, .int 0, .int (nI (cn + ((sbL si).length)))])), (v_3, .inl (cB, cap_3, .inl (ni (va_cpy (fun j => (sbL si).getD j 0) f_3 0 cn (sbL si).length))))] H := hP
  have hD : va_D A [(b, .inr (0, [.ref v_3, .int 0, .int 0, .int (nI (cn + ((sbL si).length)))])), (v_3, .inl (cB, cap_3, .inl (ni (va_cpy (fun j => (sbL si).getD j 0) f_3 0 cn (sbL si).length))))] := hD
  refine lv_aload_n hx hb dJ5_append_cf1ce_43 rfl (lv_at hl 1 rfl) ?_
  refine W.widen (k := 1) (n := 34) (Nat.le_of_ble_eq_true rfl) (Nat.le_of_ble_eq_true rfl) ?_
  have hP9 := hP.sub (ws' := [(b, .inr (0, [.ref v_3, .int 0, .int 0, .int (nI (cn + ((sbL si).length)))])), (v_3, .inl (cB, cap_3, .inl (ni (va_cpy (fun j => (sbL si).getD j 0) f_3 0 cn (sbL si).length))))]) [0, 1] rfl
  have hD9 := hD.sub (ws' := [(b, .inr (0, [.ref v_3, .int 0, .int 0, .int (nI (cn + ((sbL si).length)))])), (v_3, .inl (cB, cap_3, .inl (ni (va_cpy (fun j => (sbL si).getD j 0) f_3 0 cn (sbL si).length))))]) [0, 1] (by decide) rfl
  exact W.aret (v := .ref b) hx hb hr (Or.inl ⟨_, rfl⟩) (Or.inr ⟨_, rfl⟩) (fun t ht hW => lfxr (v_3, cap_3, (va_cpy (fun j => (sbL si).getD j 0) f_3 0 cn (sbL si).length)) rfl (tx_str htx_3 hsi (by omega)) hP9 hK hD9 hS ht hW) hS.2.2 dJ5_append_cf1ce_44 hlocks
set_option maxRecDepth 20000 in
theorem in_J5_init_d00df_J4 : ∀ w ∈ u_ws RJ4 TJ4 4, w ∈ wsJ5_init_d00df := by decide +kernel
set_option maxHeartbeats 4000000 in
set_option maxRecDepth 100000 in
theorem c_J5_init_d00df (l : Launch) (D : va_G) (sz : Nat) (cI : ClassId) (cB : ClassId) (b : Nat)  : CT l yJ5_init_d00df wsJ5_init_d00df ({ frames := 1, cells := 1, slots := 16, locals := 24 }) true D ([(cI, .int), (cB, .byte)]) [(b, .inr (0, [.null, .int 0, .int 0, .int 0]))] sz [.ref b, .int 16] (qxv D ([(cI, .int), (cB, .byte)]) (fun u => tx u.2.1 0 u.2.2 ([])) (fun u => [(b, .inr (0, [.ref u.1, .int 0, .int 0, .int 0])), (u.1, .inl (cB, u.2.1, .inl (ni u.2.2)))])) 1 16 := by
  refine CT.of (cc := cJ5_init_d00df) (maxL := 2) (ret := none) (by decide) rfl (Nat.le_of_ble_eq_true rfl) ?_
  intro A p e s m args below meth c ls H locs En0 argsE hP hK hD hE hA hS hl
  obtain ⟨hx, hb, hr, hml, hown, hts, hlocks, hin⟩ := En0
  have hEw := (hE rfl).1
  have hP : va_P D vwCl [(b, .inr (0, [.null, .int 0, .int 0, .int 0]))] H := hP
  have hD : va_D A [(b, .inr (0, [.null, .int 0, .int 0, .int 0]))] := hD
  have hl : lv_has ls 2 [(0, .ref b), (1, .int 16)] := hl
  obtain ⟨hz0, hcs, hOn, hTn, hstr⟩ := (hE rfl).2.2
  refine lv_aload_n hx hb dJ5_init_d00df_0 rfl (lv_at hl 0 rfl) ?_
  refine W.objInit hx hb hown (hts (.methodLink RJ5 3 objectInit) (by decide +kernel)) (hts (.instanceMethod objectInit) (by decide +kernel)) (hts (.code objectInit ⟨#[0xb1]⟩ 1 none) (by decide +kernel)) rfl (by rw [hml]; exact hl.1) rfl dJ5_init_d00df_1 (Nat.le_of_ble_eq_true rfl) (Nat.le_of_ble_eq_true rfl) ?_
  refine W.eq (g2 := F0 m 4 ls []) rfl ?_
  refine va_gets hx hb hcs hS hown (hts (.fieldLink RJ5 18 "java/lang/String" "COMPACT_STRINGS" "Z") (by decide +kernel)) (fun _ h => h) dJ5_init_d00df_4 ?_
  refine lv_if_eq (tgt := 25) hx hb dJ5_init_d00df_7 (by decide) (fun c_1 => ?_) (fun c_1 => ?_)
  · exact absurd c_1 (by decide)
  · refine lv_aload_n hx hb dJ5_init_d00df_10 rfl (lv_at hl 0 rfl) ?_
    refine lv_iload_n hx hb dJ5_init_d00df_11 rfl (lv_at hl 1 rfl) ?_
    refine newI (atype := .byte) (ty := .byte) (cA := cB) (t0 := 1) (a0 := (16, .inl (ni (fun _ => 0)))) (N' := 16) hx hb (hts (.arrayClass .byte) (by decide +kernel)) rfl hK rfl (fun c h => h) hP hD hS hA (fun _ => rfl) (by decide) (by decide) (by decide) (Nat.le_of_ble_eq_true rfl) (Nat.le_of_ble_eq_true rfl) dJ5_init_d00df_12 (fun q_2 H hP hD hS => ?_)
    have hP : va_P D vwCl [(b, .inr (0, [.null, .int 0, .int 0, .int 0])), (q_2, .inl (cB, 16, .inl (ni (fun _ => 0))))] H := hP
    have hD : va_D A [(b, .inr (0, [.null, .int 0, .int 0, .int 0])), (q_2, .inl (cB, 16, .inl (ni (fun _ => 0))))] := hD
    refine va_put (ci := 0) (v := .ref q_2) (ty := (tyJ4 0)) (C := RJ4) (T := TJ4) (N := 4) hx hb hts in_J5_init_d00df_J4 tyJ4 tyJ4_ok nmJ4 hown hK hP hD hS 0 rfl rfl 0 (by decide) (hts (.fieldLink RJ5 15 "java/lang/AbstractStringBuilder" "value" "[B") (by decide +kernel)) (fun _ h9 => h9) rfl (by decide +kernel) rfl rfl (Nat.le_of_ble_eq_true rfl) dJ5_init_d00df_14 (fun H locs hP hD hS => ?_)
    have hP : va_P D vwCl [(b, .inr (0, [.ref q_2, .int 0, .int 0, .int 0])), (q_2, .inl (cB, 16, .inl (ni (fun _ => 0))))] H := hP
    have hD : va_D A [(b, .inr (0, [.ref q_2, .int 0, .int 0, .int 0])), (q_2, .inl (cB, 16, .inl (ni (fun _ => 0))))] := hD
    refine lv_aload_n hx hb dJ5_init_d00df_17 rfl (lv_at hl 0 rfl) ?_
    refine lv_iconst (v := 0) hx hb dJ5_init_d00df_18 (by decide) ?_
    refine va_put (ci := 0) (v := .int 0) (ty := .byte) (C := RJ4) (T := TJ4) (N := 4) hx hb hts in_J5_init_d00df_J4 tyJ4 tyJ4_ok nmJ4 hown hK hP hD hS 0 rfl rfl 1 (by decide) (hts (.fieldLink RJ5 22 "java/lang/AbstractStringBuilder" "coder" "B") (by decide +kernel)) (fun _ h9 => h9) rfl (by decide +kernel) rfl rfl (Nat.le_of_ble_eq_true rfl) dJ5_init_d00df_19 (fun H locs hP hD hS => ?_)
    have hP : va_P D vwCl [(b, .inr (0, [.ref q_2, .int 0, .int 0, .int 0])), (q_2, .inl (cB, 16, .inl (ni (fun _ => 0))))] H := hP
    have hD : va_D A [(b, .inr (0, [.ref q_2, .int 0, .int 0, .int 0])), (q_2, .inl (cB, 16, .inl (ni (fun _ => 0))))] := hD
    refine lv_goto (tgt := 38) hx hb dJ5_init_d00df_22 (by decide) ?_
    refine W.widen (k := 1) (n := 16) (Nat.le_of_ble_eq_true rfl) (Nat.le_of_ble_eq_true rfl) ?_
    have hP9 := hP.sub (ws' := [(b, .inr (0, [.ref q_2, .int 0, .int 0, .int 0])), (q_2, .inl (cB, 16, .inl (ni (fun _ => 0))))]) [0, 1] rfl
    have hD9 := hD.sub (ws' := [(b, .inr (0, [.ref q_2, .int 0, .int 0, .int 0])), (q_2, .inl (cB, 16, .inl (ni (fun _ => 0))))]) [0, 1] (by decide) rfl
    exact W.vret hx hb hr (fun t ht hW => lfxv (q_2, 16, (fun _ => 0)) tx_0 hP9 hK hD9 hS ht hW) hS.2.2 dJ5_init_d00df_38 hlocks
set_option maxHeartbeats 4000000 in
set_option maxRecDepth 100000 in
theorem c_J4_init_da8c8 (l : Launch) (D : va_G) (sz : Nat) (cI : ClassId) (cB : ClassId) (b : Nat)  : CT l yJ4_init_da8c8 wsJ4_init_da8c8 ({ frames := 2, cells := 1, slots := 16, locals := 45 }) true D ([(cI, .int), (cB, .byte)]) [(b, .inr (0, [.null, .int 0, .int 0, .int 0]))] sz [.ref b] (qxv D ([(cI, .int), (cB, .byte)]) (fun u => tx u.2.1 0 u.2.2 ([])) (fun u => [(b, .inr (0, [.ref u.1, .int 0, .int 0, .int 0])), (u.1, .inl (cB, u.2.1, .inl (ni u.2.2)))])) 1 16 := by
  refine CT.of (cc := cJ4_init_da8c8) (maxL := 1) (ret := none) (by decide) rfl (Nat.le_of_ble_eq_true rfl) ?_
  intro A p e s m args below meth c ls H locs En0 argsE hP hK hD hE hA hS hl
  obtain ⟨hx, hb, hr, hml, hown, hts, hlocks, hin⟩ := En0
  have hEw := (hE rfl).1
  have hP : va_P D vwCl [(b, .inr (0, [.null, .int 0, .int 0, .int 0]))] H := hP
  have hD : va_D A [(b, .inr (0, [.null, .int 0, .int 0, .int 0]))] := hD
  have hl : lv_has ls 1 [(0, .ref b)] := hl
  refine lv_aload_n hx hb dJ4_init_da8c8_0 rfl (lv_at hl 0 rfl) ?_
  refine lv_bipush (v := 16) hx hb dJ4_init_da8c8_1 (by decide) ?_
  have hPc := hP
  have hDc := hD
  have hFc := va_free (wc := [(b, .inr (0, [.null, .int 0, .int 0, .int 0]))]) hD hS hA [0] rfl
  refine va_callv (va_runI (As := [.int 16]) (rest := []) ⟨hx, hb, hml, hown, hts⟩ (c_J5_init_d00df l D H.size cI cB b) (cwI 1 hts ggJ4_init_da8c8_J5_init_d00df rfl rfl rfl (hts (.initialized RJ5) (by decide +kernel)) (hts (.methodLink RJ4 1 yJ5_init_d00df) (by decide +kernel)) (hts (.instanceMethod yJ5_init_d00df) (by decide +kernel)) rfl (by decide +kernel) ⟨Nat.le_of_ble_eq_true rfl, Nat.le_of_ble_eq_true rfl⟩) ⟨pcs_blind, (pcs_pre (fun h => h) hE hS hPc hK hDc hFc)⟩ rfl rfl hl.1 rfl (lv_room (Nat.le_of_ble_eq_true rfl)) dJ4_init_da8c8_3 ⟨Nat.le_of_ble_eq_true rfl, Nat.le_of_ble_eq_true rfl⟩) hS (fun q _ h => hFc q h) hFc (fun u_2 t H1 locs1 ht hvm hw hB hz1 hk1 hS => ?_)
  obtain ⟨v_2, cap_2, f_2⟩ := u_2
  have htx_2 : tx cap_2 0 f_2 ([]) := hw
  obtain ⟨hP, hD⟩ := aft (wr := []) (w1 := [(b, .inr (0, [.ref v_2, .int 0, .int 0, .int 0])), (v_2, .inl (cB, cap_2, .inl (ni f_2)))]) (w2 := [(b, .inr (0, [.ref v_2, .int 0, .int 0, .int 0])), (v_2, .inl (cB, cap_2, .inl (ni f_2)))]) hP hD [0] [] [0, 1] rfl rfl (by decide) (by decide) hFc hk1 ht hB rfl (by decide) rfl
  clear hPc hDc hFc hk1 ht hB hz1 hvm
  generalize H1 = H at hP hS ⊢
  have hP : va_P D vwCl [(b, .inr (0, [.ref v_2, .int 0, .int 0, .int 0])), (v_2, .inl (cB, cap_2, .inl (ni f_2)))] H := hP
  have hD : va_D A [(b, .inr (0, [.ref v_2, .int 0, .int 0, .int 0])), (v_2, .inl (cB, cap_2, .inl (ni f_2)))] := hD
  refine W.widen (k := 1) (n := 16) (Nat.le_of_ble_eq_true rfl) (Nat.le_of_ble_eq_true rfl) ?_
  have hP9 := hP.sub (ws' := [(b, .inr (0, [.ref v_2, .int 0, .int 0, .int 0])), (v_2, .inl (cB, cap_2, .inl (ni f_2)))]) [0, 1] rfl
  have hD9 := hD.sub (ws' := [(b, .inr (0, [.ref v_2, .int 0, .int 0, .int 0])), (v_2, .inl (cB, cap_2, .inl (ni f_2)))]) [0, 1] (by decide) rfl
  exact W.vret hx hb hr (fun t ht hW => lfxv (v_2, cap_2, f_2) htx_2 hP9 hK hD9 hS ht hW) hS.2.2 dJ4_init_da8c8_6 hlocks
set_option maxHeartbeats 4000000 in
set_option maxRecDepth 100000 in
theorem c_J4_append_bf812 (l : Launch) (D : va_G) (sz : Nat) (cI : ClassId) (cB : ClassId) (b : Nat) (v : Nat) (cap : Nat) (cn : Nat) (f : Nat → Nat) (cs : List Nat) (nv : Nat) (htx : tx cap cn f cs) (hnv : nv < 1000) (hca : cn + 3 ≤ 34) : CT l yJ4_append_bf812 wsJ4_append_bf812 ({ frames := 5, cells := 1, slots := 34, locals := 127 }) true D ([(cI, .int), (cB, .byte)]) [(b, .inr (0, [.ref v, .int 0, .int 0, .int (nI cn)])), (v, .inl (cB, cap, .inl (ni f)))] sz [.ref b, .int (nI nv)] (qxr D ([(cI, .int), (cB, .byte)]) (fun u => tx u.2.1 (cn + rDig nv) u.2.2 (cs ++ dgs nv)) b (fun u => [(b, .inr (0, [.ref u.1, .int 0, .int 0, .int (nI (cn + rDig nv))])), (u.1, .inl (cB, u.2.1, .inl (ni u.2.2)))])) 1 34 := by
  refine CT.of (cc := cJ4_append_bf812) (maxL := 2) (ret := (some (.object "java/lang/StringBuilder"))) (by decide) rfl (Nat.le_of_ble_eq_true rfl) ?_
  intro A p e s m args below meth c ls H locs En0 argsE hP hK hD hE hA hS hl
  obtain ⟨hx, hb, hr, hml, hown, hts, hlocks, hin⟩ := En0
  have hEw := (hE rfl).1
  have hP : va_P D vwCl [(b, .inr (0, [.ref v, .int 0, .int 0, .int (nI cn)])), (v, .inl (cB, cap, .inl (ni f)))] H := hP
  have hD : va_D A [(b, .inr (0, [.ref v, .int 0, .int 0, .int (nI cn)])), (v, .inl (cB, cap, .inl (ni f)))] := hD
  have hl : lv_has ls 2 [(0, .ref b), (1, .int (nI nv))] := hl
  refine lv_aload_n hx hb dJ4_append_bf812_0 rfl (lv_at hl 0 rfl) ?_
  refine lv_iload_n hx hb dJ4_append_bf812_1 rfl (lv_at hl 1 rfl) ?_
  have hPc := hP
  have hDc := hD
  have hFc := va_free (wc := [(b, .inr (0, [.ref v, .int 0, .int 0, .int (nI cn)])), (v, .inl (cB, cap, .inl (ni f)))]) hD hS hA [0, 1] rfl
  refine va_callr (va_runSU (C := RJ4) (As := [.int (nI nv)]) (rest := []) (hK.1 0 _ rfl).2 ⟨hx, hb, hml, hown, hts⟩ (c_J5_append_c97b9 l D H.size cI cB b v cap cn f cs nv htx (by omega) (by omega)) (va_cwSU 1 hts gJ4_append_bf812_J5_append_c97b9_s53 rfl rfl rfl (by decide +kernel) ⟨Nat.le_of_ble_eq_true rfl, Nat.le_of_ble_eq_true rfl⟩) ⟨pcs_blind, va_recv hK hP (ci := 0) (q0 := 0) rfl rfl, (pcs_pre (fun h => h) hE hS hPc hK hDc hFc)⟩ rfl rfl hl.1 rfl (lv_room (Nat.le_of_ble_eq_true rfl)) dJ4_append_bf812_2 ⟨Nat.le_of_ble_eq_true rfl, Nat.le_of_ble_eq_true rfl⟩) hS (fun q _ h => hFc q h) hFc (fun u_2 r_1 t H1 locs1 ht hvm hw hB hz1 hk1 hS => ?_)
  obtain ⟨v_2, cap_2, f_2⟩ := u_2
  obtain ⟨hw1, hB⟩ := hB
  have hw1 : r_1 = b := hw1
  rw [hw1]
  have htx_2 : tx cap_2 (cn + rDig nv) f_2 (cs ++ dgs nv) := hw
  obtain ⟨hP, hD⟩ := aft (wr := []) (w1 := [(b, .inr (0, [.ref v_2, .int 0, .int 0, .int (nI (cn + rDig nv))])), (v_2, .inl (cB, cap_2, .inl (ni f_2)))]) (w2 := [(b, .inr (0, [.ref v_2, .int 0, .int 0, .int (nI (cn + rDig nv))])), (v_2, .inl (cB, cap_2, .inl (ni f_2)))]) hP hD [0, 1] [] [0, 1] rfl rfl (by decide) (by decide) hFc hk1 ht hB rfl (by decide) rfl
  clear hPc hDc hFc hk1 ht hB hz1 hvm
  generalize H1 = H at hP hS ⊢
  have hP : va_P D vwCl [(b, .inr (0, [.ref v_2, .int 0, .int 0, .int (nI (cn + rDig nv))])), (v_2, .inl (cB, cap_2, .inl (ni f_2)))] H := hP
  have hD : va_D A [(b, .inr (0, [.ref v_2, .int 0, .int 0, .int (nI (cn + rDig nv))])), (v_2, .inl (cB, cap_2, .inl (ni f_2)))] := hD
  refine lv_pop hx hb dJ4_append_bf812_5 rfl ?_
  refine lv_aload_n hx hb dJ4_append_bf812_6 rfl (lv_at hl 0 rfl) ?_
  refine W.widen (k := 1) (n := 34) (Nat.le_of_ble_eq_true rfl) (Nat.le_of_ble_eq_true rfl) ?_
  have hP9 := hP.sub (ws' := [(b, .inr (0, [.ref v_2, .int 0, .int 0, .int (nI (cn + rDig nv))])), (v_2, .inl (cB, cap_2, .inl (ni f_2)))]) [0, 1] rfl
  have hD9 := hD.sub (ws' := [(b, .inr (0, [.ref v_2, .int 0, .int 0, .int (nI (cn + rDig nv))])), (v_2, .inl (cB, cap_2, .inl (ni f_2)))]) [0, 1] (by decide) rfl
  exact W.aret (v := .ref b) hx hb hr (Or.inl ⟨_, rfl⟩) (Or.inr ⟨_, rfl⟩) (fun t ht hW => lfxr (v_2, cap_2, f_2) rfl htx_2 hP9 hK hD9 hS ht hW) hS.2.2 dJ4_append_bf812_7 hlocks
set_option maxHeartbeats 4000000 in
set_option maxRecDepth 100000 in
theorem c_J4_append_cf468 (l : Launch) (D : va_G) (sz : Nat) (cI : ClassId) (cB : ClassId) (b : Nat) (v : Nat) (cap : Nat) (cn : Nat) (f : Nat → Nat) (cs : List Nat) (cv : Nat) (htx : tx cap cn f cs) (hcv : cv < 128) (hca : cn + 1 ≤ 34) : CT l yJ4_append_cf468 wsJ4_append_cf468 ({ frames := 5, cells := 1, slots := 34, locals := 125 }) true D ([(cI, .int), (cB, .byte)]) [(b, .inr (0, [.ref v, .int 0, .int 0, .int (nI cn)])), (v, .inl (cB, cap, .inl (ni f)))] sz [.ref b, .int (nI cv)] (qxr D ([(cI, .int), (cB, .byte)]) (fun u => tx u.2.1 (cn + 1) u.2.2 (cs ++ [cv])) b (fun u => [(b, .inr (0, [.ref u.1, .int 0, .int 0, .int (nI (cn + 1))])), (u.1, .inl (cB, u.2.1, .inl (ni u.2.2)))])) 1 34 := by
  refine CT.of (cc := cJ4_append_cf468) (maxL := 2) (ret := (some (.object "java/lang/StringBuilder"))) (by decide) rfl (Nat.le_of_ble_eq_true rfl) ?_
  intro A p e s m args below meth c ls H locs En0 argsE hP hK hD hE hA hS hl
  obtain ⟨hx, hb, hr, hml, hown, hts, hlocks, hin⟩ := En0
  have hEw := (hE rfl).1
  have hP : va_P D vwCl [(b, .inr (0, [.ref v, .int 0, .int 0, .int (nI cn)])), (v, .inl (cB, cap, .inl (ni f)))] H := hP
  have hD : va_D A [(b, .inr (0, [.ref v, .int 0, .int 0, .int (nI cn)])), (v, .inl (cB, cap, .inl (ni f)))] := hD
  have hl : lv_has ls 2 [(0, .ref b), (1, .int (nI cv))] := hl
  refine lv_aload_n hx hb dJ4_append_cf468_0 rfl (lv_at hl 0 rfl) ?_
  refine lv_iload_n hx hb dJ4_append_cf468_1 rfl (lv_at hl 1 rfl) ?_
  have hPc := hP
  have hDc := hD
  have hFc := va_free (wc := [(b, .inr (0, [.ref v, .int 0, .int 0, .int (nI cn)])), (v, .inl (cB, cap, .inl (ni f)))]) hD hS hA [0, 1] rfl
  refine va_callr (va_runSU (C := RJ4) (As := [.int (nI cv)]) (rest := []) (hK.1 0 _ rfl).2 ⟨hx, hb, hml, hown, hts⟩ (c_J5_append_3fe6f l D H.size cI cB b v cap cn f cs cv htx (by omega) (by omega)) (va_cwSU 1 hts gJ4_append_cf468_J5_append_3fe6f_s50 rfl rfl rfl (by decide +kernel) ⟨Nat.le_of_ble_eq_true rfl, Nat.le_of_ble_eq_true rfl⟩) ⟨pcs_blind, va_recv hK hP (ci := 0) (q0 := 0) rfl rfl, (pcs_pre (fun h => h) hE hS hPc hK hDc hFc)⟩ rfl rfl hl.1 rfl (lv_room (Nat.le_of_ble_eq_true rfl)) dJ4_append_cf468_2 ⟨Nat.le_of_ble_eq_true rfl, Nat.le_of_ble_eq_true rfl⟩) hS (fun q _ h => hFc q h) hFc (fun u_2 r_1 t H1 locs1 ht hvm hw hB hz1 hk1 hS => ?_)
  obtain ⟨v_2, cap_2, f_2⟩ := u_2
  obtain ⟨hw1, hB⟩ := hB
  have hw1 : r_1 = b := hw1
  rw [hw1]
  have htx_2 : tx cap_2 (cn + 1) f_2 (cs ++ [cv]) := hw
  obtain ⟨hP, hD⟩ := aft (wr := []) (w1 := [(b, .inr (0, [.ref v_2, .int 0, .int 0, .int (nI (cn + 1))])), (v_2, .inl (cB, cap_2, .inl (ni f_2)))]) (w2 := [(b, .inr (0, [.ref v_2, .int 0, .int 0, .int (nI (cn + 1))])), (v_2, .inl (cB, cap_2, .inl (ni f_2)))]) hP hD [0, 1] [] [0, 1] rfl rfl (by decide) (by decide) hFc hk1 ht hB rfl (by decide) rfl
  clear hPc hDc hFc hk1 ht hB hz1 hvm
  generalize H1 = H at hP hS ⊢
  have hP : va_P D vwCl [(b, .inr (0, [.ref v_2, .int 0, .int 0, .int (nI (cn + 1))])), (v_2, .inl (cB, cap_2, .inl (ni f_2)))] H := hP
  have hD : va_D A [(b, .inr (0, [.ref v_2, .int 0, .int 0, .int (nI (cn + 1))])), (v_2, .inl (cB, cap_2, .inl (ni f_2)))] := hD
  refine lv_pop hx hb dJ4_append_cf468_5 rfl ?_
  refine lv_aload_n hx hb dJ4_append_cf468_6 rfl (lv_at hl 0 rfl) ?_
  refine W.widen (k := 1) (n := 34) (Nat.le_of_ble_eq_true rfl) (Nat.le_of_ble_eq_true rfl) ?_
  have hP9 := hP.sub (ws' := [(b, .inr (0, [.ref v_2, .int 0, .int 0, .int (nI (cn + 1))])), (v_2, .inl (cB, cap_2, .inl (ni f_2)))]) [0, 1] rfl
  have hD9 := hD.sub (ws' := [(b, .inr (0, [.ref v_2, .int 0, .int 0, .int (nI (cn + 1))])), (v_2, .inl (cB, cap_2, .inl (ni f_2)))]) [0, 1] (by decide) rfl
  exact W.aret (v := .ref b) hx hb hr (Or.inl ⟨_, rfl⟩) (Or.inr ⟨_, rfl⟩) (fun t ht hW => lfxr (v_2, cap_2, f_2) rfl htx_2 hP9 hK hD9 hS ht hW) hS.2.2 dJ4_append_cf468_7 hlocks
set_option maxHeartbeats 4000000 in
set_option maxRecDepth 100000 in
theorem c_J4_append_15ec4 (l : Launch) (D : va_G) (sz : Nat) (cI : ClassId) (cB : ClassId) (b : Nat) (v : Nat) (cap : Nat) (cn : Nat) (f : Nat → Nat) (cs : List Nat) (si : Nat) (sk : Nat) (htx : tx cap cn f cs) (hca : cn + 9 ≤ 34) (hsi : si < 9) : CTK l yJ4_append_15ec4 wsJ4_append_15ec4 ({ frames := 5, cells := 1, slots := 34, locals := 127 }) true D ([(cI, .int), (cB, .byte)]) [(b, .inr (0, [.ref v, .int 0, .int 0, .int (nI cn)])), (v, .inl (cB, cap, .inl (ni f)))] sz si sk [.ref b, .ref sk] (qxr D ([(cI, .int), (cB, .byte)]) (fun u => tx u.2.1 (cn + (sbL si).length) u.2.2 (cs ++ sbL si)) b (fun u => [(b, .inr (0, [.ref u.1, .int 0, .int 0, .int (nI (cn + (sbL si).length))])), (u.1, .inl (cB, u.2.1, .inl (ni u.2.2)))])) 1 34 := by
  refine CTK.of (cc := cJ4_append_15ec4) (maxL := 2) (ret := (some (.object "java/lang/StringBuilder"))) (by decide) rfl (Nat.le_of_ble_eq_true rfl) ?_
  intro A p e s m args below meth c ls H locs En0 hSK argsE hP hK hD hE hA hS hl
  obtain ⟨hx, hb, hr, hml, hown, hts, hlocks, hin⟩ := En0
  have hEw := (hE rfl).1
  have hP : va_P D vwCl [(b, .inr (0, [.ref v, .int 0, .int 0, .int (nI cn)])), (v, .inl (cB, cap, .inl (ni f)))] H := hP
  have hD : va_D A [(b, .inr (0, [.ref v, .int 0, .int 0, .int (nI cn)])), (v, .inl (cB, cap, .inl (ni f)))] := hD
  have hl : lv_has ls 2 [(0, .ref b), (1, .ref sk)] := hl
  obtain ⟨hz0, hcs, hOn, hTn, hstr⟩ := (hE rfl).2.2
  obtain ⟨sv, hsO, hsC, hsV, hsT⟩ := strK_S (hE rfl).2.2 hSK hsi
  have hsl : (sbL si).length ≤ 9 := (sb_2 si hsi).2
  refine lv_aload_n hx hb dJ4_append_15ec4_0 rfl (lv_at hl 0 rfl) ?_
  refine lv_aload_n hx hb dJ4_append_15ec4_1 rfl (lv_at hl 1 rfl) ?_
  have hPc := hP
  have hDc := hD
  have hFc := va_free (wc := [(b, .inr (0, [.ref v, .int 0, .int 0, .int (nI cn)])), (v, .inl (cB, cap, .inl (ni f)))]) hD hS hA [0, 1] rfl
  refine va_callr (va_runSU (C := RJ4) (As := [.ref sk]) (rest := []) (hK.1 0 _ rfl).2 ⟨hx, hb, hml, hown, hts⟩ (c_J5_append_cf1ce l D H.size cI cB b v cap cn f cs si sk htx (by omega) hsi) (va_cwSU 1 hts gJ4_append_15ec4_J5_append_cf1ce_s29 rfl rfl rfl (by decide +kernel) ⟨Nat.le_of_ble_eq_true rfl, Nat.le_of_ble_eq_true rfl⟩) ⟨pcsK_blind, va_recv hK hP (ci := 0) (q0 := 0) rfl rfl, (pcsK_pre (pcs_pre (fun h => h) hE hS hPc hK hDc hFc) hSK)⟩ rfl rfl hl.1 rfl (lv_room (Nat.le_of_ble_eq_true rfl)) dJ4_append_15ec4_2 ⟨Nat.le_of_ble_eq_true rfl, Nat.le_of_ble_eq_true rfl⟩) hS (fun q _ h => hFc q h) hFc (fun u_2 r_1 t H1 locs1 ht hvm hw hB hz1 hk1 hS => ?_)
  obtain ⟨v_2, cap_2, f_2⟩ := u_2
  obtain ⟨hw1, hB⟩ := hB
  have hw1 : r_1 = b := hw1
  rw [hw1]
  have htx_2 : tx cap_2 (cn + (sbL si).length) f_2 (cs ++ sbL si) := hw
  obtain ⟨hP, hD⟩ := aft (wr := []) (w1 := [(b, .inr (0, [.ref v_2, .int 0, .int 0, .int (nI (cn + (sbL si).length))])), (v_2, .inl (cB, cap_2, .inl (ni f_2)))]) (w2 := [(b, .inr (0, [.ref v_2, .int 0, .int 0, .int (nI (cn + (sbL si).length))])), (v_2, .inl (cB, cap_2, .inl (ni f_2)))]) hP hD [0, 1] [] [0, 1] rfl rfl (by decide) (by decide) hFc hk1 ht hB rfl (by decide) rfl
  clear hPc hDc hFc hk1 ht hB hz1 hvm
  generalize H1 = H at hP hS ⊢
  have hP : va_P D vwCl [(b, .inr (0, [.ref v_2, .int 0, .int 0, .int (nI (cn + (sbL si).length))])), (v_2, .inl (cB, cap_2, .inl (ni f_2)))] H := hP
  have hD : va_D A [(b, .inr (0, [.ref v_2, .int 0, .int 0, .int (nI (cn + (sbL si).length))])), (v_2, .inl (cB, cap_2, .inl (ni f_2)))] := hD
  refine lv_pop hx hb dJ4_append_15ec4_5 rfl ?_
  refine lv_aload_n hx hb dJ4_append_15ec4_6 rfl (lv_at hl 0 rfl) ?_
  refine W.widen (k := 1) (n := 34) (Nat.le_of_ble_eq_true rfl) (Nat.le_of_ble_eq_true rfl) ?_
  have hP9 := hP.sub (ws' := [(b, .inr (0, [.ref v_2, .int 0, .int 0, .int (nI (cn + (sbL si).length))])), (v_2, .inl (cB, cap_2, .inl (ni f_2)))]) [0, 1] rfl
  have hD9 := hD.sub (ws' := [(b, .inr (0, [.ref v_2, .int 0, .int 0, .int (nI (cn + (sbL si).length))])), (v_2, .inl (cB, cap_2, .inl (ni f_2)))]) [0, 1] (by decide) rfl
  exact W.aret (v := .ref b) hx hb hr (Or.inl ⟨_, rfl⟩) (Or.inr ⟨_, rfl⟩) (fun t ht hW => lfxr (v_2, cap_2, f_2) rfl htx_2 hP9 hK hD9 hS ht hW) hS.2.2 dJ4_append_15ec4_7 hlocks
set_option maxRecDepth 20000 in
theorem in_J5_length_8abf5_J4 : ∀ w ∈ u_ws RJ4 TJ4 4, w ∈ wsJ5_length_8abf5 := by decide +kernel
set_option maxHeartbeats 4000000 in
set_option maxRecDepth 100000 in
theorem c_J5_length_8abf5 (l : Launch) (D : va_G) (sz : Nat) (cI : ClassId) (cB : ClassId) (b : Nat) (v : Nat) (cn : Nat)  : CT l yJ5_length_8abf5 wsJ5_length_8abf5 ({ frames := 0, cells := 0, slots := 0, locals := 0 }) false D ([(cI, .int), (cB, .byte)]) [(b, .inr (0, [.ref v, .int 0, .int 0, .int (nI cn)]))] sz [.ref b] (qi D ([(cI, .int), (cB, .byte)]) (fun r => r = nI cn) [(b, .inr (0, [.ref v, .int 0, .int 0, .int (nI cn)]))]) 0 0 := by
  refine CT.of (cc := cJ5_length_8abf5) (maxL := 1) (ret := (some .int)) (by decide) rfl (Nat.le_of_ble_eq_true rfl) ?_
  intro A p e s m args below meth c ls H locs En0 argsE hP hK hD hE hA hS hl
  obtain ⟨hx, hb, hr, hml, hown, hts, hlocks, hin⟩ := En0
  have hP : va_P D vwCl [(b, .inr (0, [.ref v, .int 0, .int 0, .int (nI cn)]))] H := hP
  have hD : va_D A [(b, .inr (0, [.ref v, .int 0, .int 0, .int (nI cn)]))] := hD
  have hl : lv_has ls 1 [(0, .ref b)] := hl
  refine lv_aload_n hx hb dJ5_length_8abf5_0 rfl (lv_at hl 0 rfl) ?_
  refine va_get (ci := 0) (v := .int (nI cn)) (C := RJ4) (T := TJ4) (N := 4) hx hb hts in_J5_length_8abf5_J4 hown hK hP 0 rfl rfl 3 (by decide) (hts (.fieldLink RJ5 79 "java/lang/AbstractStringBuilder" "count" "I") (by decide +kernel)) (fun _ h9 => h9) rfl dJ5_length_8abf5_1 ?_
  exact W.iret (v := nI cn) hx hb hr (fun t ht hW => lfe rfl hP hK hD hS ht hW) hS.2.2 dJ5_length_8abf5_4 hlocks
set_option maxHeartbeats 4000000 in
set_option maxRecDepth 100000 in
theorem c_J4_length_8abf5 (l : Launch) (D : va_G) (sz : Nat) (cI : ClassId) (cB : ClassId) (b : Nat) (v : Nat) (cn : Nat)  : CT l yJ4_length_8abf5 wsJ4_length_8abf5 ({ frames := 1, cells := 0, slots := 0, locals := 20 }) false D ([(cI, .int), (cB, .byte)]) [(b, .inr (0, [.ref v, .int 0, .int 0, .int (nI cn)]))] sz [.ref b] (qi D ([(cI, .int), (cB, .byte)]) (fun r => r = nI cn) [(b, .inr (0, [.ref v, .int 0, .int 0, .int (nI cn)]))]) 0 0 := by
  refine CT.of (cc := cJ4_length_8abf5) (maxL := 1) (ret := (some .int)) (by decide) rfl (Nat.le_of_ble_eq_true rfl) ?_
  intro A p e s m args below meth c ls H locs En0 argsE hP hK hD hE hA hS hl
  obtain ⟨hx, hb, hr, hml, hown, hts, hlocks, hin⟩ := En0
  have hP : va_P D vwCl [(b, .inr (0, [.ref v, .int 0, .int 0, .int (nI cn)]))] H := hP
  have hD : va_D A [(b, .inr (0, [.ref v, .int 0, .int 0, .int (nI cn)]))] := hD
  have hl : lv_has ls 1 [(0, .ref b)] := hl
  refine lv_aload_n hx hb dJ4_length_8abf5_0 rfl (lv_at hl 0 rfl) ?_
  have hPc := hP
  have hDc := hD
  have hFc := va_free (wc := [(b, .inr (0, [.ref v, .int 0, .int 0, .int (nI cn)]))]) hD hS hA [0] rfl
  refine va_calli (va_runSU (C := RJ4) (As := []) (rest := []) (hK.1 0 _ rfl).2 ⟨hx, hb, hml, hown, hts⟩ (c_J5_length_8abf5 l D H.size cI cB b v cn) (va_cwSU 0 hts gJ4_length_8abf5_J5_length_8abf5_s343 rfl rfl rfl (by decide +kernel) ⟨Nat.le_of_ble_eq_true rfl, Nat.le_of_ble_eq_true rfl⟩) ⟨pcs_blind, va_recv hK hP (ci := 0) (q0 := 0) rfl rfl, (pcs_pre (fun h => h) hE hS hPc hK hDc hFc)⟩ rfl rfl hl.1 rfl (lv_room (Nat.le_of_ble_eq_true rfl)) dJ4_length_8abf5_1 ⟨Nat.le_of_ble_eq_true rfl, Nat.le_of_ble_eq_true rfl⟩) hS (fun q _ h => hFc q h) hFc (fun r_1 u t H1 locs1 ht hvm hw hB hz1 hk1 hS => ?_)
  have hw : r_1 = nI cn := hw
  subst hw
  obtain ⟨hP, hD⟩ := aftW hFc ht hB
  clear hPc hDc hFc hk1 ht hB hz1 hvm
  generalize H1 = H at hP hS ⊢
  have hP : va_P D vwCl [(b, .inr (0, [.ref v, .int 0, .int 0, .int (nI cn)]))] H := hP
  have hD : va_D A [(b, .inr (0, [.ref v, .int 0, .int 0, .int (nI cn)]))] := hD
  exact W.iret (v := nI cn) hx hb hr (fun t ht hW => lfe rfl hP hK hD hS ht hW) hS.2.2 dJ4_length_8abf5_4 hlocks
set_option maxHeartbeats 4000000 in
set_option maxRecDepth 100000 in
theorem c_J3_checkIndex_n (l : Launch) (D : va_G) (sz : Nat) (cI : ClassId) (cB : ClassId) (ix : Nat) (ln : Nat) (hil : ix < ln) (hln : ln < 2 ^ 30) : CT l yJ3_checkIndex_8e157 wsJ3_checkIndex_8e157 ({ frames := 0, cells := 0, slots := 0, locals := 0 }) false D ([(cI, .int), (cB, .byte)]) [] sz [.int (nI ix), .int (nI ln), .null] (qi D ([(cI, .int), (cB, .byte)]) (fun r => r = nI ix) []) 0 0 := by
  refine CT.of (cc := cJ3_checkIndex_8e157) (maxL := 3) (ret := (some .int)) (by decide) rfl (Nat.le_of_ble_eq_true rfl) ?_
  intro A p e s m args below meth c ls H locs En0 argsE hP hK hD hE hA hS hl
  obtain ⟨hx, hb, hr, hml, hown, hts, hlocks, hin⟩ := En0
  have hP : va_P D vwCl [] H := hP
  have hD : va_D A [] := hD
  have hl : lv_has ls 3 [(0, .int (nI ix)), (1, .int (nI ln)), (2, .null)] := hl
  refine lv_iload_n hx hb dJ3_checkIndex_8e157_0 rfl (lv_at hl 0 rfl) ?_
  refine lv_if_lt (tgt := 9) hx hb dJ3_checkIndex_8e157_1 (by decide) (fun c_1 => ?_) (fun c_1 => ?_)
  · exact absurd c_1 (nI_pos (n := ix) (by omega))
  · refine lv_iload_n hx hb dJ3_checkIndex_8e157_4 rfl (lv_at hl 0 rfl) ?_
    refine lv_iload_n hx hb dJ3_checkIndex_8e157_5 rfl (lv_at hl 1 rfl) ?_
    refine lv_icmp_lt (tgt := 16) hx hb dJ3_checkIndex_8e157_6 (by decide) (fun c_2 => ?_) (fun c_2 => ?_)
    · replace c_2 : ix < ln := (nI_ltI (a := ix) (b := ln) (by omega) (by omega)).mp c_2
      refine lv_iload_n hx hb dJ3_checkIndex_8e157_16 rfl (lv_at hl 0 rfl) ?_
      exact W.iret (v := nI ix) hx hb hr (fun t ht hW => lfe rfl hP hK hD hS ht hW) hS.2.2 dJ3_checkIndex_8e157_17 hlocks
    · replace c_2 : ¬ (ix < ln) := fun z => c_2 ((nI_ltI (a := ix) (b := ln) (by omega) (by omega)).mpr z)
      exfalso; omega
set_option maxHeartbeats 4000000 in
set_option maxRecDepth 100000 in
theorem c_J3_checkIndex_r (l : Launch) (D : va_G) (sz : Nat) (cI : ClassId) (cB : ClassId) (sf : Nat) (ix : Nat) (ln : Nat) (hil : ix < ln) (hln : ln < 2 ^ 30) : CT l yJ3_checkIndex_8e157 wsJ3_checkIndex_8e157 ({ frames := 0, cells := 0, slots := 0, locals := 0 }) false D ([(cI, .int), (cB, .byte)]) [] sz [.int (nI ix), .int (nI ln), .ref sf] (qi D ([(cI, .int), (cB, .byte)]) (fun r => r = nI ix) []) 0 0 := by
  refine CT.of (cc := cJ3_checkIndex_8e157) (maxL := 3) (ret := (some .int)) (by decide) rfl (Nat.le_of_ble_eq_true rfl) ?_
  intro A p e s m args below meth c ls H locs En0 argsE hP hK hD hE hA hS hl
  obtain ⟨hx, hb, hr, hml, hown, hts, hlocks, hin⟩ := En0
  have hP : va_P D vwCl [] H := hP
  have hD : va_D A [] := hD
  have hl : lv_has ls 3 [(0, .int (nI ix)), (1, .int (nI ln)), (2, .ref sf)] := hl
  refine lv_iload_n hx hb dJ3_checkIndex_8e157_0 rfl (lv_at hl 0 rfl) ?_
  refine lv_if_lt (tgt := 9) hx hb dJ3_checkIndex_8e157_1 (by decide) (fun c_1 => ?_) (fun c_1 => ?_)
  · exact absurd c_1 (nI_pos (n := ix) (by omega))
  · refine lv_iload_n hx hb dJ3_checkIndex_8e157_4 rfl (lv_at hl 0 rfl) ?_
    refine lv_iload_n hx hb dJ3_checkIndex_8e157_5 rfl (lv_at hl 1 rfl) ?_
    refine lv_icmp_lt (tgt := 16) hx hb dJ3_checkIndex_8e157_6 (by decide) (fun c_2 => ?_) (fun c_2 => ?_)
    · replace c_2 : ix < ln := (nI_ltI (a := ix) (b := ln) (by omega) (by omega)).mp c_2
      refine lv_iload_n hx hb dJ3_checkIndex_8e157_16 rfl (lv_at hl 0 rfl) ?_
      exact W.iret (v := nI ix) hx hb hr (fun t ht hW => lfe rfl hP hK hD hS ht hW) hS.2.2 dJ3_checkIndex_8e157_17 hlocks
    · replace c_2 : ¬ (ix < ln) := fun z => c_2 ((nI_ltI (a := ix) (b := ln) (by omega) (by omega)).mpr z)
      exfalso; omega
set_option maxHeartbeats 4000000 in
set_option maxRecDepth 100000 in
theorem c_J0_checkIndex_df160 (l : Launch) (D : va_G) (sz : Nat) (cI : ClassId) (cB : ClassId) (ix : Nat) (ln : Nat) (hil : ix < ln) (hln : ln < 2 ^ 30) : CT l yJ0_checkIndex_df160 wsJ0_checkIndex_df160 ({ frames := 1, cells := 0, slots := 0, locals := 22 }) true D ([(cI, .int), (cB, .byte)]) [] sz [.int (nI ix), .int (nI ln)] (qv D ([(cI, .int), (cB, .byte)]) (True) []) 0 0 := by
  refine CT.of (cc := cJ0_checkIndex_df160) (maxL := 2) (ret := none) (by decide) rfl (Nat.le_of_ble_eq_true rfl) ?_
  intro A p e s m args below meth c ls H locs En0 argsE hP hK hD hE hA hS hl
  obtain ⟨hx, hb, hr, hml, hown, hts, hlocks, hin⟩ := En0
  have hEw := (hE rfl).1
  have hP : va_P D vwCl [] H := hP
  have hD : va_D A [] := hD
  have hl : lv_has ls 2 [(0, .int (nI ix)), (1, .int (nI ln))] := hl
  obtain ⟨hz0, hcs, hOn, hTn, hstr⟩ := (hE rfl).2.2
  refine lv_iload_n hx hb dJ0_checkIndex_df160_0 rfl (lv_at hl 0 rfl) ?_
  refine lv_iload_n hx hb dJ0_checkIndex_df160_1 rfl (lv_at hl 1 rfl) ?_
  rcases hz0 with hz1 | ⟨sf, hz1⟩
  · refine va_gets hx hb hz1 hS hown (hts (.fieldLink RJ0 1053 "jdk/internal/util/Preconditions" "SIOOBE_FORMATTER" "Ljava/util/function/BiFunction;") (by decide +kernel)) (fun _ h => h) dJ0_checkIndex_df160_2 ?_
    have hPc := hP
    have hDc := hD
    have hFc := va_free (wc := []) hD hS hA [] rfl
    refine va_calli (va_runS (As := [.int (nI ix), .int (nI ln), .null]) (rest := []) ⟨hx, hb, hml, hown, hts⟩ (c_J3_checkIndex_n l D H.size cI cB ix ln (by omega) (by omega)) (va_cwS 3 hts gJ0_checkIndex_df160_J3_checkIndex_8e157 rfl rfl rfl (by decide +kernel) ⟨Nat.le_of_ble_eq_true rfl, Nat.le_of_ble_eq_true rfl⟩) ⟨pcs_blind, (pcs_pre (fun h => by cases h) hE hS hPc hK hDc hFc)⟩ rfl rfl hl.1 rfl (lv_room (Nat.le_of_ble_eq_true rfl)) dJ0_checkIndex_df160_5 ⟨Nat.le_of_ble_eq_true rfl, Nat.le_of_ble_eq_true rfl⟩) hS (fun q _ h => hFc q h) hFc (fun r_1 u t H1 locs1 ht hvm hw hB hz1 hk1 hS => ?_)
    have hw : r_1 = nI ix := hw
    subst hw
    obtain ⟨hP, hD⟩ := aftW hFc ht hB
    clear hPc hDc hFc hk1 ht hB hz1 hvm
    generalize H1 = H at hP hS ⊢
    have hP : va_P D vwCl [] H := hP
    have hD : va_D A [] := hD
    refine lv_pop hx hb dJ0_checkIndex_df160_8 rfl ?_
    exact W.vret hx hb hr (fun t ht hW => lfv trivial hP hK hD hS ht hW) hS.2.2 dJ0_checkIndex_df160_9 hlocks
  · refine va_gets hx hb hz1 hS hown (hts (.fieldLink RJ0 1053 "jdk/internal/util/Preconditions" "SIOOBE_FORMATTER" "Ljava/util/function/BiFunction;") (by decide +kernel)) (fun _ h => h) dJ0_checkIndex_df160_2 ?_
    have hPc := hP
    have hDc := hD
    have hFc := va_free (wc := []) hD hS hA [] rfl
    refine va_calli (va_runS (As := [.int (nI ix), .int (nI ln), .ref sf]) (rest := []) ⟨hx, hb, hml, hown, hts⟩ (c_J3_checkIndex_r l D H.size cI cB sf ix ln (by omega) (by omega)) (va_cwS 3 hts gJ0_checkIndex_df160_J3_checkIndex_8e157 rfl rfl rfl (by decide +kernel) ⟨Nat.le_of_ble_eq_true rfl, Nat.le_of_ble_eq_true rfl⟩) ⟨pcs_blind, (pcs_pre (fun h => by cases h) hE hS hPc hK hDc hFc)⟩ rfl rfl hl.1 rfl (lv_room (Nat.le_of_ble_eq_true rfl)) dJ0_checkIndex_df160_5 ⟨Nat.le_of_ble_eq_true rfl, Nat.le_of_ble_eq_true rfl⟩) hS (fun q _ h => hFc q h) hFc (fun r_2 u t H1 locs1 ht hvm hw hB hz1 hk1 hS => ?_)
    have hw : r_2 = nI ix := hw
    subst hw
    obtain ⟨hP, hD⟩ := aftW hFc ht hB
    clear hPc hDc hFc hk1 ht hB hz1 hvm
    generalize H1 = H at hP hS ⊢
    have hP : va_P D vwCl [] H := hP
    have hD : va_D A [] := hD
    refine lv_pop hx hb dJ0_checkIndex_df160_8 rfl ?_
    exact W.vret hx hb hr (fun t ht hW => lfv trivial hP hK hD hS ht hW) hS.2.2 dJ0_checkIndex_df160_9 hlocks
set_option maxRecDepth 20000 in
theorem in_J5_charAt_5068e_J4 : ∀ w ∈ u_ws RJ4 TJ4 4, w ∈ wsJ5_charAt_5068e := by decide +kernel
set_option maxHeartbeats 4000000 in
set_option maxRecDepth 100000 in
theorem c_J5_charAt_5068e (l : Launch) (D : va_G) (sz : Nat) (cI : ClassId) (cB : ClassId) (b : Nat) (v : Nat) (cap : Nat) (cn : Nat) (f : Nat → Nat) (cs : List Nat) (ix : Nat) (htx : tx cap cn f cs) (hix : ix < cn) : CT l yJ5_charAt_5068e wsJ5_charAt_5068e ({ frames := 2, cells := 0, slots := 0, locals := 43 }) true D ([(cI, .int), (cB, .byte)]) [(b, .inr (0, [.ref v, .int 0, .int 0, .int (nI cn)])), (v, .inl (cB, cap, .inl (ni f)))] sz [.ref b, .int (nI ix)] (qi D ([(cI, .int), (cB, .byte)]) (fun r => r = nI (cs.getD ix 0)) [(b, .inr (0, [.ref v, .int 0, .int 0, .int (nI cn)])), (v, .inl (cB, cap, .inl (ni f)))]) 0 0 := by
  refine CT.of (cc := cJ5_charAt_5068e) (maxL := 5) (ret := (some .char)) (by decide) rfl (Nat.le_of_ble_eq_true rfl) ?_
  intro A p e s m args below meth c ls H locs En0 argsE hP hK hD hE hA hS hl
  obtain ⟨hx, hb, hr, hml, hown, hts, hlocks, hin⟩ := En0
  have hEw := (hE rfl).1
  have hP : va_P D vwCl [(b, .inr (0, [.ref v, .int 0, .int 0, .int (nI cn)])), (v, .inl (cB, cap, .inl (ni f)))] H := hP
  have hD : va_D A [(b, .inr (0, [.ref v, .int 0, .int 0, .int (nI cn)])), (v, .inl (cB, cap, .inl (ni f)))] := hD
  have hl : lv_has ls 5 [(0, .ref b), (1, .int (nI ix))] := hl
  have hca : cap = 16 ∨ cap = 34 := htx.1
  have hcn : cn ≤ cap := htx.2.2.1
  have hv9 := htx.2.2.2.2 ix
  refine lv_aload_n hx hb dJ5_charAt_5068e_0 rfl (lv_at hl 0 rfl) ?_
  refine va_get (ci := 0) (v := .int 0) (C := RJ4) (T := TJ4) (N := 4) hx hb hts in_J5_charAt_5068e_J4 hown hK hP 0 rfl rfl 1 (by decide) (hts (.fieldLink RJ5 22 "java/lang/AbstractStringBuilder" "coder" "B") (by decide +kernel)) (fun _ h9 => h9) rfl dJ5_charAt_5068e_1 ?_
  refine lv_istore_n (lv' := [(2, .int 0), (0, .ref b), (1, .int (nI ix))]) hx hb dJ5_charAt_5068e_4 rfl hl (by decide) rfl (fun ls hl => ?_)
  refine lv_aload_n hx hb dJ5_charAt_5068e_5 rfl (lv_at hl 1 rfl) ?_
  refine va_get (ci := 0) (v := .ref v) (C := RJ4) (T := TJ4) (N := 4) hx hb hts in_J5_charAt_5068e_J4 hown hK hP 0 rfl rfl 0 (by decide) (hts (.fieldLink RJ5 15 "java/lang/AbstractStringBuilder" "value" "[B") (by decide +kernel)) (fun _ h9 => h9) rfl dJ5_charAt_5068e_6 ?_
  refine lv_astore_n (lv' := [(3, .ref v), (2, .int 0), (0, .ref b), (1, .int (nI ix))]) hx hb dJ5_charAt_5068e_9 rfl hl (by decide) rfl (fun ls hl => ?_)
  refine lv_aload_n hx hb dJ5_charAt_5068e_10 rfl (lv_at hl 2 rfl) ?_
  refine va_get (ci := 0) (v := .int (nI cn)) (C := RJ4) (T := TJ4) (N := 4) hx hb hts in_J5_charAt_5068e_J4 hown hK hP 0 rfl rfl 3 (by decide) (hts (.fieldLink RJ5 79 "java/lang/AbstractStringBuilder" "count" "I") (by decide +kernel)) (fun _ h9 => h9) rfl dJ5_charAt_5068e_11 ?_
  refine lv_aload_n hx hb dJ5_charAt_5068e_14 rfl (lv_at hl 0 rfl) ?_
  refine va_alen (v := nI cap) hx hb hK hP 1 1 rfl rfl rfl dJ5_charAt_5068e_15 ?_
  refine lv_iload_n hx hb dJ5_charAt_5068e_16 rfl (lv_at hl 1 rfl) ?_
  refine lv_ishr hx hb dJ5_charAt_5068e_17 ?_
  refine tp (show _ = nI cap from shr0 (n := cap) (by omega)) ?_
  refine va_mmin hx hb (by rw [hml]; exact hl.1.symm) hown (hts (.methodLink RJ5 138 Lib.Math.min.name) (by decide +kernel)) (hts (.static Lib.Math.min.name) (by decide +kernel)) (hts (.initialized "java/lang/Math") (by decide +kernel)) (hts (.code Lib.Math.min.name Lib.Math.min.code 2 (some .int)) (by decide +kernel)) (Nat.le_of_ble_eq_true rfl) (Nat.le_of_ble_eq_true rfl) (Nat.le_of_ble_eq_true rfl) (Nat.le_of_ble_eq_true rfl) dJ5_charAt_5068e_18 ?_
  refine tp (nI_min (a := cn) (b := cap) (by omega) (by omega)) ?_
  refine lv_istore (lv' := [(4, .int (nI (min cn cap))), (3, .ref v), (2, .int 0), (0, .ref b), (1, .int (nI ix))]) hx hb dJ5_charAt_5068e_21 hl (by decide) rfl (fun ls hl => ?_)
  refine lv_iload_n hx hb dJ5_charAt_5068e_23 rfl (lv_at hl 4 rfl) ?_
  refine lv_iload hx hb dJ5_charAt_5068e_24 (lv_at hl 0 rfl) ?_
  have hPc := hP.sub (ws' := []) [] rfl
  have hDc := hD.sub (ws' := []) [] (by decide) rfl
  have hFc := va_free (wc := []) hD hS hA [] rfl
  refine va_callv (va_runS (As := [.int (nI ix), .int (nI (min cn cap))]) (rest := []) ⟨hx, hb, hml, hown, hts⟩ (c_J0_checkIndex_df160 l D H.size cI cB ix (min cn cap) (by omega) (by omega)) (va_cwS 2 hts gJ5_charAt_5068e_J0_checkIndex_df160 rfl rfl rfl (by decide +kernel) ⟨Nat.le_of_ble_eq_true rfl, Nat.le_of_ble_eq_true rfl⟩) ⟨pcs_blind, (pcs_pre (fun h => h) hE hS hPc hK hDc hFc)⟩ rfl rfl hl.1 rfl (lv_room (Nat.le_of_ble_eq_true rfl)) dJ5_charAt_5068e_26 ⟨Nat.le_of_ble_eq_true rfl, Nat.le_of_ble_eq_true rfl⟩) hS (fun q _ h => hFc q h) hFc (fun u t H1 locs1 ht hvm hw hB hz1 hk1 hS => ?_)
  obtain ⟨hP, hD⟩ := aft (wr := [(b, .inr (0, [.ref v, .int 0, .int 0, .int (nI cn)])), (v, .inl (cB, cap, .inl (ni f)))]) (w1 := []) (w2 := [(b, .inr (0, [.ref v, .int 0, .int 0, .int (nI cn)])), (v, .inl (cB, cap, .inl (ni f)))]) hP hD [] [0, 1] [0, 1] rfl rfl (by decide) (by decide) hFc hk1 ht hB rfl (by decide) rfl
  clear hPc hDc hFc hk1 ht hB hz1 hvm
  generalize H1 = H at hP hS ⊢
  have hP : va_P D vwCl [(b, .inr (0, [.ref v, .int 0, .int 0, .int (nI cn)])), (v, .inl (cB, cap, .inl (ni f)))] H := hP
  have hD : va_D A [(b, .inr (0, [.ref v, .int 0, .int 0, .int (nI cn)])), (v, .inl (cB, cap, .inl (ni f)))] := hD
  refine lv_iload_n hx hb dJ5_charAt_5068e_29 rfl (lv_at hl 2 rfl) ?_
  refine lv_if_ne (tgt := 42) hx hb dJ5_charAt_5068e_30 (by decide) (fun c_2 => ?_) (fun c_2 => ?_)
  · exact absurd c_2 (by decide)
  · refine lv_aload_n hx hb dJ5_charAt_5068e_33 rfl (lv_at hl 1 rfl) ?_
    refine lv_iload_n hx hb dJ5_charAt_5068e_34 rfl (lv_at hl 4 rfl) ?_
    refine bld (k := ix) hx hb hK hP 1 1 (by omega) (by omega) rfl rfl dJ5_charAt_5068e_35 ?_
    refine lv_sipush (v := 255) hx hb dJ5_charAt_5068e_36 (by decide) ?_
    refine lv_iand hx hb dJ5_charAt_5068e_39 ?_
    refine tp (show _ = nI (f ix) from (pk_andN (n := (f ix)) (by omega) 8 (by decide)).trans (congrArg nI (Nat.mod_eq_of_lt (by omega)))) ?_
    refine lv_i2c (v := nI (f ix)) hx hb dJ5_charAt_5068e_40 (i2cN (by omega)) ?_
    exact W.zret (v := nI (f ix)) hx hb hr ((pk_charN (by omega)).1) (fun t ht hW => lfe (congrArg nI (htx.2.2.2.1 ix hix)) hP hK hD hS ht hW) hS.2.2 dJ5_charAt_5068e_41 hlocks
set_option maxHeartbeats 4000000 in
set_option maxRecDepth 100000 in
theorem c_J4_charAt_5068e (l : Launch) (D : va_G) (sz : Nat) (cI : ClassId) (cB : ClassId) (b : Nat) (v : Nat) (cap : Nat) (cn : Nat) (f : Nat → Nat) (cs : List Nat) (ix : Nat) (htx : tx cap cn f cs) (hix : ix < cn) : CT l yJ4_charAt_5068e wsJ4_charAt_5068e ({ frames := 3, cells := 0, slots := 0, locals := 67 }) true D ([(cI, .int), (cB, .byte)]) [(b, .inr (0, [.ref v, .int 0, .int 0, .int (nI cn)])), (v, .inl (cB, cap, .inl (ni f)))] sz [.ref b, .int (nI ix)] (qi D ([(cI, .int), (cB, .byte)]) (fun r => r = nI (cs.getD ix 0)) [(b, .inr (0, [.ref v, .int 0, .int 0, .int (nI cn)])), (v, .inl (cB, cap, .inl (ni f)))]) 0 0 := by
  refine CT.of (cc := cJ4_charAt_5068e) (maxL := 2) (ret := (some .char)) (by decide) rfl (Nat.le_of_ble_eq_true rfl) ?_
  intro A p e s m args below meth c ls H locs En0 argsE hP hK hD hE hA hS hl
  obtain ⟨hx, hb, hr, hml, hown, hts, hlocks, hin⟩ := En0
  have hEw := (hE rfl).1
  have hP : va_P D vwCl [(b, .inr (0, [.ref v, .int 0, .int 0, .int (nI cn)])), (v, .inl (cB, cap, .inl (ni f)))] H := hP
  have hD : va_D A [(b, .inr (0, [.ref v, .int 0, .int 0, .int (nI cn)])), (v, .inl (cB, cap, .inl (ni f)))] := hD
  have hl : lv_has ls 2 [(0, .ref b), (1, .int (nI ix))] := hl
  refine lv_aload_n hx hb dJ4_charAt_5068e_0 rfl (lv_at hl 0 rfl) ?_
  refine lv_iload_n hx hb dJ4_charAt_5068e_1 rfl (lv_at hl 1 rfl) ?_
  have hPc := hP
  have hDc := hD
  have hFc := va_free (wc := [(b, .inr (0, [.ref v, .int 0, .int 0, .int (nI cn)])), (v, .inl (cB, cap, .inl (ni f)))]) hD hS hA [0, 1] rfl
  refine va_calli (va_runSU (C := RJ4) (As := [.int (nI ix)]) (rest := []) (hK.1 0 _ rfl).2 ⟨hx, hb, hml, hown, hts⟩ (c_J5_charAt_5068e l D H.size cI cB b v cap cn f cs ix htx hix) (va_cwSU 1 hts gJ4_charAt_5068e_J5_charAt_5068e_s329 rfl rfl rfl (by decide +kernel) ⟨Nat.le_of_ble_eq_true rfl, Nat.le_of_ble_eq_true rfl⟩) ⟨pcs_blind, va_recv hK hP (ci := 0) (q0 := 0) rfl rfl, (pcs_pre (fun h => h) hE hS hPc hK hDc hFc)⟩ rfl rfl hl.1 rfl (lv_room (Nat.le_of_ble_eq_true rfl)) dJ4_charAt_5068e_2 ⟨Nat.le_of_ble_eq_true rfl, Nat.le_of_ble_eq_true rfl⟩) hS (fun q _ h => hFc q h) hFc (fun r_1 u t H1 locs1 ht hvm hw hB hz1 hk1 hS => ?_)
  have hw : r_1 = nI (cs.getD ix 0) := hw
  subst hw
  obtain ⟨hP, hD⟩ := aftW hFc ht hB
  clear hPc hDc hFc hk1 ht hB hz1 hvm
  generalize H1 = H at hP hS ⊢
  have hP : va_P D vwCl [(b, .inr (0, [.ref v, .int 0, .int 0, .int (nI cn)])), (v, .inl (cB, cap, .inl (ni f)))] H := hP
  have hD : va_D A [(b, .inr (0, [.ref v, .int 0, .int 0, .int (nI cn)])), (v, .inl (cB, cap, .inl (ni f)))] := hD
  exact W.zret (v := nI (cs.getD ix 0)) hx hb hr ((pk_charN (by rw [← htx.2.2.2.1 ix hix]; have := htx.2.2.2.2 ix; omega)).1) (fun t ht hW => lfe rfl hP hK hD hS ht hW) hS.2.2 dJ4_charAt_5068e_5 hlocks
set_option maxHeartbeats 4000000 in
set_option maxRecDepth 100000 in
theorem c_J5_ensure_f (l : Launch) (D : va_G) (sz : Nat) (cI : ClassId) (cB : ClassId) (b : Nat) (v : Nat) (cap : Nat) (cn : Nat) (f : Nat → Nat) (cs : List Nat) (mn : Nat) (htx : tx cap cn f cs) (hmn : mn ≤ cap) : CT l yJ5_ensureCapacityInternal_d00df wsJ5_ensureCapacityInternal_d00df ({ frames := 0, cells := 0, slots := 0, locals := 0 }) false D ([(cI, .int), (cB, .byte)]) [(b, .inr (0, [.ref v, .int 0, .int 0, .int (nI cn)])), (v, .inl (cB, cap, .inl (ni f)))] sz [.ref b, .int (nI mn)] (qxv D ([(cI, .int), (cB, .byte)]) (fun u => tx u.2.1 cn u.2.2 cs ∧ u.2.1 = cap) (fun u => [(b, .inr (0, [.ref u.1, .int 0, .int 0, .int (nI cn)])), (u.1, .inl (cB, u.2.1, .inl (ni u.2.2)))])) 0 0 := by
  refine CT.of (cc := cJ5_ensureCapacityInternal_d00df) (maxL := 3) (ret := none) (by decide) rfl (Nat.le_of_ble_eq_true rfl) ?_
  intro A p e s m args below meth c ls H locs En0 argsE hP hK hD hE hA hS hl
  obtain ⟨hx, hb, hr, hml, hown, hts, hlocks, hin⟩ := En0
  have hP : va_P D vwCl [(b, .inr (0, [.ref v, .int 0, .int 0, .int (nI cn)])), (v, .inl (cB, cap, .inl (ni f)))] H := hP
  have hD : va_D A [(b, .inr (0, [.ref v, .int 0, .int 0, .int (nI cn)])), (v, .inl (cB, cap, .inl (ni f)))] := hD
  have hl : lv_has ls 3 [(0, .ref b), (1, .int (nI mn))] := hl
  have hca : cap = 16 ∨ cap = 34 := htx.1
  have hcn : cn ≤ cap := htx.2.2.1
  refine lv_aload_n hx hb dJ5_ensureCapacityInternal_d00df_0 rfl (lv_at hl 0 rfl) ?_
  refine va_get (ci := 0) (v := .ref v) (C := RJ4) (T := TJ4) (N := 4) hx hb hts in_J5_ensureCapacityInternal_d00df_J4 hown hK hP 0 rfl rfl 0 (by decide) (hts (.fieldLink RJ5 15 "java/lang/AbstractStringBuilder" "value" "[B") (by decide +kernel)) (fun _ h9 => h9) rfl dJ5_ensureCapacityInternal_d00df_1 ?_
  refine va_alen (v := nI cap) hx hb hK hP 1 1 rfl rfl rfl dJ5_ensureCapacityInternal_d00df_4 ?_
  refine lv_aload_n hx hb dJ5_ensureCapacityInternal_d00df_5 rfl (lv_at hl 0 rfl) ?_
  refine va_get (ci := 0) (v := .int 0) (C := RJ4) (T := TJ4) (N := 4) hx hb hts in_J5_ensureCapacityInternal_d00df_J4 hown hK hP 0 rfl rfl 1 (by decide) (hts (.fieldLink RJ5 22 "java/lang/AbstractStringBuilder" "coder" "B") (by decide +kernel)) (fun _ h9 => h9) rfl dJ5_ensureCapacityInternal_d00df_6 ?_
  refine lv_ishr hx hb dJ5_ensureCapacityInternal_d00df_9 ?_
  refine tp (show _ = nI cap from shr0 (n := cap) (by omega)) ?_
  refine lv_istore_n (lv' := [(2, .int (nI cap)), (0, .ref b), (1, .int (nI mn))]) hx hb dJ5_ensureCapacityInternal_d00df_10 rfl hl (by decide) rfl (fun ls hl => ?_)
  refine lv_iload_n hx hb dJ5_ensureCapacityInternal_d00df_11 rfl (lv_at hl 2 rfl) ?_
  refine lv_iload_n hx hb dJ5_ensureCapacityInternal_d00df_12 rfl (lv_at hl 0 rfl) ?_
  refine lv_isub hx hb dJ5_ensureCapacityInternal_d00df_13 ?_
  refine lv_if_le (tgt := 38) hx hb dJ5_ensureCapacityInternal_d00df_14 (by decide) (fun c_1 => ?_) (fun c_1 => ?_)
  · have c_1q := (sub_le0 (by omega) (by omega)).mp c_1
    have hP9 := hP.sub (ws' := [(b, .inr (0, [.ref v, .int 0, .int 0, .int (nI cn)])), (v, .inl (cB, cap, .inl (ni f)))]) [0, 1] rfl
    have hD9 := hD.sub (ws' := [(b, .inr (0, [.ref v, .int 0, .int 0, .int (nI cn)])), (v, .inl (cB, cap, .inl (ni f)))]) [0, 1] (by decide) rfl
    exact W.vret hx hb hr (fun t ht hW => lfxv (v, cap, f) ⟨htx, rfl⟩ hP9 hK hD9 hS ht hW) hS.2.2 dJ5_ensureCapacityInternal_d00df_38 hlocks
  · have c_1q : ¬ (mn ≤ cap) := fun z9 => c_1 ((sub_le0 (by omega) (by omega)).mpr z9)
    exfalso; omega
set_option maxHeartbeats 4000000 in
set_option maxRecDepth 100000 in
theorem c_J5_appI_f (l : Launch) (D : va_G) (sz : Nat) (cI : ClassId) (cB : ClassId) (b : Nat) (v : Nat) (cap : Nat) (cn : Nat) (f : Nat → Nat) (cs : List Nat) (nv : Nat) (htx : tx cap cn f cs) (hnv : nv < 1000) (hca : cn + rDig nv ≤ cap) : CT l yJ5_append_c97b9 wsJ5_append_c97b9 ({ frames := 1, cells := 0, slots := 0, locals := 26 }) true D ([(cI, .int), (cB, .byte)]) [(b, .inr (0, [.ref v, .int 0, .int 0, .int (nI cn)])), (v, .inl (cB, cap, .inl (ni f)))] sz [.ref b, .int (nI nv)] (qxr D ([(cI, .int), (cB, .byte)]) (fun u => tx u.2.1 (cn + rDig nv) u.2.2 (cs ++ dgs nv) ∧ u.2.1 = cap) b (fun u => [(b, .inr (0, [.ref u.1, .int 0, .int 0, .int (nI (cn + rDig nv))])), (u.1, .inl (cB, u.2.1, .inl (ni u.2.2)))])) 0 0 := by
  refine CT.of (cc := cJ5_append_c97b9) (maxL := 4) (ret := (some (.object "java/lang/AbstractStringBuilder"))) (by decide) rfl (Nat.le_of_ble_eq_true rfl) ?_
  intro A p e s m args below meth c ls H locs En0 argsE hP hK hD hE hA hS hl
  obtain ⟨hx, hb, hr, hml, hown, hts, hlocks, hin⟩ := En0
  have hEw := (hE rfl).1
  have hP : va_P D vwCl [(b, .inr (0, [.ref v, .int 0, .int 0, .int (nI cn)])), (v, .inl (cB, cap, .inl (ni f)))] H := hP
  have hD : va_D A [(b, .inr (0, [.ref v, .int 0, .int 0, .int (nI cn)])), (v, .inl (cB, cap, .inl (ni f)))] := hD
  have hl : lv_has ls 4 [(0, .ref b), (1, .int (nI nv))] := hl
  refine lv_aload_n hx hb dJ5_append_c97b9_0 rfl (lv_at hl 0 rfl) ?_
  refine va_get (ci := 0) (v := .int (nI cn)) (C := RJ4) (T := TJ4) (N := 4) hx hb hts in_J5_append_c97b9_J4 hown hK hP 0 rfl rfl 3 (by decide) (hts (.fieldLink RJ5 79 "java/lang/AbstractStringBuilder" "count" "I") (by decide +kernel)) (fun _ h9 => h9) rfl dJ5_append_c97b9_1 ?_
  refine lv_istore_n (lv' := [(2, .int (nI cn)), (0, .ref b), (1, .int (nI nv))]) hx hb dJ5_append_c97b9_4 rfl hl (by decide) rfl (fun ls hl => ?_)
  refine lv_iload_n hx hb dJ5_append_c97b9_5 rfl (lv_at hl 0 rfl) ?_
  refine lv_iload_n hx hb dJ5_append_c97b9_6 rfl (lv_at hl 2 rfl) ?_
  have hPc := hP.sub (ws' := []) [] rfl
  have hDc := hD.sub (ws' := []) [] (by decide) rfl
  have hFc := va_free (wc := []) hD hS hA [] rfl
  refine va_calli (va_runS (As := [.int (nI nv)]) (rest := [.int (nI cn)]) ⟨hx, hb, hml, hown, hts⟩ (c_J6_stringSize_0f7a4 l D H.size cI cB nv (by omega)) (va_cwS 1 hts gJ5_append_c97b9_J6_stringSize_0f7a4 rfl rfl rfl (by decide +kernel) ⟨Nat.le_of_ble_eq_true rfl, Nat.le_of_ble_eq_true rfl⟩) ⟨pcs_blind, (pcs_pre (fun h => by cases h) hE hS hPc hK hDc hFc)⟩ rfl rfl hl.1 rfl (lv_room (Nat.le_of_ble_eq_true rfl)) dJ5_append_c97b9_7 ⟨Nat.le_of_ble_eq_true rfl, Nat.le_of_ble_eq_true rfl⟩) hS (fun q _ h => hFc q h) hFc (fun r_1 u t H1 locs1 ht hvm hw hB hz1 hk1 hS => ?_)
  have hw : r_1 = nI (rDig nv) := hw
  subst hw
  obtain ⟨hP, hD⟩ := aft (wr := [(b, .inr (0, [.ref v, .int 0, .int 0, .int (nI cn)])), (v, .inl (cB, cap, .inl (ni f)))]) (w1 := []) (w2 := [(b, .inr (0, [.ref v, .int 0, .int 0, .int (nI cn)])), (v, .inl (cB, cap, .inl (ni f)))]) hP hD [] [0, 1] [0, 1] rfl rfl (by decide) (by decide) hFc hk1 ht hB rfl (by decide) rfl
  clear hPc hDc hFc hk1 ht hB hz1 hvm
  generalize H1 = H at hP hS ⊢
  have hP : va_P D vwCl [(b, .inr (0, [.ref v, .int 0, .int 0, .int (nI cn)])), (v, .inl (cB, cap, .inl (ni f)))] H := hP
  have hD : va_D A [(b, .inr (0, [.ref v, .int 0, .int 0, .int (nI cn)])), (v, .inl (cB, cap, .inl (ni f)))] := hD
  have hf_2 : 1 ≤ rDig nv ∧ rDig nv ≤ 3 := rDig_1 _
  refine lv_iadd hx hb dJ5_append_c97b9_10 ?_
  refine tp (show (nI cn) + (nI (rDig nv)) = nI (cn + (rDig nv)) from nI_add cn (rDig nv)) ?_
  refine lv_istore_n (lv' := [(3, .int (nI (cn + (rDig nv)))), (2, .int (nI cn)), (0, .ref b), (1, .int (nI nv))]) hx hb dJ5_append_c97b9_11 rfl hl (by decide) rfl (fun ls hl => ?_)
  refine lv_aload_n hx hb dJ5_append_c97b9_12 rfl (lv_at hl 2 rfl) ?_
  refine lv_iload_n hx hb dJ5_append_c97b9_13 rfl (lv_at hl 0 rfl) ?_
  have hPc := hP
  have hDc := hD
  have hFc := va_free (wc := [(b, .inr (0, [.ref v, .int 0, .int 0, .int (nI cn)])), (v, .inl (cB, cap, .inl (ni f)))]) hD hS hA [0, 1] rfl
  refine va_callv (va_runU (As := [.int (nI (cn + (rDig nv)))]) (rest := []) ⟨hx, hb, hml, hown, hts⟩ (c_J5_ensure_f l D H.size cI cB b v cap cn f cs (cn + (rDig nv)) htx (by omega)) (va_cwU (C := RJ4) 1 hts gJ5_append_c97b9_J5_ensureCapacityInternal_d00df_u100J4 rfl rfl rfl rfl (by decide +kernel) ⟨Nat.le_of_ble_eq_true rfl, Nat.le_of_ble_eq_true rfl⟩) ⟨pcs_blind, va_recv hK hP (ci := 0) (q0 := 0) rfl rfl, (pcs_pre (fun h => by cases h) hE hS hPc hK hDc hFc)⟩ rfl rfl hl.1 rfl (lv_room (Nat.le_of_ble_eq_true rfl)) dJ5_append_c97b9_14 ⟨Nat.le_of_ble_eq_true rfl, Nat.le_of_ble_eq_true rfl⟩) hS (fun q _ h => hFc q h) hFc (fun u_4 t H1 locs1 ht hvm hw hB hz1 hk1 hS => ?_)
  obtain ⟨v_4, cap_4, f_4⟩ := u_4
  have htx_4 : tx cap_4 cn f_4 cs := hw.1
  have hcp_4 : cap_4 = cap := hw.2
  obtain ⟨hP, hD⟩ := aft (wr := []) (w1 := [(b, .inr (0, [.ref v_4, .int 0, .int 0, .int (nI cn)])), (v_4, .inl (cB, cap_4, .inl (ni f_4)))]) (w2 := [(b, .inr (0, [.ref v_4, .int 0, .int 0, .int (nI cn)])), (v_4, .inl (cB, cap_4, .inl (ni f_4)))]) hP hD [0, 1] [] [0, 1] rfl rfl (by decide) (by decide) hFc hk1 ht hB rfl (by decide) rfl
  clear hPc hDc hFc hk1 ht hB hz1 hvm
  generalize H1 = H at hP hS ⊢
  have hP : va_P D vwCl [(b, .inr (0, [.ref v_4, .int 0, .int 0, .int (nI cn)])), (v_4, .inl (cB, cap_4, .inl (ni f_4)))] H := hP
  have hD : va_D A [(b, .inr (0, [.ref v_4, .int 0, .int 0, .int (nI cn)])), (v_4, .inl (cB, cap_4, .inl (ni f_4)))] := hD
  have hcq : cap_4 ≤ 34 := by have := htx_4.1; omega
  refine lv_aload_n hx hb dJ5_append_c97b9_17 rfl (lv_at hl 2 rfl) ?_
  have hPc := hP.sub (ws' := [(b, .inr (0, [.ref v_4, .int 0, .int 0, .int (nI cn)]))]) [0] rfl
  have hDc := hD.sub (ws' := [(b, .inr (0, [.ref v_4, .int 0, .int 0, .int (nI cn)]))]) [0] (by decide) rfl
  have hFc := va_free (wc := [(b, .inr (0, [.ref v_4, .int 0, .int 0, .int (nI cn)]))]) hD hS hA [0] rfl
  refine va_calli (va_runU (As := []) (rest := []) ⟨hx, hb, hml, hown, hts⟩ (c_J5_isLatin1_aae02 l D H.size cI cB b v_4 cn) (va_cwU (C := RJ4) 0 hts gJ5_append_c97b9_J5_isLatin1_aae02_u83J4 rfl rfl rfl rfl (by decide +kernel) ⟨Nat.le_of_ble_eq_true rfl, Nat.le_of_ble_eq_true rfl⟩) ⟨pcs_blind, va_recv hK hP (ci := 0) (q0 := 0) rfl rfl, (pcs_pre (fun h => h) hE hS hPc hK hDc hFc)⟩ rfl rfl hl.1 rfl (lv_room (Nat.le_of_ble_eq_true rfl)) dJ5_append_c97b9_18 ⟨Nat.le_of_ble_eq_true rfl, Nat.le_of_ble_eq_true rfl⟩) hS (fun q _ h => hFc q h) hFc (fun r_5 u t H1 locs1 ht hvm hw hB hz1 hk1 hS => ?_)
  have hw : r_5 = 1 := hw
  subst hw
  obtain ⟨hP, hD⟩ := aft (wr := [(v_4, .inl (cB, cap_4, .inl (ni f_4)))]) (w1 := [(b, .inr (0, [.ref v_4, .int 0, .int 0, .int (nI cn)]))]) (w2 := [(b, .inr (0, [.ref v_4, .int 0, .int 0, .int (nI cn)])), (v_4, .inl (cB, cap_4, .inl (ni f_4)))]) hP hD [0] [1] [1, 0] rfl rfl (by decide) (by decide) hFc hk1 ht hB rfl (by decide) rfl
  clear hPc hDc hFc hk1 ht hB hz1 hvm
  generalize H1 = H at hP hS ⊢
  have hP : va_P D vwCl [(b, .inr (0, [.ref v_4, .int 0, .int 0, .int (nI cn)])), (v_4, .inl (cB, cap_4, .inl (ni f_4)))] H := hP
  have hD : va_D A [(b, .inr (0, [.ref v_4, .int 0, .int 0, .int (nI cn)])), (v_4, .inl (cB, cap_4, .inl (ni f_4)))] := hD
  refine lv_if_eq (tgt := 37) hx hb dJ5_append_c97b9_21 (by decide) (fun c_6 => ?_) (fun c_6 => ?_)
  · exact absurd c_6 (by decide)
  · refine lv_iload_n hx hb dJ5_append_c97b9_24 rfl (lv_at hl 3 rfl) ?_
    refine lv_iload_n hx hb dJ5_append_c97b9_25 rfl (lv_at hl 0 rfl) ?_
    refine lv_aload_n hx hb dJ5_append_c97b9_26 rfl (lv_at hl 2 rfl) ?_
    refine va_get (ci := 0) (v := .ref v_4) (C := RJ4) (T := TJ4) (N := 4) hx hb hts in_J5_append_c97b9_J4 hown hK hP 0 rfl rfl 0 (by decide) (hts (.fieldLink RJ5 15 "java/lang/AbstractStringBuilder" "value" "[B") (by decide +kernel)) (fun _ h9 => h9) rfl dJ5_append_c97b9_27 ?_
    have hPc := hP.sub (ws' := [(v_4, .inl (cB, cap_4, .inl (ni f_4)))]) [1] rfl
    have hDc := hD.sub (ws' := [(v_4, .inl (cB, cap_4, .inl (ni f_4)))]) [1] (by decide) rfl
    have hFc := va_free (wc := [(v_4, .inl (cB, cap_4, .inl (ni f_4)))]) hD hS hA [1] rfl
    refine va_calli (va_runS (As := [.int (nI nv), .int (nI (cn + (rDig nv))), .ref v_4]) (rest := []) ⟨hx, hb, hml, hown, hts⟩ (c_J6_getChars_ba4f3 l D H.size cI cB v_4 cap_4 f_4 nv (cn + (rDig nv)) (by omega) (by omega) (by omega) (by have := htx_4.1; omega)) (va_cwS 3 hts gJ5_append_c97b9_J6_getChars_ba4f3 rfl rfl rfl (by decide +kernel) ⟨Nat.le_of_ble_eq_true rfl, Nat.le_of_ble_eq_true rfl⟩) ⟨pcs_blind, (pcs_pre (fun h => h) hE hS hPc hK hDc hFc)⟩ rfl rfl hl.1 rfl (lv_room (Nat.le_of_ble_eq_true rfl)) dJ5_append_c97b9_30 ⟨Nat.le_of_ble_eq_true rfl, Nat.le_of_ble_eq_true rfl⟩) hS (fun q _ h => hFc q h) hFc (fun r_7 u t H1 locs1 ht hvm hw hB hz1 hk1 hS => ?_)
    obtain ⟨hP, hD⟩ := aft (wr := [(b, .inr (0, [.ref v_4, .int 0, .int 0, .int (nI cn)]))]) (w1 := [(v_4, .inl (cB, cap_4, .inl (ni (gcN nv (cn + (rDig nv)) f_4))))]) (w2 := [(b, .inr (0, [.ref v_4, .int 0, .int 0, .int (nI cn)])), (v_4, .inl (cB, cap_4, .inl (ni (gcN nv (cn + (rDig nv)) f_4))))]) hP hD [1] [0] [0, 1] rfl rfl (by decide) (by decide) hFc hk1 ht hB rfl (by decide) rfl
    clear hPc hDc hFc hk1 ht hB hz1 hvm
    generalize H1 = H at hP hS ⊢
    have hP : va_P D vwCl [(b, .inr (0, [.ref v_4, .int 0, .int 0, .int (nI cn)])), (v_4, .inl (cB, cap_4, .inl (ni (gcN nv (cn + (rDig nv)) f_4))))] H := hP
    have hD : va_D A [(b, .inr (0, [.ref v_4, .int 0, .int 0, .int (nI cn)])), (v_4, .inl (cB, cap_4, .inl (ni (gcN nv (cn + (rDig nv)) f_4))))] := hD
    refine lv_pop hx hb dJ5_append_c97b9_33 rfl ?_
    refine lv_goto (tgt := 48) hx hb dJ5_append_c97b9_34 (by decide) ?_
    refine lv_aload_n hx hb dJ5_append_c97b9_48 rfl (lv_at hl 2 rfl) ?_
    refine lv_iload_n hx hb dJ5_append_c97b9_49 rfl (lv_at hl 0 rfl) ?_
    refine va_put (ci := 0) (v := .int (nI (cn + (rDig nv)))) (ty := .int) (C := RJ4) (T := TJ4) (N := 4) hx hb hts in_J5_append_c97b9_J4 tyJ4 tyJ4_ok nmJ4 hown hK hP hD hS 0 rfl rfl 3 (by decide) (hts (.fieldLink RJ5 79 "java/lang/AbstractStringBuilder" "count" "I") (by decide +kernel)) (fun _ h9 => h9) rfl (by decide +kernel) rfl rfl (Nat.le_of_ble_eq_true rfl) dJ5_append_c97b9_50 (fun H locs hP hD hS => ?_)
    have hP : va_P D vwCl [(b, .inr (0, [.ref v_4, .int 0, .int 0, .int (nI (cn + (rDig nv)))])), (v_4, .inl (cB, cap_4, .inl (ni (gcN nv (cn + (rDig nv)) f_4))))] H := hP
    have hD : va_D A [(b, .inr (0, [.ref v_4, .int 0, .int 0, .int (nI (cn + (rDig nv)))])), (v_4, .inl (cB, cap_4, .inl (ni (gcN nv (cn + (rDig nv)) f_4))))] := hD
    refine lv_aload_n hx hb dJ5_append_c97b9_53 rfl (lv_at hl 2 rfl) ?_
    have hP9 := hP.sub (ws' := [(b, .inr (0, [.ref v_4, .int 0, .int 0, .int (nI (cn + (rDig nv)))])), (v_4, .inl (cB, cap_4, .inl (ni (gcN nv (cn + (rDig nv)) f_4))))]) [0, 1] rfl
    have hD9 := hD.sub (ws' := [(b, .inr (0, [.ref v_4, .int 0, .int 0, .int (nI (cn + (rDig nv)))])), (v_4, .inl (cB, cap_4, .inl (ni (gcN nv (cn + (rDig nv)) f_4))))]) [0, 1] (by decide) rfl
    exact W.aret (v := .ref b) hx hb hr (Or.inl ⟨_, rfl⟩) (Or.inr ⟨_, rfl⟩) (fun t ht hW => lfxr (v_4, cap_4, (gcN nv (cn + (rDig nv)) f_4)) rfl ⟨tx_int (cap := cap_4) htx_4 hnv (by omega), hcp_4⟩ hP9 hK hD9 hS ht hW) hS.2.2 dJ5_append_c97b9_54 hlocks
set_option maxHeartbeats 4000000 in
set_option maxRecDepth 100000 in
theorem c_J5_appC_f (l : Launch) (D : va_G) (sz : Nat) (cI : ClassId) (cB : ClassId) (b : Nat) (v : Nat) (cap : Nat) (cn : Nat) (f : Nat → Nat) (cs : List Nat) (cv : Nat) (htx : tx cap cn f cs) (hcv : cv < 128) (hca : cn + 1 ≤ cap) : CT l yJ5_append_3fe6f wsJ5_append_3fe6f ({ frames := 1, cells := 0, slots := 0, locals := 22 }) true D ([(cI, .int), (cB, .byte)]) [(b, .inr (0, [.ref v, .int 0, .int 0, .int (nI cn)])), (v, .inl (cB, cap, .inl (ni f)))] sz [.ref b, .int (nI cv)] (qxr D ([(cI, .int), (cB, .byte)]) (fun u => tx u.2.1 (cn + 1) u.2.2 (cs ++ [cv]) ∧ u.2.1 = cap) b (fun u => [(b, .inr (0, [.ref u.1, .int 0, .int 0, .int (nI (cn + 1))])), (u.1, .inl (cB, u.2.1, .inl (ni u.2.2)))])) 0 0 := by
  refine CT.of (cc := cJ5_append_3fe6f) (maxL := 2) (ret := (some (.object "java/lang/AbstractStringBuilder"))) (by decide) rfl (Nat.le_of_ble_eq_true rfl) ?_
  intro A p e s m args below meth c ls H locs En0 argsE hP hK hD hE hA hS hl
  obtain ⟨hx, hb, hr, hml, hown, hts, hlocks, hin⟩ := En0
  have hEw := (hE rfl).1
  have hP : va_P D vwCl [(b, .inr (0, [.ref v, .int 0, .int 0, .int (nI cn)])), (v, .inl (cB, cap, .inl (ni f)))] H := hP
  have hD : va_D A [(b, .inr (0, [.ref v, .int 0, .int 0, .int (nI cn)])), (v, .inl (cB, cap, .inl (ni f)))] := hD
  have hl : lv_has ls 2 [(0, .ref b), (1, .int (nI cv))] := hl
  refine lv_aload_n hx hb dJ5_append_3fe6f_0 rfl (lv_at hl 0 rfl) ?_
  refine lv_aload_n hx hb dJ5_append_3fe6f_1 rfl (lv_at hl 0 rfl) ?_
  refine va_get (ci := 0) (v := .int (nI cn)) (C := RJ4) (T := TJ4) (N := 4) hx hb hts in_J5_append_3fe6f_J4 hown hK hP 0 rfl rfl 3 (by decide) (hts (.fieldLink RJ5 79 "java/lang/AbstractStringBuilder" "count" "I") (by decide +kernel)) (fun _ h9 => h9) rfl dJ5_append_3fe6f_2 ?_
  refine lv_iconst (v := 1) hx hb dJ5_append_3fe6f_5 (by decide) ?_
  refine lv_iadd hx hb dJ5_append_3fe6f_6 ?_
  refine tp (show (nI cn) + 1 = nI (cn + 1) from nI_add cn 1) ?_
  have hPc := hP
  have hDc := hD
  have hFc := va_free (wc := [(b, .inr (0, [.ref v, .int 0, .int 0, .int (nI cn)])), (v, .inl (cB, cap, .inl (ni f)))]) hD hS hA [0, 1] rfl
  refine va_callv (va_runU (As := [.int (nI (cn + 1))]) (rest := []) ⟨hx, hb, hml, hown, hts⟩ (c_J5_ensure_f l D H.size cI cB b v cap cn f cs (cn + 1) htx (by omega)) (va_cwU (C := RJ4) 1 hts gJ5_append_3fe6f_J5_ensureCapacityInternal_d00df_u100J4 rfl rfl rfl rfl (by decide +kernel) ⟨Nat.le_of_ble_eq_true rfl, Nat.le_of_ble_eq_true rfl⟩) ⟨pcs_blind, va_recv hK hP (ci := 0) (q0 := 0) rfl rfl, (pcs_pre (fun h => by cases h) hE hS hPc hK hDc hFc)⟩ rfl rfl hl.1 rfl (lv_room (Nat.le_of_ble_eq_true rfl)) dJ5_append_3fe6f_7 ⟨Nat.le_of_ble_eq_true rfl, Nat.le_of_ble_eq_true rfl⟩) hS (fun q _ h => hFc q h) hFc (fun u_2 t H1 locs1 ht hvm hw hB hz1 hk1 hS => ?_)
  obtain ⟨v_2, cap_2, f_2⟩ := u_2
  have htx_2 : tx cap_2 cn f_2 cs := hw.1
  have hcp_2 : cap_2 = cap := hw.2
  obtain ⟨hP, hD⟩ := aft (wr := []) (w1 := [(b, .inr (0, [.ref v_2, .int 0, .int 0, .int (nI cn)])), (v_2, .inl (cB, cap_2, .inl (ni f_2)))]) (w2 := [(b, .inr (0, [.ref v_2, .int 0, .int 0, .int (nI cn)])), (v_2, .inl (cB, cap_2, .inl (ni f_2)))]) hP hD [0, 1] [] [0, 1] rfl rfl (by decide) (by decide) hFc hk1 ht hB rfl (by decide) rfl
  clear hPc hDc hFc hk1 ht hB hz1 hvm
  generalize H1 = H at hP hS ⊢
  have hP : va_P D vwCl [(b, .inr (0, [.ref v_2, .int 0, .int 0, .int (nI cn)])), (v_2, .inl (cB, cap_2, .inl (ni f_2)))] H := hP
  have hD : va_D A [(b, .inr (0, [.ref v_2, .int 0, .int 0, .int (nI cn)])), (v_2, .inl (cB, cap_2, .inl (ni f_2)))] := hD
  have hcq : cap_2 ≤ 34 := by have := htx_2.1; omega
  refine lv_aload_n hx hb dJ5_append_3fe6f_10 rfl (lv_at hl 0 rfl) ?_
  have hPc := hP.sub (ws' := [(b, .inr (0, [.ref v_2, .int 0, .int 0, .int (nI cn)]))]) [0] rfl
  have hDc := hD.sub (ws' := [(b, .inr (0, [.ref v_2, .int 0, .int 0, .int (nI cn)]))]) [0] (by decide) rfl
  have hFc := va_free (wc := [(b, .inr (0, [.ref v_2, .int 0, .int 0, .int (nI cn)]))]) hD hS hA [0] rfl
  refine va_calli (va_runU (As := []) (rest := []) ⟨hx, hb, hml, hown, hts⟩ (c_J5_isLatin1_aae02 l D H.size cI cB b v_2 cn) (va_cwU (C := RJ4) 0 hts gJ5_append_3fe6f_J5_isLatin1_aae02_u83J4 rfl rfl rfl rfl (by decide +kernel) ⟨Nat.le_of_ble_eq_true rfl, Nat.le_of_ble_eq_true rfl⟩) ⟨pcs_blind, va_recv hK hP (ci := 0) (q0 := 0) rfl rfl, (pcs_pre (fun h => h) hE hS hPc hK hDc hFc)⟩ rfl rfl hl.1 rfl (lv_room (Nat.le_of_ble_eq_true rfl)) dJ5_append_3fe6f_11 ⟨Nat.le_of_ble_eq_true rfl, Nat.le_of_ble_eq_true rfl⟩) hS (fun q _ h => hFc q h) hFc (fun r_3 u t H1 locs1 ht hvm hw hB hz1 hk1 hS => ?_)
  have hw : r_3 = 1 := hw
  subst hw
  obtain ⟨hP, hD⟩ := aft (wr := [(v_2, .inl (cB, cap_2, .inl (ni f_2)))]) (w1 := [(b, .inr (0, [.ref v_2, .int 0, .int 0, .int (nI cn)]))]) (w2 := [(b, .inr (0, [.ref v_2, .int 0, .int 0, .int (nI cn)])), (v_2, .inl (cB, cap_2, .inl (ni f_2)))]) hP hD [0] [1] [1, 0] rfl rfl (by decide) (by decide) hFc hk1 ht hB rfl (by decide) rfl
  clear hPc hDc hFc hk1 ht hB hz1 hvm
  generalize H1 = H at hP hS ⊢
  have hP : va_P D vwCl [(b, .inr (0, [.ref v_2, .int 0, .int 0, .int (nI cn)])), (v_2, .inl (cB, cap_2, .inl (ni f_2)))] H := hP
  have hD : va_D A [(b, .inr (0, [.ref v_2, .int 0, .int 0, .int (nI cn)])), (v_2, .inl (cB, cap_2, .inl (ni f_2)))] := hD
  refine lv_if_eq (tgt := 45) hx hb dJ5_append_3fe6f_14 (by decide) (fun c_4 => ?_) (fun c_4 => ?_)
  · exact absurd c_4 (by decide)
  · refine lv_iload_n hx hb dJ5_append_3fe6f_17 rfl (lv_at hl 1 rfl) ?_
    have hPc := hP.sub (ws' := []) [] rfl
    have hDc := hD.sub (ws' := []) [] (by decide) rfl
    have hFc := va_free (wc := []) hD hS hA [] rfl
    refine va_calli (va_runS (As := [.int (nI cv)]) (rest := []) ⟨hx, hb, hml, hown, hts⟩ (c_J1_canEncode_fc78d l D H.size cI cB cv (by omega)) (va_cwS 1 hts gJ5_append_3fe6f_J1_canEncode_fc78d rfl rfl rfl (by decide +kernel) ⟨Nat.le_of_ble_eq_true rfl, Nat.le_of_ble_eq_true rfl⟩) ⟨pcs_blind, (pcs_pre (fun h => by cases h) hE hS hPc hK hDc hFc)⟩ rfl rfl hl.1 rfl (lv_room (Nat.le_of_ble_eq_true rfl)) dJ5_append_3fe6f_18 ⟨Nat.le_of_ble_eq_true rfl, Nat.le_of_ble_eq_true rfl⟩) hS (fun q _ h => hFc q h) hFc (fun r_5 u t H1 locs1 ht hvm hw hB hz1 hk1 hS => ?_)
    have hw : r_5 = 1 := hw
    subst hw
    obtain ⟨hP, hD⟩ := aft (wr := [(b, .inr (0, [.ref v_2, .int 0, .int 0, .int (nI cn)])), (v_2, .inl (cB, cap_2, .inl (ni f_2)))]) (w1 := []) (w2 := [(b, .inr (0, [.ref v_2, .int 0, .int 0, .int (nI cn)])), (v_2, .inl (cB, cap_2, .inl (ni f_2)))]) hP hD [] [0, 1] [0, 1] rfl rfl (by decide) (by decide) hFc hk1 ht hB rfl (by decide) rfl
    clear hPc hDc hFc hk1 ht hB hz1 hvm
    generalize H1 = H at hP hS ⊢
    have hP : va_P D vwCl [(b, .inr (0, [.ref v_2, .int 0, .int 0, .int (nI cn)])), (v_2, .inl (cB, cap_2, .inl (ni f_2)))] H := hP
    have hD : va_D A [(b, .inr (0, [.ref v_2, .int 0, .int 0, .int (nI cn)])), (v_2, .inl (cB, cap_2, .inl (ni f_2)))] := hD
    refine lv_if_eq (tgt := 45) hx hb dJ5_append_3fe6f_21 (by decide) (fun c_6 => ?_) (fun c_6 => ?_)
    · exact absurd c_6 (by decide)
    · refine lv_aload_n hx hb dJ5_append_3fe6f_24 rfl (lv_at hl 0 rfl) ?_
      refine va_get (ci := 0) (v := .ref v_2) (C := RJ4) (T := TJ4) (N := 4) hx hb hts in_J5_append_3fe6f_J4 hown hK hP 0 rfl rfl 0 (by decide) (hts (.fieldLink RJ5 15 "java/lang/AbstractStringBuilder" "value" "[B") (by decide +kernel)) (fun _ h9 => h9) rfl dJ5_append_3fe6f_25 ?_
      refine lv_aload_n hx hb dJ5_append_3fe6f_28 rfl (lv_at hl 0 rfl) ?_
      refine lv_dup hx hb dJ5_append_3fe6f_29 rfl ?_
      refine va_get (ci := 0) (v := .int (nI cn)) (C := RJ4) (T := TJ4) (N := 4) hx hb hts in_J5_append_3fe6f_J4 hown hK hP 0 rfl rfl 3 (by decide) (hts (.fieldLink RJ5 79 "java/lang/AbstractStringBuilder" "count" "I") (by decide +kernel)) (fun _ h9 => h9) rfl dJ5_append_3fe6f_30 ?_
      refine lv_dup_x1 hx hb dJ5_append_3fe6f_33 rfl rfl ?_
      refine lv_iconst (v := 1) hx hb dJ5_append_3fe6f_34 (by decide) ?_
      refine lv_iadd hx hb dJ5_append_3fe6f_35 ?_
      refine tp (show (nI cn) + 1 = nI (cn + 1) from nI_add cn 1) ?_
      refine va_put (ci := 0) (v := .int (nI (cn + 1))) (ty := .int) (C := RJ4) (T := TJ4) (N := 4) hx hb hts in_J5_append_3fe6f_J4 tyJ4 tyJ4_ok nmJ4 hown hK hP hD hS 0 rfl rfl 3 (by decide) (hts (.fieldLink RJ5 79 "java/lang/AbstractStringBuilder" "count" "I") (by decide +kernel)) (fun _ h9 => h9) rfl (by decide +kernel) rfl rfl (Nat.le_of_ble_eq_true rfl) dJ5_append_3fe6f_36 (fun H locs hP hD hS => ?_)
      have hP : va_P D vwCl [(b, .inr (0, [.ref v_2, .int 0, .int 0, .int (nI (cn + 1))])), (v_2, .inl (cB, cap_2, .inl (ni f_2)))] H := hP
      have hD : va_D A [(b, .inr (0, [.ref v_2, .int 0, .int 0, .int (nI (cn + 1))])), (v_2, .inl (cB, cap_2, .inl (ni f_2)))] := hD
      refine lv_iload_n hx hb dJ5_append_3fe6f_39 rfl (lv_at hl 1 rfl) ?_
      refine lv_i2b (v := nI cv) hx hb dJ5_append_3fe6f_40 (toB _ (by omega)) ?_
      refine bst (k := cn) (v := cv) hx hb hK hP hD hS 1 1 (by omega) (by omega) (by omega) rfl rfl dJ5_append_3fe6f_41 (fun H locs hP hD hS => ?_)
      have hP : va_P D vwCl [(b, .inr (0, [.ref v_2, .int 0, .int 0, .int (nI (cn + 1))])), (v_2, .inl (cB, cap_2, .inl (ni (va_up f_2 cn cv))))] H := hP
      have hD : va_D A [(b, .inr (0, [.ref v_2, .int 0, .int 0, .int (nI (cn + 1))])), (v_2, .inl (cB, cap_2, .inl (ni (va_up f_2 cn cv))))] := hD
      refine lv_goto (tgt := 75) hx hb dJ5_append_3fe6f_42 (by decide) ?_
      refine lv_aload_n hx hb dJ5_append_3fe6f_75 rfl (lv_at hl 0 rfl) ?_
      have hP9 := hP.sub (ws' := [(b, .inr (0, [.ref v_2, .int 0, .int 0, .int (nI (cn + 1))])), (v_2, .inl (cB, cap_2, .inl (ni (va_up f_2 cn cv))))]) [0, 1] rfl
      have hD9 := hD.sub (ws' := [(b, .inr (0, [.ref v_2, .int 0, .int 0, .int (nI (cn + 1))])), (v_2, .inl (cB, cap_2, .inl (ni (va_up f_2 cn cv))))]) [0, 1] (by decide) rfl
      exact W.aret (v := .ref b) hx hb hr (Or.inl ⟨_, rfl⟩) (Or.inr ⟨_, rfl⟩) (fun t ht hW => lfxr (v_2, cap_2, (va_up f_2 cn cv)) rfl ⟨tx_push (cap := cap_2) htx_2 (by omega) hcv, hcp_2⟩ hP9 hK hD9 hS ht hW) hS.2.2 dJ5_append_3fe6f_76 hlocks
set_option maxHeartbeats 4000000 in
set_option maxRecDepth 100000 in
theorem c_J5_appS_f (l : Launch) (D : va_G) (sz : Nat) (cI : ClassId) (cB : ClassId) (b : Nat) (v : Nat) (cap : Nat) (cn : Nat) (f : Nat → Nat) (cs : List Nat) (si : Nat) (sk : Nat) (htx : tx cap cn f cs) (hca : cn + (sbL si).length ≤ cap) (hsi : si < 9) : CTK l yJ5_append_cf1ce wsJ5_append_cf1ce ({ frames := 3, cells := 0, slots := 0, locals := 105 }) true D ([(cI, .int), (cB, .byte)]) [(b, .inr (0, [.ref v, .int 0, .int 0, .int (nI cn)])), (v, .inl (cB, cap, .inl (ni f)))] sz si sk [.ref b, .ref sk] (qxr D ([(cI, .int), (cB, .byte)]) (fun u => tx u.2.1 (cn + (sbL si).length) u.2.2 (cs ++ sbL si) ∧ u.2.1 = cap) b (fun u => [(b, .inr (0, [.ref u.1, .int 0, .int 0, .int (nI (cn + (sbL si).length))])), (u.1, .inl (cB, u.2.1, .inl (ni u.2.2)))])) 0 0 := by
  refine CTK.of (cc := cJ5_append_cf1ce) (maxL := 3) (ret := (some (.object "java/lang/AbstractStringBuilder"))) (by decide) rfl (Nat.le_of_ble_eq_true rfl) ?_
  intro A p e s m args below meth c ls H locs En0 hSK argsE hP hK hD hE hA hS hl
  obtain ⟨hx, hb, hr, hml, hown, hts, hlocks, hin⟩ := En0
  have hEw := (hE rfl).1
  have hP : va_P D vwCl [(b, .inr (0, [.ref v, .int 0, .int 0, .int (nI cn)])), (v, .inl (cB, cap, .inl (ni f)))] H := hP
  have hD : va_D A [(b, .inr (0, [.ref v, .int 0, .int 0, .int (nI cn)])), (v, .inl (cB, cap, .inl (ni f)))] := hD
  have hl : lv_has ls 3 [(0, .ref b), (1, .ref sk)] := hl
  obtain ⟨hz0, hcs, hOn, hTn, hstr⟩ := (hE rfl).2.2
  obtain ⟨sv, hsO, hsC, hsV, hsT⟩ := strK_S (hE rfl).2.2 hSK hsi
  have hsl : (sbL si).length ≤ 9 := (sb_2 si hsi).2
  refine lv_aload_n hx hb dJ5_append_cf1ce_0 rfl (lv_at hl 1 rfl) ?_
  refine lv_ifnonnull (tgt := 9) hx hb dJ5_append_cf1ce_1 (by decide) ?_
  refine lv_aload_n hx hb dJ5_append_cf1ce_9 rfl (lv_at hl 1 rfl) ?_
  have hPc := hP.sub (ws' := []) [] rfl
  have hDc := hD.sub (ws' := []) [] (by decide) rfl
  have hFc := va_free (wc := []) hD hS hA [] rfl
  refine va_calli (va_runV (As := []) (rest := []) ⟨hx, hb, hml, hown, hts⟩ (c_J0_length_8abf5 l D H.size cI cB si sk hsi) (cwV 0 hts gJ5_append_cf1ce_J0_length_8abf5 rfl rfl rfl (by decide +kernel) ⟨Nat.le_of_ble_eq_true rfl, Nat.le_of_ble_eq_true rfl⟩) ⟨pcsK_blind, strK_recv hsO hS, (pcsK_pre (pcs_pre (fun h => h) hE hS hPc hK hDc hFc) hSK)⟩ rfl rfl hl.1 rfl (lv_room (Nat.le_of_ble_eq_true rfl)) dJ5_append_cf1ce_10 ⟨Nat.le_of_ble_eq_true rfl, Nat.le_of_ble_eq_true rfl⟩) hS (fun q _ h => hFc q h) hFc (fun r_1 u t H1 locs1 ht hvm hw hB hz1 hk1 hS => ?_)
  have hw : r_1 = nI ((sbL si).length) := hw
  subst hw
  obtain ⟨hP, hD⟩ := aft (wr := [(b, .inr (0, [.ref v, .int 0, .int 0, .int (nI cn)])), (v, .inl (cB, cap, .inl (ni f)))]) (w1 := []) (w2 := [(b, .inr (0, [.ref v, .int 0, .int 0, .int (nI cn)])), (v, .inl (cB, cap, .inl (ni f)))]) hP hD [] [0, 1] [0, 1] rfl rfl (by decide) (by decide) hFc hk1 ht hB rfl (by decide) rfl
  clear hPc hDc hFc hk1 ht hB hz1 hvm
  generalize H1 = H at hP hS ⊢
  have hP : va_P D vwCl [(b, .inr (0, [.ref v, .int 0, .int 0, .int (nI cn)])), (v, .inl (cB, cap, .inl (ni f)))] H := hP
  have hD : va_D A [(b, .inr (0, [.ref v, .int 0, .int 0, .int (nI cn)])), (v, .inl (cB, cap, .inl (ni f)))] := hD
  refine lv_istore_n (lv' := [(2, .int (nI ((sbL si).length))), (0, .ref b), (1, .ref sk)]) hx hb dJ5_append_cf1ce_13 rfl hl (by decide) rfl (fun ls hl => ?_)
  refine lv_aload_n hx hb dJ5_append_cf1ce_14 rfl (lv_at hl 1 rfl) ?_
  refine lv_aload_n hx hb dJ5_append_cf1ce_15 rfl (lv_at hl 1 rfl) ?_
  refine va_get (ci := 0) (v := .int (nI cn)) (C := RJ4) (T := TJ4) (N := 4) hx hb hts in_J5_append_cf1ce_J4 hown hK hP 0 rfl rfl 3 (by decide) (hts (.fieldLink RJ5 79 "java/lang/AbstractStringBuilder" "count" "I") (by decide +kernel)) (fun _ h9 => h9) rfl dJ5_append_cf1ce_16 ?_
  refine lv_iload_n hx hb dJ5_append_cf1ce_19 rfl (lv_at hl 0 rfl) ?_
  refine lv_iadd hx hb dJ5_append_cf1ce_20 ?_
  refine tp (show (nI cn) + (nI ((sbL si).length)) = nI (cn + ((sbL si).length)) from nI_add cn ((sbL si).length)) ?_
  have hPc := hP
  have hDc := hD
  have hFc := va_free (wc := [(b, .inr (0, [.ref v, .int 0, .int 0, .int (nI cn)])), (v, .inl (cB, cap, .inl (ni f)))]) hD hS hA [0, 1] rfl
  refine va_callv (va_runU (As := [.int (nI (cn + ((sbL si).length)))]) (rest := []) ⟨hx, hb, hml, hown, hts⟩ (c_J5_ensure_f l D H.size cI cB b v cap cn f cs (cn + ((sbL si).length)) htx (by omega)) (va_cwU (C := RJ4) 1 hts gJ5_append_cf1ce_J5_ensureCapacityInternal_d00df_u100J4 rfl rfl rfl rfl (by decide +kernel) ⟨Nat.le_of_ble_eq_true rfl, Nat.le_of_ble_eq_true rfl⟩) ⟨pcs_blind, va_recv hK hP (ci := 0) (q0 := 0) rfl rfl, (pcs_pre (fun h => by cases h) hE hS hPc hK hDc hFc)⟩ rfl rfl hl.1 rfl (lv_room (Nat.le_of_ble_eq_true rfl)) dJ5_append_cf1ce_21 ⟨Nat.le_of_ble_eq_true rfl, Nat.le_of_ble_eq_true rfl⟩) hS (fun q _ h => hFc q h) hFc (fun u_3 t H1 locs1 ht hvm hw hB hz1 hk1 hS => ?_)
  obtain ⟨v_3, cap_3, f_3⟩ := u_3
  have htx_3 : tx cap_3 cn f_3 cs := hw.1
  have hcp_3 : cap_3 = cap := hw.2
  obtain ⟨hP, hD⟩ := aft (wr := []) (w1 := [(b, .inr (0, [.ref v_3, .int 0, .int 0, .int (nI cn)])), (v_3, .inl (cB, cap_3, .inl (ni f_3)))]) (w2 := [(b, .inr (0, [.ref v_3, .int 0, .int 0, .int (nI cn)])), (v_3, .inl (cB, cap_3, .inl (ni f_3)))]) hP hD [0, 1] [] [0, 1] rfl rfl (by decide) (by decide) hFc hk1 ht hB rfl (by decide) rfl
  clear hPc hDc hFc hk1 ht hB hz1 hvm
  generalize H1 = H at hP hS ⊢
  have hP : va_P D vwCl [(b, .inr (0, [.ref v_3, .int 0, .int 0, .int (nI cn)])), (v_3, .inl (cB, cap_3, .inl (ni f_3)))] H := hP
  have hD : va_D A [(b, .inr (0, [.ref v_3, .int 0, .int 0, .int (nI cn)])), (v_3, .inl (cB, cap_3, .inl (ni f_3)))] := hD
  have hcq : cap_3 ≤ 34 := by have := htx_3.1; omega
  refine lv_aload_n hx hb dJ5_append_cf1ce_24 rfl (lv_at hl 1 rfl) ?_
  refine lv_aload_n hx hb dJ5_append_cf1ce_25 rfl (lv_at hl 1 rfl) ?_
  refine va_get (ci := 0) (v := .int (nI cn)) (C := RJ4) (T := TJ4) (N := 4) hx hb hts in_J5_append_cf1ce_J4 hown hK hP 0 rfl rfl 3 (by decide) (hts (.fieldLink RJ5 79 "java/lang/AbstractStringBuilder" "count" "I") (by decide +kernel)) (fun _ h9 => h9) rfl dJ5_append_cf1ce_26 ?_
  refine lv_aload_n hx hb dJ5_append_cf1ce_29 rfl (lv_at hl 2 rfl) ?_
  have hPc := hP
  have hDc := hD
  have hFc := va_free (wc := [(b, .inr (0, [.ref v_3, .int 0, .int 0, .int (nI cn)])), (v_3, .inl (cB, cap_3, .inl (ni f_3)))]) hD hS hA [0, 1] rfl
  refine va_callv (va_runU (As := [.int (nI cn), .ref sk]) (rest := []) ⟨hx, hb, hml, hown, hts⟩ (c_J5_putStringAt_47b60 l D H.size cI cB b v_3 cn cap_3 f_3 cn si sk (by omega) (by omega) hsi) (va_cwU (C := RJ4) 2 hts gJ5_append_cf1ce_J5_putStringAt_47b60_u208J4 rfl rfl rfl rfl (by decide +kernel) ⟨Nat.le_of_ble_eq_true rfl, Nat.le_of_ble_eq_true rfl⟩) ⟨pcsK_blind, va_recv hK hP (ci := 0) (q0 := 0) rfl rfl, (pcsK_pre (pcs_pre (fun h => h) hE hS hPc hK hDc hFc) hSK)⟩ rfl rfl hl.1 rfl (lv_room (Nat.le_of_ble_eq_true rfl)) dJ5_append_cf1ce_30 ⟨Nat.le_of_ble_eq_true rfl, Nat.le_of_ble_eq_true rfl⟩) hS (fun q _ h => hFc q h) hFc (fun u t H1 locs1 ht hvm hw hB hz1 hk1 hS => ?_)
  obtain ⟨hP, hD⟩ := aft (wr := []) (w1 := [(b, .inr (0, [.ref v_3, .int 0, .int 0, .int (nI cn)])), (v_3, .inl (cB, cap_3, .inl (ni (va_cpy (fun j => (sbL si).getD j 0) f_3 0 cn (sbL si).length))))]) (w2 := [(b, .inr (0, [.ref v_3, .int 0, .int 0, .int (nI cn)])), (v_3, .inl (cB, cap_3, .inl (ni (va_cpy (fun j => (sbL si).getD j 0) f_3 0 cn (sbL si).length))))]) hP hD [0, 1] [] [0, 1] rfl rfl (by decide) (by decide) hFc hk1 ht hB rfl (by decide) rfl
  clear hPc hDc hFc hk1 ht hB hz1 hvm
  generalize H1 = H at hP hS ⊢
  have hP : va_P D vwCl [(b, .inr (0, [.ref v_3, .int 0, .int 0, .int (nI cn)])), (v_3, .inl (cB, cap_3, .inl (ni (va_cpy (fun j => (sbL si).getD j 0) f_3 0 cn (sbL si).length))))] H := hP
  have hD : va_D A [(b, .inr (0, [.ref v_3, .int 0, .int 0, .int (nI cn)])), (v_3, .inl (cB, cap_3, .inl (ni (va_cpy (fun j => (sbL si).getD j 0) f_3 0 cn (sbL si).length))))] := hD
  refine lv_aload_n hx hb dJ5_append_cf1ce_33 rfl (lv_at hl 1 rfl) ?_
  refine lv_dup hx hb dJ5_append_cf1ce_34 rfl ?_
  refine va_get (ci := 0) (v := .int (nI cn)) (C := RJ4) (T := TJ4) (N := 4) hx hb hts in_J5_append_cf1ce_J4 hown hK hP 0 rfl rfl 3 (by decide) (hts (.fieldLink RJ5 79 "java/lang/AbstractStringBuilder" "count" "I") (by decide +kernel)) (fun _ h9 => h9) rfl dJ5_append_cf1ce_35 ?_
  refine lv_iload_n hx hb dJ5_append_cf1ce_38 rfl (lv_at hl 0 rfl) ?_
  refine lv_iadd hx hb dJ5_append_cf1ce_39 ?_
  refine tp (show (nI cn) + (nI ((sbL si).length)) = nI (cn + ((sbL si).length)) from nI_add cn ((sbL si).length)) ?_
  refine va_put (ci := 0) (v := .int (nI (cn + ((sbL si).length)))) (ty := .int) (C := RJ4) (T := TJ4) (N := 4) hx hb hts in_J5_append_cf1ce_J4 tyJ4 tyJ4_ok nmJ4 hown hK hP hD hS 0 rfl rfl 3 (by decide) (hts (.fieldLink RJ5 79 "java/lang/AbstractStringBuilder" "count" "I") (by decide +kernel)) (fun _ h9 => h9) rfl (by decide +kernel) rfl rfl (Nat.le_of_ble_eq_true rfl) dJ5_append_cf1ce_40 (fun H locs hP hD hS => ?_)
  have hP : va_P D vwCl [(b, .inr (0, [.ref v_3, .int 0, .int 0, .int (nI (cn + ((sbL si).length)))])), (v_3, .inl (cB, cap_3, .inl (ni (va_cpy (fun j => (sbL si).getD j 0) f_3 0 cn (sbL si).length))))] H := hP
  have hD : va_D A [(b, .inr (0, [.ref v_3, .int 0, .int 0, .int (nI (cn + ((sbL si).length)))])), (v_3, .inl (cB, cap_3, .inl (ni (va_cpy (fun j => (sbL si).getD j 0) f_3 0 cn (sbL si).length))))] := hD
  refine lv_aload_n hx hb dJ5_append_cf1ce_43 rfl (lv_at hl 1 rfl) ?_
  have hP9 := hP.sub (ws' := [(b, .inr (0, [.ref v_3, .int 0, .int 0, .int (nI (cn + ((sbL si).length)))])), (v_3, .inl (cB, cap_3, .inl (ni (va_cpy (fun j => (sbL si).getD j 0) f_3 0 cn (sbL si).length))))]) [0, 1] rfl
  have hD9 := hD.sub (ws' := [(b, .inr (0, [.ref v_3, .int 0, .int 0, .int (nI (cn + ((sbL si).length)))])), (v_3, .inl (cB, cap_3, .inl (ni (va_cpy (fun j => (sbL si).getD j 0) f_3 0 cn (sbL si).length))))]) [0, 1] (by decide) rfl
  exact W.aret (v := .ref b) hx hb hr (Or.inl ⟨_, rfl⟩) (Or.inr ⟨_, rfl⟩) (fun t ht hW => lfxr (v_3, cap_3, (va_cpy (fun j => (sbL si).getD j 0) f_3 0 cn (sbL si).length)) rfl ⟨tx_str (cap := cap_3) htx_3 hsi (by omega), hcp_3⟩ hP9 hK hD9 hS ht hW) hS.2.2 dJ5_append_cf1ce_44 hlocks
set_option maxHeartbeats 4000000 in
set_option maxRecDepth 100000 in
theorem c_J4_appI_f (l : Launch) (D : va_G) (sz : Nat) (cI : ClassId) (cB : ClassId) (b : Nat) (v : Nat) (cap : Nat) (cn : Nat) (f : Nat → Nat) (cs : List Nat) (nv : Nat) (htx : tx cap cn f cs) (hnv : nv < 1000) (hca : cn + rDig nv ≤ cap) : CT l yJ4_append_bf812 wsJ4_append_bf812 ({ frames := 2, cells := 0, slots := 0, locals := 49 }) true D ([(cI, .int), (cB, .byte)]) [(b, .inr (0, [.ref v, .int 0, .int 0, .int (nI cn)])), (v, .inl (cB, cap, .inl (ni f)))] sz [.ref b, .int (nI nv)] (qxr D ([(cI, .int), (cB, .byte)]) (fun u => tx u.2.1 (cn + rDig nv) u.2.2 (cs ++ dgs nv) ∧ u.2.1 = cap) b (fun u => [(b, .inr (0, [.ref u.1, .int 0, .int 0, .int (nI (cn + rDig nv))])), (u.1, .inl (cB, u.2.1, .inl (ni u.2.2)))])) 0 0 := by
  refine CT.of (cc := cJ4_append_bf812) (maxL := 2) (ret := (some (.object "java/lang/StringBuilder"))) (by decide) rfl (Nat.le_of_ble_eq_true rfl) ?_
  intro A p e s m args below meth c ls H locs En0 argsE hP hK hD hE hA hS hl
  obtain ⟨hx, hb, hr, hml, hown, hts, hlocks, hin⟩ := En0
  have hEw := (hE rfl).1
  have hP : va_P D vwCl [(b, .inr (0, [.ref v, .int 0, .int 0, .int (nI cn)])), (v, .inl (cB, cap, .inl (ni f)))] H := hP
  have hD : va_D A [(b, .inr (0, [.ref v, .int 0, .int 0, .int (nI cn)])), (v, .inl (cB, cap, .inl (ni f)))] := hD
  have hl : lv_has ls 2 [(0, .ref b), (1, .int (nI nv))] := hl
  refine lv_aload_n hx hb dJ4_append_bf812_0 rfl (lv_at hl 0 rfl) ?_
  refine lv_iload_n hx hb dJ4_append_bf812_1 rfl (lv_at hl 1 rfl) ?_
  have hPc := hP
  have hDc := hD
  have hFc := va_free (wc := [(b, .inr (0, [.ref v, .int 0, .int 0, .int (nI cn)])), (v, .inl (cB, cap, .inl (ni f)))]) hD hS hA [0, 1] rfl
  refine va_callr (va_runSU (C := RJ4) (As := [.int (nI nv)]) (rest := []) (hK.1 0 _ rfl).2 ⟨hx, hb, hml, hown, hts⟩ (c_J5_appI_f l D H.size cI cB b v cap cn f cs nv htx (by omega) (by omega)) (va_cwSU 1 hts gJ4_append_bf812_J5_append_c97b9_s53 rfl rfl rfl (by decide +kernel) ⟨Nat.le_of_ble_eq_true rfl, Nat.le_of_ble_eq_true rfl⟩) ⟨pcs_blind, va_recv hK hP (ci := 0) (q0 := 0) rfl rfl, (pcs_pre (fun h => h) hE hS hPc hK hDc hFc)⟩ rfl rfl hl.1 rfl (lv_room (Nat.le_of_ble_eq_true rfl)) dJ4_append_bf812_2 ⟨Nat.le_of_ble_eq_true rfl, Nat.le_of_ble_eq_true rfl⟩) hS (fun q _ h => hFc q h) hFc (fun u_2 r_1 t H1 locs1 ht hvm hw hB hz1 hk1 hS => ?_)
  obtain ⟨v_2, cap_2, f_2⟩ := u_2
  obtain ⟨hw1, hB⟩ := hB
  have hw1 : r_1 = b := hw1
  rw [hw1]
  have htx_2 : tx cap_2 (cn + rDig nv) f_2 (cs ++ dgs nv) := hw.1
  have hcp_2 : cap_2 = cap := hw.2
  obtain ⟨hP, hD⟩ := aft (wr := []) (w1 := [(b, .inr (0, [.ref v_2, .int 0, .int 0, .int (nI (cn + rDig nv))])), (v_2, .inl (cB, cap_2, .inl (ni f_2)))]) (w2 := [(b, .inr (0, [.ref v_2, .int 0, .int 0, .int (nI (cn + rDig nv))])), (v_2, .inl (cB, cap_2, .inl (ni f_2)))]) hP hD [0, 1] [] [0, 1] rfl rfl (by decide) (by decide) hFc hk1 ht hB rfl (by decide) rfl
  clear hPc hDc hFc hk1 ht hB hz1 hvm
  generalize H1 = H at hP hS ⊢
  have hP : va_P D vwCl [(b, .inr (0, [.ref v_2, .int 0, .int 0, .int (nI (cn + rDig nv))])), (v_2, .inl (cB, cap_2, .inl (ni f_2)))] H := hP
  have hD : va_D A [(b, .inr (0, [.ref v_2, .int 0, .int 0, .int (nI (cn + rDig nv))])), (v_2, .inl (cB, cap_2, .inl (ni f_2)))] := hD
  refine lv_pop hx hb dJ4_append_bf812_5 rfl ?_
  refine lv_aload_n hx hb dJ4_append_bf812_6 rfl (lv_at hl 0 rfl) ?_
  have hP9 := hP.sub (ws' := [(b, .inr (0, [.ref v_2, .int 0, .int 0, .int (nI (cn + rDig nv))])), (v_2, .inl (cB, cap_2, .inl (ni f_2)))]) [0, 1] rfl
  have hD9 := hD.sub (ws' := [(b, .inr (0, [.ref v_2, .int 0, .int 0, .int (nI (cn + rDig nv))])), (v_2, .inl (cB, cap_2, .inl (ni f_2)))]) [0, 1] (by decide) rfl
  exact W.aret (v := .ref b) hx hb hr (Or.inl ⟨_, rfl⟩) (Or.inr ⟨_, rfl⟩) (fun t ht hW => lfxr (v_2, cap_2, f_2) rfl ⟨htx_2, hcp_2⟩ hP9 hK hD9 hS ht hW) hS.2.2 dJ4_append_bf812_7 hlocks
set_option maxHeartbeats 4000000 in
set_option maxRecDepth 100000 in
theorem c_J4_appC_f (l : Launch) (D : va_G) (sz : Nat) (cI : ClassId) (cB : ClassId) (b : Nat) (v : Nat) (cap : Nat) (cn : Nat) (f : Nat → Nat) (cs : List Nat) (cv : Nat) (htx : tx cap cn f cs) (hcv : cv < 128) (hca : cn + 1 ≤ cap) : CT l yJ4_append_cf468 wsJ4_append_cf468 ({ frames := 2, cells := 0, slots := 0, locals := 43 }) true D ([(cI, .int), (cB, .byte)]) [(b, .inr (0, [.ref v, .int 0, .int 0, .int (nI cn)])), (v, .inl (cB, cap, .inl (ni f)))] sz [.ref b, .int (nI cv)] (qxr D ([(cI, .int), (cB, .byte)]) (fun u => tx u.2.1 (cn + 1) u.2.2 (cs ++ [cv]) ∧ u.2.1 = cap) b (fun u => [(b, .inr (0, [.ref u.1, .int 0, .int 0, .int (nI (cn + 1))])), (u.1, .inl (cB, u.2.1, .inl (ni u.2.2)))])) 0 0 := by
  refine CT.of (cc := cJ4_append_cf468) (maxL := 2) (ret := (some (.object "java/lang/StringBuilder"))) (by decide) rfl (Nat.le_of_ble_eq_true rfl) ?_
  intro A p e s m args below meth c ls H locs En0 argsE hP hK hD hE hA hS hl
  obtain ⟨hx, hb, hr, hml, hown, hts, hlocks, hin⟩ := En0
  have hEw := (hE rfl).1
  have hP : va_P D vwCl [(b, .inr (0, [.ref v, .int 0, .int 0, .int (nI cn)])), (v, .inl (cB, cap, .inl (ni f)))] H := hP
  have hD : va_D A [(b, .inr (0, [.ref v, .int 0, .int 0, .int (nI cn)])), (v, .inl (cB, cap, .inl (ni f)))] := hD
  have hl : lv_has ls 2 [(0, .ref b), (1, .int (nI cv))] := hl
  refine lv_aload_n hx hb dJ4_append_cf468_0 rfl (lv_at hl 0 rfl) ?_
  refine lv_iload_n hx hb dJ4_append_cf468_1 rfl (lv_at hl 1 rfl) ?_
  have hPc := hP
  have hDc := hD
  have hFc := va_free (wc := [(b, .inr (0, [.ref v, .int 0, .int 0, .int (nI cn)])), (v, .inl (cB, cap, .inl (ni f)))]) hD hS hA [0, 1] rfl
  refine va_callr (va_runSU (C := RJ4) (As := [.int (nI cv)]) (rest := []) (hK.1 0 _ rfl).2 ⟨hx, hb, hml, hown, hts⟩ (c_J5_appC_f l D H.size cI cB b v cap cn f cs cv htx (by omega) (by omega)) (va_cwSU 1 hts gJ4_append_cf468_J5_append_3fe6f_s50 rfl rfl rfl (by decide +kernel) ⟨Nat.le_of_ble_eq_true rfl, Nat.le_of_ble_eq_true rfl⟩) ⟨pcs_blind, va_recv hK hP (ci := 0) (q0 := 0) rfl rfl, (pcs_pre (fun h => h) hE hS hPc hK hDc hFc)⟩ rfl rfl hl.1 rfl (lv_room (Nat.le_of_ble_eq_true rfl)) dJ4_append_cf468_2 ⟨Nat.le_of_ble_eq_true rfl, Nat.le_of_ble_eq_true rfl⟩) hS (fun q _ h => hFc q h) hFc (fun u_2 r_1 t H1 locs1 ht hvm hw hB hz1 hk1 hS => ?_)
  obtain ⟨v_2, cap_2, f_2⟩ := u_2
  obtain ⟨hw1, hB⟩ := hB
  have hw1 : r_1 = b := hw1
  rw [hw1]
  have htx_2 : tx cap_2 (cn + 1) f_2 (cs ++ [cv]) := hw.1
  have hcp_2 : cap_2 = cap := hw.2
  obtain ⟨hP, hD⟩ := aft (wr := []) (w1 := [(b, .inr (0, [.ref v_2, .int 0, .int 0, .int (nI (cn + 1))])), (v_2, .inl (cB, cap_2, .inl (ni f_2)))]) (w2 := [(b, .inr (0, [.ref v_2, .int 0, .int 0, .int (nI (cn + 1))])), (v_2, .inl (cB, cap_2, .inl (ni f_2)))]) hP hD [0, 1] [] [0, 1] rfl rfl (by decide) (by decide) hFc hk1 ht hB rfl (by decide) rfl
  clear hPc hDc hFc hk1 ht hB hz1 hvm
  generalize H1 = H at hP hS ⊢
  have hP : va_P D vwCl [(b, .inr (0, [.ref v_2, .int 0, .int 0, .int (nI (cn + 1))])), (v_2, .inl (cB, cap_2, .inl (ni f_2)))] H := hP
  have hD : va_D A [(b, .inr (0, [.ref v_2, .int 0, .int 0, .int (nI (cn + 1))])), (v_2, .inl (cB, cap_2, .inl (ni f_2)))] := hD
  refine lv_pop hx hb dJ4_append_cf468_5 rfl ?_
  refine lv_aload_n hx hb dJ4_append_cf468_6 rfl (lv_at hl 0 rfl) ?_
  have hP9 := hP.sub (ws' := [(b, .inr (0, [.ref v_2, .int 0, .int 0, .int (nI (cn + 1))])), (v_2, .inl (cB, cap_2, .inl (ni f_2)))]) [0, 1] rfl
  have hD9 := hD.sub (ws' := [(b, .inr (0, [.ref v_2, .int 0, .int 0, .int (nI (cn + 1))])), (v_2, .inl (cB, cap_2, .inl (ni f_2)))]) [0, 1] (by decide) rfl
  exact W.aret (v := .ref b) hx hb hr (Or.inl ⟨_, rfl⟩) (Or.inr ⟨_, rfl⟩) (fun t ht hW => lfxr (v_2, cap_2, f_2) rfl ⟨htx_2, hcp_2⟩ hP9 hK hD9 hS ht hW) hS.2.2 dJ4_append_cf468_7 hlocks
set_option maxHeartbeats 4000000 in
set_option maxRecDepth 100000 in
theorem c_J4_appS_f (l : Launch) (D : va_G) (sz : Nat) (cI : ClassId) (cB : ClassId) (b : Nat) (v : Nat) (cap : Nat) (cn : Nat) (f : Nat → Nat) (cs : List Nat) (si : Nat) (sk : Nat) (htx : tx cap cn f cs) (hca : cn + (sbL si).length ≤ cap) (hsi : si < 9) : CTK l yJ4_append_15ec4 wsJ4_append_15ec4 ({ frames := 4, cells := 0, slots := 0, locals := 127 }) true D ([(cI, .int), (cB, .byte)]) [(b, .inr (0, [.ref v, .int 0, .int 0, .int (nI cn)])), (v, .inl (cB, cap, .inl (ni f)))] sz si sk [.ref b, .ref sk] (qxr D ([(cI, .int), (cB, .byte)]) (fun u => tx u.2.1 (cn + (sbL si).length) u.2.2 (cs ++ sbL si) ∧ u.2.1 = cap) b (fun u => [(b, .inr (0, [.ref u.1, .int 0, .int 0, .int (nI (cn + (sbL si).length))])), (u.1, .inl (cB, u.2.1, .inl (ni u.2.2)))])) 0 0 := by
  refine CTK.of (cc := cJ4_append_15ec4) (maxL := 2) (ret := (some (.object "java/lang/StringBuilder"))) (by decide) rfl (Nat.le_of_ble_eq_true rfl) ?_
  intro A p e s m args below meth c ls H locs En0 hSK argsE hP hK hD hE hA hS hl
  obtain ⟨hx, hb, hr, hml, hown, hts, hlocks, hin⟩ := En0
  have hEw := (hE rfl).1
  have hP : va_P D vwCl [(b, .inr (0, [.ref v, .int 0, .int 0, .int (nI cn)])), (v, .inl (cB, cap, .inl (ni f)))] H := hP
  have hD : va_D A [(b, .inr (0, [.ref v, .int 0, .int 0, .int (nI cn)])), (v, .inl (cB, cap, .inl (ni f)))] := hD
  have hl : lv_has ls 2 [(0, .ref b), (1, .ref sk)] := hl
  obtain ⟨hz0, hcs, hOn, hTn, hstr⟩ := (hE rfl).2.2
  obtain ⟨sv, hsO, hsC, hsV, hsT⟩ := strK_S (hE rfl).2.2 hSK hsi
  have hsl : (sbL si).length ≤ 9 := (sb_2 si hsi).2
  refine lv_aload_n hx hb dJ4_append_15ec4_0 rfl (lv_at hl 0 rfl) ?_
  refine lv_aload_n hx hb dJ4_append_15ec4_1 rfl (lv_at hl 1 rfl) ?_
  have hPc := hP
  have hDc := hD
  have hFc := va_free (wc := [(b, .inr (0, [.ref v, .int 0, .int 0, .int (nI cn)])), (v, .inl (cB, cap, .inl (ni f)))]) hD hS hA [0, 1] rfl
  refine va_callr (va_runSU (C := RJ4) (As := [.ref sk]) (rest := []) (hK.1 0 _ rfl).2 ⟨hx, hb, hml, hown, hts⟩ (c_J5_appS_f l D H.size cI cB b v cap cn f cs si sk htx (by omega) hsi) (va_cwSU 1 hts gJ4_append_15ec4_J5_append_cf1ce_s29 rfl rfl rfl (by decide +kernel) ⟨Nat.le_of_ble_eq_true rfl, Nat.le_of_ble_eq_true rfl⟩) ⟨pcsK_blind, va_recv hK hP (ci := 0) (q0 := 0) rfl rfl, (pcsK_pre (pcs_pre (fun h => h) hE hS hPc hK hDc hFc) hSK)⟩ rfl rfl hl.1 rfl (lv_room (Nat.le_of_ble_eq_true rfl)) dJ4_append_15ec4_2 ⟨Nat.le_of_ble_eq_true rfl, Nat.le_of_ble_eq_true rfl⟩) hS (fun q _ h => hFc q h) hFc (fun u_2 r_1 t H1 locs1 ht hvm hw hB hz1 hk1 hS => ?_)
  obtain ⟨v_2, cap_2, f_2⟩ := u_2
  obtain ⟨hw1, hB⟩ := hB
  have hw1 : r_1 = b := hw1
  rw [hw1]
  have htx_2 : tx cap_2 (cn + (sbL si).length) f_2 (cs ++ sbL si) := hw.1
  have hcp_2 : cap_2 = cap := hw.2
  obtain ⟨hP, hD⟩ := aft (wr := []) (w1 := [(b, .inr (0, [.ref v_2, .int 0, .int 0, .int (nI (cn + (sbL si).length))])), (v_2, .inl (cB, cap_2, .inl (ni f_2)))]) (w2 := [(b, .inr (0, [.ref v_2, .int 0, .int 0, .int (nI (cn + (sbL si).length))])), (v_2, .inl (cB, cap_2, .inl (ni f_2)))]) hP hD [0, 1] [] [0, 1] rfl rfl (by decide) (by decide) hFc hk1 ht hB rfl (by decide) rfl
  clear hPc hDc hFc hk1 ht hB hz1 hvm
  generalize H1 = H at hP hS ⊢
  have hP : va_P D vwCl [(b, .inr (0, [.ref v_2, .int 0, .int 0, .int (nI (cn + (sbL si).length))])), (v_2, .inl (cB, cap_2, .inl (ni f_2)))] H := hP
  have hD : va_D A [(b, .inr (0, [.ref v_2, .int 0, .int 0, .int (nI (cn + (sbL si).length))])), (v_2, .inl (cB, cap_2, .inl (ni f_2)))] := hD
  refine lv_pop hx hb dJ4_append_15ec4_5 rfl ?_
  refine lv_aload_n hx hb dJ4_append_15ec4_6 rfl (lv_at hl 0 rfl) ?_
  have hP9 := hP.sub (ws' := [(b, .inr (0, [.ref v_2, .int 0, .int 0, .int (nI (cn + (sbL si).length))])), (v_2, .inl (cB, cap_2, .inl (ni f_2)))]) [0, 1] rfl
  have hD9 := hD.sub (ws' := [(b, .inr (0, [.ref v_2, .int 0, .int 0, .int (nI (cn + (sbL si).length))])), (v_2, .inl (cB, cap_2, .inl (ni f_2)))]) [0, 1] (by decide) rfl
  exact W.aret (v := .ref b) hx hb hr (Or.inl ⟨_, rfl⟩) (Or.inr ⟨_, rfl⟩) (fun t ht hW => lfxr (v_2, cap_2, f_2) rfl ⟨htx_2, hcp_2⟩ hP9 hK hD9 hS ht hW) hS.2.2 dJ4_append_15ec4_7 hlocks
