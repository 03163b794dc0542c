/-! ===== the law's calls ===== -/
noncomputable def w1 {α : Type} (A : Prop) (r : Int32) (s s' : α) : Int32 × Int32 × α := @ite _ A (Classical.propDecidable _) (0, r, s') (1, 0, s)
noncomputable def w2 {α : Type} (A B : Prop) (r : Int32) (s s' : α) : Int32 × Int32 × α := @ite _ A (Classical.propDecidable _) (@ite _ B (Classical.propDecidable _) (0, r, s') (2, 0, s)) (1, 0, s)
noncomputable def w3 {α : Type} (A B C : Prop) (r : Int32) (s s' : α) : Int32 × Int32 × α := @ite _ A (Classical.propDecidable _) (@ite _ B (Classical.propDecidable _) (@ite _ C (Classical.propDecidable _) (0, r, s') (3, 0, s)) (2, 0, s)) (1, 0, s)
theorem w1_0 {α : Type} {A : Prop} {r : Int32} {s s' : α} (h : A) : w1 A r s s' = (0, r, s') := if_pos h
theorem w1_1 {α : Type} {A : Prop} {r : Int32} {s s' : α} (h : ¬ A) : w1 A r s s' = (1, 0, s) := if_neg h
theorem w2_0 {α : Type} {A B : Prop} {r : Int32} {s s' : α} (h : A ∧ B) : w2 A B r s s' = (0, r, s') := (if_pos h.1).trans (if_pos h.2)
theorem w2_1 {α : Type} {A B : Prop} {r : Int32} {s s' : α} (h : ¬ A) : w2 A B r s s' = (1, 0, s) := if_neg h
theorem w2_2 {α : Type} {A B : Prop} {r : Int32} {s s' : α} (h : A ∧ ¬ B) : w2 A B r s s' = (2, 0, s) := (if_pos h.1).trans (if_neg h.2)
theorem w3_0 {α : Type} {A B C : Prop} {r : Int32} {s s' : α} (h : A ∧ B ∧ C) : w3 A B C r s s' = (0, r, s') := (if_pos h.1).trans ((if_pos h.2.1).trans (if_pos h.2.2))
theorem w3_1 {α : Type} {A B C : Prop} {r : Int32} {s s' : α} (h : ¬ A) : w3 A B C r s s' = (1, 0, s) := if_neg h
theorem w3_2 {α : Type} {A B C : Prop} {r : Int32} {s s' : α} (h : A ∧ ¬ B) : w3 A B C r s s' = (2, 0, s) := (if_pos h.1).trans (if_neg h.2)
theorem w3_3 {α : Type} {A B C : Prop} {r : Int32} {s s' : α} (h : A ∧ B ∧ ¬ C) : w3 A B C r s s' = (3, 0, s) := (if_pos h.1).trans ((if_pos h.2.1).trans (if_neg h.2.2))
def qio (D : va_G) (tys : List (ClassId × FieldType)) (k x : Int32) (w : (Nat → Int64) → va_W) : (Nat → Prop) → Array Value → State → Outcome → State → Prop := fun A => va_Qi (fun r (o : Nat → Int64) => r = k ∧ (r = 0 → o 0 = x.toInt64)) (fun o t => bb D tys (w o) A t) A
theorem lfo {D : va_G} {tys : List (ClassId × FieldType)} {k x : Int32} {w : (Nat → Int64) → va_W} {A : Nat → Prop} {s t : State} {H : Heap} {locs : List Loc} {args : Array Value} {r : Int32} (o : Nat → Int64) (hr : r = k ∧ (r = 0 → o 0 = x.toInt64)) (hP : va_P D vwCl (w o) H) (hK : va_K D vwCl tys s) (hD : va_D A (w o)) (hS : va_S A s.heap H locs) (ht : t.heap = H) (hW : s.WarmedH t.vm) : qio D tys k x w A args s (.returned (some (.int r))) t := ⟨⟨r, o, rfl, hr, lfb hP hK hD ht hW⟩, hS.F ht⟩
def CL (l : Launch) (y : MethodName) (ws : List Cond) (rm : Room) (z : Bool) (D : va_G) (tys : List (ClassId × FieldType)) (w : va_W) (sz : Nat) (av : List Value) (Q : (Nat → Prop) → Array Value → State → Outcome → State → Prop) (mc ms : Nat) : Prop :=
  vx_Met l y ws rm (pcs z D tys w sz av) (Q (va_A w sz)) (qx D tys (fun _ => False) w (va_A w sz)) mc ms (va_A w sz)
theorem CL.of {l : Launch} {y : MethodName} {ws ws' : List Cond} {rm : Room} {z : Bool} {D : va_G} {tys : List (ClassId × FieldType)} {w : va_W} {sz : Nat} {av : List Value} {Q : (Nat → Prop) → Array Value → State → Outcome → State → Prop} {mc ms : Nat} {cc : ByteArray} {maxL : Nat} {ret : Option FieldType} {hh : List (Nat × Nat × Nat × Nat)}
    (hy : plainName y.cls = true) (hw : ws = Cond.codeWith y cc maxL ret hh :: ws') (hl : (lg_sl av).length ≤ maxL)
    (body : ∀ (A : Nat → Prop) (p : Program) (e : Env) (s : State) (m : MethodId) (args : Array Value) (below : List Frame) (meth : Method) (c : Code) (ls : Array Slot) (H : Heap) (locs : List Loc), En p s m args meth c cc maxL ret y.cls y.name ws → c.exceptionTable.toList = tableOf hh → args = av.toArray → va_P D vwCl w H → va_K D vwCl tys s → va_D A w → (z = true → ev A s s.heap) → (∀ q : Nat, s.heap.size ≤ q → A q) → va_S A s.heap H locs → lv_has ls maxL (lv_args 0 av) →
      W p l e rm s m args below meth c H locs 0 0 (vx_MQ below (Q A) (qx D tys (fun _ => False) w A) args s mc ms A) (F0 m 0 ls [])) : CL l y ws rm z D tys w sz av Q mc ms := by
  refine vx_ofWH (cc := cc) (maxL := maxL) (ret := ret) (hh := hh) hy hw ?_
  intro p e s m args below meth c s₁ B hml hv
  obtain ⟨rfl, hsz, hP, hK, hD0, hE⟩ := hv
  subst hsz
  rw [lg_entry_eq]
  have hpre := atoms_spec (ws := ws) B.pre
  exact body (va_A w s.heap.size) p e s m _ below meth c _ _ _ ⟨B.exec, B.bytes, B.returns, hml, findClass_of_methodNamed B.named, hpre, B.notSynchronized, (name_of_methodNamed B.named B.method).1⟩ (vx_table (x := y) B (hpre _ (by rw [hw]; exact List.mem_cons_self))) rfl hP hK hD0.self hE (fun q h => Or.inr h) va_S.rf (lv_entry av hl)
theorem up_out {f : Nat → Int64} {x : Int64} : vp_updL f 0 x 0 = x := pk_uLs
theorem out_t {P : Prop} (h : P) : (1 : Int64) = (b2i P).toInt64 := by rw [← b2i_t h]; rfl
theorem out_f {P : Prop} (h : ¬ P) : (0 : Int64) = (b2i P).toInt64 := by rw [← b2i_f h]; rfl
theorem out_1 {x : Int32} (h01 : x = 0 ∨ x = 1) (h : ¬ x = 0) : (1 : Int64) = x.toInt64 := by rw [h01.resolve_left h]; rfl
theorem out_0 {x : Int32} (h : x = 0) : (0 : Int64) = x.toInt64 := by rw [h]; rfl
