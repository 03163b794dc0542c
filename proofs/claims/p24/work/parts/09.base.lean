/-! ===== what a contract is here: its world, what it leaves, what it takes of the launch ===== -/
noncomputable def b2i (P : Prop) : Int32 := @ite Int32 P (Classical.propDecidable P) 1 0
theorem b2i_0 {P : Prop} : b2i P = 0 ↔ ¬ P := by
  unfold b2i
  by_cases h : P
  · rw [if_pos h]; exact ⟨fun z => absurd z (by decide), fun z => absurd h z⟩
  · rw [if_neg h]; exact ⟨fun _ => h, fun _ => rfl⟩
theorem b2i_n {P : Prop} : ¬ b2i P = 0 ↔ P := by
  rw [b2i_0]; exact ⟨fun h => Classical.byContradiction h, fun h z => z h⟩
theorem b2i_t {P : Prop} (h : P) : (1 : Int32) = b2i P := (if_pos h).symm
theorem b2i_f {P : Prop} (h : ¬ P) : (0 : Int32) = b2i P := (if_neg h).symm
theorem b2i_nar {P : Prop} : narrow .boolean (.int (b2i P)) = .int (b2i P) := by
  unfold b2i
  by_cases h : P
  · rw [if_pos h]; rfl
  · rw [if_neg h]; rfl
theorem b2i_c {P Q : Prop} (h : P ↔ Q) : b2i P = b2i Q := by
  by_cases p : P
  · rw [← b2i_t p, ← b2i_t (h.mp p)]
  · rw [← b2i_f p, ← b2i_f (fun q => p (h.mpr q))]
/-- an array of naturals -/
def ni (f : Nat → Nat) : Nat → Int32 := fun j => nI (f j)
theorem upd_ni {f : Nat → Nat} {k v : Nat} : upd (ni f) k (nI v) = ni (va_up f k v) := by
  funext j
  show (if j = k then nI v else nI (f j)) = nI (if j = k then v else f j)
  by_cases h : j = k
  · rw [if_pos h, if_pos h]
  · rw [if_neg h, if_neg h]
/-! what of the launch a method takes: words of nest mates, castable words, the statics of a throw, of a text -/
def evF : List (String × Nat × String × String × String) := [("SessionFix", 63, "SessionFix$Store", "sentCount", "I"), ("SessionFix", 103, "SessionFix$Store", "expects", "I"), ("SessionFix", 140, "SessionFix$Store", "keyCount", "I"), ("SessionFix", 146, "SessionFix$Store", "doubleCount", "I"), ("SessionFix", 114, "SessionFix$Wire", "count", "I"), ("SessionFix", 34, "SessionFix$Side", "store", "LSessionFix$Store;"), ("SessionFix", 110, "SessionFix$Side", "incoming", "LSessionFix$Wire;"), ("SessionFix", 31, "SessionFix$Side", "state", "I"), ("SessionFix", 106, "SessionFix$Side", "hasResendWaiting", "Z"), ("SessionFix", 212, "SessionFix$Side", "askedAt", "I"), ("SessionFix", 222, "SessionFix$Side", "heardAt", "I"), ("SessionFix", 166, "SessionFix$Side", "putAt", "I"), ("SessionFix", 225, "SessionFix$Side", "hasTested", "Z")]
def evM : List (String × Nat × MethodName) := [("SessionFix", 9, ⟨"SessionFix$Side", "<init>", "()V"⟩), ("SessionFix$Side", 11, ⟨"SessionFix$Store", "<init>", "()V"⟩), ("SessionFix$Side", 20, ⟨"SessionFix$Wire", "<init>", "()V"⟩)]
def evC : List (String × String) := [("java/lang/IndexOutOfBoundsException", "java/lang/IndexOutOfBoundsException"), ("java/lang/IllegalStateException", "java/lang/IllegalStateException"), ("java/lang/IllegalArgumentException", "java/lang/IllegalArgumentException"), ("[B", "java/lang/Cloneable")]
def evN : List (String × String) := [("java/lang/IllegalStateException", "java/lang/IndexOutOfBoundsException"), ("java/lang/IllegalArgumentException", "java/lang/IndexOutOfBoundsException"), ("java/lang/IndexOutOfBoundsException", "java/lang/IllegalStateException"), ("java/lang/IllegalArgumentException", "java/lang/IllegalStateException"), ("java/lang/IndexOutOfBoundsException", "java/lang/IllegalArgumentException"), ("java/lang/IllegalStateException", "java/lang/IllegalArgumentException")]
def evD : List MethodName := [⟨"java/lang/RuntimeException", "<init>", "()V"⟩, ⟨"java/lang/Exception", "<init>", "()V"⟩, ⟨"java/lang/Throwable", "<init>", "()V"⟩]
def evW (U : State) : Prop := (∀ q ∈ evF, va_Nw (.fieldLinkNest q.1 q.2.1 q.2.2.1 q.2.2.2.1 q.2.2.2.2 "SessionFix") U) ∧ (∀ q ∈ evM, va_Nw (.methodLinkNest q.1 q.2.1 q.2.2 "SessionFix") U) ∧ (∀ q ∈ evC, va_Nw (.castable q.1 q.2) U) ∧ (∀ q ∈ evD, va_Nw (.declares q) U) ∧ (∀ q ∈ evN, va_Nc q.1 q.2 U)
theorem evW.same {u U : State} (h : u.vm = U.vm) (k : evW u) : evW U :=
  ⟨fun q hq => va_Nw.same rfl h (k.1 q hq), fun q hq => va_Nw.same rfl h (k.2.1 q hq), fun q hq => va_Nw.same rfl h (k.2.2.1 q hq), fun q hq => va_Nw.same rfl h (k.2.2.2.1 q hq), fun q hq => va_Nc.moved (by rw [h]; exact Vm.Alike.refl U.vm) (k.2.2.2.2 q hq)⟩
theorem evW.warm {s U : State} (hW : s.WarmedH U.vm) (k : evW s) : evW U :=
  ⟨fun q hq => va_Nw.warmF hW (k.1 q hq), fun q hq => va_Nw.warmM hW (k.2.1 q hq), fun q hq => va_Nw.warmC hW (k.2.2.1 q hq), fun q hq => va_Nw.warmD hW (k.2.2.2.1 q hq), fun q hq => va_Nc.moved hW.alike (k.2.2.2.2 q hq)⟩
abbrev nms : List String := ["java/lang/RuntimeException", "java/lang/Exception"]
def nbw (X : String) : List Cond := [.castable X X, .declares ⟨"java/lang/RuntimeException", "<init>", "()V"⟩, .declares ⟨"java/lang/Exception", "<init>", "()V"⟩, .declares ⟨"java/lang/Throwable", "<init>", "()V"⟩]
theorem hat0 {own X : String} {ic : Nat} {ws : List Cond} {args : Array Value} {s : State} (hE : evW s) (hts : ∀ w ∈ ws, w.before args s = true) (h1 : ∀ w ∈ (vx_at0 own ic X nms).filter goodWord, w ∈ ws) (h2 : ∀ w ∈ (vx_at0 own ic X nms).filter (fun w => !goodWord w), w ∈ nbw X) (hX : (X, X) ∈ evC) : ∀ w ∈ vx_at0 own ic X nms, w.before args s = true :=
  vx_hat (fun w h => hts w (h1 w h)) h2 (vx_c (va_Nw.use rfl (hE.2.2.1 (X, X) hX)) (vx_c (va_Nw.use rfl (hE.2.2.2.1 _ (List.mem_cons_self))) (vx_c (va_Nw.use rfl (hE.2.2.2.1 _ (List.mem_cons_of_mem _ List.mem_cons_self))) (vx_c (va_Nw.use rfl (hE.2.2.2.1 _ (List.mem_cons_of_mem _ (List.mem_cons_of_mem _ List.mem_cons_self)))) vx_n))))
/-- the texts: the constant's entry, the text, its bytes -/
def evTx : List (Nat × String) := [(48, "LOGON"), (50, "HEARTBEAT"), (52, "TEST"), (54, "RESEND"), (56, "FILL"), (58, "BUSINESS"), (60, "LOGOUT"), (43, " D"), (46, " P")]
def evLn : List Nat := [5, 9, 4, 6, 4, 8, 6, 2, 2]
def evBy : List (List Int32) := [[76, 79, 71, 79, 78], [72, 69, 65, 82, 84, 66, 69, 65, 84], [84, 69, 83, 84], [82, 69, 83, 69, 78, 68], [70, 73, 76, 76], [66, 85, 83, 73, 78, 69, 83, 83], [76, 79, 71, 79, 85, 84], [32, 68], [32, 80]]
def evOnes (j : Nat) : Int32 := Int32.ofNat (48 + j % 10)
def evTens (j : Nat) : Int32 := Int32.ofNat (48 + j / 10)
def evT (A : Nat → Prop) (U : State) (H : Heap) : Prop :=
  va_Zq "jdk/internal/util/Preconditions" "SIOOBE_FORMATTER" "Ljava/util/function/BiFunction;" A U H ∧ va_Z "java/lang/String" "COMPACT_STRINGS" "Z" (.int 1) A U H ∧
  (∃ t : Nat, va_Z "java/lang/Integer" "DigitOnes" "[B" (.ref t) A U H ∧ va_T .byte t 100 (fun j => .int (evOnes j)) A U H) ∧
  (∃ t : Nat, va_Z "java/lang/Integer" "DigitTens" "[B" (.ref t) A U H ∧ va_T .byte t 100 (fun j => .int (evTens j)) A U H) ∧
  ∃ adK adV : Nat → Nat, vk_S 9 evLn evBy adK adV A U H ∧ ∀ (i : Nat) (q : Nat × String), evTx[i]? = some q → vk_R "SessionFix$Message" q.1 q.2 (adK i) U
def ev (A : Nat → Prop) (U : State) (H : Heap) : Prop := evW U ∧ (vx_Zq Bundle.tN "UNASSIGNED_STACK" Bundle.steD A U H ∧ vx_Zq Bundle.tN "SUPPRESSED_SENTINEL" Bundle.listD A U H) ∧ evT A U H
theorem ev.same {A : Nat → Prop} {u U : State} {H : Heap} (h : u.vm = U.vm) (k : ev A u H) : ev A U H := by
  have ha : u.vm.Alike U.vm := by rw [h]; exact Vm.Alike.refl U.vm
  obtain ⟨k1, ⟨k2, k3⟩, k0, k4, ⟨t1, k5, k6⟩, ⟨t2, k7, k8⟩, ⟨aK, aV, k9, k10⟩⟩ := k
  exact ⟨k1.same h, ⟨k2.moved ha, k3.moved ha⟩, k0.moved ha, k4.moved ha, ⟨t1, k5.moved ha, k6.moved ha⟩, ⟨t2, k7.moved ha, k8.moved ha⟩, aK, aV, k9.moved ha, fun i q hq => vk_R.same h.symm (k10 i q hq)⟩
/-- .. at a call -/
theorem ev.call {A B : Nat → Prop} {s U : State} {H : Heap} {locs : List Loc} (k : ev A s s.heap) (hS : va_S A s.heap H locs) (hW : s.WarmedH U.vm) (hB : ∀ q, B q → A q) : ev B U H := by
  obtain ⟨k1, ⟨k2, k3⟩, k0, k4, ⟨t1, k5, k6⟩, ⟨t2, k7, k8⟩, ⟨aK, aV, k9, k10⟩⟩ := k
  have hq := hS.2.1
  have ha := hW.alike
  exact ⟨k1.warm hW, ⟨((k2.moved ha).kept hq).narrow hB, ((k3.moved ha).kept hq).narrow hB⟩, ((k0.moved ha).kept hq).narrow hB, ((k4.moved ha).kept hq).narrow hB, ⟨t1, ((k5.moved ha).kept hq).narrow hB, ((k6.moved ha).kept hq).narrow hB⟩, ⟨t2, ((k7.moved ha).kept hq).narrow hB, ((k8.moved ha).kept hq).narrow hB⟩, aK, aV, ((k9.moved ha).kept hq).narrow hB, fun i q hi => vk_R.warm hW (k10 i q hi)⟩
/-! a contract: begins in the world W, leaves what Q says -/
def pcs (z : Bool) (D : va_G) (tys : List (ClassId × FieldType)) (w : va_W) (sz : Nat) (av : List Value) : Array Value → State → Prop := va_Pc av (fun U => U.heap.size = sz ∧ va_P D vwCl w U.heap ∧ va_K D vwCl tys U ∧ va_D (fun _ => True) w ∧ (z = true → ev (va_A w sz) U U.heap))
theorem pcs_blind {z : Bool} {D : va_G} {tys : List (ClassId × FieldType)} {w : va_W} {sz : Nat} {av : List Value} : FrameBlind (pcs z D tys w sz av) := fun a U g mk q => by
  obtain ⟨q0, q1, q2, q3, q4, q5⟩ := q
  exact ⟨q0, q1, q2, va_K.moved (u := U) (U := U.calling g mk a) (Vm.Alike.refl U.vm) q3, q4, fun h => ev.same (u := U) (U := U.calling g mk a) rfl (q5 h)⟩
theorem pcs_pre {z0 z : Bool} {D : va_G} {tys : List (ClassId × FieldType)} {wc : va_W} {s : State} {H : Heap} {locs : List Loc} {A A1 : Nat → Prop} {av : List Value} (hz : z = true → z0 = true) (hE : z0 = true → ev A s s.heap) (hS : va_S A s.heap H locs) (hP : va_P D vwCl wc H) (hK : va_K D vwCl tys s) (hD : va_D A1 wc) (hF : ∀ q, va_A wc H.size q → A q) :
    ∀ U : State, U.heap = H → s.WarmedH U.vm → pcs z D tys wc H.size av av.toArray U := fun U hU hW =>
  ⟨rfl, by rw [hU], by rw [hU]; exact hP, va_K.moved hW.alike hK, hD.weaken (fun _ _ _ _ => trivial), fun h => by rw [hU]; exact (hE (hz h)).call hS hW hF⟩
def bb (D : va_G) (tys : List (ClassId × FieldType)) (w : va_W) (A : Nat → Prop) (t : State) : Prop := va_P D vwCl w t.heap ∧ va_K D vwCl tys t ∧ va_D A w
def qi (D : va_G) (tys : List (ClassId × FieldType)) (post : Int32 → Prop) (w : va_W) : (Nat → Prop) → Array Value → State → Outcome → State → Prop := fun A => va_Qi (fun r (_ : Unit) => post r) (fun _ => bb D tys w A) A
def qv (D : va_G) (tys : List (ClassId × FieldType)) (post : Prop) (w : va_W) : (Nat → Prop) → Array Value → State → Outcome → State → Prop := fun A => va_Qv (fun (_ : Unit) => post) (fun _ => bb D tys w A) A
def qr (D : va_G) (tys : List (ClassId × FieldType)) (post : Nat → Prop) (w : va_W) : (Nat → Prop) → Array Value → State → Outcome → State → Prop := fun A => va_Qr (fun (_ : Unit) => True) (fun _ a t => post a ∧ bb D tys w A t) A
def qx (D : va_G) (tys : List (ClassId × FieldType)) (px : String → Prop) (w : va_W) (A : Nat → Prop) : String → State → State → Prop := vx_X (fun (_ : Unit) => True) (fun E _ t => px E ∧ bb D tys w A t) A
def CT (l : Launch) (y : MethodName) (ws : List Cond) (rm : Room) (z : Bool) (D : va_G) (tys : List (ClassId × FieldType)) (w : va_W) (sz : Nat) (av : List Value) (Q : (Nat → Prop) → Array Value → State → Outcome → State → Prop) (mc ms : Nat) : Prop :=
  Met l y ws rm (pcs z D tys w sz av) (Q (va_A w sz)) mc ms (va_A w sz)
def CX (l : Launch) (y : MethodName) (ws : List Cond) (rm : Room) (z : Bool) (D : va_G) (tys : List (ClassId × FieldType)) (w : va_W) (sz : Nat) (av : List Value) (Q : (Nat → Prop) → Array Value → State → Outcome → State → Prop) (px : String → Prop) (mc ms : Nat) : Prop :=
  vx_Met l y ws rm (pcs z D tys w sz av) (Q (va_A w sz)) (qx D tys px w (va_A w sz)) mc ms (va_A w sz)
/-- what holds at a method's entry -/
def En (p : Program) (s : State) (m : MethodId) (args : Array Value) (meth : Method) (c : Code) (cc : ByteArray) (maxL : Nat) (ret : Option FieldType) (own nm : String) (ws : List Cond) : Prop :=
  p.tables.exec = Jvm.exec ∧ c.code = cc ∧ meth.sig.returnType = ret ∧ c.maxLocals = maxL ∧ s.vm.findClass own = some m.cls ∧ (∀ w ∈ ws, w.before args s = true) ∧ meth.locks = false ∧ meth.name = nm
theorem CT.of {l : Launch} {y : MethodName} {ws ws' : List Cond} {rm : Room} {z : Bool} {D : va_G} {tys : List (ClassId × FieldType)} {w : va_W} {sz : Nat} {av : List Value} {Q : (Nat → Prop) → Array Value → State → Outcome → State → Prop} {mc ms : Nat} {cc : ByteArray} {maxL : Nat} {ret : Option FieldType}
    (hy : plainName y.cls = true) (hw : ws = Cond.code y cc maxL ret :: ws') (hl : (lg_sl av).length ≤ maxL)
    (body : ∀ (A : Nat → Prop) (p : Program) (e : Env) (s : State) (m : MethodId) (args : Array Value) (below : List Frame) (meth : Method) (c : Code) (ls : Array Slot) (H : Heap) (locs : List Loc), En p s m args meth c cc maxL ret y.cls y.name ws → args = av.toArray → va_P D vwCl w H → va_K D vwCl tys s → va_D A w → (z = true → ev A s s.heap) → (∀ q : Nat, s.heap.size ≤ q → A q) → va_S A s.heap H locs → lv_has ls maxL (lv_args 0 av) →
      W p l e rm s m args below meth c H locs 0 0 (MQ below (Q A) args s mc ms A) (F0 m 0 ls [])) : CT l y ws rm z D tys w sz av Q mc ms := by
  refine Met.ofW (cc := cc) (maxL := maxL) (ret := ret) hy hw ?_
  intro p e s m args below meth c s₁ B hml hv
  obtain ⟨rfl, hsz, hP, hK, hD0, hE⟩ := hv
  subst hsz
  rw [lg_entry_eq]
  exact body (va_A w s.heap.size) p e s m _ below meth c _ _ _ ⟨B.exec, B.bytes, B.returns, hml, findClass_of_methodNamed B.named, atoms_spec (ws := ws) B.pre, B.notSynchronized, (name_of_methodNamed B.named B.method).1⟩ rfl hP hK hD0.self hE (fun q h => Or.inr h) va_S.rf (lv_entry av hl)
theorem CX.of {l : Launch} {y : MethodName} {ws ws' : List Cond} {rm : Room} {z : Bool} {D : va_G} {tys : List (ClassId × FieldType)} {w : va_W} {sz : Nat} {av : List Value} {Q : (Nat → Prop) → Array Value → State → Outcome → State → Prop} {px : String → Prop} {mc ms : Nat} {cc : ByteArray} {maxL : Nat} {ret : Option FieldType}
    (hy : plainName y.cls = true) (hw : ws = Cond.code y cc maxL ret :: ws') (hl : (lg_sl av).length ≤ maxL)
    (body : ∀ (A : Nat → Prop) (p : Program) (e : Env) (s : State) (m : MethodId) (args : Array Value) (below : List Frame) (meth : Method) (c : Code) (ls : Array Slot) (H : Heap) (locs : List Loc), En p s m args meth c cc maxL ret y.cls y.name ws → (∀ x ∈ c.exceptionTable.toList, False) → args = av.toArray → va_P D vwCl w H → va_K D vwCl tys s → va_D A w → (z = true → ev A s s.heap) → (∀ q : Nat, s.heap.size ≤ q → A q) → va_S A s.heap H locs → lv_has ls maxL (lv_args 0 av) →
      W p l e rm s m args below meth c H locs 0 0 (vx_MQ below (Q A) (qx D tys px w A) args s mc ms A) (F0 m 0 ls [])) : CX l y ws rm z D tys w sz av Q px mc ms := by
  refine vx_ofW (cc := cc) (maxL := maxL) (ret := ret) hy hw ?_
  intro p e s m args below meth c s₁ B hml ht hv
  obtain ⟨rfl, hsz, hP, hK, hD0, hE⟩ := hv
  subst hsz
  rw [lg_entry_eq]
  exact body (va_A w s.heap.size) p e s m _ below meth c _ _ _ ⟨B.exec, B.bytes, B.returns, hml, findClass_of_methodNamed B.named, atoms_spec (ws := ws) B.pre, B.notSynchronized, (name_of_methodNamed B.named B.method).1⟩ ht rfl hP hK hD0.self hE (fun q h => Or.inr h) va_S.rf (lv_entry av hl)
/-- behind a call: the callee's world, the rest, in the order that is wanted -/
theorem aft {A0 : Nat → Prop} {D : va_G} {tys : List (ClassId × FieldType)} {ws wc wr w1 w2 : va_W} {H H1 : Heap} {t : State} (hP : va_P D vwCl ws H) (hD : va_D A0 ws) (isC isR is : List Nat) (hC : isC.map (fun i => ws[i]?) = wc.map some) (hR : isR.map (fun i => ws[i]?) = wr.map some) (hn : va_nd isR = true) (hdis : ∀ i ∈ isR, i ∉ isC)
    (hF : ∀ q, va_A wc H.size q → A0 q) (hk : ∀ q : Nat, q < H.size → ¬ va_A wc H.size q → H1[q]? = H[q]?) (ht : t.heap = H1) (hB : bb D tys w1 (va_A wc H.size) t) (hs : is.filterMap (fun i => (wr ++ w1)[i]?) = w2) (hn2 : va_nd is = true) (hs2 : is.map (fun i => (wr ++ w1)[i]?) = w2.map some) : va_P D vwCl w2 H1 ∧ va_D A0 w2 := by
  obtain ⟨hP1, -, hD1⟩ := hB
  rw [ht] at hP1
  obtain ⟨a, b⟩ := va_join hP hD isC isR hC hR hn hdis hk hF hP1 hD1
  exact ⟨a.sub is hs, b.sub is hn2 hs2⟩
/-- .. where the callee has the whole world -/
theorem aftW {A0 : Nat → Prop} {D : va_G} {tys : List (ClassId × FieldType)} {wc w1 : va_W} {H H1 : Heap} {t : State} (hF : ∀ q, va_A wc H.size q → A0 q) (ht : t.heap = H1) (hB : bb D tys w1 (va_A wc H.size) t) : va_P D vwCl w1 H1 ∧ va_D A0 w1 := by
  obtain ⟨hP1, -, hD1⟩ := hB
  rw [ht] at hP1
  exact ⟨hP1, hD1.weaken (fun k q _ h => hF q.1 h)⟩
theorem lfb {D : va_G} {tys : List (ClassId × FieldType)} {w : va_W} {A : Nat → Prop} {s t : State} {H : Heap} (hP : va_P D vwCl w H) (hK : va_K D vwCl tys s) (hD : va_D A w) (ht : t.heap = H) (hW : s.WarmedH t.vm) : bb D tys w A t := ⟨by rw [ht]; exact hP, va_K.moved hW.alike hK, hD⟩
theorem lfbX {D : va_G} {tys : List (ClassId × FieldType)} {w : va_W} {A : Nat → Prop} {s t : State} {H : Heap} (hP : va_P D vwCl w H) (hK : va_K D vwCl tys s) (hD : va_D A w) (ht : t.heap = H) (hvm : s.vm.Alike t.vm) : bb D tys w A t := ⟨by rw [ht]; exact hP, va_K.moved hvm hK, hD⟩
theorem lfi {D : va_G} {tys : List (ClassId × FieldType)} {w : va_W} {A : Nat → Prop} {s t : State} {H : Heap} {locs : List Loc} {args : Array Value} {post : Int32 → Prop} {r : Int32} (hr : post r) (hP : va_P D vwCl w H) (hK : va_K D vwCl tys s) (hD : va_D A w) (hS : va_S A s.heap H locs) (ht : t.heap = H) (hW : s.WarmedH t.vm) : qi D tys post w A args s (.returned (some (.int r))) t := ⟨⟨r, (), rfl, hr, lfb hP hK hD ht hW⟩, hS.F ht⟩
theorem lfv {D : va_G} {tys : List (ClassId × FieldType)} {w : va_W} {A : Nat → Prop} {s t : State} {H : Heap} {locs : List Loc} {args : Array Value} {post : Prop} (hr : post) (hP : va_P D vwCl w H) (hK : va_K D vwCl tys s) (hD : va_D A w) (hS : va_S A s.heap H locs) (ht : t.heap = H) (hW : s.WarmedH t.vm) : qv D tys post w A args s (.returned none) t := ⟨⟨(), rfl, hr, lfb hP hK hD ht hW⟩, hS.F ht⟩
theorem lfr {D : va_G} {tys : List (ClassId × FieldType)} {w : va_W} {A : Nat → Prop} {s t : State} {H : Heap} {locs : List Loc} {args : Array Value} {post : Nat → Prop} {r : Nat} (hr : post r) (hP : va_P D vwCl w H) (hK : va_K D vwCl tys s) (hD : va_D A w) (hS : va_S A s.heap H locs) (ht : t.heap = H) (hW : s.WarmedH t.vm) : qr D tys post w A args s (.returned (some (.ref r))) t := ⟨⟨(), r, rfl, trivial, hr, lfb hP hK hD ht hW⟩, hS.F ht⟩
section BASE
variable {p : Program} {l : Launch} {e : Env} {R : Room} {s : State} {m : MethodId} {args : Array Value} {below : List Frame} {meth : Method} {c : Code} {H : Heap} {locs : List Loc} {cells slots : Nat} {Q : State → Prop}
variable {cc : ByteArray} {pc : Nat} {ls : Array Slot} {rest : List Value} {D : va_G} {cl : List vw_C} {A : Nat → Prop} {a : Nat} {tys : List (ClassId × FieldType)} {ws : va_W} {H0 : Heap}
/-- another name for the number on top -/
theorem tp {x y : Int32} (h : x = y) (k : W p l e R s m args below meth c H locs cells slots Q (F0 m pc ls (.int y :: rest))) : W p l e R s m args below meth c H locs cells slots Q (F0 m pc ls (.int x :: rest)) := h ▸ k
theorem vin {k n : Nat} (hk : k < n) (hn : n ≤ 65536) : vp_in (nI k) n := vp_in_nI hk (by omega)
theorem ild (hexec : p.tables.exec = Jvm.exec) (hb : c.code = cc) (hK : va_K D cl tys s) (hP : va_P D cl ws H) (q0 t0 : Nat) {cA : ClassId} {n : Nat} {f : Nat → Nat} {k : Nat} (hk : k < n) (hn : n ≤ 65536) (ha : ws[q0]? = some (a, .inl (cA, n, .inl (ni f)))) (ht : tys[t0]? = some (cA, .int)) (hdg : decode cc pc = .ok (.iaload, 1))
    (kk : W p l e R s m args below meth c H locs cells slots Q (F0 m (pc + 1) ls (.int (nI (f k)) :: rest))) : W p l e R s m args below meth c H locs cells slots Q (F0 m pc ls (.int (nI k) :: .ref a :: rest)) := by
  refine va_iald hexec hb hK hP q0 t0 ha ht (vin hk hn) hdg ?_
  rw [nI_clamp (show k < 2 ^ 31 by omega)]
  exact kk
theorem ildr (hexec : p.tables.exec = Jvm.exec) (hb : c.code = cc) (hK : va_K D cl tys s) (hP : va_P D cl ws H) (q0 t0 : Nat) {cA : ClassId} {n : Nat} {f : Nat → Int32} {k : Nat} (hk : k < n) (hn : n ≤ 65536) (ha : ws[q0]? = some (a, .inl (cA, n, .inl f))) (ht : tys[t0]? = some (cA, .int)) (hdg : decode cc pc = .ok (.iaload, 1))
    (kk : W p l e R s m args below meth c H locs cells slots Q (F0 m (pc + 1) ls (.int (f k) :: rest))) : W p l e R s m args below meth c H locs cells slots Q (F0 m pc ls (.int (nI k) :: .ref a :: rest)) := by
  refine va_iald hexec hb hK hP q0 t0 ha ht (vin hk hn) hdg ?_
  rw [nI_clamp (show k < 2 ^ 31 by omega)]
  exact kk
theorem zldr (hexec : p.tables.exec = Jvm.exec) (hb : c.code = cc) (hK : va_K D cl tys s) (hP : va_P D cl ws H) (q0 t0 : Nat) {cA : ClassId} {n : Nat} {f : Nat → Int32} {k : Nat} (hk : k < n) (hn : n ≤ 65536) (ha : ws[q0]? = some (a, .inl (cA, n, .inl f))) (ht : tys[t0]? = some (cA, .boolean)) (hdg : decode cc pc = .ok (.baload, 1))
    (kk : W p l e R s m args below meth c H locs cells slots Q (F0 m (pc + 1) ls (.int (f k) :: rest))) : W p l e R s m args below meth c H locs cells slots Q (F0 m pc ls (.int (nI k) :: .ref a :: rest)) := by
  refine va_zald hexec hb hK hP q0 t0 ha ht (vin hk hn) hdg ?_
  rw [nI_clamp (show k < 2 ^ 31 by omega)]
  exact kk
theorem cldr (hexec : p.tables.exec = Jvm.exec) (hb : c.code = cc) (hK : va_K D cl tys s) (hP : va_P D cl ws H) (q0 t0 : Nat) {cA : ClassId} {n : Nat} {f : Nat → Int32} {k : Nat} (hk : k < n) (hn : n ≤ 65536) (ha : ws[q0]? = some (a, .inl (cA, n, .inl f))) (ht : tys[t0]? = some (cA, .char)) (hdg : decode cc pc = .ok (.caload, 1))
    (kk : W p l e R s m args below meth c H locs cells slots Q (F0 m (pc + 1) ls (.int (f k) :: rest))) : W p l e R s m args below meth c H locs cells slots Q (F0 m pc ls (.int (nI k) :: .ref a :: rest)) := by
  refine va_cald hexec hb hK hP q0 t0 ha ht (vin hk hn) hdg ?_
  rw [nI_clamp (show k < 2 ^ 31 by omega)]
  exact kk
theorem ist (hexec : p.tables.exec = Jvm.exec) (hb : c.code = cc) (hK : va_K D cl tys s) (hP : va_P D cl ws H) (hD : va_D A ws) (hS : va_S A H0 H locs) (q0 t0 : Nat) {cA : ClassId} {n : Nat} {f : Nat → Nat} {k v : Nat} (hk : k < n) (hn : n ≤ 65536) (ha : ws[q0]? = some (a, .inl (cA, n, .inl (ni f)))) (ht : tys[t0]? = some (cA, .int)) (hdg : decode cc pc = .ok (.iastore, 1))
    (kk : ∀ (H1 : Heap) (locs1 : List Loc), va_P D cl (ws.set q0 (a, .inl (cA, n, .inl (ni (va_up f k v))))) H1 → va_D A (ws.set q0 (a, .inl (cA, n, .inl (ni (va_up f k v))))) → va_S A H0 H1 locs1 → W p l e R s m args below meth c H1 locs1 cells slots Q (F0 m (pc + 1) ls rest)) : W p l e R s m args below meth c H locs cells slots Q (F0 m pc ls (.int (nI v) :: .int (nI k) :: .ref a :: rest)) := by
  refine va_iast hexec hb hK hP hD hS q0 t0 ha ht (vin hk hn) hdg ?_
  rw [nI_clamp (show k < 2 ^ 31 by omega), upd_ni]
  exact kk
theorem istr (hexec : p.tables.exec = Jvm.exec) (hb : c.code = cc) (hK : va_K D cl tys s) (hP : va_P D cl ws H) (hD : va_D A ws) (hS : va_S A H0 H locs) (q0 t0 : Nat) {cA : ClassId} {n : Nat} {f : Nat → Int32} {k : Nat} {v : Int32} (hk : k < n) (hn : n ≤ 65536) (ha : ws[q0]? = some (a, .inl (cA, n, .inl f))) (ht : tys[t0]? = some (cA, .int)) (hdg : decode cc pc = .ok (.iastore, 1))
    (kk : ∀ (H1 : Heap) (locs1 : List Loc), va_P D cl (ws.set q0 (a, .inl (cA, n, .inl (va_up f k v)))) H1 → va_D A (ws.set q0 (a, .inl (cA, n, .inl (va_up f k v)))) → va_S A H0 H1 locs1 → W p l e R s m args below meth c H1 locs1 cells slots Q (F0 m (pc + 1) ls rest)) : W p l e R s m args below meth c H locs cells slots Q (F0 m pc ls (.int v :: .int (nI k) :: .ref a :: rest)) := by
  refine va_iast hexec hb hK hP hD hS q0 t0 ha ht (vin hk hn) hdg ?_
  rw [nI_clamp (show k < 2 ^ 31 by omega)]
  exact kk
theorem zstr (hexec : p.tables.exec = Jvm.exec) (hb : c.code = cc) (hK : va_K D cl tys s) (hP : va_P D cl ws H) (hD : va_D A ws) (hS : va_S A H0 H locs) (q0 t0 : Nat) {cA : ClassId} {n : Nat} {f : Nat → Int32} {k : Nat} {v : Int32} (hv : vp_nar .boolean v = v) (hk : k < n) (hn : n ≤ 65536) (ha : ws[q0]? = some (a, .inl (cA, n, .inl f))) (ht : tys[t0]? = some (cA, .boolean)) (hdg : decode cc pc = .ok (.bastore, 1))
    (kk : ∀ (H1 : Heap) (locs1 : List Loc), va_P D cl (ws.set q0 (a, .inl (cA, n, .inl (va_up f k v)))) H1 → va_D A (ws.set q0 (a, .inl (cA, n, .inl (va_up f k v)))) → va_S A H0 H1 locs1 → W p l e R s m args below meth c H1 locs1 cells slots Q (F0 m (pc + 1) ls rest)) : W p l e R s m args below meth c H locs cells slots Q (F0 m pc ls (.int v :: .int (nI k) :: .ref a :: rest)) := by
  refine va_zast hexec hb hK hP hD hS q0 t0 ha ht (vin hk hn) hdg ?_
  rw [nI_clamp (show k < 2 ^ 31 by omega), hv]
  exact kk
theorem cstr (hexec : p.tables.exec = Jvm.exec) (hb : c.code = cc) (hK : va_K D cl tys s) (hP : va_P D cl ws H) (hD : va_D A ws) (hS : va_S A H0 H locs) (q0 t0 : Nat) {cA : ClassId} {n : Nat} {f : Nat → Int32} {k : Nat} {v : Int32} (hv : vp_nar .char v = v) (hk : k < n) (hn : n ≤ 65536) (ha : ws[q0]? = some (a, .inl (cA, n, .inl f))) (ht : tys[t0]? = some (cA, .char)) (hdg : decode cc pc = .ok (.castore, 1))
    (kk : ∀ (H1 : Heap) (locs1 : List Loc), va_P D cl (ws.set q0 (a, .inl (cA, n, .inl (va_up f k v)))) H1 → va_D A (ws.set q0 (a, .inl (cA, n, .inl (va_up f k v)))) → va_S A H0 H1 locs1 → W p l e R s m args below meth c H1 locs1 cells slots Q (F0 m (pc + 1) ls rest)) : W p l e R s m args below meth c H locs cells slots Q (F0 m pc ls (.int v :: .int (nI k) :: .ref a :: rest)) := by
  refine va_cast hexec hb hK hP hD hS q0 t0 ha ht (vin hk hn) hdg ?_
  rw [nI_clamp (show k < 2 ^ 31 by omega), hv]
  exact kk
end BASE
