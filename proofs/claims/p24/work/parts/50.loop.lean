/-! THE CLAIM OUT OF ONE WALK OF THE LAW'S BODY. Your part is whole_start (and what it stands on); all else here is the same for every law, but numbers. -/
def R_law : String := "SessionFixLaw"
def lw_P (b : Addr) (xs : List Int32) (args : Array Value) (s : State) : Prop := args = #[.ref b] ∧ s.IntsAt b xs ∧ xs.length ≤ 260 ∧ (Jvm.Cond.and given_1 narrow_1).before args s = true
def lw_Q (_ : Array Value) (s : State) (o : Outcome) (t : State) : Prop := o = .returned (some (.int 1)) ∧ Framed s o t [] 792876 6722841
def lw_Z (below : List Frame) (a : Array Value) (s : State) : State → Prop := fun t => ∃ o, t.status = .running ∧ Ended t below o ∧ lw_Q a s o t
/-- the law's own end, with 1 on the stack, nothing written that was there before, its room as the claim has it -/
theorem lw_ret {p : Program} {l : Launch} {e : Env} {s : State} {m : MethodId} {below : List Frame} {meth : Method} {c : Code} {b : Nat} (hx : p.tables.exec = Jvm.exec) (hb : c.code = code) (hr : meth.sig.returnType = ret) (hlocks : meth.locks = false) {pc : Nat} {H : Heap} {ls : Array Slot} (hdg : decode code pc = .ok (.ireturn, 1)) : W p l e room_1 s m #[Value.ref b] below meth c H [] 792876 6722841 (lw_Z below #[Value.ref b] s) (F0 m pc ls [.int 1]) := by
  intro T hT X
  obtain ⟨fs, hret, hrun, hended, hW, hframe⟩ := X.leave (v := some (.int 1)) (hlocks := hlocks) (fun h => by rw [hr] at h; cases h)
  have hmeth' : T.vm.method? m = some meth := X.method'
  refine ⟨T.setFrames fs, ?_, .returned (some (.int 1)), hrun, hended, rfl, ⟨_, rfl⟩, hW, hframe⟩
  jvm_step X.here [X.here.top, hx, hb, hdg, hmeth', hr, ret, narrow_b1]
  (try refine ⟨rfl, ?_⟩); (try refine ⟨rfl, ?_⟩)
  first | (intro acts; rw [hret _ acts rfl rfl rfl]) | rw [hret _ _ rfl rfl rfl]
  exact Steps.refl _
/-- what holds at the law's entry: the machine, the code, the tables' words (any of lw_tbl by 'hts w (by decide +kernel)'), the script of L ints xs at the cell b, what the Statement gives of the start (any of its parts by flat_of_before) -/
def lw_At (p : Program) (s : State) (m : MethodId) (meth : Method) (c : Code) (b L : Nat) (xs : Nat → Int32) : Prop :=
  p.tables.exec = Jvm.exec ∧ c.code = code ∧ meth.sig.returnType = ret ∧ c.maxLocals = 6 ∧ s.vm.findClass R_law = some m.cls ∧ (∀ w ∈ lw_tbl, w.before #[Value.ref b] s = true) ∧ va_X b L xs s s.heap ∧ b < s.heap.size ∧ meth.locks = false ∧ (Jvm.Cond.and given_1 narrow_1).before #[Value.ref b] s = true
/-! ===== the law's loop ===== -/
theorem arr_K {args : Array Value} {s : State} {ty : FieldType} (h : (Cond.arrayClass ty).before args s = true) : ∃ cA : ClassId, ArrOfT s cA ty ∧ s.vm.findClass ("[" ++ ty.toString) = some cA := by
  obtain ⟨c, k, comp, h1, h2, h3⟩ := Cond.arrayClass_spec h
  exact ⟨c, fun n z => ⟨fun k h => (by cases h), k, h2, comp, h3⟩, h1⟩
theorem lg_no {l : Launch} (h : l.flags = flags0) : l.stackTraces = false := by
  unfold Launch.stackTraces
  rw [h]
  decide +kernel
/-! the start of both -/
def c00 : CS := (fun _ => 0, fun k => match k with
  | 7 => 1
  | _ => 0, fun _ _ => 0)
abbrev s00 : RS := rEmpties (rI0, rN0)
theorem rel00 : rel2 0 c00 c00 s00 :=
  ⟨by omega, ⟨rfl, rfl, rfl, rfl, rfl, rfl, rfl, rfl, rfl, rfl, rfl, fun j hj => absurd hj (Nat.not_lt_zero j), fun j hj => absurd hj (Nat.not_lt_zero j), fun j hj => absurd hj (Nat.not_lt_zero j)⟩,
    ⟨rfl, rfl, rfl, rfl, rfl, rfl, rfl, rfl, rfl, rfl, rfl, fun j hj => absurd hj (Nat.not_lt_zero j), fun j hj => absurd hj (Nat.not_lt_zero j), fun j hj => absurd hj (Nat.not_lt_zero j)⟩, Nat.zero_le 60, Nat.zero_le 60, Nat.zero_le 200, Nat.zero_le 200, Nat.zero_le 200, Nat.zero_le 200⟩
theorem ba00 : ba c00.2.2 := fun _ _ => show 0 < 16777216 by omega
theorem inv00 : inv s00 := by
  have gn : nb rN0 := fun _ _ => show 0 < 16777216 by omega
  refine ⟨fun t ht => ?_, fun j => show 0 < 7 by omega, fun j => show 0 < 1000 by omega, fun j => show 0 < 8 by omega, fun j => show 0 < 7 by omega, fun j => show 0 < 1000 by omega, fun j => show 0 < 8 by omega, nb_up (nb_up (nb_up (nb_up gn (up_all (up_all (gn 4) (by omega)) (by omega))) (up_all (up_all (gn 5) (by omega)) (by omega))) (up_all (up_all (gn 10) (by omega)) (by omega))) (up_all (up_all (gn 17) (by omega)) (by omega))⟩
  have x4 : ∀ u, u < 2 → s00.2 4 u = 1 := fun u hu => z_two (f := rN0 4) hu
  have x5 : ∀ u, u < 2 → s00.2 5 u = 1 := fun u hu => z_two (f := rN0 5) hu
  have x10 : ∀ u, u < 2 → s00.2 10 u = 0 := fun u hu => z_two (f := rN0 10) hu
  have x17 : ∀ u, u < 2 → s00.2 17 u = 0 := fun u hu => z_two (f := rN0 17) hu
  refine ⟨Or.inl rfl, fun _ => rfl, ?_, ?_, ?_, ?_, fun j hj => ?_⟩
  · rw [x4 t ht]; omega
  · rw [x5 t ht, x4 (1 - t) (by omega)]; omega
  · rw [x10 t ht, x5 t ht]; omega
  · rw [x17 t ht]; omega
  · rw [x17 t ht] at hj; exact absurd hj (Nat.not_lt_zero j)
theorem inv200 : inv2 0 s00 := by
  have x5 : ∀ u, u < 2 → s00.2 5 u = 1 := fun u hu => z_two (f := rN0 5) hu
  have x10 : ∀ u, u < 2 → s00.2 10 u = 0 := fun u hu => z_two (f := rN0 10) hu
  have x17 : ∀ u, u < 2 → s00.2 17 u = 0 := fun u hu => z_two (f := rN0 17) hu
  have x11 : ∀ u, u < 2 → s00.1 11 u = 0 := fun u hu => z_two (f := rI0 11) hu
  intro t ht
  refine ⟨Or.inl rfl, ⟨0, Nat.le_refl 0, x11 t ht⟩, ?_, fun i i1 i2 => ?_, fun j hj => ?_⟩
  · rw [x10 t ht, x5 t ht]; rfl
  · rw [x5 t ht] at i2; omega
  · rw [x17 t ht] at hj; exact absurd hj (Nat.not_lt_zero j)
theorem gg00 : GG 0 0 c00 c00 := ⟨s00, rel00, inv00, inv200, ba00, ba00⟩
section LOOP
variable {p : Program} {l : Launch} {e : Env} {s : State} {m : MethodId} {below : List Frame} {meth : Method} {cd : Code} {b L : Nat} {xs : Nat → Int32} {A : Nat → Prop} {D : va_G} {cI cB : ClassId} {h g : Nat} {q1 q2 w1 w2 : Nat → Nat}
set_option maxHeartbeats 4000000 in
set_option maxRecDepth 100000 in
theorem law_loop (hr : meth.sig.returnType = ret) (hlocks : meth.locks = false) (hAA : A = fun q => s.heap.size ≤ q) (C : lawCx p l s m cd b L xs A D cI cB) : ∀ (fuel k : Nat), 121 - k < fuel → k ≤ 120 → ∀ (tm : Int32) (c o : CS) (t d : Nat) (H : Heap) (locs : List Loc) (ls : Array Slot), GG d 0 c o → d ≤ 401 * k → tm = nI t → t ≤ k → va_P D vwCl (wB cI h g q1 q2 w1 w2 tm c o) H → va_D A (wB cI h g q1 q2 w1 w2 tm c o) → va_S A s.heap H locs → lv_has ls 6 [(3, .int (nI k)), (2, .ref g), (1, .ref h), (0, .ref b)] → W p l e room_1 s m #[Value.ref b] below meth cd H locs (30 + 42 * k + 172 * ((k + 2) / 6) + 18300 * ((k + 2) / 5) + 2900 * ((k + 8) / 40)) (2000 + 252 * k + 1752 * ((k + 2) / 6) + 217500 * ((k + 2) / 5) + 17200 * ((k + 8) / 40)) (lw_Z below #[Value.ref b] s) (F0 m 18 ls []) := by
  intro fuel
  induction fuel with
  | zero => intro k hf; exact absurd hf (Nat.not_lt_zero _)
  | succ fuel ih =>
    intro k hf hk120 tm c o t d H locs ls hG hd ht htk hP hD hS hl
    have C9 := C
    obtain ⟨⟨hx, hb, hml, hown, hts⟩, hK, hE, hX, hbl, hbA, hA, hlt, hL⟩ := C9
    refine lv_iload_n hx hb dL_law_18 rfl (lv_at hl 0 rfl) ?_
    refine lv_bipush (v := 120) hx hb dL_law_19 (by decide) ?_
    refine lv_icmp_ge (tgt := 140) hx hb dL_law_21 (by decide) (fun z => ?_) (fun z => ?_)
    · refine st_6 (k := 0) C (fun _ => tm) c.1 c.2.1 c.2.2 o.1 o.2.1 o.2.2 (nI k) hG (by omega) (by omega) ⟨by omega, by omega⟩ hP hD hS hl (fun H locs ls hS => ?_)
      subst hAA
      refine va_forget hS.2.2 ?_
      refine W.widen (k := 792876) (n := 6722841) (by omega) (by omega) ?_
      exact lw_ret hx hb hr hlocks dL_law_169
    · have hk : k < 120 := Nat.not_le.mp fun y => z ((nI_leI (a := 120) (b := k) (by omega) (by omega)).mpr y)
      refine lv_aload_n hx hb dL_law_24 rfl (lv_at hl 3 rfl) ?_
      refine lv_iload_n hx hb dL_law_25 rfl (lv_at hl 0 rfl) ?_
      refine lv_bipush (v := 61) hx hb dL_law_26 (by decide) ?_
      refine lv_irem hx hb dL_law_28 (by decide) ?_
      refine tp (show nI k - nI k / 61 * 61 = nI (k % 61) from rem61 k hk) ?_
      have hXH := hX.kept (hS.2.1 b hbl hbA)
      have hbH : b < H.size := by
        obtain ⟨scr, h1, -⟩ := hXH
        exact (Array.getElem?_eq_some_iff.mp h1).1
      have hPc := hP.sub (ws' := []) [] rfl
      have hDc := hD.sub (ws' := []) [] (by decide) rfl
      have hFc := va_free (wc := []) hD hS hA [] rfl
      refine va_calli (va_runS (As := [.ref b, .int (nI (k % 61))]) (rest := []) ⟨hx, hb, hml, hown, hts⟩ (c_L_cell l D [(cI, .int), (cB, .byte)] H.size b L xs (k % 61) (by omega) (by omega)) (va_cwS 2 hts gL_law_L_cell rfl rfl rfl (by decide +kernel) ⟨Nat.le_of_ble_eq_true rfl, Nat.le_of_ble_eq_true rfl⟩) ⟨pcsX_blind, fun U hU hW => ⟨pcs_pre (z0 := true) (fun h => by cases h) (fun _ => hE) hS hPc hK hDc hFc U hU hW, by rw [hU]; exact va_X.moved hW.alike hXH, hbH⟩⟩ rfl rfl hl.1 rfl (lv_room (Nat.le_of_ble_eq_true rfl)) dL_law_29 ⟨show 30 + 42 * k + 172 * ((k + 2) / 6) + 18300 * ((k + 2) / 5) + 2900 * ((k + 8) / 40) + 0 ≤ 792876 by omega, show 2000 + 252 * k + 1752 * ((k + 2) / 6) + 217500 * ((k + 2) / 5) + 17200 * ((k + 8) / 40) + 0 ≤ 6722841 by omega⟩) hS (fun q _ h => hFc q h) hFc (fun r u t9 H1 locs1 ht9 hvm hw hB hz1 hk1 hS => ?_)
      obtain ⟨hP, hD⟩ := aft (wr := (wB cI h g q1 q2 w1 w2 tm c o)) (w1 := []) (w2 := (wB cI h g q1 q2 w1 w2 tm c o)) hP hD [] [0, 1, 2, 3, 4, 5, 6, 7, 8, 9, 10, 11, 12, 13, 14, 15, 16, 17, 18, 19, 20, 21, 22, 23, 24, 25] [0, 1, 2, 3, 4, 5, 6, 7, 8, 9, 10, 11, 12, 13, 14, 15, 16, 17, 18, 19, 20, 21, 22, 23, 24, 25] rfl rfl (by decide) (by decide) hFc hk1 ht9 hB rfl (by decide) rfl
      have hw : r = cellF L xs (k % 61) := hw
      subst hw
      refine lv_sipush (v := 1013) hx hb dL_law_32 (by decide) ?_
      refine lv_iload_n hx hb dL_law_35 rfl (lv_at hl 0 rfl) ?_
      refine lv_bipush (v := 61) hx hb dL_law_36 (by decide) ?_
      refine lv_idiv hx hb dL_law_38 (by decide) ?_
      refine lv_imul hx hb dL_law_39 ?_
      refine lv_iadd hx hb dL_law_40 ?_
      generalize cellF L xs (k % 61) + 1013 * (nI k / 61) = v
      refine lv_istore (lv' := [(4, .int v), (3, .int (nI k)), (2, .ref g), (1, .ref h), (0, .ref b)]) hx hb dL_law_41 hl (by decide) rfl (fun ls hl => ?_)
      refine st_1 C (fun _ => tm) c.1 c.2.1 c.2.2 o.1 o.2.1 o.2.2 t hG (by omega) hk ht (by omega) ⟨by omega, by omega⟩ hP hD hS hl (fun tm1 c o H locs ls hG htm hP hD hS hl => ?_)
      obtain ⟨t1, ht1, htk1⟩ : ∃ t1, tm1 = nI t1 ∧ t1 ≤ k + 1 := by
        rcases htm with z | z
        · exact ⟨t, z.trans ht, by omega⟩
        · exact ⟨t + 1, (z.trans (congrArg (fun y => y + 1) ht)).trans (nI_add t 1), by omega⟩
      refine st_2 C (fun _ => tm1) c.1 c.2.1 c.2.2 o.1 o.2.1 o.2.2 (172 * ((k + 3) / 6 - (k + 2) / 6)) (1752 * ((k + 3) / 6 - (k + 2) / 6)) hG (by omega) hk (fun z => by omega) ⟨by omega, by omega⟩ hP hD hS hl (fun H locs ls hP hD hS hl => ?_)
      refine st_3 C (fun _ => tm1) c.1 c.2.1 c.2.2 o.1 o.2.1 o.2.2 hG (by omega) hk ⟨by omega, by omega⟩ hP hD hS hl (fun H locs ls hP hD hS hl => ?_)
      refine st_4 C (fun _ => tm1) c.1 c.2.1 c.2.2 o.1 o.2.1 o.2.2 (18300 * ((k + 3) / 5 - (k + 2) / 5)) (217500 * ((k + 3) / 5 - (k + 2) / 5)) hG (by omega) hk (fun z => by omega) ⟨by omega, by omega⟩ hP hD hS hl (fun H locs ls hP hD hS hl => ?_)
      refine st_5 C (fun _ => tm1) c.1 c.2.1 c.2.2 o.1 o.2.1 o.2.2 (2900 * ((k + 9) / 40 - (k + 8) / 40)) (17200 * ((k + 9) / 40 - (k + 8) / 40)) hG (by omega) hk (fun z => by omega) ⟨by omega, by omega⟩ hP hD hS hl (fun c o H locs ls hG hP hD hS hl => ?_)
      refine lv_iinc (v := nI (k + 1)) (lv' := [(3, .int (nI (k + 1))), (4, .int v), (2, .ref g), (1, .ref h), (0, .ref b)]) hx hb dL_law_134 hl (k := 1) rfl (show nI k + Int32.ofInt 1 = nI (k + 1) from nI_add _ _) (by decide) rfl (fun ls hl => ?_)
      refine lv_goto (tgt := 18) hx hb dL_law_137 (by decide) ?_
      refine W.widen (k := 30 + 42 * (k + 1) + 172 * (((k + 1) + 2) / 6) + 18300 * (((k + 1) + 2) / 5) + 2900 * (((k + 1) + 8) / 40)) (n := 2000 + 252 * (k + 1) + 1752 * (((k + 1) + 2) / 6) + 217500 * (((k + 1) + 2) / 5) + 17200 * (((k + 1) + 8) / 40)) (by omega) (by omega) ?_
      exact ih (k + 1) (by omega) (by omega) tm1 c o t1 (d + 1 + 400) H locs ls hG (by omega) ht1 (by omega) hP hD hS (lv_sub hl [0, 2, 3, 4] rfl)
end LOOP
set_option maxHeartbeats 8000000 in
set_option maxRecDepth 100000 in
theorem whole_start {p : Program} {e : Env} {s : State} {m : MethodId} {below : List Frame} {meth : Method} {c : Code} (l : Launch) (hflags : l.flags = flags0) {b L : Nat} {xs : Nat → Int32} (hL : L ≤ 260) (C0 : lw_At p s m meth c b L xs) : W p l e room_1 s m #[Value.ref b] below meth c s.heap [] 0 0 (lw_Z below #[Value.ref b] s) (entryFrame m ([Value.ref b] : List Value).toArray 6) := by
  obtain ⟨hx, hb, hr, hml, hown, hts0, hX, hbl, hlocks, hgv⟩ := C0
  have hown : s.vm.findClass RL = some m.cls := hown
  have hts : ∀ w ∈ wsL_law, w.before #[Value.ref b] s = true := fun w h => hts0 w (wsL_law_in w h)
  have hA : ∀ q : Nat, s.heap.size ≤ q → (fun q : Nat => s.heap.size ≤ q) q := fun _ h => h
  have hE := st_ev (args := #[Value.ref b]) (fun w h => hts0 w (List.mem_append_right _ (List.mem_append_right _ h))) hgv
  obtain ⟨d0, i0, k0⟩ := u_known (C := RJ4) (T := TJ4) (N := 4) (n := 4) hts0 inJ4 (hts (.instantiable RJ4 4) (by decide +kernel))
  obtain ⟨d1, i1, k1⟩ := u_known (C := RX1) (T := TX1) (N := 8) (n := 8) hts0 inX1 (hts (.instantiable RX1 8) (by decide +kernel))
  obtain ⟨d2, i2, k2⟩ := u_known (C := RX2) (T := TX2) (N := 6) (n := 6) hts0 inX2 (hts (.instantiable RX2 6) (by decide +kernel))
  obtain ⟨d3, i3, k3⟩ := u_known (C := RX3) (T := TX3) (N := 2) (n := 2) hts0 inX3 (hts (.instantiable RX3 2) (by decide +kernel))
  obtain ⟨d4, i4, k4⟩ := u_known (C := RX4) (T := TX4) (N := 3) (n := 3) hts0 inX4 (hts (.instantiable RX4 3) (by decide +kernel))
  obtain ⟨D, hKn⟩ : ∃ D : va_G, ∀ (k : Nat) (q : vw_C), vwCl[k]? = some q → u_Kn s q.1 q.2.1 q.2.2 (D.1 k) (D.2 k) := by
    refine ⟨(fun k => if k = 0 then d0 else if k = 1 then d1 else if k = 2 then d2 else if k = 3 then d3 else d4, fun k => if k = 0 then i0 else if k = 1 then i1 else if k = 2 then i2 else if k = 3 then i3 else i4), ?_⟩
    intro k q hq
    match k, hq with
    | 0, hq => cases hq; exact k0
    | 1, hq => cases hq; exact k1
    | 2, hq => cases hq; exact k2
    | 3, hq => cases hq; exact k3
    | 4, hq => cases hq; exact k4
    | k + 5, hq => simp [vwCl] at hq
  obtain ⟨cI, acI, ncI⟩ := arr_K (hts (.arrayClass .int) (by decide +kernel))
  obtain ⟨cB, acB, ncB⟩ := arr_K (hts (.arrayClass .byte) (by decide +kernel))
  have hK : va_K D vwCl [(cI, .int), (cB, .byte)] s := ⟨hKn, fun k q hq => by
    match k, hq with
    | 0, hq => cases hq; exact ⟨acI, ncI⟩
    | 1, hq => cases hq; exact ⟨acB, ncB⟩
    | k + 2, hq => simp at hq⟩
  have hP : va_P D vwCl [] s.heap := fun k q h => by simp at h
  have hD : va_D (fun q : Nat => s.heap.size ≤ q) [] := ⟨fun i j p q h => by simp at h, fun k q h => by simp at h⟩
  have hS : va_S (fun q : Nat => s.heap.size ≤ q) s.heap s.heap [] := va_S.rf
  have hl := lv_entry ([.ref b]) (n := 6) (Nat.le_of_ble_eq_true rfl)
  rw [lg_entry_eq]
  generalize (lg_sl ([.ref b]) ++ List.replicate (6 - (lg_sl ([.ref b])).length) Slot.unset).toArray = ls at hl ⊢
  have hl : lv_has ls 6 [(0, .ref b)] := hl
  refine va_new (ci := 4) (fs := [.null, .null, .int 0]) (C := RX4) (T := TX4) (N := 3) hx hb hts0 inX4 tyX4 tyX4_ok hown (hts (.classLink RL 9 RX4) (by decide +kernel)) (hts (.instantiable RX4 3) (by decide +kernel)) (hts (.initialized RX4) (by decide +kernel)) hK hP hD hS hA rfl (fun j hj => by rcases (show j = 0 ∨ j = 1 ∨ j = 2 by omega) with rfl | rfl | rfl <;> rfl) (Nat.le_of_ble_eq_true rfl) (Nat.le_of_ble_eq_true rfl) dL_law_0 (fun h H hP hD hS => ?_)
  have hP : va_P D vwCl ([(h, .inr (4, [.null, .null, .int 0]))]) H := hP
  have hD : va_D (fun q : Nat => s.heap.size ≤ q) ([(h, .inr (4, [.null, .null, .int 0]))]) := hD
  refine lv_dup hx hb dL_law_3 rfl ?_
  have hPc := hP.sub (ws' := [(h, .inr (4, [.null, .null, .int 0]))]) [0] rfl
  have hDc := hD.sub (ws' := [(h, .inr (4, [.null, .null, .int 0]))]) [0] (by decide) rfl
  have hFc := va_free (wc := [(h, .inr (4, [.null, .null, .int 0]))]) hD hS hA [0] rfl
  refine va_callv (va_runI (As := []) (rest := [.ref h]) ⟨hx, hb, hml, hown, hts⟩ (c_X4_init l D H.size cI h) (cwI 0 hts ggL_law_X4_init rfl rfl rfl (hts (.initialized RX4) (by decide +kernel)) (hts (.methodLink RL 106 yX4_init) (by decide +kernel)) (hts (.instanceMethod yX4_init) (by decide +kernel)) rfl (by decide +kernel) ⟨Nat.le_of_ble_eq_true rfl, Nat.le_of_ble_eq_true rfl⟩) ⟨pcs_blind, pcs_pre (z0 := true) (fun h => h) (fun _ => hE) hS hPc (hK.sub (tys' := [(cI, .int)]) [0] rfl) hDc hFc⟩ rfl rfl hl.1 rfl (lv_room (Nat.le_of_ble_eq_true rfl)) dL_law_4 ⟨Nat.le_of_ble_eq_true rfl, Nat.le_of_ble_eq_true rfl⟩) hS (fun q _ h => hFc q h) hFc (fun u t H1 locs1 ht hvm hw hB hz1 hk1 hS => ?_)
  obtain ⟨hP, hD⟩ := aft (wr := []) (w1 := [(h, .inr (4, [.ref (u 0), .ref ((fun k => u (10 + k)) 0), .int 0])), (u 0, .inr (1, [.ref (u 1), .ref (u 2), .int ((c00.1) 0), .int ((c00.1) 1), .int ((c00.1) 2), .int ((c00.1) 3), .int ((c00.1) 4), .int ((c00.1) 5)])), (u 1, .inr (2, [.ref (u 3), .int (nI ((c00.2.1) 6)), .int (nI ((c00.2.1) 7)), .ref (u 4), .int (nI ((c00.2.1) 8)), .int ((c00.1) 9)])), (u 2, .inr (3, [.ref (u 5), .int (nI ((c00.2.1) 10))])), (u 3, .inl (cI, 200, .inl (ni ((c00.2.2) 0)))), (u 4, .inl (cI, 200, .inl (ni ((c00.2.2) 1)))), (u 5, .inl (cI, 60, .inl (ni ((c00.2.2) 2)))), ((fun k => u (10 + k)) 0, .inr (1, [.ref ((fun k => u (10 + k)) 1), .ref ((fun k => u (10 + k)) 2), .int ((c00.1) 0), .int ((c00.1) 1), .int ((c00.1) 2), .int ((c00.1) 3), .int ((c00.1) 4), .int ((c00.1) 5)])), ((fun k => u (10 + k)) 1, .inr (2, [.ref ((fun k => u (10 + k)) 3), .int (nI ((c00.2.1) 6)), .int (nI ((c00.2.1) 7)), .ref ((fun k => u (10 + k)) 4), .int (nI ((c00.2.1) 8)), .int ((c00.1) 9)])), ((fun k => u (10 + k)) 2, .inr (3, [.ref ((fun k => u (10 + k)) 5), .int (nI ((c00.2.1) 10))])), ((fun k => u (10 + k)) 3, .inl (cI, 200, .inl (ni ((c00.2.2) 0)))), ((fun k => u (10 + k)) 4, .inl (cI, 200, .inl (ni ((c00.2.2) 1)))), ((fun k => u (10 + k)) 5, .inl (cI, 60, .inl (ni ((c00.2.2) 2))))]) (w2 := [(h, .inr (4, [.ref (u 0), .ref ((fun k => u (10 + k)) 0), .int 0])), (u 0, .inr (1, [.ref (u 1), .ref (u 2), .int ((c00.1) 0), .int ((c00.1) 1), .int ((c00.1) 2), .int ((c00.1) 3), .int ((c00.1) 4), .int ((c00.1) 5)])), (u 1, .inr (2, [.ref (u 3), .int (nI ((c00.2.1) 6)), .int (nI ((c00.2.1) 7)), .ref (u 4), .int (nI ((c00.2.1) 8)), .int ((c00.1) 9)])), (u 2, .inr (3, [.ref (u 5), .int (nI ((c00.2.1) 10))])), (u 3, .inl (cI, 200, .inl (ni ((c00.2.2) 0)))), (u 4, .inl (cI, 200, .inl (ni ((c00.2.2) 1)))), (u 5, .inl (cI, 60, .inl (ni ((c00.2.2) 2)))), ((fun k => u (10 + k)) 0, .inr (1, [.ref ((fun k => u (10 + k)) 1), .ref ((fun k => u (10 + k)) 2), .int ((c00.1) 0), .int ((c00.1) 1), .int ((c00.1) 2), .int ((c00.1) 3), .int ((c00.1) 4), .int ((c00.1) 5)])), ((fun k => u (10 + k)) 1, .inr (2, [.ref ((fun k => u (10 + k)) 3), .int (nI ((c00.2.1) 6)), .int (nI ((c00.2.1) 7)), .ref ((fun k => u (10 + k)) 4), .int (nI ((c00.2.1) 8)), .int ((c00.1) 9)])), ((fun k => u (10 + k)) 2, .inr (3, [.ref ((fun k => u (10 + k)) 5), .int (nI ((c00.2.1) 10))])), ((fun k => u (10 + k)) 3, .inl (cI, 200, .inl (ni ((c00.2.2) 0)))), ((fun k => u (10 + k)) 4, .inl (cI, 200, .inl (ni ((c00.2.2) 1)))), ((fun k => u (10 + k)) 5, .inl (cI, 60, .inl (ni ((c00.2.2) 2))))]) hP hD [0] [] [0, 1, 2, 3, 4, 5, 6, 7, 8, 9, 10, 11, 12] rfl rfl (by decide) (by decide) hFc hk1 ht hB rfl (by decide) rfl
  clear hPc hDc hFc hk1 ht hB hz1 hvm
  generalize H1 = H at hP hS ⊢
  have hP : va_P D vwCl ([(h, .inr (4, [.ref (u 0), .ref ((fun k => u (10 + k)) 0), .int 0])), (u 0, .inr (1, [.ref (u 1), .ref (u 2), .int ((c00.1) 0), .int ((c00.1) 1), .int ((c00.1) 2), .int ((c00.1) 3), .int ((c00.1) 4), .int ((c00.1) 5)])), (u 1, .inr (2, [.ref (u 3), .int (nI ((c00.2.1) 6)), .int (nI ((c00.2.1) 7)), .ref (u 4), .int (nI ((c00.2.1) 8)), .int ((c00.1) 9)])), (u 2, .inr (3, [.ref (u 5), .int (nI ((c00.2.1) 10))])), (u 3, .inl (cI, 200, .inl (ni ((c00.2.2) 0)))), (u 4, .inl (cI, 200, .inl (ni ((c00.2.2) 1)))), (u 5, .inl (cI, 60, .inl (ni ((c00.2.2) 2)))), ((fun k => u (10 + k)) 0, .inr (1, [.ref ((fun k => u (10 + k)) 1), .ref ((fun k => u (10 + k)) 2), .int ((c00.1) 0), .int ((c00.1) 1), .int ((c00.1) 2), .int ((c00.1) 3), .int ((c00.1) 4), .int ((c00.1) 5)])), ((fun k => u (10 + k)) 1, .inr (2, [.ref ((fun k => u (10 + k)) 3), .int (nI ((c00.2.1) 6)), .int (nI ((c00.2.1) 7)), .ref ((fun k => u (10 + k)) 4), .int (nI ((c00.2.1) 8)), .int ((c00.1) 9)])), ((fun k => u (10 + k)) 2, .inr (3, [.ref ((fun k => u (10 + k)) 5), .int (nI ((c00.2.1) 10))])), ((fun k => u (10 + k)) 3, .inl (cI, 200, .inl (ni ((c00.2.2) 0)))), ((fun k => u (10 + k)) 4, .inl (cI, 200, .inl (ni ((c00.2.2) 1)))), ((fun k => u (10 + k)) 5, .inl (cI, 60, .inl (ni ((c00.2.2) 2))))]) H := hP
  have hD : va_D (fun q : Nat => s.heap.size ≤ q) ([(h, .inr (4, [.ref (u 0), .ref ((fun k => u (10 + k)) 0), .int 0])), (u 0, .inr (1, [.ref (u 1), .ref (u 2), .int ((c00.1) 0), .int ((c00.1) 1), .int ((c00.1) 2), .int ((c00.1) 3), .int ((c00.1) 4), .int ((c00.1) 5)])), (u 1, .inr (2, [.ref (u 3), .int (nI ((c00.2.1) 6)), .int (nI ((c00.2.1) 7)), .ref (u 4), .int (nI ((c00.2.1) 8)), .int ((c00.1) 9)])), (u 2, .inr (3, [.ref (u 5), .int (nI ((c00.2.1) 10))])), (u 3, .inl (cI, 200, .inl (ni ((c00.2.2) 0)))), (u 4, .inl (cI, 200, .inl (ni ((c00.2.2) 1)))), (u 5, .inl (cI, 60, .inl (ni ((c00.2.2) 2)))), ((fun k => u (10 + k)) 0, .inr (1, [.ref ((fun k => u (10 + k)) 1), .ref ((fun k => u (10 + k)) 2), .int ((c00.1) 0), .int ((c00.1) 1), .int ((c00.1) 2), .int ((c00.1) 3), .int ((c00.1) 4), .int ((c00.1) 5)])), ((fun k => u (10 + k)) 1, .inr (2, [.ref ((fun k => u (10 + k)) 3), .int (nI ((c00.2.1) 6)), .int (nI ((c00.2.1) 7)), .ref ((fun k => u (10 + k)) 4), .int (nI ((c00.2.1) 8)), .int ((c00.1) 9)])), ((fun k => u (10 + k)) 2, .inr (3, [.ref ((fun k => u (10 + k)) 5), .int (nI ((c00.2.1) 10))])), ((fun k => u (10 + k)) 3, .inl (cI, 200, .inl (ni ((c00.2.2) 0)))), ((fun k => u (10 + k)) 4, .inl (cI, 200, .inl (ni ((c00.2.2) 1)))), ((fun k => u (10 + k)) 5, .inl (cI, 60, .inl (ni ((c00.2.2) 2))))]) := hD
  refine lv_astore_n (lv' := [(1, .ref h), (0, .ref b)]) hx hb dL_law_7 rfl hl (by decide) rfl (fun ls hl => ?_)
  refine va_new (ci := 4) (fs := [.null, .null, .int 0]) (C := RX4) (T := TX4) (N := 3) hx hb hts0 inX4 tyX4 tyX4_ok hown (hts (.classLink RL 9 RX4) (by decide +kernel)) (hts (.instantiable RX4 3) (by decide +kernel)) (hts (.initialized RX4) (by decide +kernel)) hK hP hD hS hA rfl (fun j hj => by rcases (show j = 0 ∨ j = 1 ∨ j = 2 by omega) with rfl | rfl | rfl <;> rfl) (Nat.le_of_ble_eq_true rfl) (Nat.le_of_ble_eq_true rfl) dL_law_8 (fun g H hP hD hS => ?_)
  have hP : va_P D vwCl ([(h, .inr (4, [.ref (u 0), .ref ((fun k => u (10 + k)) 0), .int 0])), (u 0, .inr (1, [.ref (u 1), .ref (u 2), .int ((c00.1) 0), .int ((c00.1) 1), .int ((c00.1) 2), .int ((c00.1) 3), .int ((c00.1) 4), .int ((c00.1) 5)])), (u 1, .inr (2, [.ref (u 3), .int (nI ((c00.2.1) 6)), .int (nI ((c00.2.1) 7)), .ref (u 4), .int (nI ((c00.2.1) 8)), .int ((c00.1) 9)])), (u 2, .inr (3, [.ref (u 5), .int (nI ((c00.2.1) 10))])), (u 3, .inl (cI, 200, .inl (ni ((c00.2.2) 0)))), (u 4, .inl (cI, 200, .inl (ni ((c00.2.2) 1)))), (u 5, .inl (cI, 60, .inl (ni ((c00.2.2) 2)))), ((fun k => u (10 + k)) 0, .inr (1, [.ref ((fun k => u (10 + k)) 1), .ref ((fun k => u (10 + k)) 2), .int ((c00.1) 0), .int ((c00.1) 1), .int ((c00.1) 2), .int ((c00.1) 3), .int ((c00.1) 4), .int ((c00.1) 5)])), ((fun k => u (10 + k)) 1, .inr (2, [.ref ((fun k => u (10 + k)) 3), .int (nI ((c00.2.1) 6)), .int (nI ((c00.2.1) 7)), .ref ((fun k => u (10 + k)) 4), .int (nI ((c00.2.1) 8)), .int ((c00.1) 9)])), ((fun k => u (10 + k)) 2, .inr (3, [.ref ((fun k => u (10 + k)) 5), .int (nI ((c00.2.1) 10))])), ((fun k => u (10 + k)) 3, .inl (cI, 200, .inl (ni ((c00.2.2) 0)))), ((fun k => u (10 + k)) 4, .inl (cI, 200, .inl (ni ((c00.2.2) 1)))), ((fun k => u (10 + k)) 5, .inl (cI, 60, .inl (ni ((c00.2.2) 2)))), (g, .inr (4, [.null, .null, .int 0]))]) H := hP
  have hD : va_D (fun q : Nat => s.heap.size ≤ q) ([(h, .inr (4, [.ref (u 0), .ref ((fun k => u (10 + k)) 0), .int 0])), (u 0, .inr (1, [.ref (u 1), .ref (u 2), .int ((c00.1) 0), .int ((c00.1) 1), .int ((c00.1) 2), .int ((c00.1) 3), .int ((c00.1) 4), .int ((c00.1) 5)])), (u 1, .inr (2, [.ref (u 3), .int (nI ((c00.2.1) 6)), .int (nI ((c00.2.1) 7)), .ref (u 4), .int (nI ((c00.2.1) 8)), .int ((c00.1) 9)])), (u 2, .inr (3, [.ref (u 5), .int (nI ((c00.2.1) 10))])), (u 3, .inl (cI, 200, .inl (ni ((c00.2.2) 0)))), (u 4, .inl (cI, 200, .inl (ni ((c00.2.2) 1)))), (u 5, .inl (cI, 60, .inl (ni ((c00.2.2) 2)))), ((fun k => u (10 + k)) 0, .inr (1, [.ref ((fun k => u (10 + k)) 1), .ref ((fun k => u (10 + k)) 2), .int ((c00.1) 0), .int ((c00.1) 1), .int ((c00.1) 2), .int ((c00.1) 3), .int ((c00.1) 4), .int ((c00.1) 5)])), ((fun k => u (10 + k)) 1, .inr (2, [.ref ((fun k => u (10 + k)) 3), .int (nI ((c00.2.1) 6)), .int (nI ((c00.2.1) 7)), .ref ((fun k => u (10 + k)) 4), .int (nI ((c00.2.1) 8)), .int ((c00.1) 9)])), ((fun k => u (10 + k)) 2, .inr (3, [.ref ((fun k => u (10 + k)) 5), .int (nI ((c00.2.1) 10))])), ((fun k => u (10 + k)) 3, .inl (cI, 200, .inl (ni ((c00.2.2) 0)))), ((fun k => u (10 + k)) 4, .inl (cI, 200, .inl (ni ((c00.2.2) 1)))), ((fun k => u (10 + k)) 5, .inl (cI, 60, .inl (ni ((c00.2.2) 2)))), (g, .inr (4, [.null, .null, .int 0]))]) := hD
  refine lv_dup hx hb dL_law_11 rfl ?_
  have hPc := hP.sub (ws' := [(g, .inr (4, [.null, .null, .int 0]))]) [13] rfl
  have hDc := hD.sub (ws' := [(g, .inr (4, [.null, .null, .int 0]))]) [13] (by decide) rfl
  have hFc := va_free (wc := [(g, .inr (4, [.null, .null, .int 0]))]) hD hS hA [13] rfl
  refine va_callv (va_runI (As := []) (rest := [.ref g]) ⟨hx, hb, hml, hown, hts⟩ (c_X4_init l D H.size cI g) (cwI 0 hts ggL_law_X4_init rfl rfl rfl (hts (.initialized RX4) (by decide +kernel)) (hts (.methodLink RL 106 yX4_init) (by decide +kernel)) (hts (.instanceMethod yX4_init) (by decide +kernel)) rfl (by decide +kernel) ⟨Nat.le_of_ble_eq_true rfl, Nat.le_of_ble_eq_true rfl⟩) ⟨pcs_blind, pcs_pre (z0 := true) (fun h => h) (fun _ => hE) hS hPc (hK.sub (tys' := [(cI, .int)]) [0] rfl) hDc hFc⟩ rfl rfl hl.1 rfl (lv_room (Nat.le_of_ble_eq_true rfl)) dL_law_12 ⟨Nat.le_of_ble_eq_true rfl, Nat.le_of_ble_eq_true rfl⟩) hS (fun q _ h => hFc q h) hFc (fun v t H1 locs1 ht hvm hw hB hz1 hk1 hS => ?_)
  obtain ⟨hP, hD⟩ := aft (wr := [(h, .inr (4, [.ref (u 0), .ref ((fun k => u (10 + k)) 0), .int 0])), (u 0, .inr (1, [.ref (u 1), .ref (u 2), .int ((c00.1) 0), .int ((c00.1) 1), .int ((c00.1) 2), .int ((c00.1) 3), .int ((c00.1) 4), .int ((c00.1) 5)])), (u 1, .inr (2, [.ref (u 3), .int (nI ((c00.2.1) 6)), .int (nI ((c00.2.1) 7)), .ref (u 4), .int (nI ((c00.2.1) 8)), .int ((c00.1) 9)])), (u 2, .inr (3, [.ref (u 5), .int (nI ((c00.2.1) 10))])), (u 3, .inl (cI, 200, .inl (ni ((c00.2.2) 0)))), (u 4, .inl (cI, 200, .inl (ni ((c00.2.2) 1)))), (u 5, .inl (cI, 60, .inl (ni ((c00.2.2) 2)))), ((fun k => u (10 + k)) 0, .inr (1, [.ref ((fun k => u (10 + k)) 1), .ref ((fun k => u (10 + k)) 2), .int ((c00.1) 0), .int ((c00.1) 1), .int ((c00.1) 2), .int ((c00.1) 3), .int ((c00.1) 4), .int ((c00.1) 5)])), ((fun k => u (10 + k)) 1, .inr (2, [.ref ((fun k => u (10 + k)) 3), .int (nI ((c00.2.1) 6)), .int (nI ((c00.2.1) 7)), .ref ((fun k => u (10 + k)) 4), .int (nI ((c00.2.1) 8)), .int ((c00.1) 9)])), ((fun k => u (10 + k)) 2, .inr (3, [.ref ((fun k => u (10 + k)) 5), .int (nI ((c00.2.1) 10))])), ((fun k => u (10 + k)) 3, .inl (cI, 200, .inl (ni ((c00.2.2) 0)))), ((fun k => u (10 + k)) 4, .inl (cI, 200, .inl (ni ((c00.2.2) 1)))), ((fun k => u (10 + k)) 5, .inl (cI, 60, .inl (ni ((c00.2.2) 2))))]) (w1 := [(g, .inr (4, [.ref (v 0), .ref ((fun k => v (10 + k)) 0), .int 0])), (v 0, .inr (1, [.ref (v 1), .ref (v 2), .int ((c00.1) 0), .int ((c00.1) 1), .int ((c00.1) 2), .int ((c00.1) 3), .int ((c00.1) 4), .int ((c00.1) 5)])), (v 1, .inr (2, [.ref (v 3), .int (nI ((c00.2.1) 6)), .int (nI ((c00.2.1) 7)), .ref (v 4), .int (nI ((c00.2.1) 8)), .int ((c00.1) 9)])), (v 2, .inr (3, [.ref (v 5), .int (nI ((c00.2.1) 10))])), (v 3, .inl (cI, 200, .inl (ni ((c00.2.2) 0)))), (v 4, .inl (cI, 200, .inl (ni ((c00.2.2) 1)))), (v 5, .inl (cI, 60, .inl (ni ((c00.2.2) 2)))), ((fun k => v (10 + k)) 0, .inr (1, [.ref ((fun k => v (10 + k)) 1), .ref ((fun k => v (10 + k)) 2), .int ((c00.1) 0), .int ((c00.1) 1), .int ((c00.1) 2), .int ((c00.1) 3), .int ((c00.1) 4), .int ((c00.1) 5)])), ((fun k => v (10 + k)) 1, .inr (2, [.ref ((fun k => v (10 + k)) 3), .int (nI ((c00.2.1) 6)), .int (nI ((c00.2.1) 7)), .ref ((fun k => v (10 + k)) 4), .int (nI ((c00.2.1) 8)), .int ((c00.1) 9)])), ((fun k => v (10 + k)) 2, .inr (3, [.ref ((fun k => v (10 + k)) 5), .int (nI ((c00.2.1) 10))])), ((fun k => v (10 + k)) 3, .inl (cI, 200, .inl (ni ((c00.2.2) 0)))), ((fun k => v (10 + k)) 4, .inl (cI, 200, .inl (ni ((c00.2.2) 1)))), ((fun k => v (10 + k)) 5, .inl (cI, 60, .inl (ni ((c00.2.2) 2))))]) (w2 := [(h, .inr (4, [.ref (u 0), .ref ((fun k => u (10 + k)) 0), .int 0])), (u 0, .inr (1, [.ref (u 1), .ref (u 2), .int ((c00.1) 0), .int ((c00.1) 1), .int ((c00.1) 2), .int ((c00.1) 3), .int ((c00.1) 4), .int ((c00.1) 5)])), (u 1, .inr (2, [.ref (u 3), .int (nI ((c00.2.1) 6)), .int (nI ((c00.2.1) 7)), .ref (u 4), .int (nI ((c00.2.1) 8)), .int ((c00.1) 9)])), (u 2, .inr (3, [.ref (u 5), .int (nI ((c00.2.1) 10))])), (u 3, .inl (cI, 200, .inl (ni ((c00.2.2) 0)))), (u 4, .inl (cI, 200, .inl (ni ((c00.2.2) 1)))), (u 5, .inl (cI, 60, .inl (ni ((c00.2.2) 2)))), ((fun k => u (10 + k)) 0, .inr (1, [.ref ((fun k => u (10 + k)) 1), .ref ((fun k => u (10 + k)) 2), .int ((c00.1) 0), .int ((c00.1) 1), .int ((c00.1) 2), .int ((c00.1) 3), .int ((c00.1) 4), .int ((c00.1) 5)])), ((fun k => u (10 + k)) 1, .inr (2, [.ref ((fun k => u (10 + k)) 3), .int (nI ((c00.2.1) 6)), .int (nI ((c00.2.1) 7)), .ref ((fun k => u (10 + k)) 4), .int (nI ((c00.2.1) 8)), .int ((c00.1) 9)])), ((fun k => u (10 + k)) 2, .inr (3, [.ref ((fun k => u (10 + k)) 5), .int (nI ((c00.2.1) 10))])), ((fun k => u (10 + k)) 3, .inl (cI, 200, .inl (ni ((c00.2.2) 0)))), ((fun k => u (10 + k)) 4, .inl (cI, 200, .inl (ni ((c00.2.2) 1)))), ((fun k => u (10 + k)) 5, .inl (cI, 60, .inl (ni ((c00.2.2) 2)))), (g, .inr (4, [.ref (v 0), .ref ((fun k => v (10 + k)) 0), .int 0])), (v 0, .inr (1, [.ref (v 1), .ref (v 2), .int ((c00.1) 0), .int ((c00.1) 1), .int ((c00.1) 2), .int ((c00.1) 3), .int ((c00.1) 4), .int ((c00.1) 5)])), (v 1, .inr (2, [.ref (v 3), .int (nI ((c00.2.1) 6)), .int (nI ((c00.2.1) 7)), .ref (v 4), .int (nI ((c00.2.1) 8)), .int ((c00.1) 9)])), (v 2, .inr (3, [.ref (v 5), .int (nI ((c00.2.1) 10))])), (v 3, .inl (cI, 200, .inl (ni ((c00.2.2) 0)))), (v 4, .inl (cI, 200, .inl (ni ((c00.2.2) 1)))), (v 5, .inl (cI, 60, .inl (ni ((c00.2.2) 2)))), ((fun k => v (10 + k)) 0, .inr (1, [.ref ((fun k => v (10 + k)) 1), .ref ((fun k => v (10 + k)) 2), .int ((c00.1) 0), .int ((c00.1) 1), .int ((c00.1) 2), .int ((c00.1) 3), .int ((c00.1) 4), .int ((c00.1) 5)])), ((fun k => v (10 + k)) 1, .inr (2, [.ref ((fun k => v (10 + k)) 3), .int (nI ((c00.2.1) 6)), .int (nI ((c00.2.1) 7)), .ref ((fun k => v (10 + k)) 4), .int (nI ((c00.2.1) 8)), .int ((c00.1) 9)])), ((fun k => v (10 + k)) 2, .inr (3, [.ref ((fun k => v (10 + k)) 5), .int (nI ((c00.2.1) 10))])), ((fun k => v (10 + k)) 3, .inl (cI, 200, .inl (ni ((c00.2.2) 0)))), ((fun k => v (10 + k)) 4, .inl (cI, 200, .inl (ni ((c00.2.2) 1)))), ((fun k => v (10 + k)) 5, .inl (cI, 60, .inl (ni ((c00.2.2) 2))))]) hP hD [13] [0, 1, 2, 3, 4, 5, 6, 7, 8, 9, 10, 11, 12] [0, 1, 2, 3, 4, 5, 6, 7, 8, 9, 10, 11, 12, 13, 14, 15, 16, 17, 18, 19, 20, 21, 22, 23, 24, 25] rfl rfl (by decide) (by decide) hFc hk1 ht hB rfl (by decide) rfl
  clear hPc hDc hFc hk1 ht hB hz1 hvm
  generalize H1 = H at hP hS ⊢
  have hP : va_P D vwCl (wB cI h g u (fun k => u (10 + k)) v (fun k => v (10 + k)) 0 c00 c00) H := hP
  have hD : va_D (fun q : Nat => s.heap.size ≤ q) (wB cI h g u (fun k => u (10 + k)) v (fun k => v (10 + k)) 0 c00 c00) := hD
  refine lv_astore_n (lv' := [(2, .ref g), (1, .ref h), (0, .ref b)]) hx hb dL_law_15 rfl hl (by decide) rfl (fun ls hl => ?_)
  refine lv_iconst (v := nI 0) hx hb dL_law_16 (by decide) ?_
  refine lv_istore_n (lv' := [(3, .int (nI 0)), (2, .ref g), (1, .ref h), (0, .ref b)]) hx hb dL_law_17 rfl hl (by decide) rfl (fun ls hl => ?_)
  refine W.widen (k := 30 + 42 * 0 + 172 * ((0 + 2) / 6) + 18300 * ((0 + 2) / 5) + 2900 * ((0 + 8) / 40)) (n := 2000 + 252 * 0 + 1752 * ((0 + 2) / 6) + 217500 * ((0 + 2) / 5) + 17200 * ((0 + 8) / 40)) (Nat.le_of_ble_eq_true rfl) (Nat.le_of_ble_eq_true rfl) ?_
  exact law_loop (q1 := u) (q2 := fun k => u (10 + k)) (w1 := v) (w2 := fun k => v (10 + k)) hr hlocks rfl ⟨⟨hx, hb, hml, hown, hts⟩, hK, hE, hX, hbl, Nat.not_le.mpr hbl, hA, lg_no hflags, hL⟩ 122 0 (by omega) (by omega) 0 c00 c00 0 0 _ _ _ gg00 (Nat.zero_le _) rfl (Nat.le_refl 0) hP hD hS hl
