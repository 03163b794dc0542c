/-! THE CLAIM OUT OF ONE WALK OF THE LAW'S BODY. Your part is whole_start (and what it stands on); all else here is the same for every law, but numbers. -/
def R_law : String := "SessionFixLaw"
def lw_P (b : Addr) (xs : List Int32) (args : Array Value) (s : State) : Prop := args = #[.ref b] ∧ s.IntsAt b xs ∧ xs.length ≤ 2048 ∧ (Jvm.Cond.and given_1 narrow_1).before args s = true
def lw_Q (_ : Array Value) (s : State) (o : Outcome) (t : State) : Prop := o = .returned (some (.int 1)) ∧ Framed s o t [] 601024 7293034
def lw_Z (below : List Frame) (a : Array Value) (s : State) : State → Prop := fun t => ∃ o, t.status = .running ∧ Ended t below o ∧ lw_Q a s o t
/-- the law's own end, with 1 on the stack, nothing written that was there before, its room as the claim has it -/
theorem lw_ret {p : Program} {l : Launch} {e : Env} {s : State} {m : MethodId} {below : List Frame} {meth : Method} {c : Code} {b : Nat} (hx : p.tables.exec = Jvm.exec) (hb : c.code = code) (hr : meth.sig.returnType = ret) (hlocks : meth.locks = false) {pc : Nat} {H : Heap} {ls : Array Slot} (hdg : decode code pc = .ok (.ireturn, 1)) : W p l e room_1 s m #[Value.ref b] below meth c H [] 601024 7293034 (lw_Z below #[Value.ref b] s) (F0 m pc ls [.int 1]) := by
  intro T hT X
  obtain ⟨fs, hret, hrun, hended, hW, hframe⟩ := X.leave (v := some (.int 1)) (hlocks := hlocks) (fun h => by rw [hr] at h; cases h)
  have hmeth' : T.vm.method? m = some meth := X.method'
  refine ⟨T.setFrames fs, ?_, .returned (some (.int 1)), hrun, hended, rfl, ⟨_, rfl⟩, hW, hframe⟩
  jvm_step X.here [X.here.top, hx, hb, hdg, hmeth', hr, ret, narrow_b1]
  (try refine ⟨rfl, ?_⟩); (try refine ⟨rfl, ?_⟩)
  first | (intro acts; rw [hret _ acts rfl rfl rfl]) | rw [hret _ _ rfl rfl rfl]
  exact Steps.refl _
/-- what holds at the law's entry: the machine, the code, the tables' words (any of lw_tbl by 'hts w (by decide +kernel)'), the script of L ints xs at the cell b, what the Statement gives of the start (any of its parts by flat_of_before) -/
def lw_At (p : Program) (s : State) (m : MethodId) (meth : Method) (c : Code) (b L : Nat) (xs : Nat → Int32) : Prop :=
  p.tables.exec = Jvm.exec ∧ c.code = code ∧ meth.sig.returnType = ret ∧ c.maxLocals = 7 ∧ s.vm.findClass R_law = some m.cls ∧ (∀ w ∈ lw_tbl, w.before #[Value.ref b] s = true) ∧ va_X b L xs s s.heap ∧ b < s.heap.size ∧ meth.locks = false ∧ (Jvm.Cond.and given_1 narrow_1).before #[Value.ref b] s = true
/-! ===== the law's loop ===== -/
theorem ix4 {L i : Nat} (hL : L ≤ 2048) (hi : i ≤ 4096) : nI L - nI 4 < nI i ↔ L < i + 4 := by
  rw [Int32.lt_iff_toInt_lt, pk_sub_toInt (by omega) (by omega), nI_toInt (by omega)]
  omega
theorem arr_K {args : Array Value} {s : State} {ty : FieldType} (h : (Cond.arrayClass ty).before args s = true) : ∃ cA : ClassId, ArrOfT s cA ty ∧ s.vm.findClass ("[" ++ ty.toString) = some cA := by
  obtain ⟨c, k, comp, h1, h2, h3⟩ := Cond.arrayClass_spec h
  exact ⟨c, fun n z => ⟨fun k h => (by cases h), k, h2, comp, h3⟩, h1⟩
theorem lg_no {l : Launch} (h : l.flags = flags0) : l.stackTraces = false := by
  unfold Launch.stackTraces
  rw [h]
  decide +kernel
/-! the start of both -/
def c00 : CS := (fun _ => 0, fun k => match k with
  | 7 => 1
  | _ => 0, fun _ _ => 0)
abbrev s00 : RS := rEmpties (rI0, rN0)
theorem rel00 : rel2 0 c00 c00 s00 :=
  ⟨by omega, ⟨rfl, rfl, rfl, rfl, rfl, rfl, rfl, rfl, rfl, rfl, rfl, fun j hj => absurd hj (Nat.not_lt_zero j), fun j hj => absurd hj (Nat.not_lt_zero j), fun j hj => absurd hj (Nat.not_lt_zero j)⟩,
    ⟨rfl, rfl, rfl, rfl, rfl, rfl, rfl, rfl, rfl, rfl, rfl, fun j hj => absurd hj (Nat.not_lt_zero j), fun j hj => absurd hj (Nat.not_lt_zero j), fun j hj => absurd hj (Nat.not_lt_zero j)⟩, Nat.zero_le 60, Nat.zero_le 60, Nat.zero_le 200, Nat.zero_le 200, Nat.zero_le 200, Nat.zero_le 200⟩
theorem ba00 : ba c00.2.2 := fun _ _ => show 0 < 16777216 by omega
theorem inv00 : inv s00 := by
  have gn : nb rN0 := fun _ _ => show 0 < 16777216 by omega
  refine ⟨fun t ht => ?_, fun j => show 0 < 7 by omega, fun j => show 0 < 1000 by omega, fun j => show 0 < 8 by omega, fun j => show 0 < 7 by omega, fun j => show 0 < 1000 by omega, fun j => show 0 < 8 by omega, nb_up (nb_up (nb_up (nb_up gn (up_all (up_all (gn 4) (by omega)) (by omega))) (up_all (up_all (gn 5) (by omega)) (by omega))) (up_all (up_all (gn 10) (by omega)) (by omega))) (up_all (up_all (gn 17) (by omega)) (by omega))⟩
  have x4 : ∀ u, u < 2 → s00.2 4 u = 1 := fun u hu => z_two (f := rN0 4) hu
  have x5 : ∀ u, u < 2 → s00.2 5 u = 1 := fun u hu => z_two (f := rN0 5) hu
  have x10 : ∀ u, u < 2 → s00.2 10 u = 0 := fun u hu => z_two (f := rN0 10) hu
  have x17 : ∀ u, u < 2 → s00.2 17 u = 0 := fun u hu => z_two (f := rN0 17) hu
  refine ⟨Or.inl rfl, fun _ => rfl, ?_, ?_, ?_, ?_, fun j hj => ?_⟩
  · rw [x4 t ht]; omega
  · rw [x5 t ht, x4 (1 - t) (by omega)]; omega
  · rw [x10 t ht, x5 t ht]; omega
  · rw [x17 t ht]; omega
  · rw [x17 t ht] at hj; exact absurd hj (Nat.not_lt_zero j)
section LOOP
variable {p : Program} {l : Launch} {e : Env} {s : State} {m : MethodId} {below : List Frame} {meth : Method} {cd : Code} {b L : Nat} {xs : Nat → Int32} {D : va_G} {cI cB cL cZ cC : ClassId} {h ou g : Nat} {q qz qo : Nat → Nat}
set_option maxHeartbeats 4000000 in
set_option maxRecDepth 100000 in
theorem law_loop (hr : meth.sig.returnType = ret) (hlocks : meth.locks = false) (C : lawCx p l s m cd b L xs D cI cB cL cZ cC) : ∀ (fuel t : Nat), 513 - t < fuel → t ≤ 512 → ∀ (H : Heap) (locs : List Loc) (ls : Array Slot), lawSt D cI cB cL cZ cC h ou g q qz qo b s (4 * t) H locs ls → W p l e room_1 s m #[Value.ref b] below meth cd H locs (40 + 12 * t) (4000 + 276 * t) (lw_Z below #[Value.ref b] s) (F0 m 23 ls []) := by
  intro fuel
  induction fuel with
  | zero => intro t hf; exact absurd hf (Nat.not_lt_zero _)
  | succ fuel ih =>
    intro t hf ht H locs ls hLS
    have C9 := C
    obtain ⟨⟨hx, hb, hml, hown, hts⟩, hK, hE, hX, hbl, hlt, hL⟩ := C9
    have hLS9 := hLS
    obtain ⟨tm, t1, c, o, f, sr, hr9, hP, hD, hS, hl⟩ := hLS9
    refine lv_iload hx hb dL_law_23 (lv_at hl 0 rfl) ?_
    refine lv_aload_n hx hb dL_law_25 rfl (lv_at hl 4 rfl) ?_
    refine va_slen hx hb hX hbl (Nat.not_le.mpr hbl) hS dL_law_26 ?_
    refine lv_iconst (v := nI 4) hx hb dL_law_27 (by decide) ?_
    refine lv_isub hx hb dL_law_28 ?_
    refine lv_icmp_gt (tgt := 1361) hx hb dL_law_29 (by decide) (fun z => ?_) (fun z => ?_)
    · refine lv_iconst (v := 1) hx hb dL_law_1361 (by decide) ?_
      refine va_forget hS.2.2 ?_
      refine W.widen (k := 601024) (n := 7293034) (by omega) (by omega) ?_
      exact lw_ret hx hb hr hlocks dL_law_1362
    · have hi4 : 4 * t + 4 ≤ L := Nat.not_lt.mp (fun y => z ((ix4 hL (by omega)).mpr y))
      have KK : ∀ (H : Heap) (locs : List Loc) (ls : Array Slot), lawSt D cI cB cL cZ cC h ou g q qz qo b s (4 * t) H locs ls → W p l e room_1 s m #[Value.ref b] below meth cd H locs (40 + 12 * t + 12) (4000 + 276 * t + 276) (lw_Z below #[Value.ref b] s) (F0 m 1355 ls []) := by
        intro H locs ls hLS
        obtain ⟨tm, t1, c, o, f, sr, hr9, hP, hD, hS, hl⟩ := hLS
        refine lv_iinc (v := nI (4 * (t + 1))) (lv' := [(4, .int (nI (4 * (t + 1)))), (3, .ref ou), (2, .ref g), (1, .ref h), (0, .ref b)]) hx hb dL_law_1355 hl (k := 0) rfl (by rw [show 4 * (t + 1) = 4 * t + 4 by omega]; exact nI_add (4 * t) 4) (by decide) rfl (fun ls hl => ?_)
        refine lv_goto (tgt := 23) hx hb dL_law_1358 (by decide) ?_
        refine W.widen (k := 40 + 12 * (t + 1)) (n := 4000 + 276 * (t + 1)) (by omega) (by omega) ?_
        exact ih (t + 1) (by omega) (by omega) _ _ _ ⟨tm, t1, c, o, f, sr, hr9, hP, hD, hS, hl⟩
      have hcs : 40 + 12 * t + 12 ≤ 601024 ∧ 4000 + 276 * t + 276 ≤ 7293034 := by omega
      refine lv_aload_n hx hb dL_law_32 rfl (lv_at hl 4 rfl) ?_
      refine lv_iload hx hb dL_law_33 (lv_at hl 0 rfl) ?_
      refine va_sld hx hb hX hbl (Nat.not_le.mpr hbl) hS (vp_in_nI (show 4 * t < L by omega) (by omega)) dL_law_35 ?_
      refine lv_bipush (v := 31) hx hb dL_law_36 (by decide) ?_
      refine lv_iand hx hb dL_law_38 ?_
      obtain ⟨j, hj, ej⟩ := pk_andE (xs (nI (4 * t)).toNatClampNeg) (m := 31) 5 (by decide)
      refine tp ej ?_
      rcases (show j = 0 ∨ j = 1 ∨ j = 2 ∨ j = 3 ∨ j = 4 ∨ j = 5 ∨ j = 6 ∨ j = 7 ∨ j = 8 ∨ j = 9 ∨ j = 10 ∨ j = 11 ∨ j = 12 ∨ j = 13 ∨ j = 14 ∨ j = 15 ∨ j = 16 ∨ j = 17 ∨ j = 18 ∨ j = 19 ∨ j = 20 ∨ 20 < j by omega) with h9 | h9 | h9 | h9 | h9 | h9 | h9 | h9 | h9 | h9 | h9 | h9 | h9 | h9 | h9 | h9 | h9 | h9 | h9 | h9 | h9 | h9
      · rw [h9]
        refine tp (show nI 0 = 0 from rfl) ?_
        refine lv_tableIn (tgt := 136) hx hb dL_law_39 (by decide) (by decide) (off := 97) (by decide) (by decide) ?_
        exact law_logon C (by omega) hcs hLS KK
      · rw [h9]
        refine tp (show nI 1 = 1 from rfl) ?_
        refine lv_tableIn (tgt := 192) hx hb dL_law_39 (by decide) (by decide) (off := 153) (by decide) (by decide) ?_
        exact law_logout C (by omega) hcs hLS KK
      · rw [h9]
        refine tp (show nI 2 = 2 from rfl) ?_
        refine lv_tableIn (tgt := 248) hx hb dL_law_39 (by decide) (by decide) (off := 209) (by decide) (by decide) ?_
        exact law_crash C (by omega) hcs hLS KK
      · rw [h9]
        refine tp (show nI 3 = 3 from rfl) ?_
        refine lv_tableIn (tgt := 311) hx hb dL_law_39 (by decide) (by decide) (off := 272) (by decide) (by decide) ?_
        exact law_endDay C (by omega) hcs hLS KK
      · rw [h9]
        refine tp (show nI 4 = 4 from rfl) ?_
        refine lv_tableIn (tgt := 355) hx hb dL_law_39 (by decide) (by decide) (off := 316) (by decide) (by decide) ?_
        exact law_send C (by omega) hcs hLS KK
      · rw [h9]
        refine tp (show nI 5 = 5 from rfl) ?_
        refine lv_tableIn (tgt := 423) hx hb dL_law_39 (by decide) (by decide) (off := 384) (by decide) (by decide) ?_
        exact law_again C (by omega) hcs hLS KK
      · rw [h9]
        refine tp (show nI 6 = 6 from rfl) ?_
        refine lv_tableIn (tgt := 491) hx hb dL_law_39 (by decide) (by decide) (off := 452) (by decide) (by decide) ?_
        exact law_deliver C (by omega) hcs hLS KK
      · rw [h9]
        refine tp (show nI 7 = 7 from rfl) ?_
        refine lv_tableIn (tgt := 547) hx hb dL_law_39 (by decide) (by decide) (off := 508) (by decide) (by decide) ?_
        exact law_lose C (by omega) hcs hLS KK
      · rw [h9]
        refine tp (show nI 8 = 8 from rfl) ?_
        refine lv_tableIn (tgt := 603) hx hb dL_law_39 (by decide) (by decide) (off := 564) (by decide) (by decide) ?_
        exact law_tick C hcs hLS KK
      · rw [h9]
        refine tp (show nI 9 = 9 from rfl) ?_
        refine lv_tableIn (tgt := 616) hx hb dL_law_39 (by decide) (by decide) (off := 577) (by decide) (by decide) ?_
        exact law_stateOf C (by omega) hcs hLS KK
      · rw [h9]
        refine tp (show nI 10 = 10 from rfl) ?_
        refine lv_tableIn (tgt := 672) hx hb dL_law_39 (by decide) (by decide) (off := 633) (by decide) (by decide) ?_
        exact law_next C (by omega) hcs hLS KK
      · rw [h9]
        refine tp (show nI 11 = 11 from rfl) ?_
        refine lv_tableIn (tgt := 728) hx hb dL_law_39 (by decide) (by decide) (off := 689) (by decide) (by decide) ?_
        exact law_expected C (by omega) hcs hLS KK
      · rw [h9]
        refine tp (show nI 12 = 12 from rfl) ?_
        refine lv_tableIn (tgt := 784) hx hb dL_law_39 (by decide) (by decide) (off := 745) (by decide) (by decide) ?_
        exact law_isAsking C (by omega) hcs hLS KK
      · rw [h9]
        refine tp (show nI 13 = 13 from rfl) ?_
        refine lv_tableIn (tgt := 847) hx hb dL_law_39 (by decide) (by decide) (off := 808) (by decide) (by decide) ?_
        exact law_wire C (by omega) hcs hLS KK
      · rw [h9]
        refine tp (show nI 14 = 14 from rfl) ?_
        refine lv_tableIn (tgt := 903) hx hb dL_law_39 (by decide) (by decide) (off := 864) (by decide) (by decide) ?_
        exact law_numberAt C (by omega) hcs hLS KK
      · rw [h9]
        refine tp (show nI 15 = 15 from rfl) ?_
        refine lv_tableIn (tgt := 971) hx hb dL_law_39 (by decide) (by decide) (off := 932) (by decide) (by decide) ?_
        exact law_textLength C (by omega) hcs hLS KK
      · rw [h9]
        refine tp (show nI 16 = 16 from rfl) ?_
        refine lv_tableIn (tgt := 1039) hx hb dL_law_39 (by decide) (by decide) (off := 1000) (by decide) (by decide) ?_
        exact law_textChar C (by omega) hcs hLS KK
      · rw [h9]
        refine tp (show nI 17 = 17 from rfl) ?_
        refine lv_tableIn (tgt := 1119) hx hb dL_law_39 (by decide) (by decide) (off := 1080) (by decide) (by decide) ?_
        exact law_handled C (by omega) hcs hLS KK
      · rw [h9]
        refine tp (show nI 18 = 18 from rfl) ?_
        refine lv_tableIn (tgt := 1175) hx hb dL_law_39 (by decide) (by decide) (off := 1136) (by decide) (by decide) ?_
        exact law_handledKey C (by omega) hcs hLS KK
      · rw [h9]
        refine tp (show nI 19 = 19 from rfl) ?_
        refine lv_tableIn (tgt := 1243) hx hb dL_law_39 (by decide) (by decide) (off := 1204) (by decide) (by decide) ?_
        exact law_doubles C (by omega) hcs hLS KK
      · rw [h9]
        refine tp (show nI 20 = 20 from rfl) ?_
        refine lv_tableIn (tgt := 1299) hx hb dL_law_39 (by decide) (by decide) (off := 1260) (by decide) (by decide) ?_
        exact law_agreed C (by omega) hcs hLS KK
      · refine lv_tableOut (tgt := 1355) hx hb dL_law_39 (Or.inr (by rw [nI_toInt (by omega)]; omega)) (by decide) ?_
        exact W.widen (by omega) (by omega) (KK _ _ _ hLS)
end LOOP
set_option maxHeartbeats 8000000 in
set_option maxRecDepth 100000 in
theorem whole_start {p : Program} {e : Env} {s : State} {m : MethodId} {below : List Frame} {meth : Method} {c : Code} (l : Launch) (hflags : l.flags = flags0) {b L : Nat} {xs : Nat → Int32} (hL : L ≤ 2048) (C0 : lw_At p s m meth c b L xs) : W p l e room_1 s m #[Value.ref b] below meth c s.heap [] 0 0 (lw_Z below #[Value.ref b] s) (entryFrame m ([Value.ref b] : List Value).toArray 7) := by
  obtain ⟨hx, hb, hr, hml, hown, hts0, hX, hbl, hlocks, hgv⟩ := C0
  have hown : s.vm.findClass RL = some m.cls := hown
  have hts : ∀ w ∈ wsL_law, w.before #[Value.ref b] s = true := fun w h => hts0 w (wsL_law_in w h)
  have hA : ∀ q : Nat, s.heap.size ≤ q → (fun q : Nat => s.heap.size ≤ q) q := fun _ h => h
  have hE := st_ev (args := #[Value.ref b]) (fun w h => hts0 w (List.mem_append_right _ (List.mem_append_right _ h))) hgv
  obtain ⟨d0, i0, k0⟩ := u_known (C := RJ4) (T := TJ4) (N := 4) (n := 4) hts0 inJ4 (hts (.instantiable RJ4 4) (by decide +kernel))
  obtain ⟨d1, i1, k1⟩ := u_known (C := RX1) (T := TX1) (N := 8) (n := 8) hts0 inX1 (hts (.instantiable RX1 8) (by decide +kernel))
  obtain ⟨d2, i2, k2⟩ := u_known (C := RX2) (T := TX2) (N := 6) (n := 6) hts0 inX2 (hts (.instantiable RX2 6) (by decide +kernel))
  obtain ⟨d3, i3, k3⟩ := u_known (C := RX3) (T := TX3) (N := 2) (n := 2) hts0 inX3 (hts (.instantiable RX3 2) (by decide +kernel))
  obtain ⟨d4, i4, k4⟩ := u_known (C := RX4) (T := TX4) (N := 3) (n := 3) hts0 inX4 (hts (.instantiable RX4 3) (by decide +kernel))
  obtain ⟨d5, i5, k5⟩ := u_known (C := RX5) (T := TX5) (N := 22) (n := 22) hts0 inX5 (hts (.instantiable RX5 22) (by decide +kernel))
  obtain ⟨D, hKn⟩ : ∃ D : va_G, ∀ (k : Nat) (q : vw_C), vwCl[k]? = some q → u_Kn s q.1 q.2.1 q.2.2 (D.1 k) (D.2 k) := by
    refine ⟨(fun k => if k = 0 then d0 else if k = 1 then d1 else if k = 2 then d2 else if k = 3 then d3 else if k = 4 then d4 else d5, fun k => if k = 0 then i0 else if k = 1 then i1 else if k = 2 then i2 else if k = 3 then i3 else if k = 4 then i4 else i5), ?_⟩
    intro k q hq
    match k, hq with
    | 0, hq => cases hq; exact k0
    | 1, hq => cases hq; exact k1
    | 2, hq => cases hq; exact k2
    | 3, hq => cases hq; exact k3
    | 4, hq => cases hq; exact k4
    | 5, hq => cases hq; exact k5
    | k + 6, hq => simp [vwCl] at hq
  obtain ⟨cI, acI, ncI⟩ := arr_K (hts (.arrayClass .int) (by decide +kernel))
  obtain ⟨cB, acB, ncB⟩ := arr_K (hts (.arrayClass .byte) (by decide +kernel))
  obtain ⟨cL, acL, ncL⟩ := arr_K (hts (.arrayClass .long) (by decide +kernel))
  obtain ⟨cZ, acZ, ncZ⟩ := arr_K (hts (.arrayClass .boolean) (by decide +kernel))
  obtain ⟨cC, acC, ncC⟩ := arr_K (hts (.arrayClass .char) (by decide +kernel))
  have hK : va_K D vwCl (tyA cI cB cL cZ cC) s := ⟨hKn, fun k q hq => by
    match k, hq with
    | 0, hq => cases hq; exact ⟨acI, ncI⟩
    | 1, hq => cases hq; exact ⟨acB, ncB⟩
    | 2, hq => cases hq; exact ⟨acL, ncL⟩
    | 3, hq => cases hq; exact ⟨acZ, ncZ⟩
    | 4, hq => cases hq; exact ⟨acC, ncC⟩
    | k + 5, hq => simp at hq⟩
  have hP : va_P D vwCl [] s.heap := fun k q h => by simp at h
  have hD : va_D (fun q : Nat => s.heap.size ≤ q) [] := ⟨fun i j p q h => by simp at h, fun k q h => by simp at h⟩
  have hS : va_S (fun q : Nat => s.heap.size ≤ q) s.heap s.heap [] := va_S.rf
  have hl := lv_entry ([.ref b]) (n := 7) (Nat.le_of_ble_eq_true rfl)
  rw [lg_entry_eq]
  generalize (lg_sl ([.ref b]) ++ List.replicate (7 - (lg_sl ([.ref b])).length) Slot.unset).toArray = ls at hl ⊢
  have hl : lv_has ls 7 [(0, .ref b)] := hl
  refine va_new (ci := 4) (fs := [.null, .null, .int 0]) (C := RX4) (T := TX4) (N := 3) hx hb hts0 inX4 tyX4 tyX4_ok hown (hts (.classLink RL 8 RX4) (by decide +kernel)) (hts (.instantiable RX4 3) (by decide +kernel)) (hts (.initialized RX4) (by decide +kernel)) hK hP hD hS hA rfl (fun j hj => by rcases (show j = 0 ∨ j = 1 ∨ j = 2 by omega) with rfl | rfl | rfl <;> rfl) (Nat.le_of_ble_eq_true rfl) (Nat.le_of_ble_eq_true rfl) dL_law_0 (fun h H hP hD hS => ?_)
  have hP : va_P D vwCl ([(h, .inr (4, [.null, .null, .int 0]))]) H := hP
  have hD : va_D (fun q : Nat => s.heap.size ≤ q) ([(h, .inr (4, [.null, .null, .int 0]))]) := hD
  refine lv_dup hx hb dL_law_3 rfl ?_
  have hPc := hP.sub (ws' := [(h, .inr (4, [.null, .null, .int 0]))]) [0] rfl
  have hDc := hD.sub (ws' := [(h, .inr (4, [.null, .null, .int 0]))]) [0] (by decide) rfl
  have hFc := va_free (wc := [(h, .inr (4, [.null, .null, .int 0]))]) hD hS hA [0] rfl
  refine va_callv (va_runI (As := []) (rest := [.ref h]) ⟨hx, hb, hml, hown, hts⟩ (c_X4_init l D H.size cI h) (cwI 0 hts ggL_law_X4_init rfl rfl rfl (hts (.initialized RX4) (by decide +kernel)) (hts (.methodLink RL 80 yX4_init) (by decide +kernel)) (hts (.instanceMethod yX4_init) (by decide +kernel)) rfl (by decide +kernel) ⟨Nat.le_of_ble_eq_true rfl, Nat.le_of_ble_eq_true rfl⟩) ⟨pcs_blind, pcs_pre (z0 := true) (fun h => h) (fun _ => hE) hS hPc (hK.sub (tys' := [(cI, .int)]) [0] rfl) hDc hFc⟩ rfl rfl hl.1 rfl (lv_room (Nat.le_of_ble_eq_true rfl)) dL_law_4 ⟨Nat.le_of_ble_eq_true rfl, Nat.le_of_ble_eq_true rfl⟩) hS (fun q _ h => hFc q h) hFc (fun u t H1 locs1 ht hvm hw hB hz1 hk1 hS => ?_)
  obtain ⟨hP, hD⟩ := aft (wr := []) (w1 := wSO13 cI h (u 0) (u 10) u (fun k => u (10 + k)) 0 c00 c00) (w2 := wSO13 cI h (u 0) (u 10) u (fun k => u (10 + k)) 0 c00 c00) hP hD [0] [] [0, 1, 2, 3, 4, 5, 6, 7, 8, 9, 10, 11, 12] rfl rfl (by decide) (by decide) hFc hk1 ht hB rfl (by decide) rfl
  clear hPc hDc hFc hk1 ht hB hz1 hvm
  generalize H1 = H at hP hS ⊢
  have hP : va_P D vwCl (wSO13 cI h (u 0) (u 10) u (fun k => u (10 + k)) 0 c00 c00) H := hP
  have hD : va_D (fun q : Nat => s.heap.size ≤ q) (wSO13 cI h (u 0) (u 10) u (fun k => u (10 + k)) 0 c00 c00) := hD
  refine lv_astore_n (lv' := [(1, .ref h), (0, .ref b)]) hx hb dL_law_7 rfl hl (by decide) rfl (fun ls hl => ?_)
  refine va_new (ci := 5) (fs := [.null, .int 0, .int 0, .null, .null, .null, .null, .null, .null, .null, .null, .null, .null, .null, .null, .null, .null, .null, .null, .null, .null, .null]) (C := RX5) (T := TX5) (N := 22) hx hb hts0 inX5 tyX5 tyX5_ok hown (hts (.classLink RL 81 RX5) (by decide +kernel)) (hts (.instantiable RX5 22) (by decide +kernel)) (hts (.initialized RX5) (by decide +kernel)) hK hP hD hS hA rfl (fun j hj => by rcases (show j = 0 ∨ j = 1 ∨ j = 2 ∨ j = 3 ∨ j = 4 ∨ j = 5 ∨ j = 6 ∨ j = 7 ∨ j = 8 ∨ j = 9 ∨ j = 10 ∨ j = 11 ∨ j = 12 ∨ j = 13 ∨ j = 14 ∨ j = 15 ∨ j = 16 ∨ j = 17 ∨ j = 18 ∨ j = 19 ∨ j = 20 ∨ j = 21 by omega) with rfl | rfl | rfl | rfl | rfl | rfl | rfl | rfl | rfl | rfl | rfl | rfl | rfl | rfl | rfl | rfl | rfl | rfl | rfl | rfl | rfl | rfl <;> rfl) (Nat.le_of_ble_eq_true rfl) (Nat.le_of_ble_eq_true rfl) dL_law_8 (fun g H hP hD hS => ?_)
  have hP : va_P D vwCl (wSO13 cI h (u 0) (u 10) u (fun k => u (10 + k)) 0 c00 c00 ++ [(g, .inr (5, [.null, .int 0, .int 0, .null, .null, .null, .null, .null, .null, .null, .null, .null, .null, .null, .null, .null, .null, .null, .null, .null, .null, .null]))]) H := hP
  have hD : va_D (fun q : Nat => s.heap.size ≤ q) (wSO13 cI h (u 0) (u 10) u (fun k => u (10 + k)) 0 c00 c00 ++ [(g, .inr (5, [.null, .int 0, .int 0, .null, .null, .null, .null, .null, .null, .null, .null, .null, .null, .null, .null, .null, .null, .null, .null, .null, .null, .null]))]) := hD
  refine lv_dup hx hb dL_law_11 rfl ?_
  have hPc := hP.sub (ws' := [(g, .inr (5, [.null, .int 0, .int 0, .null, .null, .null, .null, .null, .null, .null, .null, .null, .null, .null, .null, .null, .null, .null, .null, .null, .null, .null]))]) [13] rfl
  have hDc := hD.sub (ws' := [(g, .inr (5, [.null, .int 0, .int 0, .null, .null, .null, .null, .null, .null, .null, .null, .null, .null, .null, .null, .null, .null, .null, .null, .null, .null, .null]))]) [13] (by decide) rfl
  have hFc := va_free (wc := [(g, .inr (5, [.null, .int 0, .int 0, .null, .null, .null, .null, .null, .null, .null, .null, .null, .null, .null, .null, .null, .null, .null, .null, .null, .null, .null]))]) hD hS hA [13] rfl
  refine va_callv (va_runI (As := []) (rest := [.ref g]) ⟨hx, hb, hml, hown, hts⟩ (c_X5_init l D H.size cI cZ cC g) (cwI 0 hts ggL_law_X5_init rfl rfl rfl (hts (.initialized RX5) (by decide +kernel)) (hts (.methodLink RL 83 yX5_init) (by decide +kernel)) (hts (.instanceMethod yX5_init) (by decide +kernel)) rfl (by decide +kernel) ⟨Nat.le_of_ble_eq_true rfl, Nat.le_of_ble_eq_true rfl⟩) ⟨pcs_blind, pcs_pre (z0 := true) (fun h => by cases h) (fun _ => hE) hS hPc (hK.sub (tys' := tyR cI cZ cC) [0, 3, 4] rfl) hDc hFc⟩ rfl rfl hl.1 rfl (lv_room (Nat.le_of_ble_eq_true rfl)) dL_law_12 ⟨Nat.le_of_ble_eq_true rfl, Nat.le_of_ble_eq_true rfl⟩) hS (fun q _ h => hFc q h) hFc (fun v t H1 locs1 ht hvm hw hB hz1 hk1 hS => ?_)
  obtain ⟨hP, hD⟩ := aft (wr := wSO13 cI h (u 0) (u 10) u (fun k => u (10 + k)) 0 c00 c00) (w1 := wRf cI cZ cC g v 0 0 s00) (w2 := wSO13 cI h (u 0) (u 10) u (fun k => u (10 + k)) 0 c00 c00 ++ wRf cI cZ cC g v 0 0 s00) hP hD [13] [0, 1, 2, 3, 4, 5, 6, 7, 8, 9, 10, 11, 12] [0, 1, 2, 3, 4, 5, 6, 7, 8, 9, 10, 11, 12, 13, 14, 15, 16, 17, 18, 19, 20, 21, 22, 23, 24, 25, 26, 27, 28, 29, 30, 31, 32, 33] rfl rfl (by decide) (by decide) hFc hk1 ht hB rfl (by decide) rfl
  clear hPc hDc hFc hk1 ht hB hz1 hvm
  generalize H1 = H at hP hS ⊢
  have hP : va_P D vwCl (wSO13 cI h (u 0) (u 10) u (fun k => u (10 + k)) 0 c00 c00 ++ wRf cI cZ cC g v 0 0 s00) H := hP
  have hD : va_D (fun q : Nat => s.heap.size ≤ q) (wSO13 cI h (u 0) (u 10) u (fun k => u (10 + k)) 0 c00 c00 ++ wRf cI cZ cC g v 0 0 s00) := hD
  refine lv_astore_n (lv' := [(2, .ref g), (1, .ref h), (0, .ref b)]) hx hb dL_law_15 rfl hl (by decide) rfl (fun ls hl => ?_)
  refine lv_iconst (v := 1) hx hb dL_law_16 (by decide) ?_
  refine newI (atype := .long) (ty := .long) (cA := cL) (t0 := 2) (a0 := (1, .inr (.inl (fun _ => 0)))) (N' := 1) hx hb (hts (.arrayClass .long) (by decide +kernel)) rfl hK rfl (fun c h => h) hP hD hS hA (fun _ => rfl) (by decide) (by decide) (by decide) (Nat.le_of_ble_eq_true rfl) (Nat.le_of_ble_eq_true rfl) dL_law_17 (fun ou H hP hD hS => ?_)
  have hP := hP.sub (ws' := wA cI cB cL cZ cC h ou g v (u 0) (u 10) u (fun k => u (10 + k)) 0 0 c00 c00 (fun _ => 0) s00) [0, 1, 2, 3, 4, 5, 6, 7, 8, 9, 10, 11, 12, 34, 13, 14, 15, 16, 17, 18, 19, 20, 21, 22, 23, 24, 25, 26, 27, 28, 29, 30, 31, 32, 33] rfl
  have hD := hD.sub (ws' := wA cI cB cL cZ cC h ou g v (u 0) (u 10) u (fun k => u (10 + k)) 0 0 c00 c00 (fun _ => 0) s00) [0, 1, 2, 3, 4, 5, 6, 7, 8, 9, 10, 11, 12, 34, 13, 14, 15, 16, 17, 18, 19, 20, 21, 22, 23, 24, 25, 26, 27, 28, 29, 30, 31, 32, 33] (by decide) rfl
  refine lv_astore_n (lv' := [(3, .ref ou), (2, .ref g), (1, .ref h), (0, .ref b)]) hx hb dL_law_19 rfl hl (by decide) rfl (fun ls hl => ?_)
  refine lv_iconst (v := nI 0) hx hb dL_law_20 (by decide) ?_
  refine lv_istore (lv' := [(4, .int (nI 0)), (3, .ref ou), (2, .ref g), (1, .ref h), (0, .ref b)]) hx hb dL_law_21 hl (by decide) rfl (fun ls hl => ?_)
  refine W.widen (k := 40) (n := 4000) (Nat.le_of_ble_eq_true rfl) (Nat.le_of_ble_eq_true rfl) ?_
  exact law_loop (q := v) (qz := u) (qo := fun k => u (10 + k)) hr hlocks ⟨⟨hx, hb, hml, hown, hts⟩, hK, hE, hX, hbl, lg_no hflags, hL⟩ 514 0 (by omega) (by omega) _ _ _ ⟨0, 0, c00, c00, fun _ => 0, s00, ⟨rel00, inv00, ba00, ba00⟩, hP, hD, hS, hl⟩
