/-- Store.keep -/
def cKeep (n : Nat → Nat) (a : Nat → Nat → Nat) (v : Nat) : (Nat → Nat) × (Nat → Nat → Nat) := if n 6 < 200 then (va_up n 6 (n 6 + 1), va_up a 0 (va_up (a 0) (n 6) v)) else (n, a)
set_option maxHeartbeats 4000000 in
set_option maxRecDepth 100000 in
theorem c_X0_numberOf (l : Launch) (D : va_G) (sz : Nat) (mm : Nat) (hm : mm < 2 ^ 31) : CT l yX0_numberOf wsX0_numberOf ({ frames := 0, cells := 0, slots := 0, locals := 0 }) false D ([]) [] sz [.int (nI mm)] (qi D ([]) (fun r => r = nI (mm % 2 ^ 8)) []) 0 0 := by
  refine CT.of (cc := cX0_numberOf) (maxL := 1) (ret := (some .int)) (by decide) rfl (by decide) ?_
  intro A p e s m args below meth c ls H locs En0 argsE hP hK hD hE hA hS hl
  obtain ⟨hx, hb, hr, hml, hown, hts, hlocks, hin⟩ := En0
  have hP : va_P D vwCl [] H := hP
  have hD : va_D A [] := hD
  have hl : lv_has ls 1 [(0, .int (nI mm))] := hl
  refine lv_iload_n hx hb dX0_numberOf_0 rfl (lv_at hl 0 rfl) ?_
  refine lv_sipush (v := 255) hx hb dX0_numberOf_1 (by decide) ?_
  refine lv_iand hx hb dX0_numberOf_4 ?_
  refine tp (pk_andN (n := mm) (by omega) 8 (by decide)) ?_
  exact W.iret (v := nI (mm % 2 ^ 8)) hx hb hr (fun t ht hW => lfi rfl hP hK hD hS ht hW) hS.2.2 dX0_numberOf_5 hlocks
set_option maxHeartbeats 4000000 in
set_option maxRecDepth 100000 in
theorem c_X0_kindOf (l : Launch) (D : va_G) (sz : Nat) (mm : Nat) (hm : mm < 2 ^ 31) : CT l yX0_kindOf wsX0_kindOf ({ frames := 0, cells := 0, slots := 0, locals := 0 }) false D ([]) [] sz [.int (nI mm)] (qi D ([]) (fun r => r = nI (mm / 2 ^ 8 % 2 ^ 3)) []) 0 0 := by
  refine CT.of (cc := cX0_kindOf) (maxL := 1) (ret := (some .int)) (by decide) rfl (by decide) ?_
  intro A p e s m args below meth c ls H locs En0 argsE hP hK hD hE hA hS hl
  obtain ⟨hx, hb, hr, hml, hown, hts, hlocks, hin⟩ := En0
  have hP : va_P D vwCl [] H := hP
  have hD : va_D A [] := hD
  have hl : lv_has ls 1 [(0, .int (nI mm))] := hl
  refine lv_iload_n hx hb dX0_kindOf_0 rfl (lv_at hl 0 rfl) ?_
  refine lv_bipush (v := 8) hx hb dX0_kindOf_1 (by decide) ?_
  refine lv_ishr hx hb dX0_kindOf_3 ?_
  refine tp (pk_shrN (n := mm) (by omega) _ 8 (by decide)) ?_
  refine lv_bipush (v := 7) hx hb dX0_kindOf_4 (by decide) ?_
  refine lv_iand hx hb dX0_kindOf_6 ?_
  refine tp (pk_andN (n := (mm / 2 ^ 8)) (by omega) 3 (by decide)) ?_
  exact W.iret (v := nI ((mm / 2 ^ 8) % 2 ^ 3)) hx hb hr (fun t ht hW => lfi rfl hP hK hD hS ht hW) hS.2.2 dX0_kindOf_7 hlocks
set_option maxHeartbeats 4000000 in
set_option maxRecDepth 100000 in
theorem c_X0_toldBy (l : Launch) (D : va_G) (sz : Nat) (mm : Nat) (hm : mm < 2 ^ 31) : CT l yX0_toldBy wsX0_toldBy ({ frames := 0, cells := 0, slots := 0, locals := 0 }) false D ([]) [] sz [.int (nI mm)] (qi D ([]) (fun r => r = nI (mm / 2 ^ 11 % 2 ^ 10)) []) 0 0 := by
  refine CT.of (cc := cX0_toldBy) (maxL := 1) (ret := (some .int)) (by decide) rfl (by decide) ?_
  intro A p e s m args below meth c ls H locs En0 argsE hP hK hD hE hA hS hl
  obtain ⟨hx, hb, hr, hml, hown, hts, hlocks, hin⟩ := En0
  have hP : va_P D vwCl [] H := hP
  have hD : va_D A [] := hD
  have hl : lv_has ls 1 [(0, .int (nI mm))] := hl
  refine lv_iload_n hx hb dX0_toldBy_0 rfl (lv_at hl 0 rfl) ?_
  refine lv_bipush (v := 11) hx hb dX0_toldBy_1 (by decide) ?_
  refine lv_ishr hx hb dX0_toldBy_3 ?_
  refine tp (pk_shrN (n := mm) (by omega) _ 11 (by decide)) ?_
  refine lv_sipush (v := 1023) hx hb dX0_toldBy_4 (by decide) ?_
  refine lv_iand hx hb dX0_toldBy_7 ?_
  refine tp (pk_andN (n := (mm / 2 ^ 11)) (by omega) 10 (by decide)) ?_
  exact W.iret (v := nI ((mm / 2 ^ 11) % 2 ^ 10)) hx hb hr (fun t ht hW => lfi rfl hP hK hD hS ht hW) hS.2.2 dX0_toldBy_8 hlocks
set_option maxRecDepth 20000 in
theorem in_X2_isFull_X2 : ∀ w ∈ u_ws RX2 TX2 6, w ∈ wsX2_isFull := by decide +kernel
set_option maxHeartbeats 4000000 in
set_option maxRecDepth 100000 in
theorem c_X2_isFull (l : Launch) (D : va_G) (sz : Nat) (cI : ClassId) (h0 : Nat) (h1 : Nat) (h2 : Nat) (x : Nat → Int32) (n : Nat → Nat) (hb6 : n 6 ≤ 200) : CT l yX2_isFull wsX2_isFull ({ frames := 0, cells := 0, slots := 0, locals := 0 }) false D ([(cI, .int)]) [(h0, .inr (2, [.ref h1, .int (nI (n 6)), .int (nI (n 7)), .ref h2, .int (nI (n 8)), .int (x 9)]))] sz [.ref h0] (qi D ([(cI, .int)]) (fun r => r = b2i (200 ≤ (n 6))) [(h0, .inr (2, [.ref h1, .int (nI (n 6)), .int (nI (n 7)), .ref h2, .int (nI (n 8)), .int (x 9)]))]) 0 0 := by
  refine CT.of (cc := cX2_isFull) (maxL := 1) (ret := (some .boolean)) (by decide) rfl (by decide) ?_
  intro A p e s m args below meth c ls H locs En0 argsE hP hK hD hE hA hS hl
  obtain ⟨hx, hb, hr, hml, hown, hts, hlocks, hin⟩ := En0
  have hP : va_P D vwCl [(h0, .inr (2, [.ref h1, .int (nI (n 6)), .int (nI (n 7)), .ref h2, .int (nI (n 8)), .int (x 9)]))] H := hP
  have hD : va_D A [(h0, .inr (2, [.ref h1, .int (nI (n 6)), .int (nI (n 7)), .ref h2, .int (nI (n 8)), .int (x 9)]))] := hD
  have hl : lv_has ls 1 [(0, .ref h0)] := hl
  refine lv_aload_n hx hb dX2_isFull_0 rfl (lv_at hl 0 rfl) ?_
  refine va_get (ci := 2) (v := .int (nI (n 6))) (C := RX2) (T := TX2) (N := 6) hx hb hts in_X2_isFull_X2 hown hK hP 0 rfl rfl 1 (by decide) (hts (.fieldLink RX2 22 "SessionFix$Store" "sentCount" "I") (by decide +kernel)) (fun _ h9 => h9) rfl dX2_isFull_1 ?_
  refine lv_sipush (v := 200) hx hb dX2_isFull_4 (by decide) ?_
  refine lv_icmp_lt (tgt := 14) hx hb dX2_isFull_7 (by decide) (fun c_1 => ?_) (fun c_1 => ?_)
  · have c_1 := (nI_ltI (a := (n 6)) (b := 200) (by omega) (by omega)).mp c_1
    refine lv_iconst (v := 0) hx hb dX2_isFull_14 (by decide) ?_
    exact W.zret (v := 0) hx hb hr rfl (fun t ht hW => lfi (b2i_f (by omega)) hP hK hD hS ht hW) hS.2.2 dX2_isFull_15 hlocks
  · have c_1 := fun z => c_1 ((nI_ltI (a := (n 6)) (b := 200) (by omega) (by omega)).mpr z)
    refine lv_iconst (v := 1) hx hb dX2_isFull_10 (by decide) ?_
    refine lv_goto (tgt := 15) hx hb dX2_isFull_11 (by decide) ?_
    exact W.zret (v := 1) hx hb hr rfl (fun t ht hW => lfi (b2i_t (by omega)) hP hK hD hS ht hW) hS.2.2 dX2_isFull_15 hlocks
set_option maxRecDepth 20000 in
theorem in_X2_keep_X2 : ∀ w ∈ u_ws RX2 TX2 6, w ∈ wsX2_keep := by decide +kernel
set_option maxHeartbeats 4000000 in
set_option maxRecDepth 100000 in
theorem c_X2_keep (l : Launch) (D : va_G) (sz : Nat) (cI : ClassId) (h0 : Nat) (h1 : Nat) (h2 : Nat) (x : Nat → Int32) (n : Nat → Nat) (a : Nat → Nat → Nat) (v : Nat) (hb6 : n 6 ≤ 200) : CT l yX2_keep wsX2_keep ({ frames := 0, cells := 0, slots := 0, locals := 0 }) false D ([(cI, .int)]) [(h0, .inr (2, [.ref h1, .int (nI (n 6)), .int (nI (n 7)), .ref h2, .int (nI (n 8)), .int (x 9)])), (h1, .inl (cI, 200, .inl (ni (a 0))))] sz [.ref h0, .int (nI v)] (qv D ([(cI, .int)]) (True) [(h0, .inr (2, [.ref h1, .int (nI (((cKeep n a v).1) 6)), .int (nI (((cKeep n a v).1) 7)), .ref h2, .int (nI (((cKeep n a v).1) 8)), .int (x 9)])), (h1, .inl (cI, 200, .inl (ni (((cKeep n a v).2) 0))))]) 0 0 := by
  refine CT.of (cc := cX2_keep) (maxL := 2) (ret := none) (by decide) rfl (by decide) ?_
  intro A p e s m args below meth c ls H locs En0 argsE hP hK hD hE hA hS hl
  obtain ⟨hx, hb, hr, hml, hown, hts, hlocks, hin⟩ := En0
  have hP : va_P D vwCl [(h0, .inr (2, [.ref h1, .int (nI (n 6)), .int (nI (n 7)), .ref h2, .int (nI (n 8)), .int (x 9)])), (h1, .inl (cI, 200, .inl (ni (a 0))))] H := hP
  have hD : va_D A [(h0, .inr (2, [.ref h1, .int (nI (n 6)), .int (nI (n 7)), .ref h2, .int (nI (n 8)), .int (x 9)])), (h1, .inl (cI, 200, .inl (ni (a 0))))] := hD
  have hl : lv_has ls 2 [(0, .ref h0), (1, .int (nI v))] := hl
  refine lv_aload_n hx hb dX2_keep_0 rfl (lv_at hl 0 rfl) ?_
  refine va_get (ci := 2) (v := .int (nI (n 6))) (C := RX2) (T := TX2) (N := 6) hx hb hts in_X2_keep_X2 hown hK hP 0 rfl rfl 1 (by decide) (hts (.fieldLink RX2 22 "SessionFix$Store" "sentCount" "I") (by decide +kernel)) (fun _ h9 => h9) rfl dX2_keep_1 ?_
  refine lv_if_lt (tgt := 39) hx hb dX2_keep_4 (by decide) (fun c_1 => ?_) (fun c_1 => ?_)
  · exact absurd c_1 (nI_pos (n := (n 6)) (by omega))
  · refine lv_aload_n hx hb dX2_keep_7 rfl (lv_at hl 0 rfl) ?_
    refine va_get (ci := 2) (v := .int (nI (n 6))) (C := RX2) (T := TX2) (N := 6) hx hb hts in_X2_keep_X2 hown hK hP 0 rfl rfl 1 (by decide) (hts (.fieldLink RX2 22 "SessionFix$Store" "sentCount" "I") (by decide +kernel)) (fun _ h9 => h9) rfl dX2_keep_8 ?_
    refine lv_aload_n hx hb dX2_keep_11 rfl (lv_at hl 0 rfl) ?_
    refine va_get (ci := 2) (v := .ref h1) (C := RX2) (T := TX2) (N := 6) hx hb hts in_X2_keep_X2 hown hK hP 0 rfl rfl 0 (by decide) (hts (.fieldLink RX2 9 "SessionFix$Store" "sent" "[I") (by decide +kernel)) (fun _ h9 => h9) rfl dX2_keep_12 ?_
    refine va_alen (v := 200) hx hb hK hP 1 0 rfl rfl rfl dX2_keep_15 ?_
    refine lv_icmp_ge (tgt := 39) hx hb dX2_keep_16 (by decide) (fun c_2 => ?_) (fun c_2 => ?_)
    · have c_2 := (nI_leI (a := 200) (b := (n 6)) (by omega) (by omega)).mp c_2
      have eF : cKeep n a v = (n, a) := by
        simp only [cKeep, if_pos c_2]
      exact W.vret hx hb hr (fun t ht hW => lfv trivial (by rw [eF]; exact hP) hK (by rw [eF]; exact hD) hS ht hW) hS.2.2 dX2_keep_39 hlocks
    · have c_2 := fun z => c_2 ((nI_leI (a := 200) (b := (n 6)) (by omega) (by omega)).mpr z)
      refine lv_aload_n hx hb dX2_keep_19 rfl (lv_at hl 0 rfl) ?_
      refine va_get (ci := 2) (v := .ref h1) (C := RX2) (T := TX2) (N := 6) hx hb hts in_X2_keep_X2 hown hK hP 0 rfl rfl 0 (by decide) (hts (.fieldLink RX2 9 "SessionFix$Store" "sent" "[I") (by decide +kernel)) (fun _ h9 => h9) rfl dX2_keep_20 ?_
      refine lv_aload_n hx hb dX2_keep_23 rfl (lv_at hl 0 rfl) ?_
      refine va_get (ci := 2) (v := .int (nI (n 6))) (C := RX2) (T := TX2) (N := 6) hx hb hts in_X2_keep_X2 hown hK hP 0 rfl rfl 1 (by decide) (hts (.fieldLink RX2 22 "SessionFix$Store" "sentCount" "I") (by decide +kernel)) (fun _ h9 => h9) rfl dX2_keep_24 ?_
      refine lv_iload_n hx hb dX2_keep_27 rfl (lv_at hl 1 rfl) ?_
      refine ist (k := (n 6)) (v := v) hx hb hK hP hD hS 1 0 (by omega) (by omega) rfl rfl dX2_keep_28 (fun H locs hP hD hS => ?_)
      have hP : va_P D vwCl [(h0, .inr (2, [.ref h1, .int (nI (n 6)), .int (nI (n 7)), .ref h2, .int (nI (n 8)), .int (x 9)])), (h1, .inl (cI, 200, .inl (ni (va_up (a 0) (n 6) v))))] H := hP
      have hD : va_D A [(h0, .inr (2, [.ref h1, .int (nI (n 6)), .int (nI (n 7)), .ref h2, .int (nI (n 8)), .int (x 9)])), (h1, .inl (cI, 200, .inl (ni (va_up (a 0) (n 6) v))))] := hD
      refine lv_aload_n hx hb dX2_keep_29 rfl (lv_at hl 0 rfl) ?_
      refine lv_dup hx hb dX2_keep_30 rfl ?_
      refine va_get (ci := 2) (v := .int (nI (n 6))) (C := RX2) (T := TX2) (N := 6) hx hb hts in_X2_keep_X2 hown hK hP 0 rfl rfl 1 (by decide) (hts (.fieldLink RX2 22 "SessionFix$Store" "sentCount" "I") (by decide +kernel)) (fun _ h9 => h9) rfl dX2_keep_31 ?_
      refine lv_iconst (v := 1) hx hb dX2_keep_34 (by decide) ?_
      refine lv_iadd hx hb dX2_keep_35 ?_
      refine tp (show (nI (n 6)) + 1 = nI ((n 6) + 1) from nI_add _ _) ?_
      refine va_put (ci := 2) (v := .int (nI ((n 6) + 1))) (ty := .int) (C := RX2) (T := TX2) (N := 6) hx hb hts in_X2_keep_X2 tyX2 tyX2_ok nmX2 hown hK hP hD hS 0 rfl rfl 1 (by decide) (hts (.fieldLink RX2 22 "SessionFix$Store" "sentCount" "I") (by decide +kernel)) (fun _ h9 => h9) rfl (by decide +kernel) rfl rfl (Nat.le_of_ble_eq_true rfl) dX2_keep_36 (fun H locs hP hD hS => ?_)
      have hP : va_P D vwCl [(h0, .inr (2, [.ref h1, .int (nI ((n 6) + 1)), .int (nI (n 7)), .ref h2, .int (nI (n 8)), .int (x 9)])), (h1, .inl (cI, 200, .inl (ni (va_up (a 0) (n 6) v))))] H := hP
      have hD : va_D A [(h0, .inr (2, [.ref h1, .int (nI ((n 6) + 1)), .int (nI (n 7)), .ref h2, .int (nI (n 8)), .int (x 9)])), (h1, .inl (cI, 200, .inl (ni (va_up (a 0) (n 6) v))))] := hD
      have eF : cKeep n a v = ((va_up n 6 ((n 6) + 1)), (va_up a 0 (va_up (a 0) (n 6) v))) := by
        simp only [cKeep, if_neg c_2]
      exact W.vret hx hb hr (fun t ht hW => lfv trivial (by rw [eF]; exact hP) hK (by rw [eF]; exact hD) hS ht hW) hS.2.2 dX2_keep_39 hlocks
