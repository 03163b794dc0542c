/-! ===== the class's texts ===== -/
/-- the text of a message that is packed in mm -/
def textM (mm : Nat) : List Nat := dgs (nu mm) ++ [32] ++ sbL (kd mm) ++ (if kd mm = 3 ∨ kd mm = 4 ∨ kd mm = 5 then [32] ++ dgs (td mm) else []) ++ (if mm.testBit 21 = true then sbL 7 else []) ++ (if mm.testBit 22 = true then sbL 8 else [])
def okm (mm : Nat) : Prop := mm < 16777216 ∧ kd mm < 7 ∧ td mm < 1000
theorem ix_cl {x : Int32} {n : Nat} (h0 : ¬ x < 0) (h1 : x < nI n) (hn : n < 2 ^ 31) : x.toNatClampNeg < n := by
  obtain ⟨j, hj, rfl⟩ := ix_of h0 h1 hn
  rw [nI_clamp (by omega)]
  exact hj
theorem textM_len (mm : Nat) (h : kd mm < 7) : (textM mm).length ≤ 30 := by
  unfold textM
  have h1 := rDig_1 (nu mm)
  have h2 := rDig_1 (td mm)
  have h3 := (sb_2 (kd mm) (by omega)).2
  simp only [List.length_append, dgs_len, List.length_cons, List.length_nil]
  have h4 : (if kd mm = 3 ∨ kd mm = 4 ∨ kd mm = 5 then [32] ++ dgs (td mm) else []).length ≤ 4 := by
    by_cases q : kd mm = 3 ∨ kd mm = 4 ∨ kd mm = 5
    · rw [if_pos q, List.length_append, dgs_len, List.length_cons, List.length_nil]; omega
    · rw [if_neg q, List.length_nil]; omega
  have h5 : (if mm.testBit 21 = true then sbL 7 else []).length ≤ 2 := by
    by_cases q : mm.testBit 21 = true
    · rw [if_pos q]; decide
    · rw [if_neg q, List.length_nil]; omega
  have h6 : (if mm.testBit 22 = true then sbL 8 else []).length ≤ 2 := by
    by_cases q : mm.testBit 22 = true
    · rw [if_pos q]; decide
    · rw [if_neg q, List.length_nil]; omega
  omega
theorem sb_8 (k : Nat) : k = 3 ∨ k = 4 ∨ k = 5 → (sbL k).length ≤ 8 := by
  rintro (rfl | rfl | rfl) <;> decide
set_option maxHeartbeats 4000000 in
set_option maxRecDepth 100000 in
theorem c_X0_nameOf (l : Launch) (D : va_G) (sz : Nat) (cI : ClassId) (cB : ClassId) (si : Nat) (sk : Nat) (hsi : si < 7) : CTK l yX0_nameOf wsX0_nameOf ({ frames := 0, cells := 0, slots := 0, locals := 0 }) false D ([(cI, .int), (cB, .byte)]) [] sz si sk [.int (nI si)] (qr D ([(cI, .int), (cB, .byte)]) (fun a => a = sk) []) 0 0 := by
  refine CTK.of (cc := cX0_nameOf) (maxL := 1) (ret := (some (.object "java/lang/String"))) (by decide) rfl (Nat.le_of_ble_eq_true rfl) ?_
  intro A p e s m args below meth c ls H locs En0 hSK argsE hP hK hD hE hA hS hl
  obtain ⟨hx, hb, hr, hml, hown, hts, hlocks, hin⟩ := En0
  have hP : va_P D vwCl [] H := hP
  have hD : va_D A [] := hD
  have hl : lv_has ls 1 [(0, .int (nI si))] := hl
  refine lv_iload_n hx hb dX0_nameOf_0 rfl (lv_at hl 0 rfl) ?_
  by_cases c_1 : si = 0
  · have c_2 : ¬ (si = 1) := by omega
    have c_3 : ¬ (si = 2) := by omega
    have c_4 : ¬ (si = 3) := by omega
    have c_5 : ¬ (si = 4) := by omega
    have c_6 : ¬ (si = 5) := by omega
    refine tp (show nI si = 0 by rw [c_1]; rfl) ?_
    refine lv_tableIn (tgt := 40) hx hb dX0_nameOf_1 (by decide) (by decide) (off := 39) (by decide) (by decide) ?_
    refine va_ldcS hx hb hown (strK.R (q := (48, "LOGON")) hSK (by rw [show si = 0 by omega]; rfl)) dX0_nameOf_40 ?_
    exact W.aret (v := .ref sk) hx hb hr (Or.inl ⟨_, rfl⟩) (Or.inr ⟨_, rfl⟩) (fun t ht hW => lfq rfl hP hK hD hS ht hW) hS.2.2 dX0_nameOf_42 hlocks
  · by_cases c_7 : si = 1
    · have c_8 : ¬ (si = 0) := by omega
      have c_9 : ¬ (si = 2) := by omega
      have c_10 : ¬ (si = 3) := by omega
      have c_11 : ¬ (si = 4) := by omega
      have c_12 : ¬ (si = 5) := by omega
      refine tp (show nI si = 1 by rw [c_7]; rfl) ?_
      refine lv_tableIn (tgt := 43) hx hb dX0_nameOf_1 (by decide) (by decide) (off := 42) (by decide) (by decide) ?_
      refine va_ldcS hx hb hown (strK.R (q := (50, "HEARTBEAT")) hSK (by rw [show si = 1 by omega]; rfl)) dX0_nameOf_43 ?_
      exact W.aret (v := .ref sk) hx hb hr (Or.inl ⟨_, rfl⟩) (Or.inr ⟨_, rfl⟩) (fun t ht hW => lfq rfl hP hK hD hS ht hW) hS.2.2 dX0_nameOf_45 hlocks
    · by_cases c_13 : si = 2
      · have c_14 : ¬ (si = 0) := by omega
        have c_15 : ¬ (si = 1) := by omega
        have c_16 : ¬ (si = 3) := by omega
        have c_17 : ¬ (si = 4) := by omega
        have c_18 : ¬ (si = 5) := by omega
        refine tp (show nI si = 2 by rw [c_13]; rfl) ?_
        refine lv_tableIn (tgt := 46) hx hb dX0_nameOf_1 (by decide) (by decide) (off := 45) (by decide) (by decide) ?_
        refine va_ldcS hx hb hown (strK.R (q := (52, "TEST")) hSK (by rw [show si = 2 by omega]; rfl)) dX0_nameOf_46 ?_
        exact W.aret (v := .ref sk) hx hb hr (Or.inl ⟨_, rfl⟩) (Or.inr ⟨_, rfl⟩) (fun t ht hW => lfq rfl hP hK hD hS ht hW) hS.2.2 dX0_nameOf_48 hlocks
      · by_cases c_19 : si = 3
        · have c_20 : ¬ (si = 0) := by omega
          have c_21 : ¬ (si = 1) := by omega
          have c_22 : ¬ (si = 2) := by omega
          have c_23 : ¬ (si = 4) := by omega
          have c_24 : ¬ (si = 5) := by omega
          refine tp (show nI si = 3 by rw [c_19]; rfl) ?_
          refine lv_tableIn (tgt := 49) hx hb dX0_nameOf_1 (by decide) (by decide) (off := 48) (by decide) (by decide) ?_
          refine va_ldcS hx hb hown (strK.R (q := (54, "RESEND")) hSK (by rw [show si = 3 by omega]; rfl)) dX0_nameOf_49 ?_
          exact W.aret (v := .ref sk) hx hb hr (Or.inl ⟨_, rfl⟩) (Or.inr ⟨_, rfl⟩) (fun t ht hW => lfq rfl hP hK hD hS ht hW) hS.2.2 dX0_nameOf_51 hlocks
        · by_cases c_25 : si = 4
          · have c_26 : ¬ (si = 0) := by omega
            have c_27 : ¬ (si = 1) := by omega
            have c_28 : ¬ (si = 2) := by omega
            have c_29 : ¬ (si = 3) := by omega
            have c_30 : ¬ (si = 5) := by omega
            refine tp (show nI si = 4 by rw [c_25]; rfl) ?_
            refine lv_tableIn (tgt := 52) hx hb dX0_nameOf_1 (by decide) (by decide) (off := 51) (by decide) (by decide) ?_
            refine va_ldcS hx hb hown (strK.R (q := (56, "FILL")) hSK (by rw [show si = 4 by omega]; rfl)) dX0_nameOf_52 ?_
            exact W.aret (v := .ref sk) hx hb hr (Or.inl ⟨_, rfl⟩) (Or.inr ⟨_, rfl⟩) (fun t ht hW => lfq rfl hP hK hD hS ht hW) hS.2.2 dX0_nameOf_54 hlocks
          · by_cases c_31 : si = 5
            · have c_32 : ¬ (si = 0) := by omega
              have c_33 : ¬ (si = 1) := by omega
              have c_34 : ¬ (si = 2) := by omega
              have c_35 : ¬ (si = 3) := by omega
              have c_36 : ¬ (si = 4) := by omega
              refine tp (show nI si = 5 by rw [c_31]; rfl) ?_
              refine lv_tableIn (tgt := 55) hx hb dX0_nameOf_1 (by decide) (by decide) (off := 54) (by decide) (by decide) ?_
              refine va_ldcS hx hb hown (strK.R (q := (58, "BUSINESS")) hSK (by rw [show si = 5 by omega]; rfl)) dX0_nameOf_55 ?_
              exact W.aret (v := .ref sk) hx hb hr (Or.inl ⟨_, rfl⟩) (Or.inr ⟨_, rfl⟩) (fun t ht hW => lfq rfl hP hK hD hS ht hW) hS.2.2 dX0_nameOf_57 hlocks
            · refine lv_tableOut (tgt := 58) hx hb dX0_nameOf_1 (by rw [nI_toInt (n := si) (by omega)]; omega) (by decide) ?_
              refine va_ldcS hx hb hown (strK.R (q := (60, "LOGOUT")) hSK (by rw [show si = 6 by omega]; rfl)) dX0_nameOf_58 ?_
              exact W.aret (v := .ref sk) hx hb hr (Or.inl ⟨_, rfl⟩) (Or.inr ⟨_, rfl⟩) (fun t ht hW => lfq rfl hP hK hD hS ht hW) hS.2.2 dX0_nameOf_60 hlocks
set_option maxRecDepth 20000 in
theorem in_X0_textOf_J4 : ∀ w ∈ u_ws RJ4 TJ4 4, w ∈ wsX0_textOf := by decide +kernel
set_option maxHeartbeats 4000000 in
set_option maxRecDepth 100000 in
theorem c_X0_textOf (l : Launch) (D : va_G) (sz : Nat) (cI : ClassId) (cB : ClassId) (mm : Nat) (hok : okm mm) : CT l yX0_textOf wsX0_textOf ({ frames := 6, cells := 3, slots := 54, locals := 148 }) true D ([(cI, .int), (cB, .byte)]) [] sz [.int (nI mm)] (qxn D ([(cI, .int), (cB, .byte)]) (fun u => tx u.2.1 ((textM mm).length) u.2.2 (textM mm)) (fun u a => [(a, .inr (0, [.ref u.1, .int 0, .int 0, .int (nI ((textM mm).length))])), (u.1, .inl (cB, u.2.1, .inl (ni u.2.2)))])) 3 54 := by
  refine CT.of (cc := cX0_textOf) (maxL := 3) (ret := (some (.object "java/lang/StringBuilder"))) (by decide) rfl (Nat.le_of_ble_eq_true rfl) ?_
  intro A p e s m args below meth c ls H locs En0 argsE hP hK hD hE hA hS hl
  obtain ⟨hx, hb, hr, hml, hown, hts, hlocks, hin⟩ := En0
  have hEw := (hE rfl).1
  have hP : va_P D vwCl [] H := hP
  have hD : va_D A [] := hD
  have hl : lv_has ls 3 [(0, .int (nI mm))] := hl
  obtain ⟨hm, hk7, ht⟩ := hok
  obtain ⟨aK, haK⟩ := strK_ev (hE rfl).2.2
  have hr1 := rDig_1 (nu mm)
  have hr2 := rDig_1 (td mm)
  have hnu := nu_lt mm
  have hs0 := (sb_2 (kd mm) (by omega)).2
  have hs7 : (sbL 7).length = 2 := rfl
  have hs8 : (sbL 8).length = 2 := rfl
  have hs9 := sb_8 (kd mm)
  refine lv_iload_n hx hb dX0_textOf_0 rfl (lv_at hl 0 rfl) ?_
  have hPc := hP
  have hDc := hD
  have hFc := va_free (wc := []) hD hS hA [] rfl
  refine va_calli (va_runS (As := [.int (nI mm)]) (rest := []) ⟨hx, hb, hml, hown, hts⟩ (c_X0_kindOf l D H.size cI mm (by omega)) (va_cwS 1 hts gX0_textOf_X0_kindOf rfl rfl rfl (by decide +kernel) ⟨Nat.le_of_ble_eq_true rfl, Nat.le_of_ble_eq_true rfl⟩) ⟨pcs_blind, (pcs_pre (fun h => by cases h) hE hS hPc (hK.sub (tys' := [(cI, .int)]) [0] rfl) hDc hFc)⟩ rfl rfl hl.1 rfl (lv_room (Nat.le_of_ble_eq_true rfl)) dX0_textOf_1 ⟨Nat.le_of_ble_eq_true rfl, Nat.le_of_ble_eq_true rfl⟩) hS (fun q _ h => hFc q h) hFc (fun r_1 u t H1 locs1 ht hvm hw hB hz1 hk1 hS => ?_)
  have hw : r_1 = nI (kd mm) := hw
  subst hw
  obtain ⟨hP, hD⟩ := aftW hFc ht hB
  clear hPc hDc hFc hk1 ht hB hz1 hvm
  generalize H1 = H at hP hS ⊢
  have hP : va_P D vwCl [] H := hP
  have hD : va_D A [] := hD
  have hf_2 : kd mm < 8 := kd_lt _
  refine lv_istore_n (lv' := [(1, .int (nI (kd mm))), (0, .int (nI mm))]) hx hb dX0_textOf_4 rfl hl (by decide) rfl (fun ls hl => ?_)
  refine va_new (ci := 0) (fs := [.null, .int 0, .int 0, .int 0]) (C := RJ4) (T := TJ4) (N := 4) hx hb hts in_X0_textOf_J4 tyJ4 tyJ4_ok hown (hts (.classLink RX0 15 RJ4) (by decide +kernel)) (hts (.instantiable RJ4 4) (by decide +kernel)) (hts (.initialized RJ4) (by decide +kernel)) hK hP hD hS hA rfl (fun j hj => by rcases (show j = 0 ∨ j = 1 ∨ j = 2 ∨ j = 3 by omega) with rfl | rfl | rfl | rfl <;> rfl) (Nat.le_of_ble_eq_true rfl) (Nat.le_of_ble_eq_true rfl) dX0_textOf_5 (fun q_3 H hP hD hS => ?_)
  have hP : va_P D vwCl [(q_3, .inr (0, [.null, .int 0, .int 0, .int 0]))] H := hP
  have hD : va_D A [(q_3, .inr (0, [.null, .int 0, .int 0, .int 0]))] := hD
  refine lv_dup hx hb dX0_textOf_8 rfl ?_
  have hPc := hP
  have hDc := hD
  have hFc := va_free (wc := [(q_3, .inr (0, [.null, .int 0, .int 0, .int 0]))]) hD hS hA [0] rfl
  refine va_callv (va_runI (As := []) (rest := [.ref q_3]) ⟨hx, hb, hml, hown, hts⟩ (c_J4_init_da8c8 l D H.size cI cB q_3) (cwI 0 hts ggX0_textOf_J4_init_da8c8 rfl rfl rfl (hts (.initialized RJ4) (by decide +kernel)) (hts (.methodLink RX0 17 yJ4_init_da8c8) (by decide +kernel)) (hts (.instanceMethod yJ4_init_da8c8) (by decide +kernel)) rfl (by decide +kernel) ⟨Nat.le_of_ble_eq_true rfl, Nat.le_of_ble_eq_true rfl⟩) ⟨pcs_blind, (pcs_pre (fun h => h) hE hS hPc hK hDc hFc)⟩ rfl rfl hl.1 rfl (lv_room (Nat.le_of_ble_eq_true rfl)) dX0_textOf_9 ⟨Nat.le_of_ble_eq_true rfl, Nat.le_of_ble_eq_true rfl⟩) hS (fun q _ h => hFc q h) hFc (fun u_5 t H1 locs1 ht hvm hw hB hz1 hk1 hS => ?_)
  obtain ⟨v_5, cap_5, f_5⟩ := u_5
  have htx_5 : tx cap_5 0 f_5 ([]) := hw
  obtain ⟨hP, hD⟩ := aft (wr := []) (w1 := [(q_3, .inr (0, [.ref v_5, .int 0, .int 0, .int 0])), (v_5, .inl (cB, cap_5, .inl (ni f_5)))]) (w2 := [(q_3, .inr (0, [.ref v_5, .int 0, .int 0, .int 0])), (v_5, .inl (cB, cap_5, .inl (ni f_5)))]) hP hD [0] [] [0, 1] rfl rfl (by decide) (by decide) hFc hk1 ht hB rfl (by decide) rfl
  clear hPc hDc hFc hk1 ht hB hz1 hvm
  generalize H1 = H at hP hS ⊢
  have hP : va_P D vwCl [(q_3, .inr (0, [.ref v_5, .int 0, .int 0, .int 0])), (v_5, .inl (cB, cap_5, .inl (ni f_5)))] H := hP
  have hD : va_D A [(q_3, .inr (0, [.ref v_5, .int 0, .int 0, .int 0])), (v_5, .inl (cB, cap_5, .inl (ni f_5)))] := hD
  have hcq0 : 16 ≤ cap_5 := by have := htx_5.1; omega
  refine lv_astore_n (lv' := [(2, .ref q_3), (1, .int (nI (kd mm))), (0, .int (nI mm))]) hx hb dX0_textOf_12 rfl hl (by decide) rfl (fun ls hl => ?_)
  refine lv_aload_n hx hb dX0_textOf_13 rfl (lv_at hl 0 rfl) ?_
  refine lv_iload_n hx hb dX0_textOf_14 rfl (lv_at hl 2 rfl) ?_
  have hPc := hP.sub (ws' := []) [] rfl
  have hDc := hD.sub (ws' := []) [] (by decide) rfl
  have hFc := va_free (wc := []) hD hS hA [] rfl
  refine va_calli (va_runS (As := [.int (nI mm)]) (rest := [.ref q_3]) ⟨hx, hb, hml, hown, hts⟩ (c_X0_numberOf l D H.size cI mm (by omega)) (va_cwS 1 hts gX0_textOf_X0_numberOf rfl rfl rfl (by decide +kernel) ⟨Nat.le_of_ble_eq_true rfl, Nat.le_of_ble_eq_true rfl⟩) ⟨pcs_blind, (pcs_pre (fun h => by cases h) hE hS hPc (hK.sub (tys' := [(cI, .int)]) [0] rfl) hDc hFc)⟩ rfl rfl hl.1 rfl (lv_room (Nat.le_of_ble_eq_true rfl)) dX0_textOf_15 ⟨Nat.le_of_ble_eq_true rfl, Nat.le_of_ble_eq_true rfl⟩) hS (fun q _ h => hFc q h) hFc (fun r_6 u t H1 locs1 ht hvm hw hB hz1 hk1 hS => ?_)
  have hw : r_6 = nI (nu mm) := hw
  subst hw
  obtain ⟨hP, hD⟩ := aft (wr := [(q_3, .inr (0, [.ref v_5, .int 0, .int 0, .int 0])), (v_5, .inl (cB, cap_5, .inl (ni f_5)))]) (w1 := []) (w2 := [(q_3, .inr (0, [.ref v_5, .int 0, .int 0, .int 0])), (v_5, .inl (cB, cap_5, .inl (ni f_5)))]) hP hD [] [0, 1] [0, 1] rfl rfl (by decide) (by decide) hFc hk1 ht hB rfl (by decide) rfl
  clear hPc hDc hFc hk1 ht hB hz1 hvm
  generalize H1 = H at hP hS ⊢
  have hP : va_P D vwCl [(q_3, .inr (0, [.ref v_5, .int 0, .int 0, .int 0])), (v_5, .inl (cB, cap_5, .inl (ni f_5)))] H := hP
  have hD : va_D A [(q_3, .inr (0, [.ref v_5, .int 0, .int 0, .int 0])), (v_5, .inl (cB, cap_5, .inl (ni f_5)))] := hD
  have hf_7 : nu mm < 256 := nu_lt _
  have hPc := hP
  have hDc := hD
  have hFc := va_free (wc := [(q_3, .inr (0, [.ref v_5, .int 0, .int 0, .int 0])), (v_5, .inl (cB, cap_5, .inl (ni f_5)))]) hD hS hA [0, 1] rfl
  refine va_callr (va_runV (As := [.int (nI (nu mm))]) (rest := []) ⟨hx, hb, hml, hown, hts⟩ (c_J4_appI_f l D H.size cI cB q_3 v_5 cap_5 0 f_5 ([]) (nu mm) htx_5 (by omega) (by omega)) (cwV 1 hts gX0_textOf_J4_append_bf812 rfl rfl rfl (by decide +kernel) ⟨Nat.le_of_ble_eq_true rfl, Nat.le_of_ble_eq_true rfl⟩) ⟨pcs_blind, va_recv hK hP (ci := 0) (q0 := 0) rfl rfl, (pcs_pre (fun h => h) hE hS hPc hK hDc hFc)⟩ rfl rfl hl.1 rfl (lv_room (Nat.le_of_ble_eq_true rfl)) dX0_textOf_18 ⟨Nat.le_of_ble_eq_true rfl, Nat.le_of_ble_eq_true rfl⟩) hS (fun q _ h => hFc q h) hFc (fun u_9 r_8 t H1 locs1 ht hvm hw hB hz1 hk1 hS => ?_)
  obtain ⟨v_9, cap_9, f_9⟩ := u_9
  obtain ⟨hw1, hB⟩ := hB
  have hw1 : r_8 = q_3 := hw1
  rw [hw1]
  have htx_9 : tx cap_9 (0 + rDig (nu mm)) f_9 (([]) ++ dgs (nu mm)) := hw.1
  have hcp_9 : cap_9 = cap_5 := hw.2
  obtain ⟨hP, hD⟩ := aft (wr := []) (w1 := [(q_3, .inr (0, [.ref v_9, .int 0, .int 0, .int (nI (0 + rDig (nu mm)))])), (v_9, .inl (cB, cap_9, .inl (ni f_9)))]) (w2 := [(q_3, .inr (0, [.ref v_9, .int 0, .int 0, .int (nI (0 + rDig (nu mm)))])), (v_9, .inl (cB, cap_9, .inl (ni f_9)))]) hP hD [0, 1] [] [0, 1] rfl rfl (by decide) (by decide) hFc hk1 ht hB rfl (by decide) rfl
  clear hPc hDc hFc hk1 ht hB hz1 hvm
  generalize H1 = H at hP hS ⊢
  have hP : va_P D vwCl [(q_3, .inr (0, [.ref v_9, .int 0, .int 0, .int (nI (0 + rDig (nu mm)))])), (v_9, .inl (cB, cap_9, .inl (ni f_9)))] H := hP
  have hD : va_D A [(q_3, .inr (0, [.ref v_9, .int 0, .int 0, .int (nI (0 + rDig (nu mm)))])), (v_9, .inl (cB, cap_9, .inl (ni f_9)))] := hD
  refine lv_bipush (v := 32) hx hb dX0_textOf_21 (by decide) ?_
  have hPc := hP
  have hDc := hD
  have hFc := va_free (wc := [(q_3, .inr (0, [.ref v_9, .int 0, .int 0, .int (nI (0 + rDig (nu mm)))])), (v_9, .inl (cB, cap_9, .inl (ni f_9)))]) hD hS hA [0, 1] rfl
  refine va_callr (va_runV (As := [.int 32]) (rest := []) ⟨hx, hb, hml, hown, hts⟩ (c_J4_appC_f l D H.size cI cB q_3 v_9 cap_9 (0 + rDig (nu mm)) f_9 (([]) ++ dgs (nu mm)) 32 htx_9 (by omega) (by omega)) (cwV 1 hts gX0_textOf_J4_append_cf468 rfl rfl rfl (by decide +kernel) ⟨Nat.le_of_ble_eq_true rfl, Nat.le_of_ble_eq_true rfl⟩) ⟨pcs_blind, va_recv hK hP (ci := 0) (q0 := 0) rfl rfl, (pcs_pre (fun h => h) hE hS hPc hK hDc hFc)⟩ rfl rfl hl.1 rfl (lv_room (Nat.le_of_ble_eq_true rfl)) dX0_textOf_23 ⟨Nat.le_of_ble_eq_true rfl, Nat.le_of_ble_eq_true rfl⟩) hS (fun q _ h => hFc q h) hFc (fun u_11 r_10 t H1 locs1 ht hvm hw hB hz1 hk1 hS => ?_)
  obtain ⟨v_11, cap_11, f_11⟩ := u_11
  obtain ⟨hw1, hB⟩ := hB
  have hw1 : r_10 = q_3 := hw1
  rw [hw1]
  have htx_11 : tx cap_11 ((0 + rDig (nu mm)) + 1) f_11 ((([]) ++ dgs (nu mm)) ++ [32]) := hw.1
  have hcp_11 : cap_11 = cap_9 := hw.2
  obtain ⟨hP, hD⟩ := aft (wr := []) (w1 := [(q_3, .inr (0, [.ref v_11, .int 0, .int 0, .int (nI ((0 + rDig (nu mm)) + 1))])), (v_11, .inl (cB, cap_11, .inl (ni f_11)))]) (w2 := [(q_3, .inr (0, [.ref v_11, .int 0, .int 0, .int (nI ((0 + rDig (nu mm)) + 1))])), (v_11, .inl (cB, cap_11, .inl (ni f_11)))]) hP hD [0, 1] [] [0, 1] rfl rfl (by decide) (by decide) hFc hk1 ht hB rfl (by decide) rfl
  clear hPc hDc hFc hk1 ht hB hz1 hvm
  generalize H1 = H at hP hS ⊢
  have hP : va_P D vwCl [(q_3, .inr (0, [.ref v_11, .int 0, .int 0, .int (nI ((0 + rDig (nu mm)) + 1))])), (v_11, .inl (cB, cap_11, .inl (ni f_11)))] H := hP
  have hD : va_D A [(q_3, .inr (0, [.ref v_11, .int 0, .int 0, .int (nI ((0 + rDig (nu mm)) + 1))])), (v_11, .inl (cB, cap_11, .inl (ni f_11)))] := hD
  refine lv_iload_n hx hb dX0_textOf_26 rfl (lv_at hl 1 rfl) ?_
  have hPc := hP.sub (ws' := []) [] rfl
  have hDc := hD.sub (ws' := []) [] (by decide) rfl
  have hFc := va_free (wc := []) hD hS hA [] rfl
  refine va_callr (va_runS (As := [.int (nI (kd mm))]) (rest := [.ref q_3]) ⟨hx, hb, hml, hown, hts⟩ (c_X0_nameOf l D H.size cI cB (kd mm) (aK (kd mm)) (by omega)) (va_cwS 1 hts gX0_textOf_X0_nameOf rfl rfl rfl (by decide +kernel) ⟨Nat.le_of_ble_eq_true rfl, Nat.le_of_ble_eq_true rfl⟩) ⟨pcsK_blind, (pcsK_pre (pcs_pre (fun h => by cases h) hE hS hPc hK hDc hFc) (haK (kd mm) (by omega)))⟩ rfl rfl hl.1 rfl (lv_room (Nat.le_of_ble_eq_true rfl)) dX0_textOf_27 ⟨Nat.le_of_ble_eq_true rfl, Nat.le_of_ble_eq_true rfl⟩) hS (fun q _ h => hFc q h) hFc (fun u r_12 t H1 locs1 ht hvm hw hB hz1 hk1 hS => ?_)
  obtain ⟨hw, hB⟩ := hB
  have hw : r_12 = aK (kd mm) := hw
  subst hw
  obtain ⟨hP, hD⟩ := aft (wr := [(q_3, .inr (0, [.ref v_11, .int 0, .int 0, .int (nI ((0 + rDig (nu mm)) + 1))])), (v_11, .inl (cB, cap_11, .inl (ni f_11)))]) (w1 := []) (w2 := [(q_3, .inr (0, [.ref v_11, .int 0, .int 0, .int (nI ((0 + rDig (nu mm)) + 1))])), (v_11, .inl (cB, cap_11, .inl (ni f_11)))]) hP hD [] [0, 1] [0, 1] rfl rfl (by decide) (by decide) hFc hk1 ht hB rfl (by decide) rfl
  clear hPc hDc hFc hk1 ht hB hz1 hvm
  generalize H1 = H at hP hS ⊢
  have hP : va_P D vwCl [(q_3, .inr (0, [.ref v_11, .int 0, .int 0, .int (nI ((0 + rDig (nu mm)) + 1))])), (v_11, .inl (cB, cap_11, .inl (ni f_11)))] H := hP
  have hD : va_D A [(q_3, .inr (0, [.ref v_11, .int 0, .int 0, .int (nI ((0 + rDig (nu mm)) + 1))])), (v_11, .inl (cB, cap_11, .inl (ni f_11)))] := hD
  have hPc := hP
  have hDc := hD
  have hFc := va_free (wc := [(q_3, .inr (0, [.ref v_11, .int 0, .int 0, .int (nI ((0 + rDig (nu mm)) + 1))])), (v_11, .inl (cB, cap_11, .inl (ni f_11)))]) hD hS hA [0, 1] rfl
  refine va_callr (va_runV (As := [.ref (aK (kd mm))]) (rest := []) ⟨hx, hb, hml, hown, hts⟩ (c_J4_appS_f l D H.size cI cB q_3 v_11 cap_11 ((0 + rDig (nu mm)) + 1) f_11 ((([]) ++ dgs (nu mm)) ++ [32]) (kd mm) (aK (kd mm)) htx_11 (by omega) (by omega)) (cwV 1 hts gX0_textOf_J4_append_15ec4 rfl rfl rfl (by decide +kernel) ⟨Nat.le_of_ble_eq_true rfl, Nat.le_of_ble_eq_true rfl⟩) ⟨pcsK_blind, va_recv hK hP (ci := 0) (q0 := 0) rfl rfl, (pcsK_pre (pcs_pre (fun h => h) hE hS hPc hK hDc hFc) (haK (kd mm) (by omega)))⟩ rfl rfl hl.1 rfl (lv_room (Nat.le_of_ble_eq_true rfl)) dX0_textOf_30 ⟨Nat.le_of_ble_eq_true rfl, Nat.le_of_ble_eq_true rfl⟩) hS (fun q _ h => hFc q h) hFc (fun u_14 r_13 t H1 locs1 ht hvm hw hB hz1 hk1 hS => ?_)
  obtain ⟨v_14, cap_14, f_14⟩ := u_14
  obtain ⟨hw1, hB⟩ := hB
  have hw1 : r_13 = q_3 := hw1
  rw [hw1]
  have htx_14 : tx cap_14 (((0 + rDig (nu mm)) + 1) + (sbL (kd mm)).length) f_14 (((([]) ++ dgs (nu mm)) ++ [32]) ++ sbL (kd mm)) := hw.1
  have hcp_14 : cap_14 = cap_11 := hw.2
  obtain ⟨hP, hD⟩ := aft (wr := []) (w1 := [(q_3, .inr (0, [.ref v_14, .int 0, .int 0, .int (nI (((0 + rDig (nu mm)) + 1) + (sbL (kd mm)).length))])), (v_14, .inl (cB, cap_14, .inl (ni f_14)))]) (w2 := [(q_3, .inr (0, [.ref v_14, .int 0, .int 0, .int (nI (((0 + rDig (nu mm)) + 1) + (sbL (kd mm)).length))])), (v_14, .inl (cB, cap_14, .inl (ni f_14)))]) hP hD [0, 1] [] [0, 1] rfl rfl (by decide) (by decide) hFc hk1 ht hB rfl (by decide) rfl
  clear hPc hDc hFc hk1 ht hB hz1 hvm
  generalize H1 = H at hP hS ⊢
  have hP : va_P D vwCl [(q_3, .inr (0, [.ref v_14, .int 0, .int 0, .int (nI (((0 + rDig (nu mm)) + 1) + (sbL (kd mm)).length))])), (v_14, .inl (cB, cap_14, .inl (ni f_14)))] H := hP
  have hD : va_D A [(q_3, .inr (0, [.ref v_14, .int 0, .int 0, .int (nI (((0 + rDig (nu mm)) + 1) + (sbL (kd mm)).length))])), (v_14, .inl (cB, cap_14, .inl (ni f_14)))] := hD
  refine lv_pop hx hb dX0_textOf_33 rfl ?_
  refine lv_iload_n hx hb dX0_textOf_34 rfl (lv_at hl 1 rfl) ?_
  refine lv_iconst (v := 3) hx hb dX0_textOf_35 (by decide) ?_
  refine lv_icmp_eq (tgt := 49) hx hb dX0_textOf_36 (by decide) (fun c_15 => ?_) (fun c_15 => ?_)
  · replace c_15 : (kd mm) = 3 := (nI_eq (a := (kd mm)) (b := 3) (by omega) (by omega)).mp c_15
    refine lv_aload_n hx hb dX0_textOf_49 rfl (lv_at hl 0 rfl) ?_
    refine lv_bipush (v := 32) hx hb dX0_textOf_50 (by decide) ?_
    have hPc := hP
    have hDc := hD
    have hFc := va_free (wc := [(q_3, .inr (0, [.ref v_14, .int 0, .int 0, .int (nI (((0 + rDig (nu mm)) + 1) + (sbL (kd mm)).length))])), (v_14, .inl (cB, cap_14, .inl (ni f_14)))]) hD hS hA [0, 1] rfl
    refine va_callr (va_runV (As := [.int 32]) (rest := []) ⟨hx, hb, hml, hown, hts⟩ (c_J4_appC_f l D H.size cI cB q_3 v_14 cap_14 (((0 + rDig (nu mm)) + 1) + (sbL (kd mm)).length) f_14 (((([]) ++ dgs (nu mm)) ++ [32]) ++ sbL (kd mm)) 32 htx_14 (by omega) (by omega)) (cwV 1 hts gX0_textOf_J4_append_cf468 rfl rfl rfl (by decide +kernel) ⟨Nat.le_of_ble_eq_true rfl, Nat.le_of_ble_eq_true rfl⟩) ⟨pcs_blind, va_recv hK hP (ci := 0) (q0 := 0) rfl rfl, (pcs_pre (fun h => h) hE hS hPc hK hDc hFc)⟩ rfl rfl hl.1 rfl (lv_room (Nat.le_of_ble_eq_true rfl)) dX0_textOf_52 ⟨Nat.le_of_ble_eq_true rfl, Nat.le_of_ble_eq_true rfl⟩) hS (fun q _ h => hFc q h) hFc (fun u_17 r_16 t H1 locs1 ht hvm hw hB hz1 hk1 hS => ?_)
    obtain ⟨v_17, cap_17, f_17⟩ := u_17
    obtain ⟨hw1, hB⟩ := hB
    have hw1 : r_16 = q_3 := hw1
    rw [hw1]
    have htx_17 : tx cap_17 ((((0 + rDig (nu mm)) + 1) + (sbL (kd mm)).length) + 1) f_17 ((((([]) ++ dgs (nu mm)) ++ [32]) ++ sbL (kd mm)) ++ [32]) := hw.1
    have hcp_17 : cap_17 = cap_14 := hw.2
    obtain ⟨hP, hD⟩ := aft (wr := []) (w1 := [(q_3, .inr (0, [.ref v_17, .int 0, .int 0, .int (nI ((((0 + rDig (nu mm)) + 1) + (sbL (kd mm)).length) + 1))])), (v_17, .inl (cB, cap_17, .inl (ni f_17)))]) (w2 := [(q_3, .inr (0, [.ref v_17, .int 0, .int 0, .int (nI ((((0 + rDig (nu mm)) + 1) + (sbL (kd mm)).length) + 1))])), (v_17, .inl (cB, cap_17, .inl (ni f_17)))]) hP hD [0, 1] [] [0, 1] rfl rfl (by decide) (by decide) hFc hk1 ht hB rfl (by decide) rfl
    clear hPc hDc hFc hk1 ht hB hz1 hvm
    generalize H1 = H at hP hS ⊢
    have hP : va_P D vwCl [(q_3, .inr (0, [.ref v_17, .int 0, .int 0, .int (nI ((((0 + rDig (nu mm)) + 1) + (sbL (kd mm)).length) + 1))])), (v_17, .inl (cB, cap_17, .inl (ni f_17)))] H := hP
    have hD : va_D A [(q_3, .inr (0, [.ref v_17, .int 0, .int 0, .int (nI ((((0 + rDig (nu mm)) + 1) + (sbL (kd mm)).length) + 1))])), (v_17, .inl (cB, cap_17, .inl (ni f_17)))] := hD
    refine lv_iload_n hx hb dX0_textOf_55 rfl (lv_at hl 2 rfl) ?_
    have hPc := hP.sub (ws' := []) [] rfl
    have hDc := hD.sub (ws' := []) [] (by decide) rfl
    have hFc := va_free (wc := []) hD hS hA [] rfl
    refine va_calli (va_runS (As := [.int (nI mm)]) (rest := [.ref q_3]) ⟨hx, hb, hml, hown, hts⟩ (c_X0_toldBy l D H.size cI mm (by omega)) (va_cwS 1 hts gX0_textOf_X0_toldBy rfl rfl rfl (by decide +kernel) ⟨Nat.le_of_ble_eq_true rfl, Nat.le_of_ble_eq_true rfl⟩) ⟨pcs_blind, (pcs_pre (fun h => by cases h) hE hS hPc (hK.sub (tys' := [(cI, .int)]) [0] rfl) hDc hFc)⟩ rfl rfl hl.1 rfl (lv_room (Nat.le_of_ble_eq_true rfl)) dX0_textOf_56 ⟨Nat.le_of_ble_eq_true rfl, Nat.le_of_ble_eq_true rfl⟩) hS (fun q _ h => hFc q h) hFc (fun r_18 u t H1 locs1 ht hvm hw hB hz1 hk1 hS => ?_)
    have hw : r_18 = nI (td mm) := hw
    subst hw
    obtain ⟨hP, hD⟩ := aft (wr := [(q_3, .inr (0, [.ref v_17, .int 0, .int 0, .int (nI ((((0 + rDig (nu mm)) + 1) + (sbL (kd mm)).length) + 1))])), (v_17, .inl (cB, cap_17, .inl (ni f_17)))]) (w1 := []) (w2 := [(q_3, .inr (0, [.ref v_17, .int 0, .int 0, .int (nI ((((0 + rDig (nu mm)) + 1) + (sbL (kd mm)).length) + 1))])), (v_17, .inl (cB, cap_17, .inl (ni f_17)))]) hP hD [] [0, 1] [0, 1] rfl rfl (by decide) (by decide) hFc hk1 ht hB rfl (by decide) rfl
    clear hPc hDc hFc hk1 ht hB hz1 hvm
    generalize H1 = H at hP hS ⊢
    have hP : va_P D vwCl [(q_3, .inr (0, [.ref v_17, .int 0, .int 0, .int (nI ((((0 + rDig (nu mm)) + 1) + (sbL (kd mm)).length) + 1))])), (v_17, .inl (cB, cap_17, .inl (ni f_17)))] H := hP
    have hD : va_D A [(q_3, .inr (0, [.ref v_17, .int 0, .int 0, .int (nI ((((0 + rDig (nu mm)) + 1) + (sbL (kd mm)).length) + 1))])), (v_17, .inl (cB, cap_17, .inl (ni f_17)))] := hD
    have hf_19 : td mm < 1024 := td_lt _
    have hPc := hP
    have hDc := hD
    have hFc := va_free (wc := [(q_3, .inr (0, [.ref v_17, .int 0, .int 0, .int (nI ((((0 + rDig (nu mm)) + 1) + (sbL (kd mm)).length) + 1))])), (v_17, .inl (cB, cap_17, .inl (ni f_17)))]) hD hS hA [0, 1] rfl
    refine va_callr (va_runV (As := [.int (nI (td mm))]) (rest := []) ⟨hx, hb, hml, hown, hts⟩ (c_J4_appI_f l D H.size cI cB q_3 v_17 cap_17 ((((0 + rDig (nu mm)) + 1) + (sbL (kd mm)).length) + 1) f_17 ((((([]) ++ dgs (nu mm)) ++ [32]) ++ sbL (kd mm)) ++ [32]) (td mm) htx_17 (by omega) (by omega)) (cwV 1 hts gX0_textOf_J4_append_bf812 rfl rfl rfl (by decide +kernel) ⟨Nat.le_of_ble_eq_true rfl, Nat.le_of_ble_eq_true rfl⟩) ⟨pcs_blind, va_recv hK hP (ci := 0) (q0 := 0) rfl rfl, (pcs_pre (fun h => h) hE hS hPc hK hDc hFc)⟩ rfl rfl hl.1 rfl (lv_room (Nat.le_of_ble_eq_true rfl)) dX0_textOf_59 ⟨Nat.le_of_ble_eq_true rfl, Nat.le_of_ble_eq_true rfl⟩) hS (fun q _ h => hFc q h) hFc (fun u_21 r_20 t H1 locs1 ht hvm hw hB hz1 hk1 hS => ?_)
    obtain ⟨v_21, cap_21, f_21⟩ := u_21
    obtain ⟨hw1, hB⟩ := hB
    have hw1 : r_20 = q_3 := hw1
    rw [hw1]
    have htx_21 : tx cap_21 (((((0 + rDig (nu mm)) + 1) + (sbL (kd mm)).length) + 1) + rDig (td mm)) f_21 (((((([]) ++ dgs (nu mm)) ++ [32]) ++ sbL (kd mm)) ++ [32]) ++ dgs (td mm)) := hw.1
    have hcp_21 : cap_21 = cap_17 := hw.2
    obtain ⟨hP, hD⟩ := aft (wr := []) (w1 := [(q_3, .inr (0, [.ref v_21, .int 0, .int 0, .int (nI (((((0 + rDig (nu mm)) + 1) + (sbL (kd mm)).length) + 1) + rDig (td mm)))])), (v_21, .inl (cB, cap_21, .inl (ni f_21)))]) (w2 := [(q_3, .inr (0, [.ref v_21, .int 0, .int 0, .int (nI (((((0 + rDig (nu mm)) + 1) + (sbL (kd mm)).length) + 1) + rDig (td mm)))])), (v_21, .inl (cB, cap_21, .inl (ni f_21)))]) hP hD [0, 1] [] [0, 1] rfl rfl (by decide) (by decide) hFc hk1 ht hB rfl (by decide) rfl
    clear hPc hDc hFc hk1 ht hB hz1 hvm
    generalize H1 = H at hP hS ⊢
    have hP : va_P D vwCl [(q_3, .inr (0, [.ref v_21, .int 0, .int 0, .int (nI (((((0 + rDig (nu mm)) + 1) + (sbL (kd mm)).length) + 1) + rDig (td mm)))])), (v_21, .inl (cB, cap_21, .inl (ni f_21)))] H := hP
    have hD : va_D A [(q_3, .inr (0, [.ref v_21, .int 0, .int 0, .int (nI (((((0 + rDig (nu mm)) + 1) + (sbL (kd mm)).length) + 1) + rDig (td mm)))])), (v_21, .inl (cB, cap_21, .inl (ni f_21)))] := hD
    refine lv_pop hx hb dX0_textOf_62 rfl ?_
    refine lv_iload_n hx hb dX0_textOf_63 rfl (lv_at hl 2 rfl) ?_
    refine lv_ldc (v := 2097152) hx hb hown (hts (.constant RX0 38 2097152) (by decide +kernel)) dX0_textOf_64 ?_
    have hPc := hP.sub (ws' := []) [] rfl
    have hDc := hD.sub (ws' := []) [] (by decide) rfl
    have hFc := va_free (wc := []) hD hS hA [] rfl
    refine va_calli (va_runS (As := [.int (nI mm), .int 2097152]) (rest := []) ⟨hx, hb, hml, hown, hts⟩ (c_X0_isMarked_21 l D H.size cI mm) (va_cwS 2 hts gX0_textOf_X0_isMarked rfl rfl rfl (by decide +kernel) ⟨Nat.le_of_ble_eq_true rfl, Nat.le_of_ble_eq_true rfl⟩) ⟨pcs_blind, (pcs_pre (fun h => by cases h) hE hS hPc (hK.sub (tys' := [(cI, .int)]) [0] rfl) hDc hFc)⟩ rfl rfl hl.1 rfl (lv_room (Nat.le_of_ble_eq_true rfl)) dX0_textOf_66 ⟨Nat.le_of_ble_eq_true rfl, Nat.le_of_ble_eq_true rfl⟩) hS (fun q _ h => hFc q h) hFc (fun r_22 u t H1 locs1 ht hvm hw hB hz1 hk1 hS => ?_)
    have hw : r_22 = b2i (mm.testBit 21 = true) := hw
    subst hw
    obtain ⟨hP, hD⟩ := aft (wr := [(q_3, .inr (0, [.ref v_21, .int 0, .int 0, .int (nI (((((0 + rDig (nu mm)) + 1) + (sbL (kd mm)).length) + 1) + rDig (td mm)))])), (v_21, .inl (cB, cap_21, .inl (ni f_21)))]) (w1 := []) (w2 := [(q_3, .inr (0, [.ref v_21, .int 0, .int 0, .int (nI (((((0 + rDig (nu mm)) + 1) + (sbL (kd mm)).length) + 1) + rDig (td mm)))])), (v_21, .inl (cB, cap_21, .inl (ni f_21)))]) hP hD [] [0, 1] [0, 1] rfl rfl (by decide) (by decide) hFc hk1 ht hB rfl (by decide) rfl
    clear hPc hDc hFc hk1 ht hB hz1 hvm
    generalize H1 = H at hP hS ⊢
    have hP : va_P D vwCl [(q_3, .inr (0, [.ref v_21, .int 0, .int 0, .int (nI (((((0 + rDig (nu mm)) + 1) + (sbL (kd mm)).length) + 1) + rDig (td mm)))])), (v_21, .inl (cB, cap_21, .inl (ni f_21)))] H := hP
    have hD : va_D A [(q_3, .inr (0, [.ref v_21, .int 0, .int 0, .int (nI (((((0 + rDig (nu mm)) + 1) + (sbL (kd mm)).length) + 1) + rDig (td mm)))])), (v_21, .inl (cB, cap_21, .inl (ni f_21)))] := hD
    refine lv_if_eq (tgt := 79) hx hb dX0_textOf_69 (by decide) (fun c_23 => ?_) (fun c_23 => ?_)
    · replace c_23 := b2i_0.mp c_23
      refine lv_iload_n hx hb dX0_textOf_79 rfl (lv_at hl 2 rfl) ?_
      refine lv_ldc (v := 4194304) hx hb hown (hts (.constant RX0 45 4194304) (by decide +kernel)) dX0_textOf_80 ?_
      have hPc := hP.sub (ws' := []) [] rfl
      have hDc := hD.sub (ws' := []) [] (by decide) rfl
      have hFc := va_free (wc := []) hD hS hA [] rfl
      refine va_calli (va_runS (As := [.int (nI mm), .int 4194304]) (rest := []) ⟨hx, hb, hml, hown, hts⟩ (c_X0_isMarked_22 l D H.size cI mm) (va_cwS 2 hts gX0_textOf_X0_isMarked rfl rfl rfl (by decide +kernel) ⟨Nat.le_of_ble_eq_true rfl, Nat.le_of_ble_eq_true rfl⟩) ⟨pcs_blind, (pcs_pre (fun h => by cases h) hE hS hPc (hK.sub (tys' := [(cI, .int)]) [0] rfl) hDc hFc)⟩ rfl rfl hl.1 rfl (lv_room (Nat.le_of_ble_eq_true rfl)) dX0_textOf_82 ⟨Nat.le_of_ble_eq_true rfl, Nat.le_of_ble_eq_true rfl⟩) hS (fun q _ h => hFc q h) hFc (fun r_24 u t H1 locs1 ht hvm hw hB hz1 hk1 hS => ?_)
      have hw : r_24 = b2i (mm.testBit 22 = true) := hw
      subst hw
      obtain ⟨hP, hD⟩ := aft (wr := [(q_3, .inr (0, [.ref v_21, .int 0, .int 0, .int (nI (((((0 + rDig (nu mm)) + 1) + (sbL (kd mm)).length) + 1) + rDig (td mm)))])), (v_21, .inl (cB, cap_21, .inl (ni f_21)))]) (w1 := []) (w2 := [(q_3, .inr (0, [.ref v_21, .int 0, .int 0, .int (nI (((((0 + rDig (nu mm)) + 1) + (sbL (kd mm)).length) + 1) + rDig (td mm)))])), (v_21, .inl (cB, cap_21, .inl (ni f_21)))]) hP hD [] [0, 1] [0, 1] rfl rfl (by decide) (by decide) hFc hk1 ht hB rfl (by decide) rfl
      clear hPc hDc hFc hk1 ht hB hz1 hvm
      generalize H1 = H at hP hS ⊢
      have hP : va_P D vwCl [(q_3, .inr (0, [.ref v_21, .int 0, .int 0, .int (nI (((((0 + rDig (nu mm)) + 1) + (sbL (kd mm)).length) + 1) + rDig (td mm)))])), (v_21, .inl (cB, cap_21, .inl (ni f_21)))] H := hP
      have hD : va_D A [(q_3, .inr (0, [.ref v_21, .int 0, .int 0, .int (nI (((((0 + rDig (nu mm)) + 1) + (sbL (kd mm)).length) + 1) + rDig (td mm)))])), (v_21, .inl (cB, cap_21, .inl (ni f_21)))] := hD
      refine lv_if_eq (tgt := 95) hx hb dX0_textOf_85 (by decide) (fun c_25 => ?_) (fun c_25 => ?_)
      · replace c_25 := b2i_0.mp c_25
        refine lv_aload_n hx hb dX0_textOf_95 rfl (lv_at hl 0 rfl) ?_
        refine W.widen (k := 3) (n := 54) (Nat.le_of_ble_eq_true rfl) (Nat.le_of_ble_eq_true rfl) ?_
        have hP9 := hP.sub (ws' := [(q_3, .inr (0, [.ref v_21, .int 0, .int 0, .int (nI (((((0 + rDig (nu mm)) + 1) + (sbL (kd mm)).length) + 1) + rDig (td mm)))])), (v_21, .inl (cB, cap_21, .inl (ni f_21)))]) [0, 1] rfl
        have hD9 := hD.sub (ws' := [(q_3, .inr (0, [.ref v_21, .int 0, .int 0, .int (nI (((((0 + rDig (nu mm)) + 1) + (sbL (kd mm)).length) + 1) + rDig (td mm)))])), (v_21, .inl (cB, cap_21, .inl (ni f_21)))]) [0, 1] (by decide) rfl
        have eT : textM mm = ((((([]) ++ dgs (nu mm)) ++ [32]) ++ sbL (kd mm)) ++ [32]) ++ dgs (td mm) := by
          unfold textM
          rw [if_pos (show kd mm = 3 ∨ kd mm = 4 ∨ kd mm = 5 by omega), if_neg c_23, if_neg c_25]
          simp only [List.nil_append, List.append_nil, List.append_assoc]
        have eF : (textM mm).length = ((((0 + rDig (nu mm)) + 1) + (sbL (kd mm)).length) + 1) + rDig (td mm) := by rw [eT]; exact htx_21.2.1.symm
        have hP9 : va_P D vwCl [(q_3, .inr (0, [.ref v_21, .int 0, .int 0, .int (nI ((textM mm).length))])), (v_21, .inl (cB, cap_21, .inl (ni f_21)))] H := by rw [eF]; exact hP9
        have hD9 : va_D A [(q_3, .inr (0, [.ref v_21, .int 0, .int 0, .int (nI ((textM mm).length))])), (v_21, .inl (cB, cap_21, .inl (ni f_21)))] := by rw [eF]; exact hD9
        exact W.aret (v := .ref q_3) hx hb hr (Or.inl ⟨_, rfl⟩) (Or.inr ⟨_, rfl⟩) (fun t ht hW => lfxn (v_21, cap_21, f_21) (by rw [eF, eT]; exact htx_21) hP9 hK hD9 hS ht hW) hS.2.2 dX0_textOf_96 hlocks
      · replace c_25 := b2i_n.mp c_25
        refine lv_aload_n hx hb dX0_textOf_88 rfl (lv_at hl 0 rfl) ?_
        refine va_ldcS hx hb hown (strK.R (q := (46, " P")) (haK 8 (by decide)) rfl) dX0_textOf_89 ?_
        have hPc := hP
        have hDc := hD
        have hFc := va_free (wc := [(q_3, .inr (0, [.ref v_21, .int 0, .int 0, .int (nI (((((0 + rDig (nu mm)) + 1) + (sbL (kd mm)).length) + 1) + rDig (td mm)))])), (v_21, .inl (cB, cap_21, .inl (ni f_21)))]) hD hS hA [0, 1] rfl
        refine va_callr (va_runV (As := [.ref (aK 8)]) (rest := []) ⟨hx, hb, hml, hown, hts⟩ (c_J4_append_15ec4 l D H.size cI cB q_3 v_21 cap_21 (((((0 + rDig (nu mm)) + 1) + (sbL (kd mm)).length) + 1) + rDig (td mm)) f_21 (((((([]) ++ dgs (nu mm)) ++ [32]) ++ sbL (kd mm)) ++ [32]) ++ dgs (td mm)) 8 (aK 8) htx_21 (by omega) (by omega)) (cwV 1 hts gX0_textOf_J4_append_15ec4 rfl rfl rfl (by decide +kernel) ⟨Nat.le_of_ble_eq_true rfl, Nat.le_of_ble_eq_true rfl⟩) ⟨pcsK_blind, va_recv hK hP (ci := 0) (q0 := 0) rfl rfl, (pcsK_pre (pcs_pre (fun h => h) hE hS hPc hK hDc hFc) (haK 8 (by omega)))⟩ rfl rfl hl.1 rfl (lv_room (Nat.le_of_ble_eq_true rfl)) dX0_textOf_91 ⟨Nat.le_of_ble_eq_true rfl, Nat.le_of_ble_eq_true rfl⟩) hS (fun q _ h => hFc q h) hFc (fun u_27 r_26 t H1 locs1 ht hvm hw hB hz1 hk1 hS => ?_)
        obtain ⟨v_27, cap_27, f_27⟩ := u_27
        obtain ⟨hw1, hB⟩ := hB
        have hw1 : r_26 = q_3 := hw1
        rw [hw1]
        have htx_27 : tx cap_27 ((((((0 + rDig (nu mm)) + 1) + (sbL (kd mm)).length) + 1) + rDig (td mm)) + (sbL 8).length) f_27 ((((((([]) ++ dgs (nu mm)) ++ [32]) ++ sbL (kd mm)) ++ [32]) ++ dgs (td mm)) ++ sbL 8) := hw
        obtain ⟨hP, hD⟩ := aft (wr := []) (w1 := [(q_3, .inr (0, [.ref v_27, .int 0, .int 0, .int (nI ((((((0 + rDig (nu mm)) + 1) + (sbL (kd mm)).length) + 1) + rDig (td mm)) + (sbL 8).length))])), (v_27, .inl (cB, cap_27, .inl (ni f_27)))]) (w2 := [(q_3, .inr (0, [.ref v_27, .int 0, .int 0, .int (nI ((((((0 + rDig (nu mm)) + 1) + (sbL (kd mm)).length) + 1) + rDig (td mm)) + (sbL 8).length))])), (v_27, .inl (cB, cap_27, .inl (ni f_27)))]) hP hD [0, 1] [] [0, 1] rfl rfl (by decide) (by decide) hFc hk1 ht hB rfl (by decide) rfl
        clear hPc hDc hFc hk1 ht hB hz1 hvm
        generalize H1 = H at hP hS ⊢
        have hP : va_P D vwCl [(q_3, .inr (0, [.ref v_27, .int 0, .int 0, .int (nI ((((((0 + rDig (nu mm)) + 1) + (sbL (kd mm)).length) + 1) + rDig (td mm)) + (sbL 8).length))])), (v_27, .inl (cB, cap_27, .inl (ni f_27)))] H := hP
        have hD : va_D A [(q_3, .inr (0, [.ref v_27, .int 0, .int 0, .int (nI ((((((0 + rDig (nu mm)) + 1) + (sbL (kd mm)).length) + 1) + rDig (td mm)) + (sbL 8).length))])), (v_27, .inl (cB, cap_27, .inl (ni f_27)))] := hD
        refine lv_pop hx hb dX0_textOf_94 rfl ?_
        refine lv_aload_n hx hb dX0_textOf_95 rfl (lv_at hl 0 rfl) ?_
        refine W.widen (k := 3) (n := 54) (Nat.le_of_ble_eq_true rfl) (Nat.le_of_ble_eq_true rfl) ?_
        have hP9 := hP.sub (ws' := [(q_3, .inr (0, [.ref v_27, .int 0, .int 0, .int (nI ((((((0 + rDig (nu mm)) + 1) + (sbL (kd mm)).length) + 1) + rDig (td mm)) + (sbL 8).length))])), (v_27, .inl (cB, cap_27, .inl (ni f_27)))]) [0, 1] rfl
        have hD9 := hD.sub (ws' := [(q_3, .inr (0, [.ref v_27, .int 0, .int 0, .int (nI ((((((0 + rDig (nu mm)) + 1) + (sbL (kd mm)).length) + 1) + rDig (td mm)) + (sbL 8).length))])), (v_27, .inl (cB, cap_27, .inl (ni f_27)))]) [0, 1] (by decide) rfl
        have eT : textM mm = (((((([]) ++ dgs (nu mm)) ++ [32]) ++ sbL (kd mm)) ++ [32]) ++ dgs (td mm)) ++ sbL 8 := by
          unfold textM
          rw [if_pos (show kd mm = 3 ∨ kd mm = 4 ∨ kd mm = 5 by omega), if_neg c_23, if_pos c_25]
          simp only [List.nil_append, List.append_nil, List.append_assoc]
        have eF : (textM mm).length = (((((0 + rDig (nu mm)) + 1) + (sbL (kd mm)).length) + 1) + rDig (td mm)) + (sbL 8).length := by rw [eT]; exact htx_27.2.1.symm
        have hP9 : va_P D vwCl [(q_3, .inr (0, [.ref v_27, .int 0, .int 0, .int (nI ((textM mm).length))])), (v_27, .inl (cB, cap_27, .inl (ni f_27)))] H := by rw [eF]; exact hP9
        have hD9 : va_D A [(q_3, .inr (0, [.ref v_27, .int 0, .int 0, .int (nI ((textM mm).length))])), (v_27, .inl (cB, cap_27, .inl (ni f_27)))] := by rw [eF]; exact hD9
        exact W.aret (v := .ref q_3) hx hb hr (Or.inl ⟨_, rfl⟩) (Or.inr ⟨_, rfl⟩) (fun t ht hW => lfxn (v_27, cap_27, f_27) (by rw [eF, eT]; exact htx_27) hP9 hK hD9 hS ht hW) hS.2.2 dX0_textOf_96 hlocks
    · replace c_23 := b2i_n.mp c_23
      by_cases hfD : (((((0 + rDig (nu mm)) + 1) + (sbL (kd mm)).length) + 1) + rDig (td mm)) + 2 ≤ 16
      · refine lv_aload_n hx hb dX0_textOf_72 rfl (lv_at hl 0 rfl) ?_
        refine va_ldcS hx hb hown (strK.R (q := (43, " D")) (haK 7 (by decide)) rfl) dX0_textOf_73 ?_
        have hPc := hP
        have hDc := hD
        have hFc := va_free (wc := [(q_3, .inr (0, [.ref v_21, .int 0, .int 0, .int (nI (((((0 + rDig (nu mm)) + 1) + (sbL (kd mm)).length) + 1) + rDig (td mm)))])), (v_21, .inl (cB, cap_21, .inl (ni f_21)))]) hD hS hA [0, 1] rfl
        refine va_callr (va_runV (As := [.ref (aK 7)]) (rest := []) ⟨hx, hb, hml, hown, hts⟩ (c_J4_appS_f l D H.size cI cB q_3 v_21 cap_21 (((((0 + rDig (nu mm)) + 1) + (sbL (kd mm)).length) + 1) + rDig (td mm)) f_21 (((((([]) ++ dgs (nu mm)) ++ [32]) ++ sbL (kd mm)) ++ [32]) ++ dgs (td mm)) 7 (aK 7) htx_21 (by omega) (by omega)) (cwV 1 hts gX0_textOf_J4_append_15ec4 rfl rfl rfl (by decide +kernel) ⟨Nat.le_of_ble_eq_true rfl, Nat.le_of_ble_eq_true rfl⟩) ⟨pcsK_blind, va_recv hK hP (ci := 0) (q0 := 0) rfl rfl, (pcsK_pre (pcs_pre (fun h => h) hE hS hPc hK hDc hFc) (haK 7 (by omega)))⟩ rfl rfl hl.1 rfl (lv_room (Nat.le_of_ble_eq_true rfl)) dX0_textOf_75 ⟨Nat.le_of_ble_eq_true rfl, Nat.le_of_ble_eq_true rfl⟩) hS (fun q _ h => hFc q h) hFc (fun u_29 r_28 t H1 locs1 ht hvm hw hB hz1 hk1 hS => ?_)
        obtain ⟨v_29, cap_29, f_29⟩ := u_29
        obtain ⟨hw1, hB⟩ := hB
        have hw1 : r_28 = q_3 := hw1
        rw [hw1]
        have htx_29 : tx cap_29 ((((((0 + rDig (nu mm)) + 1) + (sbL (kd mm)).length) + 1) + rDig (td mm)) + (sbL 7).length) f_29 ((((((([]) ++ dgs (nu mm)) ++ [32]) ++ sbL (kd mm)) ++ [32]) ++ dgs (td mm)) ++ sbL 7) := hw.1
        have hcp_29 : cap_29 = cap_21 := hw.2
        obtain ⟨hP, hD⟩ := aft (wr := []) (w1 := [(q_3, .inr (0, [.ref v_29, .int 0, .int 0, .int (nI ((((((0 + rDig (nu mm)) + 1) + (sbL (kd mm)).length) + 1) + rDig (td mm)) + (sbL 7).length))])), (v_29, .inl (cB, cap_29, .inl (ni f_29)))]) (w2 := [(q_3, .inr (0, [.ref v_29, .int 0, .int 0, .int (nI ((((((0 + rDig (nu mm)) + 1) + (sbL (kd mm)).length) + 1) + rDig (td mm)) + (sbL 7).length))])), (v_29, .inl (cB, cap_29, .inl (ni f_29)))]) hP hD [0, 1] [] [0, 1] rfl rfl (by decide) (by decide) hFc hk1 ht hB rfl (by decide) rfl
        clear hPc hDc hFc hk1 ht hB hz1 hvm
        generalize H1 = H at hP hS ⊢
        have hP : va_P D vwCl [(q_3, .inr (0, [.ref v_29, .int 0, .int 0, .int (nI ((((((0 + rDig (nu mm)) + 1) + (sbL (kd mm)).length) + 1) + rDig (td mm)) + (sbL 7).length))])), (v_29, .inl (cB, cap_29, .inl (ni f_29)))] H := hP
        have hD : va_D A [(q_3, .inr (0, [.ref v_29, .int 0, .int 0, .int (nI ((((((0 + rDig (nu mm)) + 1) + (sbL (kd mm)).length) + 1) + rDig (td mm)) + (sbL 7).length))])), (v_29, .inl (cB, cap_29, .inl (ni f_29)))] := hD
        refine lv_pop hx hb dX0_textOf_78 rfl ?_
        refine lv_iload_n hx hb dX0_textOf_79 rfl (lv_at hl 2 rfl) ?_
        refine lv_ldc (v := 4194304) hx hb hown (hts (.constant RX0 45 4194304) (by decide +kernel)) dX0_textOf_80 ?_
        have hPc := hP.sub (ws' := []) [] rfl
        have hDc := hD.sub (ws' := []) [] (by decide) rfl
        have hFc := va_free (wc := []) hD hS hA [] rfl
        refine va_calli (va_runS (As := [.int (nI mm), .int 4194304]) (rest := []) ⟨hx, hb, hml, hown, hts⟩ (c_X0_isMarked_22 l D H.size cI mm) (va_cwS 2 hts gX0_textOf_X0_isMarked rfl rfl rfl (by decide +kernel) ⟨Nat.le_of_ble_eq_true rfl, Nat.le_of_ble_eq_true rfl⟩) ⟨pcs_blind, (pcs_pre (fun h => by cases h) hE hS hPc (hK.sub (tys' := [(cI, .int)]) [0] rfl) hDc hFc)⟩ rfl rfl hl.1 rfl (lv_room (Nat.le_of_ble_eq_true rfl)) dX0_textOf_82 ⟨Nat.le_of_ble_eq_true rfl, Nat.le_of_ble_eq_true rfl⟩) hS (fun q _ h => hFc q h) hFc (fun r_30 u t H1 locs1 ht hvm hw hB hz1 hk1 hS => ?_)
        have hw : r_30 = b2i (mm.testBit 22 = true) := hw
        subst hw
        obtain ⟨hP, hD⟩ := aft (wr := [(q_3, .inr (0, [.ref v_29, .int 0, .int 0, .int (nI ((((((0 + rDig (nu mm)) + 1) + (sbL (kd mm)).length) + 1) + rDig (td mm)) + (sbL 7).length))])), (v_29, .inl (cB, cap_29, .inl (ni f_29)))]) (w1 := []) (w2 := [(q_3, .inr (0, [.ref v_29, .int 0, .int 0, .int (nI ((((((0 + rDig (nu mm)) + 1) + (sbL (kd mm)).length) + 1) + rDig (td mm)) + (sbL 7).length))])), (v_29, .inl (cB, cap_29, .inl (ni f_29)))]) hP hD [] [0, 1] [0, 1] rfl rfl (by decide) (by decide) hFc hk1 ht hB rfl (by decide) rfl
        clear hPc hDc hFc hk1 ht hB hz1 hvm
        generalize H1 = H at hP hS ⊢
        have hP : va_P D vwCl [(q_3, .inr (0, [.ref v_29, .int 0, .int 0, .int (nI ((((((0 + rDig (nu mm)) + 1) + (sbL (kd mm)).length) + 1) + rDig (td mm)) + (sbL 7).length))])), (v_29, .inl (cB, cap_29, .inl (ni f_29)))] H := hP
        have hD : va_D A [(q_3, .inr (0, [.ref v_29, .int 0, .int 0, .int (nI ((((((0 + rDig (nu mm)) + 1) + (sbL (kd mm)).length) + 1) + rDig (td mm)) + (sbL 7).length))])), (v_29, .inl (cB, cap_29, .inl (ni f_29)))] := hD
        refine lv_if_eq (tgt := 95) hx hb dX0_textOf_85 (by decide) (fun c_31 => ?_) (fun c_31 => ?_)
        · replace c_31 := b2i_0.mp c_31
          refine lv_aload_n hx hb dX0_textOf_95 rfl (lv_at hl 0 rfl) ?_
          refine W.widen (k := 3) (n := 54) (Nat.le_of_ble_eq_true rfl) (Nat.le_of_ble_eq_true rfl) ?_
          have hP9 := hP.sub (ws' := [(q_3, .inr (0, [.ref v_29, .int 0, .int 0, .int (nI ((((((0 + rDig (nu mm)) + 1) + (sbL (kd mm)).length) + 1) + rDig (td mm)) + (sbL 7).length))])), (v_29, .inl (cB, cap_29, .inl (ni f_29)))]) [0, 1] rfl
          have hD9 := hD.sub (ws' := [(q_3, .inr (0, [.ref v_29, .int 0, .int 0, .int (nI ((((((0 + rDig (nu mm)) + 1) + (sbL (kd mm)).length) + 1) + rDig (td mm)) + (sbL 7).length))])), (v_29, .inl (cB, cap_29, .inl (ni f_29)))]) [0, 1] (by decide) rfl
          have eT : textM mm = (((((([]) ++ dgs (nu mm)) ++ [32]) ++ sbL (kd mm)) ++ [32]) ++ dgs (td mm)) ++ sbL 7 := by
            unfold textM
            rw [if_pos (show kd mm = 3 ∨ kd mm = 4 ∨ kd mm = 5 by omega), if_pos c_23, if_neg c_31]
            simp only [List.nil_append, List.append_nil, List.append_assoc]
          have eF : (textM mm).length = (((((0 + rDig (nu mm)) + 1) + (sbL (kd mm)).length) + 1) + rDig (td mm)) + (sbL 7).length := by rw [eT]; exact htx_29.2.1.symm
          have hP9 : va_P D vwCl [(q_3, .inr (0, [.ref v_29, .int 0, .int 0, .int (nI ((textM mm).length))])), (v_29, .inl (cB, cap_29, .inl (ni f_29)))] H := by rw [eF]; exact hP9
          have hD9 : va_D A [(q_3, .inr (0, [.ref v_29, .int 0, .int 0, .int (nI ((textM mm).length))])), (v_29, .inl (cB, cap_29, .inl (ni f_29)))] := by rw [eF]; exact hD9
          exact W.aret (v := .ref q_3) hx hb hr (Or.inl ⟨_, rfl⟩) (Or.inr ⟨_, rfl⟩) (fun t ht hW => lfxn (v_29, cap_29, f_29) (by rw [eF, eT]; exact htx_29) hP9 hK hD9 hS ht hW) hS.2.2 dX0_textOf_96 hlocks
        · replace c_31 := b2i_n.mp c_31
          refine lv_aload_n hx hb dX0_textOf_88 rfl (lv_at hl 0 rfl) ?_
          refine va_ldcS hx hb hown (strK.R (q := (46, " P")) (haK 8 (by decide)) rfl) dX0_textOf_89 ?_
          have hPc := hP
          have hDc := hD
          have hFc := va_free (wc := [(q_3, .inr (0, [.ref v_29, .int 0, .int 0, .int (nI ((((((0 + rDig (nu mm)) + 1) + (sbL (kd mm)).length) + 1) + rDig (td mm)) + (sbL 7).length))])), (v_29, .inl (cB, cap_29, .inl (ni f_29)))]) hD hS hA [0, 1] rfl
          refine va_callr (va_runV (As := [.ref (aK 8)]) (rest := []) ⟨hx, hb, hml, hown, hts⟩ (c_J4_append_15ec4 l D H.size cI cB q_3 v_29 cap_29 ((((((0 + rDig (nu mm)) + 1) + (sbL (kd mm)).length) + 1) + rDig (td mm)) + (sbL 7).length) f_29 ((((((([]) ++ dgs (nu mm)) ++ [32]) ++ sbL (kd mm)) ++ [32]) ++ dgs (td mm)) ++ sbL 7) 8 (aK 8) htx_29 (by omega) (by omega)) (cwV 1 hts gX0_textOf_J4_append_15ec4 rfl rfl rfl (by decide +kernel) ⟨Nat.le_of_ble_eq_true rfl, Nat.le_of_ble_eq_true rfl⟩) ⟨pcsK_blind, va_recv hK hP (ci := 0) (q0 := 0) rfl rfl, (pcsK_pre (pcs_pre (fun h => h) hE hS hPc hK hDc hFc) (haK 8 (by omega)))⟩ rfl rfl hl.1 rfl (lv_room (Nat.le_of_ble_eq_true rfl)) dX0_textOf_91 ⟨Nat.le_of_ble_eq_true rfl, Nat.le_of_ble_eq_true rfl⟩) hS (fun q _ h => hFc q h) hFc (fun u_33 r_32 t H1 locs1 ht hvm hw hB hz1 hk1 hS => ?_)
          obtain ⟨v_33, cap_33, f_33⟩ := u_33
          obtain ⟨hw1, hB⟩ := hB
          have hw1 : r_32 = q_3 := hw1
          rw [hw1]
          have htx_33 : tx cap_33 (((((((0 + rDig (nu mm)) + 1) + (sbL (kd mm)).length) + 1) + rDig (td mm)) + (sbL 7).length) + (sbL 8).length) f_33 (((((((([]) ++ dgs (nu mm)) ++ [32]) ++ sbL (kd mm)) ++ [32]) ++ dgs (td mm)) ++ sbL 7) ++ sbL 8) := hw
          obtain ⟨hP, hD⟩ := aft (wr := []) (w1 := [(q_3, .inr (0, [.ref v_33, .int 0, .int 0, .int (nI (((((((0 + rDig (nu mm)) + 1) + (sbL (kd mm)).length) + 1) + rDig (td mm)) + (sbL 7).length) + (sbL 8).length))])), (v_33, .inl (cB, cap_33, .inl (ni f_33)))]) (w2 := [(q_3, .inr (0, [.ref v_33, .int 0, .int 0, .int (nI (((((((0 + rDig (nu mm)) + 1) + (sbL (kd mm)).length) + 1) + rDig (td mm)) + (sbL 7).length) + (sbL 8).length))])), (v_33, .inl (cB, cap_33, .inl (ni f_33)))]) hP hD [0, 1] [] [0, 1] rfl rfl (by decide) (by decide) hFc hk1 ht hB rfl (by decide) rfl
          clear hPc hDc hFc hk1 ht hB hz1 hvm
          generalize H1 = H at hP hS ⊢
          have hP : va_P D vwCl [(q_3, .inr (0, [.ref v_33, .int 0, .int 0, .int (nI (((((((0 + rDig (nu mm)) + 1) + (sbL (kd mm)).length) + 1) + rDig (td mm)) + (sbL 7).length) + (sbL 8).length))])), (v_33, .inl (cB, cap_33, .inl (ni f_33)))] H := hP
          have hD : va_D A [(q_3, .inr (0, [.ref v_33, .int 0, .int 0, .int (nI (((((((0 + rDig (nu mm)) + 1) + (sbL (kd mm)).length) + 1) + rDig (td mm)) + (sbL 7).length) + (sbL 8).length))])), (v_33, .inl (cB, cap_33, .inl (ni f_33)))] := hD
          refine lv_pop hx hb dX0_textOf_94 rfl ?_
          refine lv_aload_n hx hb dX0_textOf_95 rfl (lv_at hl 0 rfl) ?_
          refine W.widen (k := 3) (n := 54) (Nat.le_of_ble_eq_true rfl) (Nat.le_of_ble_eq_true rfl) ?_
          have hP9 := hP.sub (ws' := [(q_3, .inr (0, [.ref v_33, .int 0, .int 0, .int (nI (((((((0 + rDig (nu mm)) + 1) + (sbL (kd mm)).length) + 1) + rDig (td mm)) + (sbL 7).length) + (sbL 8).length))])), (v_33, .inl (cB, cap_33, .inl (ni f_33)))]) [0, 1] rfl
          have hD9 := hD.sub (ws' := [(q_3, .inr (0, [.ref v_33, .int 0, .int 0, .int (nI (((((((0 + rDig (nu mm)) + 1) + (sbL (kd mm)).length) + 1) + rDig (td mm)) + (sbL 7).length) + (sbL 8).length))])), (v_33, .inl (cB, cap_33, .inl (ni f_33)))]) [0, 1] (by decide) rfl
          have eT : textM mm = ((((((([]) ++ dgs (nu mm)) ++ [32]) ++ sbL (kd mm)) ++ [32]) ++ dgs (td mm)) ++ sbL 7) ++ sbL 8 := by
            unfold textM
            rw [if_pos (show kd mm = 3 ∨ kd mm = 4 ∨ kd mm = 5 by omega), if_pos c_23, if_pos c_31]
            simp only [List.nil_append, List.append_nil, List.append_assoc]
          have eF : (textM mm).length = ((((((0 + rDig (nu mm)) + 1) + (sbL (kd mm)).length) + 1) + rDig (td mm)) + (sbL 7).length) + (sbL 8).length := by rw [eT]; exact htx_33.2.1.symm
          have hP9 : va_P D vwCl [(q_3, .inr (0, [.ref v_33, .int 0, .int 0, .int (nI ((textM mm).length))])), (v_33, .inl (cB, cap_33, .inl (ni f_33)))] H := by rw [eF]; exact hP9
          have hD9 : va_D A [(q_3, .inr (0, [.ref v_33, .int 0, .int 0, .int (nI ((textM mm).length))])), (v_33, .inl (cB, cap_33, .inl (ni f_33)))] := by rw [eF]; exact hD9
          exact W.aret (v := .ref q_3) hx hb hr (Or.inl ⟨_, rfl⟩) (Or.inr ⟨_, rfl⟩) (fun t ht hW => lfxn (v_33, cap_33, f_33) (by rw [eF, eT]; exact htx_33) hP9 hK hD9 hS ht hW) hS.2.2 dX0_textOf_96 hlocks
      · refine lv_aload_n hx hb dX0_textOf_72 rfl (lv_at hl 0 rfl) ?_
        refine va_ldcS hx hb hown (strK.R (q := (43, " D")) (haK 7 (by decide)) rfl) dX0_textOf_73 ?_
        have hPc := hP
        have hDc := hD
        have hFc := va_free (wc := [(q_3, .inr (0, [.ref v_21, .int 0, .int 0, .int (nI (((((0 + rDig (nu mm)) + 1) + (sbL (kd mm)).length) + 1) + rDig (td mm)))])), (v_21, .inl (cB, cap_21, .inl (ni f_21)))]) hD hS hA [0, 1] rfl
        refine va_callr (va_runV (As := [.ref (aK 7)]) (rest := []) ⟨hx, hb, hml, hown, hts⟩ (c_J4_append_15ec4 l D H.size cI cB q_3 v_21 cap_21 (((((0 + rDig (nu mm)) + 1) + (sbL (kd mm)).length) + 1) + rDig (td mm)) f_21 (((((([]) ++ dgs (nu mm)) ++ [32]) ++ sbL (kd mm)) ++ [32]) ++ dgs (td mm)) 7 (aK 7) htx_21 (by omega) (by omega)) (cwV 1 hts gX0_textOf_J4_append_15ec4 rfl rfl rfl (by decide +kernel) ⟨Nat.le_of_ble_eq_true rfl, Nat.le_of_ble_eq_true rfl⟩) ⟨pcsK_blind, va_recv hK hP (ci := 0) (q0 := 0) rfl rfl, (pcsK_pre (pcs_pre (fun h => h) hE hS hPc hK hDc hFc) (haK 7 (by omega)))⟩ rfl rfl hl.1 rfl (lv_room (Nat.le_of_ble_eq_true rfl)) dX0_textOf_75 ⟨Nat.le_of_ble_eq_true rfl, Nat.le_of_ble_eq_true rfl⟩) hS (fun q _ h => hFc q h) hFc (fun u_35 r_34 t H1 locs1 ht hvm hw hB hz1 hk1 hS => ?_)
        obtain ⟨v_35, cap_35, f_35⟩ := u_35
        obtain ⟨hw1, hB⟩ := hB
        have hw1 : r_34 = q_3 := hw1
        rw [hw1]
        have htx_35 : tx cap_35 ((((((0 + rDig (nu mm)) + 1) + (sbL (kd mm)).length) + 1) + rDig (td mm)) + (sbL 7).length) f_35 ((((((([]) ++ dgs (nu mm)) ++ [32]) ++ sbL (kd mm)) ++ [32]) ++ dgs (td mm)) ++ sbL 7) := hw
        obtain ⟨hP, hD⟩ := aft (wr := []) (w1 := [(q_3, .inr (0, [.ref v_35, .int 0, .int 0, .int (nI ((((((0 + rDig (nu mm)) + 1) + (sbL (kd mm)).length) + 1) + rDig (td mm)) + (sbL 7).length))])), (v_35, .inl (cB, cap_35, .inl (ni f_35)))]) (w2 := [(q_3, .inr (0, [.ref v_35, .int 0, .int 0, .int (nI ((((((0 + rDig (nu mm)) + 1) + (sbL (kd mm)).length) + 1) + rDig (td mm)) + (sbL 7).length))])), (v_35, .inl (cB, cap_35, .inl (ni f_35)))]) hP hD [0, 1] [] [0, 1] rfl rfl (by decide) (by decide) hFc hk1 ht hB rfl (by decide) rfl
        clear hPc hDc hFc hk1 ht hB hz1 hvm
        generalize H1 = H at hP hS ⊢
        have hP : va_P D vwCl [(q_3, .inr (0, [.ref v_35, .int 0, .int 0, .int (nI ((((((0 + rDig (nu mm)) + 1) + (sbL (kd mm)).length) + 1) + rDig (td mm)) + (sbL 7).length))])), (v_35, .inl (cB, cap_35, .inl (ni f_35)))] H := hP
        have hD : va_D A [(q_3, .inr (0, [.ref v_35, .int 0, .int 0, .int (nI ((((((0 + rDig (nu mm)) + 1) + (sbL (kd mm)).length) + 1) + rDig (td mm)) + (sbL 7).length))])), (v_35, .inl (cB, cap_35, .inl (ni f_35)))] := hD
        have hcp34 : cap_35 = 34 := by have h1 := htx_35.1; have h2 := htx_35.2.2.1; omega
        refine lv_pop hx hb dX0_textOf_78 rfl ?_
        refine lv_iload_n hx hb dX0_textOf_79 rfl (lv_at hl 2 rfl) ?_
        refine lv_ldc (v := 4194304) hx hb hown (hts (.constant RX0 45 4194304) (by decide +kernel)) dX0_textOf_80 ?_
        have hPc := hP.sub (ws' := []) [] rfl
        have hDc := hD.sub (ws' := []) [] (by decide) rfl
        have hFc := va_free (wc := []) hD hS hA [] rfl
        refine va_calli (va_runS (As := [.int (nI mm), .int 4194304]) (rest := []) ⟨hx, hb, hml, hown, hts⟩ (c_X0_isMarked_22 l D H.size cI mm) (va_cwS 2 hts gX0_textOf_X0_isMarked rfl rfl rfl (by decide +kernel) ⟨Nat.le_of_ble_eq_true rfl, Nat.le_of_ble_eq_true rfl⟩) ⟨pcs_blind, (pcs_pre (fun h => by cases h) hE hS hPc (hK.sub (tys' := [(cI, .int)]) [0] rfl) hDc hFc)⟩ rfl rfl hl.1 rfl (lv_room (Nat.le_of_ble_eq_true rfl)) dX0_textOf_82 ⟨Nat.le_of_ble_eq_true rfl, Nat.le_of_ble_eq_true rfl⟩) hS (fun q _ h => hFc q h) hFc (fun r_36 u t H1 locs1 ht hvm hw hB hz1 hk1 hS => ?_)
        have hw : r_36 = b2i (mm.testBit 22 = true) := hw
        subst hw
        obtain ⟨hP, hD⟩ := aft (wr := [(q_3, .inr (0, [.ref v_35, .int 0, .int 0, .int (nI ((((((0 + rDig (nu mm)) + 1) + (sbL (kd mm)).length) + 1) + rDig (td mm)) + (sbL 7).length))])), (v_35, .inl (cB, cap_35, .inl (ni f_35)))]) (w1 := []) (w2 := [(q_3, .inr (0, [.ref v_35, .int 0, .int 0, .int (nI ((((((0 + rDig (nu mm)) + 1) + (sbL (kd mm)).length) + 1) + rDig (td mm)) + (sbL 7).length))])), (v_35, .inl (cB, cap_35, .inl (ni f_35)))]) hP hD [] [0, 1] [0, 1] rfl rfl (by decide) (by decide) hFc hk1 ht hB rfl (by decide) rfl
        clear hPc hDc hFc hk1 ht hB hz1 hvm
        generalize H1 = H at hP hS ⊢
        have hP : va_P D vwCl [(q_3, .inr (0, [.ref v_35, .int 0, .int 0, .int (nI ((((((0 + rDig (nu mm)) + 1) + (sbL (kd mm)).length) + 1) + rDig (td mm)) + (sbL 7).length))])), (v_35, .inl (cB, cap_35, .inl (ni f_35)))] H := hP
        have hD : va_D A [(q_3, .inr (0, [.ref v_35, .int 0, .int 0, .int (nI ((((((0 + rDig (nu mm)) + 1) + (sbL (kd mm)).length) + 1) + rDig (td mm)) + (sbL 7).length))])), (v_35, .inl (cB, cap_35, .inl (ni f_35)))] := hD
        refine lv_if_eq (tgt := 95) hx hb dX0_textOf_85 (by decide) (fun c_37 => ?_) (fun c_37 => ?_)
        · replace c_37 := b2i_0.mp c_37
          refine lv_aload_n hx hb dX0_textOf_95 rfl (lv_at hl 0 rfl) ?_
          refine W.widen (k := 3) (n := 54) (Nat.le_of_ble_eq_true rfl) (Nat.le_of_ble_eq_true rfl) ?_
          have hP9 := hP.sub (ws' := [(q_3, .inr (0, [.ref v_35, .int 0, .int 0, .int (nI ((((((0 + rDig (nu mm)) + 1) + (sbL (kd mm)).length) + 1) + rDig (td mm)) + (sbL 7).length))])), (v_35, .inl (cB, cap_35, .inl (ni f_35)))]) [0, 1] rfl
          have hD9 := hD.sub (ws' := [(q_3, .inr (0, [.ref v_35, .int 0, .int 0, .int (nI ((((((0 + rDig (nu mm)) + 1) + (sbL (kd mm)).length) + 1) + rDig (td mm)) + (sbL 7).length))])), (v_35, .inl (cB, cap_35, .inl (ni f_35)))]) [0, 1] (by decide) rfl
          have eT : textM mm = (((((([]) ++ dgs (nu mm)) ++ [32]) ++ sbL (kd mm)) ++ [32]) ++ dgs (td mm)) ++ sbL 7 := by
            unfold textM
            rw [if_pos (show kd mm = 3 ∨ kd mm = 4 ∨ kd mm = 5 by omega), if_pos c_23, if_neg c_37]
            simp only [List.nil_append, List.append_nil, List.append_assoc]
          have eF : (textM mm).length = (((((0 + rDig (nu mm)) + 1) + (sbL (kd mm)).length) + 1) + rDig (td mm)) + (sbL 7).length := by rw [eT]; exact htx_35.2.1.symm
          have hP9 : va_P D vwCl [(q_3, .inr (0, [.ref v_35, .int 0, .int 0, .int (nI ((textM mm).length))])), (v_35, .inl (cB, cap_35, .inl (ni f_35)))] H := by rw [eF]; exact hP9
          have hD9 : va_D A [(q_3, .inr (0, [.ref v_35, .int 0, .int 0, .int (nI ((textM mm).length))])), (v_35, .inl (cB, cap_35, .inl (ni f_35)))] := by rw [eF]; exact hD9
          exact W.aret (v := .ref q_3) hx hb hr (Or.inl ⟨_, rfl⟩) (Or.inr ⟨_, rfl⟩) (fun t ht hW => lfxn (v_35, cap_35, f_35) (by rw [eF, eT]; exact htx_35) hP9 hK hD9 hS ht hW) hS.2.2 dX0_textOf_96 hlocks
        · replace c_37 := b2i_n.mp c_37
          refine lv_aload_n hx hb dX0_textOf_88 rfl (lv_at hl 0 rfl) ?_
          refine va_ldcS hx hb hown (strK.R (q := (46, " P")) (haK 8 (by decide)) rfl) dX0_textOf_89 ?_
          have hPc := hP
          have hDc := hD
          have hFc := va_free (wc := [(q_3, .inr (0, [.ref v_35, .int 0, .int 0, .int (nI ((((((0 + rDig (nu mm)) + 1) + (sbL (kd mm)).length) + 1) + rDig (td mm)) + (sbL 7).length))])), (v_35, .inl (cB, cap_35, .inl (ni f_35)))]) hD hS hA [0, 1] rfl
          refine va_callr (va_runV (As := [.ref (aK 8)]) (rest := []) ⟨hx, hb, hml, hown, hts⟩ (c_J4_appS_f l D H.size cI cB q_3 v_35 cap_35 ((((((0 + rDig (nu mm)) + 1) + (sbL (kd mm)).length) + 1) + rDig (td mm)) + (sbL 7).length) f_35 ((((((([]) ++ dgs (nu mm)) ++ [32]) ++ sbL (kd mm)) ++ [32]) ++ dgs (td mm)) ++ sbL 7) 8 (aK 8) htx_35 (by omega) (by omega)) (cwV 1 hts gX0_textOf_J4_append_15ec4 rfl rfl rfl (by decide +kernel) ⟨Nat.le_of_ble_eq_true rfl, Nat.le_of_ble_eq_true rfl⟩) ⟨pcsK_blind, va_recv hK hP (ci := 0) (q0 := 0) rfl rfl, (pcsK_pre (pcs_pre (fun h => h) hE hS hPc hK hDc hFc) (haK 8 (by omega)))⟩ rfl rfl hl.1 rfl (lv_room (Nat.le_of_ble_eq_true rfl)) dX0_textOf_91 ⟨Nat.le_of_ble_eq_true rfl, Nat.le_of_ble_eq_true rfl⟩) hS (fun q _ h => hFc q h) hFc (fun u_39 r_38 t H1 locs1 ht hvm hw hB hz1 hk1 hS => ?_)
          obtain ⟨v_39, cap_39, f_39⟩ := u_39
          obtain ⟨hw1, hB⟩ := hB
          have hw1 : r_38 = q_3 := hw1
          rw [hw1]
          have htx_39 : tx cap_39 (((((((0 + rDig (nu mm)) + 1) + (sbL (kd mm)).length) + 1) + rDig (td mm)) + (sbL 7).length) + (sbL 8).length) f_39 (((((((([]) ++ dgs (nu mm)) ++ [32]) ++ sbL (kd mm)) ++ [32]) ++ dgs (td mm)) ++ sbL 7) ++ sbL 8) := hw.1
          have hcp_39 : cap_39 = cap_35 := hw.2
          obtain ⟨hP, hD⟩ := aft (wr := []) (w1 := [(q_3, .inr (0, [.ref v_39, .int 0, .int 0, .int (nI (((((((0 + rDig (nu mm)) + 1) + (sbL (kd mm)).length) + 1) + rDig (td mm)) + (sbL 7).length) + (sbL 8).length))])), (v_39, .inl (cB, cap_39, .inl (ni f_39)))]) (w2 := [(q_3, .inr (0, [.ref v_39, .int 0, .int 0, .int (nI (((((((0 + rDig (nu mm)) + 1) + (sbL (kd mm)).length) + 1) + rDig (td mm)) + (sbL 7).length) + (sbL 8).length))])), (v_39, .inl (cB, cap_39, .inl (ni f_39)))]) hP hD [0, 1] [] [0, 1] rfl rfl (by decide) (by decide) hFc hk1 ht hB rfl (by decide) rfl
          clear hPc hDc hFc hk1 ht hB hz1 hvm
          generalize H1 = H at hP hS ⊢
          have hP : va_P D vwCl [(q_3, .inr (0, [.ref v_39, .int 0, .int 0, .int (nI (((((((0 + rDig (nu mm)) + 1) + (sbL (kd mm)).length) + 1) + rDig (td mm)) + (sbL 7).length) + (sbL 8).length))])), (v_39, .inl (cB, cap_39, .inl (ni f_39)))] H := hP
          have hD : va_D A [(q_3, .inr (0, [.ref v_39, .int 0, .int 0, .int (nI (((((((0 + rDig (nu mm)) + 1) + (sbL (kd mm)).length) + 1) + rDig (td mm)) + (sbL 7).length) + (sbL 8).length))])), (v_39, .inl (cB, cap_39, .inl (ni f_39)))] := hD
          refine lv_pop hx hb dX0_textOf_94 rfl ?_
          refine lv_aload_n hx hb dX0_textOf_95 rfl (lv_at hl 0 rfl) ?_
          refine W.widen (k := 3) (n := 54) (Nat.le_of_ble_eq_true rfl) (Nat.le_of_ble_eq_true rfl) ?_
          have hP9 := hP.sub (ws' := [(q_3, .inr (0, [.ref v_39, .int 0, .int 0, .int (nI (((((((0 + rDig (nu mm)) + 1) + (sbL (kd mm)).length) + 1) + rDig (td mm)) + (sbL 7).length) + (sbL 8).length))])), (v_39, .inl (cB, cap_39, .inl (ni f_39)))]) [0, 1] rfl
          have hD9 := hD.sub (ws' := [(q_3, .inr (0, [.ref v_39, .int 0, .int 0, .int (nI (((((((0 + rDig (nu mm)) + 1) + (sbL (kd mm)).length) + 1) + rDig (td mm)) + (sbL 7).length) + (sbL 8).length))])), (v_39, .inl (cB, cap_39, .inl (ni f_39)))]) [0, 1] (by decide) rfl
          have eT : textM mm = ((((((([]) ++ dgs (nu mm)) ++ [32]) ++ sbL (kd mm)) ++ [32]) ++ dgs (td mm)) ++ sbL 7) ++ sbL 8 := by
            unfold textM
            rw [if_pos (show kd mm = 3 ∨ kd mm = 4 ∨ kd mm = 5 by omega), if_pos c_23, if_pos c_37]
            simp only [List.nil_append, List.append_nil, List.append_assoc]
          have eF : (textM mm).length = ((((((0 + rDig (nu mm)) + 1) + (sbL (kd mm)).length) + 1) + rDig (td mm)) + (sbL 7).length) + (sbL 8).length := by rw [eT]; exact htx_39.2.1.symm
          have hP9 : va_P D vwCl [(q_3, .inr (0, [.ref v_39, .int 0, .int 0, .int (nI ((textM mm).length))])), (v_39, .inl (cB, cap_39, .inl (ni f_39)))] H := by rw [eF]; exact hP9
          have hD9 : va_D A [(q_3, .inr (0, [.ref v_39, .int 0, .int 0, .int (nI ((textM mm).length))])), (v_39, .inl (cB, cap_39, .inl (ni f_39)))] := by rw [eF]; exact hD9
          exact W.aret (v := .ref q_3) hx hb hr (Or.inl ⟨_, rfl⟩) (Or.inr ⟨_, rfl⟩) (fun t ht hW => lfxn (v_39, cap_39, f_39) (by rw [eF, eT]; exact htx_39) hP9 hK hD9 hS ht hW) hS.2.2 dX0_textOf_96 hlocks
  · replace c_15 : ¬ ((kd mm) = 3) := fun z => c_15 ((nI_eq (a := (kd mm)) (b := 3) (by omega) (by omega)).mpr z)
    refine lv_iload_n hx hb dX0_textOf_39 rfl (lv_at hl 1 rfl) ?_
    refine lv_iconst (v := 4) hx hb dX0_textOf_40 (by decide) ?_
    refine lv_icmp_eq (tgt := 49) hx hb dX0_textOf_41 (by decide) (fun c_40 => ?_) (fun c_40 => ?_)
    · replace c_40 : (kd mm) = 4 := (nI_eq (a := (kd mm)) (b := 4) (by omega) (by omega)).mp c_40
      refine lv_aload_n hx hb dX0_textOf_49 rfl (lv_at hl 0 rfl) ?_
      refine lv_bipush (v := 32) hx hb dX0_textOf_50 (by decide) ?_
      have hPc := hP
      have hDc := hD
      have hFc := va_free (wc := [(q_3, .inr (0, [.ref v_14, .int 0, .int 0, .int (nI (((0 + rDig (nu mm)) + 1) + (sbL (kd mm)).length))])), (v_14, .inl (cB, cap_14, .inl (ni f_14)))]) hD hS hA [0, 1] rfl
      refine va_callr (va_runV (As := [.int 32]) (rest := []) ⟨hx, hb, hml, hown, hts⟩ (c_J4_appC_f l D H.size cI cB q_3 v_14 cap_14 (((0 + rDig (nu mm)) + 1) + (sbL (kd mm)).length) f_14 (((([]) ++ dgs (nu mm)) ++ [32]) ++ sbL (kd mm)) 32 htx_14 (by omega) (by omega)) (cwV 1 hts gX0_textOf_J4_append_cf468 rfl rfl rfl (by decide +kernel) ⟨Nat.le_of_ble_eq_true rfl, Nat.le_of_ble_eq_true rfl⟩) ⟨pcs_blind, va_recv hK hP (ci := 0) (q0 := 0) rfl rfl, (pcs_pre (fun h => h) hE hS hPc hK hDc hFc)⟩ rfl rfl hl.1 rfl (lv_room (Nat.le_of_ble_eq_true rfl)) dX0_textOf_52 ⟨Nat.le_of_ble_eq_true rfl, Nat.le_of_ble_eq_true rfl⟩) hS (fun q _ h => hFc q h) hFc (fun u_42 r_41 t H1 locs1 ht hvm hw hB hz1 hk1 hS => ?_)
      obtain ⟨v_42, cap_42, f_42⟩ := u_42
      obtain ⟨hw1, hB⟩ := hB
      have hw1 : r_41 = q_3 := hw1
      rw [hw1]
      have htx_42 : tx cap_42 ((((0 + rDig (nu mm)) + 1) + (sbL (kd mm)).length) + 1) f_42 ((((([]) ++ dgs (nu mm)) ++ [32]) ++ sbL (kd mm)) ++ [32]) := hw.1
      have hcp_42 : cap_42 = cap_14 := hw.2
      obtain ⟨hP, hD⟩ := aft (wr := []) (w1 := [(q_3, .inr (0, [.ref v_42, .int 0, .int 0, .int (nI ((((0 + rDig (nu mm)) + 1) + (sbL (kd mm)).length) + 1))])), (v_42, .inl (cB, cap_42, .inl (ni f_42)))]) (w2 := [(q_3, .inr (0, [.ref v_42, .int 0, .int 0, .int (nI ((((0 + rDig (nu mm)) + 1) + (sbL (kd mm)).length) + 1))])), (v_42, .inl (cB, cap_42, .inl (ni f_42)))]) hP hD [0, 1] [] [0, 1] rfl rfl (by decide) (by decide) hFc hk1 ht hB rfl (by decide) rfl
      clear hPc hDc hFc hk1 ht hB hz1 hvm
      generalize H1 = H at hP hS ⊢
      have hP : va_P D vwCl [(q_3, .inr (0, [.ref v_42, .int 0, .int 0, .int (nI ((((0 + rDig (nu mm)) + 1) + (sbL (kd mm)).length) + 1))])), (v_42, .inl (cB, cap_42, .inl (ni f_42)))] H := hP
      have hD : va_D A [(q_3, .inr (0, [.ref v_42, .int 0, .int 0, .int (nI ((((0 + rDig (nu mm)) + 1) + (sbL (kd mm)).length) + 1))])), (v_42, .inl (cB, cap_42, .inl (ni f_42)))] := hD
      refine lv_iload_n hx hb dX0_textOf_55 rfl (lv_at hl 2 rfl) ?_
      have hPc := hP.sub (ws' := []) [] rfl
      have hDc := hD.sub (ws' := []) [] (by decide) rfl
      have hFc := va_free (wc := []) hD hS hA [] rfl
      refine va_calli (va_runS (As := [.int (nI mm)]) (rest := [.ref q_3]) ⟨hx, hb, hml, hown, hts⟩ (c_X0_toldBy l D H.size cI mm (by omega)) (va_cwS 1 hts gX0_textOf_X0_toldBy rfl rfl rfl (by decide +kernel) ⟨Nat.le_of_ble_eq_true rfl, Nat.le_of_ble_eq_true rfl⟩) ⟨pcs_blind, (pcs_pre (fun h => by cases h) hE hS hPc (hK.sub (tys' := [(cI, .int)]) [0] rfl) hDc hFc)⟩ rfl rfl hl.1 rfl (lv_room (Nat.le_of_ble_eq_true rfl)) dX0_textOf_56 ⟨Nat.le_of_ble_eq_true rfl, Nat.le_of_ble_eq_true rfl⟩) hS (fun q _ h => hFc q h) hFc (fun r_43 u t H1 locs1 ht hvm hw hB hz1 hk1 hS => ?_)
      have hw : r_43 = nI (td mm) := hw
      subst hw
      obtain ⟨hP, hD⟩ := aft (wr := [(q_3, .inr (0, [.ref v_42, .int 0, .int 0, .int (nI ((((0 + rDig (nu mm)) + 1) + (sbL (kd mm)).length) + 1))])), (v_42, .inl (cB, cap_42, .inl (ni f_42)))]) (w1 := []) (w2 := [(q_3, .inr (0, [.ref v_42, .int 0, .int 0, .int (nI ((((0 + rDig (nu mm)) + 1) + (sbL (kd mm)).length) + 1))])), (v_42, .inl (cB, cap_42, .inl (ni f_42)))]) hP hD [] [0, 1] [0, 1] rfl rfl (by decide) (by decide) hFc hk1 ht hB rfl (by decide) rfl
      clear hPc hDc hFc hk1 ht hB hz1 hvm
      generalize H1 = H at hP hS ⊢
      have hP : va_P D vwCl [(q_3, .inr (0, [.ref v_42, .int 0, .int 0, .int (nI ((((0 + rDig (nu mm)) + 1) + (sbL (kd mm)).length) + 1))])), (v_42, .inl (cB, cap_42, .inl (ni f_42)))] H := hP
      have hD : va_D A [(q_3, .inr (0, [.ref v_42, .int 0, .int 0, .int (nI ((((0 + rDig (nu mm)) + 1) + (sbL (kd mm)).length) + 1))])), (v_42, .inl (cB, cap_42, .inl (ni f_42)))] := hD
      have hf_44 : td mm < 1024 := td_lt _
      have hPc := hP
      have hDc := hD
      have hFc := va_free (wc := [(q_3, .inr (0, [.ref v_42, .int 0, .int 0, .int (nI ((((0 + rDig (nu mm)) + 1) + (sbL (kd mm)).length) + 1))])), (v_42, .inl (cB, cap_42, .inl (ni f_42)))]) hD hS hA [0, 1] rfl
      refine va_callr (va_runV (As := [.int (nI (td mm))]) (rest := []) ⟨hx, hb, hml, hown, hts⟩ (c_J4_appI_f l D H.size cI cB q_3 v_42 cap_42 ((((0 + rDig (nu mm)) + 1) + (sbL (kd mm)).length) + 1) f_42 ((((([]) ++ dgs (nu mm)) ++ [32]) ++ sbL (kd mm)) ++ [32]) (td mm) htx_42 (by omega) (by omega)) (cwV 1 hts gX0_textOf_J4_append_bf812 rfl rfl rfl (by decide +kernel) ⟨Nat.le_of_ble_eq_true rfl, Nat.le_of_ble_eq_true rfl⟩) ⟨pcs_blind, va_recv hK hP (ci := 0) (q0 := 0) rfl rfl, (pcs_pre (fun h => h) hE hS hPc hK hDc hFc)⟩ rfl rfl hl.1 rfl (lv_room (Nat.le_of_ble_eq_true rfl)) dX0_textOf_59 ⟨Nat.le_of_ble_eq_true rfl, Nat.le_of_ble_eq_true rfl⟩) hS (fun q _ h => hFc q h) hFc (fun u_46 r_45 t H1 locs1 ht hvm hw hB hz1 hk1 hS => ?_)
      obtain ⟨v_46, cap_46, f_46⟩ := u_46
      obtain ⟨hw1, hB⟩ := hB
      have hw1 : r_45 = q_3 := hw1
      rw [hw1]
      have htx_46 : tx cap_46 (((((0 + rDig (nu mm)) + 1) + (sbL (kd mm)).length) + 1) + rDig (td mm)) f_46 (((((([]) ++ dgs (nu mm)) ++ [32]) ++ sbL (kd mm)) ++ [32]) ++ dgs (td mm)) := hw.1
      have hcp_46 : cap_46 = cap_42 := hw.2
      obtain ⟨hP, hD⟩ := aft (wr := []) (w1 := [(q_3, .inr (0, [.ref v_46, .int 0, .int 0, .int (nI (((((0 + rDig (nu mm)) + 1) + (sbL (kd mm)).length) + 1) + rDig (td mm)))])), (v_46, .inl (cB, cap_46, .inl (ni f_46)))]) (w2 := [(q_3, .inr (0, [.ref v_46, .int 0, .int 0, .int (nI (((((0 + rDig (nu mm)) + 1) + (sbL (kd mm)).length) + 1) + rDig (td mm)))])), (v_46, .inl (cB, cap_46, .inl (ni f_46)))]) hP hD [0, 1] [] [0, 1] rfl rfl (by decide) (by decide) hFc hk1 ht hB rfl (by decide) rfl
      clear hPc hDc hFc hk1 ht hB hz1 hvm
      generalize H1 = H at hP hS ⊢
      have hP : va_P D vwCl [(q_3, .inr (0, [.ref v_46, .int 0, .int 0, .int (nI (((((0 + rDig (nu mm)) + 1) + (sbL (kd mm)).length) + 1) + rDig (td mm)))])), (v_46, .inl (cB, cap_46, .inl (ni f_46)))] H := hP
      have hD : va_D A [(q_3, .inr (0, [.ref v_46, .int 0, .int 0, .int (nI (((((0 + rDig (nu mm)) + 1) + (sbL (kd mm)).length) + 1) + rDig (td mm)))])), (v_46, .inl (cB, cap_46, .inl (ni f_46)))] := hD
      refine lv_pop hx hb dX0_textOf_62 rfl ?_
      refine lv_iload_n hx hb dX0_textOf_63 rfl (lv_at hl 2 rfl) ?_
      refine lv_ldc (v := 2097152) hx hb hown (hts (.constant RX0 38 2097152) (by decide +kernel)) dX0_textOf_64 ?_
      have hPc := hP.sub (ws' := []) [] rfl
      have hDc := hD.sub (ws' := []) [] (by decide) rfl
      have hFc := va_free (wc := []) hD hS hA [] rfl
      refine va_calli (va_runS (As := [.int (nI mm), .int 2097152]) (rest := []) ⟨hx, hb, hml, hown, hts⟩ (c_X0_isMarked_21 l D H.size cI mm) (va_cwS 2 hts gX0_textOf_X0_isMarked rfl rfl rfl (by decide +kernel) ⟨Nat.le_of_ble_eq_true rfl, Nat.le_of_ble_eq_true rfl⟩) ⟨pcs_blind, (pcs_pre (fun h => by cases h) hE hS hPc (hK.sub (tys' := [(cI, .int)]) [0] rfl) hDc hFc)⟩ rfl rfl hl.1 rfl (lv_room (Nat.le_of_ble_eq_true rfl)) dX0_textOf_66 ⟨Nat.le_of_ble_eq_true rfl, Nat.le_of_ble_eq_true rfl⟩) hS (fun q _ h => hFc q h) hFc (fun r_47 u t H1 locs1 ht hvm hw hB hz1 hk1 hS => ?_)
      have hw : r_47 = b2i (mm.testBit 21 = true) := hw
      subst hw
      obtain ⟨hP, hD⟩ := aft (wr := [(q_3, .inr (0, [.ref v_46, .int 0, .int 0, .int (nI (((((0 + rDig (nu mm)) + 1) + (sbL (kd mm)).length) + 1) + rDig (td mm)))])), (v_46, .inl (cB, cap_46, .inl (ni f_46)))]) (w1 := []) (w2 := [(q_3, .inr (0, [.ref v_46, .int 0, .int 0, .int (nI (((((0 + rDig (nu mm)) + 1) + (sbL (kd mm)).length) + 1) + rDig (td mm)))])), (v_46, .inl (cB, cap_46, .inl (ni f_46)))]) hP hD [] [0, 1] [0, 1] rfl rfl (by decide) (by decide) hFc hk1 ht hB rfl (by decide) rfl
      clear hPc hDc hFc hk1 ht hB hz1 hvm
      generalize H1 = H at hP hS ⊢
      have hP : va_P D vwCl [(q_3, .inr (0, [.ref v_46, .int 0, .int 0, .int (nI (((((0 + rDig (nu mm)) + 1) + (sbL (kd mm)).length) + 1) + rDig (td mm)))])), (v_46, .inl (cB, cap_46, .inl (ni f_46)))] H := hP
      have hD : va_D A [(q_3, .inr (0, [.ref v_46, .int 0, .int 0, .int (nI (((((0 + rDig (nu mm)) + 1) + (sbL (kd mm)).length) + 1) + rDig (td mm)))])), (v_46, .inl (cB, cap_46, .inl (ni f_46)))] := hD
      refine lv_if_eq (tgt := 79) hx hb dX0_textOf_69 (by decide) (fun c_48 => ?_) (fun c_48 => ?_)
      · replace c_48 := b2i_0.mp c_48
        refine lv_iload_n hx hb dX0_textOf_79 rfl (lv_at hl 2 rfl) ?_
        refine lv_ldc (v := 4194304) hx hb hown (hts (.constant RX0 45 4194304) (by decide +kernel)) dX0_textOf_80 ?_
        have hPc := hP.sub (ws' := []) [] rfl
        have hDc := hD.sub (ws' := []) [] (by decide) rfl
        have hFc := va_free (wc := []) hD hS hA [] rfl
        refine va_calli (va_runS (As := [.int (nI mm), .int 4194304]) (rest := []) ⟨hx, hb, hml, hown, hts⟩ (c_X0_isMarked_22 l D H.size cI mm) (va_cwS 2 hts gX0_textOf_X0_isMarked rfl rfl rfl (by decide +kernel) ⟨Nat.le_of_ble_eq_true rfl, Nat.le_of_ble_eq_true rfl⟩) ⟨pcs_blind, (pcs_pre (fun h => by cases h) hE hS hPc (hK.sub (tys' := [(cI, .int)]) [0] rfl) hDc hFc)⟩ rfl rfl hl.1 rfl (lv_room (Nat.le_of_ble_eq_true rfl)) dX0_textOf_82 ⟨Nat.le_of_ble_eq_true rfl, Nat.le_of_ble_eq_true rfl⟩) hS (fun q _ h => hFc q h) hFc (fun r_49 u t H1 locs1 ht hvm hw hB hz1 hk1 hS => ?_)
        have hw : r_49 = b2i (mm.testBit 22 = true) := hw
        subst hw
        obtain ⟨hP, hD⟩ := aft (wr := [(q_3, .inr (0, [.ref v_46, .int 0, .int 0, .int (nI (((((0 + rDig (nu mm)) + 1) + (sbL (kd mm)).length) + 1) + rDig (td mm)))])), (v_46, .inl (cB, cap_46, .inl (ni f_46)))]) (w1 := []) (w2 := [(q_3, .inr (0, [.ref v_46, .int 0, .int 0, .int (nI (((((0 + rDig (nu mm)) + 1) + (sbL (kd mm)).length) + 1) + rDig (td mm)))])), (v_46, .inl (cB, cap_46, .inl (ni f_46)))]) hP hD [] [0, 1] [0, 1] rfl rfl (by decide) (by decide) hFc hk1 ht hB rfl (by decide) rfl
        clear hPc hDc hFc hk1 ht hB hz1 hvm
        generalize H1 = H at hP hS ⊢
        have hP : va_P D vwCl [(q_3, .inr (0, [.ref v_46, .int 0, .int 0, .int (nI (((((0 + rDig (nu mm)) + 1) + (sbL (kd mm)).length) + 1) + rDig (td mm)))])), (v_46, .inl (cB, cap_46, .inl (ni f_46)))] H := hP
        have hD : va_D A [(q_3, .inr (0, [.ref v_46, .int 0, .int 0, .int (nI (((((0 + rDig (nu mm)) + 1) + (sbL (kd mm)).length) + 1) + rDig (td mm)))])), (v_46, .inl (cB, cap_46, .inl (ni f_46)))] := hD
        refine lv_if_eq (tgt := 95) hx hb dX0_textOf_85 (by decide) (fun c_50 => ?_) (fun c_50 => ?_)
        · replace c_50 := b2i_0.mp c_50
          refine lv_aload_n hx hb dX0_textOf_95 rfl (lv_at hl 0 rfl) ?_
          refine W.widen (k := 3) (n := 54) (Nat.le_of_ble_eq_true rfl) (Nat.le_of_ble_eq_true rfl) ?_
          have hP9 := hP.sub (ws' := [(q_3, .inr (0, [.ref v_46, .int 0, .int 0, .int (nI (((((0 + rDig (nu mm)) + 1) + (sbL (kd mm)).length) + 1) + rDig (td mm)))])), (v_46, .inl (cB, cap_46, .inl (ni f_46)))]) [0, 1] rfl
          have hD9 := hD.sub (ws' := [(q_3, .inr (0, [.ref v_46, .int 0, .int 0, .int (nI (((((0 + rDig (nu mm)) + 1) + (sbL (kd mm)).length) + 1) + rDig (td mm)))])), (v_46, .inl (cB, cap_46, .inl (ni f_46)))]) [0, 1] (by decide) rfl
          have eT : textM mm = ((((([]) ++ dgs (nu mm)) ++ [32]) ++ sbL (kd mm)) ++ [32]) ++ dgs (td mm) := by
            unfold textM
            rw [if_pos (show kd mm = 3 ∨ kd mm = 4 ∨ kd mm = 5 by omega), if_neg c_48, if_neg c_50]
            simp only [List.nil_append, List.append_nil, List.append_assoc]
          have eF : (textM mm).length = ((((0 + rDig (nu mm)) + 1) + (sbL (kd mm)).length) + 1) + rDig (td mm) := by rw [eT]; exact htx_46.2.1.symm
          have hP9 : va_P D vwCl [(q_3, .inr (0, [.ref v_46, .int 0, .int 0, .int (nI ((textM mm).length))])), (v_46, .inl (cB, cap_46, .inl (ni f_46)))] H := by rw [eF]; exact hP9
          have hD9 : va_D A [(q_3, .inr (0, [.ref v_46, .int 0, .int 0, .int (nI ((textM mm).length))])), (v_46, .inl (cB, cap_46, .inl (ni f_46)))] := by rw [eF]; exact hD9
          exact W.aret (v := .ref q_3) hx hb hr (Or.inl ⟨_, rfl⟩) (Or.inr ⟨_, rfl⟩) (fun t ht hW => lfxn (v_46, cap_46, f_46) (by rw [eF, eT]; exact htx_46) hP9 hK hD9 hS ht hW) hS.2.2 dX0_textOf_96 hlocks
        · replace c_50 := b2i_n.mp c_50
          refine lv_aload_n hx hb dX0_textOf_88 rfl (lv_at hl 0 rfl) ?_
          refine va_ldcS hx hb hown (strK.R (q := (46, " P")) (haK 8 (by decide)) rfl) dX0_textOf_89 ?_
          have hPc := hP
          have hDc := hD
          have hFc := va_free (wc := [(q_3, .inr (0, [.ref v_46, .int 0, .int 0, .int (nI (((((0 + rDig (nu mm)) + 1) + (sbL (kd mm)).length) + 1) + rDig (td mm)))])), (v_46, .inl (cB, cap_46, .inl (ni f_46)))]) hD hS hA [0, 1] rfl
          refine va_callr (va_runV (As := [.ref (aK 8)]) (rest := []) ⟨hx, hb, hml, hown, hts⟩ (c_J4_append_15ec4 l D H.size cI cB q_3 v_46 cap_46 (((((0 + rDig (nu mm)) + 1) + (sbL (kd mm)).length) + 1) + rDig (td mm)) f_46 (((((([]) ++ dgs (nu mm)) ++ [32]) ++ sbL (kd mm)) ++ [32]) ++ dgs (td mm)) 8 (aK 8) htx_46 (by omega) (by omega)) (cwV 1 hts gX0_textOf_J4_append_15ec4 rfl rfl rfl (by decide +kernel) ⟨Nat.le_of_ble_eq_true rfl, Nat.le_of_ble_eq_true rfl⟩) ⟨pcsK_blind, va_recv hK hP (ci := 0) (q0 := 0) rfl rfl, (pcsK_pre (pcs_pre (fun h => h) hE hS hPc hK hDc hFc) (haK 8 (by omega)))⟩ rfl rfl hl.1 rfl (lv_room (Nat.le_of_ble_eq_true rfl)) dX0_textOf_91 ⟨Nat.le_of_ble_eq_true rfl, Nat.le_of_ble_eq_true rfl⟩) hS (fun q _ h => hFc q h) hFc (fun u_52 r_51 t H1 locs1 ht hvm hw hB hz1 hk1 hS => ?_)
          obtain ⟨v_52, cap_52, f_52⟩ := u_52
          obtain ⟨hw1, hB⟩ := hB
          have hw1 : r_51 = q_3 := hw1
          rw [hw1]
          have htx_52 : tx cap_52 ((((((0 + rDig (nu mm)) + 1) + (sbL (kd mm)).length) + 1) + rDig (td mm)) + (sbL 8).length) f_52 ((((((([]) ++ dgs (nu mm)) ++ [32]) ++ sbL (kd mm)) ++ [32]) ++ dgs (td mm)) ++ sbL 8) := hw
          obtain ⟨hP, hD⟩ := aft (wr := []) (w1 := [(q_3, .inr (0, [.ref v_52, .int 0, .int 0, .int (nI ((((((0 + rDig (nu mm)) + 1) + (sbL (kd mm)).length) + 1) + rDig (td mm)) + (sbL 8).length))])), (v_52, .inl (cB, cap_52, .inl (ni f_52)))]) (w2 := [(q_3, .inr (0, [.ref v_52, .int 0, .int 0, .int (nI ((((((0 + rDig (nu mm)) + 1) + (sbL (kd mm)).length) + 1) + rDig (td mm)) + (sbL 8).length))])), (v_52, .inl (cB, cap_52, .inl (ni f_52)))]) hP hD [0, 1] [] [0, 1] rfl rfl (by decide) (by decide) hFc hk1 ht hB rfl (by decide) rfl
          clear hPc hDc hFc hk1 ht hB hz1 hvm
          generalize H1 = H at hP hS ⊢
          have hP : va_P D vwCl [(q_3, .inr (0, [.ref v_52, .int 0, .int 0, .int (nI ((((((0 + rDig (nu mm)) + 1) + (sbL (kd mm)).length) + 1) + rDig (td mm)) + (sbL 8).length))])), (v_52, .inl (cB, cap_52, .inl (ni f_52)))] H := hP
          have hD : va_D A [(q_3, .inr (0, [.ref v_52, .int 0, .int 0, .int (nI ((((((0 + rDig (nu mm)) + 1) + (sbL (kd mm)).length) + 1) + rDig (td mm)) + (sbL 8).length))])), (v_52, .inl (cB, cap_52, .inl (ni f_52)))] := hD
          refine lv_pop hx hb dX0_textOf_94 rfl ?_
          refine lv_aload_n hx hb dX0_textOf_95 rfl (lv_at hl 0 rfl) ?_
          refine W.widen (k := 3) (n := 54) (Nat.le_of_ble_eq_true rfl) (Nat.le_of_ble_eq_true rfl) ?_
          have hP9 := hP.sub (ws' := [(q_3, .inr (0, [.ref v_52, .int 0, .int 0, .int (nI ((((((0 + rDig (nu mm)) + 1) + (sbL (kd mm)).length) + 1) + rDig (td mm)) + (sbL 8).length))])), (v_52, .inl (cB, cap_52, .inl (ni f_52)))]) [0, 1] rfl
          have hD9 := hD.sub (ws' := [(q_3, .inr (0, [.ref v_52, .int 0, .int 0, .int (nI ((((((0 + rDig (nu mm)) + 1) + (sbL (kd mm)).length) + 1) + rDig (td mm)) + (sbL 8).length))])), (v_52, .inl (cB, cap_52, .inl (ni f_52)))]) [0, 1] (by decide) rfl
          have eT : textM mm = (((((([]) ++ dgs (nu mm)) ++ [32]) ++ sbL (kd mm)) ++ [32]) ++ dgs (td mm)) ++ sbL 8 := by
            unfold textM
            rw [if_pos (show kd mm = 3 ∨ kd mm = 4 ∨ kd mm = 5 by omega), if_neg c_48, if_pos c_50]
            simp only [List.nil_append, List.append_nil, List.append_assoc]
          have eF : (textM mm).length = (((((0 + rDig (nu mm)) + 1) + (sbL (kd mm)).length) + 1) + rDig (td mm)) + (sbL 8).length := by rw [eT]; exact htx_52.2.1.symm
          have hP9 : va_P D vwCl [(q_3, .inr (0, [.ref v_52, .int 0, .int 0, .int (nI ((textM mm).length))])), (v_52, .inl (cB, cap_52, .inl (ni f_52)))] H := by rw [eF]; exact hP9
          have hD9 : va_D A [(q_3, .inr (0, [.ref v_52, .int 0, .int 0, .int (nI ((textM mm).length))])), (v_52, .inl (cB, cap_52, .inl (ni f_52)))] := by rw [eF]; exact hD9
          exact W.aret (v := .ref q_3) hx hb hr (Or.inl ⟨_, rfl⟩) (Or.inr ⟨_, rfl⟩) (fun t ht hW => lfxn (v_52, cap_52, f_52) (by rw [eF, eT]; exact htx_52) hP9 hK hD9 hS ht hW) hS.2.2 dX0_textOf_96 hlocks
      · replace c_48 := b2i_n.mp c_48
        by_cases hfD : (((((0 + rDig (nu mm)) + 1) + (sbL (kd mm)).length) + 1) + rDig (td mm)) + 2 ≤ 16
        · refine lv_aload_n hx hb dX0_textOf_72 rfl (lv_at hl 0 rfl) ?_
          refine va_ldcS hx hb hown (strK.R (q := (43, " D")) (haK 7 (by decide)) rfl) dX0_textOf_73 ?_
          have hPc := hP
          have hDc := hD
          have hFc := va_free (wc := [(q_3, .inr (0, [.ref v_46, .int 0, .int 0, .int (nI (((((0 + rDig (nu mm)) + 1) + (sbL (kd mm)).length) + 1) + rDig (td mm)))])), (v_46, .inl (cB, cap_46, .inl (ni f_46)))]) hD hS hA [0, 1] rfl
          refine va_callr (va_runV (As := [.ref (aK 7)]) (rest := []) ⟨hx, hb, hml, hown, hts⟩ (c_J4_appS_f l D H.size cI cB q_3 v_46 cap_46 (((((0 + rDig (nu mm)) + 1) + (sbL (kd mm)).length) + 1) + rDig (td mm)) f_46 (((((([]) ++ dgs (nu mm)) ++ [32]) ++ sbL (kd mm)) ++ [32]) ++ dgs (td mm)) 7 (aK 7) htx_46 (by omega) (by omega)) (cwV 1 hts gX0_textOf_J4_append_15ec4 rfl rfl rfl (by decide +kernel) ⟨Nat.le_of_ble_eq_true rfl, Nat.le_of_ble_eq_true rfl⟩) ⟨pcsK_blind, va_recv hK hP (ci := 0) (q0 := 0) rfl rfl, (pcsK_pre (pcs_pre (fun h => h) hE hS hPc hK hDc hFc) (haK 7 (by omega)))⟩ rfl rfl hl.1 rfl (lv_room (Nat.le_of_ble_eq_true rfl)) dX0_textOf_75 ⟨Nat.le_of_ble_eq_true rfl, Nat.le_of_ble_eq_true rfl⟩) hS (fun q _ h => hFc q h) hFc (fun u_54 r_53 t H1 locs1 ht hvm hw hB hz1 hk1 hS => ?_)
          obtain ⟨v_54, cap_54, f_54⟩ := u_54
          obtain ⟨hw1, hB⟩ := hB
          have hw1 : r_53 = q_3 := hw1
          rw [hw1]
          have htx_54 : tx cap_54 ((((((0 + rDig (nu mm)) + 1) + (sbL (kd mm)).length) + 1) + rDig (td mm)) + (sbL 7).length) f_54 ((((((([]) ++ dgs (nu mm)) ++ [32]) ++ sbL (kd mm)) ++ [32]) ++ dgs (td mm)) ++ sbL 7) := hw.1
          have hcp_54 : cap_54 = cap_46 := hw.2
          obtain ⟨hP, hD⟩ := aft (wr := []) (w1 := [(q_3, .inr (0, [.ref v_54, .int 0, .int 0, .int (nI ((((((0 + rDig (nu mm)) + 1) + (sbL (kd mm)).length) + 1) + rDig (td mm)) + (sbL 7).length))])), (v_54, .inl (cB, cap_54, .inl (ni f_54)))]) (w2 := [(q_3, .inr (0, [.ref v_54, .int 0, .int 0, .int (nI ((((((0 + rDig (nu mm)) + 1) + (sbL (kd mm)).length) + 1) + rDig (td mm)) + (sbL 7).length))])), (v_54, .inl (cB, cap_54, .inl (ni f_54)))]) hP hD [0, 1] [] [0, 1] rfl rfl (by decide) (by decide) hFc hk1 ht hB rfl (by decide) rfl
          clear hPc hDc hFc hk1 ht hB hz1 hvm
          generalize H1 = H at hP hS ⊢
          have hP : va_P D vwCl [(q_3, .inr (0, [.ref v_54, .int 0, .int 0, .int (nI ((((((0 + rDig (nu mm)) + 1) + (sbL (kd mm)).length) + 1) + rDig (td mm)) + (sbL 7).length))])), (v_54, .inl (cB, cap_54, .inl (ni f_54)))] H := hP
          have hD : va_D A [(q_3, .inr (0, [.ref v_54, .int 0, .int 0, .int (nI ((((((0 + rDig (nu mm)) + 1) + (sbL (kd mm)).length) + 1) + rDig (td mm)) + (sbL 7).length))])), (v_54, .inl (cB, cap_54, .inl (ni f_54)))] := hD
          refine lv_pop hx hb dX0_textOf_78 rfl ?_
          refine lv_iload_n hx hb dX0_textOf_79 rfl (lv_at hl 2 rfl) ?_
          refine lv_ldc (v := 4194304) hx hb hown (hts (.constant RX0 45 4194304) (by decide +kernel)) dX0_textOf_80 ?_
          have hPc := hP.sub (ws' := []) [] rfl
          have hDc := hD.sub (ws' := []) [] (by decide) rfl
          have hFc := va_free (wc := []) hD hS hA [] rfl
          refine va_calli (va_runS (As := [.int (nI mm), .int 4194304]) (rest := []) ⟨hx, hb, hml, hown, hts⟩ (c_X0_isMarked_22 l D H.size cI mm) (va_cwS 2 hts gX0_textOf_X0_isMarked rfl rfl rfl (by decide +kernel) ⟨Nat.le_of_ble_eq_true rfl, Nat.le_of_ble_eq_true rfl⟩) ⟨pcs_blind, (pcs_pre (fun h => by cases h) hE hS hPc (hK.sub (tys' := [(cI, .int)]) [0] rfl) hDc hFc)⟩ rfl rfl hl.1 rfl (lv_room (Nat.le_of_ble_eq_true rfl)) dX0_textOf_82 ⟨Nat.le_of_ble_eq_true rfl, Nat.le_of_ble_eq_true rfl⟩) hS (fun q _ h => hFc q h) hFc (fun r_55 u t H1 locs1 ht hvm hw hB hz1 hk1 hS => ?_)
          have hw : r_55 = b2i (mm.testBit 22 = true) := hw
          subst hw
          obtain ⟨hP, hD⟩ := aft (wr := [(q_3, .inr (0, [.ref v_54, .int 0, .int 0, .int (nI ((((((0 + rDig (nu mm)) + 1) + (sbL (kd mm)).length) + 1) + rDig (td mm)) + (sbL 7).length))])), (v_54, .inl (cB, cap_54, .inl (ni f_54)))]) (w1 := []) (w2 := [(q_3, .inr (0, [.ref v_54, .int 0, .int 0, .int (nI ((((((0 + rDig (nu mm)) + 1) + (sbL (kd mm)).length) + 1) + rDig (td mm)) + (sbL 7).length))])), (v_54, .inl (cB, cap_54, .inl (ni f_54)))]) hP hD [] [0, 1] [0, 1] rfl rfl (by decide) (by decide) hFc hk1 ht hB rfl (by decide) rfl
          clear hPc hDc hFc hk1 ht hB hz1 hvm
          generalize H1 = H at hP hS ⊢
          have hP : va_P D vwCl [(q_3, .inr (0, [.ref v_54, .int 0, .int 0, .int (nI ((((((0 + rDig (nu mm)) + 1) + (sbL (kd mm)).length) + 1) + rDig (td mm)) + (sbL 7).length))])), (v_54, .inl (cB, cap_54, .inl (ni f_54)))] H := hP
          have hD : va_D A [(q_3, .inr (0, [.ref v_54, .int 0, .int 0, .int (nI ((((((0 + rDig (nu mm)) + 1) + (sbL (kd mm)).length) + 1) + rDig (td mm)) + (sbL 7).length))])), (v_54, .inl (cB, cap_54, .inl (ni f_54)))] := hD
          refine lv_if_eq (tgt := 95) hx hb dX0_textOf_85 (by decide) (fun c_56 => ?_) (fun c_56 => ?_)
          · replace c_56 := b2i_0.mp c_56
            refine lv_aload_n hx hb dX0_textOf_95 rfl (lv_at hl 0 rfl) ?_
            refine W.widen (k := 3) (n := 54) (Nat.le_of_ble_eq_true rfl) (Nat.le_of_ble_eq_true rfl) ?_
            have hP9 := hP.sub (ws' := [(q_3, .inr (0, [.ref v_54, .int 0, .int 0, .int (nI ((((((0 + rDig (nu mm)) + 1) + (sbL (kd mm)).length) + 1) + rDig (td mm)) + (sbL 7).length))])), (v_54, .inl (cB, cap_54, .inl (ni f_54)))]) [0, 1] rfl
            have hD9 := hD.sub (ws' := [(q_3, .inr (0, [.ref v_54, .int 0, .int 0, .int (nI ((((((0 + rDig (nu mm)) + 1) + (sbL (kd mm)).length) + 1) + rDig (td mm)) + (sbL 7).length))])), (v_54, .inl (cB, cap_54, .inl (ni f_54)))]) [0, 1] (by decide) rfl
            have eT : textM mm = (((((([]) ++ dgs (nu mm)) ++ [32]) ++ sbL (kd mm)) ++ [32]) ++ dgs (td mm)) ++ sbL 7 := by
              unfold textM
              rw [if_pos (show kd mm = 3 ∨ kd mm = 4 ∨ kd mm = 5 by omega), if_pos c_48, if_neg c_56]
              simp only [List.nil_append, List.append_nil, List.append_assoc]
            have eF : (textM mm).length = (((((0 + rDig (nu mm)) + 1) + (sbL (kd mm)).length) + 1) + rDig (td mm)) + (sbL 7).length := by rw [eT]; exact htx_54.2.1.symm
            have hP9 : va_P D vwCl [(q_3, .inr (0, [.ref v_54, .int 0, .int 0, .int (nI ((textM mm).length))])), (v_54, .inl (cB, cap_54, .inl (ni f_54)))] H := by rw [eF]; exact hP9
            have hD9 : va_D A [(q_3, .inr (0, [.ref v_54, .int 0, .int 0, .int (nI ((textM mm).length))])), (v_54, .inl (cB, cap_54, .inl (ni f_54)))] := by rw [eF]; exact hD9
            exact W.aret (v := .ref q_3) hx hb hr (Or.inl ⟨_, rfl⟩) (Or.inr ⟨_, rfl⟩) (fun t ht hW => lfxn (v_54, cap_54, f_54) (by rw [eF, eT]; exact htx_54) hP9 hK hD9 hS ht hW) hS.2.2 dX0_textOf_96 hlocks
          · replace c_56 := b2i_n.mp c_56
            refine lv_aload_n hx hb dX0_textOf_88 rfl (lv_at hl 0 rfl) ?_
            refine va_ldcS hx hb hown (strK.R (q := (46, " P")) (haK 8 (by decide)) rfl) dX0_textOf_89 ?_
            have hPc := hP
            have hDc := hD
            have hFc := va_free (wc := [(q_3, .inr (0, [.ref v_54, .int 0, .int 0, .int (nI ((((((0 + rDig (nu mm)) + 1) + (sbL (kd mm)).length) + 1) + rDig (td mm)) + (sbL 7).length))])), (v_54, .inl (cB, cap_54, .inl (ni f_54)))]) hD hS hA [0, 1] rfl
            refine va_callr (va_runV (As := [.ref (aK 8)]) (rest := []) ⟨hx, hb, hml, hown, hts⟩ (c_J4_append_15ec4 l D H.size cI cB q_3 v_54 cap_54 ((((((0 + rDig (nu mm)) + 1) + (sbL (kd mm)).length) + 1) + rDig (td mm)) + (sbL 7).length) f_54 ((((((([]) ++ dgs (nu mm)) ++ [32]) ++ sbL (kd mm)) ++ [32]) ++ dgs (td mm)) ++ sbL 7) 8 (aK 8) htx_54 (by omega) (by omega)) (cwV 1 hts gX0_textOf_J4_append_15ec4 rfl rfl rfl (by decide +kernel) ⟨Nat.le_of_ble_eq_true rfl, Nat.le_of_ble_eq_true rfl⟩) ⟨pcsK_blind, va_recv hK hP (ci := 0) (q0 := 0) rfl rfl, (pcsK_pre (pcs_pre (fun h => h) hE hS hPc hK hDc hFc) (haK 8 (by omega)))⟩ rfl rfl hl.1 rfl (lv_room (Nat.le_of_ble_eq_true rfl)) dX0_textOf_91 ⟨Nat.le_of_ble_eq_true rfl, Nat.le_of_ble_eq_true rfl⟩) hS (fun q _ h => hFc q h) hFc (fun u_58 r_57 t H1 locs1 ht hvm hw hB hz1 hk1 hS => ?_)
            obtain ⟨v_58, cap_58, f_58⟩ := u_58
            obtain ⟨hw1, hB⟩ := hB
            have hw1 : r_57 = q_3 := hw1
            rw [hw1]
            have htx_58 : tx cap_58 (((((((0 + rDig (nu mm)) + 1) + (sbL (kd mm)).length) + 1) + rDig (td mm)) + (sbL 7).length) + (sbL 8).length) f_58 (((((((([]) ++ dgs (nu mm)) ++ [32]) ++ sbL (kd mm)) ++ [32]) ++ dgs (td mm)) ++ sbL 7) ++ sbL 8) := hw
            obtain ⟨hP, hD⟩ := aft (wr := []) (w1 := [(q_3, .inr (0, [.ref v_58, .int 0, .int 0, .int (nI (((((((0 + rDig (nu mm)) + 1) + (sbL (kd mm)).length) + 1) + rDig (td mm)) + (sbL 7).length) + (sbL 8).length))])), (v_58, .inl (cB, cap_58, .inl (ni f_58)))]) (w2 := [(q_3, .inr (0, [.ref v_58, .int 0, .int 0, .int (nI (((((((0 + rDig (nu mm)) + 1) + (sbL (kd mm)).length) + 1) + rDig (td mm)) + (sbL 7).length) + (sbL 8).length))])), (v_58, .inl (cB, cap_58, .inl (ni f_58)))]) hP hD [0, 1] [] [0, 1] rfl rfl (by decide) (by decide) hFc hk1 ht hB rfl (by decide) rfl
            clear hPc hDc hFc hk1 ht hB hz1 hvm
            generalize H1 = H at hP hS ⊢
            have hP : va_P D vwCl [(q_3, .inr (0, [.ref v_58, .int 0, .int 0, .int (nI (((((((0 + rDig (nu mm)) + 1) + (sbL (kd mm)).length) + 1) + rDig (td mm)) + (sbL 7).length) + (sbL 8).length))])), (v_58, .inl (cB, cap_58, .inl (ni f_58)))] H := hP
            have hD : va_D A [(q_3, .inr (0, [.ref v_58, .int 0, .int 0, .int (nI (((((((0 + rDig (nu mm)) + 1) + (sbL (kd mm)).length) + 1) + rDig (td mm)) + (sbL 7).length) + (sbL 8).length))])), (v_58, .inl (cB, cap_58, .inl (ni f_58)))] := hD
            refine lv_pop hx hb dX0_textOf_94 rfl ?_
            refine lv_aload_n hx hb dX0_textOf_95 rfl (lv_at hl 0 rfl) ?_
            refine W.widen (k := 3) (n := 54) (Nat.le_of_ble_eq_true rfl) (Nat.le_of_ble_eq_true rfl) ?_
            have hP9 := hP.sub (ws' := [(q_3, .inr (0, [.ref v_58, .int 0, .int 0, .int (nI (((((((0 + rDig (nu mm)) + 1) + (sbL (kd mm)).length) + 1) + rDig (td mm)) + (sbL 7).length) + (sbL 8).length))])), (v_58, .inl (cB, cap_58, .inl (ni f_58)))]) [0, 1] rfl
            have hD9 := hD.sub (ws' := [(q_3, .inr (0, [.ref v_58, .int 0, .int 0, .int (nI (((((((0 + rDig (nu mm)) + 1) + (sbL (kd mm)).length) + 1) + rDig (td mm)) + (sbL 7).length) + (sbL 8).length))])), (v_58, .inl (cB, cap_58, .inl (ni f_58)))]) [0, 1] (by decide) rfl
            have eT : textM mm = ((((((([]) ++ dgs (nu mm)) ++ [32]) ++ sbL (kd mm)) ++ [32]) ++ dgs (td mm)) ++ sbL 7) ++ sbL 8 := by
              unfold textM
              rw [if_pos (show kd mm = 3 ∨ kd mm = 4 ∨ kd mm = 5 by omega), if_pos c_48, if_pos c_56]
              simp only [List.nil_append, List.append_nil, List.append_assoc]
            have eF : (textM mm).length = ((((((0 + rDig (nu mm)) + 1) + (sbL (kd mm)).length) + 1) + rDig (td mm)) + (sbL 7).length) + (sbL 8).length := by rw [eT]; exact htx_58.2.1.symm
            have hP9 : va_P D vwCl [(q_3, .inr (0, [.ref v_58, .int 0, .int 0, .int (nI ((textM mm).length))])), (v_58, .inl (cB, cap_58, .inl (ni f_58)))] H := by rw [eF]; exact hP9
            have hD9 : va_D A [(q_3, .inr (0, [.ref v_58, .int 0, .int 0, .int (nI ((textM mm).length))])), (v_58, .inl (cB, cap_58, .inl (ni f_58)))] := by rw [eF]; exact hD9
            exact W.aret (v := .ref q_3) hx hb hr (Or.inl ⟨_, rfl⟩) (Or.inr ⟨_, rfl⟩) (fun t ht hW => lfxn (v_58, cap_58, f_58) (by rw [eF, eT]; exact htx_58) hP9 hK hD9 hS ht hW) hS.2.2 dX0_textOf_96 hlocks
        · refine lv_aload_n hx hb dX0_textOf_72 rfl (lv_at hl 0 rfl) ?_
          refine va_ldcS hx hb hown (strK.R (q := (43, " D")) (haK 7 (by decide)) rfl) dX0_textOf_73 ?_
          have hPc := hP
          have hDc := hD
          have hFc := va_free (wc := [(q_3, .inr (0, [.ref v_46, .int 0, .int 0, .int (nI (((((0 + rDig (nu mm)) + 1) + (sbL (kd mm)).length) + 1) + rDig (td mm)))])), (v_46, .inl (cB, cap_46, .inl (ni f_46)))]) hD hS hA [0, 1] rfl
          refine va_callr (va_runV (As := [.ref (aK 7)]) (rest := []) ⟨hx, hb, hml, hown, hts⟩ (c_J4_append_15ec4 l D H.size cI cB q_3 v_46 cap_46 (((((0 + rDig (nu mm)) + 1) + (sbL (kd mm)).length) + 1) + rDig (td mm)) f_46 (((((([]) ++ dgs (nu mm)) ++ [32]) ++ sbL (kd mm)) ++ [32]) ++ dgs (td mm)) 7 (aK 7) htx_46 (by omega) (by omega)) (cwV 1 hts gX0_textOf_J4_append_15ec4 rfl rfl rfl (by decide +kernel) ⟨Nat.le_of_ble_eq_true rfl, Nat.le_of_ble_eq_true rfl⟩) ⟨pcsK_blind, va_recv hK hP (ci := 0) (q0 := 0) rfl rfl, (pcsK_pre (pcs_pre (fun h => h) hE hS hPc hK hDc hFc) (haK 7 (by omega)))⟩ rfl rfl hl.1 rfl (lv_room (Nat.le_of_ble_eq_true rfl)) dX0_textOf_75 ⟨Nat.le_of_ble_eq_true rfl, Nat.le_of_ble_eq_true rfl⟩) hS (fun q _ h => hFc q h) hFc (fun u_60 r_59 t H1 locs1 ht hvm hw hB hz1 hk1 hS => ?_)
          obtain ⟨v_60, cap_60, f_60⟩ := u_60
          obtain ⟨hw1, hB⟩ := hB
          have hw1 : r_59 = q_3 := hw1
          rw [hw1]
          have htx_60 : tx cap_60 ((((((0 + rDig (nu mm)) + 1) + (sbL (kd mm)).length) + 1) + rDig (td mm)) + (sbL 7).length) f_60 ((((((([]) ++ dgs (nu mm)) ++ [32]) ++ sbL (kd mm)) ++ [32]) ++ dgs (td mm)) ++ sbL 7) := hw
          obtain ⟨hP, hD⟩ := aft (wr := []) (w1 := [(q_3, .inr (0, [.ref v_60, .int 0, .int 0, .int (nI ((((((0 + rDig (nu mm)) + 1) + (sbL (kd mm)).length) + 1) + rDig (td mm)) + (sbL 7).length))])), (v_60, .inl (cB, cap_60, .inl (ni f_60)))]) (w2 := [(q_3, .inr (0, [.ref v_60, .int 0, .int 0, .int (nI ((((((0 + rDig (nu mm)) + 1) + (sbL (kd mm)).length) + 1) + rDig (td mm)) + (sbL 7).length))])), (v_60, .inl (cB, cap_60, .inl (ni f_60)))]) hP hD [0, 1] [] [0, 1] rfl rfl (by decide) (by decide) hFc hk1 ht hB rfl (by decide) rfl
          clear hPc hDc hFc hk1 ht hB hz1 hvm
          generalize H1 = H at hP hS ⊢
          have hP : va_P D vwCl [(q_3, .inr (0, [.ref v_60, .int 0, .int 0, .int (nI ((((((0 + rDig (nu mm)) + 1) + (sbL (kd mm)).length) + 1) + rDig (td mm)) + (sbL 7).length))])), (v_60, .inl (cB, cap_60, .inl (ni f_60)))] H := hP
          have hD : va_D A [(q_3, .inr (0, [.ref v_60, .int 0, .int 0, .int (nI ((((((0 + rDig (nu mm)) + 1) + (sbL (kd mm)).length) + 1) + rDig (td mm)) + (sbL 7).length))])), (v_60, .inl (cB, cap_60, .inl (ni f_60)))] := hD
          have hcp34 : cap_60 = 34 := by have h1 := htx_60.1; have h2 := htx_60.2.2.1; omega
          refine lv_pop hx hb dX0_textOf_78 rfl ?_
          refine lv_iload_n hx hb dX0_textOf_79 rfl (lv_at hl 2 rfl) ?_
          refine lv_ldc (v := 4194304) hx hb hown (hts (.constant RX0 45 4194304) (by decide +kernel)) dX0_textOf_80 ?_
          have hPc := hP.sub (ws' := []) [] rfl
          have hDc := hD.sub (ws' := []) [] (by decide) rfl
          have hFc := va_free (wc := []) hD hS hA [] rfl
          refine va_calli (va_runS (As := [.int (nI mm), .int 4194304]) (rest := []) ⟨hx, hb, hml, hown, hts⟩ (c_X0_isMarked_22 l D H.size cI mm) (va_cwS 2 hts gX0_textOf_X0_isMarked rfl rfl rfl (by decide +kernel) ⟨Nat.le_of_ble_eq_true rfl, Nat.le_of_ble_eq_true rfl⟩) ⟨pcs_blind, (pcs_pre (fun h => by cases h) hE hS hPc (hK.sub (tys' := [(cI, .int)]) [0] rfl) hDc hFc)⟩ rfl rfl hl.1 rfl (lv_room (Nat.le_of_ble_eq_true rfl)) dX0_textOf_82 ⟨Nat.le_of_ble_eq_true rfl, Nat.le_of_ble_eq_true rfl⟩) hS (fun q _ h => hFc q h) hFc (fun r_61 u t H1 locs1 ht hvm hw hB hz1 hk1 hS => ?_)
          have hw : r_61 = b2i (mm.testBit 22 = true) := hw
          subst hw
          obtain ⟨hP, hD⟩ := aft (wr := [(q_3, .inr (0, [.ref v_60, .int 0, .int 0, .int (nI ((((((0 + rDig (nu mm)) + 1) + (sbL (kd mm)).length) + 1) + rDig (td mm)) + (sbL 7).length))])), (v_60, .inl (cB, cap_60, .inl (ni f_60)))]) (w1 := []) (w2 := [(q_3, .inr (0, [.ref v_60, .int 0, .int 0, .int (nI ((((((0 + rDig (nu mm)) + 1) + (sbL (kd mm)).length) + 1) + rDig (td mm)) + (sbL 7).length))])), (v_60, .inl (cB, cap_60, .inl (ni f_60)))]) hP hD [] [0, 1] [0, 1] rfl rfl (by decide) (by decide) hFc hk1 ht hB rfl (by decide) rfl
          clear hPc hDc hFc hk1 ht hB hz1 hvm
          generalize H1 = H at hP hS ⊢
          have hP : va_P D vwCl [(q_3, .inr (0, [.ref v_60, .int 0, .int 0, .int (nI ((((((0 + rDig (nu mm)) + 1) + (sbL (kd mm)).length) + 1) + rDig (td mm)) + (sbL 7).length))])), (v_60, .inl (cB, cap_60, .inl (ni f_60)))] H := hP
          have hD : va_D A [(q_3, .inr (0, [.ref v_60, .int 0, .int 0, .int (nI ((((((0 + rDig (nu mm)) + 1) + (sbL (kd mm)).length) + 1) + rDig (td mm)) + (sbL 7).length))])), (v_60, .inl (cB, cap_60, .inl (ni f_60)))] := hD
          refine lv_if_eq (tgt := 95) hx hb dX0_textOf_85 (by decide) (fun c_62 => ?_) (fun c_62 => ?_)
          · replace c_62 := b2i_0.mp c_62
            refine lv_aload_n hx hb dX0_textOf_95 rfl (lv_at hl 0 rfl) ?_
            refine W.widen (k := 3) (n := 54) (Nat.le_of_ble_eq_true rfl) (Nat.le_of_ble_eq_true rfl) ?_
            have hP9 := hP.sub (ws' := [(q_3, .inr (0, [.ref v_60, .int 0, .int 0, .int (nI ((((((0 + rDig (nu mm)) + 1) + (sbL (kd mm)).length) + 1) + rDig (td mm)) + (sbL 7).length))])), (v_60, .inl (cB, cap_60, .inl (ni f_60)))]) [0, 1] rfl
            have hD9 := hD.sub (ws' := [(q_3, .inr (0, [.ref v_60, .int 0, .int 0, .int (nI ((((((0 + rDig (nu mm)) + 1) + (sbL (kd mm)).length) + 1) + rDig (td mm)) + (sbL 7).length))])), (v_60, .inl (cB, cap_60, .inl (ni f_60)))]) [0, 1] (by decide) rfl
            have eT : textM mm = (((((([]) ++ dgs (nu mm)) ++ [32]) ++ sbL (kd mm)) ++ [32]) ++ dgs (td mm)) ++ sbL 7 := by
              unfold textM
              rw [if_pos (show kd mm = 3 ∨ kd mm = 4 ∨ kd mm = 5 by omega), if_pos c_48, if_neg c_62]
              simp only [List.nil_append, List.append_nil, List.append_assoc]
            have eF : (textM mm).length = (((((0 + rDig (nu mm)) + 1) + (sbL (kd mm)).length) + 1) + rDig (td mm)) + (sbL 7).length := by rw [eT]; exact htx_60.2.1.symm
            have hP9 : va_P D vwCl [(q_3, .inr (0, [.ref v_60, .int 0, .int 0, .int (nI ((textM mm).length))])), (v_60, .inl (cB, cap_60, .inl (ni f_60)))] H := by rw [eF]; exact hP9
            have hD9 : va_D A [(q_3, .inr (0, [.ref v_60, .int 0, .int 0, .int (nI ((textM mm).length))])), (v_60, .inl (cB, cap_60, .inl (ni f_60)))] := by rw [eF]; exact hD9
            exact W.aret (v := .ref q_3) hx hb hr (Or.inl ⟨_, rfl⟩) (Or.inr ⟨_, rfl⟩) (fun t ht hW => lfxn (v_60, cap_60, f_60) (by rw [eF, eT]; exact htx_60) hP9 hK hD9 hS ht hW) hS.2.2 dX0_textOf_96 hlocks
          · replace c_62 := b2i_n.mp c_62
            refine lv_aload_n hx hb dX0_textOf_88 rfl (lv_at hl 0 rfl) ?_
            refine va_ldcS hx hb hown (strK.R (q := (46, " P")) (haK 8 (by decide)) rfl) dX0_textOf_89 ?_
            have hPc := hP
            have hDc := hD
            have hFc := va_free (wc := [(q_3, .inr (0, [.ref v_60, .int 0, .int 0, .int (nI ((((((0 + rDig (nu mm)) + 1) + (sbL (kd mm)).length) + 1) + rDig (td mm)) + (sbL 7).length))])), (v_60, .inl (cB, cap_60, .inl (ni f_60)))]) hD hS hA [0, 1] rfl
            refine va_callr (va_runV (As := [.ref (aK 8)]) (rest := []) ⟨hx, hb, hml, hown, hts⟩ (c_J4_appS_f l D H.size cI cB q_3 v_60 cap_60 ((((((0 + rDig (nu mm)) + 1) + (sbL (kd mm)).length) + 1) + rDig (td mm)) + (sbL 7).length) f_60 ((((((([]) ++ dgs (nu mm)) ++ [32]) ++ sbL (kd mm)) ++ [32]) ++ dgs (td mm)) ++ sbL 7) 8 (aK 8) htx_60 (by omega) (by omega)) (cwV 1 hts gX0_textOf_J4_append_15ec4 rfl rfl rfl (by decide +kernel) ⟨Nat.le_of_ble_eq_true rfl, Nat.le_of_ble_eq_true rfl⟩) ⟨pcsK_blind, va_recv hK hP (ci := 0) (q0 := 0) rfl rfl, (pcsK_pre (pcs_pre (fun h => h) hE hS hPc hK hDc hFc) (haK 8 (by omega)))⟩ rfl rfl hl.1 rfl (lv_room (Nat.le_of_ble_eq_true rfl)) dX0_textOf_91 ⟨Nat.le_of_ble_eq_true rfl, Nat.le_of_ble_eq_true rfl⟩) hS (fun q _ h => hFc q h) hFc (fun u_64 r_63 t H1 locs1 ht hvm hw hB hz1 hk1 hS => ?_)
            obtain ⟨v_64, cap_64, f_64⟩ := u_64
            obtain ⟨hw1, hB⟩ := hB
            have hw1 : r_63 = q_3 := hw1
            rw [hw1]
            have htx_64 : tx cap_64 (((((((0 + rDig (nu mm)) + 1) + (sbL (kd mm)).length) + 1) + rDig (td mm)) + (sbL 7).length) + (sbL 8).length) f_64 (((((((([]) ++ dgs (nu mm)) ++ [32]) ++ sbL (kd mm)) ++ [32]) ++ dgs (td mm)) ++ sbL 7) ++ sbL 8) := hw.1
            have hcp_64 : cap_64 = cap_60 := hw.2
            obtain ⟨hP, hD⟩ := aft (wr := []) (w1 := [(q_3, .inr (0, [.ref v_64, .int 0, .int 0, .int (nI (((((((0 + rDig (nu mm)) + 1) + (sbL (kd mm)).length) + 1) + rDig (td mm)) + (sbL 7).length) + (sbL 8).length))])), (v_64, .inl (cB, cap_64, .inl (ni f_64)))]) (w2 := [(q_3, .inr (0, [.ref v_64, .int 0, .int 0, .int (nI (((((((0 + rDig (nu mm)) + 1) + (sbL (kd mm)).length) + 1) + rDig (td mm)) + (sbL 7).length) + (sbL 8).length))])), (v_64, .inl (cB, cap_64, .inl (ni f_64)))]) hP hD [0, 1] [] [0, 1] rfl rfl (by decide) (by decide) hFc hk1 ht hB rfl (by decide) rfl
            clear hPc hDc hFc hk1 ht hB hz1 hvm
            generalize H1 = H at hP hS ⊢
            have hP : va_P D vwCl [(q_3, .inr (0, [.ref v_64, .int 0, .int 0, .int (nI (((((((0 + rDig (nu mm)) + 1) + (sbL (kd mm)).length) + 1) + rDig (td mm)) + (sbL 7).length) + (sbL 8).length))])), (v_64, .inl (cB, cap_64, .inl (ni f_64)))] H := hP
            have hD : va_D A [(q_3, .inr (0, [.ref v_64, .int 0, .int 0, .int (nI (((((((0 + rDig (nu mm)) + 1) + (sbL (kd mm)).length) + 1) + rDig (td mm)) + (sbL 7).length) + (sbL 8).length))])), (v_64, .inl (cB, cap_64, .inl (ni f_64)))] := hD
            refine lv_pop hx hb dX0_textOf_94 rfl ?_
            refine lv_aload_n hx hb dX0_textOf_95 rfl (lv_at hl 0 rfl) ?_
            refine W.widen (k := 3) (n := 54) (Nat.le_of_ble_eq_true rfl) (Nat.le_of_ble_eq_true rfl) ?_
            have hP9 := hP.sub (ws' := [(q_3, .inr (0, [.ref v_64, .int 0, .int 0, .int (nI (((((((0 + rDig (nu mm)) + 1) + (sbL (kd mm)).length) + 1) + rDig (td mm)) + (sbL 7).length) + (sbL 8).length))])), (v_64, .inl (cB, cap_64, .inl (ni f_64)))]) [0, 1] rfl
            have hD9 := hD.sub (ws' := [(q_3, .inr (0, [.ref v_64, .int 0, .int 0, .int (nI (((((((0 + rDig (nu mm)) + 1) + (sbL (kd mm)).length) + 1) + rDig (td mm)) + (sbL 7).length) + (sbL 8).length))])), (v_64, .inl (cB, cap_64, .inl (ni f_64)))]) [0, 1] (by decide) rfl
            have eT : textM mm = ((((((([]) ++ dgs (nu mm)) ++ [32]) ++ sbL (kd mm)) ++ [32]) ++ dgs (td mm)) ++ sbL 7) ++ sbL 8 := by
              unfold textM
              rw [if_pos (show kd mm = 3 ∨ kd mm = 4 ∨ kd mm = 5 by omega), if_pos c_48, if_pos c_62]
              simp only [List.nil_append, List.append_nil, List.append_assoc]
            have eF : (textM mm).length = ((((((0 + rDig (nu mm)) + 1) + (sbL (kd mm)).length) + 1) + rDig (td mm)) + (sbL 7).length) + (sbL 8).length := by rw [eT]; exact htx_64.2.1.symm
            have hP9 : va_P D vwCl [(q_3, .inr (0, [.ref v_64, .int 0, .int 0, .int (nI ((textM mm).length))])), (v_64, .inl (cB, cap_64, .inl (ni f_64)))] H := by rw [eF]; exact hP9
            have hD9 : va_D A [(q_3, .inr (0, [.ref v_64, .int 0, .int 0, .int (nI ((textM mm).length))])), (v_64, .inl (cB, cap_64, .inl (ni f_64)))] := by rw [eF]; exact hD9
            exact W.aret (v := .ref q_3) hx hb hr (Or.inl ⟨_, rfl⟩) (Or.inr ⟨_, rfl⟩) (fun t ht hW => lfxn (v_64, cap_64, f_64) (by rw [eF, eT]; exact htx_64) hP9 hK hD9 hS ht hW) hS.2.2 dX0_textOf_96 hlocks
    · replace c_40 : ¬ ((kd mm) = 4) := fun z => c_40 ((nI_eq (a := (kd mm)) (b := 4) (by omega) (by omega)).mpr z)
      refine lv_iload_n hx hb dX0_textOf_44 rfl (lv_at hl 1 rfl) ?_
      refine lv_iconst (v := 5) hx hb dX0_textOf_45 (by decide) ?_
      refine lv_icmp_ne (tgt := 63) hx hb dX0_textOf_46 (by decide) (fun c_65 => ?_) (fun c_65 => ?_)
      · replace c_65 : ¬ ((kd mm) = 5) := fun z => c_65 ((nI_eq (a := (kd mm)) (b := 5) (by omega) (by omega)).mpr z)
        refine lv_iload_n hx hb dX0_textOf_63 rfl (lv_at hl 2 rfl) ?_
        refine lv_ldc (v := 2097152) hx hb hown (hts (.constant RX0 38 2097152) (by decide +kernel)) dX0_textOf_64 ?_
        have hPc := hP.sub (ws' := []) [] rfl
        have hDc := hD.sub (ws' := []) [] (by decide) rfl
        have hFc := va_free (wc := []) hD hS hA [] rfl
        refine va_calli (va_runS (As := [.int (nI mm), .int 2097152]) (rest := []) ⟨hx, hb, hml, hown, hts⟩ (c_X0_isMarked_21 l D H.size cI mm) (va_cwS 2 hts gX0_textOf_X0_isMarked rfl rfl rfl (by decide +kernel) ⟨Nat.le_of_ble_eq_true rfl, Nat.le_of_ble_eq_true rfl⟩) ⟨pcs_blind, (pcs_pre (fun h => by cases h) hE hS hPc (hK.sub (tys' := [(cI, .int)]) [0] rfl) hDc hFc)⟩ rfl rfl hl.1 rfl (lv_room (Nat.le_of_ble_eq_true rfl)) dX0_textOf_66 ⟨Nat.le_of_ble_eq_true rfl, Nat.le_of_ble_eq_true rfl⟩) hS (fun q _ h => hFc q h) hFc (fun r_66 u t H1 locs1 ht hvm hw hB hz1 hk1 hS => ?_)
        have hw : r_66 = b2i (mm.testBit 21 = true) := hw
        subst hw
        obtain ⟨hP, hD⟩ := aft (wr := [(q_3, .inr (0, [.ref v_14, .int 0, .int 0, .int (nI (((0 + rDig (nu mm)) + 1) + (sbL (kd mm)).length))])), (v_14, .inl (cB, cap_14, .inl (ni f_14)))]) (w1 := []) (w2 := [(q_3, .inr (0, [.ref v_14, .int 0, .int 0, .int (nI (((0 + rDig (nu mm)) + 1) + (sbL (kd mm)).length))])), (v_14, .inl (cB, cap_14, .inl (ni f_14)))]) hP hD [] [0, 1] [0, 1] rfl rfl (by decide) (by decide) hFc hk1 ht hB rfl (by decide) rfl
        clear hPc hDc hFc hk1 ht hB hz1 hvm
        generalize H1 = H at hP hS ⊢
        have hP : va_P D vwCl [(q_3, .inr (0, [.ref v_14, .int 0, .int 0, .int (nI (((0 + rDig (nu mm)) + 1) + (sbL (kd mm)).length))])), (v_14, .inl (cB, cap_14, .inl (ni f_14)))] H := hP
        have hD : va_D A [(q_3, .inr (0, [.ref v_14, .int 0, .int 0, .int (nI (((0 + rDig (nu mm)) + 1) + (sbL (kd mm)).length))])), (v_14, .inl (cB, cap_14, .inl (ni f_14)))] := hD
        refine lv_if_eq (tgt := 79) hx hb dX0_textOf_69 (by decide) (fun c_67 => ?_) (fun c_67 => ?_)
        · replace c_67 := b2i_0.mp c_67
          refine lv_iload_n hx hb dX0_textOf_79 rfl (lv_at hl 2 rfl) ?_
          refine lv_ldc (v := 4194304) hx hb hown (hts (.constant RX0 45 4194304) (by decide +kernel)) dX0_textOf_80 ?_
          have hPc := hP.sub (ws' := []) [] rfl
          have hDc := hD.sub (ws' := []) [] (by decide) rfl
          have hFc := va_free (wc := []) hD hS hA [] rfl
          refine va_calli (va_runS (As := [.int (nI mm), .int 4194304]) (rest := []) ⟨hx, hb, hml, hown, hts⟩ (c_X0_isMarked_22 l D H.size cI mm) (va_cwS 2 hts gX0_textOf_X0_isMarked rfl rfl rfl (by decide +kernel) ⟨Nat.le_of_ble_eq_true rfl, Nat.le_of_ble_eq_true rfl⟩) ⟨pcs_blind, (pcs_pre (fun h => by cases h) hE hS hPc (hK.sub (tys' := [(cI, .int)]) [0] rfl) hDc hFc)⟩ rfl rfl hl.1 rfl (lv_room (Nat.le_of_ble_eq_true rfl)) dX0_textOf_82 ⟨Nat.le_of_ble_eq_true rfl, Nat.le_of_ble_eq_true rfl⟩) hS (fun q _ h => hFc q h) hFc (fun r_68 u t H1 locs1 ht hvm hw hB hz1 hk1 hS => ?_)
          have hw : r_68 = b2i (mm.testBit 22 = true) := hw
          subst hw
          obtain ⟨hP, hD⟩ := aft (wr := [(q_3, .inr (0, [.ref v_14, .int 0, .int 0, .int (nI (((0 + rDig (nu mm)) + 1) + (sbL (kd mm)).length))])), (v_14, .inl (cB, cap_14, .inl (ni f_14)))]) (w1 := []) (w2 := [(q_3, .inr (0, [.ref v_14, .int 0, .int 0, .int (nI (((0 + rDig (nu mm)) + 1) + (sbL (kd mm)).length))])), (v_14, .inl (cB, cap_14, .inl (ni f_14)))]) hP hD [] [0, 1] [0, 1] rfl rfl (by decide) (by decide) hFc hk1 ht hB rfl (by decide) rfl
          clear hPc hDc hFc hk1 ht hB hz1 hvm
          generalize H1 = H at hP hS ⊢
          have hP : va_P D vwCl [(q_3, .inr (0, [.ref v_14, .int 0, .int 0, .int (nI (((0 + rDig (nu mm)) + 1) + (sbL (kd mm)).length))])), (v_14, .inl (cB, cap_14, .inl (ni f_14)))] H := hP
          have hD : va_D A [(q_3, .inr (0, [.ref v_14, .int 0, .int 0, .int (nI (((0 + rDig (nu mm)) + 1) + (sbL (kd mm)).length))])), (v_14, .inl (cB, cap_14, .inl (ni f_14)))] := hD
          refine lv_if_eq (tgt := 95) hx hb dX0_textOf_85 (by decide) (fun c_69 => ?_) (fun c_69 => ?_)
          · replace c_69 := b2i_0.mp c_69
            refine lv_aload_n hx hb dX0_textOf_95 rfl (lv_at hl 0 rfl) ?_
            refine W.widen (k := 3) (n := 54) (Nat.le_of_ble_eq_true rfl) (Nat.le_of_ble_eq_true rfl) ?_
            have hP9 := hP.sub (ws' := [(q_3, .inr (0, [.ref v_14, .int 0, .int 0, .int (nI (((0 + rDig (nu mm)) + 1) + (sbL (kd mm)).length))])), (v_14, .inl (cB, cap_14, .inl (ni f_14)))]) [0, 1] rfl
            have hD9 := hD.sub (ws' := [(q_3, .inr (0, [.ref v_14, .int 0, .int 0, .int (nI (((0 + rDig (nu mm)) + 1) + (sbL (kd mm)).length))])), (v_14, .inl (cB, cap_14, .inl (ni f_14)))]) [0, 1] (by decide) rfl
            have eT : textM mm = ((([]) ++ dgs (nu mm)) ++ [32]) ++ sbL (kd mm) := by
              unfold textM
              rw [if_neg (show ¬ (kd mm = 3 ∨ kd mm = 4 ∨ kd mm = 5) by omega), if_neg c_67, if_neg c_69]
              simp only [List.nil_append, List.append_nil, List.append_assoc]
            have eF : (textM mm).length = ((0 + rDig (nu mm)) + 1) + (sbL (kd mm)).length := by rw [eT]; exact htx_14.2.1.symm
            have hP9 : va_P D vwCl [(q_3, .inr (0, [.ref v_14, .int 0, .int 0, .int (nI ((textM mm).length))])), (v_14, .inl (cB, cap_14, .inl (ni f_14)))] H := by rw [eF]; exact hP9
            have hD9 : va_D A [(q_3, .inr (0, [.ref v_14, .int 0, .int 0, .int (nI ((textM mm).length))])), (v_14, .inl (cB, cap_14, .inl (ni f_14)))] := by rw [eF]; exact hD9
            exact W.aret (v := .ref q_3) hx hb hr (Or.inl ⟨_, rfl⟩) (Or.inr ⟨_, rfl⟩) (fun t ht hW => lfxn (v_14, cap_14, f_14) (by rw [eF, eT]; exact htx_14) hP9 hK hD9 hS ht hW) hS.2.2 dX0_textOf_96 hlocks
          · replace c_69 := b2i_n.mp c_69
            refine lv_aload_n hx hb dX0_textOf_88 rfl (lv_at hl 0 rfl) ?_
            refine va_ldcS hx hb hown (strK.R (q := (46, " P")) (haK 8 (by decide)) rfl) dX0_textOf_89 ?_
            have hPc := hP
            have hDc := hD
            have hFc := va_free (wc := [(q_3, .inr (0, [.ref v_14, .int 0, .int 0, .int (nI (((0 + rDig (nu mm)) + 1) + (sbL (kd mm)).length))])), (v_14, .inl (cB, cap_14, .inl (ni f_14)))]) hD hS hA [0, 1] rfl
            refine va_callr (va_runV (As := [.ref (aK 8)]) (rest := []) ⟨hx, hb, hml, hown, hts⟩ (c_J4_append_15ec4 l D H.size cI cB q_3 v_14 cap_14 (((0 + rDig (nu mm)) + 1) + (sbL (kd mm)).length) f_14 (((([]) ++ dgs (nu mm)) ++ [32]) ++ sbL (kd mm)) 8 (aK 8) htx_14 (by omega) (by omega)) (cwV 1 hts gX0_textOf_J4_append_15ec4 rfl rfl rfl (by decide +kernel) ⟨Nat.le_of_ble_eq_true rfl, Nat.le_of_ble_eq_true rfl⟩) ⟨pcsK_blind, va_recv hK hP (ci := 0) (q0 := 0) rfl rfl, (pcsK_pre (pcs_pre (fun h => h) hE hS hPc hK hDc hFc) (haK 8 (by omega)))⟩ rfl rfl hl.1 rfl (lv_room (Nat.le_of_ble_eq_true rfl)) dX0_textOf_91 ⟨Nat.le_of_ble_eq_true rfl, Nat.le_of_ble_eq_true rfl⟩) hS (fun q _ h => hFc q h) hFc (fun u_71 r_70 t H1 locs1 ht hvm hw hB hz1 hk1 hS => ?_)
            obtain ⟨v_71, cap_71, f_71⟩ := u_71
            obtain ⟨hw1, hB⟩ := hB
            have hw1 : r_70 = q_3 := hw1
            rw [hw1]
            have htx_71 : tx cap_71 ((((0 + rDig (nu mm)) + 1) + (sbL (kd mm)).length) + (sbL 8).length) f_71 ((((([]) ++ dgs (nu mm)) ++ [32]) ++ sbL (kd mm)) ++ sbL 8) := hw
            obtain ⟨hP, hD⟩ := aft (wr := []) (w1 := [(q_3, .inr (0, [.ref v_71, .int 0, .int 0, .int (nI ((((0 + rDig (nu mm)) + 1) + (sbL (kd mm)).length) + (sbL 8).length))])), (v_71, .inl (cB, cap_71, .inl (ni f_71)))]) (w2 := [(q_3, .inr (0, [.ref v_71, .int 0, .int 0, .int (nI ((((0 + rDig (nu mm)) + 1) + (sbL (kd mm)).length) + (sbL 8).length))])), (v_71, .inl (cB, cap_71, .inl (ni f_71)))]) hP hD [0, 1] [] [0, 1] rfl rfl (by decide) (by decide) hFc hk1 ht hB rfl (by decide) rfl
            clear hPc hDc hFc hk1 ht hB hz1 hvm
            generalize H1 = H at hP hS ⊢
            have hP : va_P D vwCl [(q_3, .inr (0, [.ref v_71, .int 0, .int 0, .int (nI ((((0 + rDig (nu mm)) + 1) + (sbL (kd mm)).length) + (sbL 8).length))])), (v_71, .inl (cB, cap_71, .inl (ni f_71)))] H := hP
            have hD : va_D A [(q_3, .inr (0, [.ref v_71, .int 0, .int 0, .int (nI ((((0 + rDig (nu mm)) + 1) + (sbL (kd mm)).length) + (sbL 8).length))])), (v_71, .inl (cB, cap_71, .inl (ni f_71)))] := hD
            refine lv_pop hx hb dX0_textOf_94 rfl ?_
            refine lv_aload_n hx hb dX0_textOf_95 rfl (lv_at hl 0 rfl) ?_
            refine W.widen (k := 3) (n := 54) (Nat.le_of_ble_eq_true rfl) (Nat.le_of_ble_eq_true rfl) ?_
            have hP9 := hP.sub (ws' := [(q_3, .inr (0, [.ref v_71, .int 0, .int 0, .int (nI ((((0 + rDig (nu mm)) + 1) + (sbL (kd mm)).length) + (sbL 8).length))])), (v_71, .inl (cB, cap_71, .inl (ni f_71)))]) [0, 1] rfl
            have hD9 := hD.sub (ws' := [(q_3, .inr (0, [.ref v_71, .int 0, .int 0, .int (nI ((((0 + rDig (nu mm)) + 1) + (sbL (kd mm)).length) + (sbL 8).length))])), (v_71, .inl (cB, cap_71, .inl (ni f_71)))]) [0, 1] (by decide) rfl
            have eT : textM mm = (((([]) ++ dgs (nu mm)) ++ [32]) ++ sbL (kd mm)) ++ sbL 8 := by
              unfold textM
              rw [if_neg (show ¬ (kd mm = 3 ∨ kd mm = 4 ∨ kd mm = 5) by omega), if_neg c_67, if_pos c_69]
              simp only [List.nil_append, List.append_nil, List.append_assoc]
            have eF : (textM mm).length = (((0 + rDig (nu mm)) + 1) + (sbL (kd mm)).length) + (sbL 8).length := by rw [eT]; exact htx_71.2.1.symm
            have hP9 : va_P D vwCl [(q_3, .inr (0, [.ref v_71, .int 0, .int 0, .int (nI ((textM mm).length))])), (v_71, .inl (cB, cap_71, .inl (ni f_71)))] H := by rw [eF]; exact hP9
            have hD9 : va_D A [(q_3, .inr (0, [.ref v_71, .int 0, .int 0, .int (nI ((textM mm).length))])), (v_71, .inl (cB, cap_71, .inl (ni f_71)))] := by rw [eF]; exact hD9
            exact W.aret (v := .ref q_3) hx hb hr (Or.inl ⟨_, rfl⟩) (Or.inr ⟨_, rfl⟩) (fun t ht hW => lfxn (v_71, cap_71, f_71) (by rw [eF, eT]; exact htx_71) hP9 hK hD9 hS ht hW) hS.2.2 dX0_textOf_96 hlocks
        · replace c_67 := b2i_n.mp c_67
          by_cases hfD : (((0 + rDig (nu mm)) + 1) + (sbL (kd mm)).length) + 2 ≤ 16
          · refine lv_aload_n hx hb dX0_textOf_72 rfl (lv_at hl 0 rfl) ?_
            refine va_ldcS hx hb hown (strK.R (q := (43, " D")) (haK 7 (by decide)) rfl) dX0_textOf_73 ?_
            have hPc := hP
            have hDc := hD
            have hFc := va_free (wc := [(q_3, .inr (0, [.ref v_14, .int 0, .int 0, .int (nI (((0 + rDig (nu mm)) + 1) + (sbL (kd mm)).length))])), (v_14, .inl (cB, cap_14, .inl (ni f_14)))]) hD hS hA [0, 1] rfl
            refine va_callr (va_runV (As := [.ref (aK 7)]) (rest := []) ⟨hx, hb, hml, hown, hts⟩ (c_J4_appS_f l D H.size cI cB q_3 v_14 cap_14 (((0 + rDig (nu mm)) + 1) + (sbL (kd mm)).length) f_14 (((([]) ++ dgs (nu mm)) ++ [32]) ++ sbL (kd mm)) 7 (aK 7) htx_14 (by omega) (by omega)) (cwV 1 hts gX0_textOf_J4_append_15ec4 rfl rfl rfl (by decide +kernel) ⟨Nat.le_of_ble_eq_true rfl, Nat.le_of_ble_eq_true rfl⟩) ⟨pcsK_blind, va_recv hK hP (ci := 0) (q0 := 0) rfl rfl, (pcsK_pre (pcs_pre (fun h => h) hE hS hPc hK hDc hFc) (haK 7 (by omega)))⟩ rfl rfl hl.1 rfl (lv_room (Nat.le_of_ble_eq_true rfl)) dX0_textOf_75 ⟨Nat.le_of_ble_eq_true rfl, Nat.le_of_ble_eq_true rfl⟩) hS (fun q _ h => hFc q h) hFc (fun u_73 r_72 t H1 locs1 ht hvm hw hB hz1 hk1 hS => ?_)
            obtain ⟨v_73, cap_73, f_73⟩ := u_73
            obtain ⟨hw1, hB⟩ := hB
            have hw1 : r_72 = q_3 := hw1
            rw [hw1]
            have htx_73 : tx cap_73 ((((0 + rDig (nu mm)) + 1) + (sbL (kd mm)).length) + (sbL 7).length) f_73 ((((([]) ++ dgs (nu mm)) ++ [32]) ++ sbL (kd mm)) ++ sbL 7) := hw.1
            have hcp_73 : cap_73 = cap_14 := hw.2
            obtain ⟨hP, hD⟩ := aft (wr := []) (w1 := [(q_3, .inr (0, [.ref v_73, .int 0, .int 0, .int (nI ((((0 + rDig (nu mm)) + 1) + (sbL (kd mm)).length) + (sbL 7).length))])), (v_73, .inl (cB, cap_73, .inl (ni f_73)))]) (w2 := [(q_3, .inr (0, [.ref v_73, .int 0, .int 0, .int (nI ((((0 + rDig (nu mm)) + 1) + (sbL (kd mm)).length) + (sbL 7).length))])), (v_73, .inl (cB, cap_73, .inl (ni f_73)))]) hP hD [0, 1] [] [0, 1] rfl rfl (by decide) (by decide) hFc hk1 ht hB rfl (by decide) rfl
            clear hPc hDc hFc hk1 ht hB hz1 hvm
            generalize H1 = H at hP hS ⊢
            have hP : va_P D vwCl [(q_3, .inr (0, [.ref v_73, .int 0, .int 0, .int (nI ((((0 + rDig (nu mm)) + 1) + (sbL (kd mm)).length) + (sbL 7).length))])), (v_73, .inl (cB, cap_73, .inl (ni f_73)))] H := hP
            have hD : va_D A [(q_3, .inr (0, [.ref v_73, .int 0, .int 0, .int (nI ((((0 + rDig (nu mm)) + 1) + (sbL (kd mm)).length) + (sbL 7).length))])), (v_73, .inl (cB, cap_73, .inl (ni f_73)))] := hD
            refine lv_pop hx hb dX0_textOf_78 rfl ?_
            refine lv_iload_n hx hb dX0_textOf_79 rfl (lv_at hl 2 rfl) ?_
            refine lv_ldc (v := 4194304) hx hb hown (hts (.constant RX0 45 4194304) (by decide +kernel)) dX0_textOf_80 ?_
            have hPc := hP.sub (ws' := []) [] rfl
            have hDc := hD.sub (ws' := []) [] (by decide) rfl
            have hFc := va_free (wc := []) hD hS hA [] rfl
            refine va_calli (va_runS (As := [.int (nI mm), .int 4194304]) (rest := []) ⟨hx, hb, hml, hown, hts⟩ (c_X0_isMarked_22 l D H.size cI mm) (va_cwS 2 hts gX0_textOf_X0_isMarked rfl rfl rfl (by decide +kernel) ⟨Nat.le_of_ble_eq_true rfl, Nat.le_of_ble_eq_true rfl⟩) ⟨pcs_blind, (pcs_pre (fun h => by cases h) hE hS hPc (hK.sub (tys' := [(cI, .int)]) [0] rfl) hDc hFc)⟩ rfl rfl hl.1 rfl (lv_room (Nat.le_of_ble_eq_true rfl)) dX0_textOf_82 ⟨Nat.le_of_ble_eq_true rfl, Nat.le_of_ble_eq_true rfl⟩) hS (fun q _ h => hFc q h) hFc (fun r_74 u t H1 locs1 ht hvm hw hB hz1 hk1 hS => ?_)
            have hw : r_74 = b2i (mm.testBit 22 = true) := hw
            subst hw
            obtain ⟨hP, hD⟩ := aft (wr := [(q_3, .inr (0, [.ref v_73, .int 0, .int 0, .int (nI ((((0 + rDig (nu mm)) + 1) + (sbL (kd mm)).length) + (sbL 7).length))])), (v_73, .inl (cB, cap_73, .inl (ni f_73)))]) (w1 := []) (w2 := [(q_3, .inr (0, [.ref v_73, .int 0, .int 0, .int (nI ((((0 + rDig (nu mm)) + 1) + (sbL (kd mm)).length) + (sbL 7).length))])), (v_73, .inl (cB, cap_73, .inl (ni f_73)))]) hP hD [] [0, 1] [0, 1] rfl rfl (by decide) (by decide) hFc hk1 ht hB rfl (by decide) rfl
            clear hPc hDc hFc hk1 ht hB hz1 hvm
            generalize H1 = H at hP hS ⊢
            have hP : va_P D vwCl [(q_3, .inr (0, [.ref v_73, .int 0, .int 0, .int (nI ((((0 + rDig (nu mm)) + 1) + (sbL (kd mm)).length) + (sbL 7).length))])), (v_73, .inl (cB, cap_73, .inl (ni f_73)))] H := hP
            have hD : va_D A [(q_3, .inr (0, [.ref v_73, .int 0, .int 0, .int (nI ((((0 + rDig (nu mm)) + 1) + (sbL (kd mm)).length) + (sbL 7).length))])), (v_73, .inl (cB, cap_73, .inl (ni f_73)))] := hD
            refine lv_if_eq (tgt := 95) hx hb dX0_textOf_85 (by decide) (fun c_75 => ?_) (fun c_75 => ?_)
            · replace c_75 := b2i_0.mp c_75
              refine lv_aload_n hx hb dX0_textOf_95 rfl (lv_at hl 0 rfl) ?_
              refine W.widen (k := 3) (n := 54) (Nat.le_of_ble_eq_true rfl) (Nat.le_of_ble_eq_true rfl) ?_
              have hP9 := hP.sub (ws' := [(q_3, .inr (0, [.ref v_73, .int 0, .int 0, .int (nI ((((0 + rDig (nu mm)) + 1) + (sbL (kd mm)).length) + (sbL 7).length))])), (v_73, .inl (cB, cap_73, .inl (ni f_73)))]) [0, 1] rfl
              have hD9 := hD.sub (ws' := [(q_3, .inr (0, [.ref v_73, .int 0, .int 0, .int (nI ((((0 + rDig (nu mm)) + 1) + (sbL (kd mm)).length) + (sbL 7).length))])), (v_73, .inl (cB, cap_73, .inl (ni f_73)))]) [0, 1] (by decide) rfl
              have eT : textM mm = (((([]) ++ dgs (nu mm)) ++ [32]) ++ sbL (kd mm)) ++ sbL 7 := by
                unfold textM
                rw [if_neg (show ¬ (kd mm = 3 ∨ kd mm = 4 ∨ kd mm = 5) by omega), if_pos c_67, if_neg c_75]
                simp only [List.nil_append, List.append_nil, List.append_assoc]
              have eF : (textM mm).length = (((0 + rDig (nu mm)) + 1) + (sbL (kd mm)).length) + (sbL 7).length := by rw [eT]; exact htx_73.2.1.symm
              have hP9 : va_P D vwCl [(q_3, .inr (0, [.ref v_73, .int 0, .int 0, .int (nI ((textM mm).length))])), (v_73, .inl (cB, cap_73, .inl (ni f_73)))] H := by rw [eF]; exact hP9
              have hD9 : va_D A [(q_3, .inr (0, [.ref v_73, .int 0, .int 0, .int (nI ((textM mm).length))])), (v_73, .inl (cB, cap_73, .inl (ni f_73)))] := by rw [eF]; exact hD9
              exact W.aret (v := .ref q_3) hx hb hr (Or.inl ⟨_, rfl⟩) (Or.inr ⟨_, rfl⟩) (fun t ht hW => lfxn (v_73, cap_73, f_73) (by rw [eF, eT]; exact htx_73) hP9 hK hD9 hS ht hW) hS.2.2 dX0_textOf_96 hlocks
            · replace c_75 := b2i_n.mp c_75
              refine lv_aload_n hx hb dX0_textOf_88 rfl (lv_at hl 0 rfl) ?_
              refine va_ldcS hx hb hown (strK.R (q := (46, " P")) (haK 8 (by decide)) rfl) dX0_textOf_89 ?_
              have hPc := hP
              have hDc := hD
              have hFc := va_free (wc := [(q_3, .inr (0, [.ref v_73, .int 0, .int 0, .int (nI ((((0 + rDig (nu mm)) + 1) + (sbL (kd mm)).length) + (sbL 7).length))])), (v_73, .inl (cB, cap_73, .inl (ni f_73)))]) hD hS hA [0, 1] rfl
              refine va_callr (va_runV (As := [.ref (aK 8)]) (rest := []) ⟨hx, hb, hml, hown, hts⟩ (c_J4_append_15ec4 l D H.size cI cB q_3 v_73 cap_73 ((((0 + rDig (nu mm)) + 1) + (sbL (kd mm)).length) + (sbL 7).length) f_73 ((((([]) ++ dgs (nu mm)) ++ [32]) ++ sbL (kd mm)) ++ sbL 7) 8 (aK 8) htx_73 (by omega) (by omega)) (cwV 1 hts gX0_textOf_J4_append_15ec4 rfl rfl rfl (by decide +kernel) ⟨Nat.le_of_ble_eq_true rfl, Nat.le_of_ble_eq_true rfl⟩) ⟨pcsK_blind, va_recv hK hP (ci := 0) (q0 := 0) rfl rfl, (pcsK_pre (pcs_pre (fun h => h) hE hS hPc hK hDc hFc) (haK 8 (by omega)))⟩ rfl rfl hl.1 rfl (lv_room (Nat.le_of_ble_eq_true rfl)) dX0_textOf_91 ⟨Nat.le_of_ble_eq_true rfl, Nat.le_of_ble_eq_true rfl⟩) hS (fun q _ h => hFc q h) hFc (fun u_77 r_76 t H1 locs1 ht hvm hw hB hz1 hk1 hS => ?_)
              obtain ⟨v_77, cap_77, f_77⟩ := u_77
              obtain ⟨hw1, hB⟩ := hB
              have hw1 : r_76 = q_3 := hw1
              rw [hw1]
              have htx_77 : tx cap_77 (((((0 + rDig (nu mm)) + 1) + (sbL (kd mm)).length) + (sbL 7).length) + (sbL 8).length) f_77 (((((([]) ++ dgs (nu mm)) ++ [32]) ++ sbL (kd mm)) ++ sbL 7) ++ sbL 8) := hw
              obtain ⟨hP, hD⟩ := aft (wr := []) (w1 := [(q_3, .inr (0, [.ref v_77, .int 0, .int 0, .int (nI (((((0 + rDig (nu mm)) + 1) + (sbL (kd mm)).length) + (sbL 7).length) + (sbL 8).length))])), (v_77, .inl (cB, cap_77, .inl (ni f_77)))]) (w2 := [(q_3, .inr (0, [.ref v_77, .int 0, .int 0, .int (nI (((((0 + rDig (nu mm)) + 1) + (sbL (kd mm)).length) + (sbL 7).length) + (sbL 8).length))])), (v_77, .inl (cB, cap_77, .inl (ni f_77)))]) hP hD [0, 1] [] [0, 1] rfl rfl (by decide) (by decide) hFc hk1 ht hB rfl (by decide) rfl
              clear hPc hDc hFc hk1 ht hB hz1 hvm
              generalize H1 = H at hP hS ⊢
              have hP : va_P D vwCl [(q_3, .inr (0, [.ref v_77, .int 0, .int 0, .int (nI (((((0 + rDig (nu mm)) + 1) + (sbL (kd mm)).length) + (sbL 7).length) + (sbL 8).length))])), (v_77, .inl (cB, cap_77, .inl (ni f_77)))] H := hP
              have hD : va_D A [(q_3, .inr (0, [.ref v_77, .int 0, .int 0, .int (nI (((((0 + rDig (nu mm)) + 1) + (sbL (kd mm)).length) + (sbL 7).length) + (sbL 8).length))])), (v_77, .inl (cB, cap_77, .inl (ni f_77)))] := hD
              refine lv_pop hx hb dX0_textOf_94 rfl ?_
              refine lv_aload_n hx hb dX0_textOf_95 rfl (lv_at hl 0 rfl) ?_
              refine W.widen (k := 3) (n := 54) (Nat.le_of_ble_eq_true rfl) (Nat.le_of_ble_eq_true rfl) ?_
              have hP9 := hP.sub (ws' := [(q_3, .inr (0, [.ref v_77, .int 0, .int 0, .int (nI (((((0 + rDig (nu mm)) + 1) + (sbL (kd mm)).length) + (sbL 7).length) + (sbL 8).length))])), (v_77, .inl (cB, cap_77, .inl (ni f_77)))]) [0, 1] rfl
              have hD9 := hD.sub (ws' := [(q_3, .inr (0, [.ref v_77, .int 0, .int 0, .int (nI (((((0 + rDig (nu mm)) + 1) + (sbL (kd mm)).length) + (sbL 7).length) + (sbL 8).length))])), (v_77, .inl (cB, cap_77, .inl (ni f_77)))]) [0, 1] (by decide) rfl
              have eT : textM mm = ((((([]) ++ dgs (nu mm)) ++ [32]) ++ sbL (kd mm)) ++ sbL 7) ++ sbL 8 := by
                unfold textM
                rw [if_neg (show ¬ (kd mm = 3 ∨ kd mm = 4 ∨ kd mm = 5) by omega), if_pos c_67, if_pos c_75]
                simp only [List.nil_append, List.append_nil, List.append_assoc]
              have eF : (textM mm).length = ((((0 + rDig (nu mm)) + 1) + (sbL (kd mm)).length) + (sbL 7).length) + (sbL 8).length := by rw [eT]; exact htx_77.2.1.symm
              have hP9 : va_P D vwCl [(q_3, .inr (0, [.ref v_77, .int 0, .int 0, .int (nI ((textM mm).length))])), (v_77, .inl (cB, cap_77, .inl (ni f_77)))] H := by rw [eF]; exact hP9
              have hD9 : va_D A [(q_3, .inr (0, [.ref v_77, .int 0, .int 0, .int (nI ((textM mm).length))])), (v_77, .inl (cB, cap_77, .inl (ni f_77)))] := by rw [eF]; exact hD9
              exact W.aret (v := .ref q_3) hx hb hr (Or.inl ⟨_, rfl⟩) (Or.inr ⟨_, rfl⟩) (fun t ht hW => lfxn (v_77, cap_77, f_77) (by rw [eF, eT]; exact htx_77) hP9 hK hD9 hS ht hW) hS.2.2 dX0_textOf_96 hlocks
          · refine lv_aload_n hx hb dX0_textOf_72 rfl (lv_at hl 0 rfl) ?_
            refine va_ldcS hx hb hown (strK.R (q := (43, " D")) (haK 7 (by decide)) rfl) dX0_textOf_73 ?_
            have hPc := hP
            have hDc := hD
            have hFc := va_free (wc := [(q_3, .inr (0, [.ref v_14, .int 0, .int 0, .int (nI (((0 + rDig (nu mm)) + 1) + (sbL (kd mm)).length))])), (v_14, .inl (cB, cap_14, .inl (ni f_14)))]) hD hS hA [0, 1] rfl
            refine va_callr (va_runV (As := [.ref (aK 7)]) (rest := []) ⟨hx, hb, hml, hown, hts⟩ (c_J4_append_15ec4 l D H.size cI cB q_3 v_14 cap_14 (((0 + rDig (nu mm)) + 1) + (sbL (kd mm)).length) f_14 (((([]) ++ dgs (nu mm)) ++ [32]) ++ sbL (kd mm)) 7 (aK 7) htx_14 (by omega) (by omega)) (cwV 1 hts gX0_textOf_J4_append_15ec4 rfl rfl rfl (by decide +kernel) ⟨Nat.le_of_ble_eq_true rfl, Nat.le_of_ble_eq_true rfl⟩) ⟨pcsK_blind, va_recv hK hP (ci := 0) (q0 := 0) rfl rfl, (pcsK_pre (pcs_pre (fun h => h) hE hS hPc hK hDc hFc) (haK 7 (by omega)))⟩ rfl rfl hl.1 rfl (lv_room (Nat.le_of_ble_eq_true rfl)) dX0_textOf_75 ⟨Nat.le_of_ble_eq_true rfl, Nat.le_of_ble_eq_true rfl⟩) hS (fun q _ h => hFc q h) hFc (fun u_79 r_78 t H1 locs1 ht hvm hw hB hz1 hk1 hS => ?_)
            obtain ⟨v_79, cap_79, f_79⟩ := u_79
            obtain ⟨hw1, hB⟩ := hB
            have hw1 : r_78 = q_3 := hw1
            rw [hw1]
            have htx_79 : tx cap_79 ((((0 + rDig (nu mm)) + 1) + (sbL (kd mm)).length) + (sbL 7).length) f_79 ((((([]) ++ dgs (nu mm)) ++ [32]) ++ sbL (kd mm)) ++ sbL 7) := hw
            obtain ⟨hP, hD⟩ := aft (wr := []) (w1 := [(q_3, .inr (0, [.ref v_79, .int 0, .int 0, .int (nI ((((0 + rDig (nu mm)) + 1) + (sbL (kd mm)).length) + (sbL 7).length))])), (v_79, .inl (cB, cap_79, .inl (ni f_79)))]) (w2 := [(q_3, .inr (0, [.ref v_79, .int 0, .int 0, .int (nI ((((0 + rDig (nu mm)) + 1) + (sbL (kd mm)).length) + (sbL 7).length))])), (v_79, .inl (cB, cap_79, .inl (ni f_79)))]) hP hD [0, 1] [] [0, 1] rfl rfl (by decide) (by decide) hFc hk1 ht hB rfl (by decide) rfl
            clear hPc hDc hFc hk1 ht hB hz1 hvm
            generalize H1 = H at hP hS ⊢
            have hP : va_P D vwCl [(q_3, .inr (0, [.ref v_79, .int 0, .int 0, .int (nI ((((0 + rDig (nu mm)) + 1) + (sbL (kd mm)).length) + (sbL 7).length))])), (v_79, .inl (cB, cap_79, .inl (ni f_79)))] H := hP
            have hD : va_D A [(q_3, .inr (0, [.ref v_79, .int 0, .int 0, .int (nI ((((0 + rDig (nu mm)) + 1) + (sbL (kd mm)).length) + (sbL 7).length))])), (v_79, .inl (cB, cap_79, .inl (ni f_79)))] := hD
            have hcp34 : cap_79 = 34 := by have h1 := htx_79.1; have h2 := htx_79.2.2.1; omega
            refine lv_pop hx hb dX0_textOf_78 rfl ?_
            refine lv_iload_n hx hb dX0_textOf_79 rfl (lv_at hl 2 rfl) ?_
            refine lv_ldc (v := 4194304) hx hb hown (hts (.constant RX0 45 4194304) (by decide +kernel)) dX0_textOf_80 ?_
            have hPc := hP.sub (ws' := []) [] rfl
            have hDc := hD.sub (ws' := []) [] (by decide) rfl
            have hFc := va_free (wc := []) hD hS hA [] rfl
            refine va_calli (va_runS (As := [.int (nI mm), .int 4194304]) (rest := []) ⟨hx, hb, hml, hown, hts⟩ (c_X0_isMarked_22 l D H.size cI mm) (va_cwS 2 hts gX0_textOf_X0_isMarked rfl rfl rfl (by decide +kernel) ⟨Nat.le_of_ble_eq_true rfl, Nat.le_of_ble_eq_true rfl⟩) ⟨pcs_blind, (pcs_pre (fun h => by cases h) hE hS hPc (hK.sub (tys' := [(cI, .int)]) [0] rfl) hDc hFc)⟩ rfl rfl hl.1 rfl (lv_room (Nat.le_of_ble_eq_true rfl)) dX0_textOf_82 ⟨Nat.le_of_ble_eq_true rfl, Nat.le_of_ble_eq_true rfl⟩) hS (fun q _ h => hFc q h) hFc (fun r_80 u t H1 locs1 ht hvm hw hB hz1 hk1 hS => ?_)
            have hw : r_80 = b2i (mm.testBit 22 = true) := hw
            subst hw
            obtain ⟨hP, hD⟩ := aft (wr := [(q_3, .inr (0, [.ref v_79, .int 0, .int 0, .int (nI ((((0 + rDig (nu mm)) + 1) + (sbL (kd mm)).length) + (sbL 7).length))])), (v_79, .inl (cB, cap_79, .inl (ni f_79)))]) (w1 := []) (w2 := [(q_3, .inr (0, [.ref v_79, .int 0, .int 0, .int (nI ((((0 + rDig (nu mm)) + 1) + (sbL (kd mm)).length) + (sbL 7).length))])), (v_79, .inl (cB, cap_79, .inl (ni f_79)))]) hP hD [] [0, 1] [0, 1] rfl rfl (by decide) (by decide) hFc hk1 ht hB rfl (by decide) rfl
            clear hPc hDc hFc hk1 ht hB hz1 hvm
            generalize H1 = H at hP hS ⊢
            have hP : va_P D vwCl [(q_3, .inr (0, [.ref v_79, .int 0, .int 0, .int (nI ((((0 + rDig (nu mm)) + 1) + (sbL (kd mm)).length) + (sbL 7).length))])), (v_79, .inl (cB, cap_79, .inl (ni f_79)))] H := hP
            have hD : va_D A [(q_3, .inr (0, [.ref v_79, .int 0, .int 0, .int (nI ((((0 + rDig (nu mm)) + 1) + (sbL (kd mm)).length) + (sbL 7).length))])), (v_79, .inl (cB, cap_79, .inl (ni f_79)))] := hD
            refine lv_if_eq (tgt := 95) hx hb dX0_textOf_85 (by decide) (fun c_81 => ?_) (fun c_81 => ?_)
            · replace c_81 := b2i_0.mp c_81
              refine lv_aload_n hx hb dX0_textOf_95 rfl (lv_at hl 0 rfl) ?_
              refine W.widen (k := 3) (n := 54) (Nat.le_of_ble_eq_true rfl) (Nat.le_of_ble_eq_true rfl) ?_
              have hP9 := hP.sub (ws' := [(q_3, .inr (0, [.ref v_79, .int 0, .int 0, .int (nI ((((0 + rDig (nu mm)) + 1) + (sbL (kd mm)).length) + (sbL 7).length))])), (v_79, .inl (cB, cap_79, .inl (ni f_79)))]) [0, 1] rfl
              have hD9 := hD.sub (ws' := [(q_3, .inr (0, [.ref v_79, .int 0, .int 0, .int (nI ((((0 + rDig (nu mm)) + 1) + (sbL (kd mm)).length) + (sbL 7).length))])), (v_79, .inl (cB, cap_79, .inl (ni f_79)))]) [0, 1] (by decide) rfl
              have eT : textM mm = (((([]) ++ dgs (nu mm)) ++ [32]) ++ sbL (kd mm)) ++ sbL 7 := by
                unfold textM
                rw [if_neg (show ¬ (kd mm = 3 ∨ kd mm = 4 ∨ kd mm = 5) by omega), if_pos c_67, if_neg c_81]
                simp only [List.nil_append, List.append_nil, List.append_assoc]
              have eF : (textM mm).length = (((0 + rDig (nu mm)) + 1) + (sbL (kd mm)).length) + (sbL 7).length := by rw [eT]; exact htx_79.2.1.symm
              have hP9 : va_P D vwCl [(q_3, .inr (0, [.ref v_79, .int 0, .int 0, .int (nI ((textM mm).length))])), (v_79, .inl (cB, cap_79, .inl (ni f_79)))] H := by rw [eF]; exact hP9
              have hD9 : va_D A [(q_3, .inr (0, [.ref v_79, .int 0, .int 0, .int (nI ((textM mm).length))])), (v_79, .inl (cB, cap_79, .inl (ni f_79)))] := by rw [eF]; exact hD9
              exact W.aret (v := .ref q_3) hx hb hr (Or.inl ⟨_, rfl⟩) (Or.inr ⟨_, rfl⟩) (fun t ht hW => lfxn (v_79, cap_79, f_79) (by rw [eF, eT]; exact htx_79) hP9 hK hD9 hS ht hW) hS.2.2 dX0_textOf_96 hlocks
            · replace c_81 := b2i_n.mp c_81
              refine lv_aload_n hx hb dX0_textOf_88 rfl (lv_at hl 0 rfl) ?_
              refine va_ldcS hx hb hown (strK.R (q := (46, " P")) (haK 8 (by decide)) rfl) dX0_textOf_89 ?_
              have hPc := hP
              have hDc := hD
              have hFc := va_free (wc := [(q_3, .inr (0, [.ref v_79, .int 0, .int 0, .int (nI ((((0 + rDig (nu mm)) + 1) + (sbL (kd mm)).length) + (sbL 7).length))])), (v_79, .inl (cB, cap_79, .inl (ni f_79)))]) hD hS hA [0, 1] rfl
              refine va_callr (va_runV (As := [.ref (aK 8)]) (rest := []) ⟨hx, hb, hml, hown, hts⟩ (c_J4_appS_f l D H.size cI cB q_3 v_79 cap_79 ((((0 + rDig (nu mm)) + 1) + (sbL (kd mm)).length) + (sbL 7).length) f_79 ((((([]) ++ dgs (nu mm)) ++ [32]) ++ sbL (kd mm)) ++ sbL 7) 8 (aK 8) htx_79 (by omega) (by omega)) (cwV 1 hts gX0_textOf_J4_append_15ec4 rfl rfl rfl (by decide +kernel) ⟨Nat.le_of_ble_eq_true rfl, Nat.le_of_ble_eq_true rfl⟩) ⟨pcsK_blind, va_recv hK hP (ci := 0) (q0 := 0) rfl rfl, (pcsK_pre (pcs_pre (fun h => h) hE hS hPc hK hDc hFc) (haK 8 (by omega)))⟩ rfl rfl hl.1 rfl (lv_room (Nat.le_of_ble_eq_true rfl)) dX0_textOf_91 ⟨Nat.le_of_ble_eq_true rfl, Nat.le_of_ble_eq_true rfl⟩) hS (fun q _ h => hFc q h) hFc (fun u_83 r_82 t H1 locs1 ht hvm hw hB hz1 hk1 hS => ?_)
              obtain ⟨v_83, cap_83, f_83⟩ := u_83
              obtain ⟨hw1, hB⟩ := hB
              have hw1 : r_82 = q_3 := hw1
              rw [hw1]
              have htx_83 : tx cap_83 (((((0 + rDig (nu mm)) + 1) + (sbL (kd mm)).length) + (sbL 7).length) + (sbL 8).length) f_83 (((((([]) ++ dgs (nu mm)) ++ [32]) ++ sbL (kd mm)) ++ sbL 7) ++ sbL 8) := hw.1
              have hcp_83 : cap_83 = cap_79 := hw.2
              obtain ⟨hP, hD⟩ := aft (wr := []) (w1 := [(q_3, .inr (0, [.ref v_83, .int 0, .int 0, .int (nI (((((0 + rDig (nu mm)) + 1) + (sbL (kd mm)).length) + (sbL 7).length) + (sbL 8).length))])), (v_83, .inl (cB, cap_83, .inl (ni f_83)))]) (w2 := [(q_3, .inr (0, [.ref v_83, .int 0, .int 0, .int (nI (((((0 + rDig (nu mm)) + 1) + (sbL (kd mm)).length) + (sbL 7).length) + (sbL 8).length))])), (v_83, .inl (cB, cap_83, .inl (ni f_83)))]) hP hD [0, 1] [] [0, 1] rfl rfl (by decide) (by decide) hFc hk1 ht hB rfl (by decide) rfl
              clear hPc hDc hFc hk1 ht hB hz1 hvm
              generalize H1 = H at hP hS ⊢
              have hP : va_P D vwCl [(q_3, .inr (0, [.ref v_83, .int 0, .int 0, .int (nI (((((0 + rDig (nu mm)) + 1) + (sbL (kd mm)).length) + (sbL 7).length) + (sbL 8).length))])), (v_83, .inl (cB, cap_83, .inl (ni f_83)))] H := hP
              have hD : va_D A [(q_3, .inr (0, [.ref v_83, .int 0, .int 0, .int (nI (((((0 + rDig (nu mm)) + 1) + (sbL (kd mm)).length) + (sbL 7).length) + (sbL 8).length))])), (v_83, .inl (cB, cap_83, .inl (ni f_83)))] := hD
              refine lv_pop hx hb dX0_textOf_94 rfl ?_
              refine lv_aload_n hx hb dX0_textOf_95 rfl (lv_at hl 0 rfl) ?_
              refine W.widen (k := 3) (n := 54) (Nat.le_of_ble_eq_true rfl) (Nat.le_of_ble_eq_true rfl) ?_
              have hP9 := hP.sub (ws' := [(q_3, .inr (0, [.ref v_83, .int 0, .int 0, .int (nI (((((0 + rDig (nu mm)) + 1) + (sbL (kd mm)).length) + (sbL 7).length) + (sbL 8).length))])), (v_83, .inl (cB, cap_83, .inl (ni f_83)))]) [0, 1] rfl
              have hD9 := hD.sub (ws' := [(q_3, .inr (0, [.ref v_83, .int 0, .int 0, .int (nI (((((0 + rDig (nu mm)) + 1) + (sbL (kd mm)).length) + (sbL 7).length) + (sbL 8).length))])), (v_83, .inl (cB, cap_83, .inl (ni f_83)))]) [0, 1] (by decide) rfl
              have eT : textM mm = ((((([]) ++ dgs (nu mm)) ++ [32]) ++ sbL (kd mm)) ++ sbL 7) ++ sbL 8 := by
                unfold textM
                rw [if_neg (show ¬ (kd mm = 3 ∨ kd mm = 4 ∨ kd mm = 5) by omega), if_pos c_67, if_pos c_81]
                simp only [List.nil_append, List.append_nil, List.append_assoc]
              have eF : (textM mm).length = ((((0 + rDig (nu mm)) + 1) + (sbL (kd mm)).length) + (sbL 7).length) + (sbL 8).length := by rw [eT]; exact htx_83.2.1.symm
              have hP9 : va_P D vwCl [(q_3, .inr (0, [.ref v_83, .int 0, .int 0, .int (nI ((textM mm).length))])), (v_83, .inl (cB, cap_83, .inl (ni f_83)))] H := by rw [eF]; exact hP9
              have hD9 : va_D A [(q_3, .inr (0, [.ref v_83, .int 0, .int 0, .int (nI ((textM mm).length))])), (v_83, .inl (cB, cap_83, .inl (ni f_83)))] := by rw [eF]; exact hD9
              exact W.aret (v := .ref q_3) hx hb hr (Or.inl ⟨_, rfl⟩) (Or.inr ⟨_, rfl⟩) (fun t ht hW => lfxn (v_83, cap_83, f_83) (by rw [eF, eT]; exact htx_83) hP9 hK hD9 hS ht hW) hS.2.2 dX0_textOf_96 hlocks
      · replace c_65 : (kd mm) = 5 := (nI_eq (a := (kd mm)) (b := 5) (by omega) (by omega)).mp c_65
        refine lv_aload_n hx hb dX0_textOf_49 rfl (lv_at hl 0 rfl) ?_
        refine lv_bipush (v := 32) hx hb dX0_textOf_50 (by decide) ?_
        have hPc := hP
        have hDc := hD
        have hFc := va_free (wc := [(q_3, .inr (0, [.ref v_14, .int 0, .int 0, .int (nI (((0 + rDig (nu mm)) + 1) + (sbL (kd mm)).length))])), (v_14, .inl (cB, cap_14, .inl (ni f_14)))]) hD hS hA [0, 1] rfl
        refine va_callr (va_runV (As := [.int 32]) (rest := []) ⟨hx, hb, hml, hown, hts⟩ (c_J4_appC_f l D H.size cI cB q_3 v_14 cap_14 (((0 + rDig (nu mm)) + 1) + (sbL (kd mm)).length) f_14 (((([]) ++ dgs (nu mm)) ++ [32]) ++ sbL (kd mm)) 32 htx_14 (by omega) (by omega)) (cwV 1 hts gX0_textOf_J4_append_cf468 rfl rfl rfl (by decide +kernel) ⟨Nat.le_of_ble_eq_true rfl, Nat.le_of_ble_eq_true rfl⟩) ⟨pcs_blind, va_recv hK hP (ci := 0) (q0 := 0) rfl rfl, (pcs_pre (fun h => h) hE hS hPc hK hDc hFc)⟩ rfl rfl hl.1 rfl (lv_room (Nat.le_of_ble_eq_true rfl)) dX0_textOf_52 ⟨Nat.le_of_ble_eq_true rfl, Nat.le_of_ble_eq_true rfl⟩) hS (fun q _ h => hFc q h) hFc (fun u_85 r_84 t H1 locs1 ht hvm hw hB hz1 hk1 hS => ?_)
        obtain ⟨v_85, cap_85, f_85⟩ := u_85
        obtain ⟨hw1, hB⟩ := hB
        have hw1 : r_84 = q_3 := hw1
        rw [hw1]
        have htx_85 : tx cap_85 ((((0 + rDig (nu mm)) + 1) + (sbL (kd mm)).length) + 1) f_85 ((((([]) ++ dgs (nu mm)) ++ [32]) ++ sbL (kd mm)) ++ [32]) := hw.1
        have hcp_85 : cap_85 = cap_14 := hw.2
        obtain ⟨hP, hD⟩ := aft (wr := []) (w1 := [(q_3, .inr (0, [.ref v_85, .int 0, .int 0, .int (nI ((((0 + rDig (nu mm)) + 1) + (sbL (kd mm)).length) + 1))])), (v_85, .inl (cB, cap_85, .inl (ni f_85)))]) (w2 := [(q_3, .inr (0, [.ref v_85, .int 0, .int 0, .int (nI ((((0 + rDig (nu mm)) + 1) + (sbL (kd mm)).length) + 1))])), (v_85, .inl (cB, cap_85, .inl (ni f_85)))]) hP hD [0, 1] [] [0, 1] rfl rfl (by decide) (by decide) hFc hk1 ht hB rfl (by decide) rfl
        clear hPc hDc hFc hk1 ht hB hz1 hvm
        generalize H1 = H at hP hS ⊢
        have hP : va_P D vwCl [(q_3, .inr (0, [.ref v_85, .int 0, .int 0, .int (nI ((((0 + rDig (nu mm)) + 1) + (sbL (kd mm)).length) + 1))])), (v_85, .inl (cB, cap_85, .inl (ni f_85)))] H := hP
        have hD : va_D A [(q_3, .inr (0, [.ref v_85, .int 0, .int 0, .int (nI ((((0 + rDig (nu mm)) + 1) + (sbL (kd mm)).length) + 1))])), (v_85, .inl (cB, cap_85, .inl (ni f_85)))] := hD
        refine lv_iload_n hx hb dX0_textOf_55 rfl (lv_at hl 2 rfl) ?_
        have hPc := hP.sub (ws' := []) [] rfl
        have hDc := hD.sub (ws' := []) [] (by decide) rfl
        have hFc := va_free (wc := []) hD hS hA [] rfl
        refine va_calli (va_runS (As := [.int (nI mm)]) (rest := [.ref q_3]) ⟨hx, hb, hml, hown, hts⟩ (c_X0_toldBy l D H.size cI mm (by omega)) (va_cwS 1 hts gX0_textOf_X0_toldBy rfl rfl rfl (by decide +kernel) ⟨Nat.le_of_ble_eq_true rfl, Nat.le_of_ble_eq_true rfl⟩) ⟨pcs_blind, (pcs_pre (fun h => by cases h) hE hS hPc (hK.sub (tys' := [(cI, .int)]) [0] rfl) hDc hFc)⟩ rfl rfl hl.1 rfl (lv_room (Nat.le_of_ble_eq_true rfl)) dX0_textOf_56 ⟨Nat.le_of_ble_eq_true rfl, Nat.le_of_ble_eq_true rfl⟩) hS (fun q _ h => hFc q h) hFc (fun r_86 u t H1 locs1 ht hvm hw hB hz1 hk1 hS => ?_)
        have hw : r_86 = nI (td mm) := hw
        subst hw
        obtain ⟨hP, hD⟩ := aft (wr := [(q_3, .inr (0, [.ref v_85, .int 0, .int 0, .int (nI ((((0 + rDig (nu mm)) + 1) + (sbL (kd mm)).length) + 1))])), (v_85, .inl (cB, cap_85, .inl (ni f_85)))]) (w1 := []) (w2 := [(q_3, .inr (0, [.ref v_85, .int 0, .int 0, .int (nI ((((0 + rDig (nu mm)) + 1) + (sbL (kd mm)).length) + 1))])), (v_85, .inl (cB, cap_85, .inl (ni f_85)))]) hP hD [] [0, 1] [0, 1] rfl rfl (by decide) (by decide) hFc hk1 ht hB rfl (by decide) rfl
        clear hPc hDc hFc hk1 ht hB hz1 hvm
        generalize H1 = H at hP hS ⊢
        have hP : va_P D vwCl [(q_3, .inr (0, [.ref v_85, .int 0, .int 0, .int (nI ((((0 + rDig (nu mm)) + 1) + (sbL (kd mm)).length) + 1))])), (v_85, .inl (cB, cap_85, .inl (ni f_85)))] H := hP
        have hD : va_D A [(q_3, .inr (0, [.ref v_85, .int 0, .int 0, .int (nI ((((0 + rDig (nu mm)) + 1) + (sbL (kd mm)).length) + 1))])), (v_85, .inl (cB, cap_85, .inl (ni f_85)))] := hD
        have hf_87 : td mm < 1024 := td_lt _
        have hPc := hP
        have hDc := hD
        have hFc := va_free (wc := [(q_3, .inr (0, [.ref v_85, .int 0, .int 0, .int (nI ((((0 + rDig (nu mm)) + 1) + (sbL (kd mm)).length) + 1))])), (v_85, .inl (cB, cap_85, .inl (ni f_85)))]) hD hS hA [0, 1] rfl
        refine va_callr (va_runV (As := [.int (nI (td mm))]) (rest := []) ⟨hx, hb, hml, hown, hts⟩ (c_J4_appI_f l D H.size cI cB q_3 v_85 cap_85 ((((0 + rDig (nu mm)) + 1) + (sbL (kd mm)).length) + 1) f_85 ((((([]) ++ dgs (nu mm)) ++ [32]) ++ sbL (kd mm)) ++ [32]) (td mm) htx_85 (by omega) (by omega)) (cwV 1 hts gX0_textOf_J4_append_bf812 rfl rfl rfl (by decide +kernel) ⟨Nat.le_of_ble_eq_true rfl, Nat.le_of_ble_eq_true rfl⟩) ⟨pcs_blind, va_recv hK hP (ci := 0) (q0 := 0) rfl rfl, (pcs_pre (fun h => h) hE hS hPc hK hDc hFc)⟩ rfl rfl hl.1 rfl (lv_room (Nat.le_of_ble_eq_true rfl)) dX0_textOf_59 ⟨Nat.le_of_ble_eq_true rfl, Nat.le_of_ble_eq_true rfl⟩) hS (fun q _ h => hFc q h) hFc (fun u_89 r_88 t H1 locs1 ht hvm hw hB hz1 hk1 hS => ?_)
        obtain ⟨v_89, cap_89, f_89⟩ := u_89
        obtain ⟨hw1, hB⟩ := hB
        have hw1 : r_88 = q_3 := hw1
        rw [hw1]
        have htx_89 : tx cap_89 (((((0 + rDig (nu mm)) + 1) + (sbL (kd mm)).length) + 1) + rDig (td mm)) f_89 (((((([]) ++ dgs (nu mm)) ++ [32]) ++ sbL (kd mm)) ++ [32]) ++ dgs (td mm)) := hw.1
        have hcp_89 : cap_89 = cap_85 := hw.2
        obtain ⟨hP, hD⟩ := aft (wr := []) (w1 := [(q_3, .inr (0, [.ref v_89, .int 0, .int 0, .int (nI (((((0 + rDig (nu mm)) + 1) + (sbL (kd mm)).length) + 1) + rDig (td mm)))])), (v_89, .inl (cB, cap_89, .inl (ni f_89)))]) (w2 := [(q_3, .inr (0, [.ref v_89, .int 0, .int 0, .int (nI (((((0 + rDig (nu mm)) + 1) + (sbL (kd mm)).length) + 1) + rDig (td mm)))])), (v_89, .inl (cB, cap_89, .inl (ni f_89)))]) hP hD [0, 1] [] [0, 1] rfl rfl (by decide) (by decide) hFc hk1 ht hB rfl (by decide) rfl
        clear hPc hDc hFc hk1 ht hB hz1 hvm
        generalize H1 = H at hP hS ⊢
        have hP : va_P D vwCl [(q_3, .inr (0, [.ref v_89, .int 0, .int 0, .int (nI (((((0 + rDig (nu mm)) + 1) + (sbL (kd mm)).length) + 1) + rDig (td mm)))])), (v_89, .inl (cB, cap_89, .inl (ni f_89)))] H := hP
        have hD : va_D A [(q_3, .inr (0, [.ref v_89, .int 0, .int 0, .int (nI (((((0 + rDig (nu mm)) + 1) + (sbL (kd mm)).length) + 1) + rDig (td mm)))])), (v_89, .inl (cB, cap_89, .inl (ni f_89)))] := hD
        refine lv_pop hx hb dX0_textOf_62 rfl ?_
        refine lv_iload_n hx hb dX0_textOf_63 rfl (lv_at hl 2 rfl) ?_
        refine lv_ldc (v := 2097152) hx hb hown (hts (.constant RX0 38 2097152) (by decide +kernel)) dX0_textOf_64 ?_
        have hPc := hP.sub (ws' := []) [] rfl
        have hDc := hD.sub (ws' := []) [] (by decide) rfl
        have hFc := va_free (wc := []) hD hS hA [] rfl
        refine va_calli (va_runS (As := [.int (nI mm), .int 2097152]) (rest := []) ⟨hx, hb, hml, hown, hts⟩ (c_X0_isMarked_21 l D H.size cI mm) (va_cwS 2 hts gX0_textOf_X0_isMarked rfl rfl rfl (by decide +kernel) ⟨Nat.le_of_ble_eq_true rfl, Nat.le_of_ble_eq_true rfl⟩) ⟨pcs_blind, (pcs_pre (fun h => by cases h) hE hS hPc (hK.sub (tys' := [(cI, .int)]) [0] rfl) hDc hFc)⟩ rfl rfl hl.1 rfl (lv_room (Nat.le_of_ble_eq_true rfl)) dX0_textOf_66 ⟨Nat.le_of_ble_eq_true rfl, Nat.le_of_ble_eq_true rfl⟩) hS (fun q _ h => hFc q h) hFc (fun r_90 u t H1 locs1 ht hvm hw hB hz1 hk1 hS => ?_)
        have hw : r_90 = b2i (mm.testBit 21 = true) := hw
        subst hw
        obtain ⟨hP, hD⟩ := aft (wr := [(q_3, .inr (0, [.ref v_89, .int 0, .int 0, .int (nI (((((0 + rDig (nu mm)) + 1) + (sbL (kd mm)).length) + 1) + rDig (td mm)))])), (v_89, .inl (cB, cap_89, .inl (ni f_89)))]) (w1 := []) (w2 := [(q_3, .inr (0, [.ref v_89, .int 0, .int 0, .int (nI (((((0 + rDig (nu mm)) + 1) + (sbL (kd mm)).length) + 1) + rDig (td mm)))])), (v_89, .inl (cB, cap_89, .inl (ni f_89)))]) hP hD [] [0, 1] [0, 1] rfl rfl (by decide) (by decide) hFc hk1 ht hB rfl (by decide) rfl
        clear hPc hDc hFc hk1 ht hB hz1 hvm
        generalize H1 = H at hP hS ⊢
        have hP : va_P D vwCl [(q_3, .inr (0, [.ref v_89, .int 0, .int 0, .int (nI (((((0 + rDig (nu mm)) + 1) + (sbL (kd mm)).length) + 1) + rDig (td mm)))])), (v_89, .inl (cB, cap_89, .inl (ni f_89)))] H := hP
        have hD : va_D A [(q_3, .inr (0, [.ref v_89, .int 0, .int 0, .int (nI (((((0 + rDig (nu mm)) + 1) + (sbL (kd mm)).length) + 1) + rDig (td mm)))])), (v_89, .inl (cB, cap_89, .inl (ni f_89)))] := hD
        refine lv_if_eq (tgt := 79) hx hb dX0_textOf_69 (by decide) (fun c_91 => ?_) (fun c_91 => ?_)
        · replace c_91 := b2i_0.mp c_91
          refine lv_iload_n hx hb dX0_textOf_79 rfl (lv_at hl 2 rfl) ?_
          refine lv_ldc (v := 4194304) hx hb hown (hts (.constant RX0 45 4194304) (by decide +kernel)) dX0_textOf_80 ?_
          have hPc := hP.sub (ws' := []) [] rfl
          have hDc := hD.sub (ws' := []) [] (by decide) rfl
          have hFc := va_free (wc := []) hD hS hA [] rfl
          refine va_calli (va_runS (As := [.int (nI mm), .int 4194304]) (rest := []) ⟨hx, hb, hml, hown, hts⟩ (c_X0_isMarked_22 l D H.size cI mm) (va_cwS 2 hts gX0_textOf_X0_isMarked rfl rfl rfl (by decide +kernel) ⟨Nat.le_of_ble_eq_true rfl, Nat.le_of_ble_eq_true rfl⟩) ⟨pcs_blind, (pcs_pre (fun h => by cases h) hE hS hPc (hK.sub (tys' := [(cI, .int)]) [0] rfl) hDc hFc)⟩ rfl rfl hl.1 rfl (lv_room (Nat.le_of_ble_eq_true rfl)) dX0_textOf_82 ⟨Nat.le_of_ble_eq_true rfl, Nat.le_of_ble_eq_true rfl⟩) hS (fun q _ h => hFc q h) hFc (fun r_92 u t H1 locs1 ht hvm hw hB hz1 hk1 hS => ?_)
          have hw : r_92 = b2i (mm.testBit 22 = true) := hw
          subst hw
          obtain ⟨hP, hD⟩ := aft (wr := [(q_3, .inr (0, [.ref v_89, .int 0, .int 0, .int (nI (((((0 + rDig (nu mm)) + 1) + (sbL (kd mm)).length) + 1) + rDig (td mm)))])), (v_89, .inl (cB, cap_89, .inl (ni f_89)))]) (w1 := []) (w2 := [(q_3, .inr (0, [.ref v_89, .int 0, .int 0, .int (nI (((((0 + rDig (nu mm)) + 1) + (sbL (kd mm)).length) + 1) + rDig (td mm)))])), (v_89, .inl (cB, cap_89, .inl (ni f_89)))]) hP hD [] [0, 1] [0, 1] rfl rfl (by decide) (by decide) hFc hk1 ht hB rfl (by decide) rfl
          clear hPc hDc hFc hk1 ht hB hz1 hvm
          generalize H1 = H at hP hS ⊢
          have hP : va_P D vwCl [(q_3, .inr (0, [.ref v_89, .int 0, .int 0, .int (nI (((((0 + rDig (nu mm)) + 1) + (sbL (kd mm)).length) + 1) + rDig (td mm)))])), (v_89, .inl (cB, cap_89, .inl (ni f_89)))] H := hP
          have hD : va_D A [(q_3, .inr (0, [.ref v_89, .int 0, .int 0, .int (nI (((((0 + rDig (nu mm)) + 1) + (sbL (kd mm)).length) + 1) + rDig (td mm)))])), (v_89, .inl (cB, cap_89, .inl (ni f_89)))] := hD
          refine lv_if_eq (tgt := 95) hx hb dX0_textOf_85 (by decide) (fun c_93 => ?_) (fun c_93 => ?_)
          · replace c_93 := b2i_0.mp c_93
            refine lv_aload_n hx hb dX0_textOf_95 rfl (lv_at hl 0 rfl) ?_
            refine W.widen (k := 3) (n := 54) (Nat.le_of_ble_eq_true rfl) (Nat.le_of_ble_eq_true rfl) ?_
            have hP9 := hP.sub (ws' := [(q_3, .inr (0, [.ref v_89, .int 0, .int 0, .int (nI (((((0 + rDig (nu mm)) + 1) + (sbL (kd mm)).length) + 1) + rDig (td mm)))])), (v_89, .inl (cB, cap_89, .inl (ni f_89)))]) [0, 1] rfl
            have hD9 := hD.sub (ws' := [(q_3, .inr (0, [.ref v_89, .int 0, .int 0, .int (nI (((((0 + rDig (nu mm)) + 1) + (sbL (kd mm)).length) + 1) + rDig (td mm)))])), (v_89, .inl (cB, cap_89, .inl (ni f_89)))]) [0, 1] (by decide) rfl
            have eT : textM mm = ((((([]) ++ dgs (nu mm)) ++ [32]) ++ sbL (kd mm)) ++ [32]) ++ dgs (td mm) := by
              unfold textM
              rw [if_pos (show kd mm = 3 ∨ kd mm = 4 ∨ kd mm = 5 by omega), if_neg c_91, if_neg c_93]
              simp only [List.nil_append, List.append_nil, List.append_assoc]
            have eF : (textM mm).length = ((((0 + rDig (nu mm)) + 1) + (sbL (kd mm)).length) + 1) + rDig (td mm) := by rw [eT]; exact htx_89.2.1.symm
            have hP9 : va_P D vwCl [(q_3, .inr (0, [.ref v_89, .int 0, .int 0, .int (nI ((textM mm).length))])), (v_89, .inl (cB, cap_89, .inl (ni f_89)))] H := by rw [eF]; exact hP9
            have hD9 : va_D A [(q_3, .inr (0, [.ref v_89, .int 0, .int 0, .int (nI ((textM mm).length))])), (v_89, .inl (cB, cap_89, .inl (ni f_89)))] := by rw [eF]; exact hD9
            exact W.aret (v := .ref q_3) hx hb hr (Or.inl ⟨_, rfl⟩) (Or.inr ⟨_, rfl⟩) (fun t ht hW => lfxn (v_89, cap_89, f_89) (by rw [eF, eT]; exact htx_89) hP9 hK hD9 hS ht hW) hS.2.2 dX0_textOf_96 hlocks
          · replace c_93 := b2i_n.mp c_93
            refine lv_aload_n hx hb dX0_textOf_88 rfl (lv_at hl 0 rfl) ?_
            refine va_ldcS hx hb hown (strK.R (q := (46, " P")) (haK 8 (by decide)) rfl) dX0_textOf_89 ?_
            have hPc := hP
            have hDc := hD
            have hFc := va_free (wc := [(q_3, .inr (0, [.ref v_89, .int 0, .int 0, .int (nI (((((0 + rDig (nu mm)) + 1) + (sbL (kd mm)).length) + 1) + rDig (td mm)))])), (v_89, .inl (cB, cap_89, .inl (ni f_89)))]) hD hS hA [0, 1] rfl
            refine va_callr (va_runV (As := [.ref (aK 8)]) (rest := []) ⟨hx, hb, hml, hown, hts⟩ (c_J4_append_15ec4 l D H.size cI cB q_3 v_89 cap_89 (((((0 + rDig (nu mm)) + 1) + (sbL (kd mm)).length) + 1) + rDig (td mm)) f_89 (((((([]) ++ dgs (nu mm)) ++ [32]) ++ sbL (kd mm)) ++ [32]) ++ dgs (td mm)) 8 (aK 8) htx_89 (by omega) (by omega)) (cwV 1 hts gX0_textOf_J4_append_15ec4 rfl rfl rfl (by decide +kernel) ⟨Nat.le_of_ble_eq_true rfl, Nat.le_of_ble_eq_true rfl⟩) ⟨pcsK_blind, va_recv hK hP (ci := 0) (q0 := 0) rfl rfl, (pcsK_pre (pcs_pre (fun h => h) hE hS hPc hK hDc hFc) (haK 8 (by omega)))⟩ rfl rfl hl.1 rfl (lv_room (Nat.le_of_ble_eq_true rfl)) dX0_textOf_91 ⟨Nat.le_of_ble_eq_true rfl, Nat.le_of_ble_eq_true rfl⟩) hS (fun q _ h => hFc q h) hFc (fun u_95 r_94 t H1 locs1 ht hvm hw hB hz1 hk1 hS => ?_)
            obtain ⟨v_95, cap_95, f_95⟩ := u_95
            obtain ⟨hw1, hB⟩ := hB
            have hw1 : r_94 = q_3 := hw1
            rw [hw1]
            have htx_95 : tx cap_95 ((((((0 + rDig (nu mm)) + 1) + (sbL (kd mm)).length) + 1) + rDig (td mm)) + (sbL 8).length) f_95 ((((((([]) ++ dgs (nu mm)) ++ [32]) ++ sbL (kd mm)) ++ [32]) ++ dgs (td mm)) ++ sbL 8) := hw
            obtain ⟨hP, hD⟩ := aft (wr := []) (w1 := [(q_3, .inr (0, [.ref v_95, .int 0, .int 0, .int (nI ((((((0 + rDig (nu mm)) + 1) + (sbL (kd mm)).length) + 1) + rDig (td mm)) + (sbL 8).length))])), (v_95, .inl (cB, cap_95, .inl (ni f_95)))]) (w2 := [(q_3, .inr (0, [.ref v_95, .int 0, .int 0, .int (nI ((((((0 + rDig (nu mm)) + 1) + (sbL (kd mm)).length) + 1) + rDig (td mm)) + (sbL 8).length))])), (v_95, .inl (cB, cap_95, .inl (ni f_95)))]) hP hD [0, 1] [] [0, 1] rfl rfl (by decide) (by decide) hFc hk1 ht hB rfl (by decide) rfl
            clear hPc hDc hFc hk1 ht hB hz1 hvm
            generalize H1 = H at hP hS ⊢
            have hP : va_P D vwCl [(q_3, .inr (0, [.ref v_95, .int 0, .int 0, .int (nI ((((((0 + rDig (nu mm)) + 1) + (sbL (kd mm)).length) + 1) + rDig (td mm)) + (sbL 8).length))])), (v_95, .inl (cB, cap_95, .inl (ni f_95)))] H := hP
            have hD : va_D A [(q_3, .inr (0, [.ref v_95, .int 0, .int 0, .int (nI ((((((0 + rDig (nu mm)) + 1) + (sbL (kd mm)).length) + 1) + rDig (td mm)) + (sbL 8).length))])), (v_95, .inl (cB, cap_95, .inl (ni f_95)))] := hD
            refine lv_pop hx hb dX0_textOf_94 rfl ?_
            refine lv_aload_n hx hb dX0_textOf_95 rfl (lv_at hl 0 rfl) ?_
            refine W.widen (k := 3) (n := 54) (Nat.le_of_ble_eq_true rfl) (Nat.le_of_ble_eq_true rfl) ?_
            have hP9 := hP.sub (ws' := [(q_3, .inr (0, [.ref v_95, .int 0, .int 0, .int (nI ((((((0 + rDig (nu mm)) + 1) + (sbL (kd mm)).length) + 1) + rDig (td mm)) + (sbL 8).length))])), (v_95, .inl (cB, cap_95, .inl (ni f_95)))]) [0, 1] rfl
            have hD9 := hD.sub (ws' := [(q_3, .inr (0, [.ref v_95, .int 0, .int 0, .int (nI ((((((0 + rDig (nu mm)) + 1) + (sbL (kd mm)).length) + 1) + rDig (td mm)) + (sbL 8).length))])), (v_95, .inl (cB, cap_95, .inl (ni f_95)))]) [0, 1] (by decide) rfl
            have eT : textM mm = (((((([]) ++ dgs (nu mm)) ++ [32]) ++ sbL (kd mm)) ++ [32]) ++ dgs (td mm)) ++ sbL 8 := by
              unfold textM
              rw [if_pos (show kd mm = 3 ∨ kd mm = 4 ∨ kd mm = 5 by omega), if_neg c_91, if_pos c_93]
              simp only [List.nil_append, List.append_nil, List.append_assoc]
            have eF : (textM mm).length = (((((0 + rDig (nu mm)) + 1) + (sbL (kd mm)).length) + 1) + rDig (td mm)) + (sbL 8).length := by rw [eT]; exact htx_95.2.1.symm
            have hP9 : va_P D vwCl [(q_3, .inr (0, [.ref v_95, .int 0, .int 0, .int (nI ((textM mm).length))])), (v_95, .inl (cB, cap_95, .inl (ni f_95)))] H := by rw [eF]; exact hP9
            have hD9 : va_D A [(q_3, .inr (0, [.ref v_95, .int 0, .int 0, .int (nI ((textM mm).length))])), (v_95, .inl (cB, cap_95, .inl (ni f_95)))] := by rw [eF]; exact hD9
            exact W.aret (v := .ref q_3) hx hb hr (Or.inl ⟨_, rfl⟩) (Or.inr ⟨_, rfl⟩) (fun t ht hW => lfxn (v_95, cap_95, f_95) (by rw [eF, eT]; exact htx_95) hP9 hK hD9 hS ht hW) hS.2.2 dX0_textOf_96 hlocks
        · replace c_91 := b2i_n.mp c_91
          by_cases hfD : (((((0 + rDig (nu mm)) + 1) + (sbL (kd mm)).length) + 1) + rDig (td mm)) + 2 ≤ 16
          · refine lv_aload_n hx hb dX0_textOf_72 rfl (lv_at hl 0 rfl) ?_
            refine va_ldcS hx hb hown (strK.R (q := (43, " D")) (haK 7 (by decide)) rfl) dX0_textOf_73 ?_
            have hPc := hP
            have hDc := hD
            have hFc := va_free (wc := [(q_3, .inr (0, [.ref v_89, .int 0, .int 0, .int (nI (((((0 + rDig (nu mm)) + 1) + (sbL (kd mm)).length) + 1) + rDig (td mm)))])), (v_89, .inl (cB, cap_89, .inl (ni f_89)))]) hD hS hA [0, 1] rfl
            refine va_callr (va_runV (As := [.ref (aK 7)]) (rest := []) ⟨hx, hb, hml, hown, hts⟩ (c_J4_appS_f l D H.size cI cB q_3 v_89 cap_89 (((((0 + rDig (nu mm)) + 1) + (sbL (kd mm)).length) + 1) + rDig (td mm)) f_89 (((((([]) ++ dgs (nu mm)) ++ [32]) ++ sbL (kd mm)) ++ [32]) ++ dgs (td mm)) 7 (aK 7) htx_89 (by omega) (by omega)) (cwV 1 hts gX0_textOf_J4_append_15ec4 rfl rfl rfl (by decide +kernel) ⟨Nat.le_of_ble_eq_true rfl, Nat.le_of_ble_eq_true rfl⟩) ⟨pcsK_blind, va_recv hK hP (ci := 0) (q0 := 0) rfl rfl, (pcsK_pre (pcs_pre (fun h => h) hE hS hPc hK hDc hFc) (haK 7 (by omega)))⟩ rfl rfl hl.1 rfl (lv_room (Nat.le_of_ble_eq_true rfl)) dX0_textOf_75 ⟨Nat.le_of_ble_eq_true rfl, Nat.le_of_ble_eq_true rfl⟩) hS (fun q _ h => hFc q h) hFc (fun u_97 r_96 t H1 locs1 ht hvm hw hB hz1 hk1 hS => ?_)
            obtain ⟨v_97, cap_97, f_97⟩ := u_97
            obtain ⟨hw1, hB⟩ := hB
            have hw1 : r_96 = q_3 := hw1
            rw [hw1]
            have htx_97 : tx cap_97 ((((((0 + rDig (nu mm)) + 1) + (sbL (kd mm)).length) + 1) + rDig (td mm)) + (sbL 7).length) f_97 ((((((([]) ++ dgs (nu mm)) ++ [32]) ++ sbL (kd mm)) ++ [32]) ++ dgs (td mm)) ++ sbL 7) := hw.1
            have hcp_97 : cap_97 = cap_89 := hw.2
            obtain ⟨hP, hD⟩ := aft (wr := []) (w1 := [(q_3, .inr (0, [.ref v_97, .int 0, .int 0, .int (nI ((((((0 + rDig (nu mm)) + 1) + (sbL (kd mm)).length) + 1) + rDig (td mm)) + (sbL 7).length))])), (v_97, .inl (cB, cap_97, .inl (ni f_97)))]) (w2 := [(q_3, .inr (0, [.ref v_97, .int 0, .int 0, .int (nI ((((((0 + rDig (nu mm)) + 1) + (sbL (kd mm)).length) + 1) + rDig (td mm)) + (sbL 7).length))])), (v_97, .inl (cB, cap_97, .inl (ni f_97)))]) hP hD [0, 1] [] [0, 1] rfl rfl (by decide) (by decide) hFc hk1 ht hB rfl (by decide) rfl
            clear hPc hDc hFc hk1 ht hB hz1 hvm
            generalize H1 = H at hP hS ⊢
            have hP : va_P D vwCl [(q_3, .inr (0, [.ref v_97, .int 0, .int 0, .int (nI ((((((0 + rDig (nu mm)) + 1) + (sbL (kd mm)).length) + 1) + rDig (td mm)) + (sbL 7).length))])), (v_97, .inl (cB, cap_97, .inl (ni f_97)))] H := hP
            have hD : va_D A [(q_3, .inr (0, [.ref v_97, .int 0, .int 0, .int (nI ((((((0 + rDig (nu mm)) + 1) + (sbL (kd mm)).length) + 1) + rDig (td mm)) + (sbL 7).length))])), (v_97, .inl (cB, cap_97, .inl (ni f_97)))] := hD
            refine lv_pop hx hb dX0_textOf_78 rfl ?_
            refine lv_iload_n hx hb dX0_textOf_79 rfl (lv_at hl 2 rfl) ?_
            refine lv_ldc (v := 4194304) hx hb hown (hts (.constant RX0 45 4194304) (by decide +kernel)) dX0_textOf_80 ?_
            have hPc := hP.sub (ws' := []) [] rfl
            have hDc := hD.sub (ws' := []) [] (by decide) rfl
            have hFc := va_free (wc := []) hD hS hA [] rfl
            refine va_calli (va_runS (As := [.int (nI mm), .int 4194304]) (rest := []) ⟨hx, hb, hml, hown, hts⟩ (c_X0_isMarked_22 l D H.size cI mm) (va_cwS 2 hts gX0_textOf_X0_isMarked rfl rfl rfl (by decide +kernel) ⟨Nat.le_of_ble_eq_true rfl, Nat.le_of_ble_eq_true rfl⟩) ⟨pcs_blind, (pcs_pre (fun h => by cases h) hE hS hPc (hK.sub (tys' := [(cI, .int)]) [0] rfl) hDc hFc)⟩ rfl rfl hl.1 rfl (lv_room (Nat.le_of_ble_eq_true rfl)) dX0_textOf_82 ⟨Nat.le_of_ble_eq_true rfl, Nat.le_of_ble_eq_true rfl⟩) hS (fun q _ h => hFc q h) hFc (fun r_98 u t H1 locs1 ht hvm hw hB hz1 hk1 hS => ?_)
            have hw : r_98 = b2i (mm.testBit 22 = true) := hw
            subst hw
            obtain ⟨hP, hD⟩ := aft (wr := [(q_3, .inr (0, [.ref v_97, .int 0, .int 0, .int (nI ((((((0 + rDig (nu mm)) + 1) + (sbL (kd mm)).length) + 1) + rDig (td mm)) + (sbL 7).length))])), (v_97, .inl (cB, cap_97, .inl (ni f_97)))]) (w1 := []) (w2 := [(q_3, .inr (0, [.ref v_97, .int 0, .int 0, .int (nI ((((((0 + rDig (nu mm)) + 1) + (sbL (kd mm)).length) + 1) + rDig (td mm)) + (sbL 7).length))])), (v_97, .inl (cB, cap_97, .inl (ni f_97)))]) hP hD [] [0, 1] [0, 1] rfl rfl (by decide) (by decide) hFc hk1 ht hB rfl (by decide) rfl
            clear hPc hDc hFc hk1 ht hB hz1 hvm
            generalize H1 = H at hP hS ⊢
            have hP : va_P D vwCl [(q_3, .inr (0, [.ref v_97, .int 0, .int 0, .int (nI ((((((0 + rDig (nu mm)) + 1) + (sbL (kd mm)).length) + 1) + rDig (td mm)) + (sbL 7).length))])), (v_97, .inl (cB, cap_97, .inl (ni f_97)))] H := hP
            have hD : va_D A [(q_3, .inr (0, [.ref v_97, .int 0, .int 0, .int (nI ((((((0 + rDig (nu mm)) + 1) + (sbL (kd mm)).length) + 1) + rDig (td mm)) + (sbL 7).length))])), (v_97, .inl (cB, cap_97, .inl (ni f_97)))] := hD
            refine lv_if_eq (tgt := 95) hx hb dX0_textOf_85 (by decide) (fun c_99 => ?_) (fun c_99 => ?_)
            · replace c_99 := b2i_0.mp c_99
              refine lv_aload_n hx hb dX0_textOf_95 rfl (lv_at hl 0 rfl) ?_
              refine W.widen (k := 3) (n := 54) (Nat.le_of_ble_eq_true rfl) (Nat.le_of_ble_eq_true rfl) ?_
              have hP9 := hP.sub (ws' := [(q_3, .inr (0, [.ref v_97, .int 0, .int 0, .int (nI ((((((0 + rDig (nu mm)) + 1) + (sbL (kd mm)).length) + 1) + rDig (td mm)) + (sbL 7).length))])), (v_97, .inl (cB, cap_97, .inl (ni f_97)))]) [0, 1] rfl
              have hD9 := hD.sub (ws' := [(q_3, .inr (0, [.ref v_97, .int 0, .int 0, .int (nI ((((((0 + rDig (nu mm)) + 1) + (sbL (kd mm)).length) + 1) + rDig (td mm)) + (sbL 7).length))])), (v_97, .inl (cB, cap_97, .inl (ni f_97)))]) [0, 1] (by decide) rfl
              have eT : textM mm = (((((([]) ++ dgs (nu mm)) ++ [32]) ++ sbL (kd mm)) ++ [32]) ++ dgs (td mm)) ++ sbL 7 := by
                unfold textM
                rw [if_pos (show kd mm = 3 ∨ kd mm = 4 ∨ kd mm = 5 by omega), if_pos c_91, if_neg c_99]
                simp only [List.nil_append, List.append_nil, List.append_assoc]
              have eF : (textM mm).length = (((((0 + rDig (nu mm)) + 1) + (sbL (kd mm)).length) + 1) + rDig (td mm)) + (sbL 7).length := by rw [eT]; exact htx_97.2.1.symm
              have hP9 : va_P D vwCl [(q_3, .inr (0, [.ref v_97, .int 0, .int 0, .int (nI ((textM mm).length))])), (v_97, .inl (cB, cap_97, .inl (ni f_97)))] H := by rw [eF]; exact hP9
              have hD9 : va_D A [(q_3, .inr (0, [.ref v_97, .int 0, .int 0, .int (nI ((textM mm).length))])), (v_97, .inl (cB, cap_97, .inl (ni f_97)))] := by rw [eF]; exact hD9
              exact W.aret (v := .ref q_3) hx hb hr (Or.inl ⟨_, rfl⟩) (Or.inr ⟨_, rfl⟩) (fun t ht hW => lfxn (v_97, cap_97, f_97) (by rw [eF, eT]; exact htx_97) hP9 hK hD9 hS ht hW) hS.2.2 dX0_textOf_96 hlocks
            · replace c_99 := b2i_n.mp c_99
              refine lv_aload_n hx hb dX0_textOf_88 rfl (lv_at hl 0 rfl) ?_
              refine va_ldcS hx hb hown (strK.R (q := (46, " P")) (haK 8 (by decide)) rfl) dX0_textOf_89 ?_
              have hPc := hP
              have hDc := hD
              have hFc := va_free (wc := [(q_3, .inr (0, [.ref v_97, .int 0, .int 0, .int (nI ((((((0 + rDig (nu mm)) + 1) + (sbL (kd mm)).length) + 1) + rDig (td mm)) + (sbL 7).length))])), (v_97, .inl (cB, cap_97, .inl (ni f_97)))]) hD hS hA [0, 1] rfl
              refine va_callr (va_runV (As := [.ref (aK 8)]) (rest := []) ⟨hx, hb, hml, hown, hts⟩ (c_J4_append_15ec4 l D H.size cI cB q_3 v_97 cap_97 ((((((0 + rDig (nu mm)) + 1) + (sbL (kd mm)).length) + 1) + rDig (td mm)) + (sbL 7).length) f_97 ((((((([]) ++ dgs (nu mm)) ++ [32]) ++ sbL (kd mm)) ++ [32]) ++ dgs (td mm)) ++ sbL 7) 8 (aK 8) htx_97 (by omega) (by omega)) (cwV 1 hts gX0_textOf_J4_append_15ec4 rfl rfl rfl (by decide +kernel) ⟨Nat.le_of_ble_eq_true rfl, Nat.le_of_ble_eq_true rfl⟩) ⟨pcsK_blind, va_recv hK hP (ci := 0) (q0 := 0) rfl rfl, (pcsK_pre (pcs_pre (fun h => h) hE hS hPc hK hDc hFc) (haK 8 (by omega)))⟩ rfl rfl hl.1 rfl (lv_room (Nat.le_of_ble_eq_true rfl)) dX0_textOf_91 ⟨Nat.le_of_ble_eq_true rfl, Nat.le_of_ble_eq_true rfl⟩) hS (fun q _ h => hFc q h) hFc (fun u_101 r_100 t H1 locs1 ht hvm hw hB hz1 hk1 hS => ?_)
              obtain ⟨v_101, cap_101, f_101⟩ := u_101
              obtain ⟨hw1, hB⟩ := hB
              have hw1 : r_100 = q_3 := hw1
              rw [hw1]
              have htx_101 : tx cap_101 (((((((0 + rDig (nu mm)) + 1) + (sbL (kd mm)).length) + 1) + rDig (td mm)) + (sbL 7).length) + (sbL 8).length) f_101 (((((((([]) ++ dgs (nu mm)) ++ [32]) ++ sbL (kd mm)) ++ [32]) ++ dgs (td mm)) ++ sbL 7) ++ sbL 8) := hw
              obtain ⟨hP, hD⟩ := aft (wr := []) (w1 := [(q_3, .inr (0, [.ref v_101, .int 0, .int 0, .int (nI (((((((0 + rDig (nu mm)) + 1) + (sbL (kd mm)).length) + 1) + rDig (td mm)) + (sbL 7).length) + (sbL 8).length))])), (v_101, .inl (cB, cap_101, .inl (ni f_101)))]) (w2 := [(q_3, .inr (0, [.ref v_101, .int 0, .int 0, .int (nI (((((((0 + rDig (nu mm)) + 1) + (sbL (kd mm)).length) + 1) + rDig (td mm)) + (sbL 7).length) + (sbL 8).length))])), (v_101, .inl (cB, cap_101, .inl (ni f_101)))]) hP hD [0, 1] [] [0, 1] rfl rfl (by decide) (by decide) hFc hk1 ht hB rfl (by decide) rfl
              clear hPc hDc hFc hk1 ht hB hz1 hvm
              generalize H1 = H at hP hS ⊢
              have hP : va_P D vwCl [(q_3, .inr (0, [.ref v_101, .int 0, .int 0, .int (nI (((((((0 + rDig (nu mm)) + 1) + (sbL (kd mm)).length) + 1) + rDig (td mm)) + (sbL 7).length) + (sbL 8).length))])), (v_101, .inl (cB, cap_101, .inl (ni f_101)))] H := hP
              have hD : va_D A [(q_3, .inr (0, [.ref v_101, .int 0, .int 0, .int (nI (((((((0 + rDig (nu mm)) + 1) + (sbL (kd mm)).length) + 1) + rDig (td mm)) + (sbL 7).length) + (sbL 8).length))])), (v_101, .inl (cB, cap_101, .inl (ni f_101)))] := hD
              refine lv_pop hx hb dX0_textOf_94 rfl ?_
              refine lv_aload_n hx hb dX0_textOf_95 rfl (lv_at hl 0 rfl) ?_
              refine W.widen (k := 3) (n := 54) (Nat.le_of_ble_eq_true rfl) (Nat.le_of_ble_eq_true rfl) ?_
              have hP9 := hP.sub (ws' := [(q_3, .inr (0, [.ref v_101, .int 0, .int 0, .int (nI (((((((0 + rDig (nu mm)) + 1) + (sbL (kd mm)).length) + 1) + rDig (td mm)) + (sbL 7).length) + (sbL 8).length))])), (v_101, .inl (cB, cap_101, .inl (ni f_101)))]) [0, 1] rfl
              have hD9 := hD.sub (ws' := [(q_3, .inr (0, [.ref v_101, .int 0, .int 0, .int (nI (((((((0 + rDig (nu mm)) + 1) + (sbL (kd mm)).length) + 1) + rDig (td mm)) + (sbL 7).length) + (sbL 8).length))])), (v_101, .inl (cB, cap_101, .inl (ni f_101)))]) [0, 1] (by decide) rfl
              have eT : textM mm = ((((((([]) ++ dgs (nu mm)) ++ [32]) ++ sbL (kd mm)) ++ [32]) ++ dgs (td mm)) ++ sbL 7) ++ sbL 8 := by
                unfold textM
                rw [if_pos (show kd mm = 3 ∨ kd mm = 4 ∨ kd mm = 5 by omega), if_pos c_91, if_pos c_99]
                simp only [List.nil_append, List.append_nil, List.append_assoc]
              have eF : (textM mm).length = ((((((0 + rDig (nu mm)) + 1) + (sbL (kd mm)).length) + 1) + rDig (td mm)) + (sbL 7).length) + (sbL 8).length := by rw [eT]; exact htx_101.2.1.symm
              have hP9 : va_P D vwCl [(q_3, .inr (0, [.ref v_101, .int 0, .int 0, .int (nI ((textM mm).length))])), (v_101, .inl (cB, cap_101, .inl (ni f_101)))] H := by rw [eF]; exact hP9
              have hD9 : va_D A [(q_3, .inr (0, [.ref v_101, .int 0, .int 0, .int (nI ((textM mm).length))])), (v_101, .inl (cB, cap_101, .inl (ni f_101)))] := by rw [eF]; exact hD9
              exact W.aret (v := .ref q_3) hx hb hr (Or.inl ⟨_, rfl⟩) (Or.inr ⟨_, rfl⟩) (fun t ht hW => lfxn (v_101, cap_101, f_101) (by rw [eF, eT]; exact htx_101) hP9 hK hD9 hS ht hW) hS.2.2 dX0_textOf_96 hlocks
          · refine lv_aload_n hx hb dX0_textOf_72 rfl (lv_at hl 0 rfl) ?_
            refine va_ldcS hx hb hown (strK.R (q := (43, " D")) (haK 7 (by decide)) rfl) dX0_textOf_73 ?_
            have hPc := hP
            have hDc := hD
            have hFc := va_free (wc := [(q_3, .inr (0, [.ref v_89, .int 0, .int 0, .int (nI (((((0 + rDig (nu mm)) + 1) + (sbL (kd mm)).length) + 1) + rDig (td mm)))])), (v_89, .inl (cB, cap_89, .inl (ni f_89)))]) hD hS hA [0, 1] rfl
            refine va_callr (va_runV (As := [.ref (aK 7)]) (rest := []) ⟨hx, hb, hml, hown, hts⟩ (c_J4_append_15ec4 l D H.size cI cB q_3 v_89 cap_89 (((((0 + rDig (nu mm)) + 1) + (sbL (kd mm)).length) + 1) + rDig (td mm)) f_89 (((((([]) ++ dgs (nu mm)) ++ [32]) ++ sbL (kd mm)) ++ [32]) ++ dgs (td mm)) 7 (aK 7) htx_89 (by omega) (by omega)) (cwV 1 hts gX0_textOf_J4_append_15ec4 rfl rfl rfl (by decide +kernel) ⟨Nat.le_of_ble_eq_true rfl, Nat.le_of_ble_eq_true rfl⟩) ⟨pcsK_blind, va_recv hK hP (ci := 0) (q0 := 0) rfl rfl, (pcsK_pre (pcs_pre (fun h => h) hE hS hPc hK hDc hFc) (haK 7 (by omega)))⟩ rfl rfl hl.1 rfl (lv_room (Nat.le_of_ble_eq_true rfl)) dX0_textOf_75 ⟨Nat.le_of_ble_eq_true rfl, Nat.le_of_ble_eq_true rfl⟩) hS (fun q _ h => hFc q h) hFc (fun u_103 r_102 t H1 locs1 ht hvm hw hB hz1 hk1 hS => ?_)
            obtain ⟨v_103, cap_103, f_103⟩ := u_103
            obtain ⟨hw1, hB⟩ := hB
            have hw1 : r_102 = q_3 := hw1
            rw [hw1]
            have htx_103 : tx cap_103 ((((((0 + rDig (nu mm)) + 1) + (sbL (kd mm)).length) + 1) + rDig (td mm)) + (sbL 7).length) f_103 ((((((([]) ++ dgs (nu mm)) ++ [32]) ++ sbL (kd mm)) ++ [32]) ++ dgs (td mm)) ++ sbL 7) := hw
            obtain ⟨hP, hD⟩ := aft (wr := []) (w1 := [(q_3, .inr (0, [.ref v_103, .int 0, .int 0, .int (nI ((((((0 + rDig (nu mm)) + 1) + (sbL (kd mm)).length) + 1) + rDig (td mm)) + (sbL 7).length))])), (v_103, .inl (cB, cap_103, .inl (ni f_103)))]) (w2 := [(q_3, .inr (0, [.ref v_103, .int 0, .int 0, .int (nI ((((((0 + rDig (nu mm)) + 1) + (sbL (kd mm)).length) + 1) + rDig (td mm)) + (sbL 7).length))])), (v_103, .inl (cB, cap_103, .inl (ni f_103)))]) hP hD [0, 1] [] [0, 1] rfl rfl (by decide) (by decide) hFc hk1 ht hB rfl (by decide) rfl
            clear hPc hDc hFc hk1 ht hB hz1 hvm
            generalize H1 = H at hP hS ⊢
            have hP : va_P D vwCl [(q_3, .inr (0, [.ref v_103, .int 0, .int 0, .int (nI ((((((0 + rDig (nu mm)) + 1) + (sbL (kd mm)).length) + 1) + rDig (td mm)) + (sbL 7).length))])), (v_103, .inl (cB, cap_103, .inl (ni f_103)))] H := hP
            have hD : va_D A [(q_3, .inr (0, [.ref v_103, .int 0, .int 0, .int (nI ((((((0 + rDig (nu mm)) + 1) + (sbL (kd mm)).length) + 1) + rDig (td mm)) + (sbL 7).length))])), (v_103, .inl (cB, cap_103, .inl (ni f_103)))] := hD
            have hcp34 : cap_103 = 34 := by have h1 := htx_103.1; have h2 := htx_103.2.2.1; omega
            refine lv_pop hx hb dX0_textOf_78 rfl ?_
            refine lv_iload_n hx hb dX0_textOf_79 rfl (lv_at hl 2 rfl) ?_
            refine lv_ldc (v := 4194304) hx hb hown (hts (.constant RX0 45 4194304) (by decide +kernel)) dX0_textOf_80 ?_
            have hPc := hP.sub (ws' := []) [] rfl
            have hDc := hD.sub (ws' := []) [] (by decide) rfl
            have hFc := va_free (wc := []) hD hS hA [] rfl
            refine va_calli (va_runS (As := [.int (nI mm), .int 4194304]) (rest := []) ⟨hx, hb, hml, hown, hts⟩ (c_X0_isMarked_22 l D H.size cI mm) (va_cwS 2 hts gX0_textOf_X0_isMarked rfl rfl rfl (by decide +kernel) ⟨Nat.le_of_ble_eq_true rfl, Nat.le_of_ble_eq_true rfl⟩) ⟨pcs_blind, (pcs_pre (fun h => by cases h) hE hS hPc (hK.sub (tys' := [(cI, .int)]) [0] rfl) hDc hFc)⟩ rfl rfl hl.1 rfl (lv_room (Nat.le_of_ble_eq_true rfl)) dX0_textOf_82 ⟨Nat.le_of_ble_eq_true rfl, Nat.le_of_ble_eq_true rfl⟩) hS (fun q _ h => hFc q h) hFc (fun r_104 u t H1 locs1 ht hvm hw hB hz1 hk1 hS => ?_)
            have hw : r_104 = b2i (mm.testBit 22 = true) := hw
            subst hw
            obtain ⟨hP, hD⟩ := aft (wr := [(q_3, .inr (0, [.ref v_103, .int 0, .int 0, .int (nI ((((((0 + rDig (nu mm)) + 1) + (sbL (kd mm)).length) + 1) + rDig (td mm)) + (sbL 7).length))])), (v_103, .inl (cB, cap_103, .inl (ni f_103)))]) (w1 := []) (w2 := [(q_3, .inr (0, [.ref v_103, .int 0, .int 0, .int (nI ((((((0 + rDig (nu mm)) + 1) + (sbL (kd mm)).length) + 1) + rDig (td mm)) + (sbL 7).length))])), (v_103, .inl (cB, cap_103, .inl (ni f_103)))]) hP hD [] [0, 1] [0, 1] rfl rfl (by decide) (by decide) hFc hk1 ht hB rfl (by decide) rfl
            clear hPc hDc hFc hk1 ht hB hz1 hvm
            generalize H1 = H at hP hS ⊢
            have hP : va_P D vwCl [(q_3, .inr (0, [.ref v_103, .int 0, .int 0, .int (nI ((((((0 + rDig (nu mm)) + 1) + (sbL (kd mm)).length) + 1) + rDig (td mm)) + (sbL 7).length))])), (v_103, .inl (cB, cap_103, .inl (ni f_103)))] H := hP
            have hD : va_D A [(q_3, .inr (0, [.ref v_103, .int 0, .int 0, .int (nI ((((((0 + rDig (nu mm)) + 1) + (sbL (kd mm)).length) + 1) + rDig (td mm)) + (sbL 7).length))])), (v_103, .inl (cB, cap_103, .inl (ni f_103)))] := hD
            refine lv_if_eq (tgt := 95) hx hb dX0_textOf_85 (by decide) (fun c_105 => ?_) (fun c_105 => ?_)
            · replace c_105 := b2i_0.mp c_105
              refine lv_aload_n hx hb dX0_textOf_95 rfl (lv_at hl 0 rfl) ?_
              refine W.widen (k := 3) (n := 54) (Nat.le_of_ble_eq_true rfl) (Nat.le_of_ble_eq_true rfl) ?_
              have hP9 := hP.sub (ws' := [(q_3, .inr (0, [.ref v_103, .int 0, .int 0, .int (nI ((((((0 + rDig (nu mm)) + 1) + (sbL (kd mm)).length) + 1) + rDig (td mm)) + (sbL 7).length))])), (v_103, .inl (cB, cap_103, .inl (ni f_103)))]) [0, 1] rfl
              have hD9 := hD.sub (ws' := [(q_3, .inr (0, [.ref v_103, .int 0, .int 0, .int (nI ((((((0 + rDig (nu mm)) + 1) + (sbL (kd mm)).length) + 1) + rDig (td mm)) + (sbL 7).length))])), (v_103, .inl (cB, cap_103, .inl (ni f_103)))]) [0, 1] (by decide) rfl
              have eT : textM mm = (((((([]) ++ dgs (nu mm)) ++ [32]) ++ sbL (kd mm)) ++ [32]) ++ dgs (td mm)) ++ sbL 7 := by
                unfold textM
                rw [if_pos (show kd mm = 3 ∨ kd mm = 4 ∨ kd mm = 5 by omega), if_pos c_91, if_neg c_105]
                simp only [List.nil_append, List.append_nil, List.append_assoc]
              have eF : (textM mm).length = (((((0 + rDig (nu mm)) + 1) + (sbL (kd mm)).length) + 1) + rDig (td mm)) + (sbL 7).length := by rw [eT]; exact htx_103.2.1.symm
              have hP9 : va_P D vwCl [(q_3, .inr (0, [.ref v_103, .int 0, .int 0, .int (nI ((textM mm).length))])), (v_103, .inl (cB, cap_103, .inl (ni f_103)))] H := by rw [eF]; exact hP9
              have hD9 : va_D A [(q_3, .inr (0, [.ref v_103, .int 0, .int 0, .int (nI ((textM mm).length))])), (v_103, .inl (cB, cap_103, .inl (ni f_103)))] := by rw [eF]; exact hD9
              exact W.aret (v := .ref q_3) hx hb hr (Or.inl ⟨_, rfl⟩) (Or.inr ⟨_, rfl⟩) (fun t ht hW => lfxn (v_103, cap_103, f_103) (by rw [eF, eT]; exact htx_103) hP9 hK hD9 hS ht hW) hS.2.2 dX0_textOf_96 hlocks
            · replace c_105 := b2i_n.mp c_105
              refine lv_aload_n hx hb dX0_textOf_88 rfl (lv_at hl 0 rfl) ?_
              refine va_ldcS hx hb hown (strK.R (q := (46, " P")) (haK 8 (by decide)) rfl) dX0_textOf_89 ?_
              have hPc := hP
              have hDc := hD
              have hFc := va_free (wc := [(q_3, .inr (0, [.ref v_103, .int 0, .int 0, .int (nI ((((((0 + rDig (nu mm)) + 1) + (sbL (kd mm)).length) + 1) + rDig (td mm)) + (sbL 7).length))])), (v_103, .inl (cB, cap_103, .inl (ni f_103)))]) hD hS hA [0, 1] rfl
              refine va_callr (va_runV (As := [.ref (aK 8)]) (rest := []) ⟨hx, hb, hml, hown, hts⟩ (c_J4_appS_f l D H.size cI cB q_3 v_103 cap_103 ((((((0 + rDig (nu mm)) + 1) + (sbL (kd mm)).length) + 1) + rDig (td mm)) + (sbL 7).length) f_103 ((((((([]) ++ dgs (nu mm)) ++ [32]) ++ sbL (kd mm)) ++ [32]) ++ dgs (td mm)) ++ sbL 7) 8 (aK 8) htx_103 (by omega) (by omega)) (cwV 1 hts gX0_textOf_J4_append_15ec4 rfl rfl rfl (by decide +kernel) ⟨Nat.le_of_ble_eq_true rfl, Nat.le_of_ble_eq_true rfl⟩) ⟨pcsK_blind, va_recv hK hP (ci := 0) (q0 := 0) rfl rfl, (pcsK_pre (pcs_pre (fun h => h) hE hS hPc hK hDc hFc) (haK 8 (by omega)))⟩ rfl rfl hl.1 rfl (lv_room (Nat.le_of_ble_eq_true rfl)) dX0_textOf_91 ⟨Nat.le_of_ble_eq_true rfl, Nat.le_of_ble_eq_true rfl⟩) hS (fun q _ h => hFc q h) hFc (fun u_107 r_106 t H1 locs1 ht hvm hw hB hz1 hk1 hS => ?_)
              obtain ⟨v_107, cap_107, f_107⟩ := u_107
              obtain ⟨hw1, hB⟩ := hB
              have hw1 : r_106 = q_3 := hw1
              rw [hw1]
              have htx_107 : tx cap_107 (((((((0 + rDig (nu mm)) + 1) + (sbL (kd mm)).length) + 1) + rDig (td mm)) + (sbL 7).length) + (sbL 8).length) f_107 (((((((([]) ++ dgs (nu mm)) ++ [32]) ++ sbL (kd mm)) ++ [32]) ++ dgs (td mm)) ++ sbL 7) ++ sbL 8) := hw.1
              have hcp_107 : cap_107 = cap_103 := hw.2
              obtain ⟨hP, hD⟩ := aft (wr := []) (w1 := [(q_3, .inr (0, [.ref v_107, .int 0, .int 0, .int (nI (((((((0 + rDig (nu mm)) + 1) + (sbL (kd mm)).length) + 1) + rDig (td mm)) + (sbL 7).length) + (sbL 8).length))])), (v_107, .inl (cB, cap_107, .inl (ni f_107)))]) (w2 := [(q_3, .inr (0, [.ref v_107, .int 0, .int 0, .int (nI (((((((0 + rDig (nu mm)) + 1) + (sbL (kd mm)).length) + 1) + rDig (td mm)) + (sbL 7).length) + (sbL 8).length))])), (v_107, .inl (cB, cap_107, .inl (ni f_107)))]) hP hD [0, 1] [] [0, 1] rfl rfl (by decide) (by decide) hFc hk1 ht hB rfl (by decide) rfl
              clear hPc hDc hFc hk1 ht hB hz1 hvm
              generalize H1 = H at hP hS ⊢
              have hP : va_P D vwCl [(q_3, .inr (0, [.ref v_107, .int 0, .int 0, .int (nI (((((((0 + rDig (nu mm)) + 1) + (sbL (kd mm)).length) + 1) + rDig (td mm)) + (sbL 7).length) + (sbL 8).length))])), (v_107, .inl (cB, cap_107, .inl (ni f_107)))] H := hP
              have hD : va_D A [(q_3, .inr (0, [.ref v_107, .int 0, .int 0, .int (nI (((((((0 + rDig (nu mm)) + 1) + (sbL (kd mm)).length) + 1) + rDig (td mm)) + (sbL 7).length) + (sbL 8).length))])), (v_107, .inl (cB, cap_107, .inl (ni f_107)))] := hD
              refine lv_pop hx hb dX0_textOf_94 rfl ?_
              refine lv_aload_n hx hb dX0_textOf_95 rfl (lv_at hl 0 rfl) ?_
              refine W.widen (k := 3) (n := 54) (Nat.le_of_ble_eq_true rfl) (Nat.le_of_ble_eq_true rfl) ?_
              have hP9 := hP.sub (ws' := [(q_3, .inr (0, [.ref v_107, .int 0, .int 0, .int (nI (((((((0 + rDig (nu mm)) + 1) + (sbL (kd mm)).length) + 1) + rDig (td mm)) + (sbL 7).length) + (sbL 8).length))])), (v_107, .inl (cB, cap_107, .inl (ni f_107)))]) [0, 1] rfl
              have hD9 := hD.sub (ws' := [(q_3, .inr (0, [.ref v_107, .int 0, .int 0, .int (nI (((((((0 + rDig (nu mm)) + 1) + (sbL (kd mm)).length) + 1) + rDig (td mm)) + (sbL 7).length) + (sbL 8).length))])), (v_107, .inl (cB, cap_107, .inl (ni f_107)))]) [0, 1] (by decide) rfl
              have eT : textM mm = ((((((([]) ++ dgs (nu mm)) ++ [32]) ++ sbL (kd mm)) ++ [32]) ++ dgs (td mm)) ++ sbL 7) ++ sbL 8 := by
                unfold textM
                rw [if_pos (show kd mm = 3 ∨ kd mm = 4 ∨ kd mm = 5 by omega), if_pos c_91, if_pos c_105]
                simp only [List.nil_append, List.append_nil, List.append_assoc]
              have eF : (textM mm).length = ((((((0 + rDig (nu mm)) + 1) + (sbL (kd mm)).length) + 1) + rDig (td mm)) + (sbL 7).length) + (sbL 8).length := by rw [eT]; exact htx_107.2.1.symm
              have hP9 : va_P D vwCl [(q_3, .inr (0, [.ref v_107, .int 0, .int 0, .int (nI ((textM mm).length))])), (v_107, .inl (cB, cap_107, .inl (ni f_107)))] H := by rw [eF]; exact hP9
              have hD9 : va_D A [(q_3, .inr (0, [.ref v_107, .int 0, .int 0, .int (nI ((textM mm).length))])), (v_107, .inl (cB, cap_107, .inl (ni f_107)))] := by rw [eF]; exact hD9
              exact W.aret (v := .ref q_3) hx hb hr (Or.inl ⟨_, rfl⟩) (Or.inr ⟨_, rfl⟩) (fun t ht hW => lfxn (v_107, cap_107, f_107) (by rw [eF, eT]; exact htx_107) hP9 hK hD9 hS ht hW) hS.2.2 dX0_textOf_96 hlocks
set_option maxHeartbeats 4000000 in
set_option maxRecDepth 100000 in
theorem c_X4_textLength (l : Launch) (D : va_G) (sz : Nat) (cI : ClassId) (cB : ClassId) (h : Nat) (zz : Nat) (oo : Nat) (tm : Int32) (p0 : Int32) (p1 : Int32) (q1 : Nat → Nat) (x1 : Nat → Int32) (n1 : Nat → Nat) (a1 : Nat → Nat → Nat) (q2 : Nat → Nat) (hlt : l.stackTraces = false) (hz : p0 = 0 → zz = q1 0 ∧ oo = q2 0) (ho : ¬ p0 = 0 → oo = q1 0 ∧ zz = q2 0) (hbd1 : bd n1) (htm : ∀ j, j < n1 10 → okm (a1 2 j)) : CX l yX4_textLength wsX4_textLength ({ frames := 8, cells := 5, slots := 66, locals := 170 }) true D ([(cI, .int), (cB, .byte)]) [(h, .inr (4, [.ref zz, .ref oo, .int tm])), (q1 0, .inr (1, [.ref (q1 1), .ref (q1 2), .int (x1 0), .int (x1 1), .int (x1 2), .int (x1 3), .int (x1 4), .int (x1 5)])), (q1 2, .inr (3, [.ref (q1 5), .int (nI (n1 10))])), (q1 5, .inl (cI, 60, .inl (ni (a1 2))))] sz [.ref h, .int p0, .int p1] (qi D ([(cI, .int), (cB, .byte)]) (fun r => (((p0 = 0 ∨ p0 = 1) ∧ ¬ p1 < 0 ∧ p1 < nI (n1 10))) ∧ r = nI ((textM ((a1 2) p1.toNatClampNeg)).length)) [(h, .inr (4, [.ref zz, .ref oo, .int tm])), (q1 0, .inr (1, [.ref (q1 1), .ref (q1 2), .int (x1 0), .int (x1 1), .int (x1 2), .int (x1 3), .int (x1 4), .int (x1 5)])), (q1 2, .inr (3, [.ref (q1 5), .int (nI (n1 10))])), (q1 5, .inl (cI, 60, .inl (ni (a1 2))))]) (fun E => E = IO ∧ ¬ (((p0 = 0 ∨ p0 = 1) ∧ ¬ p1 < 0 ∧ p1 < nI (n1 10)))) 5 66 := by
  refine CX.of (cc := cX4_textLength) (maxL := 3) (ret := (some .int)) (by decide) rfl (Nat.le_of_ble_eq_true rfl) ?_
  intro A p e s m args below meth c ls H locs En0 htab argsE hP hK hD hE hA hS hl
  obtain ⟨hx, hb, hr, hml, hown, hts, hlocks, hin⟩ := En0
  have hEw := (hE rfl).1
  have hP : va_P D vwCl [(h, .inr (4, [.ref zz, .ref oo, .int tm])), (q1 0, .inr (1, [.ref (q1 1), .ref (q1 2), .int (x1 0), .int (x1 1), .int (x1 2), .int (x1 3), .int (x1 4), .int (x1 5)])), (q1 2, .inr (3, [.ref (q1 5), .int (nI (n1 10))])), (q1 5, .inl (cI, 60, .inl (ni (a1 2))))] H := hP
  have hD : va_D A [(h, .inr (4, [.ref zz, .ref oo, .int tm])), (q1 0, .inr (1, [.ref (q1 1), .ref (q1 2), .int (x1 0), .int (x1 1), .int (x1 2), .int (x1 3), .int (x1 4), .int (x1 5)])), (q1 2, .inr (3, [.ref (q1 5), .int (nI (n1 10))])), (q1 5, .inl (cI, 60, .inl (ni (a1 2))))] := hD
  have hl : lv_has ls 3 [(0, .ref h), (1, .int p0), (2, .int p1)] := hl
  obtain ⟨hb6, hb7, hb8, hb10⟩ := id hbd1
  refine lv_aload_n hx hb dX4_textLength_0 rfl (lv_at hl 0 rfl) ?_
  refine lv_iload_n hx hb dX4_textLength_1 rfl (lv_at hl 1 rfl) ?_
  refine lv_iload_n hx hb dX4_textLength_2 rfl (lv_at hl 2 rfl) ?_
  have hPc := hP
  have hDc := hD
  have hFc := va_free (wc := [(h, .inr (4, [.ref zz, .ref oo, .int tm])), (q1 0, .inr (1, [.ref (q1 1), .ref (q1 2), .int (x1 0), .int (x1 1), .int (x1 2), .int (x1 3), .int (x1 4), .int (x1 5)])), (q1 2, .inr (3, [.ref (q1 5), .int (nI (n1 10))])), (q1 5, .inl (cI, 60, .inl (ni (a1 2))))]) hD hS hA [0, 1, 2, 3] rfl
  refine vx_calli (vx_runV (As := [.int p0, .int p1]) (rest := []) ⟨hx, hb, hml, hown, hts⟩ (c_X4_messageAt l D H.size cI h zz oo tm p0 p1 q1 x1 n1 a1 q2 (by assumption) (by assumption) (by assumption) (by first | assumption | exact bd_7 (by assumption) (by omega))) (cwV 2 hts gX4_textLength_X4_messageAt rfl rfl rfl (by decide +kernel) ⟨Nat.le_of_ble_eq_true rfl, Nat.le_of_ble_eq_true rfl⟩) ⟨pcs_blind, va_recv hK hP (ci := 4) (q0 := 0) rfl rfl, (pcs_pre (fun h => h) hE hS hPc (hK.sub (tys' := [(cI, .int)]) [0] rfl) hDc hFc)⟩ rfl rfl hl.1 rfl (lv_room (Nat.le_of_ble_eq_true rfl)) dX4_textLength_3 ⟨Nat.le_of_ble_eq_true rfl, Nat.le_of_ble_eq_true rfl⟩) hS (fun q _ h => hFc q h) hFc (fun q _ h => hFc q h) (fun E ce q_2 u t H1 locs1 ht hvm hw hB hz1 hk1 hS hce hcv hcl => ?_) (fun r_1 u t H1 locs1 ht hvm hw hB hz1 hk1 hS => ?_)
  · obtain ⟨hpx, hB⟩ := hB
    obtain ⟨hP, hD⟩ := aftW hFc ht hB
    clear hPc hDc hFc hk1 ht hB hz1 hvm
    generalize H1 = H at hP hS hce ⊢
    have hP : va_P D vwCl [(h, .inr (4, [.ref zz, .ref oo, .int tm])), (q1 0, .inr (1, [.ref (q1 1), .ref (q1 2), .int (x1 0), .int (x1 1), .int (x1 2), .int (x1 3), .int (x1 4), .int (x1 5)])), (q1 2, .inr (3, [.ref (q1 5), .int (nI (n1 10))])), (q1 5, .inl (cI, 60, .inl (ni (a1 2))))] H := hP
    have hD : va_D A [(h, .inr (4, [.ref zz, .ref oo, .int tm])), (q1 0, .inr (1, [.ref (q1 1), .ref (q1 2), .int (x1 0), .int (x1 1), .int (x1 2), .int (x1 3), .int (x1 4), .int (x1 5)])), (q1 2, .inr (3, [.ref (q1 5), .int (nI (n1 10))])), (q1 5, .inl (cI, 60, .inl (ni (a1 2))))] := hD
    exact vx_out (fun x hx9 => (htab x hx9).elim) hlocks hce hcv hcl (fun t ht hvm => ⟨(), trivial, ⟨hpx, lfbX hP hK hD ht hvm⟩, hS.F ht⟩) hS.2.2 (Nat.le_of_ble_eq_true rfl) (Nat.le_of_ble_eq_true rfl)
  · skip
    obtain ⟨hcond, hw⟩ := hw
    have hw : r_1 = nI ((a1 2) p1.toNatClampNeg) := hw
    subst hw
    have k_3 := hcond
    have hok9 : okm (a1 2 p1.toNatClampNeg) := htm _ (ix_cl k_3.2.1 k_3.2.2 (by omega))
    have hln9 := textM_len _ hok9.2.1
    obtain ⟨hP, hD⟩ := aftW hFc ht hB
    clear hPc hDc hFc hk1 ht hB hz1 hvm
    generalize H1 = H at hP hS ⊢
    have hP : va_P D vwCl [(h, .inr (4, [.ref zz, .ref oo, .int tm])), (q1 0, .inr (1, [.ref (q1 1), .ref (q1 2), .int (x1 0), .int (x1 1), .int (x1 2), .int (x1 3), .int (x1 4), .int (x1 5)])), (q1 2, .inr (3, [.ref (q1 5), .int (nI (n1 10))])), (q1 5, .inl (cI, 60, .inl (ni (a1 2))))] H := hP
    have hD : va_D A [(h, .inr (4, [.ref zz, .ref oo, .int tm])), (q1 0, .inr (1, [.ref (q1 1), .ref (q1 2), .int (x1 0), .int (x1 1), .int (x1 2), .int (x1 3), .int (x1 4), .int (x1 5)])), (q1 2, .inr (3, [.ref (q1 5), .int (nI (n1 10))])), (q1 5, .inl (cI, 60, .inl (ni (a1 2))))] := hD
    have hPc := hP.sub (ws' := []) [] rfl
    have hDc := hD.sub (ws' := []) [] (by decide) rfl
    have hFc := va_free (wc := []) hD hS hA [] rfl
    refine va_callr (va_runS (As := [.int (nI ((a1 2) p1.toNatClampNeg))]) (rest := []) ⟨hx, hb, hml, hown, hts⟩ (c_X0_textOf l D H.size cI cB ((a1 2) p1.toNatClampNeg) hok9) (va_cwS 1 hts gX4_textLength_X0_textOf rfl rfl rfl (by decide +kernel) ⟨Nat.le_of_ble_eq_true rfl, Nat.le_of_ble_eq_true rfl⟩) ⟨pcs_blind, (pcs_pre (fun h => h) hE hS hPc hK hDc hFc)⟩ rfl rfl hl.1 rfl (lv_room (Nat.le_of_ble_eq_true rfl)) dX4_textLength_6 ⟨Nat.le_of_ble_eq_true rfl, Nat.le_of_ble_eq_true rfl⟩) hS (fun q _ h => hFc q h) hFc (fun u_5 r_4 t H1 locs1 ht hvm hw hB hz1 hk1 hS => ?_)
    obtain ⟨v_5, cap_5, f_5⟩ := u_5
    have htx_5 : tx cap_5 ((textM ((a1 2) p1.toNatClampNeg)).length) f_5 (textM ((a1 2) p1.toNatClampNeg)) := hw
    obtain ⟨hP, hD⟩ := aft (wr := [(h, .inr (4, [.ref zz, .ref oo, .int tm])), (q1 0, .inr (1, [.ref (q1 1), .ref (q1 2), .int (x1 0), .int (x1 1), .int (x1 2), .int (x1 3), .int (x1 4), .int (x1 5)])), (q1 2, .inr (3, [.ref (q1 5), .int (nI (n1 10))])), (q1 5, .inl (cI, 60, .inl (ni (a1 2))))]) (w1 := [(r_4, .inr (0, [.ref v_5, .int 0, .int 0, .int (nI ((textM ((a1 2) p1.toNatClampNeg)).length))])), (v_5, .inl (cB, cap_5, .inl (ni f_5)))]) (w2 := [(h, .inr (4, [.ref zz, .ref oo, .int tm])), (q1 0, .inr (1, [.ref (q1 1), .ref (q1 2), .int (x1 0), .int (x1 1), .int (x1 2), .int (x1 3), .int (x1 4), .int (x1 5)])), (q1 2, .inr (3, [.ref (q1 5), .int (nI (n1 10))])), (q1 5, .inl (cI, 60, .inl (ni (a1 2)))), (r_4, .inr (0, [.ref v_5, .int 0, .int 0, .int (nI ((textM ((a1 2) p1.toNatClampNeg)).length))])), (v_5, .inl (cB, cap_5, .inl (ni f_5)))]) hP hD [] [0, 1, 2, 3] [0, 1, 2, 3, 4, 5] rfl rfl (by decide) (by decide) hFc hk1 ht hB rfl (by decide) rfl
    clear hPc hDc hFc hk1 ht hB hz1 hvm
    generalize H1 = H at hP hS ⊢
    have hP : va_P D vwCl [(h, .inr (4, [.ref zz, .ref oo, .int tm])), (q1 0, .inr (1, [.ref (q1 1), .ref (q1 2), .int (x1 0), .int (x1 1), .int (x1 2), .int (x1 3), .int (x1 4), .int (x1 5)])), (q1 2, .inr (3, [.ref (q1 5), .int (nI (n1 10))])), (q1 5, .inl (cI, 60, .inl (ni (a1 2)))), (r_4, .inr (0, [.ref v_5, .int 0, .int 0, .int (nI ((textM ((a1 2) p1.toNatClampNeg)).length))])), (v_5, .inl (cB, cap_5, .inl (ni f_5)))] H := hP
    have hD : va_D A [(h, .inr (4, [.ref zz, .ref oo, .int tm])), (q1 0, .inr (1, [.ref (q1 1), .ref (q1 2), .int (x1 0), .int (x1 1), .int (x1 2), .int (x1 3), .int (x1 4), .int (x1 5)])), (q1 2, .inr (3, [.ref (q1 5), .int (nI (n1 10))])), (q1 5, .inl (cI, 60, .inl (ni (a1 2)))), (r_4, .inr (0, [.ref v_5, .int 0, .int 0, .int (nI ((textM ((a1 2) p1.toNatClampNeg)).length))])), (v_5, .inl (cB, cap_5, .inl (ni f_5)))] := hD
    have hPc := hP.sub (ws' := [(r_4, .inr (0, [.ref v_5, .int 0, .int 0, .int (nI ((textM ((a1 2) p1.toNatClampNeg)).length))]))]) [4] rfl
    have hDc := hD.sub (ws' := [(r_4, .inr (0, [.ref v_5, .int 0, .int 0, .int (nI ((textM ((a1 2) p1.toNatClampNeg)).length))]))]) [4] (by decide) rfl
    have hFc := va_free (wc := [(r_4, .inr (0, [.ref v_5, .int 0, .int 0, .int (nI ((textM ((a1 2) p1.toNatClampNeg)).length))]))]) hD hS hA [4] rfl
    refine va_calli (va_runV (As := []) (rest := []) ⟨hx, hb, hml, hown, hts⟩ (c_J4_length_8abf5 l D H.size cI cB r_4 v_5 ((textM ((a1 2) p1.toNatClampNeg)).length)) (cwV 0 hts gX4_textLength_J4_length_8abf5 rfl rfl rfl (by decide +kernel) ⟨Nat.le_of_ble_eq_true rfl, Nat.le_of_ble_eq_true rfl⟩) ⟨pcs_blind, va_recv hK hP (ci := 0) (q0 := 4) rfl rfl, (pcs_pre (fun h => by cases h) hE hS hPc hK hDc hFc)⟩ rfl rfl hl.1 rfl (lv_room (Nat.le_of_ble_eq_true rfl)) dX4_textLength_9 ⟨Nat.le_of_ble_eq_true rfl, Nat.le_of_ble_eq_true rfl⟩) hS (fun q _ h => hFc q h) hFc (fun r_6 u t H1 locs1 ht hvm hw hB hz1 hk1 hS => ?_)
    have hw : r_6 = nI ((textM ((a1 2) p1.toNatClampNeg)).length) := hw
    subst hw
    obtain ⟨hP, hD⟩ := aft (wr := [(h, .inr (4, [.ref zz, .ref oo, .int tm])), (q1 0, .inr (1, [.ref (q1 1), .ref (q1 2), .int (x1 0), .int (x1 1), .int (x1 2), .int (x1 3), .int (x1 4), .int (x1 5)])), (q1 2, .inr (3, [.ref (q1 5), .int (nI (n1 10))])), (q1 5, .inl (cI, 60, .inl (ni (a1 2)))), (v_5, .inl (cB, cap_5, .inl (ni f_5)))]) (w1 := [(r_4, .inr (0, [.ref v_5, .int 0, .int 0, .int (nI ((textM ((a1 2) p1.toNatClampNeg)).length))]))]) (w2 := [(h, .inr (4, [.ref zz, .ref oo, .int tm])), (q1 0, .inr (1, [.ref (q1 1), .ref (q1 2), .int (x1 0), .int (x1 1), .int (x1 2), .int (x1 3), .int (x1 4), .int (x1 5)])), (q1 2, .inr (3, [.ref (q1 5), .int (nI (n1 10))])), (q1 5, .inl (cI, 60, .inl (ni (a1 2)))), (r_4, .inr (0, [.ref v_5, .int 0, .int 0, .int (nI ((textM ((a1 2) p1.toNatClampNeg)).length))])), (v_5, .inl (cB, cap_5, .inl (ni f_5)))]) hP hD [4] [0, 1, 2, 3, 5] [0, 1, 2, 3, 5, 4] rfl rfl (by decide) (by decide) hFc hk1 ht hB rfl (by decide) rfl
    clear hPc hDc hFc hk1 ht hB hz1 hvm
    generalize H1 = H at hP hS ⊢
    have hP : va_P D vwCl [(h, .inr (4, [.ref zz, .ref oo, .int tm])), (q1 0, .inr (1, [.ref (q1 1), .ref (q1 2), .int (x1 0), .int (x1 1), .int (x1 2), .int (x1 3), .int (x1 4), .int (x1 5)])), (q1 2, .inr (3, [.ref (q1 5), .int (nI (n1 10))])), (q1 5, .inl (cI, 60, .inl (ni (a1 2)))), (r_4, .inr (0, [.ref v_5, .int 0, .int 0, .int (nI ((textM ((a1 2) p1.toNatClampNeg)).length))])), (v_5, .inl (cB, cap_5, .inl (ni f_5)))] H := hP
    have hD : va_D A [(h, .inr (4, [.ref zz, .ref oo, .int tm])), (q1 0, .inr (1, [.ref (q1 1), .ref (q1 2), .int (x1 0), .int (x1 1), .int (x1 2), .int (x1 3), .int (x1 4), .int (x1 5)])), (q1 2, .inr (3, [.ref (q1 5), .int (nI (n1 10))])), (q1 5, .inl (cI, 60, .inl (ni (a1 2)))), (r_4, .inr (0, [.ref v_5, .int 0, .int 0, .int (nI ((textM ((a1 2) p1.toNatClampNeg)).length))])), (v_5, .inl (cB, cap_5, .inl (ni f_5)))] := hD
    have hP := hP.sub (ws' := [(h, .inr (4, [.ref zz, .ref oo, .int tm])), (q1 0, .inr (1, [.ref (q1 1), .ref (q1 2), .int (x1 0), .int (x1 1), .int (x1 2), .int (x1 3), .int (x1 4), .int (x1 5)])), (q1 2, .inr (3, [.ref (q1 5), .int (nI (n1 10))])), (q1 5, .inl (cI, 60, .inl (ni (a1 2))))]) [0, 1, 2, 3] rfl
    have hD := hD.sub (ws' := [(h, .inr (4, [.ref zz, .ref oo, .int tm])), (q1 0, .inr (1, [.ref (q1 1), .ref (q1 2), .int (x1 0), .int (x1 1), .int (x1 2), .int (x1 3), .int (x1 4), .int (x1 5)])), (q1 2, .inr (3, [.ref (q1 5), .int (nI (n1 10))])), (q1 5, .inl (cI, 60, .inl (ni (a1 2))))]) [0, 1, 2, 3] (by decide) rfl
    refine W.widen (k := 5) (n := 66) (Nat.le_of_ble_eq_true rfl) (Nat.le_of_ble_eq_true rfl) ?_
    refine vx_ret ?_
    exact W.iret (v := nI ((textM ((a1 2) p1.toNatClampNeg)).length)) hx hb hr (fun t ht hW => lfc (k_3) rfl hP hK hD hS ht hW) hS.2.2 dX4_textLength_12 hlocks
set_option maxRecDepth 40000 in
theorem ath_X4_textChar_78 : ∀ w ∈ (vx_at0 RX4 78 "java/lang/IndexOutOfBoundsException" nms).filter goodWord, w ∈ wsX4_textChar := by decide +kernel
set_option maxHeartbeats 4000000 in
set_option maxRecDepth 100000 in
theorem c_X4_textChar (l : Launch) (D : va_G) (sz : Nat) (cI : ClassId) (cB : ClassId) (h : Nat) (zz : Nat) (oo : Nat) (tm : Int32) (p0 : Int32) (p1 : Int32) (p2 : Int32) (q1 : Nat → Nat) (x1 : Nat → Int32) (n1 : Nat → Nat) (a1 : Nat → Nat → Nat) (q2 : Nat → Nat) (hlt : l.stackTraces = false) (hz : p0 = 0 → zz = q1 0 ∧ oo = q2 0) (ho : ¬ p0 = 0 → oo = q1 0 ∧ zz = q2 0) (hbd1 : bd n1) (htm : ∀ j, j < n1 10 → okm (a1 2 j)) : CX l yX4_textChar wsX4_textChar ({ frames := 8, cells := 6, slots := 72, locals := 170 }) true D ([(cI, .int), (cB, .byte)]) [(h, .inr (4, [.ref zz, .ref oo, .int tm])), (q1 0, .inr (1, [.ref (q1 1), .ref (q1 2), .int (x1 0), .int (x1 1), .int (x1 2), .int (x1 3), .int (x1 4), .int (x1 5)])), (q1 2, .inr (3, [.ref (q1 5), .int (nI (n1 10))])), (q1 5, .inl (cI, 60, .inl (ni (a1 2))))] sz [.ref h, .int p0, .int p1, .int p2] (qi D ([(cI, .int), (cB, .byte)]) (fun r => (((p0 = 0 ∨ p0 = 1) ∧ ¬ p1 < 0 ∧ p1 < nI (n1 10)) ∧ ¬ p2 < 0 ∧ p2 < nI (textM (a1 2 p1.toNatClampNeg)).length) ∧ r = nI ((textM ((a1 2) p1.toNatClampNeg)).getD p2.toNatClampNeg 0)) [(h, .inr (4, [.ref zz, .ref oo, .int tm])), (q1 0, .inr (1, [.ref (q1 1), .ref (q1 2), .int (x1 0), .int (x1 1), .int (x1 2), .int (x1 3), .int (x1 4), .int (x1 5)])), (q1 2, .inr (3, [.ref (q1 5), .int (nI (n1 10))])), (q1 5, .inl (cI, 60, .inl (ni (a1 2))))]) (fun E => E = IO ∧ ¬ (((p0 = 0 ∨ p0 = 1) ∧ ¬ p1 < 0 ∧ p1 < nI (n1 10)) ∧ ¬ p2 < 0 ∧ p2 < nI (textM (a1 2 p1.toNatClampNeg)).length)) 6 72 := by
  refine CX.of (cc := cX4_textChar) (maxL := 5) (ret := (some .char)) (by decide) rfl (Nat.le_of_ble_eq_true rfl) ?_
  intro A p e s m args below meth c ls H locs En0 htab argsE hP hK hD hE hA hS hl
  obtain ⟨hx, hb, hr, hml, hown, hts, hlocks, hin⟩ := En0
  have hEw := (hE rfl).1
  have hP : va_P D vwCl [(h, .inr (4, [.ref zz, .ref oo, .int tm])), (q1 0, .inr (1, [.ref (q1 1), .ref (q1 2), .int (x1 0), .int (x1 1), .int (x1 2), .int (x1 3), .int (x1 4), .int (x1 5)])), (q1 2, .inr (3, [.ref (q1 5), .int (nI (n1 10))])), (q1 5, .inl (cI, 60, .inl (ni (a1 2))))] H := hP
  have hD : va_D A [(h, .inr (4, [.ref zz, .ref oo, .int tm])), (q1 0, .inr (1, [.ref (q1 1), .ref (q1 2), .int (x1 0), .int (x1 1), .int (x1 2), .int (x1 3), .int (x1 4), .int (x1 5)])), (q1 2, .inr (3, [.ref (q1 5), .int (nI (n1 10))])), (q1 5, .inl (cI, 60, .inl (ni (a1 2))))] := hD
  have hl : lv_has ls 5 [(0, .ref h), (1, .int p0), (2, .int p1), (3, .int p2)] := hl
  obtain ⟨hb6, hb7, hb8, hb10⟩ := id hbd1
  refine lv_aload_n hx hb dX4_textChar_0 rfl (lv_at hl 0 rfl) ?_
  refine lv_iload_n hx hb dX4_textChar_1 rfl (lv_at hl 1 rfl) ?_
  refine lv_iload_n hx hb dX4_textChar_2 rfl (lv_at hl 2 rfl) ?_
  have hPc := hP
  have hDc := hD
  have hFc := va_free (wc := [(h, .inr (4, [.ref zz, .ref oo, .int tm])), (q1 0, .inr (1, [.ref (q1 1), .ref (q1 2), .int (x1 0), .int (x1 1), .int (x1 2), .int (x1 3), .int (x1 4), .int (x1 5)])), (q1 2, .inr (3, [.ref (q1 5), .int (nI (n1 10))])), (q1 5, .inl (cI, 60, .inl (ni (a1 2))))]) hD hS hA [0, 1, 2, 3] rfl
  refine vx_calli (vx_runV (As := [.int p0, .int p1]) (rest := []) ⟨hx, hb, hml, hown, hts⟩ (c_X4_messageAt l D H.size cI h zz oo tm p0 p1 q1 x1 n1 a1 q2 (by assumption) (by assumption) (by assumption) (by first | assumption | exact bd_7 (by assumption) (by omega))) (cwV 2 hts gX4_textChar_X4_messageAt rfl rfl rfl (by decide +kernel) ⟨Nat.le_of_ble_eq_true rfl, Nat.le_of_ble_eq_true rfl⟩) ⟨pcs_blind, va_recv hK hP (ci := 4) (q0 := 0) rfl rfl, (pcs_pre (fun h => h) hE hS hPc (hK.sub (tys' := [(cI, .int)]) [0] rfl) hDc hFc)⟩ rfl rfl hl.1 rfl (lv_room (Nat.le_of_ble_eq_true rfl)) dX4_textChar_3 ⟨Nat.le_of_ble_eq_true rfl, Nat.le_of_ble_eq_true rfl⟩) hS (fun q _ h => hFc q h) hFc (fun q _ h => hFc q h) (fun E ce q_2 u t H1 locs1 ht hvm hw hB hz1 hk1 hS hce hcv hcl => ?_) (fun r_1 u t H1 locs1 ht hvm hw hB hz1 hk1 hS => ?_)
  · obtain ⟨hpx, hB⟩ := hB
    obtain ⟨hP, hD⟩ := aftW hFc ht hB
    clear hPc hDc hFc hk1 ht hB hz1 hvm
    generalize H1 = H at hP hS hce ⊢
    have hP : va_P D vwCl [(h, .inr (4, [.ref zz, .ref oo, .int tm])), (q1 0, .inr (1, [.ref (q1 1), .ref (q1 2), .int (x1 0), .int (x1 1), .int (x1 2), .int (x1 3), .int (x1 4), .int (x1 5)])), (q1 2, .inr (3, [.ref (q1 5), .int (nI (n1 10))])), (q1 5, .inl (cI, 60, .inl (ni (a1 2))))] H := hP
    have hD : va_D A [(h, .inr (4, [.ref zz, .ref oo, .int tm])), (q1 0, .inr (1, [.ref (q1 1), .ref (q1 2), .int (x1 0), .int (x1 1), .int (x1 2), .int (x1 3), .int (x1 4), .int (x1 5)])), (q1 2, .inr (3, [.ref (q1 5), .int (nI (n1 10))])), (q1 5, .inl (cI, 60, .inl (ni (a1 2))))] := hD
    exact vx_out (fun x hx9 => (htab x hx9).elim) hlocks hce hcv hcl (fun t ht hvm => ⟨(), trivial, ⟨⟨hpx.1, fun z9 => hpx.2 z9.1⟩, lfbX hP hK hD ht hvm⟩, hS.F ht⟩) hS.2.2 (Nat.le_of_ble_eq_true rfl) (Nat.le_of_ble_eq_true rfl)
  · skip
    obtain ⟨hcond, hw⟩ := hw
    have hw : r_1 = nI ((a1 2) p1.toNatClampNeg) := hw
    subst hw
    have k_3 := hcond
    have hok9 : okm (a1 2 p1.toNatClampNeg) := htm _ (ix_cl k_3.2.1 k_3.2.2 (by omega))
    have hln9 := textM_len _ hok9.2.1
    obtain ⟨hP, hD⟩ := aftW hFc ht hB
    clear hPc hDc hFc hk1 ht hB hz1 hvm
    generalize H1 = H at hP hS ⊢
    have hP : va_P D vwCl [(h, .inr (4, [.ref zz, .ref oo, .int tm])), (q1 0, .inr (1, [.ref (q1 1), .ref (q1 2), .int (x1 0), .int (x1 1), .int (x1 2), .int (x1 3), .int (x1 4), .int (x1 5)])), (q1 2, .inr (3, [.ref (q1 5), .int (nI (n1 10))])), (q1 5, .inl (cI, 60, .inl (ni (a1 2))))] H := hP
    have hD : va_D A [(h, .inr (4, [.ref zz, .ref oo, .int tm])), (q1 0, .inr (1, [.ref (q1 1), .ref (q1 2), .int (x1 0), .int (x1 1), .int (x1 2), .int (x1 3), .int (x1 4), .int (x1 5)])), (q1 2, .inr (3, [.ref (q1 5), .int (nI (n1 10))])), (q1 5, .inl (cI, 60, .inl (ni (a1 2))))] := hD
    have hPc := hP.sub (ws' := []) [] rfl
    have hDc := hD.sub (ws' := []) [] (by decide) rfl
    have hFc := va_free (wc := []) hD hS hA [] rfl
    refine va_callr (va_runS (As := [.int (nI ((a1 2) p1.toNatClampNeg))]) (rest := []) ⟨hx, hb, hml, hown, hts⟩ (c_X0_textOf l D H.size cI cB ((a1 2) p1.toNatClampNeg) hok9) (va_cwS 1 hts gX4_textChar_X0_textOf rfl rfl rfl (by decide +kernel) ⟨Nat.le_of_ble_eq_true rfl, Nat.le_of_ble_eq_true rfl⟩) ⟨pcs_blind, (pcs_pre (fun h => h) hE hS hPc hK hDc hFc)⟩ rfl rfl hl.1 rfl (lv_room (Nat.le_of_ble_eq_true rfl)) dX4_textChar_6 ⟨Nat.le_of_ble_eq_true rfl, Nat.le_of_ble_eq_true rfl⟩) hS (fun q _ h => hFc q h) hFc (fun u_5 r_4 t H1 locs1 ht hvm hw hB hz1 hk1 hS => ?_)
    obtain ⟨v_5, cap_5, f_5⟩ := u_5
    have htx_5 : tx cap_5 ((textM ((a1 2) p1.toNatClampNeg)).length) f_5 (textM ((a1 2) p1.toNatClampNeg)) := hw
    obtain ⟨hP, hD⟩ := aft (wr := [(h, .inr (4, [.ref zz, .ref oo, .int tm])), (q1 0, .inr (1, [.ref (q1 1), .ref (q1 2), .int (x1 0), .int (x1 1), .int (x1 2), .int (x1 3), .int (x1 4), .int (x1 5)])), (q1 2, .inr (3, [.ref (q1 5), .int (nI (n1 10))])), (q1 5, .inl (cI, 60, .inl (ni (a1 2))))]) (w1 := [(r_4, .inr (0, [.ref v_5, .int 0, .int 0, .int (nI ((textM ((a1 2) p1.toNatClampNeg)).length))])), (v_5, .inl (cB, cap_5, .inl (ni f_5)))]) (w2 := [(h, .inr (4, [.ref zz, .ref oo, .int tm])), (q1 0, .inr (1, [.ref (q1 1), .ref (q1 2), .int (x1 0), .int (x1 1), .int (x1 2), .int (x1 3), .int (x1 4), .int (x1 5)])), (q1 2, .inr (3, [.ref (q1 5), .int (nI (n1 10))])), (q1 5, .inl (cI, 60, .inl (ni (a1 2)))), (r_4, .inr (0, [.ref v_5, .int 0, .int 0, .int (nI ((textM ((a1 2) p1.toNatClampNeg)).length))])), (v_5, .inl (cB, cap_5, .inl (ni f_5)))]) hP hD [] [0, 1, 2, 3] [0, 1, 2, 3, 4, 5] rfl rfl (by decide) (by decide) hFc hk1 ht hB rfl (by decide) rfl
    clear hPc hDc hFc hk1 ht hB hz1 hvm
    generalize H1 = H at hP hS ⊢
    have hP : va_P D vwCl [(h, .inr (4, [.ref zz, .ref oo, .int tm])), (q1 0, .inr (1, [.ref (q1 1), .ref (q1 2), .int (x1 0), .int (x1 1), .int (x1 2), .int (x1 3), .int (x1 4), .int (x1 5)])), (q1 2, .inr (3, [.ref (q1 5), .int (nI (n1 10))])), (q1 5, .inl (cI, 60, .inl (ni (a1 2)))), (r_4, .inr (0, [.ref v_5, .int 0, .int 0, .int (nI ((textM ((a1 2) p1.toNatClampNeg)).length))])), (v_5, .inl (cB, cap_5, .inl (ni f_5)))] H := hP
    have hD : va_D A [(h, .inr (4, [.ref zz, .ref oo, .int tm])), (q1 0, .inr (1, [.ref (q1 1), .ref (q1 2), .int (x1 0), .int (x1 1), .int (x1 2), .int (x1 3), .int (x1 4), .int (x1 5)])), (q1 2, .inr (3, [.ref (q1 5), .int (nI (n1 10))])), (q1 5, .inl (cI, 60, .inl (ni (a1 2)))), (r_4, .inr (0, [.ref v_5, .int 0, .int 0, .int (nI ((textM ((a1 2) p1.toNatClampNeg)).length))])), (v_5, .inl (cB, cap_5, .inl (ni f_5)))] := hD
    refine lv_astore (lv' := [(4, .ref r_4), (0, .ref h), (1, .int p0), (2, .int p1), (3, .int p2)]) hx hb dX4_textChar_9 hl (by decide) rfl (fun ls hl => ?_)
    refine lv_iload_n hx hb dX4_textChar_11 rfl (lv_at hl 4 rfl) ?_
    refine lv_if_lt (tgt := 24) hx hb dX4_textChar_12 (by decide) (fun c_6 => ?_) (fun c_6 => ?_)
    · have hP := hP.sub (ws' := [(h, .inr (4, [.ref zz, .ref oo, .int tm])), (q1 0, .inr (1, [.ref (q1 1), .ref (q1 2), .int (x1 0), .int (x1 1), .int (x1 2), .int (x1 3), .int (x1 4), .int (x1 5)])), (q1 2, .inr (3, [.ref (q1 5), .int (nI (n1 10))])), (q1 5, .inl (cI, 60, .inl (ni (a1 2))))]) [0, 1, 2, 3] rfl
      have hD := hD.sub (ws' := [(h, .inr (4, [.ref zz, .ref oo, .int tm])), (q1 0, .inr (1, [.ref (q1 1), .ref (q1 2), .int (x1 0), .int (x1 1), .int (x1 2), .int (x1 3), .int (x1 4), .int (x1 5)])), (q1 2, .inr (3, [.ref (q1 5), .int (nI (n1 10))])), (q1 5, .inl (cI, 60, .inl (ni (a1 2))))]) [0, 1, 2, 3] (by decide) rfl
      exact vx_throw0 (names := nms) (cls := "java/lang/IndexOutOfBoundsException") hx hb hlt hown (by decide +kernel) (by decide +kernel) (hts (.classLink RX4 76 "java/lang/IndexOutOfBoundsException") (by decide +kernel)) (hts (.initialized "java/lang/IndexOutOfBoundsException") (by decide +kernel)) (hat0 hEw hts ath_X4_textChar_78 atn_X4_78 (by decide)) atg_X4_76_78 (hE rfl).2.1.1 (hE rfl).2.1.2 hS (by rw [hml]; exact hl.1) dX4_textChar_24 dX4_textChar_27 dX4_textChar_28 dX4_textChar_31 (fun x hx9 => (htab x hx9).elim) (by decide) (Nat.le_of_ble_eq_true rfl) (Nat.le_of_ble_eq_true rfl) (Nat.le_of_ble_eq_true rfl) hlocks (fun t hvm hz hk => lfx (⟨rfl, fun z9 => by first | exact absurd (by assumption) z9.2.1 | exact absurd z9.2.2 (by assumption)⟩) hP hK hD hS hvm hz hk) hS.2.2 (Nat.le_of_ble_eq_true rfl) (Nat.le_of_ble_eq_true rfl)
    · refine lv_iload_n hx hb dX4_textChar_15 rfl (lv_at hl 4 rfl) ?_
      refine lv_aload hx hb dX4_textChar_16 (lv_at hl 0 rfl) ?_
      have hPc := hP.sub (ws' := [(r_4, .inr (0, [.ref v_5, .int 0, .int 0, .int (nI ((textM ((a1 2) p1.toNatClampNeg)).length))]))]) [4] rfl
      have hDc := hD.sub (ws' := [(r_4, .inr (0, [.ref v_5, .int 0, .int 0, .int (nI ((textM ((a1 2) p1.toNatClampNeg)).length))]))]) [4] (by decide) rfl
      have hFc := va_free (wc := [(r_4, .inr (0, [.ref v_5, .int 0, .int 0, .int (nI ((textM ((a1 2) p1.toNatClampNeg)).length))]))]) hD hS hA [4] rfl
      refine va_calli (va_runV (As := []) (rest := [.int p2]) ⟨hx, hb, hml, hown, hts⟩ (c_J4_length_8abf5 l D H.size cI cB r_4 v_5 ((textM ((a1 2) p1.toNatClampNeg)).length)) (cwV 0 hts gX4_textChar_J4_length_8abf5 rfl rfl rfl (by decide +kernel) ⟨Nat.le_of_ble_eq_true rfl, Nat.le_of_ble_eq_true rfl⟩) ⟨pcs_blind, va_recv hK hP (ci := 0) (q0 := 4) rfl rfl, (pcs_pre (fun h => by cases h) hE hS hPc hK hDc hFc)⟩ rfl rfl hl.1 rfl (lv_room (Nat.le_of_ble_eq_true rfl)) dX4_textChar_18 ⟨Nat.le_of_ble_eq_true rfl, Nat.le_of_ble_eq_true rfl⟩) hS (fun q _ h => hFc q h) hFc (fun r_7 u t H1 locs1 ht hvm hw hB hz1 hk1 hS => ?_)
      have hw : r_7 = nI ((textM ((a1 2) p1.toNatClampNeg)).length) := hw
      subst hw
      obtain ⟨hP, hD⟩ := aft (wr := [(h, .inr (4, [.ref zz, .ref oo, .int tm])), (q1 0, .inr (1, [.ref (q1 1), .ref (q1 2), .int (x1 0), .int (x1 1), .int (x1 2), .int (x1 3), .int (x1 4), .int (x1 5)])), (q1 2, .inr (3, [.ref (q1 5), .int (nI (n1 10))])), (q1 5, .inl (cI, 60, .inl (ni (a1 2)))), (v_5, .inl (cB, cap_5, .inl (ni f_5)))]) (w1 := [(r_4, .inr (0, [.ref v_5, .int 0, .int 0, .int (nI ((textM ((a1 2) p1.toNatClampNeg)).length))]))]) (w2 := [(h, .inr (4, [.ref zz, .ref oo, .int tm])), (q1 0, .inr (1, [.ref (q1 1), .ref (q1 2), .int (x1 0), .int (x1 1), .int (x1 2), .int (x1 3), .int (x1 4), .int (x1 5)])), (q1 2, .inr (3, [.ref (q1 5), .int (nI (n1 10))])), (q1 5, .inl (cI, 60, .inl (ni (a1 2)))), (r_4, .inr (0, [.ref v_5, .int 0, .int 0, .int (nI ((textM ((a1 2) p1.toNatClampNeg)).length))])), (v_5, .inl (cB, cap_5, .inl (ni f_5)))]) hP hD [4] [0, 1, 2, 3, 5] [0, 1, 2, 3, 5, 4] rfl rfl (by decide) (by decide) hFc hk1 ht hB rfl (by decide) rfl
      clear hPc hDc hFc hk1 ht hB hz1 hvm
      generalize H1 = H at hP hS ⊢
      have hP : va_P D vwCl [(h, .inr (4, [.ref zz, .ref oo, .int tm])), (q1 0, .inr (1, [.ref (q1 1), .ref (q1 2), .int (x1 0), .int (x1 1), .int (x1 2), .int (x1 3), .int (x1 4), .int (x1 5)])), (q1 2, .inr (3, [.ref (q1 5), .int (nI (n1 10))])), (q1 5, .inl (cI, 60, .inl (ni (a1 2)))), (r_4, .inr (0, [.ref v_5, .int 0, .int 0, .int (nI ((textM ((a1 2) p1.toNatClampNeg)).length))])), (v_5, .inl (cB, cap_5, .inl (ni f_5)))] H := hP
      have hD : va_D A [(h, .inr (4, [.ref zz, .ref oo, .int tm])), (q1 0, .inr (1, [.ref (q1 1), .ref (q1 2), .int (x1 0), .int (x1 1), .int (x1 2), .int (x1 3), .int (x1 4), .int (x1 5)])), (q1 2, .inr (3, [.ref (q1 5), .int (nI (n1 10))])), (q1 5, .inl (cI, 60, .inl (ni (a1 2)))), (r_4, .inr (0, [.ref v_5, .int 0, .int 0, .int (nI ((textM ((a1 2) p1.toNatClampNeg)).length))])), (v_5, .inl (cB, cap_5, .inl (ni f_5)))] := hD
      refine lv_icmp_lt (tgt := 32) hx hb dX4_textChar_21 (by decide) (fun c_8 => ?_) (fun c_8 => ?_)
      · obtain ⟨j2, hj2, rfl⟩ : ∃ j2, j2 < (textM (a1 2 p1.toNatClampNeg)).length ∧ p2 = nI j2 := ix_of (by assumption) (by assumption) (by omega)
        have hl : lv_has ls 5 [(4, .ref r_4), (0, .ref h), (1, .int p0), (2, .int p1), (3, .int (nI j2))] := hl
        refine lv_aload hx hb dX4_textChar_32 (lv_at hl 0 rfl) ?_
        refine lv_iload_n hx hb dX4_textChar_34 rfl (lv_at hl 4 rfl) ?_
        have hPc := hP.sub (ws' := [(r_4, .inr (0, [.ref v_5, .int 0, .int 0, .int (nI ((textM ((a1 2) p1.toNatClampNeg)).length))])), (v_5, .inl (cB, cap_5, .inl (ni f_5)))]) [4, 5] rfl
        have hDc := hD.sub (ws' := [(r_4, .inr (0, [.ref v_5, .int 0, .int 0, .int (nI ((textM ((a1 2) p1.toNatClampNeg)).length))])), (v_5, .inl (cB, cap_5, .inl (ni f_5)))]) [4, 5] (by decide) rfl
        have hFc := va_free (wc := [(r_4, .inr (0, [.ref v_5, .int 0, .int 0, .int (nI ((textM ((a1 2) p1.toNatClampNeg)).length))])), (v_5, .inl (cB, cap_5, .inl (ni f_5)))]) hD hS hA [4, 5] rfl
        refine va_calli (va_runV (As := [.int (nI j2)]) (rest := []) ⟨hx, hb, hml, hown, hts⟩ (c_J4_charAt_5068e l D H.size cI cB r_4 v_5 cap_5 ((textM ((a1 2) p1.toNatClampNeg)).length) f_5 (textM ((a1 2) p1.toNatClampNeg)) j2 htx_5 hj2) (cwV 1 hts gX4_textChar_J4_charAt_5068e rfl rfl rfl (by decide +kernel) ⟨Nat.le_of_ble_eq_true rfl, Nat.le_of_ble_eq_true rfl⟩) ⟨pcs_blind, va_recv hK hP (ci := 0) (q0 := 4) rfl rfl, (pcs_pre (fun h => h) hE hS hPc hK hDc hFc)⟩ rfl rfl hl.1 rfl (lv_room (Nat.le_of_ble_eq_true rfl)) dX4_textChar_35 ⟨Nat.le_of_ble_eq_true rfl, Nat.le_of_ble_eq_true rfl⟩) hS (fun q _ h => hFc q h) hFc (fun r_9 u t H1 locs1 ht hvm hw hB hz1 hk1 hS => ?_)
        have hw : r_9 = nI ((textM ((a1 2) p1.toNatClampNeg)).getD j2 0) := hw
        subst hw
        obtain ⟨hP, hD⟩ := aft (wr := [(h, .inr (4, [.ref zz, .ref oo, .int tm])), (q1 0, .inr (1, [.ref (q1 1), .ref (q1 2), .int (x1 0), .int (x1 1), .int (x1 2), .int (x1 3), .int (x1 4), .int (x1 5)])), (q1 2, .inr (3, [.ref (q1 5), .int (nI (n1 10))])), (q1 5, .inl (cI, 60, .inl (ni (a1 2))))]) (w1 := [(r_4, .inr (0, [.ref v_5, .int 0, .int 0, .int (nI ((textM ((a1 2) p1.toNatClampNeg)).length))])), (v_5, .inl (cB, cap_5, .inl (ni f_5)))]) (w2 := [(h, .inr (4, [.ref zz, .ref oo, .int tm])), (q1 0, .inr (1, [.ref (q1 1), .ref (q1 2), .int (x1 0), .int (x1 1), .int (x1 2), .int (x1 3), .int (x1 4), .int (x1 5)])), (q1 2, .inr (3, [.ref (q1 5), .int (nI (n1 10))])), (q1 5, .inl (cI, 60, .inl (ni (a1 2)))), (r_4, .inr (0, [.ref v_5, .int 0, .int 0, .int (nI ((textM ((a1 2) p1.toNatClampNeg)).length))])), (v_5, .inl (cB, cap_5, .inl (ni f_5)))]) hP hD [4, 5] [0, 1, 2, 3] [0, 1, 2, 3, 4, 5] rfl rfl (by decide) (by decide) hFc hk1 ht hB rfl (by decide) rfl
        clear hPc hDc hFc hk1 ht hB hz1 hvm
        generalize H1 = H at hP hS ⊢
        have hP : va_P D vwCl [(h, .inr (4, [.ref zz, .ref oo, .int tm])), (q1 0, .inr (1, [.ref (q1 1), .ref (q1 2), .int (x1 0), .int (x1 1), .int (x1 2), .int (x1 3), .int (x1 4), .int (x1 5)])), (q1 2, .inr (3, [.ref (q1 5), .int (nI (n1 10))])), (q1 5, .inl (cI, 60, .inl (ni (a1 2)))), (r_4, .inr (0, [.ref v_5, .int 0, .int 0, .int (nI ((textM ((a1 2) p1.toNatClampNeg)).length))])), (v_5, .inl (cB, cap_5, .inl (ni f_5)))] H := hP
        have hD : va_D A [(h, .inr (4, [.ref zz, .ref oo, .int tm])), (q1 0, .inr (1, [.ref (q1 1), .ref (q1 2), .int (x1 0), .int (x1 1), .int (x1 2), .int (x1 3), .int (x1 4), .int (x1 5)])), (q1 2, .inr (3, [.ref (q1 5), .int (nI (n1 10))])), (q1 5, .inl (cI, 60, .inl (ni (a1 2)))), (r_4, .inr (0, [.ref v_5, .int 0, .int 0, .int (nI ((textM ((a1 2) p1.toNatClampNeg)).length))])), (v_5, .inl (cB, cap_5, .inl (ni f_5)))] := hD
        have hP := hP.sub (ws' := [(h, .inr (4, [.ref zz, .ref oo, .int tm])), (q1 0, .inr (1, [.ref (q1 1), .ref (q1 2), .int (x1 0), .int (x1 1), .int (x1 2), .int (x1 3), .int (x1 4), .int (x1 5)])), (q1 2, .inr (3, [.ref (q1 5), .int (nI (n1 10))])), (q1 5, .inl (cI, 60, .inl (ni (a1 2))))]) [0, 1, 2, 3] rfl
        have hD := hD.sub (ws' := [(h, .inr (4, [.ref zz, .ref oo, .int tm])), (q1 0, .inr (1, [.ref (q1 1), .ref (q1 2), .int (x1 0), .int (x1 1), .int (x1 2), .int (x1 3), .int (x1 4), .int (x1 5)])), (q1 2, .inr (3, [.ref (q1 5), .int (nI (n1 10))])), (q1 5, .inl (cI, 60, .inl (ni (a1 2))))]) [0, 1, 2, 3] (by decide) rfl
        refine W.widen (k := 6) (n := 72) (Nat.le_of_ble_eq_true rfl) (Nat.le_of_ble_eq_true rfl) ?_
        refine vx_ret ?_
        exact W.zret (v := nI ((textM ((a1 2) p1.toNatClampNeg)).getD j2 0)) hx hb hr ((pk_charN (by rw [← htx_5.2.2.2.1 j2 hj2]; have := htx_5.2.2.2.2 j2; omega)).1) (fun t ht hW => lfc (⟨k_3, by assumption, by assumption⟩) (by rw [nI_clamp (show j2 < 2 ^ 31 by omega)]) hP hK hD hS ht hW) hS.2.2 dX4_textChar_38 hlocks
      · have hP := hP.sub (ws' := [(h, .inr (4, [.ref zz, .ref oo, .int tm])), (q1 0, .inr (1, [.ref (q1 1), .ref (q1 2), .int (x1 0), .int (x1 1), .int (x1 2), .int (x1 3), .int (x1 4), .int (x1 5)])), (q1 2, .inr (3, [.ref (q1 5), .int (nI (n1 10))])), (q1 5, .inl (cI, 60, .inl (ni (a1 2))))]) [0, 1, 2, 3] rfl
        have hD := hD.sub (ws' := [(h, .inr (4, [.ref zz, .ref oo, .int tm])), (q1 0, .inr (1, [.ref (q1 1), .ref (q1 2), .int (x1 0), .int (x1 1), .int (x1 2), .int (x1 3), .int (x1 4), .int (x1 5)])), (q1 2, .inr (3, [.ref (q1 5), .int (nI (n1 10))])), (q1 5, .inl (cI, 60, .inl (ni (a1 2))))]) [0, 1, 2, 3] (by decide) rfl
        exact vx_throw0 (names := nms) (cls := "java/lang/IndexOutOfBoundsException") hx hb hlt hown (by decide +kernel) (by decide +kernel) (hts (.classLink RX4 76 "java/lang/IndexOutOfBoundsException") (by decide +kernel)) (hts (.initialized "java/lang/IndexOutOfBoundsException") (by decide +kernel)) (hat0 hEw hts ath_X4_textChar_78 atn_X4_78 (by decide)) atg_X4_76_78 (hE rfl).2.1.1 (hE rfl).2.1.2 hS (by rw [hml]; exact hl.1) dX4_textChar_24 dX4_textChar_27 dX4_textChar_28 dX4_textChar_31 (fun x hx9 => (htab x hx9).elim) (by decide) (Nat.le_of_ble_eq_true rfl) (Nat.le_of_ble_eq_true rfl) (Nat.le_of_ble_eq_true rfl) hlocks (fun t hvm hz hk => lfx (⟨rfl, fun z9 => by first | exact absurd (by assumption) z9.2.1 | exact absurd z9.2.2 (by assumption)⟩) hP hK hD hS hvm hz hk) hS.2.2 (Nat.le_of_ble_eq_true rfl) (Nat.le_of_ble_eq_true rfl)
