/-! ===== the law's cases: from the switch to the loop's end ===== -/
def lawCx (p : Program) (l : Launch) (s : State) (m : MethodId) (cd : Code) (b L : Nat) (xs : Nat → Int32) (D : va_G) (cI cB cL cZ cC : ClassId) : Prop :=
  CallFix p m cd cL_law 7 s #[Value.ref b] wsL_law RL ∧ va_K D vwCl (tyA cI cB cL cZ cC) s ∧ ev (fun q => s.heap.size ≤ q) s s.heap ∧ va_X b L xs s s.heap ∧ b < s.heap.size ∧ l.stackTraces = false ∧ L ≤ 2048
/-- what holds at the loop's head, and behind each case -/
def lawSt (D : va_G) (cI cB cL cZ cC : ClassId) (h ou g : Nat) (q qz qo : Nat → Nat) (b : Nat) (s : State) (i : Nat) (H : Heap) (locs : List Loc) (ls : Array Slot) : Prop :=
  ∃ (tm t1 : Int32) (c o : CS) (f : Nat → Int64) (sr : RS), (rel2 0 c o sr ∧ inv sr ∧ ba c.2.2 ∧ ba o.2.2) ∧ va_P D vwCl (wA cI cB cL cZ cC h ou g q (qz 0) (qo 0) qz qo tm t1 c o f sr) H ∧ va_D (fun q => s.heap.size ≤ q) (wA cI cB cL cZ cC h ou g q (qz 0) (qo 0) qz qo tm t1 c o f sr) ∧ va_S (fun q => s.heap.size ≤ q) s.heap H locs ∧ lv_has ls 7 [(4, .int (nI i)), (3, .ref ou), (2, .ref g), (1, .ref h), (0, .ref b)]
section CASES
variable {p : Program} {l : Launch} {e : Env} {s : State} {m : MethodId} {below : List Frame} {meth : Method} {cd : Code} {b L : Nat} {xs : Nat → Int32} {D : va_G} {cI cB cL cZ cC : ClassId} {h ou g i : Nat} {q qz qo : Nat → Nat}
variable {H : Heap} {locs : List Loc} {ls : Array Slot} {cells slots : Nat} {Q : State → Prop}
theorem hrmR {rm : Room} {maxL : Nat} (h : rm.cells = 0 ∧ rm.slots = 0 ∧ rm.frames ≤ 12 ∧ rm.locals ≤ 300) (hm : maxL ≤ 200) : rm.frames + 1 ≤ room_1.frames ∧ 8 + (maxL + 11) + rm.locals ≤ room_1.locals := by
  obtain ⟨-, -, h3, h4⟩ := h
  exact ⟨show rm.frames + 1 ≤ 15 by omega, show 8 + (maxL + 11) + rm.locals ≤ 588 by omega⟩
theorem lw_arg {pc j : Nat} {jz : Int} {rest : List Value} (C : lawCx p l s m cd b L xs D cI cB cL cZ cC) (hS : va_S (fun q => s.heap.size ≤ q) s.heap H locs) (h0 : ls[0]? = some (.val (.ref b))) (h4 : ls[4]? = some (.val (.int (nI i)))) (hj : Int32.ofInt jz = nI j) (hij : i + j < L) (d1 : decode cL_law pc = .ok (.aload_n 0, 1)) (d2 : decode cL_law (pc + 1) = .ok (.iload 4, 2)) (d3 : decode cL_law (pc + 3) = .ok (.iconst jz, 1)) (d4 : decode cL_law (pc + 4) = .ok (.iadd, 1)) (d5 : decode cL_law (pc + 5) = .ok (.iaload, 1))
    (kk : W p l e room_1 s m #[Value.ref b] below meth cd H locs cells slots Q (F0 m (pc + 6) ls (.int (xs (i + j)) :: rest))) : W p l e room_1 s m #[Value.ref b] below meth cd H locs cells slots Q (F0 m pc ls rest) := by
  obtain ⟨⟨hx, hb, hml, hown, hts⟩, hK, hE, hX, hbl, hlt, hL⟩ := C
  refine lv_aload_n hx hb d1 rfl h0 ?_
  refine lv_iload hx hb d2 h4 ?_
  refine lv_iconst (v := nI j) hx hb d3 hj ?_
  refine lv_iadd hx hb d4 ?_
  refine tp (nI_add i j) ?_
  refine va_sld hx hb hX hbl (Nat.not_le.mpr hbl) hS (vp_in_nI hij (by omega)) d5 ?_
  rw [nI_clamp (show i + j < 2 ^ 31 by omega)]
  exact kk
theorem lald0 {pc a : Nat} {rest : List Value} {cl : List vw_C} {tys : List (ClassId × FieldType)} {ws : va_W} {args : Array Value} {R : Room} {cc : ByteArray} (hexec : p.tables.exec = Jvm.exec) (hb : cd.code = cc) (hK : va_K D cl tys s) (hP : va_P D cl ws H) (q0 t0 : Nat) {cA : ClassId} {f : Nat → Int64} (ha : ws[q0]? = some (a, .inl (cA, 1, .inr (.inl f)))) (ht : tys[t0]? = some (cA, .long)) (hdg : decode cc pc = .ok (.laload, 1))
    (kk : W p l e R s m args below meth cd H locs cells slots Q (F0 m (pc + 1) ls (.long (f 0) :: rest))) : W p l e R s m args below meth cd H locs cells slots Q (F0 m pc ls (.int (nI 0) :: .ref a :: rest)) := by
  refine va_lald hexec hb hK hP q0 t0 ha ht (vin (k := 0) (n := 1) (by omega) (by decide)) hdg ?_
  rw [nI_clamp (show 0 < 2 ^ 31 by omega)]
  exact kk
set_option maxHeartbeats 4000000 in
set_option maxRecDepth 100000 in
theorem thrR (sz : Nat) (t1 tm : Int32) (sr : RS) : CT l yX5_thrown wsX5_thrown ({ frames := 0, cells := 0, slots := 0, locals := 0 }) false D (tyR cI cZ cC) (wRf cI cZ cC g q t1 tm sr) sz (.ref g :: []) (qi D (tyR cI cZ cC) (fun r => r = t1) (wRf cI cZ cC g q t1 tm sr)) 0 0 :=
  CT.re (wr := wRw cI cZ cC q sr) (c_X5_thrown l D sz cI cZ cC g q (jj t1 tm)) [0] [1, 2, 3, 4, 5, 6, 7, 8, 9, 10, 11, 12, 13, 14, 15, 16, 17, 18, 19, 20] [20, 0, 1, 2, 3, 4, 5, 6, 7, 8, 9, 10, 11, 12, 13, 14, 15, 16, 17, 18, 19] rfl (by decide) rfl (by decide) (by decide) (by decide) rfl
abbrev wSO13 (cI : ClassId) (h zz oo : Nat) (qa qb : Nat → Nat) (tm : Int32) (c o : CS) : va_W := [(h, .inr (4, [.ref zz, .ref oo, .int tm])), (qa 0, .inr (1, [.ref (qa 1), .ref (qa 2), .int (c.1 0), .int (c.1 1), .int (c.1 2), .int (c.1 3), .int (c.1 4), .int (c.1 5)])), (qa 1, .inr (2, [.ref (qa 3), .int (nI (c.2.1 6)), .int (nI (c.2.1 7)), .ref (qa 4), .int (nI (c.2.1 8)), .int (c.1 9)])), (qa 2, .inr (3, [.ref (qa 5), .int (nI (c.2.1 10))])), (qa 3, .inl (cI, 200, .inl (ni (c.2.2 0)))), (qa 4, .inl (cI, 200, .inl (ni (c.2.2 1)))), (qa 5, .inl (cI, 60, .inl (ni (c.2.2 2)))), (qb 0, .inr (1, [.ref (qb 1), .ref (qb 2), .int (o.1 0), .int (o.1 1), .int (o.1 2), .int (o.1 3), .int (o.1 4), .int (o.1 5)])), (qb 1, .inr (2, [.ref (qb 3), .int (nI (o.2.1 6)), .int (nI (o.2.1 7)), .ref (qb 4), .int (nI (o.2.1 8)), .int (o.1 9)])), (qb 2, .inr (3, [.ref (qb 5), .int (nI (o.2.1 10))])), (qb 3, .inl (cI, 200, .inl (ni (o.2.2 0)))), (qb 4, .inl (cI, 200, .inl (ni (o.2.2 1)))), (qb 5, .inl (cI, 60, .inl (ni (o.2.2 2))))]
set_option maxHeartbeats 4000000 in
set_option maxRecDepth 100000 in
theorem law_logon (C : lawCx p l s m cd b L xs D cI cB cL cZ cC) (hi4 : i + 3 < L) (hcs : cells + 12 ≤ 601024 ∧ slots + 276 ≤ 7293034) (hLS : lawSt D cI cB cL cZ cC h ou g q qz qo b s i H locs ls) (KK : ∀ (H : Heap) (locs : List Loc) (ls : Array Slot), lawSt D cI cB cL cZ cC h ou g q qz qo b s i H locs ls → W p l e room_1 s m #[Value.ref b] below meth cd H locs (cells + 12) (slots + 276) Q (F0 m 1355 ls [])) : W p l e room_1 s m #[Value.ref b] below meth cd H locs cells slots Q (F0 m 136 ls []) := by
  obtain ⟨tm, t1, c, o, f, sr, ⟨hr, hi, b1, b2⟩, hP, hD, hS, hl⟩ := hLS
  have C9 := C
  obtain ⟨⟨hx, hb, hml, hown, hts⟩, hK, hE, hX, hbl, hlt, hL⟩ := C9
  have hA : ∀ q : Nat, s.heap.size ≤ q → (fun q : Nat => s.heap.size ≤ q) q := fun _ h => h
  obtain ⟨rmR, k, k', v, v', c', o', s', hrm, hC, hR, ⟨e1, e2, e3⟩, r1, r2, r3, r4⟩ := p_logon (l := l) (D := D) (cI := cI) (cB := cB) (cL := cL) (cZ := cZ) (cC := cC) (h := h) (ou := ou) (g := g) (qz := qz) (qo := qo) (q := q) (tm := tm) (xs (i + 1)) hlt hr hi b1 b2
  refine lv_aload_n hx hb dL_law_136 rfl (lv_at hl 3 rfl) ?_
  refine lw_arg (j := 1) C hS (lv_at hl 4 rfl) (lv_at hl 0 rfl) rfl (by omega) dL_law_137 dL_law_138 dL_law_140 dL_law_141 dL_law_142 ?_
  refine lv_aload_n hx hb dL_law_143 rfl (lv_at hl 1 rfl) ?_
  refine lw_cC ⟨hx, hb, hml, hown, hts⟩ hC (vx_cwSW 3 hts gL_law_L_logon rfl rfl rfl (by decide +kernel) ⟨Nat.le_of_ble_eq_true rfl, Nat.le_of_ble_eq_true rfl⟩) rfl hl.1 rfl dL_law_144 ⟨show cells + 2 ≤ 601024 by omega, show slots + 12 ≤ 7293034 by omega⟩ hP hD hK hE hA hS (fun f H locs hf hP hD hS => ?_)
  refine lv_istore (lv' := [(5, .int k), (4, .int (nI i)), (3, .ref ou), (2, .ref g), (1, .ref h), (0, .ref b)]) hx hb dL_law_147 hl (by decide) rfl (fun ls hl => ?_)
  refine lv_aload_n hx hb dL_law_149 rfl (lv_at hl 3 rfl) ?_
  refine lw_arg (j := 1) C hS (lv_at hl 5 rfl) (lv_at hl 1 rfl) rfl (by omega) dL_law_150 dL_law_151 dL_law_153 dL_law_154 dL_law_155 ?_
  refine lw_cR ⟨hx, hb, hml, hown, hts⟩ (fun sz => hR sz t1) (cwV 1 hts gL_law_X5_logon rfl hrm.1 hrm.2.1 (by decide +kernel) (hrmR hrm (Nat.le_of_ble_eq_true rfl))) rfl hl.1 rfl (Nat.le_of_ble_eq_true rfl) dL_law_156 ⟨show cells + 2 ≤ 601024 by omega, show slots + 12 ≤ 7293034 by omega⟩ hP hD hK hA hS (fun H locs hP hD hS => ?_)
  refine lv_istore (lv' := [(6, .int v'), (5, .int k), (4, .int (nI i)), (3, .ref ou), (2, .ref g), (1, .ref h), (0, .ref b)]) hx hb dL_law_159 hl (by decide) rfl (fun ls hl => ?_)
  refine lv_aload_n hx hb dL_law_161 rfl (lv_at hl 4 rfl) ?_
  refine lw_cR ⟨hx, hb, hml, hown, hts⟩ (fun sz => thrR sz k' tm s') (cwV 0 hts gL_law_X5_thrown rfl rfl rfl (by decide +kernel) ⟨Nat.le_of_ble_eq_true rfl, Nat.le_of_ble_eq_true rfl⟩) rfl hl.1 rfl (Nat.le_of_ble_eq_true rfl) dL_law_162 ⟨show cells + 2 ≤ 601024 by omega, show slots + 12 ≤ 7293034 by omega⟩ hP hD hK hA hS (fun H locs hP hD hS => ?_)
  refine lv_iload hx hb dL_law_165 (lv_at hl 1 rfl) ?_
  refine lv_icmp_eq (tgt := 172) hx hb dL_law_167 (by decide) (fun _ => ?_) (fun z => absurd e1.symm z)
  refine lv_iload hx hb dL_law_172 (lv_at hl 1 rfl) ?_
  refine lv_if_ne (tgt := 189) hx hb dL_law_174 (by decide) (fun z => ?_) (fun z => ?_)
  · skip
    refine lv_goto (tgt := 1355) hx hb dL_law_189 (by decide) ?_
    refine W.widen (k := cells + 12) (n := slots + 276) (by omega) (by omega) ?_
    exact KK _ _ _ ⟨tm, k', c', o', f, s', ⟨r1, r2, r3, r4⟩, hP, hD, hS, lv_sub hl [2, 3, 4, 5, 6] rfl⟩
  · refine lv_aload_n hx hb dL_law_177 rfl (lv_at hl 3 rfl) ?_
    refine lv_iconst (v := nI 0) hx hb dL_law_178 (by decide) ?_
    refine lald0 hx hb hK hP 13 2 rfl rfl dL_law_179 ?_
    refine lv_iload hx hb dL_law_180 (lv_at hl 0 rfl) ?_
    refine lv_i2l (v := v'.toInt64) hx hb dL_law_182 rfl ?_
    refine W.lcmp hx hb dL_law_183 ?_
    refine lv_if_eq (tgt := 189) hx hb dL_law_184 (by decide) (fun _ => ?_) (fun y => absurd ((lg_cmp_eq _ _).mpr ((hf z).trans (congrArg Int32.toInt64 (e2 z)))) y)
    refine lv_goto (tgt := 1355) hx hb dL_law_189 (by decide) ?_
    refine W.widen (k := cells + 12) (n := slots + 276) (by omega) (by omega) ?_
    exact KK _ _ _ ⟨tm, k', c', o', f, s', ⟨r1, r2, r3, r4⟩, hP, hD, hS, lv_sub hl [2, 3, 4, 5, 6] rfl⟩
set_option maxHeartbeats 4000000 in
set_option maxRecDepth 100000 in
theorem law_logout (C : lawCx p l s m cd b L xs D cI cB cL cZ cC) (hi4 : i + 3 < L) (hcs : cells + 12 ≤ 601024 ∧ slots + 276 ≤ 7293034) (hLS : lawSt D cI cB cL cZ cC h ou g q qz qo b s i H locs ls) (KK : ∀ (H : Heap) (locs : List Loc) (ls : Array Slot), lawSt D cI cB cL cZ cC h ou g q qz qo b s i H locs ls → W p l e room_1 s m #[Value.ref b] below meth cd H locs (cells + 12) (slots + 276) Q (F0 m 1355 ls [])) : W p l e room_1 s m #[Value.ref b] below meth cd H locs cells slots Q (F0 m 192 ls []) := by
  obtain ⟨tm, t1, c, o, f, sr, ⟨hr, hi, b1, b2⟩, hP, hD, hS, hl⟩ := hLS
  have C9 := C
  obtain ⟨⟨hx, hb, hml, hown, hts⟩, hK, hE, hX, hbl, hlt, hL⟩ := C9
  have hA : ∀ q : Nat, s.heap.size ≤ q → (fun q : Nat => s.heap.size ≤ q) q := fun _ h => h
  obtain ⟨rmR, k, k', v, v', c', o', s', hrm, hC, hR, ⟨e1, e2, e3⟩, r1, r2, r3, r4⟩ := p_logout (l := l) (D := D) (cI := cI) (cB := cB) (cL := cL) (cZ := cZ) (cC := cC) (h := h) (ou := ou) (g := g) (qz := qz) (qo := qo) (q := q) (tm := tm) (xs (i + 1)) hlt hr hi b1 b2
  refine lv_aload_n hx hb dL_law_192 rfl (lv_at hl 3 rfl) ?_
  refine lw_arg (j := 1) C hS (lv_at hl 4 rfl) (lv_at hl 0 rfl) rfl (by omega) dL_law_193 dL_law_194 dL_law_196 dL_law_197 dL_law_198 ?_
  refine lv_aload_n hx hb dL_law_199 rfl (lv_at hl 1 rfl) ?_
  refine lw_cC ⟨hx, hb, hml, hown, hts⟩ hC (vx_cwSW 3 hts gL_law_L_logout rfl rfl rfl (by decide +kernel) ⟨Nat.le_of_ble_eq_true rfl, Nat.le_of_ble_eq_true rfl⟩) rfl hl.1 rfl dL_law_200 ⟨show cells + 2 ≤ 601024 by omega, show slots + 12 ≤ 7293034 by omega⟩ hP hD hK hE hA hS (fun f H locs hf hP hD hS => ?_)
  refine lv_istore (lv' := [(5, .int k), (4, .int (nI i)), (3, .ref ou), (2, .ref g), (1, .ref h), (0, .ref b)]) hx hb dL_law_203 hl (by decide) rfl (fun ls hl => ?_)
  refine lv_aload_n hx hb dL_law_205 rfl (lv_at hl 3 rfl) ?_
  refine lw_arg (j := 1) C hS (lv_at hl 5 rfl) (lv_at hl 1 rfl) rfl (by omega) dL_law_206 dL_law_207 dL_law_209 dL_law_210 dL_law_211 ?_
  refine lw_cR ⟨hx, hb, hml, hown, hts⟩ (fun sz => hR sz t1) (cwV 1 hts gL_law_X5_logout rfl hrm.1 hrm.2.1 (by decide +kernel) (hrmR hrm (Nat.le_of_ble_eq_true rfl))) rfl hl.1 rfl (Nat.le_of_ble_eq_true rfl) dL_law_212 ⟨show cells + 2 ≤ 601024 by omega, show slots + 12 ≤ 7293034 by omega⟩ hP hD hK hA hS (fun H locs hP hD hS => ?_)
  refine lv_istore (lv' := [(6, .int v'), (5, .int k), (4, .int (nI i)), (3, .ref ou), (2, .ref g), (1, .ref h), (0, .ref b)]) hx hb dL_law_215 hl (by decide) rfl (fun ls hl => ?_)
  refine lv_aload_n hx hb dL_law_217 rfl (lv_at hl 4 rfl) ?_
  refine lw_cR ⟨hx, hb, hml, hown, hts⟩ (fun sz => thrR sz k' tm s') (cwV 0 hts gL_law_X5_thrown rfl rfl rfl (by decide +kernel) ⟨Nat.le_of_ble_eq_true rfl, Nat.le_of_ble_eq_true rfl⟩) rfl hl.1 rfl (Nat.le_of_ble_eq_true rfl) dL_law_218 ⟨show cells + 2 ≤ 601024 by omega, show slots + 12 ≤ 7293034 by omega⟩ hP hD hK hA hS (fun H locs hP hD hS => ?_)
  refine lv_iload hx hb dL_law_221 (lv_at hl 1 rfl) ?_
  refine lv_icmp_eq (tgt := 228) hx hb dL_law_223 (by decide) (fun _ => ?_) (fun z => absurd e1.symm z)
  refine lv_iload hx hb dL_law_228 (lv_at hl 1 rfl) ?_
  refine lv_if_ne (tgt := 245) hx hb dL_law_230 (by decide) (fun z => ?_) (fun z => ?_)
  · skip
    refine lv_goto (tgt := 1355) hx hb dL_law_245 (by decide) ?_
    refine W.widen (k := cells + 12) (n := slots + 276) (by omega) (by omega) ?_
    exact KK _ _ _ ⟨tm, k', c', o', f, s', ⟨r1, r2, r3, r4⟩, hP, hD, hS, lv_sub hl [2, 3, 4, 5, 6] rfl⟩
  · refine lv_aload_n hx hb dL_law_233 rfl (lv_at hl 3 rfl) ?_
    refine lv_iconst (v := nI 0) hx hb dL_law_234 (by decide) ?_
    refine lald0 hx hb hK hP 13 2 rfl rfl dL_law_235 ?_
    refine lv_iload hx hb dL_law_236 (lv_at hl 0 rfl) ?_
    refine lv_i2l (v := v'.toInt64) hx hb dL_law_238 rfl ?_
    refine W.lcmp hx hb dL_law_239 ?_
    refine lv_if_eq (tgt := 245) hx hb dL_law_240 (by decide) (fun _ => ?_) (fun y => absurd ((lg_cmp_eq _ _).mpr ((hf z).trans (congrArg Int32.toInt64 (e2 z)))) y)
    refine lv_goto (tgt := 1355) hx hb dL_law_245 (by decide) ?_
    refine W.widen (k := cells + 12) (n := slots + 276) (by omega) (by omega) ?_
    exact KK _ _ _ ⟨tm, k', c', o', f, s', ⟨r1, r2, r3, r4⟩, hP, hD, hS, lv_sub hl [2, 3, 4, 5, 6] rfl⟩
set_option maxHeartbeats 4000000 in
set_option maxRecDepth 100000 in
theorem law_crash (C : lawCx p l s m cd b L xs D cI cB cL cZ cC) (hi4 : i + 3 < L) (hcs : cells + 12 ≤ 601024 ∧ slots + 276 ≤ 7293034) (hLS : lawSt D cI cB cL cZ cC h ou g q qz qo b s i H locs ls) (KK : ∀ (H : Heap) (locs : List Loc) (ls : Array Slot), lawSt D cI cB cL cZ cC h ou g q qz qo b s i H locs ls → W p l e room_1 s m #[Value.ref b] below meth cd H locs (cells + 12) (slots + 276) Q (F0 m 1355 ls [])) : W p l e room_1 s m #[Value.ref b] below meth cd H locs cells slots Q (F0 m 248 ls []) := by
  obtain ⟨tm, t1, c, o, f, sr, ⟨hr, hi, b1, b2⟩, hP, hD, hS, hl⟩ := hLS
  have C9 := C
  obtain ⟨⟨hx, hb, hml, hown, hts⟩, hK, hE, hX, hbl, hlt, hL⟩ := C9
  have hA : ∀ q : Nat, s.heap.size ≤ q → (fun q : Nat => s.heap.size ≤ q) q := fun _ h => h
  obtain ⟨rmR, k, k', v, v', c', o', s', hrm, hC, hR, ⟨e1, e2, e3⟩, r1, r2, r3, r4⟩ := p_crash (l := l) (D := D) (cI := cI) (cB := cB) (cL := cL) (cZ := cZ) (cC := cC) (h := h) (ou := ou) (g := g) (qz := qz) (qo := qo) (q := q) (tm := tm) (xs (i + 1)) hlt hr hi b1 b2
  refine lv_aload_n hx hb dL_law_248 rfl (lv_at hl 3 rfl) ?_
  refine lw_arg (j := 1) C hS (lv_at hl 4 rfl) (lv_at hl 0 rfl) rfl (by omega) dL_law_249 dL_law_250 dL_law_252 dL_law_253 dL_law_254 ?_
  refine lv_aload_n hx hb dL_law_255 rfl (lv_at hl 1 rfl) ?_
  refine lw_cC ⟨hx, hb, hml, hown, hts⟩ hC (vx_cwSW 3 hts gL_law_L_crash rfl rfl rfl (by decide +kernel) ⟨Nat.le_of_ble_eq_true rfl, Nat.le_of_ble_eq_true rfl⟩) rfl hl.1 rfl dL_law_256 ⟨show cells + 1 ≤ 601024 by omega, show slots + 6 ≤ 7293034 by omega⟩ hP hD hK hE hA hS (fun f H locs hf hP hD hS => ?_)
  refine lv_istore (lv' := [(5, .int k), (4, .int (nI i)), (3, .ref ou), (2, .ref g), (1, .ref h), (0, .ref b)]) hx hb dL_law_259 hl (by decide) rfl (fun ls hl => ?_)
  refine lv_aload_n hx hb dL_law_261 rfl (lv_at hl 3 rfl) ?_
  refine lw_arg (j := 1) C hS (lv_at hl 5 rfl) (lv_at hl 1 rfl) rfl (by omega) dL_law_262 dL_law_263 dL_law_265 dL_law_266 dL_law_267 ?_
  refine lw_cR ⟨hx, hb, hml, hown, hts⟩ (fun sz => hR sz t1) (cwV 1 hts gL_law_X5_crash rfl hrm.1 hrm.2.1 (by decide +kernel) (hrmR hrm (Nat.le_of_ble_eq_true rfl))) rfl hl.1 rfl (Nat.le_of_ble_eq_true rfl) dL_law_268 ⟨show cells + 1 ≤ 601024 by omega, show slots + 6 ≤ 7293034 by omega⟩ hP hD hK hA hS (fun H locs hP hD hS => ?_)
  refine lv_istore (lv' := [(6, .int v'), (5, .int k), (4, .int (nI i)), (3, .ref ou), (2, .ref g), (1, .ref h), (0, .ref b)]) hx hb dL_law_271 hl (by decide) rfl (fun ls hl => ?_)
  refine lv_aload_n hx hb dL_law_273 rfl (lv_at hl 4 rfl) ?_
  refine lw_cR ⟨hx, hb, hml, hown, hts⟩ (fun sz => thrR sz k' tm s') (cwV 0 hts gL_law_X5_thrown rfl rfl rfl (by decide +kernel) ⟨Nat.le_of_ble_eq_true rfl, Nat.le_of_ble_eq_true rfl⟩) rfl hl.1 rfl (Nat.le_of_ble_eq_true rfl) dL_law_274 ⟨show cells + 1 ≤ 601024 by omega, show slots + 6 ≤ 7293034 by omega⟩ hP hD hK hA hS (fun H locs hP hD hS => ?_)
  refine lv_iload hx hb dL_law_277 (lv_at hl 1 rfl) ?_
  refine lv_icmp_eq (tgt := 284) hx hb dL_law_279 (by decide) (fun _ => ?_) (fun z => absurd e1.symm z)
  refine lv_iload hx hb dL_law_284 (lv_at hl 1 rfl) ?_
  refine lv_if_ne (tgt := 308) hx hb dL_law_286 (by decide) (fun z => ?_) (fun z => ?_)
  · skip
    refine lv_goto (tgt := 1355) hx hb dL_law_308 (by decide) ?_
    refine W.widen (k := cells + 12) (n := slots + 276) (by omega) (by omega) ?_
    exact KK _ _ _ ⟨tm, k', c', o', f, s', ⟨r1, r2, r3, r4⟩, hP, hD, hS, lv_sub hl [2, 3, 4, 5, 6] rfl⟩
  · refine lv_aload_n hx hb dL_law_289 rfl (lv_at hl 3 rfl) ?_
    refine lv_iconst (v := nI 0) hx hb dL_law_290 (by decide) ?_
    refine lald0 hx hb hK hP 13 2 rfl rfl dL_law_291 ?_
    refine lv_iload hx hb dL_law_292 (lv_at hl 0 rfl) ?_
    refine lv_if_eq (tgt := 301) hx hb dL_law_294 (by decide) (fun y0 => ?_) (fun y0 => ?_)
    · refine lv_lconst (v := 0) hx hb dL_law_301 (by decide) ?_
      refine W.lcmp hx hb dL_law_302 ?_
      refine lv_if_eq (tgt := 308) hx hb dL_law_303 (by decide) (fun _ => ?_) (fun y => absurd ((lg_cmp_eq _ _).mpr (((hf z).trans (congrArg Int32.toInt64 (e2 z))).trans (by rw [y0]; rfl))) y)
      refine lv_goto (tgt := 1355) hx hb dL_law_308 (by decide) ?_
      refine W.widen (k := cells + 12) (n := slots + 276) (by omega) (by omega) ?_
      exact KK _ _ _ ⟨tm, k', c', o', f, s', ⟨r1, r2, r3, r4⟩, hP, hD, hS, lv_sub hl [2, 3, 4, 5, 6] rfl⟩
    · refine lv_lconst (v := 1) hx hb dL_law_297 (by decide) ?_
      refine lv_goto (tgt := 302) hx hb dL_law_298 (by decide) ?_
      refine W.lcmp hx hb dL_law_302 ?_
      refine lv_if_eq (tgt := 308) hx hb dL_law_303 (by decide) (fun _ => ?_) (fun y => absurd ((lg_cmp_eq _ _).mpr (((hf z).trans (congrArg Int32.toInt64 (e2 z))).trans (by rw [e3.resolve_left y0]; rfl))) y)
      refine lv_goto (tgt := 1355) hx hb dL_law_308 (by decide) ?_
      refine W.widen (k := cells + 12) (n := slots + 276) (by omega) (by omega) ?_
      exact KK _ _ _ ⟨tm, k', c', o', f, s', ⟨r1, r2, r3, r4⟩, hP, hD, hS, lv_sub hl [2, 3, 4, 5, 6] rfl⟩
set_option maxHeartbeats 4000000 in
set_option maxRecDepth 100000 in
theorem law_endDay (C : lawCx p l s m cd b L xs D cI cB cL cZ cC) (hi4 : i + 3 < L) (hcs : cells + 12 ≤ 601024 ∧ slots + 276 ≤ 7293034) (hLS : lawSt D cI cB cL cZ cC h ou g q qz qo b s i H locs ls) (KK : ∀ (H : Heap) (locs : List Loc) (ls : Array Slot), lawSt D cI cB cL cZ cC h ou g q qz qo b s i H locs ls → W p l e room_1 s m #[Value.ref b] below meth cd H locs (cells + 12) (slots + 276) Q (F0 m 1355 ls [])) : W p l e room_1 s m #[Value.ref b] below meth cd H locs cells slots Q (F0 m 311 ls []) := by
  obtain ⟨tm, t1, c, o, f, sr, ⟨hr, hi, b1, b2⟩, hP, hD, hS, hl⟩ := hLS
  have C9 := C
  obtain ⟨⟨hx, hb, hml, hown, hts⟩, hK, hE, hX, hbl, hlt, hL⟩ := C9
  have hA : ∀ q : Nat, s.heap.size ≤ q → (fun q : Nat => s.heap.size ≤ q) q := fun _ h => h
  obtain ⟨rmR, k, k', v, v', c', o', s', hrm, hC, hR, ⟨e1, e2, e3⟩, r1, r2, r3, r4⟩ := p_endDay (l := l) (D := D) (cI := cI) (cB := cB) (cL := cL) (cZ := cZ) (cC := cC) (h := h) (ou := ou) (g := g) (qz := qz) (qo := qo) (q := q) (tm := tm) hlt hr hi b1 b2
  refine lv_aload_n hx hb dL_law_311 rfl (lv_at hl 3 rfl) ?_
  refine lv_aload_n hx hb dL_law_312 rfl (lv_at hl 1 rfl) ?_
  refine lw_cC ⟨hx, hb, hml, hown, hts⟩ hC (vx_cwSW 2 hts gL_law_L_endDay rfl rfl rfl (by decide +kernel) ⟨Nat.le_of_ble_eq_true rfl, Nat.le_of_ble_eq_true rfl⟩) rfl hl.1 rfl dL_law_313 ⟨show cells + 1 ≤ 601024 by omega, show slots + 6 ≤ 7293034 by omega⟩ hP hD hK hE hA hS (fun f H locs hf hP hD hS => ?_)
  refine lv_istore (lv' := [(5, .int k), (4, .int (nI i)), (3, .ref ou), (2, .ref g), (1, .ref h), (0, .ref b)]) hx hb dL_law_316 hl (by decide) rfl (fun ls hl => ?_)
  refine lv_aload_n hx hb dL_law_318 rfl (lv_at hl 3 rfl) ?_
  refine lw_cR ⟨hx, hb, hml, hown, hts⟩ (fun sz => hR sz t1) (cwV 0 hts gL_law_X5_endDay rfl hrm.1 hrm.2.1 (by decide +kernel) (hrmR hrm (Nat.le_of_ble_eq_true rfl))) rfl hl.1 rfl (Nat.le_of_ble_eq_true rfl) dL_law_319 ⟨show cells + 1 ≤ 601024 by omega, show slots + 6 ≤ 7293034 by omega⟩ hP hD hK hA hS (fun H locs hP hD hS => ?_)
  refine lv_istore (lv' := [(6, .int v'), (5, .int k), (4, .int (nI i)), (3, .ref ou), (2, .ref g), (1, .ref h), (0, .ref b)]) hx hb dL_law_322 hl (by decide) rfl (fun ls hl => ?_)
  refine lv_aload_n hx hb dL_law_324 rfl (lv_at hl 4 rfl) ?_
  refine lw_cR ⟨hx, hb, hml, hown, hts⟩ (fun sz => thrR sz k' tm s') (cwV 0 hts gL_law_X5_thrown rfl rfl rfl (by decide +kernel) ⟨Nat.le_of_ble_eq_true rfl, Nat.le_of_ble_eq_true rfl⟩) rfl hl.1 rfl (Nat.le_of_ble_eq_true rfl) dL_law_325 ⟨show cells + 1 ≤ 601024 by omega, show slots + 6 ≤ 7293034 by omega⟩ hP hD hK hA hS (fun H locs hP hD hS => ?_)
  refine lv_iload hx hb dL_law_328 (lv_at hl 1 rfl) ?_
  refine lv_icmp_eq (tgt := 335) hx hb dL_law_330 (by decide) (fun _ => ?_) (fun z => absurd e1.symm z)
  refine lv_iload hx hb dL_law_335 (lv_at hl 1 rfl) ?_
  refine lv_if_ne (tgt := 352) hx hb dL_law_337 (by decide) (fun z => ?_) (fun z => ?_)
  · skip
    refine lv_goto (tgt := 1355) hx hb dL_law_352 (by decide) ?_
    refine W.widen (k := cells + 12) (n := slots + 276) (by omega) (by omega) ?_
    exact KK _ _ _ ⟨tm, k', c', o', f, s', ⟨r1, r2, r3, r4⟩, hP, hD, hS, lv_sub hl [2, 3, 4, 5, 6] rfl⟩
  · refine lv_aload_n hx hb dL_law_340 rfl (lv_at hl 3 rfl) ?_
    refine lv_iconst (v := nI 0) hx hb dL_law_341 (by decide) ?_
    refine lald0 hx hb hK hP 13 2 rfl rfl dL_law_342 ?_
    refine lv_iload hx hb dL_law_343 (lv_at hl 0 rfl) ?_
    refine lv_i2l (v := v'.toInt64) hx hb dL_law_345 rfl ?_
    refine W.lcmp hx hb dL_law_346 ?_
    refine lv_if_eq (tgt := 352) hx hb dL_law_347 (by decide) (fun _ => ?_) (fun y => absurd ((lg_cmp_eq _ _).mpr ((hf z).trans (congrArg Int32.toInt64 (e2 z)))) y)
    refine lv_goto (tgt := 1355) hx hb dL_law_352 (by decide) ?_
    refine W.widen (k := cells + 12) (n := slots + 276) (by omega) (by omega) ?_
    exact KK _ _ _ ⟨tm, k', c', o', f, s', ⟨r1, r2, r3, r4⟩, hP, hD, hS, lv_sub hl [2, 3, 4, 5, 6] rfl⟩
set_option maxHeartbeats 4000000 in
set_option maxRecDepth 100000 in
theorem law_send (C : lawCx p l s m cd b L xs D cI cB cL cZ cC) (hi4 : i + 3 < L) (hcs : cells + 12 ≤ 601024 ∧ slots + 276 ≤ 7293034) (hLS : lawSt D cI cB cL cZ cC h ou g q qz qo b s i H locs ls) (KK : ∀ (H : Heap) (locs : List Loc) (ls : Array Slot), lawSt D cI cB cL cZ cC h ou g q qz qo b s i H locs ls → W p l e room_1 s m #[Value.ref b] below meth cd H locs (cells + 12) (slots + 276) Q (F0 m 1355 ls [])) : W p l e room_1 s m #[Value.ref b] below meth cd H locs cells slots Q (F0 m 355 ls []) := by
  obtain ⟨tm, t1, c, o, f, sr, ⟨hr, hi, b1, b2⟩, hP, hD, hS, hl⟩ := hLS
  have C9 := C
  obtain ⟨⟨hx, hb, hml, hown, hts⟩, hK, hE, hX, hbl, hlt, hL⟩ := C9
  have hA : ∀ q : Nat, s.heap.size ≤ q → (fun q : Nat => s.heap.size ≤ q) q := fun _ h => h
  obtain ⟨rmR, k, k', v, v', c', o', s', hrm, hC, hR, ⟨e1, e2, e3⟩, r1, r2, r3, r4⟩ := p_send (l := l) (D := D) (cI := cI) (cB := cB) (cL := cL) (cZ := cZ) (cC := cC) (h := h) (ou := ou) (g := g) (qz := qz) (qo := qo) (q := q) (tm := tm) (xs (i + 1)) (xs (i + 2)) hlt hr hi b1 b2
  refine lv_aload_n hx hb dL_law_355 rfl (lv_at hl 3 rfl) ?_
  refine lw_arg (j := 1) C hS (lv_at hl 4 rfl) (lv_at hl 0 rfl) rfl (by omega) dL_law_356 dL_law_357 dL_law_359 dL_law_360 dL_law_361 ?_
  refine lw_arg (j := 2) C hS (lv_at hl 4 rfl) (lv_at hl 0 rfl) rfl (by omega) dL_law_362 dL_law_363 dL_law_365 dL_law_366 dL_law_367 ?_
  refine lv_aload_n hx hb dL_law_368 rfl (lv_at hl 1 rfl) ?_
  refine lw_cC ⟨hx, hb, hml, hown, hts⟩ hC (vx_cwSW 4 hts gL_law_L_send rfl rfl rfl (by decide +kernel) ⟨Nat.le_of_ble_eq_true rfl, Nat.le_of_ble_eq_true rfl⟩) rfl hl.1 rfl dL_law_369 ⟨show cells + 2 ≤ 601024 by omega, show slots + 12 ≤ 7293034 by omega⟩ hP hD hK hE hA hS (fun f H locs hf hP hD hS => ?_)
  refine lv_istore (lv' := [(5, .int k), (4, .int (nI i)), (3, .ref ou), (2, .ref g), (1, .ref h), (0, .ref b)]) hx hb dL_law_372 hl (by decide) rfl (fun ls hl => ?_)
  refine lv_aload_n hx hb dL_law_374 rfl (lv_at hl 3 rfl) ?_
  refine lw_arg (j := 1) C hS (lv_at hl 5 rfl) (lv_at hl 1 rfl) rfl (by omega) dL_law_375 dL_law_376 dL_law_378 dL_law_379 dL_law_380 ?_
  refine lw_arg (j := 2) C hS (lv_at hl 5 rfl) (lv_at hl 1 rfl) rfl (by omega) dL_law_381 dL_law_382 dL_law_384 dL_law_385 dL_law_386 ?_
  refine lw_cR ⟨hx, hb, hml, hown, hts⟩ (fun sz => hR sz t1) (cwV 2 hts gL_law_X5_send rfl hrm.1 hrm.2.1 (by decide +kernel) (hrmR hrm (Nat.le_of_ble_eq_true rfl))) rfl hl.1 rfl (Nat.le_of_ble_eq_true rfl) dL_law_387 ⟨show cells + 2 ≤ 601024 by omega, show slots + 12 ≤ 7293034 by omega⟩ hP hD hK hA hS (fun H locs hP hD hS => ?_)
  refine lv_istore (lv' := [(6, .int v'), (5, .int k), (4, .int (nI i)), (3, .ref ou), (2, .ref g), (1, .ref h), (0, .ref b)]) hx hb dL_law_390 hl (by decide) rfl (fun ls hl => ?_)
  refine lv_aload_n hx hb dL_law_392 rfl (lv_at hl 4 rfl) ?_
  refine lw_cR ⟨hx, hb, hml, hown, hts⟩ (fun sz => thrR sz k' tm s') (cwV 0 hts gL_law_X5_thrown rfl rfl rfl (by decide +kernel) ⟨Nat.le_of_ble_eq_true rfl, Nat.le_of_ble_eq_true rfl⟩) rfl hl.1 rfl (Nat.le_of_ble_eq_true rfl) dL_law_393 ⟨show cells + 2 ≤ 601024 by omega, show slots + 12 ≤ 7293034 by omega⟩ hP hD hK hA hS (fun H locs hP hD hS => ?_)
  refine lv_iload hx hb dL_law_396 (lv_at hl 1 rfl) ?_
  refine lv_icmp_eq (tgt := 403) hx hb dL_law_398 (by decide) (fun _ => ?_) (fun z => absurd e1.symm z)
  refine lv_iload hx hb dL_law_403 (lv_at hl 1 rfl) ?_
  refine lv_if_ne (tgt := 420) hx hb dL_law_405 (by decide) (fun z => ?_) (fun z => ?_)
  · skip
    refine lv_goto (tgt := 1355) hx hb dL_law_420 (by decide) ?_
    refine W.widen (k := cells + 12) (n := slots + 276) (by omega) (by omega) ?_
    exact KK _ _ _ ⟨tm, k', c', o', f, s', ⟨r1, r2, r3, r4⟩, hP, hD, hS, lv_sub hl [2, 3, 4, 5, 6] rfl⟩
  · refine lv_aload_n hx hb dL_law_408 rfl (lv_at hl 3 rfl) ?_
    refine lv_iconst (v := nI 0) hx hb dL_law_409 (by decide) ?_
    refine lald0 hx hb hK hP 13 2 rfl rfl dL_law_410 ?_
    refine lv_iload hx hb dL_law_411 (lv_at hl 0 rfl) ?_
    refine lv_i2l (v := v'.toInt64) hx hb dL_law_413 rfl ?_
    refine W.lcmp hx hb dL_law_414 ?_
    refine lv_if_eq (tgt := 420) hx hb dL_law_415 (by decide) (fun _ => ?_) (fun y => absurd ((lg_cmp_eq _ _).mpr ((hf z).trans (congrArg Int32.toInt64 (e2 z)))) y)
    refine lv_goto (tgt := 1355) hx hb dL_law_420 (by decide) ?_
    refine W.widen (k := cells + 12) (n := slots + 276) (by omega) (by omega) ?_
    exact KK _ _ _ ⟨tm, k', c', o', f, s', ⟨r1, r2, r3, r4⟩, hP, hD, hS, lv_sub hl [2, 3, 4, 5, 6] rfl⟩
set_option maxHeartbeats 4000000 in
set_option maxRecDepth 100000 in
theorem law_again (C : lawCx p l s m cd b L xs D cI cB cL cZ cC) (hi4 : i + 3 < L) (hcs : cells + 12 ≤ 601024 ∧ slots + 276 ≤ 7293034) (hLS : lawSt D cI cB cL cZ cC h ou g q qz qo b s i H locs ls) (KK : ∀ (H : Heap) (locs : List Loc) (ls : Array Slot), lawSt D cI cB cL cZ cC h ou g q qz qo b s i H locs ls → W p l e room_1 s m #[Value.ref b] below meth cd H locs (cells + 12) (slots + 276) Q (F0 m 1355 ls [])) : W p l e room_1 s m #[Value.ref b] below meth cd H locs cells slots Q (F0 m 423 ls []) := by
  obtain ⟨tm, t1, c, o, f, sr, ⟨hr, hi, b1, b2⟩, hP, hD, hS, hl⟩ := hLS
  have C9 := C
  obtain ⟨⟨hx, hb, hml, hown, hts⟩, hK, hE, hX, hbl, hlt, hL⟩ := C9
  have hA : ∀ q : Nat, s.heap.size ≤ q → (fun q : Nat => s.heap.size ≤ q) q := fun _ h => h
  obtain ⟨rmR, k, k', v, v', c', o', s', hrm, hC, hR, ⟨e1, e2, e3⟩, r1, r2, r3, r4⟩ := p_again (l := l) (D := D) (cI := cI) (cB := cB) (cL := cL) (cZ := cZ) (cC := cC) (h := h) (ou := ou) (g := g) (qz := qz) (qo := qo) (q := q) (tm := tm) (xs (i + 1)) (xs (i + 2)) hlt hr hi b1 b2
  refine lv_aload_n hx hb dL_law_423 rfl (lv_at hl 3 rfl) ?_
  refine lw_arg (j := 1) C hS (lv_at hl 4 rfl) (lv_at hl 0 rfl) rfl (by omega) dL_law_424 dL_law_425 dL_law_427 dL_law_428 dL_law_429 ?_
  refine lw_arg (j := 2) C hS (lv_at hl 4 rfl) (lv_at hl 0 rfl) rfl (by omega) dL_law_430 dL_law_431 dL_law_433 dL_law_434 dL_law_435 ?_
  refine lv_aload_n hx hb dL_law_436 rfl (lv_at hl 1 rfl) ?_
  refine lw_cC ⟨hx, hb, hml, hown, hts⟩ hC (vx_cwSW 4 hts gL_law_L_again rfl rfl rfl (by decide +kernel) ⟨Nat.le_of_ble_eq_true rfl, Nat.le_of_ble_eq_true rfl⟩) rfl hl.1 rfl dL_law_437 ⟨show cells + 2 ≤ 601024 by omega, show slots + 12 ≤ 7293034 by omega⟩ hP hD hK hE hA hS (fun f H locs hf hP hD hS => ?_)
  refine lv_istore (lv' := [(5, .int k), (4, .int (nI i)), (3, .ref ou), (2, .ref g), (1, .ref h), (0, .ref b)]) hx hb dL_law_440 hl (by decide) rfl (fun ls hl => ?_)
  refine lv_aload_n hx hb dL_law_442 rfl (lv_at hl 3 rfl) ?_
  refine lw_arg (j := 1) C hS (lv_at hl 5 rfl) (lv_at hl 1 rfl) rfl (by omega) dL_law_443 dL_law_444 dL_law_446 dL_law_447 dL_law_448 ?_
  refine lw_arg (j := 2) C hS (lv_at hl 5 rfl) (lv_at hl 1 rfl) rfl (by omega) dL_law_449 dL_law_450 dL_law_452 dL_law_453 dL_law_454 ?_
  refine lw_cR ⟨hx, hb, hml, hown, hts⟩ (fun sz => hR sz t1) (cwV 2 hts gL_law_X5_again rfl hrm.1 hrm.2.1 (by decide +kernel) (hrmR hrm (Nat.le_of_ble_eq_true rfl))) rfl hl.1 rfl (Nat.le_of_ble_eq_true rfl) dL_law_455 ⟨show cells + 2 ≤ 601024 by omega, show slots + 12 ≤ 7293034 by omega⟩ hP hD hK hA hS (fun H locs hP hD hS => ?_)
  refine lv_istore (lv' := [(6, .int v'), (5, .int k), (4, .int (nI i)), (3, .ref ou), (2, .ref g), (1, .ref h), (0, .ref b)]) hx hb dL_law_458 hl (by decide) rfl (fun ls hl => ?_)
  refine lv_aload_n hx hb dL_law_460 rfl (lv_at hl 4 rfl) ?_
  refine lw_cR ⟨hx, hb, hml, hown, hts⟩ (fun sz => thrR sz k' tm s') (cwV 0 hts gL_law_X5_thrown rfl rfl rfl (by decide +kernel) ⟨Nat.le_of_ble_eq_true rfl, Nat.le_of_ble_eq_true rfl⟩) rfl hl.1 rfl (Nat.le_of_ble_eq_true rfl) dL_law_461 ⟨show cells + 2 ≤ 601024 by omega, show slots + 12 ≤ 7293034 by omega⟩ hP hD hK hA hS (fun H locs hP hD hS => ?_)
  refine lv_iload hx hb dL_law_464 (lv_at hl 1 rfl) ?_
  refine lv_icmp_eq (tgt := 471) hx hb dL_law_466 (by decide) (fun _ => ?_) (fun z => absurd e1.symm z)
  refine lv_iload hx hb dL_law_471 (lv_at hl 1 rfl) ?_
  refine lv_if_ne (tgt := 488) hx hb dL_law_473 (by decide) (fun z => ?_) (fun z => ?_)
  · skip
    refine lv_goto (tgt := 1355) hx hb dL_law_488 (by decide) ?_
    refine W.widen (k := cells + 12) (n := slots + 276) (by omega) (by omega) ?_
    exact KK _ _ _ ⟨tm, k', c', o', f, s', ⟨r1, r2, r3, r4⟩, hP, hD, hS, lv_sub hl [2, 3, 4, 5, 6] rfl⟩
  · refine lv_aload_n hx hb dL_law_476 rfl (lv_at hl 3 rfl) ?_
    refine lv_iconst (v := nI 0) hx hb dL_law_477 (by decide) ?_
    refine lald0 hx hb hK hP 13 2 rfl rfl dL_law_478 ?_
    refine lv_iload hx hb dL_law_479 (lv_at hl 0 rfl) ?_
    refine lv_i2l (v := v'.toInt64) hx hb dL_law_481 rfl ?_
    refine W.lcmp hx hb dL_law_482 ?_
    refine lv_if_eq (tgt := 488) hx hb dL_law_483 (by decide) (fun _ => ?_) (fun y => absurd ((lg_cmp_eq _ _).mpr ((hf z).trans (congrArg Int32.toInt64 (e2 z)))) y)
    refine lv_goto (tgt := 1355) hx hb dL_law_488 (by decide) ?_
    refine W.widen (k := cells + 12) (n := slots + 276) (by omega) (by omega) ?_
    exact KK _ _ _ ⟨tm, k', c', o', f, s', ⟨r1, r2, r3, r4⟩, hP, hD, hS, lv_sub hl [2, 3, 4, 5, 6] rfl⟩
set_option maxHeartbeats 4000000 in
set_option maxRecDepth 100000 in
theorem law_deliver (C : lawCx p l s m cd b L xs D cI cB cL cZ cC) (hi4 : i + 3 < L) (hcs : cells + 12 ≤ 601024 ∧ slots + 276 ≤ 7293034) (hLS : lawSt D cI cB cL cZ cC h ou g q qz qo b s i H locs ls) (KK : ∀ (H : Heap) (locs : List Loc) (ls : Array Slot), lawSt D cI cB cL cZ cC h ou g q qz qo b s i H locs ls → W p l e room_1 s m #[Value.ref b] below meth cd H locs (cells + 12) (slots + 276) Q (F0 m 1355 ls [])) : W p l e room_1 s m #[Value.ref b] below meth cd H locs cells slots Q (F0 m 491 ls []) := by
  obtain ⟨tm, t1, c, o, f, sr, ⟨hr, hi, b1, b2⟩, hP, hD, hS, hl⟩ := hLS
  have C9 := C
  obtain ⟨⟨hx, hb, hml, hown, hts⟩, hK, hE, hX, hbl, hlt, hL⟩ := C9
  have hA : ∀ q : Nat, s.heap.size ≤ q → (fun q : Nat => s.heap.size ≤ q) q := fun _ h => h
  obtain ⟨rmR, k, k', v, v', c', o', s', hrm, hC, hR, ⟨e1, e2, e3⟩, r1, r2, r3, r4⟩ := p_deliver (l := l) (D := D) (cI := cI) (cB := cB) (cL := cL) (cZ := cZ) (cC := cC) (h := h) (ou := ou) (g := g) (qz := qz) (qo := qo) (q := q) (tm := tm) (xs (i + 1)) hlt hr hi b1 b2
  refine lv_aload_n hx hb dL_law_491 rfl (lv_at hl 3 rfl) ?_
  refine lw_arg (j := 1) C hS (lv_at hl 4 rfl) (lv_at hl 0 rfl) rfl (by omega) dL_law_492 dL_law_493 dL_law_495 dL_law_496 dL_law_497 ?_
  refine lv_aload_n hx hb dL_law_498 rfl (lv_at hl 1 rfl) ?_
  refine lw_cC ⟨hx, hb, hml, hown, hts⟩ hC (vx_cwSW 3 hts gL_law_L_deliver rfl rfl rfl (by decide +kernel) ⟨Nat.le_of_ble_eq_true rfl, Nat.le_of_ble_eq_true rfl⟩) rfl hl.1 rfl dL_law_499 ⟨show cells + 2 ≤ 601024 by omega, show slots + 12 ≤ 7293034 by omega⟩ hP hD hK hE hA hS (fun f H locs hf hP hD hS => ?_)
  refine lv_istore (lv' := [(5, .int k), (4, .int (nI i)), (3, .ref ou), (2, .ref g), (1, .ref h), (0, .ref b)]) hx hb dL_law_502 hl (by decide) rfl (fun ls hl => ?_)
  refine lv_aload_n hx hb dL_law_504 rfl (lv_at hl 3 rfl) ?_
  refine lw_arg (j := 1) C hS (lv_at hl 5 rfl) (lv_at hl 1 rfl) rfl (by omega) dL_law_505 dL_law_506 dL_law_508 dL_law_509 dL_law_510 ?_
  refine lw_cR ⟨hx, hb, hml, hown, hts⟩ (fun sz => hR sz t1) (cwV 1 hts gL_law_X5_deliver rfl hrm.1 hrm.2.1 (by decide +kernel) (hrmR hrm (Nat.le_of_ble_eq_true rfl))) rfl hl.1 rfl (Nat.le_of_ble_eq_true rfl) dL_law_511 ⟨show cells + 2 ≤ 601024 by omega, show slots + 12 ≤ 7293034 by omega⟩ hP hD hK hA hS (fun H locs hP hD hS => ?_)
  refine lv_istore (lv' := [(6, .int v'), (5, .int k), (4, .int (nI i)), (3, .ref ou), (2, .ref g), (1, .ref h), (0, .ref b)]) hx hb dL_law_514 hl (by decide) rfl (fun ls hl => ?_)
  refine lv_aload_n hx hb dL_law_516 rfl (lv_at hl 4 rfl) ?_
  refine lw_cR ⟨hx, hb, hml, hown, hts⟩ (fun sz => thrR sz k' tm s') (cwV 0 hts gL_law_X5_thrown rfl rfl rfl (by decide +kernel) ⟨Nat.le_of_ble_eq_true rfl, Nat.le_of_ble_eq_true rfl⟩) rfl hl.1 rfl (Nat.le_of_ble_eq_true rfl) dL_law_517 ⟨show cells + 2 ≤ 601024 by omega, show slots + 12 ≤ 7293034 by omega⟩ hP hD hK hA hS (fun H locs hP hD hS => ?_)
  refine lv_iload hx hb dL_law_520 (lv_at hl 1 rfl) ?_
  refine lv_icmp_eq (tgt := 527) hx hb dL_law_522 (by decide) (fun _ => ?_) (fun z => absurd e1.symm z)
  refine lv_iload hx hb dL_law_527 (lv_at hl 1 rfl) ?_
  refine lv_if_ne (tgt := 544) hx hb dL_law_529 (by decide) (fun z => ?_) (fun z => ?_)
  · skip
    refine lv_goto (tgt := 1355) hx hb dL_law_544 (by decide) ?_
    refine W.widen (k := cells + 12) (n := slots + 276) (by omega) (by omega) ?_
    exact KK _ _ _ ⟨tm, k', c', o', f, s', ⟨r1, r2, r3, r4⟩, hP, hD, hS, lv_sub hl [2, 3, 4, 5, 6] rfl⟩
  · refine lv_aload_n hx hb dL_law_532 rfl (lv_at hl 3 rfl) ?_
    refine lv_iconst (v := nI 0) hx hb dL_law_533 (by decide) ?_
    refine lald0 hx hb hK hP 13 2 rfl rfl dL_law_534 ?_
    refine lv_iload hx hb dL_law_535 (lv_at hl 0 rfl) ?_
    refine lv_i2l (v := v'.toInt64) hx hb dL_law_537 rfl ?_
    refine W.lcmp hx hb dL_law_538 ?_
    refine lv_if_eq (tgt := 544) hx hb dL_law_539 (by decide) (fun _ => ?_) (fun y => absurd ((lg_cmp_eq _ _).mpr ((hf z).trans (congrArg Int32.toInt64 (e2 z)))) y)
    refine lv_goto (tgt := 1355) hx hb dL_law_544 (by decide) ?_
    refine W.widen (k := cells + 12) (n := slots + 276) (by omega) (by omega) ?_
    exact KK _ _ _ ⟨tm, k', c', o', f, s', ⟨r1, r2, r3, r4⟩, hP, hD, hS, lv_sub hl [2, 3, 4, 5, 6] rfl⟩
set_option maxHeartbeats 4000000 in
set_option maxRecDepth 100000 in
theorem law_lose (C : lawCx p l s m cd b L xs D cI cB cL cZ cC) (hi4 : i + 3 < L) (hcs : cells + 12 ≤ 601024 ∧ slots + 276 ≤ 7293034) (hLS : lawSt D cI cB cL cZ cC h ou g q qz qo b s i H locs ls) (KK : ∀ (H : Heap) (locs : List Loc) (ls : Array Slot), lawSt D cI cB cL cZ cC h ou g q qz qo b s i H locs ls → W p l e room_1 s m #[Value.ref b] below meth cd H locs (cells + 12) (slots + 276) Q (F0 m 1355 ls [])) : W p l e room_1 s m #[Value.ref b] below meth cd H locs cells slots Q (F0 m 547 ls []) := by
  obtain ⟨tm, t1, c, o, f, sr, ⟨hr, hi, b1, b2⟩, hP, hD, hS, hl⟩ := hLS
  have C9 := C
  obtain ⟨⟨hx, hb, hml, hown, hts⟩, hK, hE, hX, hbl, hlt, hL⟩ := C9
  have hA : ∀ q : Nat, s.heap.size ≤ q → (fun q : Nat => s.heap.size ≤ q) q := fun _ h => h
  obtain ⟨rmR, k, k', v, v', c', o', s', hrm, hC, hR, ⟨e1, e2, e3⟩, r1, r2, r3, r4⟩ := p_lose (l := l) (D := D) (cI := cI) (cB := cB) (cL := cL) (cZ := cZ) (cC := cC) (h := h) (ou := ou) (g := g) (qz := qz) (qo := qo) (q := q) (tm := tm) (xs (i + 1)) hlt hr hi b1 b2
  refine lv_aload_n hx hb dL_law_547 rfl (lv_at hl 3 rfl) ?_
  refine lw_arg (j := 1) C hS (lv_at hl 4 rfl) (lv_at hl 0 rfl) rfl (by omega) dL_law_548 dL_law_549 dL_law_551 dL_law_552 dL_law_553 ?_
  refine lv_aload_n hx hb dL_law_554 rfl (lv_at hl 1 rfl) ?_
  refine lw_cC ⟨hx, hb, hml, hown, hts⟩ hC (vx_cwSW 3 hts gL_law_L_lose rfl rfl rfl (by decide +kernel) ⟨Nat.le_of_ble_eq_true rfl, Nat.le_of_ble_eq_true rfl⟩) rfl hl.1 rfl dL_law_555 ⟨show cells + 2 ≤ 601024 by omega, show slots + 12 ≤ 7293034 by omega⟩ hP hD hK hE hA hS (fun f H locs hf hP hD hS => ?_)
  refine lv_istore (lv' := [(5, .int k), (4, .int (nI i)), (3, .ref ou), (2, .ref g), (1, .ref h), (0, .ref b)]) hx hb dL_law_558 hl (by decide) rfl (fun ls hl => ?_)
  refine lv_aload_n hx hb dL_law_560 rfl (lv_at hl 3 rfl) ?_
  refine lw_arg (j := 1) C hS (lv_at hl 5 rfl) (lv_at hl 1 rfl) rfl (by omega) dL_law_561 dL_law_562 dL_law_564 dL_law_565 dL_law_566 ?_
  refine lw_cR ⟨hx, hb, hml, hown, hts⟩ (fun sz => hR sz t1) (cwV 1 hts gL_law_X5_lose rfl hrm.1 hrm.2.1 (by decide +kernel) (hrmR hrm (Nat.le_of_ble_eq_true rfl))) rfl hl.1 rfl (Nat.le_of_ble_eq_true rfl) dL_law_567 ⟨show cells + 2 ≤ 601024 by omega, show slots + 12 ≤ 7293034 by omega⟩ hP hD hK hA hS (fun H locs hP hD hS => ?_)
  refine lv_istore (lv' := [(6, .int v'), (5, .int k), (4, .int (nI i)), (3, .ref ou), (2, .ref g), (1, .ref h), (0, .ref b)]) hx hb dL_law_570 hl (by decide) rfl (fun ls hl => ?_)
  refine lv_aload_n hx hb dL_law_572 rfl (lv_at hl 4 rfl) ?_
  refine lw_cR ⟨hx, hb, hml, hown, hts⟩ (fun sz => thrR sz k' tm s') (cwV 0 hts gL_law_X5_thrown rfl rfl rfl (by decide +kernel) ⟨Nat.le_of_ble_eq_true rfl, Nat.le_of_ble_eq_true rfl⟩) rfl hl.1 rfl (Nat.le_of_ble_eq_true rfl) dL_law_573 ⟨show cells + 2 ≤ 601024 by omega, show slots + 12 ≤ 7293034 by omega⟩ hP hD hK hA hS (fun H locs hP hD hS => ?_)
  refine lv_iload hx hb dL_law_576 (lv_at hl 1 rfl) ?_
  refine lv_icmp_eq (tgt := 583) hx hb dL_law_578 (by decide) (fun _ => ?_) (fun z => absurd e1.symm z)
  refine lv_iload hx hb dL_law_583 (lv_at hl 1 rfl) ?_
  refine lv_if_ne (tgt := 600) hx hb dL_law_585 (by decide) (fun z => ?_) (fun z => ?_)
  · skip
    refine lv_goto (tgt := 1355) hx hb dL_law_600 (by decide) ?_
    refine W.widen (k := cells + 12) (n := slots + 276) (by omega) (by omega) ?_
    exact KK _ _ _ ⟨tm, k', c', o', f, s', ⟨r1, r2, r3, r4⟩, hP, hD, hS, lv_sub hl [2, 3, 4, 5, 6] rfl⟩
  · refine lv_aload_n hx hb dL_law_588 rfl (lv_at hl 3 rfl) ?_
    refine lv_iconst (v := nI 0) hx hb dL_law_589 (by decide) ?_
    refine lald0 hx hb hK hP 13 2 rfl rfl dL_law_590 ?_
    refine lv_iload hx hb dL_law_591 (lv_at hl 0 rfl) ?_
    refine lv_i2l (v := v'.toInt64) hx hb dL_law_593 rfl ?_
    refine W.lcmp hx hb dL_law_594 ?_
    refine lv_if_eq (tgt := 600) hx hb dL_law_595 (by decide) (fun _ => ?_) (fun y => absurd ((lg_cmp_eq _ _).mpr ((hf z).trans (congrArg Int32.toInt64 (e2 z)))) y)
    refine lv_goto (tgt := 1355) hx hb dL_law_600 (by decide) ?_
    refine W.widen (k := cells + 12) (n := slots + 276) (by omega) (by omega) ?_
    exact KK _ _ _ ⟨tm, k', c', o', f, s', ⟨r1, r2, r3, r4⟩, hP, hD, hS, lv_sub hl [2, 3, 4, 5, 6] rfl⟩
set_option maxHeartbeats 4000000 in
set_option maxRecDepth 100000 in
theorem law_tick (C : lawCx p l s m cd b L xs D cI cB cL cZ cC) (hcs : cells + 12 ≤ 601024 ∧ slots + 276 ≤ 7293034) (hLS : lawSt D cI cB cL cZ cC h ou g q qz qo b s i H locs ls) (KK : ∀ (H : Heap) (locs : List Loc) (ls : Array Slot), lawSt D cI cB cL cZ cC h ou g q qz qo b s i H locs ls → W p l e room_1 s m #[Value.ref b] below meth cd H locs (cells + 12) (slots + 276) Q (F0 m 1355 ls [])) : W p l e room_1 s m #[Value.ref b] below meth cd H locs cells slots Q (F0 m 603 ls []) := by
  obtain ⟨tm, t1, c, o, f, sr, ⟨hr, hi, b1, b2⟩, hP, hD, hS, hl⟩ := hLS
  obtain ⟨⟨hx, hb, hml, hown, hts⟩, hK, hE, hX, hbl, hlt, hL⟩ := C
  have hA : ∀ q : Nat, s.heap.size ≤ q → (fun q : Nat => s.heap.size ≤ q) q := fun _ h => h
  obtain ⟨r1, r2⟩ := k_tick (tm := tm) hr hi
  have c1 := cok_tick (tm := tm + 1) (f_cok hr hi b1 b2)
  have h7 := rel_tick (tm := tm + 1) hr (hi.1 0 (by omega)).2.1
  have hi7 := inv_tick (tm := tm + 1) hi (show 0 < 2 by omega)
  have c2 := cok_tick (tm := tm + 1) (f_cok h7.flip hi7 c1.2.2.2 c1.2.2.1)
  refine lv_aload_n hx hb dL_law_603 rfl (lv_at hl 3 rfl) ?_
  have hPc := hP.sub (ws' := wSO13 cI h (qz 0) (qo 0) qz qo tm c o) [0, 1, 2, 3, 4, 5, 6, 7, 8, 9, 10, 11, 12] rfl
  have hDc := hD.sub (ws' := wSO13 cI h (qz 0) (qo 0) qz qo tm c o) [0, 1, 2, 3, 4, 5, 6, 7, 8, 9, 10, 11, 12] (by decide) rfl
  have hFc := va_free (wc := wSO13 cI h (qz 0) (qo 0) qz qo tm c o) hD hS hA [0, 1, 2, 3, 4, 5, 6, 7, 8, 9, 10, 11, 12] rfl
  refine va_calli (va_runV (As := []) (rest := []) ⟨hx, hb, hml, hown, hts⟩ (c_X4_tick l D H.size cI h (fun _ => tm) qz c.1 c.2.1 c.2.2 qo o.1 o.2.1 o.2.2 (f_bd hr hi) (f_bd hr.flip hi)) (cwV 0 hts gL_law_X4_tick rfl rfl rfl (by decide +kernel) ⟨Nat.le_of_ble_eq_true rfl, Nat.le_of_ble_eq_true rfl⟩) ⟨pcs_blind, va_recv hK hP (ci := 4) (q0 := 0) rfl rfl, pcs_pre (z0 := true) (fun h => h) (fun _ => hE) hS hPc (hK.sub (tys' := [(cI, .int)]) [0] rfl) hDc hFc⟩ rfl rfl hl.1 rfl (lv_room (Nat.le_of_ble_eq_true rfl)) dL_law_604 ⟨show cells + 0 ≤ 601024 by omega, show slots + 0 ≤ 7293034 by omega⟩) hS (fun q _ h => hFc q h) hFc (fun r u t H1 locs1 ht hvm hw hB hz1 hk1 hS => ?_)
  obtain ⟨hP, hD⟩ := aft (wr := (ou, .inl (cL, 1, .inr (.inl f))) :: wRf cI cZ cC g q t1 tm sr) (w1 := wSO13 cI h (qz 0) (qo 0) qz qo (tm + 1) (cTickF tm c o).1 (cTickF tm c o).2) (w2 := wSO cI cL h (qz 0) (qo 0) qz qo (tm + 1) (cTickF tm c o).1 (cTickF tm c o).2 ou f ++ wRf cI cZ cC g q t1 tm sr) hP hD [0, 1, 2, 3, 4, 5, 6, 7, 8, 9, 10, 11, 12] [13, 14, 15, 16, 17, 18, 19, 20, 21, 22, 23, 24, 25, 26, 27, 28, 29, 30, 31, 32, 33, 34] [22, 23, 24, 25, 26, 27, 28, 29, 30, 31, 32, 33, 34, 0, 1, 2, 3, 4, 5, 6, 7, 8, 9, 10, 11, 12, 13, 14, 15, 16, 17, 18, 19, 20, 21] rfl rfl (by decide) (by decide) hFc hk1 ht hB rfl (by decide) rfl
  have hw : r = tm + 1 := hw
  subst hw
  refine lv_aload_n hx hb dL_law_607 rfl (lv_at hl 2 rfl) ?_
  refine lw_cR (t1' := 0) (tm' := tm + 1) (sr' := (rTick (tm + 1) 1 (rTick (tm + 1) 0 sr))) ⟨hx, hb, hml, hown, hts⟩ (fun sz => c_X5_tick l D sz cI cZ cC g q (jj t1 tm) sr.1 sr.2 (f_rw hi) (f_nb hi)) (cwV 0 hts gL_law_X5_tick rfl rfl rfl (by decide +kernel) ⟨Nat.le_of_ble_eq_true rfl, Nat.le_of_ble_eq_true rfl⟩) rfl hl.1 rfl (Nat.le_of_ble_eq_true rfl) dL_law_608 ⟨show cells + 0 ≤ 601024 by omega, show slots + 0 ≤ 7293034 by omega⟩ hP hD hK hA hS (fun H locs hP hD hS => ?_)
  refine lv_icmp_eq (tgt := 1355) hx hb dL_law_611 (by decide) (fun _ => ?_) (fun z => absurd rfl z)
  refine W.widen (k := cells + 12) (n := slots + 276) (by omega) (by omega) ?_
  exact KK _ _ _ ⟨tm + 1, 0, (cTickF tm c o).1, (cTickF tm c o).2, f, (rTick (tm + 1) 1 (rTick (tm + 1) 0 sr)), ⟨r1, r2, c2.2.2.2, c2.2.2.1⟩, hP, hD, hS, hl⟩
set_option maxHeartbeats 4000000 in
set_option maxRecDepth 100000 in
theorem law_stateOf (C : lawCx p l s m cd b L xs D cI cB cL cZ cC) (hi4 : i + 3 < L) (hcs : cells + 12 ≤ 601024 ∧ slots + 276 ≤ 7293034) (hLS : lawSt D cI cB cL cZ cC h ou g q qz qo b s i H locs ls) (KK : ∀ (H : Heap) (locs : List Loc) (ls : Array Slot), lawSt D cI cB cL cZ cC h ou g q qz qo b s i H locs ls → W p l e room_1 s m #[Value.ref b] below meth cd H locs (cells + 12) (slots + 276) Q (F0 m 1355 ls [])) : W p l e room_1 s m #[Value.ref b] below meth cd H locs cells slots Q (F0 m 616 ls []) := by
  obtain ⟨tm, t1, c, o, f, sr, ⟨hr, hi, b1, b2⟩, hP, hD, hS, hl⟩ := hLS
  have C9 := C
  obtain ⟨⟨hx, hb, hml, hown, hts⟩, hK, hE, hX, hbl, hlt, hL⟩ := C9
  have hA : ∀ q : Nat, s.heap.size ≤ q → (fun q : Nat => s.heap.size ≤ q) q := fun _ h => h
  obtain ⟨rmR, k, k', v, v', c', o', s', hrm, hC, hR, ⟨e1, e2, e3⟩, r1, r2, r3, r4⟩ := p_stateOf (l := l) (D := D) (cI := cI) (cB := cB) (cL := cL) (cZ := cZ) (cC := cC) (h := h) (ou := ou) (g := g) (qz := qz) (qo := qo) (q := q) (tm := tm) (xs (i + 1)) hlt hr hi b1 b2
  refine lv_aload_n hx hb dL_law_616 rfl (lv_at hl 3 rfl) ?_
  refine lw_arg (j := 1) C hS (lv_at hl 4 rfl) (lv_at hl 0 rfl) rfl (by omega) dL_law_617 dL_law_618 dL_law_620 dL_law_621 dL_law_622 ?_
  refine lv_aload_n hx hb dL_law_623 rfl (lv_at hl 1 rfl) ?_
  refine lw_cC ⟨hx, hb, hml, hown, hts⟩ hC (vx_cwSW 3 hts gL_law_L_stateOf rfl rfl rfl (by decide +kernel) ⟨Nat.le_of_ble_eq_true rfl, Nat.le_of_ble_eq_true rfl⟩) rfl hl.1 rfl dL_law_624 ⟨show cells + 1 ≤ 601024 by omega, show slots + 6 ≤ 7293034 by omega⟩ hP hD hK hE hA hS (fun f H locs hf hP hD hS => ?_)
  refine lv_istore (lv' := [(5, .int k), (4, .int (nI i)), (3, .ref ou), (2, .ref g), (1, .ref h), (0, .ref b)]) hx hb dL_law_627 hl (by decide) rfl (fun ls hl => ?_)
  refine lv_aload_n hx hb dL_law_629 rfl (lv_at hl 3 rfl) ?_
  refine lw_arg (j := 1) C hS (lv_at hl 5 rfl) (lv_at hl 1 rfl) rfl (by omega) dL_law_630 dL_law_631 dL_law_633 dL_law_634 dL_law_635 ?_
  refine lw_cR ⟨hx, hb, hml, hown, hts⟩ (fun sz => hR sz t1) (cwV 1 hts gL_law_X5_stateOf rfl hrm.1 hrm.2.1 (by decide +kernel) (hrmR hrm (Nat.le_of_ble_eq_true rfl))) rfl hl.1 rfl (Nat.le_of_ble_eq_true rfl) dL_law_636 ⟨show cells + 1 ≤ 601024 by omega, show slots + 6 ≤ 7293034 by omega⟩ hP hD hK hA hS (fun H locs hP hD hS => ?_)
  refine lv_istore (lv' := [(6, .int v'), (5, .int k), (4, .int (nI i)), (3, .ref ou), (2, .ref g), (1, .ref h), (0, .ref b)]) hx hb dL_law_639 hl (by decide) rfl (fun ls hl => ?_)
  refine lv_aload_n hx hb dL_law_641 rfl (lv_at hl 4 rfl) ?_
  refine lw_cR ⟨hx, hb, hml, hown, hts⟩ (fun sz => thrR sz k' tm s') (cwV 0 hts gL_law_X5_thrown rfl rfl rfl (by decide +kernel) ⟨Nat.le_of_ble_eq_true rfl, Nat.le_of_ble_eq_true rfl⟩) rfl hl.1 rfl (Nat.le_of_ble_eq_true rfl) dL_law_642 ⟨show cells + 1 ≤ 601024 by omega, show slots + 6 ≤ 7293034 by omega⟩ hP hD hK hA hS (fun H locs hP hD hS => ?_)
  refine lv_iload hx hb dL_law_645 (lv_at hl 1 rfl) ?_
  refine lv_icmp_eq (tgt := 652) hx hb dL_law_647 (by decide) (fun _ => ?_) (fun z => absurd e1.symm z)
  refine lv_iload hx hb dL_law_652 (lv_at hl 1 rfl) ?_
  refine lv_if_ne (tgt := 669) hx hb dL_law_654 (by decide) (fun z => ?_) (fun z => ?_)
  · skip
    refine lv_goto (tgt := 1355) hx hb dL_law_669 (by decide) ?_
    refine W.widen (k := cells + 12) (n := slots + 276) (by omega) (by omega) ?_
    exact KK _ _ _ ⟨tm, k', c', o', f, s', ⟨r1, r2, r3, r4⟩, hP, hD, hS, lv_sub hl [2, 3, 4, 5, 6] rfl⟩
  · refine lv_aload_n hx hb dL_law_657 rfl (lv_at hl 3 rfl) ?_
    refine lv_iconst (v := nI 0) hx hb dL_law_658 (by decide) ?_
    refine lald0 hx hb hK hP 13 2 rfl rfl dL_law_659 ?_
    refine lv_iload hx hb dL_law_660 (lv_at hl 0 rfl) ?_
    refine lv_i2l (v := v'.toInt64) hx hb dL_law_662 rfl ?_
    refine W.lcmp hx hb dL_law_663 ?_
    refine lv_if_eq (tgt := 669) hx hb dL_law_664 (by decide) (fun _ => ?_) (fun y => absurd ((lg_cmp_eq _ _).mpr ((hf z).trans (congrArg Int32.toInt64 (e2 z)))) y)
    refine lv_goto (tgt := 1355) hx hb dL_law_669 (by decide) ?_
    refine W.widen (k := cells + 12) (n := slots + 276) (by omega) (by omega) ?_
    exact KK _ _ _ ⟨tm, k', c', o', f, s', ⟨r1, r2, r3, r4⟩, hP, hD, hS, lv_sub hl [2, 3, 4, 5, 6] rfl⟩
set_option maxHeartbeats 4000000 in
set_option maxRecDepth 100000 in
theorem law_next (C : lawCx p l s m cd b L xs D cI cB cL cZ cC) (hi4 : i + 3 < L) (hcs : cells + 12 ≤ 601024 ∧ slots + 276 ≤ 7293034) (hLS : lawSt D cI cB cL cZ cC h ou g q qz qo b s i H locs ls) (KK : ∀ (H : Heap) (locs : List Loc) (ls : Array Slot), lawSt D cI cB cL cZ cC h ou g q qz qo b s i H locs ls → W p l e room_1 s m #[Value.ref b] below meth cd H locs (cells + 12) (slots + 276) Q (F0 m 1355 ls [])) : W p l e room_1 s m #[Value.ref b] below meth cd H locs cells slots Q (F0 m 672 ls []) := by
  obtain ⟨tm, t1, c, o, f, sr, ⟨hr, hi, b1, b2⟩, hP, hD, hS, hl⟩ := hLS
  have C9 := C
  obtain ⟨⟨hx, hb, hml, hown, hts⟩, hK, hE, hX, hbl, hlt, hL⟩ := C9
  have hA : ∀ q : Nat, s.heap.size ≤ q → (fun q : Nat => s.heap.size ≤ q) q := fun _ h => h
  obtain ⟨rmR, k, k', v, v', c', o', s', hrm, hC, hR, ⟨e1, e2, e3⟩, r1, r2, r3, r4⟩ := p_next (l := l) (D := D) (cI := cI) (cB := cB) (cL := cL) (cZ := cZ) (cC := cC) (h := h) (ou := ou) (g := g) (qz := qz) (qo := qo) (q := q) (tm := tm) (xs (i + 1)) hlt hr hi b1 b2
  refine lv_aload_n hx hb dL_law_672 rfl (lv_at hl 3 rfl) ?_
  refine lw_arg (j := 1) C hS (lv_at hl 4 rfl) (lv_at hl 0 rfl) rfl (by omega) dL_law_673 dL_law_674 dL_law_676 dL_law_677 dL_law_678 ?_
  refine lv_aload_n hx hb dL_law_679 rfl (lv_at hl 1 rfl) ?_
  refine lw_cC ⟨hx, hb, hml, hown, hts⟩ hC (vx_cwSW 3 hts gL_law_L_next rfl rfl rfl (by decide +kernel) ⟨Nat.le_of_ble_eq_true rfl, Nat.le_of_ble_eq_true rfl⟩) rfl hl.1 rfl dL_law_680 ⟨show cells + 1 ≤ 601024 by omega, show slots + 6 ≤ 7293034 by omega⟩ hP hD hK hE hA hS (fun f H locs hf hP hD hS => ?_)
  refine lv_istore (lv' := [(5, .int k), (4, .int (nI i)), (3, .ref ou), (2, .ref g), (1, .ref h), (0, .ref b)]) hx hb dL_law_683 hl (by decide) rfl (fun ls hl => ?_)
  refine lv_aload_n hx hb dL_law_685 rfl (lv_at hl 3 rfl) ?_
  refine lw_arg (j := 1) C hS (lv_at hl 5 rfl) (lv_at hl 1 rfl) rfl (by omega) dL_law_686 dL_law_687 dL_law_689 dL_law_690 dL_law_691 ?_
  refine lw_cR ⟨hx, hb, hml, hown, hts⟩ (fun sz => hR sz t1) (cwV 1 hts gL_law_X5_next rfl hrm.1 hrm.2.1 (by decide +kernel) (hrmR hrm (Nat.le_of_ble_eq_true rfl))) rfl hl.1 rfl (Nat.le_of_ble_eq_true rfl) dL_law_692 ⟨show cells + 1 ≤ 601024 by omega, show slots + 6 ≤ 7293034 by omega⟩ hP hD hK hA hS (fun H locs hP hD hS => ?_)
  refine lv_istore (lv' := [(6, .int v'), (5, .int k), (4, .int (nI i)), (3, .ref ou), (2, .ref g), (1, .ref h), (0, .ref b)]) hx hb dL_law_695 hl (by decide) rfl (fun ls hl => ?_)
  refine lv_aload_n hx hb dL_law_697 rfl (lv_at hl 4 rfl) ?_
  refine lw_cR ⟨hx, hb, hml, hown, hts⟩ (fun sz => thrR sz k' tm s') (cwV 0 hts gL_law_X5_thrown rfl rfl rfl (by decide +kernel) ⟨Nat.le_of_ble_eq_true rfl, Nat.le_of_ble_eq_true rfl⟩) rfl hl.1 rfl (Nat.le_of_ble_eq_true rfl) dL_law_698 ⟨show cells + 1 ≤ 601024 by omega, show slots + 6 ≤ 7293034 by omega⟩ hP hD hK hA hS (fun H locs hP hD hS => ?_)
  refine lv_iload hx hb dL_law_701 (lv_at hl 1 rfl) ?_
  refine lv_icmp_eq (tgt := 708) hx hb dL_law_703 (by decide) (fun _ => ?_) (fun z => absurd e1.symm z)
  refine lv_iload hx hb dL_law_708 (lv_at hl 1 rfl) ?_
  refine lv_if_ne (tgt := 725) hx hb dL_law_710 (by decide) (fun z => ?_) (fun z => ?_)
  · skip
    refine lv_goto (tgt := 1355) hx hb dL_law_725 (by decide) ?_
    refine W.widen (k := cells + 12) (n := slots + 276) (by omega) (by omega) ?_
    exact KK _ _ _ ⟨tm, k', c', o', f, s', ⟨r1, r2, r3, r4⟩, hP, hD, hS, lv_sub hl [2, 3, 4, 5, 6] rfl⟩
  · refine lv_aload_n hx hb dL_law_713 rfl (lv_at hl 3 rfl) ?_
    refine lv_iconst (v := nI 0) hx hb dL_law_714 (by decide) ?_
    refine lald0 hx hb hK hP 13 2 rfl rfl dL_law_715 ?_
    refine lv_iload hx hb dL_law_716 (lv_at hl 0 rfl) ?_
    refine lv_i2l (v := v'.toInt64) hx hb dL_law_718 rfl ?_
    refine W.lcmp hx hb dL_law_719 ?_
    refine lv_if_eq (tgt := 725) hx hb dL_law_720 (by decide) (fun _ => ?_) (fun y => absurd ((lg_cmp_eq _ _).mpr ((hf z).trans (congrArg Int32.toInt64 (e2 z)))) y)
    refine lv_goto (tgt := 1355) hx hb dL_law_725 (by decide) ?_
    refine W.widen (k := cells + 12) (n := slots + 276) (by omega) (by omega) ?_
    exact KK _ _ _ ⟨tm, k', c', o', f, s', ⟨r1, r2, r3, r4⟩, hP, hD, hS, lv_sub hl [2, 3, 4, 5, 6] rfl⟩
set_option maxHeartbeats 4000000 in
set_option maxRecDepth 100000 in
theorem law_expected (C : lawCx p l s m cd b L xs D cI cB cL cZ cC) (hi4 : i + 3 < L) (hcs : cells + 12 ≤ 601024 ∧ slots + 276 ≤ 7293034) (hLS : lawSt D cI cB cL cZ cC h ou g q qz qo b s i H locs ls) (KK : ∀ (H : Heap) (locs : List Loc) (ls : Array Slot), lawSt D cI cB cL cZ cC h ou g q qz qo b s i H locs ls → W p l e room_1 s m #[Value.ref b] below meth cd H locs (cells + 12) (slots + 276) Q (F0 m 1355 ls [])) : W p l e room_1 s m #[Value.ref b] below meth cd H locs cells slots Q (F0 m 728 ls []) := by
  obtain ⟨tm, t1, c, o, f, sr, ⟨hr, hi, b1, b2⟩, hP, hD, hS, hl⟩ := hLS
  have C9 := C
  obtain ⟨⟨hx, hb, hml, hown, hts⟩, hK, hE, hX, hbl, hlt, hL⟩ := C9
  have hA : ∀ q : Nat, s.heap.size ≤ q → (fun q : Nat => s.heap.size ≤ q) q := fun _ h => h
  obtain ⟨rmR, k, k', v, v', c', o', s', hrm, hC, hR, ⟨e1, e2, e3⟩, r1, r2, r3, r4⟩ := p_expected (l := l) (D := D) (cI := cI) (cB := cB) (cL := cL) (cZ := cZ) (cC := cC) (h := h) (ou := ou) (g := g) (qz := qz) (qo := qo) (q := q) (tm := tm) (xs (i + 1)) hlt hr hi b1 b2
  refine lv_aload_n hx hb dL_law_728 rfl (lv_at hl 3 rfl) ?_
  refine lw_arg (j := 1) C hS (lv_at hl 4 rfl) (lv_at hl 0 rfl) rfl (by omega) dL_law_729 dL_law_730 dL_law_732 dL_law_733 dL_law_734 ?_
  refine lv_aload_n hx hb dL_law_735 rfl (lv_at hl 1 rfl) ?_
  refine lw_cC ⟨hx, hb, hml, hown, hts⟩ hC (vx_cwSW 3 hts gL_law_L_expected rfl rfl rfl (by decide +kernel) ⟨Nat.le_of_ble_eq_true rfl, Nat.le_of_ble_eq_true rfl⟩) rfl hl.1 rfl dL_law_736 ⟨show cells + 1 ≤ 601024 by omega, show slots + 6 ≤ 7293034 by omega⟩ hP hD hK hE hA hS (fun f H locs hf hP hD hS => ?_)
  refine lv_istore (lv' := [(5, .int k), (4, .int (nI i)), (3, .ref ou), (2, .ref g), (1, .ref h), (0, .ref b)]) hx hb dL_law_739 hl (by decide) rfl (fun ls hl => ?_)
  refine lv_aload_n hx hb dL_law_741 rfl (lv_at hl 3 rfl) ?_
  refine lw_arg (j := 1) C hS (lv_at hl 5 rfl) (lv_at hl 1 rfl) rfl (by omega) dL_law_742 dL_law_743 dL_law_745 dL_law_746 dL_law_747 ?_
  refine lw_cR ⟨hx, hb, hml, hown, hts⟩ (fun sz => hR sz t1) (cwV 1 hts gL_law_X5_expected rfl hrm.1 hrm.2.1 (by decide +kernel) (hrmR hrm (Nat.le_of_ble_eq_true rfl))) rfl hl.1 rfl (Nat.le_of_ble_eq_true rfl) dL_law_748 ⟨show cells + 1 ≤ 601024 by omega, show slots + 6 ≤ 7293034 by omega⟩ hP hD hK hA hS (fun H locs hP hD hS => ?_)
  refine lv_istore (lv' := [(6, .int v'), (5, .int k), (4, .int (nI i)), (3, .ref ou), (2, .ref g), (1, .ref h), (0, .ref b)]) hx hb dL_law_751 hl (by decide) rfl (fun ls hl => ?_)
  refine lv_aload_n hx hb dL_law_753 rfl (lv_at hl 4 rfl) ?_
  refine lw_cR ⟨hx, hb, hml, hown, hts⟩ (fun sz => thrR sz k' tm s') (cwV 0 hts gL_law_X5_thrown rfl rfl rfl (by decide +kernel) ⟨Nat.le_of_ble_eq_true rfl, Nat.le_of_ble_eq_true rfl⟩) rfl hl.1 rfl (Nat.le_of_ble_eq_true rfl) dL_law_754 ⟨show cells + 1 ≤ 601024 by omega, show slots + 6 ≤ 7293034 by omega⟩ hP hD hK hA hS (fun H locs hP hD hS => ?_)
  refine lv_iload hx hb dL_law_757 (lv_at hl 1 rfl) ?_
  refine lv_icmp_eq (tgt := 764) hx hb dL_law_759 (by decide) (fun _ => ?_) (fun z => absurd e1.symm z)
  refine lv_iload hx hb dL_law_764 (lv_at hl 1 rfl) ?_
  refine lv_if_ne (tgt := 781) hx hb dL_law_766 (by decide) (fun z => ?_) (fun z => ?_)
  · skip
    refine lv_goto (tgt := 1355) hx hb dL_law_781 (by decide) ?_
    refine W.widen (k := cells + 12) (n := slots + 276) (by omega) (by omega) ?_
    exact KK _ _ _ ⟨tm, k', c', o', f, s', ⟨r1, r2, r3, r4⟩, hP, hD, hS, lv_sub hl [2, 3, 4, 5, 6] rfl⟩
  · refine lv_aload_n hx hb dL_law_769 rfl (lv_at hl 3 rfl) ?_
    refine lv_iconst (v := nI 0) hx hb dL_law_770 (by decide) ?_
    refine lald0 hx hb hK hP 13 2 rfl rfl dL_law_771 ?_
    refine lv_iload hx hb dL_law_772 (lv_at hl 0 rfl) ?_
    refine lv_i2l (v := v'.toInt64) hx hb dL_law_774 rfl ?_
    refine W.lcmp hx hb dL_law_775 ?_
    refine lv_if_eq (tgt := 781) hx hb dL_law_776 (by decide) (fun _ => ?_) (fun y => absurd ((lg_cmp_eq _ _).mpr ((hf z).trans (congrArg Int32.toInt64 (e2 z)))) y)
    refine lv_goto (tgt := 1355) hx hb dL_law_781 (by decide) ?_
    refine W.widen (k := cells + 12) (n := slots + 276) (by omega) (by omega) ?_
    exact KK _ _ _ ⟨tm, k', c', o', f, s', ⟨r1, r2, r3, r4⟩, hP, hD, hS, lv_sub hl [2, 3, 4, 5, 6] rfl⟩
set_option maxHeartbeats 4000000 in
set_option maxRecDepth 100000 in
theorem law_isAsking (C : lawCx p l s m cd b L xs D cI cB cL cZ cC) (hi4 : i + 3 < L) (hcs : cells + 12 ≤ 601024 ∧ slots + 276 ≤ 7293034) (hLS : lawSt D cI cB cL cZ cC h ou g q qz qo b s i H locs ls) (KK : ∀ (H : Heap) (locs : List Loc) (ls : Array Slot), lawSt D cI cB cL cZ cC h ou g q qz qo b s i H locs ls → W p l e room_1 s m #[Value.ref b] below meth cd H locs (cells + 12) (slots + 276) Q (F0 m 1355 ls [])) : W p l e room_1 s m #[Value.ref b] below meth cd H locs cells slots Q (F0 m 784 ls []) := by
  obtain ⟨tm, t1, c, o, f, sr, ⟨hr, hi, b1, b2⟩, hP, hD, hS, hl⟩ := hLS
  have C9 := C
  obtain ⟨⟨hx, hb, hml, hown, hts⟩, hK, hE, hX, hbl, hlt, hL⟩ := C9
  have hA : ∀ q : Nat, s.heap.size ≤ q → (fun q : Nat => s.heap.size ≤ q) q := fun _ h => h
  obtain ⟨rmR, k, k', v, v', c', o', s', hrm, hC, hR, ⟨e1, e2, e3⟩, r1, r2, r3, r4⟩ := p_isAsking (l := l) (D := D) (cI := cI) (cB := cB) (cL := cL) (cZ := cZ) (cC := cC) (h := h) (ou := ou) (g := g) (qz := qz) (qo := qo) (q := q) (tm := tm) (xs (i + 1)) hlt hr hi b1 b2
  refine lv_aload_n hx hb dL_law_784 rfl (lv_at hl 3 rfl) ?_
  refine lw_arg (j := 1) C hS (lv_at hl 4 rfl) (lv_at hl 0 rfl) rfl (by omega) dL_law_785 dL_law_786 dL_law_788 dL_law_789 dL_law_790 ?_
  refine lv_aload_n hx hb dL_law_791 rfl (lv_at hl 1 rfl) ?_
  refine lw_cC ⟨hx, hb, hml, hown, hts⟩ hC (vx_cwSW 3 hts gL_law_L_isAsking rfl rfl rfl (by decide +kernel) ⟨Nat.le_of_ble_eq_true rfl, Nat.le_of_ble_eq_true rfl⟩) rfl hl.1 rfl dL_law_792 ⟨show cells + 1 ≤ 601024 by omega, show slots + 6 ≤ 7293034 by omega⟩ hP hD hK hE hA hS (fun f H locs hf hP hD hS => ?_)
  refine lv_istore (lv' := [(5, .int k), (4, .int (nI i)), (3, .ref ou), (2, .ref g), (1, .ref h), (0, .ref b)]) hx hb dL_law_795 hl (by decide) rfl (fun ls hl => ?_)
  refine lv_aload_n hx hb dL_law_797 rfl (lv_at hl 3 rfl) ?_
  refine lw_arg (j := 1) C hS (lv_at hl 5 rfl) (lv_at hl 1 rfl) rfl (by omega) dL_law_798 dL_law_799 dL_law_801 dL_law_802 dL_law_803 ?_
  refine lw_cR ⟨hx, hb, hml, hown, hts⟩ (fun sz => hR sz t1) (cwV 1 hts gL_law_X5_isAsking rfl hrm.1 hrm.2.1 (by decide +kernel) (hrmR hrm (Nat.le_of_ble_eq_true rfl))) rfl hl.1 rfl (Nat.le_of_ble_eq_true rfl) dL_law_804 ⟨show cells + 1 ≤ 601024 by omega, show slots + 6 ≤ 7293034 by omega⟩ hP hD hK hA hS (fun H locs hP hD hS => ?_)
  refine lv_istore (lv' := [(6, .int v'), (5, .int k), (4, .int (nI i)), (3, .ref ou), (2, .ref g), (1, .ref h), (0, .ref b)]) hx hb dL_law_807 hl (by decide) rfl (fun ls hl => ?_)
  refine lv_aload_n hx hb dL_law_809 rfl (lv_at hl 4 rfl) ?_
  refine lw_cR ⟨hx, hb, hml, hown, hts⟩ (fun sz => thrR sz k' tm s') (cwV 0 hts gL_law_X5_thrown rfl rfl rfl (by decide +kernel) ⟨Nat.le_of_ble_eq_true rfl, Nat.le_of_ble_eq_true rfl⟩) rfl hl.1 rfl (Nat.le_of_ble_eq_true rfl) dL_law_810 ⟨show cells + 1 ≤ 601024 by omega, show slots + 6 ≤ 7293034 by omega⟩ hP hD hK hA hS (fun H locs hP hD hS => ?_)
  refine lv_iload hx hb dL_law_813 (lv_at hl 1 rfl) ?_
  refine lv_icmp_eq (tgt := 820) hx hb dL_law_815 (by decide) (fun _ => ?_) (fun z => absurd e1.symm z)
  refine lv_iload hx hb dL_law_820 (lv_at hl 1 rfl) ?_
  refine lv_if_ne (tgt := 844) hx hb dL_law_822 (by decide) (fun z => ?_) (fun z => ?_)
  · skip
    refine lv_goto (tgt := 1355) hx hb dL_law_844 (by decide) ?_
    refine W.widen (k := cells + 12) (n := slots + 276) (by omega) (by omega) ?_
    exact KK _ _ _ ⟨tm, k', c', o', f, s', ⟨r1, r2, r3, r4⟩, hP, hD, hS, lv_sub hl [2, 3, 4, 5, 6] rfl⟩
  · refine lv_aload_n hx hb dL_law_825 rfl (lv_at hl 3 rfl) ?_
    refine lv_iconst (v := nI 0) hx hb dL_law_826 (by decide) ?_
    refine lald0 hx hb hK hP 13 2 rfl rfl dL_law_827 ?_
    refine lv_iload hx hb dL_law_828 (lv_at hl 0 rfl) ?_
    refine lv_if_eq (tgt := 837) hx hb dL_law_830 (by decide) (fun y0 => ?_) (fun y0 => ?_)
    · refine lv_lconst (v := 0) hx hb dL_law_837 (by decide) ?_
      refine W.lcmp hx hb dL_law_838 ?_
      refine lv_if_eq (tgt := 844) hx hb dL_law_839 (by decide) (fun _ => ?_) (fun y => absurd ((lg_cmp_eq _ _).mpr (((hf z).trans (congrArg Int32.toInt64 (e2 z))).trans (by rw [y0]; rfl))) y)
      refine lv_goto (tgt := 1355) hx hb dL_law_844 (by decide) ?_
      refine W.widen (k := cells + 12) (n := slots + 276) (by omega) (by omega) ?_
      exact KK _ _ _ ⟨tm, k', c', o', f, s', ⟨r1, r2, r3, r4⟩, hP, hD, hS, lv_sub hl [2, 3, 4, 5, 6] rfl⟩
    · refine lv_lconst (v := 1) hx hb dL_law_833 (by decide) ?_
      refine lv_goto (tgt := 838) hx hb dL_law_834 (by decide) ?_
      refine W.lcmp hx hb dL_law_838 ?_
      refine lv_if_eq (tgt := 844) hx hb dL_law_839 (by decide) (fun _ => ?_) (fun y => absurd ((lg_cmp_eq _ _).mpr (((hf z).trans (congrArg Int32.toInt64 (e2 z))).trans (by rw [e3.resolve_left y0]; rfl))) y)
      refine lv_goto (tgt := 1355) hx hb dL_law_844 (by decide) ?_
      refine W.widen (k := cells + 12) (n := slots + 276) (by omega) (by omega) ?_
      exact KK _ _ _ ⟨tm, k', c', o', f, s', ⟨r1, r2, r3, r4⟩, hP, hD, hS, lv_sub hl [2, 3, 4, 5, 6] rfl⟩
set_option maxHeartbeats 4000000 in
set_option maxRecDepth 100000 in
theorem law_wire (C : lawCx p l s m cd b L xs D cI cB cL cZ cC) (hi4 : i + 3 < L) (hcs : cells + 12 ≤ 601024 ∧ slots + 276 ≤ 7293034) (hLS : lawSt D cI cB cL cZ cC h ou g q qz qo b s i H locs ls) (KK : ∀ (H : Heap) (locs : List Loc) (ls : Array Slot), lawSt D cI cB cL cZ cC h ou g q qz qo b s i H locs ls → W p l e room_1 s m #[Value.ref b] below meth cd H locs (cells + 12) (slots + 276) Q (F0 m 1355 ls [])) : W p l e room_1 s m #[Value.ref b] below meth cd H locs cells slots Q (F0 m 847 ls []) := by
  obtain ⟨tm, t1, c, o, f, sr, ⟨hr, hi, b1, b2⟩, hP, hD, hS, hl⟩ := hLS
  have C9 := C
  obtain ⟨⟨hx, hb, hml, hown, hts⟩, hK, hE, hX, hbl, hlt, hL⟩ := C9
  have hA : ∀ q : Nat, s.heap.size ≤ q → (fun q : Nat => s.heap.size ≤ q) q := fun _ h => h
  obtain ⟨rmR, k, k', v, v', c', o', s', hrm, hC, hR, ⟨e1, e2, e3⟩, r1, r2, r3, r4⟩ := p_wire (l := l) (D := D) (cI := cI) (cB := cB) (cL := cL) (cZ := cZ) (cC := cC) (h := h) (ou := ou) (g := g) (qz := qz) (qo := qo) (q := q) (tm := tm) (xs (i + 1)) hlt hr hi b1 b2
  refine lv_aload_n hx hb dL_law_847 rfl (lv_at hl 3 rfl) ?_
  refine lw_arg (j := 1) C hS (lv_at hl 4 rfl) (lv_at hl 0 rfl) rfl (by omega) dL_law_848 dL_law_849 dL_law_851 dL_law_852 dL_law_853 ?_
  refine lv_aload_n hx hb dL_law_854 rfl (lv_at hl 1 rfl) ?_
  refine lw_cC ⟨hx, hb, hml, hown, hts⟩ hC (vx_cwSW 3 hts gL_law_L_wire rfl rfl rfl (by decide +kernel) ⟨Nat.le_of_ble_eq_true rfl, Nat.le_of_ble_eq_true rfl⟩) rfl hl.1 rfl dL_law_855 ⟨show cells + 1 ≤ 601024 by omega, show slots + 6 ≤ 7293034 by omega⟩ hP hD hK hE hA hS (fun f H locs hf hP hD hS => ?_)
  refine lv_istore (lv' := [(5, .int k), (4, .int (nI i)), (3, .ref ou), (2, .ref g), (1, .ref h), (0, .ref b)]) hx hb dL_law_858 hl (by decide) rfl (fun ls hl => ?_)
  refine lv_aload_n hx hb dL_law_860 rfl (lv_at hl 3 rfl) ?_
  refine lw_arg (j := 1) C hS (lv_at hl 5 rfl) (lv_at hl 1 rfl) rfl (by omega) dL_law_861 dL_law_862 dL_law_864 dL_law_865 dL_law_866 ?_
  refine lw_cR ⟨hx, hb, hml, hown, hts⟩ (fun sz => hR sz t1) (cwV 1 hts gL_law_X5_wire rfl hrm.1 hrm.2.1 (by decide +kernel) (hrmR hrm (Nat.le_of_ble_eq_true rfl))) rfl hl.1 rfl (Nat.le_of_ble_eq_true rfl) dL_law_867 ⟨show cells + 1 ≤ 601024 by omega, show slots + 6 ≤ 7293034 by omega⟩ hP hD hK hA hS (fun H locs hP hD hS => ?_)
  refine lv_istore (lv' := [(6, .int v'), (5, .int k), (4, .int (nI i)), (3, .ref ou), (2, .ref g), (1, .ref h), (0, .ref b)]) hx hb dL_law_870 hl (by decide) rfl (fun ls hl => ?_)
  refine lv_aload_n hx hb dL_law_872 rfl (lv_at hl 4 rfl) ?_
  refine lw_cR ⟨hx, hb, hml, hown, hts⟩ (fun sz => thrR sz k' tm s') (cwV 0 hts gL_law_X5_thrown rfl rfl rfl (by decide +kernel) ⟨Nat.le_of_ble_eq_true rfl, Nat.le_of_ble_eq_true rfl⟩) rfl hl.1 rfl (Nat.le_of_ble_eq_true rfl) dL_law_873 ⟨show cells + 1 ≤ 601024 by omega, show slots + 6 ≤ 7293034 by omega⟩ hP hD hK hA hS (fun H locs hP hD hS => ?_)
  refine lv_iload hx hb dL_law_876 (lv_at hl 1 rfl) ?_
  refine lv_icmp_eq (tgt := 883) hx hb dL_law_878 (by decide) (fun _ => ?_) (fun z => absurd e1.symm z)
  refine lv_iload hx hb dL_law_883 (lv_at hl 1 rfl) ?_
  refine lv_if_ne (tgt := 900) hx hb dL_law_885 (by decide) (fun z => ?_) (fun z => ?_)
  · skip
    refine lv_goto (tgt := 1355) hx hb dL_law_900 (by decide) ?_
    refine W.widen (k := cells + 12) (n := slots + 276) (by omega) (by omega) ?_
    exact KK _ _ _ ⟨tm, k', c', o', f, s', ⟨r1, r2, r3, r4⟩, hP, hD, hS, lv_sub hl [2, 3, 4, 5, 6] rfl⟩
  · refine lv_aload_n hx hb dL_law_888 rfl (lv_at hl 3 rfl) ?_
    refine lv_iconst (v := nI 0) hx hb dL_law_889 (by decide) ?_
    refine lald0 hx hb hK hP 13 2 rfl rfl dL_law_890 ?_
    refine lv_iload hx hb dL_law_891 (lv_at hl 0 rfl) ?_
    refine lv_i2l (v := v'.toInt64) hx hb dL_law_893 rfl ?_
    refine W.lcmp hx hb dL_law_894 ?_
    refine lv_if_eq (tgt := 900) hx hb dL_law_895 (by decide) (fun _ => ?_) (fun y => absurd ((lg_cmp_eq _ _).mpr ((hf z).trans (congrArg Int32.toInt64 (e2 z)))) y)
    refine lv_goto (tgt := 1355) hx hb dL_law_900 (by decide) ?_
    refine W.widen (k := cells + 12) (n := slots + 276) (by omega) (by omega) ?_
    exact KK _ _ _ ⟨tm, k', c', o', f, s', ⟨r1, r2, r3, r4⟩, hP, hD, hS, lv_sub hl [2, 3, 4, 5, 6] rfl⟩
set_option maxHeartbeats 4000000 in
set_option maxRecDepth 100000 in
theorem law_numberAt (C : lawCx p l s m cd b L xs D cI cB cL cZ cC) (hi4 : i + 3 < L) (hcs : cells + 12 ≤ 601024 ∧ slots + 276 ≤ 7293034) (hLS : lawSt D cI cB cL cZ cC h ou g q qz qo b s i H locs ls) (KK : ∀ (H : Heap) (locs : List Loc) (ls : Array Slot), lawSt D cI cB cL cZ cC h ou g q qz qo b s i H locs ls → W p l e room_1 s m #[Value.ref b] below meth cd H locs (cells + 12) (slots + 276) Q (F0 m 1355 ls [])) : W p l e room_1 s m #[Value.ref b] below meth cd H locs cells slots Q (F0 m 903 ls []) := by
  obtain ⟨tm, t1, c, o, f, sr, ⟨hr, hi, b1, b2⟩, hP, hD, hS, hl⟩ := hLS
  have C9 := C
  obtain ⟨⟨hx, hb, hml, hown, hts⟩, hK, hE, hX, hbl, hlt, hL⟩ := C9
  have hA : ∀ q : Nat, s.heap.size ≤ q → (fun q : Nat => s.heap.size ≤ q) q := fun _ h => h
  obtain ⟨rmR, k, k', v, v', c', o', s', hrm, hC, hR, ⟨e1, e2, e3⟩, r1, r2, r3, r4⟩ := p_numberAt (l := l) (D := D) (cI := cI) (cB := cB) (cL := cL) (cZ := cZ) (cC := cC) (h := h) (ou := ou) (g := g) (qz := qz) (qo := qo) (q := q) (tm := tm) (xs (i + 1)) (xs (i + 2)) hlt hr hi b1 b2
  refine lv_aload_n hx hb dL_law_903 rfl (lv_at hl 3 rfl) ?_
  refine lw_arg (j := 1) C hS (lv_at hl 4 rfl) (lv_at hl 0 rfl) rfl (by omega) dL_law_904 dL_law_905 dL_law_907 dL_law_908 dL_law_909 ?_
  refine lw_arg (j := 2) C hS (lv_at hl 4 rfl) (lv_at hl 0 rfl) rfl (by omega) dL_law_910 dL_law_911 dL_law_913 dL_law_914 dL_law_915 ?_
  refine lv_aload_n hx hb dL_law_916 rfl (lv_at hl 1 rfl) ?_
  refine lw_cC ⟨hx, hb, hml, hown, hts⟩ hC (vx_cwSW 4 hts gL_law_L_numberAt rfl rfl rfl (by decide +kernel) ⟨Nat.le_of_ble_eq_true rfl, Nat.le_of_ble_eq_true rfl⟩) rfl hl.1 rfl dL_law_917 ⟨show cells + 2 ≤ 601024 by omega, show slots + 12 ≤ 7293034 by omega⟩ hP hD hK hE hA hS (fun f H locs hf hP hD hS => ?_)
  refine lv_istore (lv' := [(5, .int k), (4, .int (nI i)), (3, .ref ou), (2, .ref g), (1, .ref h), (0, .ref b)]) hx hb dL_law_920 hl (by decide) rfl (fun ls hl => ?_)
  refine lv_aload_n hx hb dL_law_922 rfl (lv_at hl 3 rfl) ?_
  refine lw_arg (j := 1) C hS (lv_at hl 5 rfl) (lv_at hl 1 rfl) rfl (by omega) dL_law_923 dL_law_924 dL_law_926 dL_law_927 dL_law_928 ?_
  refine lw_arg (j := 2) C hS (lv_at hl 5 rfl) (lv_at hl 1 rfl) rfl (by omega) dL_law_929 dL_law_930 dL_law_932 dL_law_933 dL_law_934 ?_
  refine lw_cR ⟨hx, hb, hml, hown, hts⟩ (fun sz => hR sz t1) (cwV 2 hts gL_law_X5_numberAt rfl hrm.1 hrm.2.1 (by decide +kernel) (hrmR hrm (Nat.le_of_ble_eq_true rfl))) rfl hl.1 rfl (Nat.le_of_ble_eq_true rfl) dL_law_935 ⟨show cells + 2 ≤ 601024 by omega, show slots + 12 ≤ 7293034 by omega⟩ hP hD hK hA hS (fun H locs hP hD hS => ?_)
  refine lv_istore (lv' := [(6, .int v'), (5, .int k), (4, .int (nI i)), (3, .ref ou), (2, .ref g), (1, .ref h), (0, .ref b)]) hx hb dL_law_938 hl (by decide) rfl (fun ls hl => ?_)
  refine lv_aload_n hx hb dL_law_940 rfl (lv_at hl 4 rfl) ?_
  refine lw_cR ⟨hx, hb, hml, hown, hts⟩ (fun sz => thrR sz k' tm s') (cwV 0 hts gL_law_X5_thrown rfl rfl rfl (by decide +kernel) ⟨Nat.le_of_ble_eq_true rfl, Nat.le_of_ble_eq_true rfl⟩) rfl hl.1 rfl (Nat.le_of_ble_eq_true rfl) dL_law_941 ⟨show cells + 2 ≤ 601024 by omega, show slots + 12 ≤ 7293034 by omega⟩ hP hD hK hA hS (fun H locs hP hD hS => ?_)
  refine lv_iload hx hb dL_law_944 (lv_at hl 1 rfl) ?_
  refine lv_icmp_eq (tgt := 951) hx hb dL_law_946 (by decide) (fun _ => ?_) (fun z => absurd e1.symm z)
  refine lv_iload hx hb dL_law_951 (lv_at hl 1 rfl) ?_
  refine lv_if_ne (tgt := 968) hx hb dL_law_953 (by decide) (fun z => ?_) (fun z => ?_)
  · skip
    refine lv_goto (tgt := 1355) hx hb dL_law_968 (by decide) ?_
    refine W.widen (k := cells + 12) (n := slots + 276) (by omega) (by omega) ?_
    exact KK _ _ _ ⟨tm, k', c', o', f, s', ⟨r1, r2, r3, r4⟩, hP, hD, hS, lv_sub hl [2, 3, 4, 5, 6] rfl⟩
  · refine lv_aload_n hx hb dL_law_956 rfl (lv_at hl 3 rfl) ?_
    refine lv_iconst (v := nI 0) hx hb dL_law_957 (by decide) ?_
    refine lald0 hx hb hK hP 13 2 rfl rfl dL_law_958 ?_
    refine lv_iload hx hb dL_law_959 (lv_at hl 0 rfl) ?_
    refine lv_i2l (v := v'.toInt64) hx hb dL_law_961 rfl ?_
    refine W.lcmp hx hb dL_law_962 ?_
    refine lv_if_eq (tgt := 968) hx hb dL_law_963 (by decide) (fun _ => ?_) (fun y => absurd ((lg_cmp_eq _ _).mpr ((hf z).trans (congrArg Int32.toInt64 (e2 z)))) y)
    refine lv_goto (tgt := 1355) hx hb dL_law_968 (by decide) ?_
    refine W.widen (k := cells + 12) (n := slots + 276) (by omega) (by omega) ?_
    exact KK _ _ _ ⟨tm, k', c', o', f, s', ⟨r1, r2, r3, r4⟩, hP, hD, hS, lv_sub hl [2, 3, 4, 5, 6] rfl⟩
set_option maxHeartbeats 4000000 in
set_option maxRecDepth 100000 in
theorem law_textLength (C : lawCx p l s m cd b L xs D cI cB cL cZ cC) (hi4 : i + 3 < L) (hcs : cells + 12 ≤ 601024 ∧ slots + 276 ≤ 7293034) (hLS : lawSt D cI cB cL cZ cC h ou g q qz qo b s i H locs ls) (KK : ∀ (H : Heap) (locs : List Loc) (ls : Array Slot), lawSt D cI cB cL cZ cC h ou g q qz qo b s i H locs ls → W p l e room_1 s m #[Value.ref b] below meth cd H locs (cells + 12) (slots + 276) Q (F0 m 1355 ls [])) : W p l e room_1 s m #[Value.ref b] below meth cd H locs cells slots Q (F0 m 971 ls []) := by
  obtain ⟨tm, t1, c, o, f, sr, ⟨hr, hi, b1, b2⟩, hP, hD, hS, hl⟩ := hLS
  have C9 := C
  obtain ⟨⟨hx, hb, hml, hown, hts⟩, hK, hE, hX, hbl, hlt, hL⟩ := C9
  have hA : ∀ q : Nat, s.heap.size ≤ q → (fun q : Nat => s.heap.size ≤ q) q := fun _ h => h
  obtain ⟨rmR, k, k', v, v', c', o', s', hrm, hC, hR, ⟨e1, e2, e3⟩, r1, r2, r3, r4⟩ := p_textLength (l := l) (D := D) (cI := cI) (cB := cB) (cL := cL) (cZ := cZ) (cC := cC) (h := h) (ou := ou) (g := g) (qz := qz) (qo := qo) (q := q) (tm := tm) (xs (i + 1)) (xs (i + 2)) hlt hr hi b1 b2
  refine lv_aload_n hx hb dL_law_971 rfl (lv_at hl 3 rfl) ?_
  refine lw_arg (j := 1) C hS (lv_at hl 4 rfl) (lv_at hl 0 rfl) rfl (by omega) dL_law_972 dL_law_973 dL_law_975 dL_law_976 dL_law_977 ?_
  refine lw_arg (j := 2) C hS (lv_at hl 4 rfl) (lv_at hl 0 rfl) rfl (by omega) dL_law_978 dL_law_979 dL_law_981 dL_law_982 dL_law_983 ?_
  refine lv_aload_n hx hb dL_law_984 rfl (lv_at hl 1 rfl) ?_
  refine lw_cC ⟨hx, hb, hml, hown, hts⟩ hC (vx_cwSW 4 hts gL_law_L_textLength rfl rfl rfl (by decide +kernel) ⟨Nat.le_of_ble_eq_true rfl, Nat.le_of_ble_eq_true rfl⟩) rfl hl.1 rfl dL_law_985 ⟨show cells + 11 ≤ 601024 by omega, show slots + 270 ≤ 7293034 by omega⟩ hP hD hK hE hA hS (fun f H locs hf hP hD hS => ?_)
  refine lv_istore (lv' := [(5, .int k), (4, .int (nI i)), (3, .ref ou), (2, .ref g), (1, .ref h), (0, .ref b)]) hx hb dL_law_988 hl (by decide) rfl (fun ls hl => ?_)
  refine lv_aload_n hx hb dL_law_990 rfl (lv_at hl 3 rfl) ?_
  refine lw_arg (j := 1) C hS (lv_at hl 5 rfl) (lv_at hl 1 rfl) rfl (by omega) dL_law_991 dL_law_992 dL_law_994 dL_law_995 dL_law_996 ?_
  refine lw_arg (j := 2) C hS (lv_at hl 5 rfl) (lv_at hl 1 rfl) rfl (by omega) dL_law_997 dL_law_998 dL_law_1000 dL_law_1001 dL_law_1002 ?_
  refine lw_cR ⟨hx, hb, hml, hown, hts⟩ (fun sz => hR sz t1) (cwV 2 hts gL_law_X5_textLength rfl hrm.1 hrm.2.1 (by decide +kernel) (hrmR hrm (Nat.le_of_ble_eq_true rfl))) rfl hl.1 rfl (Nat.le_of_ble_eq_true rfl) dL_law_1003 ⟨show cells + 11 ≤ 601024 by omega, show slots + 270 ≤ 7293034 by omega⟩ hP hD hK hA hS (fun H locs hP hD hS => ?_)
  refine lv_istore (lv' := [(6, .int v'), (5, .int k), (4, .int (nI i)), (3, .ref ou), (2, .ref g), (1, .ref h), (0, .ref b)]) hx hb dL_law_1006 hl (by decide) rfl (fun ls hl => ?_)
  refine lv_aload_n hx hb dL_law_1008 rfl (lv_at hl 4 rfl) ?_
  refine lw_cR ⟨hx, hb, hml, hown, hts⟩ (fun sz => thrR sz k' tm s') (cwV 0 hts gL_law_X5_thrown rfl rfl rfl (by decide +kernel) ⟨Nat.le_of_ble_eq_true rfl, Nat.le_of_ble_eq_true rfl⟩) rfl hl.1 rfl (Nat.le_of_ble_eq_true rfl) dL_law_1009 ⟨show cells + 11 ≤ 601024 by omega, show slots + 270 ≤ 7293034 by omega⟩ hP hD hK hA hS (fun H locs hP hD hS => ?_)
  refine lv_iload hx hb dL_law_1012 (lv_at hl 1 rfl) ?_
  refine lv_icmp_eq (tgt := 1019) hx hb dL_law_1014 (by decide) (fun _ => ?_) (fun z => absurd e1.symm z)
  refine lv_iload hx hb dL_law_1019 (lv_at hl 1 rfl) ?_
  refine lv_if_ne (tgt := 1036) hx hb dL_law_1021 (by decide) (fun z => ?_) (fun z => ?_)
  · skip
    refine lv_goto (tgt := 1355) hx hb dL_law_1036 (by decide) ?_
    refine W.widen (k := cells + 12) (n := slots + 276) (by omega) (by omega) ?_
    exact KK _ _ _ ⟨tm, k', c', o', f, s', ⟨r1, r2, r3, r4⟩, hP, hD, hS, lv_sub hl [2, 3, 4, 5, 6] rfl⟩
  · refine lv_aload_n hx hb dL_law_1024 rfl (lv_at hl 3 rfl) ?_
    refine lv_iconst (v := nI 0) hx hb dL_law_1025 (by decide) ?_
    refine lald0 hx hb hK hP 13 2 rfl rfl dL_law_1026 ?_
    refine lv_iload hx hb dL_law_1027 (lv_at hl 0 rfl) ?_
    refine lv_i2l (v := v'.toInt64) hx hb dL_law_1029 rfl ?_
    refine W.lcmp hx hb dL_law_1030 ?_
    refine lv_if_eq (tgt := 1036) hx hb dL_law_1031 (by decide) (fun _ => ?_) (fun y => absurd ((lg_cmp_eq _ _).mpr ((hf z).trans (congrArg Int32.toInt64 (e2 z)))) y)
    refine lv_goto (tgt := 1355) hx hb dL_law_1036 (by decide) ?_
    refine W.widen (k := cells + 12) (n := slots + 276) (by omega) (by omega) ?_
    exact KK _ _ _ ⟨tm, k', c', o', f, s', ⟨r1, r2, r3, r4⟩, hP, hD, hS, lv_sub hl [2, 3, 4, 5, 6] rfl⟩
set_option maxHeartbeats 4000000 in
set_option maxRecDepth 100000 in
theorem law_textChar (C : lawCx p l s m cd b L xs D cI cB cL cZ cC) (hi4 : i + 3 < L) (hcs : cells + 12 ≤ 601024 ∧ slots + 276 ≤ 7293034) (hLS : lawSt D cI cB cL cZ cC h ou g q qz qo b s i H locs ls) (KK : ∀ (H : Heap) (locs : List Loc) (ls : Array Slot), lawSt D cI cB cL cZ cC h ou g q qz qo b s i H locs ls → W p l e room_1 s m #[Value.ref b] below meth cd H locs (cells + 12) (slots + 276) Q (F0 m 1355 ls [])) : W p l e room_1 s m #[Value.ref b] below meth cd H locs cells slots Q (F0 m 1039 ls []) := by
  obtain ⟨tm, t1, c, o, f, sr, ⟨hr, hi, b1, b2⟩, hP, hD, hS, hl⟩ := hLS
  have C9 := C
  obtain ⟨⟨hx, hb, hml, hown, hts⟩, hK, hE, hX, hbl, hlt, hL⟩ := C9
  have hA : ∀ q : Nat, s.heap.size ≤ q → (fun q : Nat => s.heap.size ≤ q) q := fun _ h => h
  obtain ⟨rmR, k, k', v, v', c', o', s', hrm, hC, hR, ⟨e1, e2, e3⟩, r1, r2, r3, r4⟩ := p_textChar (l := l) (D := D) (cI := cI) (cB := cB) (cL := cL) (cZ := cZ) (cC := cC) (h := h) (ou := ou) (g := g) (qz := qz) (qo := qo) (q := q) (tm := tm) (xs (i + 1)) (xs (i + 2)) (xs (i + 3)) hlt hr hi b1 b2
  refine lv_aload_n hx hb dL_law_1039 rfl (lv_at hl 3 rfl) ?_
  refine lw_arg (j := 1) C hS (lv_at hl 4 rfl) (lv_at hl 0 rfl) rfl (by omega) dL_law_1040 dL_law_1041 dL_law_1043 dL_law_1044 dL_law_1045 ?_
  refine lw_arg (j := 2) C hS (lv_at hl 4 rfl) (lv_at hl 0 rfl) rfl (by omega) dL_law_1046 dL_law_1047 dL_law_1049 dL_law_1050 dL_law_1051 ?_
  refine lw_arg (j := 3) C hS (lv_at hl 4 rfl) (lv_at hl 0 rfl) rfl (by omega) dL_law_1052 dL_law_1053 dL_law_1055 dL_law_1056 dL_law_1057 ?_
  refine lv_aload_n hx hb dL_law_1058 rfl (lv_at hl 1 rfl) ?_
  refine lw_cC ⟨hx, hb, hml, hown, hts⟩ hC (vx_cwSW 5 hts gL_law_L_textChar rfl rfl rfl (by decide +kernel) ⟨Nat.le_of_ble_eq_true rfl, Nat.le_of_ble_eq_true rfl⟩) rfl hl.1 rfl dL_law_1059 ⟨show cells + 12 ≤ 601024 by omega, show slots + 276 ≤ 7293034 by omega⟩ hP hD hK hE hA hS (fun f H locs hf hP hD hS => ?_)
  refine lv_istore (lv' := [(5, .int k), (4, .int (nI i)), (3, .ref ou), (2, .ref g), (1, .ref h), (0, .ref b)]) hx hb dL_law_1062 hl (by decide) rfl (fun ls hl => ?_)
  refine lv_aload_n hx hb dL_law_1064 rfl (lv_at hl 3 rfl) ?_
  refine lw_arg (j := 1) C hS (lv_at hl 5 rfl) (lv_at hl 1 rfl) rfl (by omega) dL_law_1065 dL_law_1066 dL_law_1068 dL_law_1069 dL_law_1070 ?_
  refine lw_arg (j := 2) C hS (lv_at hl 5 rfl) (lv_at hl 1 rfl) rfl (by omega) dL_law_1071 dL_law_1072 dL_law_1074 dL_law_1075 dL_law_1076 ?_
  refine lw_arg (j := 3) C hS (lv_at hl 5 rfl) (lv_at hl 1 rfl) rfl (by omega) dL_law_1077 dL_law_1078 dL_law_1080 dL_law_1081 dL_law_1082 ?_
  refine lw_cR ⟨hx, hb, hml, hown, hts⟩ (fun sz => hR sz t1) (cwV 3 hts gL_law_X5_textChar rfl hrm.1 hrm.2.1 (by decide +kernel) (hrmR hrm (Nat.le_of_ble_eq_true rfl))) rfl hl.1 rfl (Nat.le_of_ble_eq_true rfl) dL_law_1083 ⟨show cells + 12 ≤ 601024 by omega, show slots + 276 ≤ 7293034 by omega⟩ hP hD hK hA hS (fun H locs hP hD hS => ?_)
  refine lv_istore (lv' := [(6, .int v'), (5, .int k), (4, .int (nI i)), (3, .ref ou), (2, .ref g), (1, .ref h), (0, .ref b)]) hx hb dL_law_1086 hl (by decide) rfl (fun ls hl => ?_)
  refine lv_aload_n hx hb dL_law_1088 rfl (lv_at hl 4 rfl) ?_
  refine lw_cR ⟨hx, hb, hml, hown, hts⟩ (fun sz => thrR sz k' tm s') (cwV 0 hts gL_law_X5_thrown rfl rfl rfl (by decide +kernel) ⟨Nat.le_of_ble_eq_true rfl, Nat.le_of_ble_eq_true rfl⟩) rfl hl.1 rfl (Nat.le_of_ble_eq_true rfl) dL_law_1089 ⟨show cells + 12 ≤ 601024 by omega, show slots + 276 ≤ 7293034 by omega⟩ hP hD hK hA hS (fun H locs hP hD hS => ?_)
  refine lv_iload hx hb dL_law_1092 (lv_at hl 1 rfl) ?_
  refine lv_icmp_eq (tgt := 1099) hx hb dL_law_1094 (by decide) (fun _ => ?_) (fun z => absurd e1.symm z)
  refine lv_iload hx hb dL_law_1099 (lv_at hl 1 rfl) ?_
  refine lv_if_ne (tgt := 1116) hx hb dL_law_1101 (by decide) (fun z => ?_) (fun z => ?_)
  · skip
    refine lv_goto (tgt := 1355) hx hb dL_law_1116 (by decide) ?_
    refine W.widen (k := cells + 12) (n := slots + 276) (by omega) (by omega) ?_
    exact KK _ _ _ ⟨tm, k', c', o', f, s', ⟨r1, r2, r3, r4⟩, hP, hD, hS, lv_sub hl [2, 3, 4, 5, 6] rfl⟩
  · refine lv_aload_n hx hb dL_law_1104 rfl (lv_at hl 3 rfl) ?_
    refine lv_iconst (v := nI 0) hx hb dL_law_1105 (by decide) ?_
    refine lald0 hx hb hK hP 13 2 rfl rfl dL_law_1106 ?_
    refine lv_iload hx hb dL_law_1107 (lv_at hl 0 rfl) ?_
    refine lv_i2l (v := v'.toInt64) hx hb dL_law_1109 rfl ?_
    refine W.lcmp hx hb dL_law_1110 ?_
    refine lv_if_eq (tgt := 1116) hx hb dL_law_1111 (by decide) (fun _ => ?_) (fun y => absurd ((lg_cmp_eq _ _).mpr ((hf z).trans (congrArg Int32.toInt64 (e2 z)))) y)
    refine lv_goto (tgt := 1355) hx hb dL_law_1116 (by decide) ?_
    refine W.widen (k := cells + 12) (n := slots + 276) (by omega) (by omega) ?_
    exact KK _ _ _ ⟨tm, k', c', o', f, s', ⟨r1, r2, r3, r4⟩, hP, hD, hS, lv_sub hl [2, 3, 4, 5, 6] rfl⟩
set_option maxHeartbeats 4000000 in
set_option maxRecDepth 100000 in
theorem law_handled (C : lawCx p l s m cd b L xs D cI cB cL cZ cC) (hi4 : i + 3 < L) (hcs : cells + 12 ≤ 601024 ∧ slots + 276 ≤ 7293034) (hLS : lawSt D cI cB cL cZ cC h ou g q qz qo b s i H locs ls) (KK : ∀ (H : Heap) (locs : List Loc) (ls : Array Slot), lawSt D cI cB cL cZ cC h ou g q qz qo b s i H locs ls → W p l e room_1 s m #[Value.ref b] below meth cd H locs (cells + 12) (slots + 276) Q (F0 m 1355 ls [])) : W p l e room_1 s m #[Value.ref b] below meth cd H locs cells slots Q (F0 m 1119 ls []) := by
  obtain ⟨tm, t1, c, o, f, sr, ⟨hr, hi, b1, b2⟩, hP, hD, hS, hl⟩ := hLS
  have C9 := C
  obtain ⟨⟨hx, hb, hml, hown, hts⟩, hK, hE, hX, hbl, hlt, hL⟩ := C9
  have hA : ∀ q : Nat, s.heap.size ≤ q → (fun q : Nat => s.heap.size ≤ q) q := fun _ h => h
  obtain ⟨rmR, k, k', v, v', c', o', s', hrm, hC, hR, ⟨e1, e2, e3⟩, r1, r2, r3, r4⟩ := p_handled (l := l) (D := D) (cI := cI) (cB := cB) (cL := cL) (cZ := cZ) (cC := cC) (h := h) (ou := ou) (g := g) (qz := qz) (qo := qo) (q := q) (tm := tm) (xs (i + 1)) hlt hr hi b1 b2
  refine lv_aload_n hx hb dL_law_1119 rfl (lv_at hl 3 rfl) ?_
  refine lw_arg (j := 1) C hS (lv_at hl 4 rfl) (lv_at hl 0 rfl) rfl (by omega) dL_law_1120 dL_law_1121 dL_law_1123 dL_law_1124 dL_law_1125 ?_
  refine lv_aload_n hx hb dL_law_1126 rfl (lv_at hl 1 rfl) ?_
  refine lw_cC ⟨hx, hb, hml, hown, hts⟩ hC (vx_cwSW 3 hts gL_law_L_handled rfl rfl rfl (by decide +kernel) ⟨Nat.le_of_ble_eq_true rfl, Nat.le_of_ble_eq_true rfl⟩) rfl hl.1 rfl dL_law_1127 ⟨show cells + 1 ≤ 601024 by omega, show slots + 6 ≤ 7293034 by omega⟩ hP hD hK hE hA hS (fun f H locs hf hP hD hS => ?_)
  refine lv_istore (lv' := [(5, .int k), (4, .int (nI i)), (3, .ref ou), (2, .ref g), (1, .ref h), (0, .ref b)]) hx hb dL_law_1130 hl (by decide) rfl (fun ls hl => ?_)
  refine lv_aload_n hx hb dL_law_1132 rfl (lv_at hl 3 rfl) ?_
  refine lw_arg (j := 1) C hS (lv_at hl 5 rfl) (lv_at hl 1 rfl) rfl (by omega) dL_law_1133 dL_law_1134 dL_law_1136 dL_law_1137 dL_law_1138 ?_
  refine lw_cR ⟨hx, hb, hml, hown, hts⟩ (fun sz => hR sz t1) (cwV 1 hts gL_law_X5_handled rfl hrm.1 hrm.2.1 (by decide +kernel) (hrmR hrm (Nat.le_of_ble_eq_true rfl))) rfl hl.1 rfl (Nat.le_of_ble_eq_true rfl) dL_law_1139 ⟨show cells + 1 ≤ 601024 by omega, show slots + 6 ≤ 7293034 by omega⟩ hP hD hK hA hS (fun H locs hP hD hS => ?_)
  refine lv_istore (lv' := [(6, .int v'), (5, .int k), (4, .int (nI i)), (3, .ref ou), (2, .ref g), (1, .ref h), (0, .ref b)]) hx hb dL_law_1142 hl (by decide) rfl (fun ls hl => ?_)
  refine lv_aload_n hx hb dL_law_1144 rfl (lv_at hl 4 rfl) ?_
  refine lw_cR ⟨hx, hb, hml, hown, hts⟩ (fun sz => thrR sz k' tm s') (cwV 0 hts gL_law_X5_thrown rfl rfl rfl (by decide +kernel) ⟨Nat.le_of_ble_eq_true rfl, Nat.le_of_ble_eq_true rfl⟩) rfl hl.1 rfl (Nat.le_of_ble_eq_true rfl) dL_law_1145 ⟨show cells + 1 ≤ 601024 by omega, show slots + 6 ≤ 7293034 by omega⟩ hP hD hK hA hS (fun H locs hP hD hS => ?_)
  refine lv_iload hx hb dL_law_1148 (lv_at hl 1 rfl) ?_
  refine lv_icmp_eq (tgt := 1155) hx hb dL_law_1150 (by decide) (fun _ => ?_) (fun z => absurd e1.symm z)
  refine lv_iload hx hb dL_law_1155 (lv_at hl 1 rfl) ?_
  refine lv_if_ne (tgt := 1172) hx hb dL_law_1157 (by decide) (fun z => ?_) (fun z => ?_)
  · skip
    refine lv_goto (tgt := 1355) hx hb dL_law_1172 (by decide) ?_
    refine W.widen (k := cells + 12) (n := slots + 276) (by omega) (by omega) ?_
    exact KK _ _ _ ⟨tm, k', c', o', f, s', ⟨r1, r2, r3, r4⟩, hP, hD, hS, lv_sub hl [2, 3, 4, 5, 6] rfl⟩
  · refine lv_aload_n hx hb dL_law_1160 rfl (lv_at hl 3 rfl) ?_
    refine lv_iconst (v := nI 0) hx hb dL_law_1161 (by decide) ?_
    refine lald0 hx hb hK hP 13 2 rfl rfl dL_law_1162 ?_
    refine lv_iload hx hb dL_law_1163 (lv_at hl 0 rfl) ?_
    refine lv_i2l (v := v'.toInt64) hx hb dL_law_1165 rfl ?_
    refine W.lcmp hx hb dL_law_1166 ?_
    refine lv_if_eq (tgt := 1172) hx hb dL_law_1167 (by decide) (fun _ => ?_) (fun y => absurd ((lg_cmp_eq _ _).mpr ((hf z).trans (congrArg Int32.toInt64 (e2 z)))) y)
    refine lv_goto (tgt := 1355) hx hb dL_law_1172 (by decide) ?_
    refine W.widen (k := cells + 12) (n := slots + 276) (by omega) (by omega) ?_
    exact KK _ _ _ ⟨tm, k', c', o', f, s', ⟨r1, r2, r3, r4⟩, hP, hD, hS, lv_sub hl [2, 3, 4, 5, 6] rfl⟩
set_option maxHeartbeats 4000000 in
set_option maxRecDepth 100000 in
theorem law_handledKey (C : lawCx p l s m cd b L xs D cI cB cL cZ cC) (hi4 : i + 3 < L) (hcs : cells + 12 ≤ 601024 ∧ slots + 276 ≤ 7293034) (hLS : lawSt D cI cB cL cZ cC h ou g q qz qo b s i H locs ls) (KK : ∀ (H : Heap) (locs : List Loc) (ls : Array Slot), lawSt D cI cB cL cZ cC h ou g q qz qo b s i H locs ls → W p l e room_1 s m #[Value.ref b] below meth cd H locs (cells + 12) (slots + 276) Q (F0 m 1355 ls [])) : W p l e room_1 s m #[Value.ref b] below meth cd H locs cells slots Q (F0 m 1175 ls []) := by
  obtain ⟨tm, t1, c, o, f, sr, ⟨hr, hi, b1, b2⟩, hP, hD, hS, hl⟩ := hLS
  have C9 := C
  obtain ⟨⟨hx, hb, hml, hown, hts⟩, hK, hE, hX, hbl, hlt, hL⟩ := C9
  have hA : ∀ q : Nat, s.heap.size ≤ q → (fun q : Nat => s.heap.size ≤ q) q := fun _ h => h
  obtain ⟨rmR, k, k', v, v', c', o', s', hrm, hC, hR, ⟨e1, e2, e3⟩, r1, r2, r3, r4⟩ := p_handledKey (l := l) (D := D) (cI := cI) (cB := cB) (cL := cL) (cZ := cZ) (cC := cC) (h := h) (ou := ou) (g := g) (qz := qz) (qo := qo) (q := q) (tm := tm) (xs (i + 1)) (xs (i + 2)) hlt hr hi b1 b2
  refine lv_aload_n hx hb dL_law_1175 rfl (lv_at hl 3 rfl) ?_
  refine lw_arg (j := 1) C hS (lv_at hl 4 rfl) (lv_at hl 0 rfl) rfl (by omega) dL_law_1176 dL_law_1177 dL_law_1179 dL_law_1180 dL_law_1181 ?_
  refine lw_arg (j := 2) C hS (lv_at hl 4 rfl) (lv_at hl 0 rfl) rfl (by omega) dL_law_1182 dL_law_1183 dL_law_1185 dL_law_1186 dL_law_1187 ?_
  refine lv_aload_n hx hb dL_law_1188 rfl (lv_at hl 1 rfl) ?_
  refine lw_cC ⟨hx, hb, hml, hown, hts⟩ hC (vx_cwSW 4 hts gL_law_L_handledKey rfl rfl rfl (by decide +kernel) ⟨Nat.le_of_ble_eq_true rfl, Nat.le_of_ble_eq_true rfl⟩) rfl hl.1 rfl dL_law_1189 ⟨show cells + 2 ≤ 601024 by omega, show slots + 12 ≤ 7293034 by omega⟩ hP hD hK hE hA hS (fun f H locs hf hP hD hS => ?_)
  refine lv_istore (lv' := [(5, .int k), (4, .int (nI i)), (3, .ref ou), (2, .ref g), (1, .ref h), (0, .ref b)]) hx hb dL_law_1192 hl (by decide) rfl (fun ls hl => ?_)
  refine lv_aload_n hx hb dL_law_1194 rfl (lv_at hl 3 rfl) ?_
  refine lw_arg (j := 1) C hS (lv_at hl 5 rfl) (lv_at hl 1 rfl) rfl (by omega) dL_law_1195 dL_law_1196 dL_law_1198 dL_law_1199 dL_law_1200 ?_
  refine lw_arg (j := 2) C hS (lv_at hl 5 rfl) (lv_at hl 1 rfl) rfl (by omega) dL_law_1201 dL_law_1202 dL_law_1204 dL_law_1205 dL_law_1206 ?_
  refine lw_cR ⟨hx, hb, hml, hown, hts⟩ (fun sz => hR sz t1) (cwV 2 hts gL_law_X5_handledKey rfl hrm.1 hrm.2.1 (by decide +kernel) (hrmR hrm (Nat.le_of_ble_eq_true rfl))) rfl hl.1 rfl (Nat.le_of_ble_eq_true rfl) dL_law_1207 ⟨show cells + 2 ≤ 601024 by omega, show slots + 12 ≤ 7293034 by omega⟩ hP hD hK hA hS (fun H locs hP hD hS => ?_)
  refine lv_istore (lv' := [(6, .int v'), (5, .int k), (4, .int (nI i)), (3, .ref ou), (2, .ref g), (1, .ref h), (0, .ref b)]) hx hb dL_law_1210 hl (by decide) rfl (fun ls hl => ?_)
  refine lv_aload_n hx hb dL_law_1212 rfl (lv_at hl 4 rfl) ?_
  refine lw_cR ⟨hx, hb, hml, hown, hts⟩ (fun sz => thrR sz k' tm s') (cwV 0 hts gL_law_X5_thrown rfl rfl rfl (by decide +kernel) ⟨Nat.le_of_ble_eq_true rfl, Nat.le_of_ble_eq_true rfl⟩) rfl hl.1 rfl (Nat.le_of_ble_eq_true rfl) dL_law_1213 ⟨show cells + 2 ≤ 601024 by omega, show slots + 12 ≤ 7293034 by omega⟩ hP hD hK hA hS (fun H locs hP hD hS => ?_)
  refine lv_iload hx hb dL_law_1216 (lv_at hl 1 rfl) ?_
  refine lv_icmp_eq (tgt := 1223) hx hb dL_law_1218 (by decide) (fun _ => ?_) (fun z => absurd e1.symm z)
  refine lv_iload hx hb dL_law_1223 (lv_at hl 1 rfl) ?_
  refine lv_if_ne (tgt := 1240) hx hb dL_law_1225 (by decide) (fun z => ?_) (fun z => ?_)
  · skip
    refine lv_goto (tgt := 1355) hx hb dL_law_1240 (by decide) ?_
    refine W.widen (k := cells + 12) (n := slots + 276) (by omega) (by omega) ?_
    exact KK _ _ _ ⟨tm, k', c', o', f, s', ⟨r1, r2, r3, r4⟩, hP, hD, hS, lv_sub hl [2, 3, 4, 5, 6] rfl⟩
  · refine lv_aload_n hx hb dL_law_1228 rfl (lv_at hl 3 rfl) ?_
    refine lv_iconst (v := nI 0) hx hb dL_law_1229 (by decide) ?_
    refine lald0 hx hb hK hP 13 2 rfl rfl dL_law_1230 ?_
    refine lv_iload hx hb dL_law_1231 (lv_at hl 0 rfl) ?_
    refine lv_i2l (v := v'.toInt64) hx hb dL_law_1233 rfl ?_
    refine W.lcmp hx hb dL_law_1234 ?_
    refine lv_if_eq (tgt := 1240) hx hb dL_law_1235 (by decide) (fun _ => ?_) (fun y => absurd ((lg_cmp_eq _ _).mpr ((hf z).trans (congrArg Int32.toInt64 (e2 z)))) y)
    refine lv_goto (tgt := 1355) hx hb dL_law_1240 (by decide) ?_
    refine W.widen (k := cells + 12) (n := slots + 276) (by omega) (by omega) ?_
    exact KK _ _ _ ⟨tm, k', c', o', f, s', ⟨r1, r2, r3, r4⟩, hP, hD, hS, lv_sub hl [2, 3, 4, 5, 6] rfl⟩
set_option maxHeartbeats 4000000 in
set_option maxRecDepth 100000 in
theorem law_doubles (C : lawCx p l s m cd b L xs D cI cB cL cZ cC) (hi4 : i + 3 < L) (hcs : cells + 12 ≤ 601024 ∧ slots + 276 ≤ 7293034) (hLS : lawSt D cI cB cL cZ cC h ou g q qz qo b s i H locs ls) (KK : ∀ (H : Heap) (locs : List Loc) (ls : Array Slot), lawSt D cI cB cL cZ cC h ou g q qz qo b s i H locs ls → W p l e room_1 s m #[Value.ref b] below meth cd H locs (cells + 12) (slots + 276) Q (F0 m 1355 ls [])) : W p l e room_1 s m #[Value.ref b] below meth cd H locs cells slots Q (F0 m 1243 ls []) := by
  obtain ⟨tm, t1, c, o, f, sr, ⟨hr, hi, b1, b2⟩, hP, hD, hS, hl⟩ := hLS
  have C9 := C
  obtain ⟨⟨hx, hb, hml, hown, hts⟩, hK, hE, hX, hbl, hlt, hL⟩ := C9
  have hA : ∀ q : Nat, s.heap.size ≤ q → (fun q : Nat => s.heap.size ≤ q) q := fun _ h => h
  obtain ⟨rmR, k, k', v, v', c', o', s', hrm, hC, hR, ⟨e1, e2, e3⟩, r1, r2, r3, r4⟩ := p_doubles (l := l) (D := D) (cI := cI) (cB := cB) (cL := cL) (cZ := cZ) (cC := cC) (h := h) (ou := ou) (g := g) (qz := qz) (qo := qo) (q := q) (tm := tm) (xs (i + 1)) hlt hr hi b1 b2
  refine lv_aload_n hx hb dL_law_1243 rfl (lv_at hl 3 rfl) ?_
  refine lw_arg (j := 1) C hS (lv_at hl 4 rfl) (lv_at hl 0 rfl) rfl (by omega) dL_law_1244 dL_law_1245 dL_law_1247 dL_law_1248 dL_law_1249 ?_
  refine lv_aload_n hx hb dL_law_1250 rfl (lv_at hl 1 rfl) ?_
  refine lw_cC ⟨hx, hb, hml, hown, hts⟩ hC (vx_cwSW 3 hts gL_law_L_doubles rfl rfl rfl (by decide +kernel) ⟨Nat.le_of_ble_eq_true rfl, Nat.le_of_ble_eq_true rfl⟩) rfl hl.1 rfl dL_law_1251 ⟨show cells + 1 ≤ 601024 by omega, show slots + 6 ≤ 7293034 by omega⟩ hP hD hK hE hA hS (fun f H locs hf hP hD hS => ?_)
  refine lv_istore (lv' := [(5, .int k), (4, .int (nI i)), (3, .ref ou), (2, .ref g), (1, .ref h), (0, .ref b)]) hx hb dL_law_1254 hl (by decide) rfl (fun ls hl => ?_)
  refine lv_aload_n hx hb dL_law_1256 rfl (lv_at hl 3 rfl) ?_
  refine lw_arg (j := 1) C hS (lv_at hl 5 rfl) (lv_at hl 1 rfl) rfl (by omega) dL_law_1257 dL_law_1258 dL_law_1260 dL_law_1261 dL_law_1262 ?_
  refine lw_cR ⟨hx, hb, hml, hown, hts⟩ (fun sz => hR sz t1) (cwV 1 hts gL_law_X5_doubles rfl hrm.1 hrm.2.1 (by decide +kernel) (hrmR hrm (Nat.le_of_ble_eq_true rfl))) rfl hl.1 rfl (Nat.le_of_ble_eq_true rfl) dL_law_1263 ⟨show cells + 1 ≤ 601024 by omega, show slots + 6 ≤ 7293034 by omega⟩ hP hD hK hA hS (fun H locs hP hD hS => ?_)
  refine lv_istore (lv' := [(6, .int v'), (5, .int k), (4, .int (nI i)), (3, .ref ou), (2, .ref g), (1, .ref h), (0, .ref b)]) hx hb dL_law_1266 hl (by decide) rfl (fun ls hl => ?_)
  refine lv_aload_n hx hb dL_law_1268 rfl (lv_at hl 4 rfl) ?_
  refine lw_cR ⟨hx, hb, hml, hown, hts⟩ (fun sz => thrR sz k' tm s') (cwV 0 hts gL_law_X5_thrown rfl rfl rfl (by decide +kernel) ⟨Nat.le_of_ble_eq_true rfl, Nat.le_of_ble_eq_true rfl⟩) rfl hl.1 rfl (Nat.le_of_ble_eq_true rfl) dL_law_1269 ⟨show cells + 1 ≤ 601024 by omega, show slots + 6 ≤ 7293034 by omega⟩ hP hD hK hA hS (fun H locs hP hD hS => ?_)
  refine lv_iload hx hb dL_law_1272 (lv_at hl 1 rfl) ?_
  refine lv_icmp_eq (tgt := 1279) hx hb dL_law_1274 (by decide) (fun _ => ?_) (fun z => absurd e1.symm z)
  refine lv_iload hx hb dL_law_1279 (lv_at hl 1 rfl) ?_
  refine lv_if_ne (tgt := 1296) hx hb dL_law_1281 (by decide) (fun z => ?_) (fun z => ?_)
  · skip
    refine lv_goto (tgt := 1355) hx hb dL_law_1296 (by decide) ?_
    refine W.widen (k := cells + 12) (n := slots + 276) (by omega) (by omega) ?_
    exact KK _ _ _ ⟨tm, k', c', o', f, s', ⟨r1, r2, r3, r4⟩, hP, hD, hS, lv_sub hl [2, 3, 4, 5, 6] rfl⟩
  · refine lv_aload_n hx hb dL_law_1284 rfl (lv_at hl 3 rfl) ?_
    refine lv_iconst (v := nI 0) hx hb dL_law_1285 (by decide) ?_
    refine lald0 hx hb hK hP 13 2 rfl rfl dL_law_1286 ?_
    refine lv_iload hx hb dL_law_1287 (lv_at hl 0 rfl) ?_
    refine lv_i2l (v := v'.toInt64) hx hb dL_law_1289 rfl ?_
    refine W.lcmp hx hb dL_law_1290 ?_
    refine lv_if_eq (tgt := 1296) hx hb dL_law_1291 (by decide) (fun _ => ?_) (fun y => absurd ((lg_cmp_eq _ _).mpr ((hf z).trans (congrArg Int32.toInt64 (e2 z)))) y)
    refine lv_goto (tgt := 1355) hx hb dL_law_1296 (by decide) ?_
    refine W.widen (k := cells + 12) (n := slots + 276) (by omega) (by omega) ?_
    exact KK _ _ _ ⟨tm, k', c', o', f, s', ⟨r1, r2, r3, r4⟩, hP, hD, hS, lv_sub hl [2, 3, 4, 5, 6] rfl⟩
set_option maxHeartbeats 4000000 in
set_option maxRecDepth 100000 in
theorem law_agreed (C : lawCx p l s m cd b L xs D cI cB cL cZ cC) (hi4 : i + 3 < L) (hcs : cells + 12 ≤ 601024 ∧ slots + 276 ≤ 7293034) (hLS : lawSt D cI cB cL cZ cC h ou g q qz qo b s i H locs ls) (KK : ∀ (H : Heap) (locs : List Loc) (ls : Array Slot), lawSt D cI cB cL cZ cC h ou g q qz qo b s i H locs ls → W p l e room_1 s m #[Value.ref b] below meth cd H locs (cells + 12) (slots + 276) Q (F0 m 1355 ls [])) : W p l e room_1 s m #[Value.ref b] below meth cd H locs cells slots Q (F0 m 1299 ls []) := by
  obtain ⟨tm, t1, c, o, f, sr, ⟨hr, hi, b1, b2⟩, hP, hD, hS, hl⟩ := hLS
  have C9 := C
  obtain ⟨⟨hx, hb, hml, hown, hts⟩, hK, hE, hX, hbl, hlt, hL⟩ := C9
  have hA : ∀ q : Nat, s.heap.size ≤ q → (fun q : Nat => s.heap.size ≤ q) q := fun _ h => h
  obtain ⟨rmR, k, k', v, v', c', o', s', hrm, hC, hR, ⟨e1, e2, e3⟩, r1, r2, r3, r4⟩ := p_agreed (l := l) (D := D) (cI := cI) (cB := cB) (cL := cL) (cZ := cZ) (cC := cC) (h := h) (ou := ou) (g := g) (qz := qz) (qo := qo) (q := q) (tm := tm) (xs (i + 1)) hlt hr hi b1 b2
  refine lv_aload_n hx hb dL_law_1299 rfl (lv_at hl 3 rfl) ?_
  refine lw_arg (j := 1) C hS (lv_at hl 4 rfl) (lv_at hl 0 rfl) rfl (by omega) dL_law_1300 dL_law_1301 dL_law_1303 dL_law_1304 dL_law_1305 ?_
  refine lv_aload_n hx hb dL_law_1306 rfl (lv_at hl 1 rfl) ?_
  refine lw_cC ⟨hx, hb, hml, hown, hts⟩ hC (vx_cwSW 3 hts gL_law_L_agreed rfl rfl rfl (by decide +kernel) ⟨Nat.le_of_ble_eq_true rfl, Nat.le_of_ble_eq_true rfl⟩) rfl hl.1 rfl dL_law_1307 ⟨show cells + 1 ≤ 601024 by omega, show slots + 6 ≤ 7293034 by omega⟩ hP hD hK hE hA hS (fun f H locs hf hP hD hS => ?_)
  refine lv_istore (lv' := [(5, .int k), (4, .int (nI i)), (3, .ref ou), (2, .ref g), (1, .ref h), (0, .ref b)]) hx hb dL_law_1310 hl (by decide) rfl (fun ls hl => ?_)
  refine lv_aload_n hx hb dL_law_1312 rfl (lv_at hl 3 rfl) ?_
  refine lw_arg (j := 1) C hS (lv_at hl 5 rfl) (lv_at hl 1 rfl) rfl (by omega) dL_law_1313 dL_law_1314 dL_law_1316 dL_law_1317 dL_law_1318 ?_
  refine lw_cR ⟨hx, hb, hml, hown, hts⟩ (fun sz => hR sz t1) (cwV 1 hts gL_law_X5_agreed rfl hrm.1 hrm.2.1 (by decide +kernel) (hrmR hrm (Nat.le_of_ble_eq_true rfl))) rfl hl.1 rfl (Nat.le_of_ble_eq_true rfl) dL_law_1319 ⟨show cells + 1 ≤ 601024 by omega, show slots + 6 ≤ 7293034 by omega⟩ hP hD hK hA hS (fun H locs hP hD hS => ?_)
  refine lv_istore (lv' := [(6, .int v'), (5, .int k), (4, .int (nI i)), (3, .ref ou), (2, .ref g), (1, .ref h), (0, .ref b)]) hx hb dL_law_1322 hl (by decide) rfl (fun ls hl => ?_)
  refine lv_aload_n hx hb dL_law_1324 rfl (lv_at hl 4 rfl) ?_
  refine lw_cR ⟨hx, hb, hml, hown, hts⟩ (fun sz => thrR sz k' tm s') (cwV 0 hts gL_law_X5_thrown rfl rfl rfl (by decide +kernel) ⟨Nat.le_of_ble_eq_true rfl, Nat.le_of_ble_eq_true rfl⟩) rfl hl.1 rfl (Nat.le_of_ble_eq_true rfl) dL_law_1325 ⟨show cells + 1 ≤ 601024 by omega, show slots + 6 ≤ 7293034 by omega⟩ hP hD hK hA hS (fun H locs hP hD hS => ?_)
  refine lv_iload hx hb dL_law_1328 (lv_at hl 1 rfl) ?_
  refine lv_icmp_eq (tgt := 1335) hx hb dL_law_1330 (by decide) (fun _ => ?_) (fun z => absurd e1.symm z)
  refine lv_iload hx hb dL_law_1335 (lv_at hl 1 rfl) ?_
  refine lv_if_ne (tgt := 1352) hx hb dL_law_1337 (by decide) (fun z => ?_) (fun z => ?_)
  · skip
    refine lv_goto (tgt := 1355) hx hb dL_law_1352 (by decide) ?_
    refine W.widen (k := cells + 12) (n := slots + 276) (by omega) (by omega) ?_
    exact KK _ _ _ ⟨tm, k', c', o', f, s', ⟨r1, r2, r3, r4⟩, hP, hD, hS, lv_sub hl [2, 3, 4, 5, 6] rfl⟩
  · refine lv_aload_n hx hb dL_law_1340 rfl (lv_at hl 3 rfl) ?_
    refine lv_iconst (v := nI 0) hx hb dL_law_1341 (by decide) ?_
    refine lald0 hx hb hK hP 13 2 rfl rfl dL_law_1342 ?_
    refine lv_iload hx hb dL_law_1343 (lv_at hl 0 rfl) ?_
    refine lv_i2l (v := v'.toInt64) hx hb dL_law_1345 rfl ?_
    refine W.lcmp hx hb dL_law_1346 ?_
    refine lv_if_eq (tgt := 1352) hx hb dL_law_1347 (by decide) (fun _ => ?_) (fun y => absurd ((lg_cmp_eq _ _).mpr ((hf z).trans (congrArg Int32.toInt64 (e2 z)))) y)
    refine lv_goto (tgt := 1355) hx hb dL_law_1352 (by decide) ?_
    refine W.widen (k := cells + 12) (n := slots + 276) (by omega) (by omega) ?_
    exact KK _ _ _ ⟨tm, k', c', o', f, s', ⟨r1, r2, r3, r4⟩, hP, hD, hS, lv_sub hl [2, 3, 4, 5, 6] rfl⟩
end CASES
