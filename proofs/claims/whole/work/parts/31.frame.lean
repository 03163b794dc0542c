/-! ===== contracts over a larger world; the law's worlds; a call of the class beside the reference's ===== -/
theorem fm_of {α β : Type} {f : α → Option β} : ∀ {is : List α} {w : List β}, is.map f = w.map some → is.filterMap f = w
  | [], [], _ => rfl
  | [], b :: w, h => by cases h
  | a :: is, [], h => by cases h
  | a :: is, b :: w, h => by
    have h1 : f a = some b := (List.cons.inj h).1
    have h2 : is.map f = w.map some := (List.cons.inj h).2
    rw [List.filterMap_cons_some h1, fm_of h2]
theorem ev.nar {A B : Nat → Prop} {U : State} {H : Heap} (k : ev A U H) (hB : ∀ q, B q → A q) : ev B U H := by
  obtain ⟨k1, ⟨k2, k3⟩, k0, k4, ⟨t1, k5, k6⟩, ⟨t2, k7, k8⟩, ⟨aK, aV, k9, k10⟩⟩ := k
  exact ⟨k1, ⟨k2.narrow hB, k3.narrow hB⟩, k0.narrow hB, k4.narrow hB, ⟨t1, k5.narrow hB, k6.narrow hB⟩, ⟨t2, k7.narrow hB, k8.narrow hB⟩, aK, aV, k9.narrow hB, k10⟩
section RE
variable {l : Launch} {y : MethodName} {ws : List Cond} {rm : Room} {z : Bool} {D : va_G} {tys : List (ClassId × FieldType)} {sz : Nat} {av : List Value} {mc ms : Nat}
theorem CT.re {w wc wr w1 w2 : va_W} {post : Int32 → Prop} (h : CT l y ws rm z D tys wc sz av (qi D tys post w1) mc ms) (isC isR is : List Nat) (hC : isC.map (fun i => w[i]?) = wc.map some) (hnC : va_nd isC = true) (hR : isR.map (fun i => w[i]?) = wr.map some) (hn : va_nd isR = true) (hdis : ∀ i ∈ isR, i ∉ isC) (hn2 : va_nd is = true) (hs2 : is.map (fun i => (wr ++ w1)[i]?) = w2.map some) : CT l y ws rm z D tys w sz av (qi D tys post w2) mc ms := by
  intro p e ha hc hk s m args below hf happ hP hK
  obtain ⟨rfl, hsz, hp, hkk, hd, hev⟩ := hP
  subst hsz
  have hF : ∀ q, va_A wc s.heap.size q → va_A w s.heap.size q := va_free (H0 := s.heap) (locs := []) hd.self va_S.rf (fun q h => Or.inr h) isC hC
  obtain ⟨n, o, h1, h2, h3, ⟨⟨r, u, e1, e2, e3⟩, f1, f2⟩, L, fL, gL⟩ := h p e ha hc hk s m _ below hf happ ⟨rfl, rfl, hp.sub isC (fm_of hC), hkk, hd.sub isC hnC hC, fun zz => (hev zz).nar hF⟩ hK
  obtain ⟨P2, D2⟩ := aft hp hd.self isC isR is hC hR hn hdis hF f2 rfl e3 (fm_of hs2) hn2 hs2
  exact ⟨n, o, h1, h2, h3, ⟨⟨r, u, e1, e2, P2, e3.2.1, D2⟩, f1, fun q g1 g2 => f2 q g1 (fun z => g2 (hF q z))⟩, L, fL, fun q hq => hF _ (gL q hq)⟩
theorem CL.re {w wc wr : va_W} {w1 w2 : (Nat → Int64) → va_W} {k x : Int32} (h : CL l y ws rm z D tys wc sz av (qio D tys k x w1) mc ms) (isC isR is : List Nat) (hC : isC.map (fun i => w[i]?) = wc.map some) (hnC : va_nd isC = true) (hR : isR.map (fun i => w[i]?) = wr.map some) (hn : va_nd isR = true) (hdis : ∀ i ∈ isR, i ∉ isC) (hn2 : va_nd is = true) (hs2 : ∀ f, is.map (fun i => (wr ++ w1 f)[i]?) = (w2 f).map some) : CL l y ws rm z D tys w sz av (qio D tys k x w2) mc ms := by
  intro p e ha hc hk s m args below hf happ hP hK
  obtain ⟨rfl, hsz, hp, hkk, hd, hev⟩ := hP
  subst hsz
  have hF : ∀ q, va_A wc s.heap.size q → va_A w s.heap.size q := va_free (H0 := s.heap) (locs := []) hd.self va_S.rf (fun q h => Or.inr h) isC hC
  obtain ⟨n, o, h1, h2, h3, hh⟩ := h p e ha hc hk s m _ below hf happ ⟨rfl, rfl, hp.sub isC (fm_of hC), hkk, hd.sub isC hnC hC, fun zz => (hev zz).nar hF⟩ hK
  rcases hh with ⟨⟨⟨r, u, e1, e2, e3⟩, f1, f2⟩, L, fL, gL⟩ | ⟨q, -, E, ce, L, ⟨u, -, ⟨hno, -⟩, -⟩, -⟩
  · obtain ⟨P2, D2⟩ := aft hp hd.self isC isR is hC hR hn hdis hF f2 rfl e3 (fm_of (hs2 u)) hn2 (hs2 u)
    exact ⟨n, o, h1, h2, h3, Or.inl ⟨⟨⟨r, u, e1, e2, P2, e3.2.1, D2⟩, f1, fun q g1 g2 => f2 q g1 (fun z => g2 (hF q z))⟩, L, fL, fun q hq => hF _ (gL q hq)⟩⟩
  · exact hno.elim
end RE
abbrev tyL (cI cB cL : ClassId) : List (ClassId × FieldType) := [(cI, .int), (cB, .byte), (cL, .long)]
abbrev tyR (cI cZ cC : ClassId) : List (ClassId × FieldType) := [(cI, .int), (cZ, .boolean), (cC, .char)]
abbrev tyA (cI cB cL cZ cC : ClassId) : List (ClassId × FieldType) := [(cI, .int), (cB, .byte), (cL, .long), (cZ, .boolean), (cC, .char)]
/-- the class's cells, one side's first, and the row of the answer -/
abbrev wSO (cI cL : ClassId) (h zz oo : Nat) (qa qb : Nat → Nat) (tm : Int32) (c o : CS) (ou : Nat) (f : Nat → Int64) : va_W := [(h, .inr (4, [.ref zz, .ref oo, .int tm])), (qa 0, .inr (1, [.ref (qa 1), .ref (qa 2), .int (c.1 0), .int (c.1 1), .int (c.1 2), .int (c.1 3), .int (c.1 4), .int (c.1 5)])), (qa 1, .inr (2, [.ref (qa 3), .int (nI (c.2.1 6)), .int (nI (c.2.1 7)), .ref (qa 4), .int (nI (c.2.1 8)), .int (c.1 9)])), (qa 2, .inr (3, [.ref (qa 5), .int (nI (c.2.1 10))])), (qa 3, .inl (cI, 200, .inl (ni (c.2.2 0)))), (qa 4, .inl (cI, 200, .inl (ni (c.2.2 1)))), (qa 5, .inl (cI, 60, .inl (ni (c.2.2 2)))), (qb 0, .inr (1, [.ref (qb 1), .ref (qb 2), .int (o.1 0), .int (o.1 1), .int (o.1 2), .int (o.1 3), .int (o.1 4), .int (o.1 5)])), (qb 1, .inr (2, [.ref (qb 3), .int (nI (o.2.1 6)), .int (nI (o.2.1 7)), .ref (qb 4), .int (nI (o.2.1 8)), .int (o.1 9)])), (qb 2, .inr (3, [.ref (qb 5), .int (nI (o.2.1 10))])), (qb 3, .inl (cI, 200, .inl (ni (o.2.2 0)))), (qb 4, .inl (cI, 200, .inl (ni (o.2.2 1)))), (qb 5, .inl (cI, 60, .inl (ni (o.2.2 2)))), (ou, .inl (cL, 1, .inr (.inl f)))]
/-- the reference's -/
abbrev wRf (cI cZ cC : ClassId) (g : Nat) (q : Nat → Nat) (t1 tm : Int32) (s : RS) : va_W := [(g, .inr (5, [.ref (q 0), .int t1, .int tm, .ref (q 3), .ref (q 4), .ref (q 5), .ref (q 6), .ref (q 7), .ref (q 8), .ref (q 9), .ref (q 10), .ref (q 11), .ref (q 12), .ref (q 13), .ref (q 14), .ref (q 15), .ref (q 16), .ref (q 17), .ref (q 18), .ref (q 19), .ref (q 20), .ref (q 21)])), (q 0, .inl (cC, 63, .inl nmF)), (q 3, .inl (cI, 2, .inl (s.1 3))), (q 4, .inl (cI, 2, .inl (ni (s.2 4)))), (q 5, .inl (cI, 2, .inl (ni (s.2 5)))), (q 6, .inl (cI, 402, .inl (ni (s.2 6)))), (q 7, .inl (cI, 402, .inl (ni (s.2 7)))), (q 8, .inl (cI, 402, .inl (ni (s.2 8)))), (q 9, .inl (cI, 402, .inl (ni (s.2 9)))), (q 10, .inl (cI, 2, .inl (ni (s.2 10)))), (q 11, .inl (cI, 2, .inl (s.1 11))), (q 12, .inl (cZ, 2, .inl (s.1 12))), (q 13, .inl (cI, 2, .inl (s.1 13))), (q 14, .inl (cI, 2, .inl (s.1 14))), (q 15, .inl (cZ, 2, .inl (s.1 15))), (q 16, .inl (cI, 2, .inl (s.1 16))), (q 17, .inl (cI, 2, .inl (ni (s.2 17)))), (q 18, .inl (cI, 120, .inl (ni (s.2 18)))), (q 19, .inl (cI, 120, .inl (ni (s.2 19)))), (q 20, .inl (cI, 120, .inl (ni (s.2 20)))), (q 21, .inl (cI, 120, .inl (ni (s.2 21))))]
def jj (t1 tm : Int32) : Nat → Int32 := fun k => match k with
  | 1 => t1
  | _ => tm
/-- a call of the class through the law, and the reference's: their contracts, their answers, what they leave -/
def PS (l : Launch) (D : va_G) (cI cB cL cZ cC : ClassId) (h ou g : Nat) (q : Nat → Nat) (tm : Int32) (yC : MethodName) (wsC : List Cond) (rmC : Room) (mc ms : Nat) (yR : MethodName) (wsR : List Cond) (ex : List Value) (X : Int32 → Prop) (sd zz oo : Nat) (qa qb : Nat → Nat) (c o : CS) (s : RS) : Prop :=
  ∃ (rmR : Room) (k k' v v' : Int32) (c' o' : CS) (s' : RS), (rmR.cells = 0 ∧ rmR.slots = 0 ∧ rmR.frames ≤ 12 ∧ rmR.locals ≤ 300) ∧
    (∀ (sz : Nat) (f : Nat → Int64), CL l yC wsC rmC true D (tyL cI cB cL) (wSO cI cL h zz oo qa qb tm c o ou f) sz (.ref h :: (ex ++ [.ref ou])) (qio D (tyL cI cB cL) k v (fun f => wSO cI cL h zz oo qa qb tm c' o' ou f)) mc ms) ∧
    (∀ (sz : Nat) (t1 : Int32), CT l yR wsR rmR false D (tyR cI cZ cC) (wRf cI cZ cC g q t1 tm s) sz (.ref g :: ex) (qi D (tyR cI cZ cC) (fun r => r = v') (wRf cI cZ cC g q k' tm s')) 0 0) ∧
    (k = k' ∧ (k = 0 → v = v') ∧ X v') ∧ rel2 sd c' o' s' ∧ inv s' ∧ ba c'.2.2 ∧ ba o'.2.2
set_option maxHeartbeats 4000000 in
set_option maxRecDepth 100000 in
theorem PS.flip {l : Launch} {D : va_G} {cI cB cL cZ cC : ClassId} {h ou g : Nat} {q : Nat → Nat} {tm : Int32} {yC : MethodName} {wsC : List Cond} {rmC : Room} {mc ms : Nat} {yR : MethodName} {wsR : List Cond} {ex : List Value} {X : Int32 → Prop} {zz oo : Nat} {qa qb : Nat → Nat} {c o : CS} {s : RS}
    (k : PS l D cI cB cL cZ cC h ou g q tm yC wsC rmC mc ms yR wsR ex X 1 zz oo qa qb c o s) : PS l D cI cB cL cZ cC h ou g q tm yC wsC rmC mc ms yR wsR ex X 0 zz oo qb qa o c s := by
  obtain ⟨rmR, k, k', v, v', c', o', s', hrm, hC, hR, e1, e2, e3, e4, e5⟩ := k
  exact ⟨rmR, k, k', v, v', o', c', s', hrm, fun sz f => CL.re (wr := []) (hC sz f) [0, 7, 8, 9, 10, 11, 12, 1, 2, 3, 4, 5, 6, 13] [] [0, 7, 8, 9, 10, 11, 12, 1, 2, 3, 4, 5, 6, 13] rfl (by decide) rfl (by decide) (by decide) (by decide) (fun _ => rfl), hR, e1, e2.flip, e3, e5, e4⟩
/-! the law's calls, over both worlds -/
section LAWCALLS
variable {p : Program} {l : Launch} {e : Env} {R : Room} {s : State} {m : MethodId} {args : Array Value} {below : List Frame} {meth : Method} {cd : Code} {H : Heap} {locs : List Loc} {cells slots : Nat} {Q : State → Prop}
variable {cc : ByteArray} {pc : Nat} {ls : Array Slot} {nL : Nat} {Ts : List Cond} {own : String} {A : Nat → Prop}
variable {D : va_G} {cI cB cL cZ cC : ClassId} {h ou g zz oo : Nat} {qa qb q : Nat → Nat} {tm t1 tmc : Int32} {c o c' o' : CS} {sr sr' : RS} {f : Nat → Int64}
abbrev wA (cI cB cL cZ cC : ClassId) (h ou g : Nat) (q : Nat → Nat) (zz oo : Nat) (qa qb : Nat → Nat) (tm t1 : Int32) (c o : CS) (f : Nat → Int64) (s : RS) : va_W := wSO cI cL h zz oo qa qb tm c o ou f ++ wRf cI cZ cC g q t1 tm s
set_option maxHeartbeats 4000000 in
set_option maxRecDepth 100000 in
theorem lw_cC {y : MethodName} {ws : List Cond} {rm : Room} {mc ms n index : Nat} {bytes : ByteArray} {maxL : Nat} {ret : Option FieldType} {hh : List (Nat × Nat × Nat × Nat)} {ex st : List Value} {k v : Int32}
    (fix : CallFix p m cd cc nL s args Ts own) (hM : ∀ (sz : Nat) (f : Nat → Int64), CL l y ws rm true D (tyL cI cB cL) (wSO cI cL h zz oo qa qb tm c o ou f) sz (.ref h :: (ex ++ [.ref ou])) (qio D (tyL cI cB cL) k v (fun f => wSO cI cL h zz oo qa qb tm c' o' ou f)) mc ms)
    (cw : vx_CSW R s args own index y bytes maxL ret hh ws rm mc ms n) (hn : (Value.ref h :: (ex ++ [.ref ou])).length = n) (hsz : ls.size = nL) (hst : st = (Value.ref h :: (ex ++ [.ref ou])).reverse ++ []) (hdg : decode cc pc = .ok (.invokestatic index, 3)) (hf : cells + mc ≤ R.cells ∧ slots + ms ≤ R.slots)
    (hP : va_P D vwCl (wA cI cB cL cZ cC h ou g q zz oo qa qb tm t1 c o f sr) H) (hD : va_D A (wA cI cB cL cZ cC h ou g q zz oo qa qb tm t1 c o f sr)) (hK : va_K D vwCl (tyA cI cB cL cZ cC) s) (hE : ev A s s.heap) (hA : ∀ q : Nat, s.heap.size ≤ q → A q) (hS : va_S A s.heap H locs)
    (kk : ∀ (f : Nat → Int64) (H : Heap) (locs : List Loc), (k = 0 → f 0 = v.toInt64) → va_P D vwCl (wA cI cB cL cZ cC h ou g q zz oo qa qb tm t1 c' o' f sr) H → va_D A (wA cI cB cL cZ cC h ou g q zz oo qa qb tm t1 c' o' f sr) → va_S A s.heap H locs → W p l e R s m args below meth cd H locs (cells + mc) (slots + ms) Q (F0 m (pc + 3) ls [.int k])) : W p l e R s m args below meth cd H locs cells slots Q (F0 m pc ls st) := by
  have hPc := hP.sub (ws' := wSO cI cL h zz oo qa qb tm c o ou f) [0, 1, 2, 3, 4, 5, 6, 7, 8, 9, 10, 11, 12, 13] rfl
  have hDc := hD.sub (ws' := wSO cI cL h zz oo qa qb tm c o ou f) [0, 1, 2, 3, 4, 5, 6, 7, 8, 9, 10, 11, 12, 13] (by decide) rfl
  have hFc := va_free (wc := wSO cI cL h zz oo qa qb tm c o ou f) hD hS hA [0, 1, 2, 3, 4, 5, 6, 7, 8, 9, 10, 11, 12, 13] rfl
  refine vx_calli (vx_runSX (As := .ref h :: (ex ++ [.ref ou])) (rest := []) fix (hM H.size f) cw ⟨pcs_blind, pcs_pre (z0 := true) (fun h => h) (fun _ => hE) hS hPc (hK.sub (tys' := tyL cI cB cL) [0, 1, 2] rfl) hDc hFc⟩ rfl hn hsz hst (lv_room (Nat.le_of_ble_eq_true rfl)) hdg hf) hS (fun q _ h => hFc q h) hFc (fun q _ h => hFc q h) (fun E ce q9 u t H1 locs1 ht hvm hw hB hz1 hk1 hS hce hcv hcl => hB.1.elim) (fun r u t H1 locs1 ht hvm hw hB hz1 hk1 hS => ?_)
  obtain ⟨hP, hD⟩ := aft (wr := wRf cI cZ cC g q t1 tm sr) (w1 := wSO cI cL h zz oo qa qb tm c' o' ou u) (w2 := wA cI cB cL cZ cC h ou g q zz oo qa qb tm t1 c' o' u sr) hP hD [0, 1, 2, 3, 4, 5, 6, 7, 8, 9, 10, 11, 12, 13] [14, 15, 16, 17, 18, 19, 20, 21, 22, 23, 24, 25, 26, 27, 28, 29, 30, 31, 32, 33, 34] [21, 22, 23, 24, 25, 26, 27, 28, 29, 30, 31, 32, 33, 34, 0, 1, 2, 3, 4, 5, 6, 7, 8, 9, 10, 11, 12, 13, 14, 15, 16, 17, 18, 19, 20] rfl rfl (by decide) (by decide) hFc hk1 ht hB rfl (by decide) rfl
  obtain ⟨e1, e2⟩ := hw
  subst e1
  exact kk u _ _ e2 hP hD hS
set_option maxHeartbeats 4000000 in
set_option maxRecDepth 100000 in
theorem lw_cR {y : MethodName} {ws : List Cond} {rm : Room} {n index : Nat} {bytes : ByteArray} {maxL : Nat} {ret : Option FieldType} {ex st rest : List Value} {v t1' tm' : Int32}
    (fix : CallFix p m cd cc nL s args Ts own) (hM : ∀ (sz : Nat), CT l y ws rm false D (tyR cI cZ cC) (wRf cI cZ cC g q t1 tm sr) sz (.ref g :: ex) (qi D (tyR cI cZ cC) (fun r => r = v) (wRf cI cZ cC g q t1' tm' sr')) 0 0)
    (cw : CallW R s args own RX5 index y bytes maxL ret ws rm 0 0 n) (hn : ex.length = n) (hsz : ls.size = nL) (hst : st = ex.reverse ++ .ref g :: rest) (hrest : (rest.map fun v => v.category).sum ≤ 8) (hdg : decode cc pc = .ok (.invokevirtual index, 3)) (hf : cells ≤ R.cells ∧ slots ≤ R.slots)
    (hP : va_P D vwCl (wSO cI cL h zz oo qa qb tmc c o ou f ++ wRf cI cZ cC g q t1 tm sr) H) (hD : va_D A (wSO cI cL h zz oo qa qb tmc c o ou f ++ wRf cI cZ cC g q t1 tm sr)) (hK : va_K D vwCl (tyA cI cB cL cZ cC) s) (hA : ∀ q : Nat, s.heap.size ≤ q → A q) (hS : va_S A s.heap H locs)
    (kk : ∀ (H : Heap) (locs : List Loc), va_P D vwCl (wSO cI cL h zz oo qa qb tmc c o ou f ++ wRf cI cZ cC g q t1' tm' sr') H → va_D A (wSO cI cL h zz oo qa qb tmc c o ou f ++ wRf cI cZ cC g q t1' tm' sr') → va_S A s.heap H locs → W p l e R s m args below meth cd H locs cells slots Q (F0 m (pc + 3) ls (.int v :: rest))) : W p l e R s m args below meth cd H locs cells slots Q (F0 m pc ls st) := by
  have hPc := hP.sub (ws' := wRf cI cZ cC g q t1 tm sr) [14, 15, 16, 17, 18, 19, 20, 21, 22, 23, 24, 25, 26, 27, 28, 29, 30, 31, 32, 33, 34] rfl
  have hDc := hD.sub (ws' := wRf cI cZ cC g q t1 tm sr) [14, 15, 16, 17, 18, 19, 20, 21, 22, 23, 24, 25, 26, 27, 28, 29, 30, 31, 32, 33, 34] (by decide) rfl
  have hFc := va_free (wc := wRf cI cZ cC g q t1 tm sr) hD hS hA [14, 15, 16, 17, 18, 19, 20, 21, 22, 23, 24, 25, 26, 27, 28, 29, 30, 31, 32, 33, 34] rfl
  refine va_calli (va_runV (As := ex) (rest := rest) fix (hM H.size) cw ⟨pcs_blind, va_recv hK hP (ci := 5) (q0 := 14) rfl rfl, pcs_pre (z0 := false) (fun h => h) (fun h => by cases h) hS hPc (hK.sub (tys' := tyR cI cZ cC) [0, 3, 4] rfl) hDc hFc⟩ rfl hn hsz hst (lv_room hrest) hdg hf) hS (fun q _ h => hFc q h) hFc (fun r u t H1 locs1 ht hvm hw hB hz1 hk1 hS => ?_)
  obtain ⟨hP, hD⟩ := aft (wr := wSO cI cL h zz oo qa qb tmc c o ou f) (w1 := wRf cI cZ cC g q t1' tm' sr') (w2 := wSO cI cL h zz oo qa qb tmc c o ou f ++ wRf cI cZ cC g q t1' tm' sr') hP hD [14, 15, 16, 17, 18, 19, 20, 21, 22, 23, 24, 25, 26, 27, 28, 29, 30, 31, 32, 33, 34] [0, 1, 2, 3, 4, 5, 6, 7, 8, 9, 10, 11, 12, 13] [0, 1, 2, 3, 4, 5, 6, 7, 8, 9, 10, 11, 12, 13, 14, 15, 16, 17, 18, 19, 20, 21, 22, 23, 24, 25, 26, 27, 28, 29, 30, 31, 32, 33, 34] rfl rfl (by decide) (by decide) hFc hk1 ht hB rfl (by decide) rfl
  have hw : r = v := hw
  subst hw
  exact kk _ _ hP hD hS
end LAWCALLS
