theorem lfe {D : va_G} {tys : List (ClassId × FieldType)} {w : va_W} {A : Nat → Prop} {s t : State} {H : Heap} {locs : List Loc} {args : Array Value} {r v : Int32} (hr : v = r) (hP : va_P D vwCl w H) (hK : va_K D vwCl tys s) (hD : va_D A w) (hS : va_S A s.heap H locs) (ht : t.heap = H) (hW : s.WarmedH t.vm) : qi D tys (fun z => z = r) w A args s (.returned (some (.int v))) t := lfi hr hP hK hD hS ht hW
theorem lfc {D : va_G} {tys : List (ClassId × FieldType)} {w : va_W} {A : Nat → Prop} {s t : State} {H : Heap} {locs : List Loc} {args : Array Value} {C : Prop} {r v : Int32} (hc : C) (hr : v = r) (hP : va_P D vwCl w H) (hK : va_K D vwCl tys s) (hD : va_D A w) (hS : va_S A s.heap H locs) (ht : t.heap = H) (hW : s.WarmedH t.vm) : qi D tys (fun z => C ∧ z = r) w A args s (.returned (some (.int v))) t := lfi (post := fun z => C ∧ z = r) ⟨hc, hr⟩ hP hK hD hS ht hW
theorem lfq {D : va_G} {tys : List (ClassId × FieldType)} {w : va_W} {A : Nat → Prop} {s t : State} {H : Heap} {locs : List Loc} {args : Array Value} {r v : Nat} (hr : v = r) (hP : va_P D vwCl w H) (hK : va_K D vwCl tys s) (hD : va_D A w) (hS : va_S A s.heap H locs) (ht : t.heap = H) (hW : s.WarmedH t.vm) : qr D tys (fun z => z = r) w A args s (.returned (some (.ref v))) t := lfr hr hP hK hD hS ht hW
/-! ===== small words of the class's state: messages, stores, wires ===== -/
theorem fa_and (a b : Nat) : nI a &&& nI b = nI (a &&& b) := by
  apply Int32.toBitVec_inj.1
  show BitVec.ofNat 32 a &&& BitVec.ofNat 32 b = BitVec.ofNat 32 (a &&& b)
  apply BitVec.eq_of_getLsbD_eq
  intro i hi
  simp [hi]
theorem fa_or (a b : Nat) : nI a ||| nI b = nI (a ||| b) := by
  apply Int32.toBitVec_inj.1
  show BitVec.ofNat 32 a ||| BitVec.ofNat 32 b = BitVec.ofNat 32 (a ||| b)
  apply BitVec.eq_of_getLsbD_eq
  intro i hi
  simp [hi]
theorem fa_bit {n j : Nat} (hj : j < 31) : nI n &&& nI (2 ^ j) = 0 ↔ n.testBit j = false := by
  have h2 : (2 : Nat) ^ j < 2 ^ 31 := Nat.pow_lt_pow_right (by decide) hj
  have hle : n &&& 2 ^ j ≤ 2 ^ j := Nat.and_le_right
  have e : n &&& 2 ^ j = 0 ↔ n.testBit j = false := by
    constructor
    · intro h
      have h1 : (n &&& 2 ^ j).testBit j = false := by rw [h]; simp
      rw [Nat.testBit_and] at h1
      first | simpa using h1 | simpa [Nat.testBit_two_pow_self] using h1 | simpa [Nat.testBit_two_pow] using h1
    · intro h
      apply Nat.eq_of_testBit_eq
      intro i
      rw [Nat.testBit_and]
      by_cases hi : j = i
      · subst hi; simp [h]
      · first | (simp [Nat.testBit_two_pow, hi]; done) | (simp [Nat.testBit_two_pow_of_ne hi]; done)
  rw [fa_and]
  constructor
  · intro h
    apply e.mp
    rcases Nat.eq_zero_or_pos (n &&& 2 ^ j) with z | z
    · exact z
    · exact absurd h (nI_ne0 z (Nat.lt_of_le_of_lt hle h2))
  · intro h
    rw [e.mpr h]; exact nI_0
theorem mk_bit0 {m k : Nat} (hk : k < 31) : nI m &&& nI (2 ^ k) = 0 ↔ ¬ m.testBit k = true := by
  rw [fa_bit hk]; simp
theorem mk_bit {m k : Nat} (hk : k < 31) : ¬ (nI m &&& nI (2 ^ k) = 0) ↔ m.testBit k = true := by
  rw [fa_bit hk]; simp
theorem nI_dec {a : Nat} (h : 1 ≤ a) : nI a + Int32.ofInt (-1) = nI (a - 1) := by
  obtain ⟨b, rfl⟩ : ∃ b, a = b + 1 := ⟨a - 1, by omega⟩
  exact pk_m1 b
/-- a message: its number, kind, what it tells -/
abbrev nu (m : Nat) : Nat := m % 256
abbrev kd (m : Nat) : Nat := m / 256 % 8
abbrev td (m : Nat) : Nat := m / 2048 % 1024
abbrev pkm (n k t g : Nat) : Nat := n ||| k * 256 ||| t * 2048 ||| g
theorem nu_lt (m : Nat) : nu m < 256 := Nat.mod_lt _ (by decide)
theorem kd_lt (m : Nat) : kd m < 8 := Nat.mod_lt _ (by decide)
theorem td_lt (m : Nat) : td m < 1024 := Nat.mod_lt _ (by decide)
/-- a side's counters are small, what its arrays hold too -/
def bd (n : Nat → Nat) : Prop := n 6 ≤ 200 ∧ n 7 ≤ 1023 ∧ n 8 ≤ 200 ∧ n 10 ≤ 60
abbrev ba (a : Nat → Nat → Nat) : Prop := ∀ k j, a k j < 16777216
def hasB (n6 : Nat) (a0 : Nat → Nat) (j : Nat) : Prop := 1 ≤ j ∧ j ≤ n6 ∧ kd (a0 (j - 1)) = 5
def keyAhead (n6 : Nat) (a0 : Nat → Nat) (v j : Nat) : Prop := ∃ k, k < j ∧ hasB n6 a0 k ∧ td (a0 (k - 1)) = v
def tellsK (n6 : Nat) (a0 : Nat → Nat) (j : Nat) : Prop := hasB n6 a0 j ∧ ((a0 (j - 1)).testBit 22 = true → ¬ keyAhead n6 a0 (td (a0 (j - 1))) j)
/-- a row that grows by one, up to its length -/
def cApp (lim c : Nat) (f : Nat → Nat) (v : Nat) : Nat × (Nat → Nat) := if lim ≤ c then (c, f) else (c + 1, va_up f c v)
def cShift (c : Nat) (f : Nat → Nat) : Nat → Nat := fun k => if k + 1 < c then f (k + 1) else f k
def cRemP (c : Nat) (f : Nat → Nat) : Nat × Nat × (Nat → Nat) := (f 0, c - 1, cShift c f)
theorem cRemP_eq {c : Nat} {g f : Nat → Nat} {i : Nat} (hf : ∀ k, f k = if k + 1 < i then g (k + 1) else g k) (hi : i = c) : cRemP c g = (g 0, (c - 1, f)) := by
  have e : f = cShift c g := by funext k; rw [hf k, hi]; rfl
  rw [e]; rfl
theorem rf_step {g f : Nat → Nat} {i : Nat} (hf : ∀ k, f k = if k + 1 < i then g (k + 1) else g k) (hi : 1 ≤ i) (k : Nat) : va_up f (i - 1) (f i) k = if k + 1 < i + 1 then g (k + 1) else g k := by
  unfold va_up
  by_cases h : k = i - 1
  · rw [if_pos h, hf i, if_neg (by omega), if_pos (by omega)]
    congr 1; omega
  · rw [if_neg h, hf k]
    by_cases h2 : k + 1 < i
    · rw [if_pos h2, if_pos (by omega)]
    · rw [if_neg h2, if_neg (by omega)]
set_option maxHeartbeats 4000000 in
set_option maxRecDepth 100000 in
theorem c_X0_numberOf (l : Launch) (D : va_G) (sz : Nat) (cI : ClassId) (mm : Nat) (hm : mm < 2 ^ 31) : CT l yX0_numberOf wsX0_numberOf ({ frames := 0, cells := 0, slots := 0, locals := 0 }) false D ([(cI, .int)]) [] sz [.int (nI mm)] (qi D ([(cI, .int)]) (fun r => r = nI (nu mm)) []) 0 0 := by
  refine CT.of (cc := cX0_numberOf) (maxL := 1) (ret := (some .int)) (by decide) rfl (Nat.le_of_ble_eq_true rfl) ?_
  intro A p e s m args below meth c ls H locs En0 argsE hP hK hD hE hA hS hl
  obtain ⟨hx, hb, hr, hml, hown, hts, hlocks, hin⟩ := En0
  have hP : va_P D vwCl [] H := hP
  have hD : va_D A [] := hD
  have hl : lv_has ls 1 [(0, .int (nI mm))] := hl
  refine lv_iload_n hx hb dX0_numberOf_0 rfl (lv_at hl 0 rfl) ?_
  refine lv_sipush (v := 255) hx hb dX0_numberOf_1 (by decide) ?_
  refine lv_iand hx hb dX0_numberOf_4 ?_
  refine tp (show _ = nI (mm % 256) from pk_andN (n := mm) (by omega) 8 (by decide)) ?_
  exact W.iret (v := nI (mm % 256)) hx hb hr (fun t ht hW => lfe rfl hP hK hD hS ht hW) hS.2.2 dX0_numberOf_5 hlocks
set_option maxHeartbeats 4000000 in
set_option maxRecDepth 100000 in
theorem c_X0_kindOf (l : Launch) (D : va_G) (sz : Nat) (cI : ClassId) (mm : Nat) (hm : mm < 2 ^ 31) : CT l yX0_kindOf wsX0_kindOf ({ frames := 0, cells := 0, slots := 0, locals := 0 }) false D ([(cI, .int)]) [] sz [.int (nI mm)] (qi D ([(cI, .int)]) (fun r => r = nI (kd mm)) []) 0 0 := by
  refine CT.of (cc := cX0_kindOf) (maxL := 1) (ret := (some .int)) (by decide) rfl (Nat.le_of_ble_eq_true rfl) ?_
  intro A p e s m args below meth c ls H locs En0 argsE hP hK hD hE hA hS hl
  obtain ⟨hx, hb, hr, hml, hown, hts, hlocks, hin⟩ := En0
  have hP : va_P D vwCl [] H := hP
  have hD : va_D A [] := hD
  have hl : lv_has ls 1 [(0, .int (nI mm))] := hl
  refine lv_iload_n hx hb dX0_kindOf_0 rfl (lv_at hl 0 rfl) ?_
  refine lv_bipush (v := 8) hx hb dX0_kindOf_1 (by decide) ?_
  refine lv_ishr hx hb dX0_kindOf_3 ?_
  refine tp (show _ = nI (mm / 256) from pk_shrN (n := mm) (by omega) _ 8 (by decide)) ?_
  refine lv_bipush (v := 7) hx hb dX0_kindOf_4 (by decide) ?_
  refine lv_iand hx hb dX0_kindOf_6 ?_
  refine tp (show _ = nI ((mm / 256) % 8) from pk_andN (n := (mm / 256)) (by omega) 3 (by decide)) ?_
  exact W.iret (v := nI ((mm / 256) % 8)) hx hb hr (fun t ht hW => lfe rfl hP hK hD hS ht hW) hS.2.2 dX0_kindOf_7 hlocks
set_option maxHeartbeats 4000000 in
set_option maxRecDepth 100000 in
theorem c_X0_toldBy (l : Launch) (D : va_G) (sz : Nat) (cI : ClassId) (mm : Nat) (hm : mm < 2 ^ 31) : CT l yX0_toldBy wsX0_toldBy ({ frames := 0, cells := 0, slots := 0, locals := 0 }) false D ([(cI, .int)]) [] sz [.int (nI mm)] (qi D ([(cI, .int)]) (fun r => r = nI (td mm)) []) 0 0 := by
  refine CT.of (cc := cX0_toldBy) (maxL := 1) (ret := (some .int)) (by decide) rfl (Nat.le_of_ble_eq_true rfl) ?_
  intro A p e s m args below meth c ls H locs En0 argsE hP hK hD hE hA hS hl
  obtain ⟨hx, hb, hr, hml, hown, hts, hlocks, hin⟩ := En0
  have hP : va_P D vwCl [] H := hP
  have hD : va_D A [] := hD
  have hl : lv_has ls 1 [(0, .int (nI mm))] := hl
  refine lv_iload_n hx hb dX0_toldBy_0 rfl (lv_at hl 0 rfl) ?_
  refine lv_bipush (v := 11) hx hb dX0_toldBy_1 (by decide) ?_
  refine lv_ishr hx hb dX0_toldBy_3 ?_
  refine tp (show _ = nI (mm / 2048) from pk_shrN (n := mm) (by omega) _ 11 (by decide)) ?_
  refine lv_sipush (v := 1023) hx hb dX0_toldBy_4 (by decide) ?_
  refine lv_iand hx hb dX0_toldBy_7 ?_
  refine tp (show _ = nI ((mm / 2048) % 1024) from pk_andN (n := (mm / 2048)) (by omega) 10 (by decide)) ?_
  exact W.iret (v := nI ((mm / 2048) % 1024)) hx hb hr (fun t ht hW => lfe rfl hP hK hD hS ht hW) hS.2.2 dX0_toldBy_8 hlocks
set_option maxHeartbeats 4000000 in
set_option maxRecDepth 100000 in
theorem c_X0_of (l : Launch) (D : va_G) (sz : Nat) (cI : ClassId) (nn : Nat) (kk : Nat) (tt : Nat) (gg : Nat) (hk : kk < 8) (ht : tt < 1024) : CT l yX0_of wsX0_of ({ frames := 0, cells := 0, slots := 0, locals := 0 }) false D ([(cI, .int)]) [] sz [.int (nI nn), .int (nI kk), .int (nI tt), .int (nI gg)] (qi D ([(cI, .int)]) (fun r => r = nI (pkm nn kk tt gg)) []) 0 0 := by
  refine CT.of (cc := cX0_of) (maxL := 4) (ret := (some .int)) (by decide) rfl (Nat.le_of_ble_eq_true rfl) ?_
  intro A p e s m args below meth c ls H locs En0 argsE hP hK hD hE hA hS hl
  obtain ⟨hx, hb, hr, hml, hown, hts, hlocks, hin⟩ := En0
  have hP : va_P D vwCl [] H := hP
  have hD : va_D A [] := hD
  have hl : lv_has ls 4 [(0, .int (nI nn)), (1, .int (nI kk)), (2, .int (nI tt)), (3, .int (nI gg))] := hl
  refine lv_iload_n hx hb dX0_of_0 rfl (lv_at hl 0 rfl) ?_
  refine lv_iload_n hx hb dX0_of_1 rfl (lv_at hl 1 rfl) ?_
  refine lv_bipush (v := 8) hx hb dX0_of_2 (by decide) ?_
  refine lv_ishl hx hb dX0_of_4 ?_
  refine tp (show _ = nI (kk * 256) from pk_shlN (n := kk) _ 8 (by decide) (by omega)) ?_
  refine lv_ior hx hb dX0_of_5 ?_
  refine tp (show _ = nI (nn ||| (kk * 256)) from fa_or _ _) ?_
  refine lv_iload_n hx hb dX0_of_6 rfl (lv_at hl 2 rfl) ?_
  refine lv_bipush (v := 11) hx hb dX0_of_7 (by decide) ?_
  refine lv_ishl hx hb dX0_of_9 ?_
  refine tp (show _ = nI (tt * 2048) from pk_shlN (n := tt) _ 11 (by decide) (by omega)) ?_
  refine lv_ior hx hb dX0_of_10 ?_
  refine tp (show _ = nI ((nn ||| (kk * 256)) ||| (tt * 2048)) from fa_or _ _) ?_
  refine lv_iload_n hx hb dX0_of_11 rfl (lv_at hl 3 rfl) ?_
  refine lv_ior hx hb dX0_of_12 ?_
  refine tp (show _ = nI (((nn ||| (kk * 256)) ||| (tt * 2048)) ||| gg) from fa_or _ _) ?_
  exact W.iret (v := nI (((nn ||| (kk * 256)) ||| (tt * 2048)) ||| gg)) hx hb hr (fun t ht hW => lfe rfl hP hK hD hS ht hW) hS.2.2 dX0_of_13 hlocks
set_option maxHeartbeats 4000000 in
set_option maxRecDepth 100000 in
theorem c_X0_isMarked_21 (l : Launch) (D : va_G) (sz : Nat) (cI : ClassId) (mm : Nat)  : CT l yX0_isMarked wsX0_isMarked ({ frames := 0, cells := 0, slots := 0, locals := 0 }) false D ([(cI, .int)]) [] sz [.int (nI mm), .int 2097152] (qi D ([(cI, .int)]) (fun r => r = b2i (mm.testBit 21 = true)) []) 0 0 := by
  refine CT.of (cc := cX0_isMarked) (maxL := 2) (ret := (some .boolean)) (by decide) rfl (Nat.le_of_ble_eq_true rfl) ?_
  intro A p e s m args below meth c ls H locs En0 argsE hP hK hD hE hA hS hl
  obtain ⟨hx, hb, hr, hml, hown, hts, hlocks, hin⟩ := En0
  have hP : va_P D vwCl [] H := hP
  have hD : va_D A [] := hD
  have hl : lv_has ls 2 [(0, .int (nI mm)), (1, .int 2097152)] := hl
  refine lv_iload_n hx hb dX0_isMarked_0 rfl (lv_at hl 0 rfl) ?_
  refine lv_iload_n hx hb dX0_isMarked_1 rfl (lv_at hl 1 rfl) ?_
  refine lv_iand hx hb dX0_isMarked_2 ?_
  refine lv_if_eq (tgt := 10) hx hb dX0_isMarked_3 (by decide) (fun c_1 => ?_) (fun c_1 => ?_)
  · refine lv_iconst (v := 0) hx hb dX0_isMarked_10 (by decide) ?_
    exact W.zret (v := 0) hx hb hr rfl (fun t ht hW => lfe (b2i_f (fun z => absurd z ((mk_bit0 (k := 21) (by decide)).mp c_1))) hP hK hD hS ht hW) hS.2.2 dX0_isMarked_11 hlocks
  · refine lv_iconst (v := 1) hx hb dX0_isMarked_6 (by decide) ?_
    refine lv_goto (tgt := 11) hx hb dX0_isMarked_7 (by decide) ?_
    exact W.zret (v := 1) hx hb hr rfl (fun t ht hW => lfe (b2i_t ((mk_bit (k := 21) (by decide)).mp c_1)) hP hK hD hS ht hW) hS.2.2 dX0_isMarked_11 hlocks
set_option maxHeartbeats 4000000 in
set_option maxRecDepth 100000 in
theorem c_X0_isMarked_22 (l : Launch) (D : va_G) (sz : Nat) (cI : ClassId) (mm : Nat)  : CT l yX0_isMarked wsX0_isMarked ({ frames := 0, cells := 0, slots := 0, locals := 0 }) false D ([(cI, .int)]) [] sz [.int (nI mm), .int 4194304] (qi D ([(cI, .int)]) (fun r => r = b2i (mm.testBit 22 = true)) []) 0 0 := by
  refine CT.of (cc := cX0_isMarked) (maxL := 2) (ret := (some .boolean)) (by decide) rfl (Nat.le_of_ble_eq_true rfl) ?_
  intro A p e s m args below meth c ls H locs En0 argsE hP hK hD hE hA hS hl
  obtain ⟨hx, hb, hr, hml, hown, hts, hlocks, hin⟩ := En0
  have hP : va_P D vwCl [] H := hP
  have hD : va_D A [] := hD
  have hl : lv_has ls 2 [(0, .int (nI mm)), (1, .int 4194304)] := hl
  refine lv_iload_n hx hb dX0_isMarked_0 rfl (lv_at hl 0 rfl) ?_
  refine lv_iload_n hx hb dX0_isMarked_1 rfl (lv_at hl 1 rfl) ?_
  refine lv_iand hx hb dX0_isMarked_2 ?_
  refine lv_if_eq (tgt := 10) hx hb dX0_isMarked_3 (by decide) (fun c_1 => ?_) (fun c_1 => ?_)
  · refine lv_iconst (v := 0) hx hb dX0_isMarked_10 (by decide) ?_
    exact W.zret (v := 0) hx hb hr rfl (fun t ht hW => lfe (b2i_f (fun z => absurd z ((mk_bit0 (k := 22) (by decide)).mp c_1))) hP hK hD hS ht hW) hS.2.2 dX0_isMarked_11 hlocks
  · refine lv_iconst (v := 1) hx hb dX0_isMarked_6 (by decide) ?_
    refine lv_goto (tgt := 11) hx hb dX0_isMarked_7 (by decide) ?_
    exact W.zret (v := 1) hx hb hr rfl (fun t ht hW => lfe (b2i_t ((mk_bit (k := 22) (by decide)).mp c_1)) hP hK hD hS ht hW) hS.2.2 dX0_isMarked_11 hlocks
set_option maxHeartbeats 4000000 in
set_option maxRecDepth 100000 in
theorem c_X0_isMarked_23 (l : Launch) (D : va_G) (sz : Nat) (cI : ClassId) (mm : Nat)  : CT l yX0_isMarked wsX0_isMarked ({ frames := 0, cells := 0, slots := 0, locals := 0 }) false D ([(cI, .int)]) [] sz [.int (nI mm), .int 8388608] (qi D ([(cI, .int)]) (fun r => r = b2i (mm.testBit 23 = true)) []) 0 0 := by
  refine CT.of (cc := cX0_isMarked) (maxL := 2) (ret := (some .boolean)) (by decide) rfl (Nat.le_of_ble_eq_true rfl) ?_
  intro A p e s m args below meth c ls H locs En0 argsE hP hK hD hE hA hS hl
  obtain ⟨hx, hb, hr, hml, hown, hts, hlocks, hin⟩ := En0
  have hP : va_P D vwCl [] H := hP
  have hD : va_D A [] := hD
  have hl : lv_has ls 2 [(0, .int (nI mm)), (1, .int 8388608)] := hl
  refine lv_iload_n hx hb dX0_isMarked_0 rfl (lv_at hl 0 rfl) ?_
  refine lv_iload_n hx hb dX0_isMarked_1 rfl (lv_at hl 1 rfl) ?_
  refine lv_iand hx hb dX0_isMarked_2 ?_
  refine lv_if_eq (tgt := 10) hx hb dX0_isMarked_3 (by decide) (fun c_1 => ?_) (fun c_1 => ?_)
  · refine lv_iconst (v := 0) hx hb dX0_isMarked_10 (by decide) ?_
    exact W.zret (v := 0) hx hb hr rfl (fun t ht hW => lfe (b2i_f (fun z => absurd z ((mk_bit0 (k := 23) (by decide)).mp c_1))) hP hK hD hS ht hW) hS.2.2 dX0_isMarked_11 hlocks
  · refine lv_iconst (v := 1) hx hb dX0_isMarked_6 (by decide) ?_
    refine lv_goto (tgt := 11) hx hb dX0_isMarked_7 (by decide) ?_
    exact W.zret (v := 1) hx hb hr rfl (fun t ht hW => lfe (b2i_t ((mk_bit (k := 23) (by decide)).mp c_1)) hP hK hD hS ht hW) hS.2.2 dX0_isMarked_11 hlocks
set_option maxRecDepth 20000 in
theorem in_X2_isFull_X2 : ∀ w ∈ u_ws RX2 TX2 6, w ∈ wsX2_isFull := by decide +kernel
set_option maxHeartbeats 4000000 in
set_option maxRecDepth 100000 in
theorem c_X2_isFull (l : Launch) (D : va_G) (sz : Nat) (cI : ClassId) (h0 : Nat) (h1 : Nat) (h2 : Nat) (x : Nat → Int32) (n : Nat → Nat) (hbd : bd n) : CT l yX2_isFull wsX2_isFull ({ frames := 0, cells := 0, slots := 0, locals := 0 }) false D ([(cI, .int)]) [(h0, .inr (2, [.ref h1, .int (nI (n 6)), .int (nI (n 7)), .ref h2, .int (nI (n 8)), .int (x 9)]))] sz [.ref h0] (qi D ([(cI, .int)]) (fun r => r = b2i (200 ≤ (n 6))) [(h0, .inr (2, [.ref h1, .int (nI (n 6)), .int (nI (n 7)), .ref h2, .int (nI (n 8)), .int (x 9)]))]) 0 0 := by
  refine CT.of (cc := cX2_isFull) (maxL := 1) (ret := (some .boolean)) (by decide) rfl (Nat.le_of_ble_eq_true rfl) ?_
  intro A p e s m args below meth c ls H locs En0 argsE hP hK hD hE hA hS hl
  obtain ⟨hx, hb, hr, hml, hown, hts, hlocks, hin⟩ := En0
  have hP : va_P D vwCl [(h0, .inr (2, [.ref h1, .int (nI (n 6)), .int (nI (n 7)), .ref h2, .int (nI (n 8)), .int (x 9)]))] H := hP
  have hD : va_D A [(h0, .inr (2, [.ref h1, .int (nI (n 6)), .int (nI (n 7)), .ref h2, .int (nI (n 8)), .int (x 9)]))] := hD
  have hl : lv_has ls 1 [(0, .ref h0)] := hl
  obtain ⟨hb6, hb7, hb8, hb10⟩ := id hbd
  refine lv_aload_n hx hb dX2_isFull_0 rfl (lv_at hl 0 rfl) ?_
  refine va_get (ci := 2) (v := .int (nI (n 6))) (C := RX2) (T := TX2) (N := 6) hx hb hts in_X2_isFull_X2 hown hK hP 0 rfl rfl 1 (by decide) (hts (.fieldLink RX2 22 "SessionFix$Store" "sentCount" "I") (by decide +kernel)) (fun _ h9 => h9) rfl dX2_isFull_1 ?_
  refine lv_sipush (v := 200) hx hb dX2_isFull_4 (by decide) ?_
  refine lv_icmp_lt (tgt := 14) hx hb dX2_isFull_7 (by decide) (fun c_1 => ?_) (fun c_1 => ?_)
  · replace c_1 : (n 6) < 200 := (nI_ltI (a := (n 6)) (b := 200) (by omega) (by omega)).mp c_1
    refine lv_iconst (v := 0) hx hb dX2_isFull_14 (by decide) ?_
    exact W.zret (v := 0) hx hb hr rfl (fun t ht hW => lfe (b2i_f (by omega)) hP hK hD hS ht hW) hS.2.2 dX2_isFull_15 hlocks
  · replace c_1 : ¬ ((n 6) < 200) := fun z => c_1 ((nI_ltI (a := (n 6)) (b := 200) (by omega) (by omega)).mpr z)
    refine lv_iconst (v := 1) hx hb dX2_isFull_10 (by decide) ?_
    refine lv_goto (tgt := 15) hx hb dX2_isFull_11 (by decide) ?_
    exact W.zret (v := 1) hx hb hr rfl (fun t ht hW => lfe (b2i_t (by omega)) hP hK hD hS ht hW) hS.2.2 dX2_isFull_15 hlocks
set_option maxRecDepth 20000 in
theorem in_X2_keep_X2 : ∀ w ∈ u_ws RX2 TX2 6, w ∈ wsX2_keep := by decide +kernel
set_option maxHeartbeats 4000000 in
set_option maxRecDepth 100000 in
theorem c_X2_keep (l : Launch) (D : va_G) (sz : Nat) (cI : ClassId) (h0 : Nat) (h1 : Nat) (h2 : Nat) (x : Nat → Int32) (n : Nat → Nat) (a : Nat → Nat → Nat) (v : Nat) (hbd : bd n) : CT l yX2_keep wsX2_keep ({ frames := 0, cells := 0, slots := 0, locals := 0 }) false D ([(cI, .int)]) [(h0, .inr (2, [.ref h1, .int (nI (n 6)), .int (nI (n 7)), .ref h2, .int (nI (n 8)), .int (x 9)])), (h1, .inl (cI, 200, .inl (ni (a 0))))] sz [.ref h0, .int (nI v)] (qv D ([(cI, .int)]) (True) [(h0, .inr (2, [.ref h1, .int (nI ((cApp 200 (n 6) (a 0) v).1)), .int (nI (n 7)), .ref h2, .int (nI (n 8)), .int (x 9)])), (h1, .inl (cI, 200, .inl (ni ((cApp 200 (n 6) (a 0) v).2))))]) 0 0 := by
  refine CT.of (cc := cX2_keep) (maxL := 2) (ret := none) (by decide) rfl (Nat.le_of_ble_eq_true rfl) ?_
  intro A p e s m args below meth c ls H locs En0 argsE hP hK hD hE hA hS hl
  obtain ⟨hx, hb, hr, hml, hown, hts, hlocks, hin⟩ := En0
  have hP : va_P D vwCl [(h0, .inr (2, [.ref h1, .int (nI (n 6)), .int (nI (n 7)), .ref h2, .int (nI (n 8)), .int (x 9)])), (h1, .inl (cI, 200, .inl (ni (a 0))))] H := hP
  have hD : va_D A [(h0, .inr (2, [.ref h1, .int (nI (n 6)), .int (nI (n 7)), .ref h2, .int (nI (n 8)), .int (x 9)])), (h1, .inl (cI, 200, .inl (ni (a 0))))] := hD
  have hl : lv_has ls 2 [(0, .ref h0), (1, .int (nI v))] := hl
  obtain ⟨hb6, hb7, hb8, hb10⟩ := id hbd
  refine lv_aload_n hx hb dX2_keep_0 rfl (lv_at hl 0 rfl) ?_
  refine va_get (ci := 2) (v := .int (nI (n 6))) (C := RX2) (T := TX2) (N := 6) hx hb hts in_X2_keep_X2 hown hK hP 0 rfl rfl 1 (by decide) (hts (.fieldLink RX2 22 "SessionFix$Store" "sentCount" "I") (by decide +kernel)) (fun _ h9 => h9) rfl dX2_keep_1 ?_
  refine lv_if_lt (tgt := 39) hx hb dX2_keep_4 (by decide) (fun c_1 => ?_) (fun c_1 => ?_)
  · exact absurd c_1 (nI_pos (n := (n 6)) (by omega))
  · refine lv_aload_n hx hb dX2_keep_7 rfl (lv_at hl 0 rfl) ?_
    refine va_get (ci := 2) (v := .int (nI (n 6))) (C := RX2) (T := TX2) (N := 6) hx hb hts in_X2_keep_X2 hown hK hP 0 rfl rfl 1 (by decide) (hts (.fieldLink RX2 22 "SessionFix$Store" "sentCount" "I") (by decide +kernel)) (fun _ h9 => h9) rfl dX2_keep_8 ?_
    refine lv_aload_n hx hb dX2_keep_11 rfl (lv_at hl 0 rfl) ?_
    refine va_get (ci := 2) (v := .ref h1) (C := RX2) (T := TX2) (N := 6) hx hb hts in_X2_keep_X2 hown hK hP 0 rfl rfl 0 (by decide) (hts (.fieldLink RX2 9 "SessionFix$Store" "sent" "[I") (by decide +kernel)) (fun _ h9 => h9) rfl dX2_keep_12 ?_
    refine va_alen (v := 200) hx hb hK hP 1 0 rfl rfl rfl dX2_keep_15 ?_
    refine lv_icmp_ge (tgt := 39) hx hb dX2_keep_16 (by decide) (fun c_2 => ?_) (fun c_2 => ?_)
    · replace c_2 : 200 ≤ (n 6) := (nI_leI (a := 200) (b := (n 6)) (by omega) (by omega)).mp c_2
      have eF : cApp 200 (n 6) (a 0) v = (n 6, a 0) := by
        simp only [cApp, if_pos c_2] <;> rfl
      exact W.vret hx hb hr (fun t ht hW => lfv trivial (by rw [eF]; exact hP) hK (by rw [eF]; exact hD) hS ht hW) hS.2.2 dX2_keep_39 hlocks
    · replace c_2 : ¬ (200 ≤ (n 6)) := fun z => c_2 ((nI_leI (a := 200) (b := (n 6)) (by omega) (by omega)).mpr z)
      refine lv_aload_n hx hb dX2_keep_19 rfl (lv_at hl 0 rfl) ?_
      refine va_get (ci := 2) (v := .ref h1) (C := RX2) (T := TX2) (N := 6) hx hb hts in_X2_keep_X2 hown hK hP 0 rfl rfl 0 (by decide) (hts (.fieldLink RX2 9 "SessionFix$Store" "sent" "[I") (by decide +kernel)) (fun _ h9 => h9) rfl dX2_keep_20 ?_
      refine lv_aload_n hx hb dX2_keep_23 rfl (lv_at hl 0 rfl) ?_
      refine va_get (ci := 2) (v := .int (nI (n 6))) (C := RX2) (T := TX2) (N := 6) hx hb hts in_X2_keep_X2 hown hK hP 0 rfl rfl 1 (by decide) (hts (.fieldLink RX2 22 "SessionFix$Store" "sentCount" "I") (by decide +kernel)) (fun _ h9 => h9) rfl dX2_keep_24 ?_
      refine lv_iload_n hx hb dX2_keep_27 rfl (lv_at hl 1 rfl) ?_
      refine ist (k := (n 6)) (v := v) hx hb hK hP hD hS 1 0 (by omega) (by omega) rfl rfl dX2_keep_28 (fun H locs hP hD hS => ?_)
      have hP : va_P D vwCl [(h0, .inr (2, [.ref h1, .int (nI (n 6)), .int (nI (n 7)), .ref h2, .int (nI (n 8)), .int (x 9)])), (h1, .inl (cI, 200, .inl (ni (va_up (a 0) (n 6) v))))] H := hP
      have hD : va_D A [(h0, .inr (2, [.ref h1, .int (nI (n 6)), .int (nI (n 7)), .ref h2, .int (nI (n 8)), .int (x 9)])), (h1, .inl (cI, 200, .inl (ni (va_up (a 0) (n 6) v))))] := hD
      refine lv_aload_n hx hb dX2_keep_29 rfl (lv_at hl 0 rfl) ?_
      refine lv_dup hx hb dX2_keep_30 rfl ?_
      refine va_get (ci := 2) (v := .int (nI (n 6))) (C := RX2) (T := TX2) (N := 6) hx hb hts in_X2_keep_X2 hown hK hP 0 rfl rfl 1 (by decide) (hts (.fieldLink RX2 22 "SessionFix$Store" "sentCount" "I") (by decide +kernel)) (fun _ h9 => h9) rfl dX2_keep_31 ?_
      refine lv_iconst (v := 1) hx hb dX2_keep_34 (by decide) ?_
      refine lv_iadd hx hb dX2_keep_35 ?_
      refine tp (show (nI (n 6)) + 1 = nI ((n 6) + 1) from nI_add (n 6) 1) ?_
      refine va_put (ci := 2) (v := .int (nI ((n 6) + 1))) (ty := .int) (C := RX2) (T := TX2) (N := 6) hx hb hts in_X2_keep_X2 tyX2 tyX2_ok nmX2 hown hK hP hD hS 0 rfl rfl 1 (by decide) (hts (.fieldLink RX2 22 "SessionFix$Store" "sentCount" "I") (by decide +kernel)) (fun _ h9 => h9) rfl (by decide +kernel) rfl rfl (Nat.le_of_ble_eq_true rfl) dX2_keep_36 (fun H locs hP hD hS => ?_)
      have hP : va_P D vwCl [(h0, .inr (2, [.ref h1, .int (nI ((n 6) + 1)), .int (nI (n 7)), .ref h2, .int (nI (n 8)), .int (x 9)])), (h1, .inl (cI, 200, .inl (ni (va_up (a 0) (n 6) v))))] H := hP
      have hD : va_D A [(h0, .inr (2, [.ref h1, .int (nI ((n 6) + 1)), .int (nI (n 7)), .ref h2, .int (nI (n 8)), .int (x 9)])), (h1, .inl (cI, 200, .inl (ni (va_up (a 0) (n 6) v))))] := hD
      have eF : cApp 200 (n 6) (a 0) v = (((n 6) + 1), (va_up (a 0) (n 6) v)) := by
        simp only [cApp, if_neg c_2] <;> rfl
      exact W.vret hx hb hr (fun t ht hW => lfv trivial (by rw [eF]; exact hP) hK (by rw [eF]; exact hD) hS ht hW) hS.2.2 dX2_keep_39 hlocks
set_option maxRecDepth 20000 in
theorem in_X2_emptyAll_X2 : ∀ w ∈ u_ws RX2 TX2 6, w ∈ wsX2_emptyAll := by decide +kernel
set_option maxHeartbeats 4000000 in
set_option maxRecDepth 100000 in
theorem c_X2_emptyAll (l : Launch) (D : va_G) (sz : Nat) (cI : ClassId) (h0 : Nat) (h1 : Nat) (h2 : Nat) (x : Nat → Int32) (n : Nat → Nat)  : CT l yX2_emptyAll wsX2_emptyAll ({ frames := 0, cells := 0, slots := 0, locals := 0 }) false D ([(cI, .int)]) [(h0, .inr (2, [.ref h1, .int (nI (n 6)), .int (nI (n 7)), .ref h2, .int (nI (n 8)), .int (x 9)]))] sz [.ref h0] (qv D ([(cI, .int)]) (True) [(h0, .inr (2, [.ref h1, .int (nI 0), .int (nI 1), .ref h2, .int (nI 0), .int 0]))]) 0 0 := by
  refine CT.of (cc := cX2_emptyAll) (maxL := 1) (ret := none) (by decide) rfl (Nat.le_of_ble_eq_true rfl) ?_
  intro A p e s m args below meth c ls H locs En0 argsE hP hK hD hE hA hS hl
  obtain ⟨hx, hb, hr, hml, hown, hts, hlocks, hin⟩ := En0
  have hP : va_P D vwCl [(h0, .inr (2, [.ref h1, .int (nI (n 6)), .int (nI (n 7)), .ref h2, .int (nI (n 8)), .int (x 9)]))] H := hP
  have hD : va_D A [(h0, .inr (2, [.ref h1, .int (nI (n 6)), .int (nI (n 7)), .ref h2, .int (nI (n 8)), .int (x 9)]))] := hD
  have hl : lv_has ls 1 [(0, .ref h0)] := hl
  refine lv_aload_n hx hb dX2_emptyAll_0 rfl (lv_at hl 0 rfl) ?_
  refine lv_iconst (v := 0) hx hb dX2_emptyAll_1 (by decide) ?_
  refine va_put (ci := 2) (v := .int 0) (ty := .int) (C := RX2) (T := TX2) (N := 6) hx hb hts in_X2_emptyAll_X2 tyX2 tyX2_ok nmX2 hown hK hP hD hS 0 rfl rfl 1 (by decide) (hts (.fieldLink RX2 22 "SessionFix$Store" "sentCount" "I") (by decide +kernel)) (fun _ h9 => h9) rfl (by decide +kernel) rfl rfl (Nat.le_of_ble_eq_true rfl) dX2_emptyAll_2 (fun H locs hP hD hS => ?_)
  have hP : va_P D vwCl [(h0, .inr (2, [.ref h1, .int (nI 0), .int (nI (n 7)), .ref h2, .int (nI (n 8)), .int (x 9)]))] H := hP
  have hD : va_D A [(h0, .inr (2, [.ref h1, .int (nI 0), .int (nI (n 7)), .ref h2, .int (nI (n 8)), .int (x 9)]))] := hD
  refine lv_aload_n hx hb dX2_emptyAll_5 rfl (lv_at hl 0 rfl) ?_
  refine lv_iconst (v := 1) hx hb dX2_emptyAll_6 (by decide) ?_
  refine va_put (ci := 2) (v := .int 1) (ty := .int) (C := RX2) (T := TX2) (N := 6) hx hb hts in_X2_emptyAll_X2 tyX2 tyX2_ok nmX2 hown hK hP hD hS 0 rfl rfl 2 (by decide) (hts (.fieldLink RX2 15 "SessionFix$Store" "expects" "I") (by decide +kernel)) (fun _ h9 => h9) rfl (by decide +kernel) rfl rfl (Nat.le_of_ble_eq_true rfl) dX2_emptyAll_7 (fun H locs hP hD hS => ?_)
  have hP : va_P D vwCl [(h0, .inr (2, [.ref h1, .int (nI 0), .int (nI 1), .ref h2, .int (nI (n 8)), .int (x 9)]))] H := hP
  have hD : va_D A [(h0, .inr (2, [.ref h1, .int (nI 0), .int (nI 1), .ref h2, .int (nI (n 8)), .int (x 9)]))] := hD
  refine lv_aload_n hx hb dX2_emptyAll_10 rfl (lv_at hl 0 rfl) ?_
  refine lv_iconst (v := 0) hx hb dX2_emptyAll_11 (by decide) ?_
  refine va_put (ci := 2) (v := .int 0) (ty := .int) (C := RX2) (T := TX2) (N := 6) hx hb hts in_X2_emptyAll_X2 tyX2 tyX2_ok nmX2 hown hK hP hD hS 0 rfl rfl 4 (by decide) (hts (.fieldLink RX2 25 "SessionFix$Store" "keyCount" "I") (by decide +kernel)) (fun _ h9 => h9) rfl (by decide +kernel) rfl rfl (Nat.le_of_ble_eq_true rfl) dX2_emptyAll_12 (fun H locs hP hD hS => ?_)
  have hP : va_P D vwCl [(h0, .inr (2, [.ref h1, .int (nI 0), .int (nI 1), .ref h2, .int (nI 0), .int (x 9)]))] H := hP
  have hD : va_D A [(h0, .inr (2, [.ref h1, .int (nI 0), .int (nI 1), .ref h2, .int (nI 0), .int (x 9)]))] := hD
  refine lv_aload_n hx hb dX2_emptyAll_15 rfl (lv_at hl 0 rfl) ?_
  refine lv_iconst (v := 0) hx hb dX2_emptyAll_16 (by decide) ?_
  refine va_put (ci := 2) (v := .int 0) (ty := .int) (C := RX2) (T := TX2) (N := 6) hx hb hts in_X2_emptyAll_X2 tyX2 tyX2_ok nmX2 hown hK hP hD hS 0 rfl rfl 5 (by decide) (hts (.fieldLink RX2 28 "SessionFix$Store" "doubleCount" "I") (by decide +kernel)) (fun _ h9 => h9) rfl (by decide +kernel) rfl rfl (Nat.le_of_ble_eq_true rfl) dX2_emptyAll_17 (fun H locs hP hD hS => ?_)
  have hP : va_P D vwCl [(h0, .inr (2, [.ref h1, .int (nI 0), .int (nI 1), .ref h2, .int (nI 0), .int 0]))] H := hP
  have hD : va_D A [(h0, .inr (2, [.ref h1, .int (nI 0), .int (nI 1), .ref h2, .int (nI 0), .int 0]))] := hD
  exact W.vret hx hb hr (fun t ht hW => lfv trivial hP hK hD hS ht hW) hS.2.2 dX2_emptyAll_20 hlocks
set_option maxRecDepth 20000 in
theorem in_X2_sentAt_X2 : ∀ w ∈ u_ws RX2 TX2 6, w ∈ wsX2_sentAt := by decide +kernel
set_option maxHeartbeats 4000000 in
set_option maxRecDepth 100000 in
theorem c_X2_sentAt (l : Launch) (D : va_G) (sz : Nat) (cI : ClassId) (h0 : Nat) (h1 : Nat) (h2 : Nat) (x : Nat → Int32) (n : Nat → Nat) (a : Nat → Nat → Nat) (j : Nat) (hj1 : 1 ≤ j) (hj2 : j ≤ 200) : CT l yX2_sentAt wsX2_sentAt ({ frames := 0, cells := 0, slots := 0, locals := 0 }) false D ([(cI, .int)]) [(h0, .inr (2, [.ref h1, .int (nI (n 6)), .int (nI (n 7)), .ref h2, .int (nI (n 8)), .int (x 9)])), (h1, .inl (cI, 200, .inl (ni (a 0))))] sz [.ref h0, .int (nI j)] (qi D ([(cI, .int)]) (fun r => r = nI ((a 0) (j - 1))) [(h0, .inr (2, [.ref h1, .int (nI (n 6)), .int (nI (n 7)), .ref h2, .int (nI (n 8)), .int (x 9)])), (h1, .inl (cI, 200, .inl (ni (a 0))))]) 0 0 := by
  refine CT.of (cc := cX2_sentAt) (maxL := 2) (ret := (some .int)) (by decide) rfl (Nat.le_of_ble_eq_true rfl) ?_
  intro A p e s m args below meth c ls H locs En0 argsE hP hK hD hE hA hS hl
  obtain ⟨hx, hb, hr, hml, hown, hts, hlocks, hin⟩ := En0
  have hP : va_P D vwCl [(h0, .inr (2, [.ref h1, .int (nI (n 6)), .int (nI (n 7)), .ref h2, .int (nI (n 8)), .int (x 9)])), (h1, .inl (cI, 200, .inl (ni (a 0))))] H := hP
  have hD : va_D A [(h0, .inr (2, [.ref h1, .int (nI (n 6)), .int (nI (n 7)), .ref h2, .int (nI (n 8)), .int (x 9)])), (h1, .inl (cI, 200, .inl (ni (a 0))))] := hD
  have hl : lv_has ls 2 [(0, .ref h0), (1, .int (nI j))] := hl
  refine lv_iload_n hx hb dX2_sentAt_0 rfl (lv_at hl 1 rfl) ?_
  refine lv_iconst (v := 1) hx hb dX2_sentAt_1 (by decide) ?_
  refine lv_icmp_lt (tgt := 14) hx hb dX2_sentAt_2 (by decide) (fun c_1 => ?_) (fun c_1 => ?_)
  · replace c_1 : j < 1 := (nI_ltI (a := j) (b := 1) (by omega) (by omega)).mp c_1
    exfalso; omega
  · replace c_1 : ¬ (j < 1) := fun z => c_1 ((nI_ltI (a := j) (b := 1) (by omega) (by omega)).mpr z)
    refine lv_iload_n hx hb dX2_sentAt_5 rfl (lv_at hl 1 rfl) ?_
    refine lv_aload_n hx hb dX2_sentAt_6 rfl (lv_at hl 0 rfl) ?_
    refine va_get (ci := 2) (v := .ref h1) (C := RX2) (T := TX2) (N := 6) hx hb hts in_X2_sentAt_X2 hown hK hP 0 rfl rfl 0 (by decide) (hts (.fieldLink RX2 9 "SessionFix$Store" "sent" "[I") (by decide +kernel)) (fun _ h9 => h9) rfl dX2_sentAt_7 ?_
    refine va_alen (v := 200) hx hb hK hP 1 0 rfl rfl rfl dX2_sentAt_10 ?_
    refine lv_icmp_le (tgt := 16) hx hb dX2_sentAt_11 (by decide) (fun c_2 => ?_) (fun c_2 => ?_)
    · replace c_2 : j ≤ 200 := (nI_leI (a := j) (b := 200) (by omega) (by omega)).mp c_2
      refine lv_aload_n hx hb dX2_sentAt_16 rfl (lv_at hl 0 rfl) ?_
      refine va_get (ci := 2) (v := .ref h1) (C := RX2) (T := TX2) (N := 6) hx hb hts in_X2_sentAt_X2 hown hK hP 0 rfl rfl 0 (by decide) (hts (.fieldLink RX2 9 "SessionFix$Store" "sent" "[I") (by decide +kernel)) (fun _ h9 => h9) rfl dX2_sentAt_17 ?_
      refine lv_iload_n hx hb dX2_sentAt_20 rfl (lv_at hl 1 rfl) ?_
      refine lv_iconst (v := 1) hx hb dX2_sentAt_21 (by decide) ?_
      refine lv_isub hx hb dX2_sentAt_22 ?_
      refine tp (show (nI j) - 1 = nI (j - 1) from pk_sub (a := j) (b := 1) (by omega)) ?_
      refine ild (k := (j - 1)) hx hb hK hP 1 0 (by omega) (by omega) rfl rfl dX2_sentAt_23 ?_
      exact W.iret (v := nI ((a 0) (j - 1))) hx hb hr (fun t ht hW => lfe rfl hP hK hD hS ht hW) hS.2.2 dX2_sentAt_24 hlocks
    · replace c_2 : ¬ (j ≤ 200) := fun z => c_2 ((nI_leI (a := j) (b := 200) (by omega) (by omega)).mpr z)
      exfalso; omega
set_option maxRecDepth 20000 in
theorem in_X2_hasBusiness_X2 : ∀ w ∈ u_ws RX2 TX2 6, w ∈ wsX2_hasBusiness := by decide +kernel
set_option maxHeartbeats 4000000 in
set_option maxRecDepth 100000 in
theorem c_X2_hasBusiness (l : Launch) (D : va_G) (sz : Nat) (cI : ClassId) (h0 : Nat) (h1 : Nat) (h2 : Nat) (x : Nat → Int32) (n : Nat → Nat) (a : Nat → Nat → Nat) (j : Nat) (hbd : bd n) (hba : ba a) (hj : j < 2 ^ 31) : CT l yX2_hasBusiness wsX2_hasBusiness ({ frames := 1, cells := 0, slots := 0, locals := 21 }) false D ([(cI, .int)]) [(h0, .inr (2, [.ref h1, .int (nI (n 6)), .int (nI (n 7)), .ref h2, .int (nI (n 8)), .int (x 9)])), (h1, .inl (cI, 200, .inl (ni (a 0))))] sz [.ref h0, .int (nI j)] (qi D ([(cI, .int)]) (fun r => r = b2i (hasB (n 6) (a 0) (j))) [(h0, .inr (2, [.ref h1, .int (nI (n 6)), .int (nI (n 7)), .ref h2, .int (nI (n 8)), .int (x 9)])), (h1, .inl (cI, 200, .inl (ni (a 0))))]) 0 0 := by
  refine CT.of (cc := cX2_hasBusiness) (maxL := 2) (ret := (some .boolean)) (by decide) rfl (Nat.le_of_ble_eq_true rfl) ?_
  intro A p e s m args below meth c ls H locs En0 argsE hP hK hD hE hA hS hl
  obtain ⟨hx, hb, hr, hml, hown, hts, hlocks, hin⟩ := En0
  have hP : va_P D vwCl [(h0, .inr (2, [.ref h1, .int (nI (n 6)), .int (nI (n 7)), .ref h2, .int (nI (n 8)), .int (x 9)])), (h1, .inl (cI, 200, .inl (ni (a 0))))] H := hP
  have hD : va_D A [(h0, .inr (2, [.ref h1, .int (nI (n 6)), .int (nI (n 7)), .ref h2, .int (nI (n 8)), .int (x 9)])), (h1, .inl (cI, 200, .inl (ni (a 0))))] := hD
  have hl : lv_has ls 2 [(0, .ref h0), (1, .int (nI j))] := hl
  obtain ⟨hb6, hb7, hb8, hb10⟩ := id hbd
  refine lv_iload_n hx hb dX2_hasBusiness_0 rfl (lv_at hl 1 rfl) ?_
  refine lv_iconst (v := 1) hx hb dX2_hasBusiness_1 (by decide) ?_
  refine lv_icmp_lt (tgt := 29) hx hb dX2_hasBusiness_2 (by decide) (fun c_1 => ?_) (fun c_1 => ?_)
  · replace c_1 : j < 1 := (nI_ltI (a := j) (b := 1) (by omega) (by omega)).mp c_1
    refine lv_iconst (v := 0) hx hb dX2_hasBusiness_29 (by decide) ?_
    exact W.zret (v := 0) hx hb hr rfl (fun t ht hW => lfe (b2i_f (by unfold hasB; omega)) hP hK hD hS ht hW) hS.2.2 dX2_hasBusiness_30 hlocks
  · replace c_1 : ¬ (j < 1) := fun z => c_1 ((nI_ltI (a := j) (b := 1) (by omega) (by omega)).mpr z)
    refine lv_iload_n hx hb dX2_hasBusiness_5 rfl (lv_at hl 1 rfl) ?_
    refine lv_aload_n hx hb dX2_hasBusiness_6 rfl (lv_at hl 0 rfl) ?_
    refine va_get (ci := 2) (v := .int (nI (n 6))) (C := RX2) (T := TX2) (N := 6) hx hb hts in_X2_hasBusiness_X2 hown hK hP 0 rfl rfl 1 (by decide) (hts (.fieldLink RX2 22 "SessionFix$Store" "sentCount" "I") (by decide +kernel)) (fun _ h9 => h9) rfl dX2_hasBusiness_7 ?_
    refine lv_icmp_gt (tgt := 29) hx hb dX2_hasBusiness_10 (by decide) (fun c_2 => ?_) (fun c_2 => ?_)
    · replace c_2 : (n 6) < j := (nI_ltI (a := (n 6)) (b := j) (by omega) (by omega)).mp c_2
      refine lv_iconst (v := 0) hx hb dX2_hasBusiness_29 (by decide) ?_
      exact W.zret (v := 0) hx hb hr rfl (fun t ht hW => lfe (b2i_f (by unfold hasB; omega)) hP hK hD hS ht hW) hS.2.2 dX2_hasBusiness_30 hlocks
    · replace c_2 : ¬ ((n 6) < j) := fun z => c_2 ((nI_ltI (a := (n 6)) (b := j) (by omega) (by omega)).mpr z)
      refine lv_aload_n hx hb dX2_hasBusiness_13 rfl (lv_at hl 0 rfl) ?_
      refine lv_iload_n hx hb dX2_hasBusiness_14 rfl (lv_at hl 1 rfl) ?_
      have hPc := hP
      have hDc := hD
      have hFc := va_free (wc := [(h0, .inr (2, [.ref h1, .int (nI (n 6)), .int (nI (n 7)), .ref h2, .int (nI (n 8)), .int (x 9)])), (h1, .inl (cI, 200, .inl (ni (a 0))))]) hD hS hA [0, 1] rfl
      refine va_calli (va_runV (As := [.int (nI j)]) (rest := []) ⟨hx, hb, hml, hown, hts⟩ (c_X2_sentAt l D H.size cI h0 h1 h2 x n a j (by omega) (by omega)) (cwV 1 hts gX2_hasBusiness_X2_sentAt rfl rfl rfl (by decide +kernel) ⟨Nat.le_of_ble_eq_true rfl, Nat.le_of_ble_eq_true rfl⟩) ⟨pcs_blind, va_recv hK hP (ci := 2) (q0 := 0) rfl rfl, (pcs_pre (fun h => h) hE hS hPc hK hDc hFc)⟩ rfl rfl hl.1 rfl (lv_room (Nat.le_of_ble_eq_true rfl)) dX2_hasBusiness_15 ⟨Nat.le_of_ble_eq_true rfl, Nat.le_of_ble_eq_true rfl⟩) hS (fun q _ h => hFc q h) hFc (fun r_3 u t H1 locs1 ht hvm hw hB hz1 hk1 hS => ?_)
      have hw : r_3 = nI ((a 0) (j - 1)) := hw
      subst hw
      obtain ⟨hP, hD⟩ := aftW hFc ht hB
      clear hPc hDc hFc hk1 ht hB hz1 hvm
      generalize H1 = H at hP hS ⊢
      have hP : va_P D vwCl [(h0, .inr (2, [.ref h1, .int (nI (n 6)), .int (nI (n 7)), .ref h2, .int (nI (n 8)), .int (x 9)])), (h1, .inl (cI, 200, .inl (ni (a 0))))] H := hP
      have hD : va_D A [(h0, .inr (2, [.ref h1, .int (nI (n 6)), .int (nI (n 7)), .ref h2, .int (nI (n 8)), .int (x 9)])), (h1, .inl (cI, 200, .inl (ni (a 0))))] := hD
      have hv := hba 0 (j - 1)
      have hPc := hP.sub (ws' := []) [] rfl
      have hDc := hD.sub (ws' := []) [] (by decide) rfl
      have hFc := va_free (wc := []) hD hS hA [] rfl
      refine va_calli (va_runS (As := [.int (nI ((a 0) (j - 1)))]) (rest := []) ⟨hx, hb, hml, hown, hts⟩ (c_X0_kindOf l D H.size cI ((a 0) (j - 1)) (by omega)) (va_cwS 1 hts gX2_hasBusiness_X0_kindOf rfl rfl rfl (by decide +kernel) ⟨Nat.le_of_ble_eq_true rfl, Nat.le_of_ble_eq_true rfl⟩) ⟨pcs_blind, (pcs_pre (fun h => h) hE hS hPc hK hDc hFc)⟩ rfl rfl hl.1 rfl (lv_room (Nat.le_of_ble_eq_true rfl)) dX2_hasBusiness_18 ⟨Nat.le_of_ble_eq_true rfl, Nat.le_of_ble_eq_true rfl⟩) hS (fun q _ h => hFc q h) hFc (fun r_4 u t H1 locs1 ht hvm hw hB hz1 hk1 hS => ?_)
      have hw : r_4 = nI (kd ((a 0) (j - 1))) := hw
      subst hw
      obtain ⟨hP, hD⟩ := aft (wr := [(h0, .inr (2, [.ref h1, .int (nI (n 6)), .int (nI (n 7)), .ref h2, .int (nI (n 8)), .int (x 9)])), (h1, .inl (cI, 200, .inl (ni (a 0))))]) (w1 := []) (w2 := [(h0, .inr (2, [.ref h1, .int (nI (n 6)), .int (nI (n 7)), .ref h2, .int (nI (n 8)), .int (x 9)])), (h1, .inl (cI, 200, .inl (ni (a 0))))]) hP hD [] [0, 1] [0, 1] rfl rfl (by decide) (by decide) hFc hk1 ht hB rfl (by decide) rfl
      clear hPc hDc hFc hk1 ht hB hz1 hvm
      generalize H1 = H at hP hS ⊢
      have hP : va_P D vwCl [(h0, .inr (2, [.ref h1, .int (nI (n 6)), .int (nI (n 7)), .ref h2, .int (nI (n 8)), .int (x 9)])), (h1, .inl (cI, 200, .inl (ni (a 0))))] H := hP
      have hD : va_D A [(h0, .inr (2, [.ref h1, .int (nI (n 6)), .int (nI (n 7)), .ref h2, .int (nI (n 8)), .int (x 9)])), (h1, .inl (cI, 200, .inl (ni (a 0))))] := hD
      have hf_5 : kd ((a 0) (j - 1)) < 8 := kd_lt _
      refine lv_iconst (v := 5) hx hb dX2_hasBusiness_21 (by decide) ?_
      refine lv_icmp_ne (tgt := 29) hx hb dX2_hasBusiness_22 (by decide) (fun c_6 => ?_) (fun c_6 => ?_)
      · replace c_6 : ¬ ((kd ((a 0) (j - 1))) = 5) := fun z => c_6 ((nI_eq (a := (kd ((a 0) (j - 1)))) (b := 5) (by omega) (by omega)).mpr z)
        refine lv_iconst (v := 0) hx hb dX2_hasBusiness_29 (by decide) ?_
        exact W.zret (v := 0) hx hb hr rfl (fun t ht hW => lfe (b2i_f (by unfold hasB; omega)) hP hK hD hS ht hW) hS.2.2 dX2_hasBusiness_30 hlocks
      · replace c_6 : (kd ((a 0) (j - 1))) = 5 := (nI_eq (a := (kd ((a 0) (j - 1)))) (b := 5) (by omega) (by omega)).mp c_6
        refine lv_iconst (v := 1) hx hb dX2_hasBusiness_25 (by decide) ?_
        refine lv_goto (tgt := 30) hx hb dX2_hasBusiness_26 (by decide) ?_
        exact W.zret (v := 1) hx hb hr rfl (fun t ht hW => lfe (b2i_t (by unfold hasB; omega)) hP hK hD hS ht hW) hS.2.2 dX2_hasBusiness_30 hlocks
set_option maxRecDepth 20000 in
theorem in_X2_addKey_X2 : ∀ w ∈ u_ws RX2 TX2 6, w ∈ wsX2_addKey := by decide +kernel
set_option maxHeartbeats 4000000 in
set_option maxRecDepth 100000 in
theorem c_X2_addKey (l : Launch) (D : va_G) (sz : Nat) (cI : ClassId) (h0 : Nat) (h1 : Nat) (h2 : Nat) (x : Nat → Int32) (n : Nat → Nat) (a : Nat → Nat → Nat) (v : Nat) (hbd : bd n) : CT l yX2_addKey wsX2_addKey ({ frames := 0, cells := 0, slots := 0, locals := 0 }) false D ([(cI, .int)]) [(h0, .inr (2, [.ref h1, .int (nI (n 6)), .int (nI (n 7)), .ref h2, .int (nI (n 8)), .int (x 9)])), (h2, .inl (cI, 200, .inl (ni (a 1))))] sz [.ref h0, .int (nI v)] (qv D ([(cI, .int)]) (True) [(h0, .inr (2, [.ref h1, .int (nI (n 6)), .int (nI (n 7)), .ref h2, .int (nI ((cApp 200 (n 8) (a 1) v).1)), .int (x 9)])), (h2, .inl (cI, 200, .inl (ni ((cApp 200 (n 8) (a 1) v).2))))]) 0 0 := by
  refine CT.of (cc := cX2_addKey) (maxL := 2) (ret := none) (by decide) rfl (Nat.le_of_ble_eq_true rfl) ?_
  intro A p e s m args below meth c ls H locs En0 argsE hP hK hD hE hA hS hl
  obtain ⟨hx, hb, hr, hml, hown, hts, hlocks, hin⟩ := En0
  have hP : va_P D vwCl [(h0, .inr (2, [.ref h1, .int (nI (n 6)), .int (nI (n 7)), .ref h2, .int (nI (n 8)), .int (x 9)])), (h2, .inl (cI, 200, .inl (ni (a 1))))] H := hP
  have hD : va_D A [(h0, .inr (2, [.ref h1, .int (nI (n 6)), .int (nI (n 7)), .ref h2, .int (nI (n 8)), .int (x 9)])), (h2, .inl (cI, 200, .inl (ni (a 1))))] := hD
  have hl : lv_has ls 2 [(0, .ref h0), (1, .int (nI v))] := hl
  obtain ⟨hb6, hb7, hb8, hb10⟩ := id hbd
  refine lv_aload_n hx hb dX2_addKey_0 rfl (lv_at hl 0 rfl) ?_
  refine va_get (ci := 2) (v := .int (nI (n 8))) (C := RX2) (T := TX2) (N := 6) hx hb hts in_X2_addKey_X2 hown hK hP 0 rfl rfl 4 (by decide) (hts (.fieldLink RX2 25 "SessionFix$Store" "keyCount" "I") (by decide +kernel)) (fun _ h9 => h9) rfl dX2_addKey_1 ?_
  refine lv_if_lt (tgt := 39) hx hb dX2_addKey_4 (by decide) (fun c_1 => ?_) (fun c_1 => ?_)
  · exact absurd c_1 (nI_pos (n := (n 8)) (by omega))
  · refine lv_aload_n hx hb dX2_addKey_7 rfl (lv_at hl 0 rfl) ?_
    refine va_get (ci := 2) (v := .int (nI (n 8))) (C := RX2) (T := TX2) (N := 6) hx hb hts in_X2_addKey_X2 hown hK hP 0 rfl rfl 4 (by decide) (hts (.fieldLink RX2 25 "SessionFix$Store" "keyCount" "I") (by decide +kernel)) (fun _ h9 => h9) rfl dX2_addKey_8 ?_
    refine lv_aload_n hx hb dX2_addKey_11 rfl (lv_at hl 0 rfl) ?_
    refine va_get (ci := 2) (v := .ref h2) (C := RX2) (T := TX2) (N := 6) hx hb hts in_X2_addKey_X2 hown hK hP 0 rfl rfl 3 (by decide) (hts (.fieldLink RX2 19 "SessionFix$Store" "keys" "[I") (by decide +kernel)) (fun _ h9 => h9) rfl dX2_addKey_12 ?_
    refine va_alen (v := 200) hx hb hK hP 1 0 rfl rfl rfl dX2_addKey_15 ?_
    refine lv_icmp_ge (tgt := 39) hx hb dX2_addKey_16 (by decide) (fun c_2 => ?_) (fun c_2 => ?_)
    · replace c_2 : 200 ≤ (n 8) := (nI_leI (a := 200) (b := (n 8)) (by omega) (by omega)).mp c_2
      have eF : cApp 200 (n 8) (a 1) v = (n 8, a 1) := by
        simp only [cApp, if_pos c_2] <;> rfl
      exact W.vret hx hb hr (fun t ht hW => lfv trivial (by rw [eF]; exact hP) hK (by rw [eF]; exact hD) hS ht hW) hS.2.2 dX2_addKey_39 hlocks
    · replace c_2 : ¬ (200 ≤ (n 8)) := fun z => c_2 ((nI_leI (a := 200) (b := (n 8)) (by omega) (by omega)).mpr z)
      refine lv_aload_n hx hb dX2_addKey_19 rfl (lv_at hl 0 rfl) ?_
      refine va_get (ci := 2) (v := .ref h2) (C := RX2) (T := TX2) (N := 6) hx hb hts in_X2_addKey_X2 hown hK hP 0 rfl rfl 3 (by decide) (hts (.fieldLink RX2 19 "SessionFix$Store" "keys" "[I") (by decide +kernel)) (fun _ h9 => h9) rfl dX2_addKey_20 ?_
      refine lv_aload_n hx hb dX2_addKey_23 rfl (lv_at hl 0 rfl) ?_
      refine va_get (ci := 2) (v := .int (nI (n 8))) (C := RX2) (T := TX2) (N := 6) hx hb hts in_X2_addKey_X2 hown hK hP 0 rfl rfl 4 (by decide) (hts (.fieldLink RX2 25 "SessionFix$Store" "keyCount" "I") (by decide +kernel)) (fun _ h9 => h9) rfl dX2_addKey_24 ?_
      refine lv_iload_n hx hb dX2_addKey_27 rfl (lv_at hl 1 rfl) ?_
      refine ist (k := (n 8)) (v := v) hx hb hK hP hD hS 1 0 (by omega) (by omega) rfl rfl dX2_addKey_28 (fun H locs hP hD hS => ?_)
      have hP : va_P D vwCl [(h0, .inr (2, [.ref h1, .int (nI (n 6)), .int (nI (n 7)), .ref h2, .int (nI (n 8)), .int (x 9)])), (h2, .inl (cI, 200, .inl (ni (va_up (a 1) (n 8) v))))] H := hP
      have hD : va_D A [(h0, .inr (2, [.ref h1, .int (nI (n 6)), .int (nI (n 7)), .ref h2, .int (nI (n 8)), .int (x 9)])), (h2, .inl (cI, 200, .inl (ni (va_up (a 1) (n 8) v))))] := hD
      refine lv_aload_n hx hb dX2_addKey_29 rfl (lv_at hl 0 rfl) ?_
      refine lv_dup hx hb dX2_addKey_30 rfl ?_
      refine va_get (ci := 2) (v := .int (nI (n 8))) (C := RX2) (T := TX2) (N := 6) hx hb hts in_X2_addKey_X2 hown hK hP 0 rfl rfl 4 (by decide) (hts (.fieldLink RX2 25 "SessionFix$Store" "keyCount" "I") (by decide +kernel)) (fun _ h9 => h9) rfl dX2_addKey_31 ?_
      refine lv_iconst (v := 1) hx hb dX2_addKey_34 (by decide) ?_
      refine lv_iadd hx hb dX2_addKey_35 ?_
      refine tp (show (nI (n 8)) + 1 = nI ((n 8) + 1) from nI_add (n 8) 1) ?_
      refine va_put (ci := 2) (v := .int (nI ((n 8) + 1))) (ty := .int) (C := RX2) (T := TX2) (N := 6) hx hb hts in_X2_addKey_X2 tyX2 tyX2_ok nmX2 hown hK hP hD hS 0 rfl rfl 4 (by decide) (hts (.fieldLink RX2 25 "SessionFix$Store" "keyCount" "I") (by decide +kernel)) (fun _ h9 => h9) rfl (by decide +kernel) rfl rfl (Nat.le_of_ble_eq_true rfl) dX2_addKey_36 (fun H locs hP hD hS => ?_)
      have hP : va_P D vwCl [(h0, .inr (2, [.ref h1, .int (nI (n 6)), .int (nI (n 7)), .ref h2, .int (nI ((n 8) + 1)), .int (x 9)])), (h2, .inl (cI, 200, .inl (ni (va_up (a 1) (n 8) v))))] H := hP
      have hD : va_D A [(h0, .inr (2, [.ref h1, .int (nI (n 6)), .int (nI (n 7)), .ref h2, .int (nI ((n 8) + 1)), .int (x 9)])), (h2, .inl (cI, 200, .inl (ni (va_up (a 1) (n 8) v))))] := hD
      have eF : cApp 200 (n 8) (a 1) v = (((n 8) + 1), (va_up (a 1) (n 8) v)) := by
        simp only [cApp, if_neg c_2] <;> rfl
      exact W.vret hx hb hr (fun t ht hW => lfv trivial (by rw [eF]; exact hP) hK (by rw [eF]; exact hD) hS ht hW) hS.2.2 dX2_addKey_39 hlocks
set_option maxRecDepth 20000 in
theorem in_X2_keyAt_X2 : ∀ w ∈ u_ws RX2 TX2 6, w ∈ wsX2_keyAt := by decide +kernel
set_option maxHeartbeats 4000000 in
set_option maxRecDepth 100000 in
theorem c_X2_keyAt (l : Launch) (D : va_G) (sz : Nat) (cI : ClassId) (h0 : Nat) (h1 : Nat) (h2 : Nat) (x : Nat → Int32) (n : Nat → Nat) (a : Nat → Nat → Nat) (j : Nat) (hj : j < 200) : CT l yX2_keyAt wsX2_keyAt ({ frames := 0, cells := 0, slots := 0, locals := 0 }) false D ([(cI, .int)]) [(h0, .inr (2, [.ref h1, .int (nI (n 6)), .int (nI (n 7)), .ref h2, .int (nI (n 8)), .int (x 9)])), (h2, .inl (cI, 200, .inl (ni (a 1))))] sz [.ref h0, .int (nI j)] (qi D ([(cI, .int)]) (fun r => r = nI ((a 1) j)) [(h0, .inr (2, [.ref h1, .int (nI (n 6)), .int (nI (n 7)), .ref h2, .int (nI (n 8)), .int (x 9)])), (h2, .inl (cI, 200, .inl (ni (a 1))))]) 0 0 := by
  refine CT.of (cc := cX2_keyAt) (maxL := 2) (ret := (some .int)) (by decide) rfl (Nat.le_of_ble_eq_true rfl) ?_
  intro A p e s m args below meth c ls H locs En0 argsE hP hK hD hE hA hS hl
  obtain ⟨hx, hb, hr, hml, hown, hts, hlocks, hin⟩ := En0
  have hP : va_P D vwCl [(h0, .inr (2, [.ref h1, .int (nI (n 6)), .int (nI (n 7)), .ref h2, .int (nI (n 8)), .int (x 9)])), (h2, .inl (cI, 200, .inl (ni (a 1))))] H := hP
  have hD : va_D A [(h0, .inr (2, [.ref h1, .int (nI (n 6)), .int (nI (n 7)), .ref h2, .int (nI (n 8)), .int (x 9)])), (h2, .inl (cI, 200, .inl (ni (a 1))))] := hD
  have hl : lv_has ls 2 [(0, .ref h0), (1, .int (nI j))] := hl
  refine lv_iload_n hx hb dX2_keyAt_0 rfl (lv_at hl 1 rfl) ?_
  refine lv_if_lt (tgt := 13) hx hb dX2_keyAt_1 (by decide) (fun c_1 => ?_) (fun c_1 => ?_)
  · exact absurd c_1 (nI_pos (n := j) (by omega))
  · refine lv_iload_n hx hb dX2_keyAt_4 rfl (lv_at hl 1 rfl) ?_
    refine lv_aload_n hx hb dX2_keyAt_5 rfl (lv_at hl 0 rfl) ?_
    refine va_get (ci := 2) (v := .ref h2) (C := RX2) (T := TX2) (N := 6) hx hb hts in_X2_keyAt_X2 hown hK hP 0 rfl rfl 3 (by decide) (hts (.fieldLink RX2 19 "SessionFix$Store" "keys" "[I") (by decide +kernel)) (fun _ h9 => h9) rfl dX2_keyAt_6 ?_
    refine va_alen (v := 200) hx hb hK hP 1 0 rfl rfl rfl dX2_keyAt_9 ?_
    refine lv_icmp_lt (tgt := 15) hx hb dX2_keyAt_10 (by decide) (fun c_2 => ?_) (fun c_2 => ?_)
    · replace c_2 : j < 200 := (nI_ltI (a := j) (b := 200) (by omega) (by omega)).mp c_2
      refine lv_aload_n hx hb dX2_keyAt_15 rfl (lv_at hl 0 rfl) ?_
      refine va_get (ci := 2) (v := .ref h2) (C := RX2) (T := TX2) (N := 6) hx hb hts in_X2_keyAt_X2 hown hK hP 0 rfl rfl 3 (by decide) (hts (.fieldLink RX2 19 "SessionFix$Store" "keys" "[I") (by decide +kernel)) (fun _ h9 => h9) rfl dX2_keyAt_16 ?_
      refine lv_iload_n hx hb dX2_keyAt_19 rfl (lv_at hl 1 rfl) ?_
      refine ild (k := j) hx hb hK hP 1 0 (by omega) (by omega) rfl rfl dX2_keyAt_20 ?_
      exact W.iret (v := nI ((a 1) j)) hx hb hr (fun t ht hW => lfe rfl hP hK hD hS ht hW) hS.2.2 dX2_keyAt_21 hlocks
    · replace c_2 : ¬ (j < 200) := fun z => c_2 ((nI_ltI (a := j) (b := 200) (by omega) (by omega)).mpr z)
      exfalso; omega
set_option maxRecDepth 20000 in
theorem in_X2_hasHandled_X2 : ∀ w ∈ u_ws RX2 TX2 6, w ∈ wsX2_hasHandled := by decide +kernel
set_option maxHeartbeats 4000000 in
set_option maxRecDepth 100000 in
theorem c_X2_hasHandled (l : Launch) (D : va_G) (sz : Nat) (cI : ClassId) (h0 : Nat) (h1 : Nat) (h2 : Nat) (x : Nat → Int32) (n : Nat → Nat) (a : Nat → Nat → Nat) (v : Nat) (hbd : bd n) (hba : ba a) (hv : v < 2 ^ 31) : CT l yX2_hasHandled wsX2_hasHandled ({ frames := 1, cells := 0, slots := 0, locals := 21 }) false D ([(cI, .int)]) [(h0, .inr (2, [.ref h1, .int (nI (n 6)), .int (nI (n 7)), .ref h2, .int (nI (n 8)), .int (x 9)])), (h2, .inl (cI, 200, .inl (ni (a 1))))] sz [.ref h0, .int (nI v)] (qi D ([(cI, .int)]) (fun r => r = b2i (∃ k, k < (n 8) ∧ (a 1) k = v)) [(h0, .inr (2, [.ref h1, .int (nI (n 6)), .int (nI (n 7)), .ref h2, .int (nI (n 8)), .int (x 9)])), (h2, .inl (cI, 200, .inl (ni (a 1))))]) 0 0 := by
  refine CT.of (cc := cX2_hasHandled) (maxL := 3) (ret := (some .boolean)) (by decide) rfl (Nat.le_of_ble_eq_true rfl) ?_
  intro A p e s m args below meth c ls H locs En0 argsE hP hK hD hE hA hS hl
  obtain ⟨hx, hb, hr, hml, hown, hts, hlocks, hin⟩ := En0
  have hP : va_P D vwCl [(h0, .inr (2, [.ref h1, .int (nI (n 6)), .int (nI (n 7)), .ref h2, .int (nI (n 8)), .int (x 9)])), (h2, .inl (cI, 200, .inl (ni (a 1))))] H := hP
  have hD : va_D A [(h0, .inr (2, [.ref h1, .int (nI (n 6)), .int (nI (n 7)), .ref h2, .int (nI (n 8)), .int (x 9)])), (h2, .inl (cI, 200, .inl (ni (a 1))))] := hD
  have hl : lv_has ls 3 [(0, .ref h0), (1, .int (nI v))] := hl
  obtain ⟨hb6, hb7, hb8, hb10⟩ := id hbd
  refine lv_iconst (v := 0) hx hb dX2_hasHandled_0 (by decide) ?_
  refine lv_istore_n (lv' := [(2, .int 0), (0, .ref h0), (1, .int (nI v))]) hx hb dX2_hasHandled_1 rfl hl (by decide) rfl (fun ls hl => ?_)
  have loop : ∀ (fuel : Nat) (i : Nat) (hno : ∀ k, k < i → ¬ a 1 k = v) (hi : i ≤ n 8) (hm : n 8 - i < fuel) (H : Heap) (locs : List Loc), va_P D vwCl [(h0, .inr (2, [.ref h1, .int (nI (n 6)), .int (nI (n 7)), .ref h2, .int (nI (n 8)), .int (x 9)])), (h2, .inl (cI, 200, .inl (ni (a 1))))] H → va_D A [(h0, .inr (2, [.ref h1, .int (nI (n 6)), .int (nI (n 7)), .ref h2, .int (nI (n 8)), .int (x 9)])), (h2, .inl (cI, 200, .inl (ni (a 1))))] → va_S A s.heap H locs → ∀ (ls : Array Slot), lv_has ls 3 [(0, .ref h0), (1, .int (nI v)), (2, .int (nI i))] → W p l e ({ frames := 1, cells := 0, slots := 0, locals := 21 } : Room) s m args below meth c H locs 0 0 (MQ below ((qi D ([(cI, .int)]) (fun r => r = b2i (∃ k, k < (n 8) ∧ (a 1) k = v)) [(h0, .inr (2, [.ref h1, .int (nI (n 6)), .int (nI (n 7)), .ref h2, .int (nI (n 8)), .int (x 9)])), (h2, .inl (cI, 200, .inl (ni (a 1))))]) A) args s 0 0 A) (F0 m 2 ls []) := by
    intro fuel
    induction fuel with
    | zero => intro i hno hi hm; exact absurd hm (Nat.not_lt_zero _)
    | succ fuel ih =>
      intro i hno hi hm H locs hP hD hS ls hl
      refine lv_iload_n hx hb dX2_hasHandled_2 rfl (lv_at hl 2 rfl) ?_
      refine lv_aload_n hx hb dX2_hasHandled_3 rfl (lv_at hl 0 rfl) ?_
      refine va_get (ci := 2) (v := .int (nI (n 8))) (C := RX2) (T := TX2) (N := 6) hx hb hts in_X2_hasHandled_X2 hown hK hP 0 rfl rfl 4 (by decide) (hts (.fieldLink RX2 25 "SessionFix$Store" "keyCount" "I") (by decide +kernel)) (fun _ h9 => h9) rfl dX2_hasHandled_4 ?_
      refine lv_icmp_ge (tgt := 27) hx hb dX2_hasHandled_7 (by decide) (fun c_1 => ?_) (fun c_1 => ?_)
      · replace c_1 : (n 8) ≤ i := (nI_leI (a := (n 8)) (b := i) (by omega) (by omega)).mp c_1
        refine lv_iconst (v := 0) hx hb dX2_hasHandled_27 (by decide) ?_
        exact W.zret (v := 0) hx hb hr rfl (fun t ht hW => lfe (b2i_f (fun ⟨k, h1, h2⟩ => hno k (by omega) h2)) hP hK hD hS ht hW) hS.2.2 dX2_hasHandled_28 hlocks
      · replace c_1 : ¬ ((n 8) ≤ i) := fun z => c_1 ((nI_leI (a := (n 8)) (b := i) (by omega) (by omega)).mpr z)
        refine lv_aload_n hx hb dX2_hasHandled_10 rfl (lv_at hl 0 rfl) ?_
        refine lv_iload_n hx hb dX2_hasHandled_11 rfl (lv_at hl 2 rfl) ?_
        have hPc := hP
        have hDc := hD
        have hFc := va_free (wc := [(h0, .inr (2, [.ref h1, .int (nI (n 6)), .int (nI (n 7)), .ref h2, .int (nI (n 8)), .int (x 9)])), (h2, .inl (cI, 200, .inl (ni (a 1))))]) hD hS hA [0, 1] rfl
        refine va_calli (va_runV (As := [.int (nI i)]) (rest := []) ⟨hx, hb, hml, hown, hts⟩ (c_X2_keyAt l D H.size cI h0 h1 h2 x n a i (by omega)) (cwV 1 hts gX2_hasHandled_X2_keyAt rfl rfl rfl (by decide +kernel) ⟨Nat.le_of_ble_eq_true rfl, Nat.le_of_ble_eq_true rfl⟩) ⟨pcs_blind, va_recv hK hP (ci := 2) (q0 := 0) rfl rfl, (pcs_pre (fun h => h) hE hS hPc hK hDc hFc)⟩ rfl rfl hl.1 rfl (lv_room (Nat.le_of_ble_eq_true rfl)) dX2_hasHandled_12 ⟨Nat.le_of_ble_eq_true rfl, Nat.le_of_ble_eq_true rfl⟩) hS (fun q _ h => hFc q h) hFc (fun r_2 u t H1 locs1 ht hvm hw hB hz1 hk1 hS => ?_)
        have hw : r_2 = nI ((a 1) i) := hw
        subst hw
        obtain ⟨hP, hD⟩ := aftW hFc ht hB
        clear hPc hDc hFc hk1 ht hB hz1 hvm
        generalize H1 = H at hP hS ⊢
        have hP : va_P D vwCl [(h0, .inr (2, [.ref h1, .int (nI (n 6)), .int (nI (n 7)), .ref h2, .int (nI (n 8)), .int (x 9)])), (h2, .inl (cI, 200, .inl (ni (a 1))))] H := hP
        have hD : va_D A [(h0, .inr (2, [.ref h1, .int (nI (n 6)), .int (nI (n 7)), .ref h2, .int (nI (n 8)), .int (x 9)])), (h2, .inl (cI, 200, .inl (ni (a 1))))] := hD
        have hv2 := hba 1 i
        refine lv_iload_n hx hb dX2_hasHandled_15 rfl (lv_at hl 1 rfl) ?_
        refine lv_icmp_ne (tgt := 21) hx hb dX2_hasHandled_16 (by decide) (fun c_3 => ?_) (fun c_3 => ?_)
        · replace c_3 : ¬ (((a 1) i) = v) := fun z => c_3 ((nI_eq (a := ((a 1) i)) (b := v) (by omega) (by omega)).mpr z)
          refine lv_iinc (v := nI (i + 1)) (lv' := [(2, .int (nI (i + 1))), (0, .ref h0), (1, .int (nI v))]) hx hb dX2_hasHandled_21 hl (k := 2) rfl (show (nI i) + Int32.ofInt 1 = nI (i + 1) from nI_add _ _) (by decide) rfl (fun ls hl => ?_)
          refine lv_goto (tgt := 2) hx hb dX2_hasHandled_24 (by decide) ?_
          exact ih (i + 1) (fun k hk => (Nat.lt_or_ge k i).elim (fun q => hno k q) (fun q => (show k = i by omega) ▸ (by assumption))) (by omega) (by omega) _ _ hP hD hS ls (lv_sub hl [1, 2, 0] rfl)
        · replace c_3 : ((a 1) i) = v := (nI_eq (a := ((a 1) i)) (b := v) (by omega) (by omega)).mp c_3
          refine lv_iconst (v := 1) hx hb dX2_hasHandled_19 (by decide) ?_
          exact W.zret (v := 1) hx hb hr rfl (fun t ht hW => lfe (b2i_t ⟨i, by omega, by assumption⟩) hP hK hD hS ht hW) hS.2.2 dX2_hasHandled_20 hlocks
  exact loop _ 0 (fun k hk => absurd hk (Nat.not_lt_zero k)) (by omega) (Nat.lt_succ_self _) _ _ hP hD hS ls (lv_sub hl [1, 2, 0] rfl)
set_option maxHeartbeats 4000000 in
set_option maxRecDepth 100000 in
theorem c_X2_hasKeyAhead (l : Launch) (D : va_G) (sz : Nat) (cI : ClassId) (h0 : Nat) (h1 : Nat) (h2 : Nat) (x : Nat → Int32) (n : Nat → Nat) (a : Nat → Nat → Nat) (v : Nat) (j : Nat) (hbd : bd n) (hba : ba a) (hv : v < 2 ^ 31) (hj : j < 2 ^ 30) : CT l yX2_hasKeyAhead wsX2_hasKeyAhead ({ frames := 2, cells := 0, slots := 0, locals := 42 }) false D ([(cI, .int)]) [(h0, .inr (2, [.ref h1, .int (nI (n 6)), .int (nI (n 7)), .ref h2, .int (nI (n 8)), .int (x 9)])), (h1, .inl (cI, 200, .inl (ni (a 0))))] sz [.ref h0, .int (nI v), .int (nI j)] (qi D ([(cI, .int)]) (fun r => r = b2i (keyAhead (n 6) (a 0) (v) (j))) [(h0, .inr (2, [.ref h1, .int (nI (n 6)), .int (nI (n 7)), .ref h2, .int (nI (n 8)), .int (x 9)])), (h1, .inl (cI, 200, .inl (ni (a 0))))]) 0 0 := by
  refine CT.of (cc := cX2_hasKeyAhead) (maxL := 4) (ret := (some .boolean)) (by decide) rfl (Nat.le_of_ble_eq_true rfl) ?_
  intro A p e s m args below meth c ls H locs En0 argsE hP hK hD hE hA hS hl
  obtain ⟨hx, hb, hr, hml, hown, hts, hlocks, hin⟩ := En0
  have hP : va_P D vwCl [(h0, .inr (2, [.ref h1, .int (nI (n 6)), .int (nI (n 7)), .ref h2, .int (nI (n 8)), .int (x 9)])), (h1, .inl (cI, 200, .inl (ni (a 0))))] H := hP
  have hD : va_D A [(h0, .inr (2, [.ref h1, .int (nI (n 6)), .int (nI (n 7)), .ref h2, .int (nI (n 8)), .int (x 9)])), (h1, .inl (cI, 200, .inl (ni (a 0))))] := hD
  have hl : lv_has ls 4 [(0, .ref h0), (1, .int (nI v)), (2, .int (nI j))] := hl
  obtain ⟨hb6, hb7, hb8, hb10⟩ := id hbd
  refine lv_iconst (v := 1) hx hb dX2_hasKeyAhead_0 (by decide) ?_
  refine lv_istore_n (lv' := [(3, .int 1), (0, .ref h0), (1, .int (nI v)), (2, .int (nI j))]) hx hb dX2_hasKeyAhead_1 rfl hl (by decide) rfl (fun ls hl => ?_)
  have loop : ∀ (fuel : Nat) (i : Nat) (hno : ∀ k, k < i → ¬ (hasB (n 6) (a 0) k ∧ td (a 0 (k - 1)) = v)) (hi : 1 ≤ i) (hi2 : i < 2 ^ 30 + 1) (hm : j - i < fuel) (H : Heap) (locs : List Loc), va_P D vwCl [(h0, .inr (2, [.ref h1, .int (nI (n 6)), .int (nI (n 7)), .ref h2, .int (nI (n 8)), .int (x 9)])), (h1, .inl (cI, 200, .inl (ni (a 0))))] H → va_D A [(h0, .inr (2, [.ref h1, .int (nI (n 6)), .int (nI (n 7)), .ref h2, .int (nI (n 8)), .int (x 9)])), (h1, .inl (cI, 200, .inl (ni (a 0))))] → va_S A s.heap H locs → ∀ (ls : Array Slot), lv_has ls 4 [(0, .ref h0), (1, .int (nI v)), (2, .int (nI j)), (3, .int (nI i))] → W p l e ({ frames := 2, cells := 0, slots := 0, locals := 42 } : Room) s m args below meth c H locs 0 0 (MQ below ((qi D ([(cI, .int)]) (fun r => r = b2i (keyAhead (n 6) (a 0) (v) (j))) [(h0, .inr (2, [.ref h1, .int (nI (n 6)), .int (nI (n 7)), .ref h2, .int (nI (n 8)), .int (x 9)])), (h1, .inl (cI, 200, .inl (ni (a 0))))]) A) args s 0 0 A) (F0 m 2 ls []) := by
    intro fuel
    induction fuel with
    | zero => intro i hno hi hi2 hm; exact absurd hm (Nat.not_lt_zero _)
    | succ fuel ih =>
      intro i hno hi hi2 hm H locs hP hD hS ls hl
      refine lv_iload_n hx hb dX2_hasKeyAhead_2 rfl (lv_at hl 3 rfl) ?_
      refine lv_iload_n hx hb dX2_hasKeyAhead_3 rfl (lv_at hl 2 rfl) ?_
      refine lv_icmp_ge (tgt := 35) hx hb dX2_hasKeyAhead_4 (by decide) (fun c_1 => ?_) (fun c_1 => ?_)
      · replace c_1 : j ≤ i := (nI_leI (a := j) (b := i) (by omega) (by omega)).mp c_1
        refine lv_iconst (v := 0) hx hb dX2_hasKeyAhead_35 (by decide) ?_
        exact W.zret (v := 0) hx hb hr rfl (fun t ht hW => lfe (b2i_f (fun ⟨k, h1, h2⟩ => hno k (by omega) h2)) hP hK hD hS ht hW) hS.2.2 dX2_hasKeyAhead_36 hlocks
      · replace c_1 : ¬ (j ≤ i) := fun z => c_1 ((nI_leI (a := j) (b := i) (by omega) (by omega)).mpr z)
        refine lv_aload_n hx hb dX2_hasKeyAhead_7 rfl (lv_at hl 0 rfl) ?_
        refine lv_iload_n hx hb dX2_hasKeyAhead_8 rfl (lv_at hl 3 rfl) ?_
        have hPc := hP
        have hDc := hD
        have hFc := va_free (wc := [(h0, .inr (2, [.ref h1, .int (nI (n 6)), .int (nI (n 7)), .ref h2, .int (nI (n 8)), .int (x 9)])), (h1, .inl (cI, 200, .inl (ni (a 0))))]) hD hS hA [0, 1] rfl
        refine va_calli (va_runV (As := [.int (nI i)]) (rest := []) ⟨hx, hb, hml, hown, hts⟩ (c_X2_hasBusiness l D H.size cI h0 h1 h2 x n a i hbd (by assumption) (by omega)) (cwV 1 hts gX2_hasKeyAhead_X2_hasBusiness rfl rfl rfl (by decide +kernel) ⟨Nat.le_of_ble_eq_true rfl, Nat.le_of_ble_eq_true rfl⟩) ⟨pcs_blind, va_recv hK hP (ci := 2) (q0 := 0) rfl rfl, (pcs_pre (fun h => h) hE hS hPc hK hDc hFc)⟩ rfl rfl hl.1 rfl (lv_room (Nat.le_of_ble_eq_true rfl)) dX2_hasKeyAhead_9 ⟨Nat.le_of_ble_eq_true rfl, Nat.le_of_ble_eq_true rfl⟩) hS (fun q _ h => hFc q h) hFc (fun r_2 u t H1 locs1 ht hvm hw hB hz1 hk1 hS => ?_)
        have hw : r_2 = b2i (hasB (n 6) (a 0) (i)) := hw
        subst hw
        obtain ⟨hP, hD⟩ := aftW hFc ht hB
        clear hPc hDc hFc hk1 ht hB hz1 hvm
        generalize H1 = H at hP hS ⊢
        have hP : va_P D vwCl [(h0, .inr (2, [.ref h1, .int (nI (n 6)), .int (nI (n 7)), .ref h2, .int (nI (n 8)), .int (x 9)])), (h1, .inl (cI, 200, .inl (ni (a 0))))] H := hP
        have hD : va_D A [(h0, .inr (2, [.ref h1, .int (nI (n 6)), .int (nI (n 7)), .ref h2, .int (nI (n 8)), .int (x 9)])), (h1, .inl (cI, 200, .inl (ni (a 0))))] := hD
        refine lv_if_eq (tgt := 29) hx hb dX2_hasKeyAhead_12 (by decide) (fun c_3 => ?_) (fun c_3 => ?_)
        · replace c_3 := b2i_0.mp c_3
          refine lv_iinc (v := nI (i + 1)) (lv' := [(3, .int (nI (i + 1))), (0, .ref h0), (1, .int (nI v)), (2, .int (nI j))]) hx hb dX2_hasKeyAhead_29 hl (k := 3) rfl (show (nI i) + Int32.ofInt 1 = nI (i + 1) from nI_add _ _) (by decide) rfl (fun ls hl => ?_)
          refine lv_goto (tgt := 2) hx hb dX2_hasKeyAhead_32 (by decide) ?_
          exact ih (i + 1) (fun k hk => (Nat.lt_or_ge k i).elim (fun q => hno k q) (fun q z => by
                                                                                           have e9 : k = i := by omega
                                                                                           rw [e9] at z
                                                                                           first | exact absurd z.1 (by assumption) | exact absurd z.2 (by assumption))) (by omega) (by omega) (by omega) _ _ hP hD hS ls (lv_sub hl [1, 2, 3, 0] rfl)
        · replace c_3 := b2i_n.mp c_3
          refine lv_aload_n hx hb dX2_hasKeyAhead_15 rfl (lv_at hl 0 rfl) ?_
          refine lv_iload_n hx hb dX2_hasKeyAhead_16 rfl (lv_at hl 3 rfl) ?_
          have hPc := hP
          have hDc := hD
          have hFc := va_free (wc := [(h0, .inr (2, [.ref h1, .int (nI (n 6)), .int (nI (n 7)), .ref h2, .int (nI (n 8)), .int (x 9)])), (h1, .inl (cI, 200, .inl (ni (a 0))))]) hD hS hA [0, 1] rfl
          refine va_calli (va_runV (As := [.int (nI i)]) (rest := []) ⟨hx, hb, hml, hown, hts⟩ (c_X2_sentAt l D H.size cI h0 h1 h2 x n a i (by unfold hasB at *; omega) (by unfold hasB at *; omega)) (cwV 1 hts gX2_hasKeyAhead_X2_sentAt rfl rfl rfl (by decide +kernel) ⟨Nat.le_of_ble_eq_true rfl, Nat.le_of_ble_eq_true rfl⟩) ⟨pcs_blind, va_recv hK hP (ci := 2) (q0 := 0) rfl rfl, (pcs_pre (fun h => h) hE hS hPc hK hDc hFc)⟩ rfl rfl hl.1 rfl (lv_room (Nat.le_of_ble_eq_true rfl)) dX2_hasKeyAhead_17 ⟨Nat.le_of_ble_eq_true rfl, Nat.le_of_ble_eq_true rfl⟩) hS (fun q _ h => hFc q h) hFc (fun r_4 u t H1 locs1 ht hvm hw hB hz1 hk1 hS => ?_)
          have hw : r_4 = nI ((a 0) (i - 1)) := hw
          subst hw
          obtain ⟨hP, hD⟩ := aftW hFc ht hB
          clear hPc hDc hFc hk1 ht hB hz1 hvm
          generalize H1 = H at hP hS ⊢
          have hP : va_P D vwCl [(h0, .inr (2, [.ref h1, .int (nI (n 6)), .int (nI (n 7)), .ref h2, .int (nI (n 8)), .int (x 9)])), (h1, .inl (cI, 200, .inl (ni (a 0))))] H := hP
          have hD : va_D A [(h0, .inr (2, [.ref h1, .int (nI (n 6)), .int (nI (n 7)), .ref h2, .int (nI (n 8)), .int (x 9)])), (h1, .inl (cI, 200, .inl (ni (a 0))))] := hD
          have hPc := hP.sub (ws' := []) [] rfl
          have hDc := hD.sub (ws' := []) [] (by decide) rfl
          have hFc := va_free (wc := []) hD hS hA [] rfl
          refine va_calli (va_runS (As := [.int (nI ((a 0) (i - 1)))]) (rest := []) ⟨hx, hb, hml, hown, hts⟩ (c_X0_toldBy l D H.size cI ((a 0) (i - 1)) (by have h9 := hba 0 (i - 1); omega)) (va_cwS 1 hts gX2_hasKeyAhead_X0_toldBy rfl rfl rfl (by decide +kernel) ⟨Nat.le_of_ble_eq_true rfl, Nat.le_of_ble_eq_true rfl⟩) ⟨pcs_blind, (pcs_pre (fun h => h) hE hS hPc hK hDc hFc)⟩ rfl rfl hl.1 rfl (lv_room (Nat.le_of_ble_eq_true rfl)) dX2_hasKeyAhead_20 ⟨Nat.le_of_ble_eq_true rfl, Nat.le_of_ble_eq_true rfl⟩) hS (fun q _ h => hFc q h) hFc (fun r_5 u t H1 locs1 ht hvm hw hB hz1 hk1 hS => ?_)
          have hw : r_5 = nI (td ((a 0) (i - 1))) := hw
          subst hw
          obtain ⟨hP, hD⟩ := aft (wr := [(h0, .inr (2, [.ref h1, .int (nI (n 6)), .int (nI (n 7)), .ref h2, .int (nI (n 8)), .int (x 9)])), (h1, .inl (cI, 200, .inl (ni (a 0))))]) (w1 := []) (w2 := [(h0, .inr (2, [.ref h1, .int (nI (n 6)), .int (nI (n 7)), .ref h2, .int (nI (n 8)), .int (x 9)])), (h1, .inl (cI, 200, .inl (ni (a 0))))]) hP hD [] [0, 1] [0, 1] rfl rfl (by decide) (by decide) hFc hk1 ht hB rfl (by decide) rfl
          clear hPc hDc hFc hk1 ht hB hz1 hvm
          generalize H1 = H at hP hS ⊢
          have hP : va_P D vwCl [(h0, .inr (2, [.ref h1, .int (nI (n 6)), .int (nI (n 7)), .ref h2, .int (nI (n 8)), .int (x 9)])), (h1, .inl (cI, 200, .inl (ni (a 0))))] H := hP
          have hD : va_D A [(h0, .inr (2, [.ref h1, .int (nI (n 6)), .int (nI (n 7)), .ref h2, .int (nI (n 8)), .int (x 9)])), (h1, .inl (cI, 200, .inl (ni (a 0))))] := hD
          have hf_6 : td ((a 0) (i - 1)) < 1024 := td_lt _
          have hv2 : td (a 0 (i - 1)) < 1024 := td_lt _
          refine lv_iload_n hx hb dX2_hasKeyAhead_23 rfl (lv_at hl 1 rfl) ?_
          refine lv_icmp_ne (tgt := 29) hx hb dX2_hasKeyAhead_24 (by decide) (fun c_7 => ?_) (fun c_7 => ?_)
          · replace c_7 : ¬ ((td ((a 0) (i - 1))) = v) := fun z => c_7 ((nI_eq (a := (td ((a 0) (i - 1)))) (b := v) (by omega) (by omega)).mpr z)
            refine lv_iinc (v := nI (i + 1)) (lv' := [(3, .int (nI (i + 1))), (0, .ref h0), (1, .int (nI v)), (2, .int (nI j))]) hx hb dX2_hasKeyAhead_29 hl (k := 3) rfl (show (nI i) + Int32.ofInt 1 = nI (i + 1) from nI_add _ _) (by decide) rfl (fun ls hl => ?_)
            refine lv_goto (tgt := 2) hx hb dX2_hasKeyAhead_32 (by decide) ?_
            exact ih (i + 1) (fun k hk => (Nat.lt_or_ge k i).elim (fun q => hno k q) (fun q z => by
                                                                                           have e9 : k = i := by omega
                                                                                           rw [e9] at z
                                                                                           first | exact absurd z.1 (by assumption) | exact absurd z.2 (by assumption))) (by omega) (by omega) (by omega) _ _ hP hD hS ls (lv_sub hl [1, 2, 3, 0] rfl)
          · replace c_7 : (td ((a 0) (i - 1))) = v := (nI_eq (a := (td ((a 0) (i - 1)))) (b := v) (by omega) (by omega)).mp c_7
            refine lv_iconst (v := 1) hx hb dX2_hasKeyAhead_27 (by decide) ?_
            exact W.zret (v := 1) hx hb hr rfl (fun t ht hW => lfe (b2i_t ⟨i, by omega, by assumption, by assumption⟩) hP hK hD hS ht hW) hS.2.2 dX2_hasKeyAhead_28 hlocks
  exact loop _ 1 (fun k hk z => by have z1 := z.1; unfold hasB at z1; omega) (by omega) (by omega) (Nat.lt_succ_self _) _ _ hP hD hS ls (lv_sub hl [1, 2, 3, 0] rfl)
set_option maxHeartbeats 4000000 in
set_option maxRecDepth 100000 in
theorem c_X2_tellsKey (l : Launch) (D : va_G) (sz : Nat) (cI : ClassId) (h0 : Nat) (h1 : Nat) (h2 : Nat) (x : Nat → Int32) (n : Nat → Nat) (a : Nat → Nat → Nat) (j : Nat) (hbd : bd n) (hba : ba a) (hj : j < 2 ^ 30) : CT l yX2_tellsKey wsX2_tellsKey ({ frames := 3, cells := 0, slots := 0, locals := 65 }) false D ([(cI, .int)]) [(h0, .inr (2, [.ref h1, .int (nI (n 6)), .int (nI (n 7)), .ref h2, .int (nI (n 8)), .int (x 9)])), (h1, .inl (cI, 200, .inl (ni (a 0))))] sz [.ref h0, .int (nI j)] (qi D ([(cI, .int)]) (fun r => r = b2i (tellsK (n 6) (a 0) (j))) [(h0, .inr (2, [.ref h1, .int (nI (n 6)), .int (nI (n 7)), .ref h2, .int (nI (n 8)), .int (x 9)])), (h1, .inl (cI, 200, .inl (ni (a 0))))]) 0 0 := by
  refine CT.of (cc := cX2_tellsKey) (maxL := 3) (ret := (some .boolean)) (by decide) rfl (Nat.le_of_ble_eq_true rfl) ?_
  intro A p e s m args below meth c ls H locs En0 argsE hP hK hD hE hA hS hl
  obtain ⟨hx, hb, hr, hml, hown, hts, hlocks, hin⟩ := En0
  have hP : va_P D vwCl [(h0, .inr (2, [.ref h1, .int (nI (n 6)), .int (nI (n 7)), .ref h2, .int (nI (n 8)), .int (x 9)])), (h1, .inl (cI, 200, .inl (ni (a 0))))] H := hP
  have hD : va_D A [(h0, .inr (2, [.ref h1, .int (nI (n 6)), .int (nI (n 7)), .ref h2, .int (nI (n 8)), .int (x 9)])), (h1, .inl (cI, 200, .inl (ni (a 0))))] := hD
  have hl : lv_has ls 3 [(0, .ref h0), (1, .int (nI j))] := hl
  obtain ⟨hb6, hb7, hb8, hb10⟩ := id hbd
  refine lv_aload_n hx hb dX2_tellsKey_0 rfl (lv_at hl 0 rfl) ?_
  refine lv_iload_n hx hb dX2_tellsKey_1 rfl (lv_at hl 1 rfl) ?_
  have hPc := hP
  have hDc := hD
  have hFc := va_free (wc := [(h0, .inr (2, [.ref h1, .int (nI (n 6)), .int (nI (n 7)), .ref h2, .int (nI (n 8)), .int (x 9)])), (h1, .inl (cI, 200, .inl (ni (a 0))))]) hD hS hA [0, 1] rfl
  refine va_calli (va_runV (As := [.int (nI j)]) (rest := []) ⟨hx, hb, hml, hown, hts⟩ (c_X2_hasBusiness l D H.size cI h0 h1 h2 x n a j hbd (by assumption) (by omega)) (cwV 1 hts gX2_tellsKey_X2_hasBusiness rfl rfl rfl (by decide +kernel) ⟨Nat.le_of_ble_eq_true rfl, Nat.le_of_ble_eq_true rfl⟩) ⟨pcs_blind, va_recv hK hP (ci := 2) (q0 := 0) rfl rfl, (pcs_pre (fun h => h) hE hS hPc hK hDc hFc)⟩ rfl rfl hl.1 rfl (lv_room (Nat.le_of_ble_eq_true rfl)) dX2_tellsKey_2 ⟨Nat.le_of_ble_eq_true rfl, Nat.le_of_ble_eq_true rfl⟩) hS (fun q _ h => hFc q h) hFc (fun r_1 u t H1 locs1 ht hvm hw hB hz1 hk1 hS => ?_)
  have hw : r_1 = b2i (hasB (n 6) (a 0) (j)) := hw
  subst hw
  obtain ⟨hP, hD⟩ := aftW hFc ht hB
  clear hPc hDc hFc hk1 ht hB hz1 hvm
  generalize H1 = H at hP hS ⊢
  have hP : va_P D vwCl [(h0, .inr (2, [.ref h1, .int (nI (n 6)), .int (nI (n 7)), .ref h2, .int (nI (n 8)), .int (x 9)])), (h1, .inl (cI, 200, .inl (ni (a 0))))] H := hP
  have hD : va_D A [(h0, .inr (2, [.ref h1, .int (nI (n 6)), .int (nI (n 7)), .ref h2, .int (nI (n 8)), .int (x 9)])), (h1, .inl (cI, 200, .inl (ni (a 0))))] := hD
  refine lv_if_ne (tgt := 10) hx hb dX2_tellsKey_5 (by decide) (fun c_2 => ?_) (fun c_2 => ?_)
  · replace c_2 := b2i_n.mp c_2
    refine lv_aload_n hx hb dX2_tellsKey_10 rfl (lv_at hl 0 rfl) ?_
    refine lv_iload_n hx hb dX2_tellsKey_11 rfl (lv_at hl 1 rfl) ?_
    have hPc := hP
    have hDc := hD
    have hFc := va_free (wc := [(h0, .inr (2, [.ref h1, .int (nI (n 6)), .int (nI (n 7)), .ref h2, .int (nI (n 8)), .int (x 9)])), (h1, .inl (cI, 200, .inl (ni (a 0))))]) hD hS hA [0, 1] rfl
    refine va_calli (va_runV (As := [.int (nI j)]) (rest := []) ⟨hx, hb, hml, hown, hts⟩ (c_X2_sentAt l D H.size cI h0 h1 h2 x n a j (by unfold hasB at *; omega) (by unfold hasB at *; omega)) (cwV 1 hts gX2_tellsKey_X2_sentAt rfl rfl rfl (by decide +kernel) ⟨Nat.le_of_ble_eq_true rfl, Nat.le_of_ble_eq_true rfl⟩) ⟨pcs_blind, va_recv hK hP (ci := 2) (q0 := 0) rfl rfl, (pcs_pre (fun h => h) hE hS hPc hK hDc hFc)⟩ rfl rfl hl.1 rfl (lv_room (Nat.le_of_ble_eq_true rfl)) dX2_tellsKey_12 ⟨Nat.le_of_ble_eq_true rfl, Nat.le_of_ble_eq_true rfl⟩) hS (fun q _ h => hFc q h) hFc (fun r_3 u t H1 locs1 ht hvm hw hB hz1 hk1 hS => ?_)
    have hw : r_3 = nI ((a 0) (j - 1)) := hw
    subst hw
    obtain ⟨hP, hD⟩ := aftW hFc ht hB
    clear hPc hDc hFc hk1 ht hB hz1 hvm
    generalize H1 = H at hP hS ⊢
    have hP : va_P D vwCl [(h0, .inr (2, [.ref h1, .int (nI (n 6)), .int (nI (n 7)), .ref h2, .int (nI (n 8)), .int (x 9)])), (h1, .inl (cI, 200, .inl (ni (a 0))))] H := hP
    have hD : va_D A [(h0, .inr (2, [.ref h1, .int (nI (n 6)), .int (nI (n 7)), .ref h2, .int (nI (n 8)), .int (x 9)])), (h1, .inl (cI, 200, .inl (ni (a 0))))] := hD
    refine lv_istore_n (lv' := [(2, .int (nI ((a 0) (j - 1)))), (0, .ref h0), (1, .int (nI j))]) hx hb dX2_tellsKey_15 rfl hl (by decide) rfl (fun ls hl => ?_)
    refine lv_iload_n hx hb dX2_tellsKey_16 rfl (lv_at hl 0 rfl) ?_
    refine lv_ldc (v := 4194304) hx hb hown (hts (.constant RX2 44 4194304) (by decide +kernel)) dX2_tellsKey_17 ?_
    have hPc := hP.sub (ws' := []) [] rfl
    have hDc := hD.sub (ws' := []) [] (by decide) rfl
    have hFc := va_free (wc := []) hD hS hA [] rfl
    refine va_calli (va_runS (As := [.int (nI ((a 0) (j - 1))), .int 4194304]) (rest := []) ⟨hx, hb, hml, hown, hts⟩ (c_X0_isMarked_22 l D H.size cI ((a 0) (j - 1))) (va_cwS 2 hts gX2_tellsKey_X0_isMarked rfl rfl rfl (by decide +kernel) ⟨Nat.le_of_ble_eq_true rfl, Nat.le_of_ble_eq_true rfl⟩) ⟨pcs_blind, (pcs_pre (fun h => h) hE hS hPc hK hDc hFc)⟩ rfl rfl hl.1 rfl (lv_room (Nat.le_of_ble_eq_true rfl)) dX2_tellsKey_19 ⟨Nat.le_of_ble_eq_true rfl, Nat.le_of_ble_eq_true rfl⟩) hS (fun q _ h => hFc q h) hFc (fun r_4 u t H1 locs1 ht hvm hw hB hz1 hk1 hS => ?_)
    have hw : r_4 = b2i (((a 0) (j - 1)).testBit 22 = true) := hw
    subst hw
    obtain ⟨hP, hD⟩ := aft (wr := [(h0, .inr (2, [.ref h1, .int (nI (n 6)), .int (nI (n 7)), .ref h2, .int (nI (n 8)), .int (x 9)])), (h1, .inl (cI, 200, .inl (ni (a 0))))]) (w1 := []) (w2 := [(h0, .inr (2, [.ref h1, .int (nI (n 6)), .int (nI (n 7)), .ref h2, .int (nI (n 8)), .int (x 9)])), (h1, .inl (cI, 200, .inl (ni (a 0))))]) hP hD [] [0, 1] [0, 1] rfl rfl (by decide) (by decide) hFc hk1 ht hB rfl (by decide) rfl
    clear hPc hDc hFc hk1 ht hB hz1 hvm
    generalize H1 = H at hP hS ⊢
    have hP : va_P D vwCl [(h0, .inr (2, [.ref h1, .int (nI (n 6)), .int (nI (n 7)), .ref h2, .int (nI (n 8)), .int (x 9)])), (h1, .inl (cI, 200, .inl (ni (a 0))))] H := hP
    have hD : va_D A [(h0, .inr (2, [.ref h1, .int (nI (n 6)), .int (nI (n 7)), .ref h2, .int (nI (n 8)), .int (x 9)])), (h1, .inl (cI, 200, .inl (ni (a 0))))] := hD
    refine lv_if_eq (tgt := 37) hx hb dX2_tellsKey_22 (by decide) (fun c_5 => ?_) (fun c_5 => ?_)
    · replace c_5 := b2i_0.mp c_5
      refine lv_iconst (v := 1) hx hb dX2_tellsKey_37 (by decide) ?_
      refine lv_goto (tgt := 42) hx hb dX2_tellsKey_38 (by decide) ?_
      exact W.zret (v := 1) hx hb hr rfl (fun t ht hW => lfe (b2i_t (by unfold tellsK; refine ⟨by assumption, ?_⟩; intro h; first | exact absurd h (by assumption) | assumption)) hP hK hD hS ht hW) hS.2.2 dX2_tellsKey_42 hlocks
    · replace c_5 := b2i_n.mp c_5
      refine lv_aload_n hx hb dX2_tellsKey_25 rfl (lv_at hl 1 rfl) ?_
      refine lv_iload_n hx hb dX2_tellsKey_26 rfl (lv_at hl 0 rfl) ?_
      have hPc := hP.sub (ws' := []) [] rfl
      have hDc := hD.sub (ws' := []) [] (by decide) rfl
      have hFc := va_free (wc := []) hD hS hA [] rfl
      refine va_calli (va_runS (As := [.int (nI ((a 0) (j - 1)))]) (rest := [.ref h0]) ⟨hx, hb, hml, hown, hts⟩ (c_X0_toldBy l D H.size cI ((a 0) (j - 1)) (by have h9 := hba 0 (j - 1); omega)) (va_cwS 1 hts gX2_tellsKey_X0_toldBy rfl rfl rfl (by decide +kernel) ⟨Nat.le_of_ble_eq_true rfl, Nat.le_of_ble_eq_true rfl⟩) ⟨pcs_blind, (pcs_pre (fun h => h) hE hS hPc hK hDc hFc)⟩ rfl rfl hl.1 rfl (lv_room (Nat.le_of_ble_eq_true rfl)) dX2_tellsKey_27 ⟨Nat.le_of_ble_eq_true rfl, Nat.le_of_ble_eq_true rfl⟩) hS (fun q _ h => hFc q h) hFc (fun r_6 u t H1 locs1 ht hvm hw hB hz1 hk1 hS => ?_)
      have hw : r_6 = nI (td ((a 0) (j - 1))) := hw
      subst hw
      obtain ⟨hP, hD⟩ := aft (wr := [(h0, .inr (2, [.ref h1, .int (nI (n 6)), .int (nI (n 7)), .ref h2, .int (nI (n 8)), .int (x 9)])), (h1, .inl (cI, 200, .inl (ni (a 0))))]) (w1 := []) (w2 := [(h0, .inr (2, [.ref h1, .int (nI (n 6)), .int (nI (n 7)), .ref h2, .int (nI (n 8)), .int (x 9)])), (h1, .inl (cI, 200, .inl (ni (a 0))))]) hP hD [] [0, 1] [0, 1] rfl rfl (by decide) (by decide) hFc hk1 ht hB rfl (by decide) rfl
      clear hPc hDc hFc hk1 ht hB hz1 hvm
      generalize H1 = H at hP hS ⊢
      have hP : va_P D vwCl [(h0, .inr (2, [.ref h1, .int (nI (n 6)), .int (nI (n 7)), .ref h2, .int (nI (n 8)), .int (x 9)])), (h1, .inl (cI, 200, .inl (ni (a 0))))] H := hP
      have hD : va_D A [(h0, .inr (2, [.ref h1, .int (nI (n 6)), .int (nI (n 7)), .ref h2, .int (nI (n 8)), .int (x 9)])), (h1, .inl (cI, 200, .inl (ni (a 0))))] := hD
      have hf_7 : td ((a 0) (j - 1)) < 1024 := td_lt _
      refine lv_iload_n hx hb dX2_tellsKey_30 rfl (lv_at hl 2 rfl) ?_
      have hPc := hP
      have hDc := hD
      have hFc := va_free (wc := [(h0, .inr (2, [.ref h1, .int (nI (n 6)), .int (nI (n 7)), .ref h2, .int (nI (n 8)), .int (x 9)])), (h1, .inl (cI, 200, .inl (ni (a 0))))]) hD hS hA [0, 1] rfl
      refine va_calli (va_runV (As := [.int (nI (td ((a 0) (j - 1)))), .int (nI j)]) (rest := []) ⟨hx, hb, hml, hown, hts⟩ (c_X2_hasKeyAhead l D H.size cI h0 h1 h2 x n a (td ((a 0) (j - 1))) j hbd (by assumption) (by have h9 := td_lt (a 0 (j - 1)); omega) (by omega)) (cwV 2 hts gX2_tellsKey_X2_hasKeyAhead rfl rfl rfl (by decide +kernel) ⟨Nat.le_of_ble_eq_true rfl, Nat.le_of_ble_eq_true rfl⟩) ⟨pcs_blind, va_recv hK hP (ci := 2) (q0 := 0) rfl rfl, (pcs_pre (fun h => h) hE hS hPc hK hDc hFc)⟩ rfl rfl hl.1 rfl (lv_room (Nat.le_of_ble_eq_true rfl)) dX2_tellsKey_31 ⟨Nat.le_of_ble_eq_true rfl, Nat.le_of_ble_eq_true rfl⟩) hS (fun q _ h => hFc q h) hFc (fun r_8 u t H1 locs1 ht hvm hw hB hz1 hk1 hS => ?_)
      have hw : r_8 = b2i (keyAhead (n 6) (a 0) (td ((a 0) (j - 1))) (j)) := hw
      subst hw
      obtain ⟨hP, hD⟩ := aftW hFc ht hB
      clear hPc hDc hFc hk1 ht hB hz1 hvm
      generalize H1 = H at hP hS ⊢
      have hP : va_P D vwCl [(h0, .inr (2, [.ref h1, .int (nI (n 6)), .int (nI (n 7)), .ref h2, .int (nI (n 8)), .int (x 9)])), (h1, .inl (cI, 200, .inl (ni (a 0))))] H := hP
      have hD : va_D A [(h0, .inr (2, [.ref h1, .int (nI (n 6)), .int (nI (n 7)), .ref h2, .int (nI (n 8)), .int (x 9)])), (h1, .inl (cI, 200, .inl (ni (a 0))))] := hD
      refine lv_if_ne (tgt := 41) hx hb dX2_tellsKey_34 (by decide) (fun c_9 => ?_) (fun c_9 => ?_)
      · replace c_9 := b2i_n.mp c_9
        refine lv_iconst (v := 0) hx hb dX2_tellsKey_41 (by decide) ?_
        exact W.zret (v := 0) hx hb hr rfl (fun t ht hW => lfe (b2i_f (by unfold tellsK; intro z; first | exact absurd z.1 (by assumption) | exact absurd (by assumption) (z.2 (by assumption)))) hP hK hD hS ht hW) hS.2.2 dX2_tellsKey_42 hlocks
      · replace c_9 := b2i_0.mp c_9
        refine lv_iconst (v := 1) hx hb dX2_tellsKey_37 (by decide) ?_
        refine lv_goto (tgt := 42) hx hb dX2_tellsKey_38 (by decide) ?_
        exact W.zret (v := 1) hx hb hr rfl (fun t ht hW => lfe (b2i_t (by unfold tellsK; refine ⟨by assumption, ?_⟩; intro h; first | exact absurd h (by assumption) | assumption)) hP hK hD hS ht hW) hS.2.2 dX2_tellsKey_42 hlocks
  · replace c_2 := b2i_0.mp c_2
    refine lv_iconst (v := 0) hx hb dX2_tellsKey_8 (by decide) ?_
    exact W.zret (v := 0) hx hb hr rfl (fun t ht hW => lfe (b2i_f (by unfold tellsK; intro z; first | exact absurd z.1 (by assumption) | exact absurd (by assumption) (z.2 (by assumption)))) hP hK hD hS ht hW) hS.2.2 dX2_tellsKey_9 hlocks
set_option maxRecDepth 20000 in
theorem in_X3_put_X3 : ∀ w ∈ u_ws RX3 TX3 2, w ∈ wsX3_put := by decide +kernel
set_option maxHeartbeats 4000000 in
set_option maxRecDepth 100000 in
theorem c_X3_put (l : Launch) (D : va_G) (sz : Nat) (cI : ClassId) (h0 : Nat) (h1 : Nat) (n : Nat → Nat) (a : Nat → Nat → Nat) (v : Nat) (hbd : bd n) : CT l yX3_put wsX3_put ({ frames := 0, cells := 0, slots := 0, locals := 0 }) false D ([(cI, .int)]) [(h0, .inr (3, [.ref h1, .int (nI (n 10))])), (h1, .inl (cI, 60, .inl (ni (a 2))))] sz [.ref h0, .int (nI v)] (qv D ([(cI, .int)]) (True) [(h0, .inr (3, [.ref h1, .int (nI ((cApp 60 (n 10) (a 2) v).1))])), (h1, .inl (cI, 60, .inl (ni ((cApp 60 (n 10) (a 2) v).2))))]) 0 0 := by
  refine CT.of (cc := cX3_put) (maxL := 2) (ret := none) (by decide) rfl (Nat.le_of_ble_eq_true rfl) ?_
  intro A p e s m args below meth c ls H locs En0 argsE hP hK hD hE hA hS hl
  obtain ⟨hx, hb, hr, hml, hown, hts, hlocks, hin⟩ := En0
  have hP : va_P D vwCl [(h0, .inr (3, [.ref h1, .int (nI (n 10))])), (h1, .inl (cI, 60, .inl (ni (a 2))))] H := hP
  have hD : va_D A [(h0, .inr (3, [.ref h1, .int (nI (n 10))])), (h1, .inl (cI, 60, .inl (ni (a 2))))] := hD
  have hl : lv_has ls 2 [(0, .ref h0), (1, .int (nI v))] := hl
  obtain ⟨hb6, hb7, hb8, hb10⟩ := id hbd
  refine lv_aload_n hx hb dX3_put_0 rfl (lv_at hl 0 rfl) ?_
  refine va_get (ci := 3) (v := .int (nI (n 10))) (C := RX3) (T := TX3) (N := 2) hx hb hts in_X3_put_X3 hown hK hP 0 rfl rfl 1 (by decide) (hts (.fieldLink RX3 15 "SessionFix$Wire" "count" "I") (by decide +kernel)) (fun _ h9 => h9) rfl dX3_put_1 ?_
  refine lv_if_lt (tgt := 39) hx hb dX3_put_4 (by decide) (fun c_1 => ?_) (fun c_1 => ?_)
  · exact absurd c_1 (nI_pos (n := (n 10)) (by omega))
  · refine lv_aload_n hx hb dX3_put_7 rfl (lv_at hl 0 rfl) ?_
    refine va_get (ci := 3) (v := .int (nI (n 10))) (C := RX3) (T := TX3) (N := 2) hx hb hts in_X3_put_X3 hown hK hP 0 rfl rfl 1 (by decide) (hts (.fieldLink RX3 15 "SessionFix$Wire" "count" "I") (by decide +kernel)) (fun _ h9 => h9) rfl dX3_put_8 ?_
    refine lv_aload_n hx hb dX3_put_11 rfl (lv_at hl 0 rfl) ?_
    refine va_get (ci := 3) (v := .ref h1) (C := RX3) (T := TX3) (N := 2) hx hb hts in_X3_put_X3 hown hK hP 0 rfl rfl 0 (by decide) (hts (.fieldLink RX3 9 "SessionFix$Wire" "messages" "[I") (by decide +kernel)) (fun _ h9 => h9) rfl dX3_put_12 ?_
    refine va_alen (v := 60) hx hb hK hP 1 0 rfl rfl rfl dX3_put_15 ?_
    refine lv_icmp_ge (tgt := 39) hx hb dX3_put_16 (by decide) (fun c_2 => ?_) (fun c_2 => ?_)
    · replace c_2 : 60 ≤ (n 10) := (nI_leI (a := 60) (b := (n 10)) (by omega) (by omega)).mp c_2
      have eF : cApp 60 (n 10) (a 2) v = (n 10, a 2) := by
        simp only [cApp, if_pos c_2] <;> rfl
      exact W.vret hx hb hr (fun t ht hW => lfv trivial (by rw [eF]; exact hP) hK (by rw [eF]; exact hD) hS ht hW) hS.2.2 dX3_put_39 hlocks
    · replace c_2 : ¬ (60 ≤ (n 10)) := fun z => c_2 ((nI_leI (a := 60) (b := (n 10)) (by omega) (by omega)).mpr z)
      refine lv_aload_n hx hb dX3_put_19 rfl (lv_at hl 0 rfl) ?_
      refine va_get (ci := 3) (v := .ref h1) (C := RX3) (T := TX3) (N := 2) hx hb hts in_X3_put_X3 hown hK hP 0 rfl rfl 0 (by decide) (hts (.fieldLink RX3 9 "SessionFix$Wire" "messages" "[I") (by decide +kernel)) (fun _ h9 => h9) rfl dX3_put_20 ?_
      refine lv_aload_n hx hb dX3_put_23 rfl (lv_at hl 0 rfl) ?_
      refine va_get (ci := 3) (v := .int (nI (n 10))) (C := RX3) (T := TX3) (N := 2) hx hb hts in_X3_put_X3 hown hK hP 0 rfl rfl 1 (by decide) (hts (.fieldLink RX3 15 "SessionFix$Wire" "count" "I") (by decide +kernel)) (fun _ h9 => h9) rfl dX3_put_24 ?_
      refine lv_iload_n hx hb dX3_put_27 rfl (lv_at hl 1 rfl) ?_
      refine ist (k := (n 10)) (v := v) hx hb hK hP hD hS 1 0 (by omega) (by omega) rfl rfl dX3_put_28 (fun H locs hP hD hS => ?_)
      have hP : va_P D vwCl [(h0, .inr (3, [.ref h1, .int (nI (n 10))])), (h1, .inl (cI, 60, .inl (ni (va_up (a 2) (n 10) v))))] H := hP
      have hD : va_D A [(h0, .inr (3, [.ref h1, .int (nI (n 10))])), (h1, .inl (cI, 60, .inl (ni (va_up (a 2) (n 10) v))))] := hD
      refine lv_aload_n hx hb dX3_put_29 rfl (lv_at hl 0 rfl) ?_
      refine lv_dup hx hb dX3_put_30 rfl ?_
      refine va_get (ci := 3) (v := .int (nI (n 10))) (C := RX3) (T := TX3) (N := 2) hx hb hts in_X3_put_X3 hown hK hP 0 rfl rfl 1 (by decide) (hts (.fieldLink RX3 15 "SessionFix$Wire" "count" "I") (by decide +kernel)) (fun _ h9 => h9) rfl dX3_put_31 ?_
      refine lv_iconst (v := 1) hx hb dX3_put_34 (by decide) ?_
      refine lv_iadd hx hb dX3_put_35 ?_
      refine tp (show (nI (n 10)) + 1 = nI ((n 10) + 1) from nI_add (n 10) 1) ?_
      refine va_put (ci := 3) (v := .int (nI ((n 10) + 1))) (ty := .int) (C := RX3) (T := TX3) (N := 2) hx hb hts in_X3_put_X3 tyX3 tyX3_ok nmX3 hown hK hP hD hS 0 rfl rfl 1 (by decide) (hts (.fieldLink RX3 15 "SessionFix$Wire" "count" "I") (by decide +kernel)) (fun _ h9 => h9) rfl (by decide +kernel) rfl rfl (Nat.le_of_ble_eq_true rfl) dX3_put_36 (fun H locs hP hD hS => ?_)
      have hP : va_P D vwCl [(h0, .inr (3, [.ref h1, .int (nI ((n 10) + 1))])), (h1, .inl (cI, 60, .inl (ni (va_up (a 2) (n 10) v))))] H := hP
      have hD : va_D A [(h0, .inr (3, [.ref h1, .int (nI ((n 10) + 1))])), (h1, .inl (cI, 60, .inl (ni (va_up (a 2) (n 10) v))))] := hD
      have eF : cApp 60 (n 10) (a 2) v = (((n 10) + 1), (va_up (a 2) (n 10) v)) := by
        simp only [cApp, if_neg c_2] <;> rfl
      exact W.vret hx hb hr (fun t ht hW => lfv trivial (by rw [eF]; exact hP) hK (by rw [eF]; exact hD) hS ht hW) hS.2.2 dX3_put_39 hlocks
set_option maxRecDepth 20000 in
theorem in_X3_messageOn_X3 : ∀ w ∈ u_ws RX3 TX3 2, w ∈ wsX3_messageOn := by decide +kernel
set_option maxHeartbeats 4000000 in
set_option maxRecDepth 100000 in
theorem c_X3_messageOn (l : Launch) (D : va_G) (sz : Nat) (cI : ClassId) (h0 : Nat) (h1 : Nat) (n : Nat → Nat) (a : Nat → Nat → Nat) (j : Nat) (hj : j < 60) : CT l yX3_messageOn wsX3_messageOn ({ frames := 0, cells := 0, slots := 0, locals := 0 }) false D ([(cI, .int)]) [(h0, .inr (3, [.ref h1, .int (nI (n 10))])), (h1, .inl (cI, 60, .inl (ni (a 2))))] sz [.ref h0, .int (nI j)] (qi D ([(cI, .int)]) (fun r => r = nI ((a 2) j)) [(h0, .inr (3, [.ref h1, .int (nI (n 10))])), (h1, .inl (cI, 60, .inl (ni (a 2))))]) 0 0 := by
  refine CT.of (cc := cX3_messageOn) (maxL := 2) (ret := (some .int)) (by decide) rfl (Nat.le_of_ble_eq_true rfl) ?_
  intro A p e s m args below meth c ls H locs En0 argsE hP hK hD hE hA hS hl
  obtain ⟨hx, hb, hr, hml, hown, hts, hlocks, hin⟩ := En0
  have hP : va_P D vwCl [(h0, .inr (3, [.ref h1, .int (nI (n 10))])), (h1, .inl (cI, 60, .inl (ni (a 2))))] H := hP
  have hD : va_D A [(h0, .inr (3, [.ref h1, .int (nI (n 10))])), (h1, .inl (cI, 60, .inl (ni (a 2))))] := hD
  have hl : lv_has ls 2 [(0, .ref h0), (1, .int (nI j))] := hl
  refine lv_iload_n hx hb dX3_messageOn_0 rfl (lv_at hl 1 rfl) ?_
  refine lv_if_lt (tgt := 13) hx hb dX3_messageOn_1 (by decide) (fun c_1 => ?_) (fun c_1 => ?_)
  · exact absurd c_1 (nI_pos (n := j) (by omega))
  · refine lv_iload_n hx hb dX3_messageOn_4 rfl (lv_at hl 1 rfl) ?_
    refine lv_aload_n hx hb dX3_messageOn_5 rfl (lv_at hl 0 rfl) ?_
    refine va_get (ci := 3) (v := .ref h1) (C := RX3) (T := TX3) (N := 2) hx hb hts in_X3_messageOn_X3 hown hK hP 0 rfl rfl 0 (by decide) (hts (.fieldLink RX3 9 "SessionFix$Wire" "messages" "[I") (by decide +kernel)) (fun _ h9 => h9) rfl dX3_messageOn_6 ?_
    refine va_alen (v := 60) hx hb hK hP 1 0 rfl rfl rfl dX3_messageOn_9 ?_
    refine lv_icmp_lt (tgt := 15) hx hb dX3_messageOn_10 (by decide) (fun c_2 => ?_) (fun c_2 => ?_)
    · replace c_2 : j < 60 := (nI_ltI (a := j) (b := 60) (by omega) (by omega)).mp c_2
      refine lv_aload_n hx hb dX3_messageOn_15 rfl (lv_at hl 0 rfl) ?_
      refine va_get (ci := 3) (v := .ref h1) (C := RX3) (T := TX3) (N := 2) hx hb hts in_X3_messageOn_X3 hown hK hP 0 rfl rfl 0 (by decide) (hts (.fieldLink RX3 9 "SessionFix$Wire" "messages" "[I") (by decide +kernel)) (fun _ h9 => h9) rfl dX3_messageOn_16 ?_
      refine lv_iload_n hx hb dX3_messageOn_19 rfl (lv_at hl 1 rfl) ?_
      refine ild (k := j) hx hb hK hP 1 0 (by omega) (by omega) rfl rfl dX3_messageOn_20 ?_
      exact W.iret (v := nI ((a 2) j)) hx hb hr (fun t ht hW => lfe rfl hP hK hD hS ht hW) hS.2.2 dX3_messageOn_21 hlocks
    · replace c_2 : ¬ (j < 60) := fun z => c_2 ((nI_ltI (a := j) (b := 60) (by omega) (by omega)).mpr z)
      exfalso; omega
set_option maxRecDepth 20000 in
theorem in_X3_removeFirst_X3 : ∀ w ∈ u_ws RX3 TX3 2, w ∈ wsX3_removeFirst := by decide +kernel
set_option maxHeartbeats 4000000 in
set_option maxRecDepth 100000 in
theorem c_X3_removeFirst (l : Launch) (D : va_G) (sz : Nat) (cI : ClassId) (h0 : Nat) (h1 : Nat) (n : Nat → Nat) (a : Nat → Nat → Nat) (hbd : bd n) (hc : 0 < n 10) : CT l yX3_removeFirst wsX3_removeFirst ({ frames := 1, cells := 0, slots := 0, locals := 21 }) false D ([(cI, .int)]) [(h0, .inr (3, [.ref h1, .int (nI (n 10))])), (h1, .inl (cI, 60, .inl (ni (a 2))))] sz [.ref h0] (qi D ([(cI, .int)]) (fun r => r = nI ((cRemP (n 10) (a 2)).1)) [(h0, .inr (3, [.ref h1, .int (nI ((cRemP (n 10) (a 2)).2.1))])), (h1, .inl (cI, 60, .inl (ni ((cRemP (n 10) (a 2)).2.2))))]) 0 0 := by
  refine CT.of (cc := cX3_removeFirst) (maxL := 3) (ret := (some .int)) (by decide) rfl (Nat.le_of_ble_eq_true rfl) ?_
  intro A p e s m args below meth c ls H locs En0 argsE hP hK hD hE hA hS hl
  obtain ⟨hx, hb, hr, hml, hown, hts, hlocks, hin⟩ := En0
  have hP : va_P D vwCl [(h0, .inr (3, [.ref h1, .int (nI (n 10))])), (h1, .inl (cI, 60, .inl (ni (a 2))))] H := hP
  have hD : va_D A [(h0, .inr (3, [.ref h1, .int (nI (n 10))])), (h1, .inl (cI, 60, .inl (ni (a 2))))] := hD
  have hl : lv_has ls 3 [(0, .ref h0)] := hl
  obtain ⟨hb6, hb7, hb8, hb10⟩ := id hbd
  refine lv_aload_n hx hb dX3_removeFirst_0 rfl (lv_at hl 0 rfl) ?_
  refine va_get (ci := 3) (v := .int (nI (n 10))) (C := RX3) (T := TX3) (N := 2) hx hb hts in_X3_removeFirst_X3 hown hK hP 0 rfl rfl 1 (by decide) (hts (.fieldLink RX3 15 "SessionFix$Wire" "count" "I") (by decide +kernel)) (fun _ h9 => h9) rfl dX3_removeFirst_1 ?_
  refine lv_if_gt (tgt := 9) hx hb dX3_removeFirst_4 (by decide) (fun c_1 => ?_) (fun c_1 => ?_)
  · replace c_1 : 0 < (n 10) := (nI_ltI (a := 0) (b := (n 10)) (by omega) (by omega)).mp c_1
    refine lv_aload_n hx hb dX3_removeFirst_9 rfl (lv_at hl 0 rfl) ?_
    refine lv_iconst (v := 0) hx hb dX3_removeFirst_10 (by decide) ?_
    have hPc := hP
    have hDc := hD
    have hFc := va_free (wc := [(h0, .inr (3, [.ref h1, .int (nI (n 10))])), (h1, .inl (cI, 60, .inl (ni (a 2))))]) hD hS hA [0, 1] rfl
    refine va_calli (va_runV (As := [.int 0]) (rest := []) ⟨hx, hb, hml, hown, hts⟩ (c_X3_messageOn l D H.size cI h0 h1 n a 0 (by omega)) (cwV 1 hts gX3_removeFirst_X3_messageOn rfl rfl rfl (by decide +kernel) ⟨Nat.le_of_ble_eq_true rfl, Nat.le_of_ble_eq_true rfl⟩) ⟨pcs_blind, va_recv hK hP (ci := 3) (q0 := 0) rfl rfl, (pcs_pre (fun h => h) hE hS hPc hK hDc hFc)⟩ rfl rfl hl.1 rfl (lv_room (Nat.le_of_ble_eq_true rfl)) dX3_removeFirst_11 ⟨Nat.le_of_ble_eq_true rfl, Nat.le_of_ble_eq_true rfl⟩) hS (fun q _ h => hFc q h) hFc (fun r_2 u t H1 locs1 ht hvm hw hB hz1 hk1 hS => ?_)
    have hw : r_2 = nI ((a 2) 0) := hw
    subst hw
    obtain ⟨hP, hD⟩ := aftW hFc ht hB
    clear hPc hDc hFc hk1 ht hB hz1 hvm
    generalize H1 = H at hP hS ⊢
    have hP : va_P D vwCl [(h0, .inr (3, [.ref h1, .int (nI (n 10))])), (h1, .inl (cI, 60, .inl (ni (a 2))))] H := hP
    have hD : va_D A [(h0, .inr (3, [.ref h1, .int (nI (n 10))])), (h1, .inl (cI, 60, .inl (ni (a 2))))] := hD
    refine lv_istore_n (lv' := [(1, .int (nI ((a 2) 0))), (0, .ref h0)]) hx hb dX3_removeFirst_14 rfl hl (by decide) rfl (fun ls hl => ?_)
    refine lv_iconst (v := 1) hx hb dX3_removeFirst_15 (by decide) ?_
    refine lv_istore_n (lv' := [(2, .int 1), (1, .int (nI ((a 2) 0))), (0, .ref h0)]) hx hb dX3_removeFirst_16 rfl hl (by decide) rfl (fun ls hl => ?_)
    have loop : ∀ (fuel : Nat) (i : Nat) (f : Nat → Nat) (hf : ∀ k, f k = if k + 1 < i then a 2 (k + 1) else a 2 k) (hi : 1 ≤ i) (hi2 : i ≤ n 10) (hm : 60 - i < fuel) (H : Heap) (locs : List Loc), va_P D vwCl [(h0, .inr (3, [.ref h1, .int (nI (n 10))])), (h1, .inl (cI, 60, .inl (ni f)))] H → va_D A [(h0, .inr (3, [.ref h1, .int (nI (n 10))])), (h1, .inl (cI, 60, .inl (ni f)))] → va_S A s.heap H locs → ∀ (ls : Array Slot), lv_has ls 3 [(0, .ref h0), (1, .int (nI ((a 2) 0))), (2, .int (nI i))] → W p l e ({ frames := 1, cells := 0, slots := 0, locals := 21 } : Room) s m args below meth c H locs 0 0 (MQ below ((qi D ([(cI, .int)]) (fun r => r = nI ((cRemP (n 10) (a 2)).1)) [(h0, .inr (3, [.ref h1, .int (nI ((cRemP (n 10) (a 2)).2.1))])), (h1, .inl (cI, 60, .inl (ni ((cRemP (n 10) (a 2)).2.2))))]) A) args s 0 0 A) (F0 m 17 ls []) := by
      intro fuel
      induction fuel with
      | zero => intro i f hf hi hi2 hm; exact absurd hm (Nat.not_lt_zero _)
      | succ fuel ih =>
        intro i f hf hi hi2 hm H locs hP hD hS ls hl
        refine lv_iload_n hx hb dX3_removeFirst_17 rfl (lv_at hl 2 rfl) ?_
        refine lv_aload_n hx hb dX3_removeFirst_18 rfl (lv_at hl 0 rfl) ?_
        refine va_get (ci := 3) (v := .int (nI (n 10))) (C := RX3) (T := TX3) (N := 2) hx hb hts in_X3_removeFirst_X3 hown hK hP 0 rfl rfl 1 (by decide) (hts (.fieldLink RX3 15 "SessionFix$Wire" "count" "I") (by decide +kernel)) (fun _ h9 => h9) rfl dX3_removeFirst_19 ?_
        refine lv_icmp_ge (tgt := 54) hx hb dX3_removeFirst_22 (by decide) (fun c_3 => ?_) (fun c_3 => ?_)
        · replace c_3 : (n 10) ≤ i := (nI_leI (a := (n 10)) (b := i) (by omega) (by omega)).mp c_3
          refine lv_aload_n hx hb dX3_removeFirst_54 rfl (lv_at hl 0 rfl) ?_
          refine lv_dup hx hb dX3_removeFirst_55 rfl ?_
          refine va_get (ci := 3) (v := .int (nI (n 10))) (C := RX3) (T := TX3) (N := 2) hx hb hts in_X3_removeFirst_X3 hown hK hP 0 rfl rfl 1 (by decide) (hts (.fieldLink RX3 15 "SessionFix$Wire" "count" "I") (by decide +kernel)) (fun _ h9 => h9) rfl dX3_removeFirst_56 ?_
          refine lv_iconst (v := 1) hx hb dX3_removeFirst_59 (by decide) ?_
          refine lv_isub hx hb dX3_removeFirst_60 ?_
          refine tp (show (nI (n 10)) - 1 = nI ((n 10) - 1) from pk_sub (a := (n 10)) (b := 1) (by omega)) ?_
          refine va_put (ci := 3) (v := .int (nI ((n 10) - 1))) (ty := .int) (C := RX3) (T := TX3) (N := 2) hx hb hts in_X3_removeFirst_X3 tyX3 tyX3_ok nmX3 hown hK hP hD hS 0 rfl rfl 1 (by decide) (hts (.fieldLink RX3 15 "SessionFix$Wire" "count" "I") (by decide +kernel)) (fun _ h9 => h9) rfl (by decide +kernel) rfl rfl (Nat.le_of_ble_eq_true rfl) dX3_removeFirst_61 (fun H locs hP hD hS => ?_)
          have hP : va_P D vwCl [(h0, .inr (3, [.ref h1, .int (nI ((n 10) - 1))])), (h1, .inl (cI, 60, .inl (ni f)))] H := hP
          have hD : va_D A [(h0, .inr (3, [.ref h1, .int (nI ((n 10) - 1))])), (h1, .inl (cI, 60, .inl (ni f)))] := hD
          refine lv_iload_n hx hb dX3_removeFirst_64 rfl (lv_at hl 1 rfl) ?_
          have eF : cRemP (n 10) (a 2) = ((a 2) 0, (((n 10) - 1), f)) := by
            exact cRemP_eq hf (by omega)
          exact W.iret (v := nI ((a 2) 0)) hx hb hr (fun t ht hW => lfe (by rw [eF]) (by rw [eF]; exact hP) hK (by rw [eF]; exact hD) hS ht hW) hS.2.2 dX3_removeFirst_65 hlocks
        · replace c_3 : ¬ ((n 10) ≤ i) := fun z => c_3 ((nI_leI (a := (n 10)) (b := i) (by omega) (by omega)).mpr z)
          refine lv_iload_n hx hb dX3_removeFirst_25 rfl (lv_at hl 2 rfl) ?_
          refine lv_aload_n hx hb dX3_removeFirst_26 rfl (lv_at hl 0 rfl) ?_
          refine va_get (ci := 3) (v := .ref h1) (C := RX3) (T := TX3) (N := 2) hx hb hts in_X3_removeFirst_X3 hown hK hP 0 rfl rfl 0 (by decide) (hts (.fieldLink RX3 9 "SessionFix$Wire" "messages" "[I") (by decide +kernel)) (fun _ h9 => h9) rfl dX3_removeFirst_27 ?_
          refine va_alen (v := 60) hx hb hK hP 1 0 rfl rfl rfl dX3_removeFirst_30 ?_
          refine lv_icmp_ge (tgt := 54) hx hb dX3_removeFirst_31 (by decide) (fun c_4 => ?_) (fun c_4 => ?_)
          · replace c_4 : 60 ≤ i := (nI_leI (a := 60) (b := i) (by omega) (by omega)).mp c_4
            refine lv_aload_n hx hb dX3_removeFirst_54 rfl (lv_at hl 0 rfl) ?_
            refine lv_dup hx hb dX3_removeFirst_55 rfl ?_
            refine va_get (ci := 3) (v := .int (nI (n 10))) (C := RX3) (T := TX3) (N := 2) hx hb hts in_X3_removeFirst_X3 hown hK hP 0 rfl rfl 1 (by decide) (hts (.fieldLink RX3 15 "SessionFix$Wire" "count" "I") (by decide +kernel)) (fun _ h9 => h9) rfl dX3_removeFirst_56 ?_
            refine lv_iconst (v := 1) hx hb dX3_removeFirst_59 (by decide) ?_
            refine lv_isub hx hb dX3_removeFirst_60 ?_
            refine tp (show (nI (n 10)) - 1 = nI ((n 10) - 1) from pk_sub (a := (n 10)) (b := 1) (by omega)) ?_
            refine va_put (ci := 3) (v := .int (nI ((n 10) - 1))) (ty := .int) (C := RX3) (T := TX3) (N := 2) hx hb hts in_X3_removeFirst_X3 tyX3 tyX3_ok nmX3 hown hK hP hD hS 0 rfl rfl 1 (by decide) (hts (.fieldLink RX3 15 "SessionFix$Wire" "count" "I") (by decide +kernel)) (fun _ h9 => h9) rfl (by decide +kernel) rfl rfl (Nat.le_of_ble_eq_true rfl) dX3_removeFirst_61 (fun H locs hP hD hS => ?_)
            have hP : va_P D vwCl [(h0, .inr (3, [.ref h1, .int (nI ((n 10) - 1))])), (h1, .inl (cI, 60, .inl (ni f)))] H := hP
            have hD : va_D A [(h0, .inr (3, [.ref h1, .int (nI ((n 10) - 1))])), (h1, .inl (cI, 60, .inl (ni f)))] := hD
            refine lv_iload_n hx hb dX3_removeFirst_64 rfl (lv_at hl 1 rfl) ?_
            have eF : cRemP (n 10) (a 2) = ((a 2) 0, (((n 10) - 1), f)) := by
              exact cRemP_eq hf (by omega)
            exact W.iret (v := nI ((a 2) 0)) hx hb hr (fun t ht hW => lfe (by rw [eF]) (by rw [eF]; exact hP) hK (by rw [eF]; exact hD) hS ht hW) hS.2.2 dX3_removeFirst_65 hlocks
          · replace c_4 : ¬ (60 ≤ i) := fun z => c_4 ((nI_leI (a := 60) (b := i) (by omega) (by omega)).mpr z)
            refine lv_aload_n hx hb dX3_removeFirst_34 rfl (lv_at hl 0 rfl) ?_
            refine va_get (ci := 3) (v := .ref h1) (C := RX3) (T := TX3) (N := 2) hx hb hts in_X3_removeFirst_X3 hown hK hP 0 rfl rfl 0 (by decide) (hts (.fieldLink RX3 9 "SessionFix$Wire" "messages" "[I") (by decide +kernel)) (fun _ h9 => h9) rfl dX3_removeFirst_35 ?_
            refine lv_iload_n hx hb dX3_removeFirst_38 rfl (lv_at hl 2 rfl) ?_
            refine lv_iconst (v := 1) hx hb dX3_removeFirst_39 (by decide) ?_
            refine lv_isub hx hb dX3_removeFirst_40 ?_
            refine tp (show (nI i) - 1 = nI (i - 1) from pk_sub (a := i) (b := 1) (by omega)) ?_
            refine lv_aload_n hx hb dX3_removeFirst_41 rfl (lv_at hl 0 rfl) ?_
            refine va_get (ci := 3) (v := .ref h1) (C := RX3) (T := TX3) (N := 2) hx hb hts in_X3_removeFirst_X3 hown hK hP 0 rfl rfl 0 (by decide) (hts (.fieldLink RX3 9 "SessionFix$Wire" "messages" "[I") (by decide +kernel)) (fun _ h9 => h9) rfl dX3_removeFirst_42 ?_
            refine lv_iload_n hx hb dX3_removeFirst_45 rfl (lv_at hl 2 rfl) ?_
            refine ild (k := i) hx hb hK hP 1 0 (by omega) (by omega) rfl rfl dX3_removeFirst_46 ?_
            refine ist (k := (i - 1)) (v := (f i)) hx hb hK hP hD hS 1 0 (by omega) (by omega) rfl rfl dX3_removeFirst_47 (fun H locs hP hD hS => ?_)
            have hP : va_P D vwCl [(h0, .inr (3, [.ref h1, .int (nI (n 10))])), (h1, .inl (cI, 60, .inl (ni (va_up f (i - 1) (f i)))))] H := hP
            have hD : va_D A [(h0, .inr (3, [.ref h1, .int (nI (n 10))])), (h1, .inl (cI, 60, .inl (ni (va_up f (i - 1) (f i)))))] := hD
            refine lv_iinc (v := nI (i + 1)) (lv' := [(2, .int (nI (i + 1))), (0, .ref h0), (1, .int (nI ((a 2) 0)))]) hx hb dX3_removeFirst_48 hl (k := 2) rfl (show (nI i) + Int32.ofInt 1 = nI (i + 1) from nI_add _ _) (by decide) rfl (fun ls hl => ?_)
            refine lv_goto (tgt := 17) hx hb dX3_removeFirst_51 (by decide) ?_
            exact ih (i + 1) (va_up f (i - 1) (f i)) (fun k => rf_step hf hi k) (by omega) (by omega) (by omega) _ _ hP hD hS ls (lv_sub hl [1, 2, 0] rfl)
    exact loop _ 1 (a 2) (fun k => by rw [if_neg (by omega)]) (by omega) (by omega) (Nat.lt_succ_self _) _ _ hP hD hS ls (lv_sub hl [2, 1, 0] rfl)
  · replace c_1 : ¬ (0 < (n 10)) := fun z => c_1 ((nI_ltI (a := 0) (b := (n 10)) (by omega) (by omega)).mpr z)
    exfalso; omega
