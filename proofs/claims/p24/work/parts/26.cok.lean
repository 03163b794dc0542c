/-! ===== what the class's rows hold stays small ===== -/
abbrev cok (c o : CS) : Prop := c.2.1 6 ≤ 200 ∧ c.2.1 7 < 1024 ∧ ba c.2.2 ∧ ba o.2.2
theorem ba_up {a : Nat → Nat → Nat} {k : Nat} {f : Nat → Nat} (h : ba a) (hf : ∀ j, f j < 16777216) : ba (va_up a k f) := by
  intro i j
  by_cases e : i = k
  · subst e; rw [up_s]; exact hf j
  · rw [up_n e]; exact h i j
theorem ba_app {lim c v : Nat} {f : Nat → Nat} (hf : ∀ j, f j < 16777216) (hv : v < 16777216) (j : Nat) : (cApp lim c f v).2 j < 16777216 := by
  unfold cApp
  by_cases q : lim ≤ c
  · rw [if_pos q]; exact hf j
  · rw [if_neg q]; exact up_all hf hv j
theorem cok_put {tm : Int32} {mm : Nat} {c o : CS} (h : cok c o) (hm : mm < 16777216) : cok (cPutW tm mm c o).1 (cPutW tm mm c o).2 :=
  ⟨h.1, h.2.1, h.2.2.1, ba_up h.2.2.2 (ba_app (h.2.2.2 2) hm)⟩
theorem pkm_lt9 {n k t g : Nat} (hn : n < 256) (hk : k < 8) (ht : t < 1024) (hg : g < 8) : pkm n k t (g * 2097152) < 16777216 := mg_lt hn hk ht hg
theorem cok_send {tm : Int32} {kk tt g : Nat} {c o : CS} (h : cok c o) (hk : kk < 8) (ht : tt < 1024) (hg : g < 8) : cok (cSend tm kk tt (g * 2097152) c o).2.1 (cSend tm kk tt (g * 2097152) c o).2.2 := by
  unfold cSend
  by_cases q : 200 ≤ c.2.1 6
  · rw [if_pos q]; exact h
  · rw [if_neg q]
    have hp := pkm_lt9 (n := c.2.1 6 + 1) (g := g) (by omega) hk ht hg
    have e : cApp 200 (c.2.1 6) (c.2.2 0) (pkm (c.2.1 6 + 1) kk tt (g * 2097152)) = (c.2.1 6 + 1, va_up (c.2.2 0) (c.2.1 6) (pkm (c.2.1 6 + 1) kk tt (g * 2097152))) := if_neg q
    rw [e]
    exact cok_put (c := (c.1, va_up c.2.1 6 (c.2.1 6 + 1), va_up c.2.2 0 (va_up (c.2.2 0) (c.2.1 6) (pkm (c.2.1 6 + 1) kk tt (g * 2097152))))) ⟨show c.2.1 6 + 1 ≤ 200 by omega, h.2.1, ba_up h.2.2.1 (up_all (h.2.2.1 0) hp), h.2.2.2⟩ hp
theorem cok_x {x : Nat → Int32} {c o : CS} (h : cok c o) : cok (x, c.2) o := h
theorem cok_logon2 {tm : Int32} {mm : Nat} {c o : CS} (h : cok c o) : cok (cLogon2 tm mm c o).1 (cLogon2 tm mm c o).2 := by
  unfold cLogon2
  by_cases q : mm.testBit 23 = true
  · rw [if_pos q]; exact cok_send (g := 0) (cok_x h) (by omega) (by omega) (by omega)
  · rw [if_neg q]
    by_cases q2 : c.1 0 = 1
    · rw [if_pos q2]; exact h
    · rw [if_neg q2]; exact h
theorem cok_bus {mm : Nat} {c o : CS} (h : cok c o) : cok (cBus c mm) o := by
  have hf : ∀ j, (cBusP (c.1 9) (c.2.1 8) (c.2.2 1) mm).2.2 j < 16777216 := fun j => by
    have ht := td_lt mm
    unfold cBusP
    by_cases q : mm.testBit 22 = true
    · rw [if_pos q]
      by_cases q2 : ∃ k, k < c.2.1 8 ∧ c.2.2 1 k = td mm
      · rw [if_pos q2]; exact h.2.2.1 1 j
      · rw [if_neg q2]; exact ba_app (h.2.2.1 1) (by omega) j
    · rw [if_neg q]; exact ba_app (h.2.2.1 1) (by omega) j
  exact ⟨h.1, h.2.1, ba_up h.2.2.1 hf, h.2.2.2⟩
theorem cok_fill {tm : Int32} {b : Nat} {fo : Option Nat} {c o : CS} (h : cok c o) (hfo : ∀ f, fo = some f → f < 256) (hb : b < 1024) : cok (cFill tm fo b c o).1 (cFill tm fo b c o).2 := by
  cases fo with
  | none => exact ⟨h.1, h.2.1, h.2.2.1, ba_up h.2.2.2 (h.2.2.2 2)⟩
  | some f => exact cok_put h (pkm_lt9 (g := 1) (hfo f rfl) (by omega) hb (by omega))
theorem or_lt {m : Nat} (h : m < 16777216) : m ||| 2097152 < 16777216 := Nat.or_lt_two_pow (n := 24) h (by omega)
theorem cok_rsl {tm : Int32} : ∀ (k i : Nat) (fo : Option Nat) (c o : CS), cok c o → i + k ≤ 256 → (∀ f, fo = some f → f < 256) → cok (cRsL tm k i fo c o).2.1 (cRsL tm k i fo c o).2.2 ∧ ∀ f, (cRsL tm k i fo c o).1 = some f → f < 256
  | 0, _, _, _, _, h, _, hf => ⟨h, hf⟩
  | k + 1, i, fo, c, o, h, hi, hf => by
    unfold cRsL
    by_cases q : hasB (c.2.1 6) (c.2.2 0) i
    · rw [if_pos q]
      exact cok_rsl k (i + 1) none _ _ (cok_put (cok_fill h hf (by omega)) (or_lt (h.2.2.1 0 (i - 1)))) (by omega) (fun f z => by cases z)
    · rw [if_neg q]
      refine cok_rsl k (i + 1) _ c o h (by omega) (fun f z => ?_)
      cases fo with
      | none => cases z; omega
      | some g => cases z; exact hf f rfl
theorem cok_resend {tm : Int32} {frm : Nat} {c o : CS} (h : cok c o) (hfr : frm < 1024) : cok (cResend tm frm c o).1 (cResend tm frm c o).2 := by
  have h1 := h.1
  unfold cResend
  by_cases q : max frm 1 ≤ c.2.1 6 + 1
  · obtain ⟨r1, r2⟩ := cok_rsl (tm := tm) (c.2.1 6 + 1 - max frm 1) (max frm 1) none c o h (by omega) (fun f z => by cases z)
    exact cok_fill r1 r2 (by omega)
  · rw [show c.2.1 6 + 1 - max frm 1 = 0 by omega]
    exact cok_fill (fo := none) h (fun f z => by cases z) (by omega)
theorem cok_handle {tm : Int32} {mm : Nat} {c o : CS} (h : cok c o) : cok (cHandle tm mm c o).1 (cHandle tm mm c o).2 := by
  unfold cHandle
  by_cases k2 : kd mm = 2
  · rw [if_pos k2]; exact cok_send (g := 0) h (by omega) (by omega) (by omega)
  rw [if_neg k2]
  by_cases k5 : kd mm = 5
  · rw [if_pos k5]; exact cok_bus h
  rw [if_neg k5]
  by_cases k6 : kd mm = 6
  · rw [if_pos k6]; exact cok_x (cok_send (tm := tm) (kk := 6) (tt := 0) (g := 0) h (by omega) (by omega) (by omega))
  rw [if_neg k6]; exact h
theorem cok_ask {tm : Int32} {c o : CS} (h : cok c o) : cok (cAsk tm c o).1 (cAsk tm c o).2 := by
  unfold cAsk
  by_cases q : c.1 0 = 2
  · rw [if_pos q]
    by_cases q2 : c.1 1 = 0
    · rw [if_pos q2]; exact cok_x (cok_send (tm := tm) (kk := 3) (tt := c.2.1 7) (g := 0) h (by omega) h.2.1 (by omega))
    · rw [if_neg q2]; exact h
  · rw [if_neg q]; exact h
theorem cok_recv2 {tm : Int32} {mm : Nat} {c o : CS} (h : cok c o) : cok (cRecv2 tm mm c o).1 (cRecv2 tm mm c o).2 := by
  have ht := td_lt mm
  have hn := nu_lt mm
  have h5 : cok (va_up c.1 1 0, va_up c.2.1 7 (if kd mm = 4 then td mm else nu mm + 1), c.2.2) o := ⟨h.1, by
    show (if kd mm = 4 then td mm else nu mm + 1) < 1024
    by_cases q : kd mm = 4
    · rw [if_pos q]; exact ht
    · rw [if_neg q]; omega, h.2.2⟩
  unfold cRecv2
  by_cases q : c.2.1 7 ≤ nu mm
  · rw [if_pos q]
    by_cases q2 : nu mm ≤ c.2.1 7
    · rw [if_pos q2]
      by_cases k0 : kd mm = 0
      · rw [if_pos k0]; exact cok_logon2 h5
      rw [if_neg k0]
      by_cases k3 : kd mm = 3
      · rw [if_pos k3]; exact cok_resend h5 ht
      rw [if_neg k3]; exact cok_handle h5
    · rw [if_neg q2]
      by_cases k0 : kd mm = 0
      · rw [if_pos k0]; exact cok_ask (cok_logon2 h)
      rw [if_neg k0]
      by_cases k3 : kd mm = 3
      · rw [if_pos k3]; exact cok_ask (cok_resend h ht)
      rw [if_neg k3]; exact cok_ask h
  · rw [if_neg q]; exact h
theorem cok_receive {tm : Int32} {mm : Nat} {c o : CS} (h : cok c o) : cok (cReceive tm mm c o).1 (cReceive tm mm c o).2 := by
  unfold cReceive
  by_cases k0 : kd mm = 0
  · rw [if_pos k0]; exact cok_recv2 h
  rw [if_neg k0]
  by_cases q : c.1 0 = 2
  · rw [if_pos q]; exact cok_recv2 h
  rw [if_neg q]; exact h
theorem cok_tick {tm : Int32} {c o : CS} (h : cok c o) : cok (cTick tm c o).1 (cTick tm c o).2 := by
  have hs : ∀ (x : Nat → Int32) kk, kk < 8 → cok (cSend tm kk 0 0 (x, c.2) o).2.1 (cSend tm kk 0 0 (x, c.2) o).2.2 := fun x kk hk => cok_send (g := 0) (cok_x h) hk (by omega) (by omega)
  unfold cTick
  by_cases q : c.1 0 = 2
  · rw [if_pos q]
    by_cases q1 : tm - c.1 3 < 8
    · rw [if_pos q1]
      by_cases q2 : tm - c.1 3 < 5
      · rw [if_pos q2]
        by_cases q3 : tm - c.1 4 < 3
        · rw [if_pos q3]; exact h
        · rw [if_neg q3]; exact hs _ 1 (by omega)
      · rw [if_neg q2]
        by_cases q4 : c.1 5 = 0
        · rw [if_pos q4]; exact hs _ 2 (by omega)
        · rw [if_neg q4]
          by_cases q3 : tm - c.1 4 < 3
          · rw [if_pos q3]; exact h
          · rw [if_neg q3]; exact hs _ 1 (by omega)
    · rw [if_neg q1]; exact h
  · rw [if_neg q]; exact h
theorem sh_lt {c : Nat} {f : Nat → Nat} (h : ∀ j, f j < 16777216) (j : Nat) : cShift c f j < 16777216 := by
  unfold cShift
  by_cases q : j + 1 < c
  · rw [if_pos q]; exact h _
  · rw [if_neg q]; exact h _
theorem cok_taken {tm : Int32} {c o : CS} (h : cok c o) : cok (cTaken tm c) o := ⟨h.1, h.2.1, ba_up h.2.2.1 (sh_lt (h.2.2.1 2)), h.2.2.2⟩
