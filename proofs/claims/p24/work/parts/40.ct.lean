/-! ===== contracts: without the throw that can't be, over a larger or permuted world; the law's own words ===== -/
theorem fm_of {α β : Type} {f : α → Option β} : ∀ {is : List α} {w : List β}, is.map f = w.map some → is.filterMap f = w
  | [], [], _ => rfl
  | [], b :: w, h => by cases h
  | a :: is, [], h => by cases h
  | a :: is, b :: w, h => by
    have h1 : f a = some b := (List.cons.inj h).1
    have h2 : is.map f = w.map some := (List.cons.inj h).2
    rw [List.filterMap_cons_some h1, fm_of h2]
theorem ev.nar {A B : Nat → Prop} {U : State} {H : Heap} (k : ev A U H) (hB : ∀ q, B q → A q) : ev B U H := by
  obtain ⟨k1, ⟨k2, k3⟩, k0, k4, ⟨t1, k5, k6⟩, ⟨t2, k7, k8⟩, ⟨aK, aV, k9, k10⟩⟩ := k
  exact ⟨k1, ⟨k2.narrow hB, k3.narrow hB⟩, k0.narrow hB, k4.narrow hB, ⟨t1, k5.narrow hB, k6.narrow hB⟩, ⟨t2, k7.narrow hB, k8.narrow hB⟩, aK, aV, k9.narrow hB, k10⟩
section RE
variable {l : Launch} {y : MethodName} {ws : List Cond} {rm : Room} {z : Bool} {D : va_G} {tys : List (ClassId × FieldType)} {sz : Nat} {av : List Value} {mc ms : Nat}
theorem CT.re {w wc wr w1 w2 : va_W} {post : Int32 → Prop} (h : CT l y ws rm z D tys wc sz av (qi D tys post w1) mc ms) (isC isR is : List Nat) (hC : isC.map (fun i => w[i]?) = wc.map some) (hnC : va_nd isC = true) (hR : isR.map (fun i => w[i]?) = wr.map some) (hn : va_nd isR = true) (hdis : ∀ i ∈ isR, i ∉ isC) (hn2 : va_nd is = true) (hs2 : is.map (fun i => (wr ++ w1)[i]?) = w2.map some) : CT l y ws rm z D tys w sz av (qi D tys post w2) mc ms := by
  intro p e ha hc hk s m args below hf happ hP hK
  obtain ⟨rfl, hsz, hp, hkk, hd, hev⟩ := hP
  subst hsz
  have hF : ∀ q, va_A wc s.heap.size q → va_A w s.heap.size q := va_free (H0 := s.heap) (locs := []) hd.self va_S.rf (fun q h => Or.inr h) isC hC
  obtain ⟨n, o, h1, h2, h3, ⟨⟨r, u, e1, e2, e3⟩, f1, f2⟩, L, fL, gL⟩ := h p e ha hc hk s m _ below hf happ ⟨rfl, rfl, hp.sub isC (fm_of hC), hkk, hd.sub isC hnC hC, fun zz => (hev zz).nar hF⟩ hK
  obtain ⟨P2, D2⟩ := aft hp hd.self isC isR is hC hR hn hdis hF f2 rfl e3 (fm_of hs2) hn2 hs2
  exact ⟨n, o, h1, h2, h3, ⟨⟨r, u, e1, e2, P2, e3.2.1, D2⟩, f1, fun q g1 g2 => f2 q g1 (fun z => g2 (hF q z))⟩, L, fL, fun q hq => hF _ (gL q hq)⟩
theorem CT.post {w w1 : va_W} {post post' : Int32 → Prop} (h : CT l y ws rm z D tys w sz av (qi D tys post w1) mc ms) (hp : ∀ r, post r → post' r) : CT l y ws rm z D tys w sz av (qi D tys post' w1) mc ms := by
  intro p e ha hc hk s m args below hf happ hP hK
  obtain ⟨n, o, h1, h2, h3, ⟨⟨r, u, e1, e2, e3⟩, f1, f2⟩, L, fL, gL⟩ := h p e ha hc hk s m _ below hf happ hP hK
  exact ⟨n, o, h1, h2, h3, ⟨⟨r, u, e1, hp r e2, e3⟩, f1, f2⟩, L, fL, gL⟩
theorem CL.ct {w : va_W} {Q : (Nat → Prop) → Array Value → State → Outcome → State → Prop} (h : CL l y ws rm z D tys w sz av Q mc ms) : CT l y ws rm z D tys w sz av Q mc ms := by
  intro p e ha hc hk s m args below hf happ hP hK
  obtain ⟨n, o, h1, h2, h3, hh⟩ := h p e ha hc hk s m args below hf happ hP hK
  rcases hh with hh | ⟨q, -, E, ce, L, ⟨u, -, ⟨hno, -⟩, -⟩, -⟩
  · exact ⟨n, o, h1, h2, h3, hh⟩
  · exact hno.elim
theorem CX.ctq {w w1 : va_W} {post post' : Int32 → Prop} {px : String → Prop} (h : CX l y ws rm z D tys w sz av (qi D tys post w1) px mc ms) (hp : ∀ r, post r → post' r) (hno : ∀ E, ¬ px E) : CT l y ws rm z D tys w sz av (qi D tys post' w1) mc ms := by
  intro p e ha hc hk s m args below hf happ hP hK
  obtain ⟨n, o, h1, h2, h3, hh⟩ := h p e ha hc hk s m args below hf happ hP hK
  rcases hh with ⟨⟨⟨r, u, e1, e2, e3⟩, f1, f2⟩, L, fL, gL⟩ | ⟨q, -, E, ce, L, ⟨u, -, ⟨hx, -⟩, -⟩, -⟩
  · exact ⟨n, o, h1, h2, h3, ⟨⟨r, u, e1, hp r e2, e3⟩, f1, f2⟩, L, fL, gL⟩
  · exact absurd hx (hno E)
end RE
/-! numbers -/
def lowF (v n : Int32) : Int32 := (v &&& 2147483647) - (v &&& 2147483647) / n * n
noncomputable def tlF (p0 p1 : Int32) (n10 : Nat) (f : Nat → Nat) : Int32 := @ite Int32 ((p0 = 0 ∨ p0 = 1) ∧ ¬ p1 < 0 ∧ p1 < nI n10) (Classical.propDecidable _) (nI (textM (f p1.toNatClampNeg)).length) (-99999)
noncomputable def hkF (p0 p1 : Int32) (n8 : Nat) (f : Nat → Nat) : Int32 := @ite Int32 ((p0 = 0 ∨ p0 = 1) ∧ ¬ p1 < 0 ∧ p1 < nI n8) (Classical.propDecidable _) (nI (f p1.toNatClampNeg)) (-99999)
theorem hk_end {p0 : Int32} {n8 : Nat} {f : Nat → Nat} : hkF p0 (nI n8) n8 f = -99999 := if_neg fun z => Int32.lt_irrefl z.2.2
theorem tl_end {p0 : Int32} {n : Nat} {f : Nat → Nat} : tlF p0 (nI n) n f = -99999 := if_neg fun z => Int32.lt_irrefl z.2.2
theorem tl_neg {p0 : Int32} {n : Nat} {f : Nat → Nat} : tlF p0 (-1) n f = -99999 := if_neg fun z => z.2.1 (by decide)
