/-! ===== what the calls ask, from what always holds ===== -/
section FACTS
variable {sd : Nat} {c o : CS} {s : RS}
theorem f_bd (h : rel2 sd c o s) (hi : inv s) : bd c.2.1 := by
  have hw := hi.1 sd h.hs
  have hz := hi.1 (1 - sd) (by have := h.hs; omega)
  have m7 := h.a.m7
  have n5 := hw.2.2.2.1.2
  have n4 := hz.2.2.1.2
  exact ⟨h.na, by omega, h.ka, h.ca⟩
theorem f_rw (hi : inv s) : rw' s.2 := fun t ht => ⟨(hi.1 t ht).2.2.1.1, (hi.1 t ht).2.2.1.2, (hi.1 t ht).2.2.2.2.2.1⟩
theorem f_nb (hi : inv s) : nb s.2 := hi.2.2.2.2.2.2.2
theorem f_k9 (hi : inv s) : ∀ j, j < 120 → s.2 19 j < 7 := fun j _ => hi.2.2.2.2.1 j
theorem f_msg (h : rel2 sd c o s) (hi : inv s) {j : Nat} (hj : j < c.2.1 10) : c.2.2 2 j = mg (s.2 18 (60 * sd + j)) (s.2 19 (60 * sd + j)) (s.2 20 (60 * sd + j)) (s.2 21 (60 * sd + j)) ∧ okq (s.2 18 (60 * sd + j)) (s.2 19 (60 * sd + j)) (s.2 20 (60 * sd + j)) (s.2 21 (60 * sd + j)) := by
  have hw := hi.1 sd h.hs
  have hz := hi.1 (1 - sd) (by have := h.hs; omega)
  have w := hw.2.2.2.2.2.2 j (by rw [← h.a.m10]; exact hj)
  have n4 := hz.2.2.1.2
  exact ⟨h.a.b2 j hj, by have := w.2.1; omega, hi.2.2.2.2.1 _, hi.2.2.2.2.2.1 _, hi.2.2.2.2.2.2.1 _⟩
theorem f_okm (h : rel2 sd c o s) (hi : inv s) : ∀ j, j < c.2.1 10 → okm (c.2.2 2 j) := fun j hj => by
  obtain ⟨e, q⟩ := f_msg h hi hj
  rw [e]
  exact ⟨mg_lt q.1 (by omega) (by omega) q.2.2.2, by rw [mg_kd q.1 (by omega) (by omega)]; exact q.2.1, by rw [mg_td q.1 (by omega) (by omega)]; exact q.2.2.1⟩
theorem f_01 (h : rel2 sd c o s) (hi : inv s) : c.1 1 = 0 ∨ c.1 1 = 1 := by rw [h.a.e1]; exact (hi.1 sd h.hs).1
theorem f_e (h : rel2 sd c o s) (hi : inv s) : 1 ≤ c.2.1 7 := by rw [h.a.m7]; exact (hi.1 sd h.hs).2.2.2.1.1
theorem f_h (hi : inv s) (hs : sd < 2) : s.2 10 sd ≤ 200 ∧ s.2 5 sd ≤ 201 := by
  have hw := hi.1 sd hs
  have hz := hi.1 (1 - sd) (by omega)
  have a := hw.2.2.2.1.2
  have b := hz.2.2.1.2
  have d := hw.2.2.2.2.1
  omega
end FACTS
