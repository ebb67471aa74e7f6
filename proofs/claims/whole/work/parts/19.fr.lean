/-! what a method leaves alone: a list of (cell, 0) for whole cells, (cell, slot + 1) for single places -/
def jfo (W : List (Nat × Nat)) (c k : Nat) : Bool := W.all (fun q => !(q.1 == c && (q.2 == 0 || q.2 == k + 1)))
def jfr (W : List (Nat × Nat)) (m m' : jMem) : Prop := ∀ c k, jfo W c k = true → m' c k = m c k
theorem jfr_rf {W : List (Nat × Nat)} {m : jMem} : jfr W m m := fun _ _ _ => rfl
theorem jfr_tr {W : List (Nat × Nat)} {a b c : jMem} (h1 : jfr W a b) (h2 : jfr W b c) : jfr W a c := fun x k h => (h2 x k h).trans (h1 x k h)
theorem jfo_mem {W : List (Nat × Nat)} {c k : Nat} (h : jfo W c k = true) {q : Nat × Nat} (hq : q ∈ W) : ¬ (q.1 = c ∧ (q.2 = 0 ∨ q.2 = k + 1)) := by
  have h1 := List.all_eq_true.mp h q hq
  intro ⟨e1, e2⟩
  subst e1
  rcases e2 with e2 | e2 <;> simp [e2] at h1
theorem jmem_of {W : List (Nat × Nat)} {q : Nat × Nat} (h : W.contains q = true) : q ∈ W := List.contains_iff_mem.mp h
theorem jfr_sub {W W' : List (Nat × Nat)} {a b : jMem} (h : (W.all fun q => W'.contains q) = true) (h1 : jfr W a b) : jfr W' a b := by
  intro c k hk
  refine h1 c k (List.all_eq_true.mpr fun q hq => ?_)
  exact List.all_eq_true.mp hk q (jmem_of (List.all_eq_true.mp h q hq))
theorem jfr_up {W : List (Nat × Nat)} {m m' : jMem} {c k : Nat} {v : Int32} (hm : jup m c k v = m') (h : W.contains (c, k + 1) = true) : jfr W m m' := by
  intro c' k' hk
  subst hm
  unfold jup
  by_cases e : c' = c ∧ k' = k
  · exact absurd ⟨e.1.symm, Or.inr (by rw [e.2])⟩ (jfo_mem hk (jmem_of h))
  · exact if_neg e
theorem jfr_ua {W : List (Nat × Nat)} {m m' : jMem} {c k : Nat} {v : Int32} (hm : jup m c k v = m') (h : W.contains (c, 0) = true) : jfr W m m' := by
  intro c' k' hk
  subst hm
  unfold jup
  by_cases e : c' = c ∧ k' = k
  · exact absurd ⟨e.1.symm, Or.inl rfl⟩ (jfo_mem hk (jmem_of h))
  · exact if_neg e
theorem jfr_cp {W : List (Nat × Nat)} {m m' : jMem} {a b : Nat} {sp dp n : Int32} (hm : jcpM m a sp b dp n = m') (h : W.contains (b, 0) = true) : jfr W m m' := by
  intro c' k' hk
  subst hm
  unfold jcpM
  by_cases e : c' = b
  · exact absurd ⟨e.symm, Or.inl rfl⟩ (jfo_mem hk (jmem_of h))
  · rw [if_neg e]
theorem jfr_nil {m m' : jMem} (h : jfr [] m m') : m' = m := by
  funext c k
  exact h c k rfl
theorem jem {p q : Prop} (h1 : p → q) (h2 : ¬ p → q) : q := (Classical.em p).elim h1 h2
theorem jem_ne {p q : Prop} (h1 : ¬ p → q) (h2 : p → q) : q := (Classical.em p).elim h2 h1
theorem jrows_x {c n : Nat} (hc : jlen 3 c = n) {W : List (Nat × Nat)} (h : (List.range n).all (fun i => W.contains (jfx c i, 0)) = true) {i : Int32} {x : Nat} (e : jfx c i.toNatClampNeg = x) (g : vp_in i (jlen 3 c)) : W.contains (x, 0) = true := by
  subst e
  rw [hc] at g
  exact List.all_eq_true.mp h i.toNatClampNeg (List.mem_range.mpr (Nat.not_le.mp fun q => g (Or.inr q)))
theorem jrows_46 (W : List (Nat × Nat)) (h : (List.range 6).all (fun i => W.contains (jfx 46 i, 0)) = true) {i : Int32} {x : Nat} (e : jfx 46 i.toNatClampNeg = x) (g : vp_in i (jlen 3 46)) : W.contains (x, 0) = true := jrows_x (c := 46) (n := 6) rfl h e g
theorem jrows_53 (W : List (Nat × Nat)) (h : (List.range 6).all (fun i => W.contains (jfx 53 i, 0)) = true) {i : Int32} {x : Nat} (e : jfx 53 i.toNatClampNeg = x) (g : vp_in i (jlen 3 53)) : W.contains (x, 0) = true := jrows_x (c := 53) (n := 6) rfl h e g
theorem jrows_66 (W : List (Nat × Nat)) (h : (List.range 6).all (fun i => W.contains (jfx 66 i, 0)) = true) {i : Int32} {x : Nat} (e : jfx 66 i.toNatClampNeg = x) (g : vp_in i (jlen 3 66)) : W.contains (x, 0) = true := jrows_x (c := 66) (n := 6) rfl h e g
theorem jrows_76 (W : List (Nat × Nat)) (h : (List.range 6).all (fun i => W.contains (jfx 76 i, 0)) = true) {i : Int32} {x : Nat} (e : jfx 76 i.toNatClampNeg = x) (g : vp_in i (jlen 3 76)) : W.contains (x, 0) = true := jrows_x (c := 76) (n := 6) rfl h e g
theorem jrows_96 (W : List (Nat × Nat)) (h : (List.range 12).all (fun i => W.contains (jfx 96 i, 0)) = true) {i : Int32} {x : Nat} (e : jfx 96 i.toNatClampNeg = x) (g : vp_in i (jlen 3 96)) : W.contains (x, 0) = true := jrows_x (c := 96) (n := 12) rfl h e g
theorem jhW {W : List (Nat × Nat)} {n k off : Nat} (h : jhok n) (h3 : W.contains (3 + off, k) = true) (h12 : W.contains (12 + off, k) = true) : W.contains (n + off, k) = true := by
  rcases h with h | h
  · rw [h]; exact h3
  · rw [h]; exact h12
