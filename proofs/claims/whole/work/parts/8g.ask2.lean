/-! ask -/
theorem lp_ca12 {S a : Nat} {k : jMem → Option (Unit × jMem)} (h12 : S ≤ 12) (ha : a < S) : ∀ (d n c : Nat) (m : jMem), c + d = S → d < n → m 89 6 = nI S → (∀ b, b < c → m (97 + a) b = nI 0) → ∃ m', lp_O_countAhead_12 (nI a) k n (nI c) m = k m' ∧ (∀ r, r ≠ 97 + a → m' r = m r) ∧ ∀ b, b < S → m' (97 + a) b = nI 0 := by
  intro d
  induction d with
  | zero =>
    intro n c m hc hn hS h
    obtain ⟨n, rfl⟩ := ex_succ hn
    have e : c = S := by omega
    subst e
    refine ⟨m, ?_, fun _ _ => rfl, h⟩
    unfold lp_O_countAhead_12
    simp (disch := omega) only [lits, negs, nI_add, nn1, leT, leF, ltT, ltF, eqF, mF1, mF2, mF3, mF4, mF5, mF6, mTT, eq_self, Nat.reduceEqDiff, ↓reduceIte, jbd_s, jpu_e, tI0, tI1, jgd_tI, jgd_bb, tfF, ftF, jup_at, jup_oc, jup_ok, hS]
  | succ d ih =>
    intro n c m hc hn hS h
    obtain ⟨n, rfl⟩ := ex_succ hn
    obtain ⟨m', e, f1, f2⟩ := ih n (c + 1) (jup m (97 + a) c (nI 0)) (by omega) (by omega) (by rw [jup_oc (by omega)]; exact hS) (fun b hb => by
      by_cases q : b = c
      · rw [q, jup_at]
      · rw [jup_ok q]; exact h b (by omega))
    refine ⟨m', ?_, fun r hr => by rw [f1 r hr, jup_oc hr], f2⟩
    rw [← e]
    conv => lhs; unfold lp_O_countAhead_12
    simp only [lits]
    simp (disch := omega) only [lits, negs, nI_add, nn1, leT, leF, ltT, ltF, eqF, mF1, mF2, mF3, mF4, mF5, mF6, mTT, eq_self, Nat.reduceEqDiff, ↓reduceIte, ↓jbd_s, ↓jpu_e, tI0, tI1, jgd_tI, jgd_bb, tfF, ftF, jup_at, jup_oc, jup_ok, hS, ↓l3_96, ↓str_96]
theorem lp_ca2 {S : Nat} {k : jMem → Option (Unit × jMem)} (h12 : S ≤ 12) : ∀ (d n a : Nat) (m : jMem), a + d = S → d < n → m 89 6 = nI S → (∀ r b, r < a → b < S → m (97 + r) b = nI 0) → ∃ m', lp_O_countAhead_2 k n (nI a) m = k m' ∧ (∀ r, (r < 97 ∨ 108 < r) → m' r = m r) ∧ ∀ r b, r < S → b < S → m' (97 + r) b = nI 0 := by
  intro d
  induction d with
  | zero =>
    intro n a m hc hn hS h
    obtain ⟨n, rfl⟩ := ex_succ hn
    have e : a = S := by omega
    subst e
    refine ⟨m, ?_, fun _ _ => rfl, h⟩
    unfold lp_O_countAhead_2
    simp (disch := omega) only [lits, negs, nI_add, nn1, leT, leF, ltT, ltF, eqF, mF1, mF2, mF3, mF4, mF5, mF6, mTT, eq_self, Nat.reduceEqDiff, ↓reduceIte, jbd_s, jpu_e, tI0, tI1, jgd_tI, jgd_bb, tfF, ftF, jup_at, jup_oc, jup_ok, hS]
  | succ d ih =>
    intro n a m hc hn hS h
    obtain ⟨n, rfl⟩ := ex_succ hn
    obtain ⟨m1, e1, g1, g2⟩ := lp_ca12 (a := a) (k := fun m3 => lp_O_countAhead_2 k n (nI (a + 1)) m3) h12 (by omega) S 5000 0 m (by omega) (by omega) hS (fun b hb => absurd hb (Nat.not_lt_zero b))
    obtain ⟨m', e, f1, f2⟩ := ih n (a + 1) m1 (by omega) (by omega) (by rw [g1 89 (by omega)]; exact hS) (fun r b hr hb => by
      by_cases q : r = a
      · rw [q]; exact g2 b hb
      · rw [g1 (97 + r) (by omega)]; exact h r b (by omega) hb)
    refine ⟨m', ?_, fun r hr => by rw [f1 r hr, g1 r (by omega)], f2⟩
    rw [← e, ← e1]
    conv => lhs; unfold lp_O_countAhead_2
    simp only [lits]
    simp (disch := omega) only [lits, negs, nI_add, nn1, leT, leF, ltT, ltF, eqF, mF1, mF2, mF3, mF4, mF5, mF6, mTT, eq_self, Nat.reduceEqDiff, ↓reduceIte, jbd_s, jpu_e, tI0, tI1, jgd_tI, jgd_bb, tfF, ftF, jup_at, jup_oc, jup_ok, hS]
theorem lp_ca53 {S : Nat} {k : jMem → Option (Unit × jMem)} (h12 : S ≤ 12) : ∀ (d n t : Nat) (m : jMem), t + d = 2 ^ S → d < n → (∀ u, u < t → m 95 u = if u = 0 then nI 1 else nI 0) → ∃ m', lp_O_countAhead_53 (nI (2 ^ S - 1)) k n (nI t) m = k m' ∧ (∀ r, r ≠ 95 → m' r = m r) ∧ ∀ u, u < 2 ^ S → m' 95 u = if u = 0 then nI 1 else nI 0 := by
  obtain ⟨p1, p2⟩ := two_lim h12
  intro d
  induction d with
  | zero =>
    intro n t m hc hn h
    obtain ⟨n, rfl⟩ := ex_succ hn
    refine ⟨m, ?_, fun _ _ => rfl, fun u hu => h u (by omega)⟩
    unfold lp_O_countAhead_53
    rw [if_pos (nI_lt (by omega) (by omega))]
  | succ d ih =>
    intro n t m hc hn h
    obtain ⟨n, rfl⟩ := ex_succ hn
    have hst : ∀ v, v = (if t = 0 then nI 1 else nI 0) → ∀ u, u < t + 1 → jup m 95 t v 95 u = if u = 0 then nI 1 else nI 0 := fun v hv u hu => by
      by_cases q : u = t
      · rw [q, jup_at]; exact hv
      · rw [jup_ok q]; exact h u (by omega)
    by_cases q : t = 0
    · obtain ⟨m', e, f1, f2⟩ := ih n (t + 1) (jup m 95 t (nI 1)) (by omega) (by omega) (hst _ (if_pos q).symm)
      refine ⟨m', ?_, fun r hr => by rw [f1 r hr, jup_oc hr], f2⟩
      rw [← e]
      conv => lhs; unfold lp_O_countAhead_53
      simp only [lits]
      rw [if_neg (nI_nlt (by omega) (by omega)), if_pos (by rw [q]), st_95 (by omega), nI_add]
    · obtain ⟨m', e, f1, f2⟩ := ih n (t + 1) (jup m 95 t (nI 0)) (by omega) (by omega) (hst _ (if_neg q).symm)
      refine ⟨m', ?_, fun r hr => by rw [f1 r hr, jup_oc hr], f2⟩
      rw [← e]
      conv => lhs; unfold lp_O_countAhead_53
      simp only [lits]
      rw [if_neg (nI_nlt (by omega) (by omega)), if_neg (fun z => q ((nI_eq (by omega) (by omega)).mp z)), st_95 (by omega), nI_add]
theorem e_countAhead {S : Nat} {nd : Nat → Int32} {m : jMem} (h12 : S ≤ 12) (hS : m 89 6 = nI S) (hnd : m 93 = nd) (hT : ∀ t, t < 2 ^ S → m 94 t = nI (rsN nd S t)) : ∃ m', f_O_countAhead m = some ((), m') ∧ (∀ r, r ≠ 95 → (r < 97 ∨ 108 < r) → m' r = m r) ∧ ∀ a b, a < S → b < S → a ≠ b → m' (97 + a) b = nI (rsN (upN nd a b) S 0) := by
  obtain ⟨p1, p2⟩ := two_lim h12
  obtain ⟨m1, e1, f1, f2⟩ := lp_ca2 (k := fun m4 => jbd (f_C_bit (m4 89 6) m4) fun x5 m6 => lp_O_countAhead_53 (x5 - nI 1) (fun m9 => lp_O_countAhead_81 (x5 - nI 1) (fun m13 => some ((), m13)) 5000 (nI 0) m9) 5000 (nI 0) m6) h12 S 5000 0 m (by omega) (by omega) hS (fun r b hr => absurd hr (Nat.not_lt_zero r))
  obtain ⟨m2, e2, g1, g2⟩ := lp_ca53 (S := S) (k := fun m9 => lp_O_countAhead_81 (nI (2 ^ S - 1)) (fun m13 => some ((), m13)) 5000 (nI 0) m9) h12 (2 ^ S) 5000 0 m1 (by omega) (by omega) (fun u hu => absurd hu (Nat.not_lt_zero u))
  have h2 : ∀ r, r ≠ 95 → (r < 97 ∨ 108 < r) → m2 r = m r := fun r a b => by rw [g1 r a, f1 r b]
  obtain ⟨m3, e3, k1, k2⟩ := lp_ca81 (nd := nd) (k := fun m13 => some ((), m13)) h12 (2 ^ S - 1) 5000 0 m2 (by omega) (by omega) (by rw [h2 89 (by omega) (by omega)]; exact hS) (by rw [h2 93 (by omega) (by omega)]; exact hnd) (fun t ht => by rw [h2 94 (by omega) (by omega)]; exact hT t ht)
  refine ⟨m3, ?_, fun r a b => by rw [k1 r a b, h2 r a b], fun a b ha hb hab => ?_⟩
  · unfold f_O_countAhead
    simp only [lits]
    rw [e1, f1 89 (by omega), hS, e_bit, jbd_s, n_full h12, e2, e3]
  · rw [← phi_full (nd := nd) (b := b) (m := m3) ha, k2 a b ha hb hab, phi_0 (by rw [g1 (97 + a) (by omega)]; exact f2 a b ha hb) (by rw [g2 0 (by omega), if_pos rfl]) (fun t h1 h2 => by rw [g2 t h2, if_neg (by omega)])]
