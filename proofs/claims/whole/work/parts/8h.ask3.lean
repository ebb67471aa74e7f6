/-! ask, the whole -/
def askM (S : Nat) (nd : Nat → Int32) (g : Nat → Nat) (M : jMem) : Prop := M 109 67 = nI S ∧ (∀ b, b < S → M 146 b = nI (g b)) ∧ ∀ v, v < S → M 147 v = nd v
theorem e_firsts {S a b : Nat} {nd : Nat → Int32} {g : Nat → Nat} {M : jMem} (h12 : S ≤ 12) (ha : a < S) (hb : b < S) (h : askM S nd g M) : ∃ M', f_M_firsts (nI a) (nI b) M = some (nI (rsN (upN nd a b) S 0), M') ∧ askM S nd g M' := by
  obtain ⟨h1, h2, h3⟩ := h
  obtain ⟨M3, g1, g2, -⟩ := e_countOrders (nd := upN nd a b) (m := jup M 147 b (M 147 b ||| sb a)) h12 (by rw [jup_oc (by omega)]; exact h1) (fun v hv => by
    unfold upN
    by_cases q : v = b
    · rw [q, jup_at, if_pos rfl, h3 b hb]
    · rw [jup_ok q, if_neg q, h3 v hv])
  refine ⟨jup M3 147 b (M 147 b), ?_, ?_, ?_, fun v hv => ?_⟩
  · unfold f_M_firsts
    simp only [lits, negs]
    rw [ld_147 (by omega), ld_147 (by omega), st_147 (by omega), sb_e, g1, jbd_s, st_147 (by omega)]
  · rw [jup_oc (by omega), g2 109 (by omega), jup_oc (by omega)]; exact h1
  · intro c hc
    rw [jup_oc (by omega), g2 146 (by omega), jup_oc (by omega)]; exact h2 c hc
  · by_cases q : v = b
    · rw [q, jup_at]; exact h3 b hb
    · rw [jup_ok q, g2 147 (by omega), jup_ok q]; exact h3 v hv
theorem sim_41 {S a : Nat} {T : Int32} {nd : Nat → Int32} {g : Nat → Nat} {kC : Int32 → Int32 → jMem → Option (Int32 × jMem)} {kM : Int32 → Int32 → jMem → Option (Int32 × jMem)} {m : jMem} (h12 : S ≤ 12) (ha : a < S) (hS : m 89 6 = nI S) (hg : ∀ b, b < S → m 92 b = nI (g b)) (hW : ∀ a b, a < S → b < S → a ≠ b → m (97 + a) b = nI (rsN (upN nd a b) S 0)) : ∀ (d c : Nat) (L B : Int32) (M : jMem) (n n' : Nat), c + d = S → a < c → d < n → d < n' → askM S nd g M → ∃ L' B' M', lp_O_bestQuestion_41 T (nI a) kC n L B (nI c) m = kC L' B' m ∧ lp_M_ask_51 T (nI a) kM n' L B (nI c) M = kM L' B' M' ∧ askM S nd g M' := by
  intro d
  induction d with
  | zero =>
    intro c L B M n n' hc hac hn hn' h
    obtain ⟨n, rfl⟩ := ex_succ hn
    obtain ⟨n', rfl⟩ := ex_succ hn'
    have e : c = S := by omega
    subst e
    refine ⟨L, B, M, ?_, ?_, h⟩
    · unfold lp_O_bestQuestion_41
      simp (disch := omega) only [lits, negs, nI_add, nn1, leT, leF, ltT, ltF, eqF, mF1, mF2, mF3, mF4, mF5, mF6, mTT, eq_self, Nat.reduceEqDiff, ↓reduceIte, jbd_s, jpu_e, tI0, tI1, jgd_tI, jgd_bb, tfF, ftF, jup_at, jup_oc, jup_ok, hS]
    · unfold lp_M_ask_51
      simp (disch := omega) only [lits, negs, nI_add, nn1, leT, leF, ltT, ltF, eqF, mF1, mF2, mF3, mF4, mF5, mF6, mTT, eq_self, Nat.reduceEqDiff, ↓reduceIte, jbd_s, jpu_e, tI0, tI1, jgd_tI, jgd_bb, tfF, ftF, jup_at, jup_oc, jup_ok, h.1]
  | succ d ih =>
    intro c L B M n n' hc hac hn hn' h
    obtain ⟨n, rfl⟩ := ex_succ hn
    obtain ⟨n', rfl⟩ := ex_succ hn'
    obtain ⟨M1, e1, e2⟩ := e_firsts h12 ha (by omega : c < S) h
    have hw := hW a c ha (by omega) (by omega)
    by_cases q : jmin (nI (rsN (upN nd a c) S 0)) (T - nI (rsN (upN nd a c) S 0)) ≤ B
    · have q' : ¬ B < jmin (nI (rsN (upN nd a c) S 0)) (T - nI (rsN (upN nd a c) S 0)) := Int32.not_lt.mpr q
      obtain ⟨L', B', M', f1, f2, f3⟩ := ih (c + 1) L B M1 n n' (by omega) (by omega) (by omega) (by omega) e2
      refine ⟨L', B', M', ?_, ?_, f3⟩
      · rw [← f1]
        conv => lhs; unfold lp_O_bestQuestion_41
        simp only [lits]
        simp (disch := omega) only [lits, negs, nI_add, nn1, leT, leF, ltT, ltF, eqF, mF1, mF2, mF3, mF4, mF5, mF6, mTT, eq_self, Nat.reduceEqDiff, ↓reduceIte, ↓jbd_s, ↓jpu_e, tI0, tI1, jgd_tI, jgd_bb, tfF, ftF, jup_at, jup_oc, jup_ok, hS, ↓l3_96, ↓ldr_96, hw]
        rw [if_pos q]
      · rw [← f2]
        conv => lhs; unfold lp_M_ask_51
        simp only [lits]
        simp (disch := omega) only [lits, negs, nI_add, nn1, leT, leF, ltT, ltF, eqF, mF1, mF2, mF3, mF4, mF5, mF6, mTT, eq_self, Nat.reduceEqDiff, ↓reduceIte, ↓jbd_s, ↓jpu_e, tI0, tI1, jgd_tI, jgd_bb, tfF, ftF, jup_at, jup_oc, jup_ok, h.1, ↓jb e1]
        rw [if_neg q']
    · have q' : B < jmin (nI (rsN (upN nd a c) S 0)) (T - nI (rsN (upN nd a c) S 0)) := Int32.not_le.mp q
      obtain ⟨L', B', M', f1, f2, f3⟩ := ih (c + 1) ((nI 32 * nI (g a)) + nI (g c)) (jmin (nI (rsN (upN nd a c) S 0)) (T - nI (rsN (upN nd a c) S 0))) M1 n n' (by omega) (by omega) (by omega) (by omega) e2
      refine ⟨L', B', M', ?_, ?_, f3⟩
      · rw [← f1]
        conv => lhs; unfold lp_O_bestQuestion_41
        simp only [lits]
        simp (disch := omega) only [lits, negs, nI_add, nn1, leT, leF, ltT, ltF, eqF, mF1, mF2, mF3, mF4, mF5, mF6, mTT, eq_self, Nat.reduceEqDiff, ↓reduceIte, ↓jbd_s, ↓jpu_e, tI0, tI1, jgd_tI, jgd_bb, tfF, ftF, jup_at, jup_oc, jup_ok, hS, ↓l3_96, ↓ldr_96, hw, ↓ld_92, hg a ha, hg c (by omega)]
        rw [if_neg q]
      · rw [← f2]
        conv => lhs; unfold lp_M_ask_51
        simp only [lits]
        simp (disch := omega) only [lits, negs, nI_add, nn1, leT, leF, ltT, ltF, eqF, mF1, mF2, mF3, mF4, mF5, mF6, mTT, eq_self, Nat.reduceEqDiff, ↓reduceIte, ↓jbd_s, ↓jpu_e, tI0, tI1, jgd_tI, jgd_bb, tfF, ftF, jup_at, jup_oc, jup_ok, h.1, ↓jb e1, ↓ld_146, e2.2.1 a ha, e2.2.1 c (by omega)]
        rw [if_pos q']
theorem sim_26 {S : Nat} {T : Int32} {nd : Nat → Int32} {g : Nat → Nat} {m : jMem} (h12 : S ≤ 12) (hS : m 89 6 = nI S) (hg : ∀ b, b < S → m 92 b = nI (g b)) (hW : ∀ a b, a < S → b < S → a ≠ b → m (97 + a) b = nI (rsN (upN nd a b) S 0)) : ∀ (d a : Nat) (L B : Int32) (M : jMem) (n n' : Nat), a + d = S → d < n → d < n' → askM S nd g M → ∃ L' M', lp_O_bestQuestion_26 T (fun w15 m14 => some (w15, m14)) n L B (nI a) m = some (L', m) ∧ lp_M_ask_36 T (fun w14 m13 => some (w14, m13)) n' L B (nI a) M = some (L', M') := by
  intro d
  induction d with
  | zero =>
    intro a L B M n n' hc hn hn' h
    obtain ⟨n, rfl⟩ := ex_succ hn
    obtain ⟨n', rfl⟩ := ex_succ hn'
    have e : a = S := by omega
    subst e
    refine ⟨L, M, ?_, ?_⟩
    · unfold lp_O_bestQuestion_26
      simp (disch := omega) only [lits, negs, nI_add, nn1, leT, leF, ltT, ltF, eqF, mF1, mF2, mF3, mF4, mF5, mF6, mTT, eq_self, Nat.reduceEqDiff, ↓reduceIte, jbd_s, jpu_e, tI0, tI1, jgd_tI, jgd_bb, tfF, ftF, jup_at, jup_oc, jup_ok, hS]
    · unfold lp_M_ask_36
      simp (disch := omega) only [lits, negs, nI_add, nn1, leT, leF, ltT, ltF, eqF, mF1, mF2, mF3, mF4, mF5, mF6, mTT, eq_self, Nat.reduceEqDiff, ↓reduceIte, jbd_s, jpu_e, tI0, tI1, jgd_tI, jgd_bb, tfF, ftF, jup_at, jup_oc, jup_ok, h.1]
  | succ d ih =>
    intro a L B M n n' hc hn hn' h
    obtain ⟨n, rfl⟩ := ex_succ hn
    obtain ⟨n', rfl⟩ := ex_succ hn'
    obtain ⟨L1, B1, M1, e1, e2, e3⟩ := sim_41 (T := T) (kC := fun w12 w13 m11 => lp_O_bestQuestion_26 T (fun w15 m14 => some (w15, m14)) n w12 w13 (nI (a + 1)) m11) (kM := fun w11 w12 m10 => lp_M_ask_36 T (fun w14 m13 => some (w14, m13)) n' w11 w12 (nI (a + 1)) m10) h12 (by omega : a < S) hS hg hW d (a + 1) L B M 5000 5000 (by omega) (by omega) (by omega) (by omega) h
    obtain ⟨L2, M2, f1, f2⟩ := ih (a + 1) L1 B1 M1 n n' (by omega) (by omega) (by omega) e3
    refine ⟨L2, M2, ?_, ?_⟩
    · rw [← f1, ← e1]
      conv => lhs; unfold lp_O_bestQuestion_26
      simp only [lits]
      simp (disch := omega) only [lits, negs, nI_add, nn1, leT, leF, ltT, ltF, eqF, mF1, mF2, mF3, mF4, mF5, mF6, mTT, eq_self, Nat.reduceEqDiff, ↓reduceIte, jbd_s, jpu_e, tI0, tI1, jgd_tI, jgd_bb, tfF, ftF, jup_at, jup_oc, jup_ok, hS]
    · rw [← f2, ← e2]
      conv => lhs; unfold lp_M_ask_36
      simp only [lits]
      simp (disch := omega) only [lits, negs, nI_add, nn1, leT, leF, ltT, ltF, eqF, mF1, mF2, mF3, mF4, mF5, mF6, mTT, eq_self, Nat.reduceEqDiff, ↓reduceIte, jbd_s, jpu_e, tI0, tI1, jgd_tI, jgd_bb, tfF, ftF, jup_at, jup_oc, jup_ok, h.1]
theorem q_ask {N C : Nat} {m : jMem} (r : Rel N C m) (X : Int32) : Qst (f_C_ask X) (f_M_ask X) m := by
  have h30 := r.1.1
  have hN := r.1.2.1
  by_cases hbad : isSt N X = false ∨ ¬ pcnt X ≤ 12
  · refine ⟨nM, m, jup m 109 0 (nI 0), ?_, ?_⟩
    · unfold f_C_ask
      simp only [lits, negs]
      simp (disch := omega) only [lits, negs, nI_add, nn1, leT, leF, ltT, ltF, eqF, mF1, mF2, mF3, mF4, mF5, mF6, mTT, eq_self, Nat.reduceEqDiff, ↓reduceIte, ↓jbd_s, ↓jpu_e, tI0, tI1, jgd_tI, jgd_bb, tfF, ftF, jup_at, jup_oc, jup_ok, ↓jb (e_takes_no (m := m) h30 hN hbad)]
    · unfold f_M_ask
      simp only [lits, negs]
      simp (disch := omega) only [lits, negs, nI_add, nn1, leT, leF, ltT, ltF, eqF, mF1, mF2, mF3, mF4, mF5, mF6, mTT, eq_self, Nat.reduceEqDiff, ↓reduceIte, ↓jbd_s, ↓jpu_e, tI0, tI1, jgd_tI, jgd_bb, tfF, ftF, jup_at, jup_oc, jup_ok, ↓jb (e_lay_no (M := jup m 109 0 (nI 0)) h30 (by rw [jup_ok (by omega)]; exact r.1.2.2.1) hbad)]
  · have hX : isSt N X = true := by cases q : isSt N X; exact absurd (Or.inl q) hbad; rfl
    have h12 : pcnt X ≤ 12 := Classical.byContradiction fun q => hbad (Or.inr q)
    obtain ⟨g, A, B, p, m1, hn, -, e1, e2, e3, e4, e5, e6⟩ := lay_two r hX h12
    have hM : ∀ m2 : jMem, (∀ c, (c < 92 ∨ 108 < c) → c ≠ 89 → m2 c = m c) → ∃ M1, f_M_lay X (jup m2 109 0 (nI 0)) = some (nI 1, M1) ∧ askM (pcnt X) (m1 93) g M1 := fun m2 hm2 => by
      obtain ⟨M1, k1, k2, k3, k4⟩ := e6 (jup m2 109 0 (nI 0)) (fun c h1 h2 => by rw [jup_oc h2, hm2 c (by omega) (by omega)]) (fun j hj => by rw [jup_ok hj, hm2 109 (by omega) (by omega)])
      exact ⟨M1, k1, k2, k3, fun v hv => by rw [k4 v hv, e4 v hv]⟩
    by_cases h2 : 2 ≤ pcnt X
    · obtain ⟨m2, f1, f2, f3⟩ := e_howMany (nd := m1 93) h12 e2 rfl
      obtain ⟨m3, g1, g2, g3⟩ := e_countAhead (nd := m1 93) (m := m2) h12 (by rw [f2 89 (by omega)]; exact e2) (f2 93 (by omega)) f3
      have hm3 : ∀ c, (c < 92 ∨ 108 < c) → c ≠ 89 → m3 c = m c := fun c a b => by rw [g2 c (by omega) (by omega), f2 c (by omega), e5 c (by omega) (by omega) b]
      obtain ⟨M1, k1, k2⟩ := hM m3 hm3
      obtain ⟨M2, s1, s2, -⟩ := e_countOrders (nd := m1 93) h12 k2.1 k2.2.2
      have k2' : askM (pcnt X) (m1 93) g M2 := ⟨by rw [s2 109 (by omega)]; exact k2.1, fun b hb => by rw [s2 146 (by omega)]; exact k2.2.1 b hb, fun v hv => by rw [s2 147 (by omega)]; exact k2.2.2 v hv⟩
      obtain ⟨L, M3, t1, t2⟩ := sim_26 (T := nI (rsN (m1 93) (pcnt X) 0)) (nd := m1 93) (g := g) (m := m3) h12 (by rw [g2 89 (by omega) (by omega), f2 89 (by omega)]; exact e2) (fun b hb => by rw [g2 92 (by omega) (by omega), f2 92 (by omega)]; exact e3 b hb) g3 (pcnt X) 0 nM nM M2 5000 5000 (by omega) (by omega) (by omega) k2'
      refine ⟨L, m3, M3, ?_, ?_⟩
      · have eb : f_O_bestQuestion m1 = some (L, m3) := by
          unfold f_O_bestQuestion
          simp only [lits, negs]
          rw [e2, if_pos (nI_le h2 (by omega)), f1, jbd_s, g1, jbd_s, t1]
        unfold f_C_ask
        simp only [lits, negs]
        simp (disch := omega) only [lits, negs, nI_add, nn1, leT, leF, ltT, ltF, eqF, mF1, mF2, mF3, mF4, mF5, mF6, mTT, eq_self, Nat.reduceEqDiff, ↓reduceIte, ↓jbd_s, ↓jpu_e, tI0, tI1, jgd_tI, jgd_bb, tfF, ftF, jup_at, jup_oc, jup_ok, ↓jb e1, ↓jb eb]
      · unfold f_M_ask
        simp only [lits, negs]
        simp (disch := omega) only [lits, negs, nI_add, nn1, leT, leF, ltT, ltF, eqF, mF1, mF2, mF3, mF4, mF5, mF6, mTT, eq_self, Nat.reduceEqDiff, ↓reduceIte, ↓jbd_s, ↓jpu_e, tI0, tI1, jgd_tI, jgd_bb, tfF, ftF, jup_at, jup_oc, jup_ok, ↓jb k1, k2.1, ↓jb s1]
        exact t2
    · obtain ⟨M1, k1, k2⟩ := hM m1 (fun c a b => e5 c (by omega) (by omega) b)
      refine ⟨nM, m1, M1, ?_, ?_⟩
      · have eb : f_O_bestQuestion m1 = some (nM, m1) := by
          unfold f_O_bestQuestion
          simp only [lits, negs]
          rw [e2, if_neg (nI_ge (by omega) (by omega))]
        unfold f_C_ask
        simp only [lits, negs]
        simp (disch := omega) only [lits, negs, nI_add, nn1, leT, leF, ltT, ltF, eqF, mF1, mF2, mF3, mF4, mF5, mF6, mTT, eq_self, Nat.reduceEqDiff, ↓reduceIte, ↓jbd_s, ↓jpu_e, tI0, tI1, jgd_tI, jgd_bb, tfF, ftF, jup_at, jup_oc, jup_ok, ↓jb e1, ↓jb eb]
      · unfold f_M_ask
        simp only [lits, negs]
        simp (disch := omega) only [lits, negs, nI_add, nn1, leT, leF, ltT, ltF, eqF, mF1, mF2, mF3, mF4, mF5, mF6, mTT, eq_self, Nat.reduceEqDiff, ↓reduceIte, ↓jbd_s, ↓jpu_e, tI0, tI1, jgd_tI, jgd_bb, tfF, ftF, jup_at, jup_oc, jup_ok, ↓jb k1, k2.1]
