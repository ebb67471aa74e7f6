/-! ahead -/
theorem lp_Cga8 {N p : Nat} {A B : Nat → Nat} {v1 x : Int32} {k : Int32 → jMem → Option (Int32 × jMem)} {m : jMem} (h30 : N ≤ 30) (hN : m 29 15 = nI N) (h12 : p ≤ 12) (hp : m 89 3 = nI p) (hA : ∀ k, k < p → m 90 k = nI (A k) ∧ A k < 30) (hB : ∀ k, k < p → m 91 k = nI (B k)) : ∀ (d n i : Nat), i + d = 30 → d < n → lp_O_goesAgainst_8 v1 k n (oI8 (m 37) A B N p x i) (nI i) m = k (oI8 (m 37) A B N p x 30) m := by
  intro d
  induction d with
  | zero =>
    intro n i hid hdn
    obtain ⟨n, rfl⟩ := ex_succ hdn
    rw [show i = 30 by omega]
    unfold lp_O_goesAgainst_8
    simp (disch := omega) only [lits, negs, nI_add, nn1, leT, leF, ltT, ltF, eqF, mF1, mF2, mF3, mF4, mF5, mF6, mTT, eq_self, Nat.reduceEqDiff, ↓reduceIte, jbd_s, jpu_e, tI0, tI1, jgd_tI, jgd_bb, tfF, ftF, jup_at, jup_oc, jup_ok]
  | succ d ih =>
    intro n i hid hdn
    obtain ⟨n, rfl⟩ := ex_succ hdn
    have e := ih n (i + 1) (by omega) (by omega)
    unfold lp_O_goesAgainst_8
    simp only [lits]
    have e1 := lp_Cga18 (v1 := v1) (v4 := nI i) (x := oI8 (m 37) A B N p x i) (k := fun w7 m6 => lp_O_goesAgainst_62 v1 (nI i) (fun w15 m14 => lp_O_goesAgainst_8 v1 k n w15 (nI i + nI 1) m14) 5000 w7 (nI 0) m6) h30 hN N 5000 0 (by omega) (by omega)
    have e2 := lp_Cga62 (v1 := v1) (v4 := nI i) (x := oP (m 37) (oI8 (m 37) A B N p x i) N) (k := fun w15 m14 => lp_O_goesAgainst_8 v1 k n w15 (nI i + nI 1) m14) h12 hp hA hB p 5000 0 (by omega) (by omega)
    simp (disch := omega) only [lits, negs, nI_add, nn1, leT, leF, ltT, ltF, eqF, mF1, mF2, mF3, mF4, mF5, mF6, mTT, eq_self, Nat.reduceEqDiff, ↓reduceIte, ↓jbd_s, ↓jpu_e, tI0, tI1, jgd_tI, jgd_bb, tfF, ftF, jup_at, jup_oc, jup_ok]
    rw [nI_add] at e1 e2
    exact e1.trans (e2.trans e)
theorem lp_Mle7 {N p : Nat} {P : Nat → Int32} {A B : Nat → Nat} {v2 x : Int32} {k : Int32 → jMem → Option (Int32 × jMem)} {M : jMem} (h30 : N ≤ 30) (hN : M 109 33 = nI N) (hP : M 128 = P) (h12 : p ≤ 12) (hp : M 109 64 = nI p) (hA : ∀ k, k < p → M 144 k = nI (A k) ∧ A k < 30) (hB : ∀ k, k < p → M 145 k = nI (B k)) (hB30 : ∀ k, k < p → B k < N) (hx : ∀ j, bt x j = true → j < N) (h0 : ¬ x = nI 0) : ∀ (d n j : Nat), j + d = 29 → d < n → lp_M_leads_7 v2 k n (oI8 P A B N p x (j + 1)) (oI8 P A B N p x j) M = k (oI8 P A B N p x 30) M := by
  intro d
  induction d with
  | zero =>
    intro n j hj hn
    obtain ⟨n, rfl⟩ := ex_succ hn
    have e : j = 29 := by omega
    subst e
    unfold lp_M_leads_7
    rw [if_pos (oI8_fix h30 hx h0 hB30).symm]
  | succ d ih =>
    intro n j hj hn
    obtain ⟨n, rfl⟩ := ex_succ hn
    by_cases q : oI8 P A B N p x (j + 1) = oI8 P A B N p x j
    · unfold lp_M_leads_7
      rw [if_pos q.symm]
      have a := oI8_st q (30 - j)
      rw [show j + (30 - j) = 30 by omega] at a
      rw [q, a]
    · have e := ih n (j + 1) (by omega) (by omega)
      have e1 := lp_Mle19 (v2 := v2) (v4 := oI8 P A B N p x (j + 1)) (x := oI8 P A B N p x (j + 1)) (k := fun w3 m2 => lp_M_leads_56 v2 (oI8 P A B N p x (j + 1)) (fun w7 m6 => lp_M_leads_7 v2 k n w7 (oI8 P A B N p x (j + 1)) m6) 5000 w3 (nI 0) m2) h30 hN hP N 5000 0 (by omega) (by omega)
      have e2 := lp_Mle56 (v2 := v2) (v4 := oI8 P A B N p x (j + 1)) (x := oP P (oI8 P A B N p x (j + 1)) N) (k := fun w7 m6 => lp_M_leads_7 v2 k n w7 (oI8 P A B N p x (j + 1)) m6) h12 hp hA hB p 5000 0 (by omega) (by omega)
      conv => lhs; unfold lp_M_leads_7
      rw [if_neg (fun z => q z.symm)]
      simp only [lits]
      exact e1.trans (e2.trans e)
theorem e_against {N p a b : Nat} {A B : Nat → Nat} {m : jMem} (h30 : N ≤ 30) (hN : m 29 15 = nI N) (h12 : p ≤ 12) (hp : m 89 3 = nI p) (hA : ∀ k, k < p → m 90 k = nI (A k) ∧ A k < 30) (hB : ∀ k, k < p → m 91 k = nI (B k)) (ha : a < 30) : f_O_goesAgainst (nI a) (nI b) m = some (tI (bt (oI8 (m 37) A B N p (sb b) 30) a), m) := by
  unfold f_O_goesAgainst
  simp only [lits]
  rw [e_bit, jbd_s]
  refine (lp_Cga8 (x := sb b) h30 hN h12 hp hA hB 30 5000 0 (by omega) (by omega)).trans ?_
  rw [e_isIn ha, jbd_s, jgd_tI]
theorem e_leads {N p a b : Nat} {P : Nat → Int32} {A B : Nat → Nat} {M : jMem} (h30 : N ≤ 30) (hN : M 109 33 = nI N) (hP : M 128 = P) (h12 : p ≤ 12) (hp : M 109 64 = nI p) (hA : ∀ k, k < p → M 144 k = nI (A k) ∧ A k < 30) (hB : ∀ k, k < p → M 145 k = nI (B k)) (hB30 : ∀ k, k < p → B k < N) (ha : a < 30) (hb : b < N) : f_M_leads (nI b) (nI a) M = some (tI (bt (oI8 P A B N p (sb b) 30) a), M) := by
  have h0 : ¬ sb b = nI 0 := fun z => by
    have := b_sb (i := b) (j := b) (by omega) (by omega)
    rw [z, b_n0, decide_eq_true rfl] at this
    exact absurd this (by decide)
  have hx : ∀ j, bt (sb b) j = true → j < N := fun j h => by
    rw [b_sb (by omega) (bt_big h), decide_eq_true_iff] at h
    omega
  let K : Int32 → jMem → Option (Int32 × jMem) := fun w9 m8 => if ((w9 >>> (nI a &&& nI 31)) &&& nI 1) = nI 1 then some (nI 1, m8) else some (nI 0, m8)
  have e := lp_Mle7 (v2 := nI a) (x := sb b) (k := K) h30 hN hP h12 hp hA hB hB30 hx h0 29 4999 0 (by omega) (by omega)
  have e1 := lp_Mle19 (v2 := nI a) (v4 := sb b) (x := sb b) (k := fun w3 m2 => lp_M_leads_56 (nI a) (sb b) (fun w7 m6 => lp_M_leads_7 (nI a) K 4999 w7 (sb b) m6) 5000 w3 (nI 0) m2) h30 hN hP N 5000 0 (by omega) (by omega)
  have e2 := lp_Mle56 (v2 := nI a) (v4 := sb b) (x := oP P (sb b) N) (k := fun w7 m6 => lp_M_leads_7 (nI a) K 4999 w7 (sb b) m6) h12 hp hA hB p 5000 0 (by omega) (by omega)
  have e3 : K (oI8 P A B N p (sb b) 30) M = some (tI (bt (oI8 P A B N p (sb b) 30) a), M) := by
    show (if _ then _ else _) = _
    have hb1 := bit1 (v := oI8 P A B N p (sb b) 30) (i := a) (by omega)
    cases q : bt (oI8 P A B N p (sb b) 30) a
    · rw [q] at hb1
      exact if_neg (fun z => by rw [hb1] at z; exact absurd z (by decide))
    · rw [q] at hb1
      exact if_pos (by rw [hb1])
  unfold f_M_leads
  simp only [lits]
  rw [sb_e]
  unfold lp_M_leads_7
  rw [if_neg (fun z => h0 z.symm)]
  simp only [lits]
  exact e1.trans (e2.trans (e.trans e3))
theorem o_ahead {N C : Nat} {m : jMem} (r : Rel N C m) (x y : Int32) : Ost (f_C_ahead x y) (f_M_ahead x y) m := by
  have h30 := r.1.1
  have hN := r.1.2.1
  have hno : ∀ z : Int32, f_L_areTwo x y m = some (nI 0, m) → f_C_ahead x y m = some (nM, m) := fun _ h => by
    unfold f_C_ahead
    simp only [lits, negs]
    simp (disch := omega) only [lits, negs, nI_add, nn1, leT, leF, ltT, ltF, eqF, mF1, mF2, mF3, mF4, mF5, mF6, mTT, eq_self, Nat.reduceEqDiff, ↓reduceIte, ↓jbd_s, ↓jpu_e, tI0, tI1, jgd_tI, jgd_bb, tfF, ftF, jup_at, jup_oc, jup_ok, ↓jb h]
  rcases ixN x (n := N) (by omega) with hx | ⟨a, ha, rfl⟩
  · refine Ost.no (v := nM) r (hno nM (e_areTwo_no hN h30 (Or.inl hx))) ?_
    unfold f_M_ahead
    simp only [lits, negs]
    simp (disch := omega) only [lits, negs, nI_add, nn1, leT, leF, ltT, ltF, eqF, mF1, mF2, mF3, mF4, mF5, mF6, mTT, eq_self, Nat.reduceEqDiff, ↓reduceIte, ↓jbd_s, ↓jpu_e, tI0, tI1, jgd_tI, jgd_bb, tfF, ftF, jup_at, jup_oc, jup_ok, ↓jb (e_MisLetter_no (m := jup m 109 0 (nI 0)) (N := N) (by rw [jup_ok (by omega)]; exact r.1.2.2.1) hx)]
  · have eL : ∀ l, l < N → ∀ M, Rel2 N C m M → f_M_isLetter (nI l) (jup M 109 0 (nI 0)) = some (nI 1, jup M 109 0 (nI 0)) := fun l hl M r2 => e_MisLetter (N := N) (by rw [jup_ok (by omega)]; exact r2.1.2.2.1) h30 hl
    rcases ixN y (n := N) (by omega) with hy | ⟨b, hb, rfl⟩
    · refine Ost.no (v := nM) r (hno nM (e_areTwo_no hN h30 (Or.inr hy))) ?_
      unfold f_M_ahead
      simp only [lits, negs]
      simp (disch := omega) only [lits, negs, nI_add, nn1, leT, leF, ltT, ltF, eqF, mF1, mF2, mF3, mF4, mF5, mF6, mTT, eq_self, Nat.reduceEqDiff, ↓reduceIte, ↓jbd_s, ↓jpu_e, tI0, tI1, jgd_tI, jgd_bb, tfF, ftF, jup_at, jup_oc, jup_ok, ↓jb (eL a ha m r.two), ↓jb (e_MisLetter_no (m := jup m 109 0 (nI 0)) (N := N) (by rw [jup_ok (by omega)]; exact r.1.2.2.1) hy)]
    · by_cases hab : a = b
      · subst hab
        refine Ost.no (v := nM) r (hno nM (e_areTwo_same hN h30 ha)) ?_
        unfold f_M_ahead
        simp only [lits, negs]
        simp (disch := omega) only [lits, negs, nI_add, nn1, leT, leF, ltT, ltF, eqF, mF1, mF2, mF3, mF4, mF5, mF6, mTT, eq_self, Nat.reduceEqDiff, ↓reduceIte, ↓jbd_s, ↓jpu_e, tI0, tI1, jgd_tI, jgd_bb, tfF, ftF, jup_at, jup_oc, jup_ok, ↓jb (eL a ha m r.two)]
      · have e2 := e_areTwo (m := m) hN h30 ha hb hab
        refine Ost.two r (fun M r2 => ?_) fr_C_ahead fr_M_ahead rfl rfl
        have r3 := thr_two (v := nI 0) r2
        obtain ⟨p, p1, p2, p3, p4, p5, p6⟩ := r3.2.2.2.2.2.2.2.2.2.1
        have p3' : M 109 64 = nI p := by rw [← p3, jup_ok (by omega)]
        have p4' : M 144 = m 90 := by rw [← p4, jup_oc (by omega)]
        have p5' : M 145 = m 91 := by rw [← p5, jup_oc (by omega)]
        by_cases hp12 : p = 12
        · subst hp12
          refine ⟨nM, m, _, N, C, ?_, ?_, r3⟩
          · unfold f_C_ahead
            simp only [lits, negs]
            simp (disch := omega) only [lits, negs, nI_add, nn1, leT, leF, ltT, ltF, eqF, mF1, mF2, mF3, mF4, mF5, mF6, mTT, eq_self, Nat.reduceEqDiff, ↓reduceIte, ↓jbd_s, ↓jpu_e, tI0, tI1, jgd_tI, jgd_bb, tfF, ftF, jup_at, jup_oc, jup_ok, ↓jb e2, p2]
          · unfold f_M_ahead
            simp only [lits, negs]
            simp (disch := omega) only [lits, negs, nI_add, nn1, leT, leF, ltT, ltF, eqF, mF1, mF2, mF3, mF4, mF5, mF6, mTT, eq_self, Nat.reduceEqDiff, ↓reduceIte, ↓jbd_s, ↓jpu_e, tI0, tI1, jgd_tI, jgd_bb, tfF, ftF, jup_at, jup_oc, jup_ok, ↓jb (eL a ha M r2), ↓jb (eL b hb M r2), p3']
        · have hA : ∀ k, k < p → m 90 k = nI ((m 90 k).toNatClampNeg) ∧ (m 90 k).toNatClampNeg < 30 := fun k hk => by
            obtain ⟨⟨l, hl, el⟩, -⟩ := p6 k hk
            rw [el, nI_clamp (by omega)]
            exact ⟨rfl, by omega⟩
          have hB : ∀ k, k < p → m 91 k = nI ((m 91 k).toNatClampNeg) ∧ (m 91 k).toNatClampNeg < N := fun k hk => by
            obtain ⟨-, l, hl, el⟩ := p6 k hk
            rw [el, nI_clamp (by omega)]
            exact ⟨rfl, hl⟩
          have ea := e_against (a := a) (b := b) (A := fun k => (m 90 k).toNatClampNeg) (B := fun k => (m 91 k).toNatClampNeg) h30 hN p1 p2 hA (fun k hk => (hB k hk).1) (by omega)
          have el := e_leads (a := a) (b := b) (P := m 37) (A := fun k => (m 90 k).toNatClampNeg) (B := fun k => (m 91 k).toNatClampNeg) (M := jup M 109 0 (nI 0)) h30 r3.1.2.2.1 r3.1.2.2.2.1.2.2.2.2.2.2.2 p1 p3 (fun k hk => by rw [p4]; exact hA k hk) (fun k hk => by rw [p5]; exact (hB k hk).1) (fun k hk => (hB k hk).2) (by omega) hb
          cases q : bt (oI8 (m 37) (fun k => (m 90 k).toNatClampNeg) (fun k => (m 91 k).toNatClampNeg) N p (sb b) 30) a
          · rw [q] at ea el
            refine ⟨nI (p + 1), jup (jup (jup m 90 p (nI a)) 91 p (nI b)) 89 3 (nI (p + 1)), jup (jup (jup (jup M 109 0 (nI 0)) 144 p (nI a)) 145 p (nI b)) 109 64 (nI (p + 1)), N, C, ?_, ?_, ?_⟩
            · have et : f_O_tell (nI a) (nI b) m = some ((), jup (jup (jup m 90 p (nI a)) 91 p (nI b)) 89 3 (nI (p + 1))) := by
                unfold f_O_tell
                simp only [lits, negs]
                simp (disch := omega) only [lits, negs, nI_add, nn1, leT, leF, ltT, ltF, eqF, mF1, mF2, mF3, mF4, mF5, mF6, mTT, eq_self, Nat.reduceEqDiff, ↓reduceIte, jbd_s, jpu_e, tI0, tI1, jgd_tI, jgd_bb, tfF, ftF, jup_at, jup_oc, jup_ok, p2, st_90, st_91]
              unfold f_C_ahead
              simp only [lits, negs]
              simp (disch := omega) only [lits, negs, nI_add, nn1, leT, leF, ltT, ltF, eqF, mF1, mF2, mF3, mF4, mF5, mF6, mTT, eq_self, Nat.reduceEqDiff, ↓reduceIte, ↓jbd_s, ↓jpu_e, tI0, tI1, jgd_tI, jgd_bb, tfF, ftF, jup_at, jup_oc, jup_ok, ↓jb e2, p2, ↓jb ea, ↓jb et]
            · unfold f_M_ahead
              simp only [lits, negs]
              simp (disch := omega) only [lits, negs, nI_add, nn1, leT, leF, ltT, ltF, eqF, mF1, mF2, mF3, mF4, mF5, mF6, mTT, eq_self, Nat.reduceEqDiff, ↓reduceIte, ↓jbd_s, ↓jpu_e, tI0, tI1, jgd_tI, jgd_bb, tfF, ftF, jup_at, jup_oc, jup_ok, ↓jb (eL a ha M r2), ↓jb (eL b hb M r2), p3', ↓jb el]
              simp (disch := omega) only [lits, negs, nI_add, nn1, leT, leF, ltT, ltF, eqF, mF1, mF2, mF3, mF4, mF5, mF6, mTT, eq_self, Nat.reduceEqDiff, ↓reduceIte, jbd_s, jpu_e, tI0, tI1, jgd_tI, jgd_bb, tfF, ftF, jup_at, jup_oc, jup_ok, p3', st_144, st_145]
            · refine Rel2_ah (fun c h1 h2 h3 => by rw [jup_oc h1, jup_oc h3, jup_oc h2]) (fun c h1 _ h2 h3 => by rw [jup_oc h1, jup_oc h3, jup_oc h2]) (fun k h1 h2 => by rw [jup_ok h2, jup_oc (by omega), jup_oc (by omega)]) ⟨p + 1, by omega, jup_at, jup_at, ?_, ?_, fun k hk => ?_⟩ r3
              · simp (disch := omega) only [lits, negs, nI_add, nn1, leT, leF, ltT, ltF, eqF, mF1, mF2, mF3, mF4, mF5, mF6, mTT, eq_self, Nat.reduceEqDiff, ↓reduceIte, jbd_s, jpu_e, tI0, tI1, jgd_tI, jgd_bb, tfF, ftF, jup_at, jup_oc, jup_ok, jup_row, p4']
              · simp (disch := omega) only [lits, negs, nI_add, nn1, leT, leF, ltT, ltF, eqF, mF1, mF2, mF3, mF4, mF5, mF6, mTT, eq_self, Nat.reduceEqDiff, ↓reduceIte, jbd_s, jpu_e, tI0, tI1, jgd_tI, jgd_bb, tfF, ftF, jup_at, jup_oc, jup_ok, jup_row, p5']
              · have e90 : ∀ z, jup (jup (jup m 90 p (nI a)) 91 p (nI b)) 89 3 z 90 = upd (m 90) p (nI a) := fun z => by simp (disch := omega) only [lits, negs, nI_add, nn1, leT, leF, ltT, ltF, eqF, mF1, mF2, mF3, mF4, mF5, mF6, mTT, eq_self, Nat.reduceEqDiff, ↓reduceIte, jbd_s, jpu_e, tI0, tI1, jgd_tI, jgd_bb, tfF, ftF, jup_at, jup_oc, jup_ok, jup_row]
                have e91 : ∀ z, jup (jup (jup m 90 p (nI a)) 91 p (nI b)) 89 3 z 91 = upd (m 91) p (nI b) := fun z => by simp (disch := omega) only [lits, negs, nI_add, nn1, leT, leF, ltT, ltF, eqF, mF1, mF2, mF3, mF4, mF5, mF6, mTT, eq_self, Nat.reduceEqDiff, ↓reduceIte, jbd_s, jpu_e, tI0, tI1, jgd_tI, jgd_bb, tfF, ftF, jup_at, jup_oc, jup_ok, jup_row]
                rw [e90, e91]
                by_cases qk : k = p
                · rw [qk, up_at, up_at]
                  exact ⟨⟨a, ha, rfl⟩, ⟨b, hb, rfl⟩⟩
                · rw [up_ne qk, up_ne qk]
                  exact p6 k (by omega)
          · rw [q] at ea el
            refine ⟨nM, m, _, N, C, ?_, ?_, r3⟩
            · unfold f_C_ahead
              simp only [lits, negs]
              simp (disch := omega) only [lits, negs, nI_add, nn1, leT, leF, ltT, ltF, eqF, mF1, mF2, mF3, mF4, mF5, mF6, mTT, eq_self, Nat.reduceEqDiff, ↓reduceIte, ↓jbd_s, ↓jpu_e, tI0, tI1, jgd_tI, jgd_bb, tfF, ftF, jup_at, jup_oc, jup_ok, ↓jb e2, p2, ↓jb ea]
            · unfold f_M_ahead
              simp only [lits, negs]
              simp (disch := omega) only [lits, negs, nI_add, nn1, leT, leF, ltT, ltF, eqF, mF1, mF2, mF3, mF4, mF5, mF6, mTT, eq_self, Nat.reduceEqDiff, ↓reduceIte, ↓jbd_s, ↓jpu_e, tI0, tI1, jgd_tI, jgd_bb, tfF, ftF, jup_at, jup_oc, jup_ok, ↓jb (eL a ha M r2), ↓jb (eL b hb M r2), p3', ↓jb el]
