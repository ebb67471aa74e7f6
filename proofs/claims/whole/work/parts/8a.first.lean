/-! first -/
theorem lp_plX {S : Nat} {x : Int32} {g : Nat → Nat} {kY : Int32 → jMem → Option (Int32 × jMem)} {kN : jMem → Option (Int32 × jMem)} {M : jMem} (h12 : S ≤ 12) (hS : M 109 67 = nI S) (hg : ∀ b, b < S → M 146 b = nI (g b)) (h : ∀ b, b < S → ¬ nI (g b) = x) : ∀ (d n i : Nat), i + d = S → d < n → lp_M_placeOf_2 x kY kN n (nI i) M = kN M := by
  intro d
  induction d with
  | zero =>
    intro n i h0 hn
    obtain ⟨n, rfl⟩ := ex_succ hn
    have e : i = S := by omega
    subst e
    unfold lp_M_placeOf_2
    simp (disch := omega) only [lits, negs, nI_add, nn1, leT, leF, ltT, ltF, eqF, mF1, mF2, mF3, mF4, mF5, mF6, mTT, eq_self, Nat.reduceEqDiff, ↓reduceIte, jbd_s, jpu_e, tI0, tI1, jgd_tI, jgd_bb, tfF, ftF, jup_at, jup_oc, jup_ok, hS]
  | succ d ih =>
    intro n i h0 hn
    obtain ⟨n, rfl⟩ := ex_succ hn
    have e := ih n (i + 1) (by omega) (by omega)
    unfold lp_M_placeOf_2
    simp (disch := omega) only [lits, negs, nI_add, nn1, leT, leF, ltT, ltF, eqF, mF1, mF2, mF3, mF4, mF5, mF6, mTT, eq_self, Nat.reduceEqDiff, ↓reduceIte, jbd_s, jpu_e, tI0, tI1, jgd_tI, jgd_bb, tfF, ftF, jup_at, jup_oc, jup_ok, hS, ld_146, hg i (by omega)]
    rw [if_neg (h i (by omega))]
    exact e
theorem e_plX {S : Nat} {x : Int32} {g : Nat → Nat} {M : jMem} (h12 : S ≤ 12) (hS : M 109 67 = nI S) (hg : ∀ b, b < S → M 146 b = nI (g b)) (h : ∀ b, b < S → ¬ nI (g b) = x) : f_M_placeOf x M = some (nM, M) := by
  unfold f_M_placeOf
  simp only [lits, negs]
  exact lp_plX h12 hS hg h S 5000 0 (by omega) (by omega)
/-- a letter of the set has a place, and another thing has none -/
theorem in_or {X x : Int32} {N S : Nat} {g : Nat → Nat} (h30 : N ≤ 30) (hX : isSt N X = true) (hn : nthS g X N S) : ((∀ m, f_C_isIn X x m = some (nI 0, m)) ∧ ∀ b, b < S → ¬ nI (g b) = x) ∨ ∃ b, b < S ∧ x = nI (g b) ∧ g b < 30 ∧ ∀ m, f_C_isIn X x m = some (nI 1, m) := by
  have hgN : ∀ b, b < S → g b < N ∧ bt X (g b) = true := fun b hb => ⟨(hn.2 b hb).1, (hn.2 b hb).2.1⟩
  rcases ixN x (n := 30) (by omega) with hx | ⟨l, hl, rfl⟩
  · refine Or.inl ⟨fun m => e_isIn_no hx, fun b hb e => ?_⟩
    have := (hgN b hb).1
    subst e
    rcases hx with h | h
    · exact nI_pos (by omega) h
    · exact nI_ge (by omega) (by omega) h
  · cases q : bt X l
    · refine Or.inl ⟨fun m => by rw [e_isIn hl, q]; rfl, fun b hb e => ?_⟩
      have h1 := (hgN b hb).1
      have h2 := (nI_eq (by omega) (by omega)).mp e
      have h3 := (hgN b hb).2
      rw [h2, q] at h3
      exact absurd h3 (by decide)
    · obtain ⟨h1, h2⟩ := nthS_of hn (isSt_iff.mp hX l q) q
      exact Or.inr ⟨fb_ct (bt X) l, h1, by rw [h2], by rw [h2]; exact hl, fun m => by rw [e_isIn hl, q]; rfl⟩
theorem q_first {N C : Nat} {m : jMem} (r : Rel N C m) (X x y : Int32) : Qst (f_C_first X x y) (f_M_first X x y) m := by
  have h30 := r.1.1
  have hN := r.1.2.1
  by_cases hbad : isSt N X = false ∨ ¬ pcnt X ≤ 12
  · refine ⟨nM, m, jup m 109 0 (nI 0), ?_, ?_⟩
    · unfold f_C_first
      simp only [lits, negs]
      simp (disch := omega) only [lits, negs, nI_add, nn1, leT, leF, ltT, ltF, eqF, mF1, mF2, mF3, mF4, mF5, mF6, mTT, eq_self, Nat.reduceEqDiff, ↓reduceIte, ↓jbd_s, ↓jpu_e, tI0, tI1, jgd_tI, jgd_bb, tfF, ftF, jup_at, jup_oc, jup_ok, ↓jb (e_takes_no (m := m) h30 hN hbad)]
    · unfold f_M_first
      simp only [lits, negs]
      simp (disch := omega) only [lits, negs, nI_add, nn1, leT, leF, ltT, ltF, eqF, mF1, mF2, mF3, mF4, mF5, mF6, mTT, eq_self, Nat.reduceEqDiff, ↓reduceIte, ↓jbd_s, ↓jpu_e, tI0, tI1, jgd_tI, jgd_bb, tfF, ftF, jup_at, jup_oc, jup_ok, ↓jb (e_lay_no (M := jup m 109 0 (nI 0)) h30 (by rw [jup_ok (by omega)]; exact r.1.2.2.1) hbad)]
  · have hX : isSt N X = true := by cases q : isSt N X; exact absurd (Or.inl q) hbad; rfl
    have h12 : pcnt X ≤ 12 := Classical.byContradiction fun q => hbad (Or.inr q)
    obtain ⟨g, A, B, p, m1, hn, -, e1, e2, e3, e4, e5, e6⟩ := lay_two r hX h12
    have hgN : ∀ b, b < pcnt X → g b < N := fun b hb => (hn.2 b hb).1
    have hg' : ∀ b, b < pcnt X → m1 92 b = nI (g b) ∧ g b < 30 := fun b hb => ⟨e3 b hb, by have := hgN b hb; omega⟩
    have hinj : ∀ a b, a < pcnt X → b < pcnt X → g a = g b → a = b := fun a b ha hb e => nthS_inj hn ha hb e
    -- the reference's side, whatever the class has done to its own cells
    have hM : ∀ m2 : jMem, (∀ c, c ≠ 92 → c ≠ 93 → c ≠ 89 → c ≠ 94 → m2 c = m c) → ∃ M1, f_M_lay X (jup m2 109 0 (nI 0)) = some (nI 1, M1) ∧ M1 109 67 = nI (pcnt X) ∧ (∀ b, b < pcnt X → M1 146 b = nI (g b)) ∧ ∀ a, a < pcnt X → M1 147 a = ndS (m 37) A B g (pcnt X) a p := fun m2 hm2 => e6 (jup m2 109 0 (nI 0)) (fun c h1 h2 => by rw [jup_oc h2, hm2 c (by omega) (by omega) (by omega) (by omega)]) (fun j hj => by rw [jup_ok hj, hm2 109 (by omega) (by omega) (by omega) (by omega)])
    obtain ⟨M1, k1, k2, k3, k4⟩ := hM m1 (fun c a b d _ => e5 c a b d)
    by_cases hxy : x = y
    · subst hxy
      refine ⟨nM, m1, M1, ?_, ?_⟩
      · unfold f_C_first
        simp only [lits, negs]
        simp (disch := omega) only [lits, negs, nI_add, nn1, leT, leF, ltT, ltF, eqF, mF1, mF2, mF3, mF4, mF5, mF6, mTT, eq_self, Nat.reduceEqDiff, ↓reduceIte, ↓jbd_s, ↓jpu_e, tI0, tI1, jgd_tI, jgd_bb, tfF, ftF, jup_at, jup_oc, jup_ok, ↓jb e1]
      · unfold f_M_first
        simp only [lits, negs]
        simp (disch := omega) only [lits, negs, nI_add, nn1, leT, leF, ltT, ltF, eqF, mF1, mF2, mF3, mF4, mF5, mF6, mTT, eq_self, Nat.reduceEqDiff, ↓reduceIte, ↓jbd_s, ↓jpu_e, tI0, tI1, jgd_tI, jgd_bb, tfF, ftF, jup_at, jup_oc, jup_ok, ↓jb k1]
    · rcases in_or (x := x) h30 hX hn with ⟨x1, x2⟩ | ⟨a0, ha0, rfl, ga0, x1⟩
      · refine ⟨nM, m1, M1, ?_, ?_⟩
        · unfold f_C_first
          simp only [lits, negs]
          simp (disch := omega) only [lits, negs, nI_add, nn1, leT, leF, ltT, ltF, eqF, mF1, mF2, mF3, mF4, mF5, mF6, mTT, eq_self, Nat.reduceEqDiff, ↓reduceIte, ↓jbd_s, ↓jpu_e, tI0, tI1, jgd_tI, jgd_bb, tfF, ftF, jup_at, jup_oc, jup_ok, ↓jb e1, hxy, ↓jb (x1 m1)]
        · unfold f_M_first
          simp only [lits, negs]
          simp (disch := omega) only [lits, negs, nI_add, nn1, leT, leF, ltT, ltF, eqF, mF1, mF2, mF3, mF4, mF5, mF6, mTT, eq_self, Nat.reduceEqDiff, ↓reduceIte, ↓jbd_s, ↓jpu_e, tI0, tI1, jgd_tI, jgd_bb, tfF, ftF, jup_at, jup_oc, jup_ok, ↓jb k1, hxy, ↓jb (e_plX h12 k2 k3 x2)]
      · have hk3 : ∀ M : jMem, (∀ b, b < pcnt X → M 146 b = nI (g b)) → ∀ b, b < pcnt X → M 146 b = nI (g b) ∧ g b < 30 := fun M h b hb => ⟨h b hb, by have := hgN b hb; omega⟩
        rcases in_or (x := y) h30 hX hn with ⟨y1, y2⟩ | ⟨b0, hb0, rfl, gb0, y1⟩
        · refine ⟨nM, m1, M1, ?_, ?_⟩
          · unfold f_C_first
            simp only [lits, negs]
            simp (disch := omega) only [lits, negs, nI_add, nn1, leT, leF, ltT, ltF, eqF, mF1, mF2, mF3, mF4, mF5, mF6, mTT, eq_self, Nat.reduceEqDiff, ↓reduceIte, ↓jbd_s, ↓jpu_e, tI0, tI1, jgd_tI, jgd_bb, tfF, ftF, jup_at, jup_oc, jup_ok, ↓jb e1, hxy, ↓jb (x1 m1), ↓jb (y1 m1)]
          · unfold f_M_first
            simp only [lits, negs]
            simp (disch := omega) only [lits, negs, nI_add, nn1, leT, leF, ltT, ltF, eqF, mF1, mF2, mF3, mF4, mF5, mF6, mTT, eq_self, Nat.reduceEqDiff, ↓reduceIte, ↓jbd_s, ↓jpu_e, tI0, tI1, jgd_tI, jgd_bb, tfF, ftF, jup_at, jup_oc, jup_ok, ↓jb k1, hxy, ↓jb (e_plY h12 k2 (hk3 M1 k3) ha0 hinj), ↓jb (e_plX h12 k2 k3 y2)]
        · obtain ⟨m2, d1, d2, d3⟩ := lp_dem (a0 := g a0) (b0 := g b0) (k := fun m8 => some ((), m8)) h12 gb0 (pcnt X) 5000 0 m1 (by omega) (by omega) e2 hg'
          have ed : f_O_demand (nI (g a0)) (nI (g b0)) m1 = some ((), m2) := by
            unfold f_O_demand
            simp only [lits]
            exact d1
          obtain ⟨m3, f1, f2, -⟩ := e_howMany (nd := m2 93) h12 (by rw [d2 89 (by omega)]; exact e2) rfl
          have hm3 : ∀ c, c ≠ 92 → c ≠ 93 → c ≠ 89 → c ≠ 94 → m3 c = m c := fun c a b d e => by rw [f2 c e, d2 c b, e5 c a b d]
          obtain ⟨M2, s1, s2, s3, s4⟩ := hM m3 hm3
          obtain ⟨M3, g1, g2, -⟩ := e_countOrders (nd := m2 93) (m := jup M2 147 b0 (M2 147 b0 ||| sb a0)) h12 (by rw [jup_oc (by omega)]; exact s2) (fun v hv => by
            rw [d3 v hv, e4 v hv]
            by_cases q : v = b0
            · rw [q, jup_at, s4 b0 hb0, if_pos ⟨Nat.zero_le _, rfl⟩, pl_one h12 ha0 (fun b hb => by have := hgN b hb; omega) hinj]
            · rw [jup_ok q, s4 v hv, if_neg (fun z => q (hinj v b0 hv hb0 z.2.symm))])
          refine ⟨nI (rsN (m2 93) (pcnt X) 0), m3, jup M3 147 b0 (M2 147 b0), ?_, ?_⟩
          · unfold f_C_first
            simp only [lits, negs]
            simp (disch := omega) only [lits, negs, nI_add, nn1, leT, leF, ltT, ltF, eqF, mF1, mF2, mF3, mF4, mF5, mF6, mTT, eq_self, Nat.reduceEqDiff, ↓reduceIte, ↓jbd_s, ↓jpu_e, tI0, tI1, jgd_tI, jgd_bb, tfF, ftF, jup_at, jup_oc, jup_ok, ↓jb e1, hxy, ↓jb (x1 m1), ↓jb (y1 m1), ↓jb ed, ↓jb f1]
          · have ef : f_M_firsts (nI a0) (nI b0) M2 = some (nI (rsN (m2 93) (pcnt X) 0), jup M3 147 b0 (M2 147 b0)) := by
              unfold f_M_firsts
              simp only [lits, negs]
              rw [ld_147 (by omega), ld_147 (by omega), st_147 (by omega), sb_e, g1, jbd_s, st_147 (by omega)]
            unfold f_M_first
            simp only [lits, negs]
            simp (disch := omega) only [lits, negs, nI_add, nn1, leT, leF, ltT, ltF, eqF, mF1, mF2, mF3, mF4, mF5, mF6, mTT, eq_self, Nat.reduceEqDiff, ↓reduceIte, ↓jbd_s, ↓jpu_e, tI0, tI1, jgd_tI, jgd_bb, tfF, ftF, jup_at, jup_oc, jup_ok, ↓jb s1, hxy, ↓jb (e_plY h12 s2 (hk3 M2 s3) ha0 hinj), ↓jb (e_plY h12 s2 (hk3 M2 s3) hb0 hinj), ↓jb ef]
