/-! the two looks, side by side -/
theorem Rel_149 {N C : Nat} {m : jMem} (k : Nat) (v : Int32) (r : Rel N C m) : Rel N C (jup m 149 k v) := by
  obtain ⟨r1, r2, r3, r4, r5, r6, r7, r8, r9, r10, r11⟩ := r
  have hr : ∀ c, c ≠ 149 → jup m 149 k v c = m c := fun c h => jup_ne h
  have h : ∀ c j, c ≠ 149 → jup m 149 k v c j = m c j := fun c j q => by rw [hr c q]
  have hh : ∀ a b : Nat, b < 149 → ∀ c, a ≤ c → c ≤ b → jup m 149 k v c = m c := fun a b hb c _ h2 => hr c (by omega)
  refine ⟨RL_cong (h _ _ (by omega)) (h _ _ (by omega)) (hh 30 43 (by omega)) (hh 121 128 (by omega)) r1, RB_cong (h _ _ (by omega)) (h _ _ (by omega)) (hr _ (by omega)) r2, RT_cong (h _ _ (by omega)) (h _ _ (by omega)) (hr _ (by omega)) (hr _ (by omega)) r3, RD_cong (h _ _ (by omega)) (h _ _ (by omega)) r4, RW_cong (hr _ (by omega)) (hh 47 59 (by omega)) r5, RS_cong (h _ _ (by omega)) (h _ _ (by omega)) (h _ _ (by omega)) (h _ _ (by omega)) (h _ _ (by omega)) (h _ _ (by omega)) r6, RC_cong (h _ _ (by omega)) (h _ _ (by omega)) (hh 60 64 (by omega)) (hh 130 134 (by omega)) r7, RK_cong (hr _ (by omega)) (hr _ (by omega)) (hr _ (by omega)) (hr _ (by omega)) (hh 77 82 (by omega)) (hr _ (by omega)) (hr _ (by omega)) (h _ _ (by omega)) r8, RH_cong (hr _ (by omega)) (hh 67 75 (by omega)) (hr _ (by omega)) (hr _ (by omega)) r9, RP_cong (h _ _ (by omega)) (h _ _ (by omega)) (hr _ (by omega)) (hr _ (by omega)) (hr _ (by omega)) (hr _ (by omega)) r10, RX_cong (h _ _ (by omega)) (h _ _ (by omega)) (h _ _ (by omega)) (h _ _ (by omega)) (h _ _ (by omega)) (h _ _ (by omega)) (h _ _ (by omega)) (h _ _ (by omega)) (fun c a b _ => hh 3 19 (by omega) c a b) (hh 111 116 (by omega)) r11⟩
/-- both look, and agree -/
def Kst (N C : Nat) (x y : Int32) (m : jMem) : Prop := ∃ (r : (Nat × Int32) × jMem) (v : Int32) (M2 : jMem), (r = ((0, r.1.2), r.2) ∨ r = ((1, 0), r.2) ∨ r = ((2, 0), r.2)) ∧ f_C_look x y m = some r ∧ f_M_look x y (mW r) = some (v, M2) ∧ f_M_thrown M2 = some (Int32.ofNat r.1.1, M2) ∧ (Int32.ofNat r.1.1 = 0 → v = M2 149 0) ∧ Rel N C M2
theorem thrn {M : jMem} {a : Int32} (h : M 109 0 = a) : f_M_thrown M = some (a, M) := by
  unfold f_M_thrown
  rw [h]
theorem q_look {N C : Nat} {m : jMem} (r : Rel N C m) (x y : Int32) : Kst N C x y m := by
  have rl := r.1
  have h30 := rl.1
  have hN := rl.2.1
  have hM := rl.2.2.1
  rcases ixN x (n := N) (by omega) with hx | ⟨a, ha, rfl⟩
  · refine ⟨((1, 0), m), 0, jup m 109 0 1, Or.inr (Or.inl rfl), ?_, ?_, thrn (jup_at ..), fun h => absurd (show Int32.ofNat 1 = 0 from h) (by decide), Rel_scr (thr_scr m 1) r⟩
    · unfold f_C_look
      rw [e_isLetter_no hN hx, jbd_s]
      rfl
    · show f_M_look x y m = _
      unfold f_M_look
      rw [e_MisLetter_no hM hx, jbd_s]
      rfl
  · have out : (y < nI 0 ∨ nI 6 ≤ y) → Kst N C (nI a) y m := fun hy => by
      refine ⟨((2, 0), m), 0, jup m 109 0 2, Or.inr (Or.inr rfl), ?_, ?_, thrn (jup_at ..), fun h => absurd (show Int32.ofNat 2 = 0 from h) (by decide), Rel_scr (thr_scr m 2) r⟩
      · unfold f_C_look
        have hk : ∀ b, b < 6 → ¬ y = nI b := fun b hb e => by
          rw [e] at hy
          simp (disch := omega) only [lits, negs, nI_add, nn1, leT, leF, ltT, ltF, eqF, mF1, mF2, mF3, mF4, mF5, mF6, mTT, eq_self, Nat.reduceEqDiff, ↓reduceIte, jbd_s, jpu_e, tI0, tI1, jgd_tI, jgd_bb, tfF, ftF, jup_at, jup_oc, jup_ok] at hy
          exact hy.elim id id
        rw [e_isLetter hN h30 ha, jbd_s, if_neg (by decide), if_neg (show ¬ y = 0 from hk 0 (by omega)), if_neg (show ¬ y = 1 from hk 1 (by omega)), if_neg (show ¬ y = 2 from hk 2 (by omega)), if_neg (show ¬ y = 3 from hk 3 (by omega)), if_neg (show ¬ y = 4 from hk 4 (by omega)), if_neg (show ¬ y = 5 from hk 5 (by omega))]
      · show f_M_look (nI a) y m = _
        unfold f_M_look
        rw [e_MisLetter hM h30 ha, jbd_s, if_neg (by decide)]
        rcases hy with hy | hy
        · rw [if_pos (show y < 0 from hy)]
          rfl
        · have h1 : ¬ y < 0 := fun h => by
            have := Int32.lt_iff_toInt_lt.mp h
            have h2 := Int32.le_iff_toInt_le.mp hy
            have e6 : (nI 6).toInt = 6 := by decide
            have e0 : (0 : Int32).toInt = 0 := by decide
            omega
          have h2 : ¬ y ≤ 5 := fun h => by
            have := Int32.le_iff_toInt_le.mp h
            have h2 := Int32.le_iff_toInt_le.mp hy
            have e6 : (nI 6).toInt = 6 := by decide
            have e0 : (5 : Int32).toInt = 5 := by decide
            omega
          rw [if_neg h1, if_neg h2]
          rfl
    rcases ixN y (n := 6) (by omega) with hy | ⟨b, hb, rfl⟩
    · exact out hy
    · obtain ⟨r1, r2, r3, ⟨g0, g1, g2, g3, g4, g5, -, -⟩, -⟩ := rl
      rcases (by omega : b = 0 ∨ b = 1 ∨ b = 2 ∨ b = 3 ∨ b = 4 ∨ b = 5) with rfl | rfl | rfl | rfl | rfl | rfl
      · have hM1 : (jup m 149 0 (m 30 a)) 109 33 = nI N := by rw [jup_oc (by omega)]; exact hM
        refine ⟨((0, m 30 a), m), m 30 a, jup (jup m 149 0 (m 30 a)) 109 0 0, Or.inl rfl, ?_, ?_, thrn jup_at, fun _ => ?_, Rel_scr (thr_scr _ 0) (Rel_149 _ _ r)⟩
        · unfold f_C_look
          simp (disch := omega) only [lits, negs, nI_add, nn1, leT, leF, ltT, ltF, eqF, mF1, mF2, mF3, mF4, mF5, mF6, mTT, eq_self, Nat.reduceEqDiff, ↓reduceIte, jbd_s, jpu_e, tI0, tI1, jgd_tI, jgd_bb, tfF, ftF, jup_at, jup_oc, jup_ok, e_isLetter hN h30, ld_30]
        · show f_M_look (nI a) (nI 0) (jup m 149 0 (m 30 a)) = _
          unfold f_M_look
          simp (disch := omega) only [lits, negs, nI_add, nn1, leT, leF, ltT, ltF, eqF, mF1, mF2, mF3, mF4, mF5, mF6, mTT, eq_self, Nat.reduceEqDiff, ↓reduceIte, jbd_s, jpu_e, tI0, tI1, jgd_tI, jgd_bb, tfF, ftF, jup_at, jup_oc, jup_ok, e_MisLetter hM1 h30, ld_121, g0]
        · simp (disch := omega) only [lits, negs, nI_add, nn1, leT, leF, ltT, ltF, eqF, mF1, mF2, mF3, mF4, mF5, mF6, mTT, eq_self, Nat.reduceEqDiff, ↓reduceIte, jbd_s, jpu_e, tI0, tI1, jgd_tI, jgd_bb, tfF, ftF, jup_at, jup_oc, jup_ok]
      · have hM1 : (jup m 149 0 (m 31 a)) 109 33 = nI N := by rw [jup_oc (by omega)]; exact hM
        refine ⟨((0, m 31 a), m), m 31 a, jup (jup m 149 0 (m 31 a)) 109 0 0, Or.inl rfl, ?_, ?_, thrn jup_at, fun _ => ?_, Rel_scr (thr_scr _ 0) (Rel_149 _ _ r)⟩
        · unfold f_C_look
          simp (disch := omega) only [lits, negs, nI_add, nn1, leT, leF, ltT, ltF, eqF, mF1, mF2, mF3, mF4, mF5, mF6, mTT, eq_self, Nat.reduceEqDiff, ↓reduceIte, jbd_s, jpu_e, tI0, tI1, jgd_tI, jgd_bb, tfF, ftF, jup_at, jup_oc, jup_ok, e_isLetter hN h30, ld_31]
        · show f_M_look (nI a) (nI 1) (jup m 149 0 (m 31 a)) = _
          unfold f_M_look
          simp (disch := omega) only [lits, negs, nI_add, nn1, leT, leF, ltT, ltF, eqF, mF1, mF2, mF3, mF4, mF5, mF6, mTT, eq_self, Nat.reduceEqDiff, ↓reduceIte, jbd_s, jpu_e, tI0, tI1, jgd_tI, jgd_bb, tfF, ftF, jup_at, jup_oc, jup_ok, e_MisLetter hM1 h30, ld_122, g1]
        · simp (disch := omega) only [lits, negs, nI_add, nn1, leT, leF, ltT, ltF, eqF, mF1, mF2, mF3, mF4, mF5, mF6, mTT, eq_self, Nat.reduceEqDiff, ↓reduceIte, jbd_s, jpu_e, tI0, tI1, jgd_tI, jgd_bb, tfF, ftF, jup_at, jup_oc, jup_ok]
      · have hM1 : (jup m 149 0 (m 32 a)) 109 33 = nI N := by rw [jup_oc (by omega)]; exact hM
        refine ⟨((0, m 32 a), m), m 32 a, jup (jup m 149 0 (m 32 a)) 109 0 0, Or.inl rfl, ?_, ?_, thrn jup_at, fun _ => ?_, Rel_scr (thr_scr _ 0) (Rel_149 _ _ r)⟩
        · unfold f_C_look
          simp (disch := omega) only [lits, negs, nI_add, nn1, leT, leF, ltT, ltF, eqF, mF1, mF2, mF3, mF4, mF5, mF6, mTT, eq_self, Nat.reduceEqDiff, ↓reduceIte, jbd_s, jpu_e, tI0, tI1, jgd_tI, jgd_bb, tfF, ftF, jup_at, jup_oc, jup_ok, e_isLetter hN h30, ld_32]
        · show f_M_look (nI a) (nI 2) (jup m 149 0 (m 32 a)) = _
          unfold f_M_look
          simp (disch := omega) only [lits, negs, nI_add, nn1, leT, leF, ltT, ltF, eqF, mF1, mF2, mF3, mF4, mF5, mF6, mTT, eq_self, Nat.reduceEqDiff, ↓reduceIte, jbd_s, jpu_e, tI0, tI1, jgd_tI, jgd_bb, tfF, ftF, jup_at, jup_oc, jup_ok, e_MisLetter hM1 h30, ld_123, g2]
        · simp (disch := omega) only [lits, negs, nI_add, nn1, leT, leF, ltT, ltF, eqF, mF1, mF2, mF3, mF4, mF5, mF6, mTT, eq_self, Nat.reduceEqDiff, ↓reduceIte, jbd_s, jpu_e, tI0, tI1, jgd_tI, jgd_bb, tfF, ftF, jup_at, jup_oc, jup_ok]
      · have hM1 : (jup m 149 0 (m 33 a)) 109 33 = nI N := by rw [jup_oc (by omega)]; exact hM
        refine ⟨((0, m 33 a), m), m 33 a, jup (jup m 149 0 (m 33 a)) 109 0 0, Or.inl rfl, ?_, ?_, thrn jup_at, fun _ => ?_, Rel_scr (thr_scr _ 0) (Rel_149 _ _ r)⟩
        · unfold f_C_look
          simp (disch := omega) only [lits, negs, nI_add, nn1, leT, leF, ltT, ltF, eqF, mF1, mF2, mF3, mF4, mF5, mF6, mTT, eq_self, Nat.reduceEqDiff, ↓reduceIte, jbd_s, jpu_e, tI0, tI1, jgd_tI, jgd_bb, tfF, ftF, jup_at, jup_oc, jup_ok, e_isLetter hN h30, ld_33]
        · show f_M_look (nI a) (nI 3) (jup m 149 0 (m 33 a)) = _
          unfold f_M_look
          simp (disch := omega) only [lits, negs, nI_add, nn1, leT, leF, ltT, ltF, eqF, mF1, mF2, mF3, mF4, mF5, mF6, mTT, eq_self, Nat.reduceEqDiff, ↓reduceIte, jbd_s, jpu_e, tI0, tI1, jgd_tI, jgd_bb, tfF, ftF, jup_at, jup_oc, jup_ok, e_MisLetter hM1 h30, ld_124, g3]
        · simp (disch := omega) only [lits, negs, nI_add, nn1, leT, leF, ltT, ltF, eqF, mF1, mF2, mF3, mF4, mF5, mF6, mTT, eq_self, Nat.reduceEqDiff, ↓reduceIte, jbd_s, jpu_e, tI0, tI1, jgd_tI, jgd_bb, tfF, ftF, jup_at, jup_oc, jup_ok]
      · have hM1 : (jup m 149 0 (m 34 a)) 109 33 = nI N := by rw [jup_oc (by omega)]; exact hM
        refine ⟨((0, m 34 a), m), m 34 a, jup (jup m 149 0 (m 34 a)) 109 0 0, Or.inl rfl, ?_, ?_, thrn jup_at, fun _ => ?_, Rel_scr (thr_scr _ 0) (Rel_149 _ _ r)⟩
        · unfold f_C_look
          simp (disch := omega) only [lits, negs, nI_add, nn1, leT, leF, ltT, ltF, eqF, mF1, mF2, mF3, mF4, mF5, mF6, mTT, eq_self, Nat.reduceEqDiff, ↓reduceIte, jbd_s, jpu_e, tI0, tI1, jgd_tI, jgd_bb, tfF, ftF, jup_at, jup_oc, jup_ok, e_isLetter hN h30, ld_34]
        · show f_M_look (nI a) (nI 4) (jup m 149 0 (m 34 a)) = _
          unfold f_M_look
          simp (disch := omega) only [lits, negs, nI_add, nn1, leT, leF, ltT, ltF, eqF, mF1, mF2, mF3, mF4, mF5, mF6, mTT, eq_self, Nat.reduceEqDiff, ↓reduceIte, jbd_s, jpu_e, tI0, tI1, jgd_tI, jgd_bb, tfF, ftF, jup_at, jup_oc, jup_ok, e_MisLetter hM1 h30, ld_125, g4]
        · simp (disch := omega) only [lits, negs, nI_add, nn1, leT, leF, ltT, ltF, eqF, mF1, mF2, mF3, mF4, mF5, mF6, mTT, eq_self, Nat.reduceEqDiff, ↓reduceIte, jbd_s, jpu_e, tI0, tI1, jgd_tI, jgd_bb, tfF, ftF, jup_at, jup_oc, jup_ok]
      · have hM1 : (jup m 149 0 (m 35 a)) 109 33 = nI N := by rw [jup_oc (by omega)]; exact hM
        refine ⟨((0, m 35 a), m), m 35 a, jup (jup m 149 0 (m 35 a)) 109 0 0, Or.inl rfl, ?_, ?_, thrn jup_at, fun _ => ?_, Rel_scr (thr_scr _ 0) (Rel_149 _ _ r)⟩
        · unfold f_C_look
          simp (disch := omega) only [lits, negs, nI_add, nn1, leT, leF, ltT, ltF, eqF, mF1, mF2, mF3, mF4, mF5, mF6, mTT, eq_self, Nat.reduceEqDiff, ↓reduceIte, jbd_s, jpu_e, tI0, tI1, jgd_tI, jgd_bb, tfF, ftF, jup_at, jup_oc, jup_ok, e_isLetter hN h30, ld_35]
        · show f_M_look (nI a) (nI 5) (jup m 149 0 (m 35 a)) = _
          unfold f_M_look
          simp (disch := omega) only [lits, negs, nI_add, nn1, leT, leF, ltT, ltF, eqF, mF1, mF2, mF3, mF4, mF5, mF6, mTT, eq_self, Nat.reduceEqDiff, ↓reduceIte, jbd_s, jpu_e, tI0, tI1, jgd_tI, jgd_bb, tfF, ftF, jup_at, jup_oc, jup_ok, e_MisLetter hM1 h30, ld_126, g5]
        · simp (disch := omega) only [lits, negs, nI_add, nn1, leT, leF, ltT, ltF, eqF, mF1, mF2, mF3, mF4, mF5, mF6, mTT, eq_self, Nat.reduceEqDiff, ↓reduceIte, jbd_s, jpu_e, tI0, tI1, jgd_tI, jgd_bb, tfF, ftF, jup_at, jup_oc, jup_ok]
