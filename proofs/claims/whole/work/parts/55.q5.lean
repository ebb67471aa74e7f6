/-! could, forged, forgers -/
theorem q_could {N C : Nat} {m : jMem} (r : Rel N C m) (x y : Int32) : Qst (f_C_could x y) (f_M_could x y) m := by
  have rl := r.1
  have h30 := rl.1
  have hN := rl.2.1
  have rl1 := RL_scr (thr_scr m (nI 0)) rl
  have hM := rl1.2.2.1
  have rb := r.2.1
  have hbu := RB_bu rb
  have hnm : ∀ a, a < 30 → ¬ nI a = nI a → False := fun a _ h => h rfl
  rcases ixN x (n := N) (by omega) with hx | ⟨a, ha, rfl⟩
  · refine ⟨nM, m, jup m 109 0 (nI 0), ?_, ?_⟩
    · unfold f_C_could
      by_cases e : x = y
      · rw [if_pos e]; rfl
      · rw [if_neg e]
        simp (disch := omega) only [lits, negs, nI_add, nn1, leT, leF, ltT, ltF, eqF, mF1, mF2, mF3, mF4, mF5, mF6, mTT, eq_self, Nat.reduceEqDiff, ↓reduceIte, jbd_s, jpu_e, tI0, tI1, jgd_tI, jgd_bb, tfF, ftF, jup_at, jup_oc, jup_ok, e_isLeft_no hN hx]
    · unfold f_M_could
      simp only [lits, negs, jpu_e]
      rw [e_MisLetter_no hM hx]
      simp (disch := omega) only [lits, negs, nI_add, nn1, leT, leF, ltT, ltF, eqF, mF1, mF2, mF3, mF4, mF5, mF6, mTT, eq_self, Nat.reduceEqDiff, ↓reduceIte, jbd_s, jpu_e, tI0, tI1, jgd_tI, jgd_bb, tfF, ftF, jup_at, jup_oc, jup_ok]
  · rcases ixN y (n := N) (by omega) with hy | ⟨b, hb, rfl⟩
    · refine ⟨nM, m, jup m 109 0 (nI 0), ?_, ?_⟩
      · unfold f_C_could
        by_cases e : nI a = y
        · rw [if_pos e]; rfl
        · rw [if_neg e]
          simp (disch := omega) only [lits, negs, nI_add, nn1, leT, leF, ltT, ltF, eqF, mF1, mF2, mF3, mF4, mF5, mF6, mTT, eq_self, Nat.reduceEqDiff, ↓reduceIte, jbd_s, jpu_e, tI0, tI1, jgd_tI, jgd_bb, tfF, ftF, jup_at, jup_oc, jup_ok, e_isLeft hN h30, e_isLeft_no hN hy]
          cases bt (m 29 16) a <;> rfl
      · unfold f_M_could
        simp only [lits, negs, jpu_e]
        rw [e_MisLetter hM h30 ha]
        simp only [jbd_s]
        rw [if_neg (by decide), e_MisLetter_no hM hy]
        simp (disch := omega) only [lits, negs, nI_add, nn1, leT, leF, ltT, ltF, eqF, mF1, mF2, mF3, mF4, mF5, mF6, mTT, eq_self, Nat.reduceEqDiff, ↓reduceIte, jbd_s, jpu_e, tI0, tI1, jgd_tI, jgd_bb, tfF, ftF, jup_at, jup_oc, jup_ok]
    · by_cases e : a = b
      · subst e
        refine ⟨nM, m, jup m 109 0 (nI 0), ?_, ?_⟩
        · unfold f_C_could
          simp (disch := omega) only [lits, negs, nI_add, nn1, leT, leF, ltT, ltF, eqF, mF1, mF2, mF3, mF4, mF5, mF6, mTT, eq_self, Nat.reduceEqDiff, ↓reduceIte, jbd_s, jpu_e, tI0, tI1, jgd_tI, jgd_bb, tfF, ftF, jup_at, jup_oc, jup_ok]
        · unfold f_M_could
          simp only [lits, negs]
          simp (disch := omega) only [lits, negs, nI_add, nn1, leT, leF, ltT, ltF, eqF, mF1, mF2, mF3, mF4, mF5, mF6, mTT, eq_self, Nat.reduceEqDiff, ↓reduceIte, ↓jbd_s, ↓jpu_e, tI0, tI1, jgd_tI, jgd_bb, tfF, ftF, jup_at, jup_oc, jup_ok, ↓jb (e_MisLetter hM h30 ha)]
      · have hab : ¬ nI a = nI b := by rw [eqF e (by omega) (by omega)]; exact id
        have hq : jup m 109 0 (nI 0) 129 = m 129 := jup_oc (by omega)
        cases hla : bt (m 29 16) a
        · refine ⟨nM, m, jup m 109 0 (nI 0), ?_, ?_⟩
          · unfold f_C_could
            simp (disch := omega) only [lits, negs, nI_add, nn1, leT, leF, ltT, ltF, eqF, mF1, mF2, mF3, mF4, mF5, mF6, mTT, eq_self, Nat.reduceEqDiff, ↓reduceIte, jbd_s, jpu_e, tI0, tI1, jgd_tI, jgd_bb, tfF, ftF, jup_at, jup_oc, jup_ok, e_isLeft hN h30, hla, hab]
          · unfold f_M_could
            have hba : m 129 a = nI 1 := by rw [hbu a ha, hla]; rfl
            simp only [lits, negs]
            simp (disch := omega) only [lits, negs, nI_add, nn1, leT, leF, ltT, ltF, eqF, mF1, mF2, mF3, mF4, mF5, mF6, mTT, eq_self, Nat.reduceEqDiff, ↓reduceIte, ↓jbd_s, ↓jpu_e, tI0, tI1, jgd_tI, jgd_bb, tfF, ftF, jup_at, jup_oc, jup_ok, ↓jb (e_MisLetter hM h30 ha), ↓jb (e_MisLetter hM h30 hb), hab, ↓ld_129, hq, hba]
        · cases hlb : bt (m 29 16) b
          · refine ⟨nM, m, jup m 109 0 (nI 0), ?_, ?_⟩
            · unfold f_C_could
              simp (disch := omega) only [lits, negs, nI_add, nn1, leT, leF, ltT, ltF, eqF, mF1, mF2, mF3, mF4, mF5, mF6, mTT, eq_self, Nat.reduceEqDiff, ↓reduceIte, jbd_s, jpu_e, tI0, tI1, jgd_tI, jgd_bb, tfF, ftF, jup_at, jup_oc, jup_ok, e_isLeft hN h30, hla, hlb, hab]
            · unfold f_M_could
              have hba : m 129 a = nI 0 := by rw [hbu a ha, hla]; rfl
              have hbb : m 129 b = nI 1 := by rw [hbu b hb, hlb]; rfl
              simp only [lits, negs]
              simp (disch := omega) only [lits, negs, nI_add, nn1, leT, leF, ltT, ltF, eqF, mF1, mF2, mF3, mF4, mF5, mF6, mTT, eq_self, Nat.reduceEqDiff, ↓reduceIte, ↓jbd_s, ↓jpu_e, tI0, tI1, jgd_tI, jgd_bb, tfF, ftF, jup_at, jup_oc, jup_ok, ↓jb (e_MisLetter hM h30 ha), ↓jb (e_MisLetter hM h30 hb), hab, ↓ld_129, hq, hba, hbb]
          · obtain ⟨m1, e1, f1, t1⟩ := e_byA (left := true) (bu := fun j => !bt (m 29 16) j) h30 hM (fun l hl => by
              rw [rl1.2.2.2.1.2.2.2.2.1, rl1.2.2.2.1.2.2.2.2.2.1]; exact RL_oI rl1 l hl) (fun j hj => by rw [hq]; exact hbu j hj)
            have q5 : jup m 109 0 (nI 0) 125 = m 34 := by rw [jup_oc (by omega)]; exact rl.2.2.2.1.2.2.2.2.1
            have q6 : jup m 109 0 (nI 0) 126 = m 35 := by rw [jup_oc (by omega)]; exact rl.2.2.2.1.2.2.2.2.2.1
            rw [q5, q6] at t1
            have hba : m 129 a = nI 0 := by rw [hbu a ha, hla]; rfl
            have hbb : m 129 b = nI 0 := by rw [hbu b hb, hlb]; rfl
            have hc := e_cites rl ha hb e hlb (bu := fun j => !bt (m 29 16) j) (fun _ _ => rfl) t1
            obtain ⟨W, hW, hWd⟩ := r.2.2.2.2.1
            obtain ⟨m2, e2, f2, g2⟩ := e_Msums (W := W) (m := m1) (fun u hu v hv => by
              have := hW u hu v hv
              rw [f1 120 (by omega), jup_oc (by omega)]
              exact ⟨this.1, this.2.1⟩)
            have hr : ∀ c, c ≠ 109 → c ≠ 141 → c ≠ 143 → m2 c = m c := fun c h1 h2 h3 => by rw [f2 c h3, f1 c h2, jup_oc h1]
            have hw1 : m2 121 = m 30 := by rw [hr _ (by omega) (by omega) (by omega)]; exact rl.2.2.2.1.1
            have hd1 : m2 122 = m 31 := by rw [hr _ (by omega) (by omega) (by omega)]; exact rl.2.2.2.1.2.1
            obtain ⟨wa, hwa, ewa⟩ := RL_wr rl a ha
            obtain ⟨wb, hwb, ewb⟩ := RL_wr rl b hb
            have hl1 := (hW wa hwa wb hwb).2.2.2
            have hl2 := g2 wa hwa wb hwb
            cases ht : bt (m1 141 b) a
            · rw [ht] at hc
              by_cases hww : wa = wb
              · refine ⟨tI (decide (a < b)), m, m2, ?_, ?_⟩
                · unfold f_C_could f_U_mayHaveKnown
                  subst hww
                  simp (disch := omega) only [lits, negs, nI_add, nn1, leT, leF, ltT, ltF, eqF, mF1, mF2, mF3, mF4, mF5, mF6, mTT, eq_self, Nat.reduceEqDiff, ↓reduceIte, jbd_s, jpu_e, tI0, tI1, jgd_tI, jgd_bb, tfF, ftF, jup_at, jup_oc, jup_ok, e_isLeft hN h30, hla, hlb, hab, hc, tI_f, ld_30, ewa, ewb]
                  by_cases q : a < b
                  · simp (disch := omega) only [lits, negs, nI_add, nn1, leT, leF, ltT, ltF, eqF, mF1, mF2, mF3, mF4, mF5, mF6, mTT, eq_self, Nat.reduceEqDiff, ↓reduceIte, jbd_s, jpu_e, tI0, tI1, jgd_tI, jgd_bb, tfF, ftF, jup_at, jup_oc, jup_ok, decide_eq_true q, tI_t, e_truth1]
                  · simp (disch := omega) only [lits, negs, nI_add, nn1, leT, leF, ltT, ltF, eqF, mF1, mF2, mF3, mF4, mF5, mF6, mTT, eq_self, Nat.reduceEqDiff, ↓reduceIte, jbd_s, jpu_e, tI0, tI1, jgd_tI, jgd_bb, tfF, ftF, jup_at, jup_oc, jup_ok, decide_eq_false q, tI_f, e_truth0]
                · unfold f_M_could
                  subst hww
                  rw [tI_t] at e1
                  simp only [lits, negs]
                  simp (disch := omega) only [lits, negs, nI_add, nn1, leT, leF, ltT, ltF, eqF, mF1, mF2, mF3, mF4, mF5, mF6, mTT, eq_self, Nat.reduceEqDiff, ↓reduceIte, ↓jbd_s, ↓jpu_e, tI0, tI1, jgd_tI, jgd_bb, tfF, ftF, jup_at, jup_oc, jup_ok, ↓jb (e_MisLetter hM h30 ha), ↓jb (e_MisLetter hM h30 hb), hab, ↓ld_129, hq, hba, hbb, ↓jb e1, ↓ld_141, bit1, ht, ↓jb e2, ↓ld_121, hw1, ewa, ewb]
                  by_cases q : a < b
                  · simp (disch := omega) only [lits, negs, nI_add, nn1, leT, leF, ltT, ltF, eqF, mF1, mF2, mF3, mF4, mF5, mF6, mTT, eq_self, Nat.reduceEqDiff, ↓reduceIte, jbd_s, jpu_e, tI0, tI1, jgd_tI, jgd_bb, tfF, ftF, jup_at, jup_oc, jup_ok, decide_eq_true q, tI_t, show f_M_is (nI 1) m2 = some (nI 1, m2) from e_Mis true]
                  · simp (disch := omega) only [lits, negs, nI_add, nn1, leT, leF, ltT, ltF, eqF, mF1, mF2, mF3, mF4, mF5, mF6, mTT, eq_self, Nat.reduceEqDiff, ↓reduceIte, jbd_s, jpu_e, tI0, tI1, jgd_tI, jgd_bb, tfF, ftF, jup_at, jup_oc, jup_ok, decide_eq_false q, tI_f, show f_M_is (nI 0) m2 = some (nI 0, m2) from e_Mis false]
              · refine ⟨if m 31 b - m 31 a < nI (fl3 W 6 wa wb) then nI 0 else nI 1, m, m2, ?_, ?_⟩
                · unfold f_C_could f_U_mayHaveKnown
                  simp (disch := omega) only [lits, negs, nI_add, nn1, leT, leF, ltT, ltF, eqF, mF1, mF2, mF3, mF4, mF5, mF6, mTT, eq_self, Nat.reduceEqDiff, ↓reduceIte, jbd_s, jpu_e, tI0, tI1, jgd_tI, jgd_bb, tfF, ftF, jup_at, jup_oc, jup_ok, e_isLeft hN h30, hla, hlb, hab, hc, tI_f, ld_30, ewa, ewb, ld_31, l3_53, ldr_53, hl1, jlr_53]
                  by_cases q : m 31 b - m 31 a < nI (fl3 W 6 wa wb)
                  · rw [if_pos q, if_pos q]
                    simp (disch := omega) only [lits, negs, nI_add, nn1, leT, leF, ltT, ltF, eqF, mF1, mF2, mF3, mF4, mF5, mF6, mTT, eq_self, Nat.reduceEqDiff, ↓reduceIte, jbd_s, jpu_e, tI0, tI1, jgd_tI, jgd_bb, tfF, ftF, jup_at, jup_oc, jup_ok, e_truth0]
                  · rw [if_neg q, if_neg q]
                    simp (disch := omega) only [lits, negs, nI_add, nn1, leT, leF, ltT, ltF, eqF, mF1, mF2, mF3, mF4, mF5, mF6, mTT, eq_self, Nat.reduceEqDiff, ↓reduceIte, jbd_s, jpu_e, tI0, tI1, jgd_tI, jgd_bb, tfF, ftF, jup_at, jup_oc, jup_ok, e_truth1]
                · unfold f_M_could
                  rw [tI_t] at e1
                  simp only [lits, negs]
                  simp (disch := omega) only [lits, negs, nI_add, nn1, leT, leF, ltT, ltF, eqF, mF1, mF2, mF3, mF4, mF5, mF6, mTT, eq_self, Nat.reduceEqDiff, ↓reduceIte, ↓jbd_s, ↓jpu_e, tI0, tI1, jgd_tI, jgd_bb, tfF, ftF, jup_at, jup_oc, jup_ok, ↓jb (e_MisLetter hM h30 ha), ↓jb (e_MisLetter hM h30 hb), hab, ↓ld_129, hq, hba, hbb, ↓jb e1, ↓ld_141, bit1, ht, ↓jb e2, ↓ld_121, ↓ld_122, hw1, hd1, ewa, ewb, pk_mul, ↓ld_143, hl2]
                  by_cases q : m 31 b - m 31 a < nI (fl3 W 6 wa wb)
                  · rw [if_pos q, if_pos q]
                    simp (disch := omega) only [lits, negs, nI_add, nn1, leT, leF, ltT, ltF, eqF, mF1, mF2, mF3, mF4, mF5, mF6, mTT, eq_self, Nat.reduceEqDiff, ↓reduceIte, jbd_s, jpu_e, tI0, tI1, jgd_tI, jgd_bb, tfF, ftF, jup_at, jup_oc, jup_ok, show f_M_is (nI 0) m2 = some (nI 0, m2) from e_Mis false]
                  · rw [if_neg q, if_neg q]
                    simp (disch := omega) only [lits, negs, nI_add, nn1, leT, leF, ltT, ltF, eqF, mF1, mF2, mF3, mF4, mF5, mF6, mTT, eq_self, Nat.reduceEqDiff, ↓reduceIte, jbd_s, jpu_e, tI0, tI1, jgd_tI, jgd_bb, tfF, ftF, jup_at, jup_oc, jup_ok, show f_M_is (nI 1) m2 = some (nI 1, m2) from e_Mis true]
            · rw [ht] at hc
              refine ⟨nI 2, m, m1, ?_, ?_⟩
              · unfold f_C_could
                simp (disch := omega) only [lits, negs, nI_add, nn1, leT, leF, ltT, ltF, eqF, mF1, mF2, mF3, mF4, mF5, mF6, mTT, eq_self, Nat.reduceEqDiff, ↓reduceIte, jbd_s, jpu_e, tI0, tI1, jgd_tI, jgd_bb, tfF, ftF, jup_at, jup_oc, jup_ok, e_isLeft hN h30, hla, hlb, hab, hc, tI_t]
              · unfold f_M_could
                rw [tI_t] at e1
                simp only [lits, negs]
                simp (disch := omega) only [lits, negs, nI_add, nn1, leT, leF, ltT, ltF, eqF, mF1, mF2, mF3, mF4, mF5, mF6, mTT, eq_self, Nat.reduceEqDiff, ↓reduceIte, ↓jbd_s, ↓jpu_e, tI0, tI1, jgd_tI, jgd_bb, tfF, ftF, jup_at, jup_oc, jup_ok, ↓jb (e_MisLetter hM h30 ha), ↓jb (e_MisLetter hM h30 hb), hab, ↓ld_129, hq, hba, hbb, ↓jb e1, ↓ld_141, bit1, ht]
