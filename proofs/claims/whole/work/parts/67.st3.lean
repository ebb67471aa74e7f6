/-! again, burn -/
theorem e_knownTo {w : Nat} {m : jMem} (hw : w < 6) : f_C_knownTo (nI w) m = some (m 42 w ||| m 75 w, m) := by
  unfold f_C_knownTo
  simp (disch := omega) only [lits, negs, nI_add, nn1, leT, leF, ltT, ltF, eqF, mF1, mF2, mF3, mF4, mF5, mF6, mTT, eq_self, Nat.reduceEqDiff, ↓reduceIte, jbd_s, jpu_e, tI0, tI1, jgd_tI, jgd_bb, tfF, ftF, jup_at, jup_oc, jup_ok, e_isWriter, ld_42, ld_75]
theorem e_isKnown {N w l : Nat} {m : jMem} (hM : m 109 33 = nI N) (h30 : N ≤ 30) (hw : w < 6) (hl : l < N) : f_M_isKnown (nI w) (nI l) m = some (tI (bt (m 135 w) l), m) := by
  unfold f_M_isKnown
  simp (disch := omega) only [lits, negs, nI_add, nn1, leT, leF, ltT, ltF, eqF, mF1, mF2, mF3, mF4, mF5, mF6, mTT, eq_self, Nat.reduceEqDiff, ↓reduceIte, jbd_s, jpu_e, tI0, tI1, jgd_tI, jgd_bb, tfF, ftF, jup_at, jup_oc, jup_ok, e_MisLetter hM h30, ld_135, bit1]
  cases bt (m 135 w) l <;> rfl
theorem e_isKnown_no {N w : Nat} {x : Int32} {m : jMem} (hM : m 109 33 = nI N) (hw : w < 6) (hx : x < nI 0 ∨ nI N ≤ x) : f_M_isKnown (nI w) x m = some (nI 0, m) := by
  unfold f_M_isKnown
  simp (disch := omega) only [lits, negs, nI_add, nn1, leT, leF, ltT, ltF, eqF, mF1, mF2, mF3, mF4, mF5, mF6, mTT, eq_self, Nat.reduceEqDiff, ↓reduceIte, jbd_s, jpu_e, tI0, tI1, jgd_tI, jgd_bb, tfF, ftF, jup_at, jup_oc, jup_ok, e_MisLetter_no hM hx]
theorem RC_push {N C : Nat} {l f t d : Nat} {m : jMem} (rc : RC N C m) (hC2 : C < 150) (hl : l < N) (hf : f < 6) (ht : t < 6) (hd : d ≤ 1100) : RC N (C + 1) (pstM (jup (sndM m C (nI l) (nI f) (nI t) (nI d)) 109 0 (nI 0)) C (nI l) (nI f) (nI t) (nI d)) := by
  obtain ⟨hC, c1, c2, ⟨r1, r2, r3, r4, r5⟩, rr⟩ := rc
  unfold pstM sndM
  refine ⟨by omega, by simp (disch := omega) only [lits, negs, nI_add, nn1, leT, leF, ltT, ltF, eqF, mF1, mF2, mF3, mF4, mF5, mF6, mTT, eq_self, Nat.reduceEqDiff, ↓reduceIte, jbd_s, jpu_e, tI0, tI1, jgd_tI, jgd_bb, tfF, ftF, jup_at, jup_oc, jup_ok], by simp (disch := omega) only [lits, negs, nI_add, nn1, leT, leF, ltT, ltF, eqF, mF1, mF2, mF3, mF4, mF5, mF6, mTT, eq_self, Nat.reduceEqDiff, ↓reduceIte, jbd_s, jpu_e, tI0, tI1, jgd_tI, jgd_bb, tfF, ftF, jup_at, jup_oc, jup_ok], ⟨by simp (disch := omega) only [lits, negs, nI_add, nn1, leT, leF, ltT, ltF, eqF, mF1, mF2, mF3, mF4, mF5, mF6, mTT, eq_self, Nat.reduceEqDiff, ↓reduceIte, jbd_s, jpu_e, tI0, tI1, jgd_tI, jgd_bb, tfF, ftF, jup_at, jup_oc, jup_ok, jup_row, r1], by simp (disch := omega) only [lits, negs, nI_add, nn1, leT, leF, ltT, ltF, eqF, mF1, mF2, mF3, mF4, mF5, mF6, mTT, eq_self, Nat.reduceEqDiff, ↓reduceIte, jbd_s, jpu_e, tI0, tI1, jgd_tI, jgd_bb, tfF, ftF, jup_at, jup_oc, jup_ok, jup_row, r2], by simp (disch := omega) only [lits, negs, nI_add, nn1, leT, leF, ltT, ltF, eqF, mF1, mF2, mF3, mF4, mF5, mF6, mTT, eq_self, Nat.reduceEqDiff, ↓reduceIte, jbd_s, jpu_e, tI0, tI1, jgd_tI, jgd_bb, tfF, ftF, jup_at, jup_oc, jup_ok, jup_row, r3], by simp (disch := omega) only [lits, negs, nI_add, nn1, leT, leF, ltT, ltF, eqF, mF1, mF2, mF3, mF4, mF5, mF6, mTT, eq_self, Nat.reduceEqDiff, ↓reduceIte, jbd_s, jpu_e, tI0, tI1, jgd_tI, jgd_bb, tfF, ftF, jup_at, jup_oc, jup_ok, jup_row, r4], by simp (disch := omega) only [lits, negs, nI_add, nn1, leT, leF, ltT, ltF, eqF, mF1, mF2, mF3, mF4, mF5, mF6, mTT, eq_self, Nat.reduceEqDiff, ↓reduceIte, jbd_s, jpu_e, tI0, tI1, jgd_tI, jgd_bb, tfF, ftF, jup_at, jup_oc, jup_ok, jup_row, r5]⟩, fun k hk => ?_⟩
  by_cases q : k = C
  · subst q
    exact ⟨⟨l, hl, by simp (disch := omega) only [lits, negs, nI_add, nn1, leT, leF, ltT, ltF, eqF, mF1, mF2, mF3, mF4, mF5, mF6, mTT, eq_self, Nat.reduceEqDiff, ↓reduceIte, jbd_s, jpu_e, tI0, tI1, jgd_tI, jgd_bb, tfF, ftF, jup_at, jup_oc, jup_ok]⟩, ⟨f, hf, by simp (disch := omega) only [lits, negs, nI_add, nn1, leT, leF, ltT, ltF, eqF, mF1, mF2, mF3, mF4, mF5, mF6, mTT, eq_self, Nat.reduceEqDiff, ↓reduceIte, jbd_s, jpu_e, tI0, tI1, jgd_tI, jgd_bb, tfF, ftF, jup_at, jup_oc, jup_ok]⟩, ⟨t, ht, by simp (disch := omega) only [lits, negs, nI_add, nn1, leT, leF, ltT, ltF, eqF, mF1, mF2, mF3, mF4, mF5, mF6, mTT, eq_self, Nat.reduceEqDiff, ↓reduceIte, jbd_s, jpu_e, tI0, tI1, jgd_tI, jgd_bb, tfF, ftF, jup_at, jup_oc, jup_ok]⟩, ⟨d, hd, by simp (disch := omega) only [lits, negs, nI_add, nn1, leT, leF, ltT, ltF, eqF, mF1, mF2, mF3, mF4, mF5, mF6, mTT, eq_self, Nat.reduceEqDiff, ↓reduceIte, jbd_s, jpu_e, tI0, tI1, jgd_tI, jgd_bb, tfF, ftF, jup_at, jup_oc, jup_ok]⟩, ⟨0, by omega, by simp (disch := omega) only [lits, negs, nI_add, nn1, leT, leF, ltT, ltF, eqF, mF1, mF2, mF3, mF4, mF5, mF6, mTT, eq_self, Nat.reduceEqDiff, ↓reduceIte, jbd_s, jpu_e, tI0, tI1, jgd_tI, jgd_bb, tfF, ftF, jup_at, jup_oc, jup_ok]⟩⟩
  · obtain ⟨g1, g2, g3, g4, g5⟩ := rr k (by omega)
    refine ⟨by simp (disch := omega) only [lits, negs, nI_add, nn1, leT, leF, ltT, ltF, eqF, mF1, mF2, mF3, mF4, mF5, mF6, mTT, eq_self, Nat.reduceEqDiff, ↓reduceIte, jbd_s, jpu_e, tI0, tI1, jgd_tI, jgd_bb, tfF, ftF, jup_at, jup_oc, jup_ok, q]; exact g1, by simp (disch := omega) only [lits, negs, nI_add, nn1, leT, leF, ltT, ltF, eqF, mF1, mF2, mF3, mF4, mF5, mF6, mTT, eq_self, Nat.reduceEqDiff, ↓reduceIte, jbd_s, jpu_e, tI0, tI1, jgd_tI, jgd_bb, tfF, ftF, jup_at, jup_oc, jup_ok, q]; exact g2, by simp (disch := omega) only [lits, negs, nI_add, nn1, leT, leF, ltT, ltF, eqF, mF1, mF2, mF3, mF4, mF5, mF6, mTT, eq_self, Nat.reduceEqDiff, ↓reduceIte, jbd_s, jpu_e, tI0, tI1, jgd_tI, jgd_bb, tfF, ftF, jup_at, jup_oc, jup_ok, q]; exact g3, by simp (disch := omega) only [lits, negs, nI_add, nn1, leT, leF, ltT, ltF, eqF, mF1, mF2, mF3, mF4, mF5, mF6, mTT, eq_self, Nat.reduceEqDiff, ↓reduceIte, jbd_s, jpu_e, tI0, tI1, jgd_tI, jgd_bb, tfF, ftF, jup_at, jup_oc, jup_ok, q]; exact g4, by simp (disch := omega) only [lits, negs, nI_add, nn1, leT, leF, ltT, ltF, eqF, mF1, mF2, mF3, mF4, mF5, mF6, mTT, eq_self, Nat.reduceEqDiff, ↓reduceIte, jbd_s, jpu_e, tI0, tI1, jgd_tI, jgd_bb, tfF, ftF, jup_at, jup_oc, jup_ok, q]; exact g5⟩
theorem o_again {N C : Nat} {m : jMem} (r : Rel N C m) (x y z : Int32) : Ost (f_C_again x y z) (f_M_again x y z) m := by
  have rl := r.1
  have h30 := rl.1
  have hN := rl.2.1
  have rl1 := RL_scr (thr_scr m (nI 0)) rl
  have hM := rl1.2.2.1
  have rc := r.2.2.2.2.2.2.1
  have rs := r.2.2.2.2.2.1
  have rk := r.2.2.2.2.2.2.2.1
  have hC := rc.1
  obtain ⟨W, hW, -⟩ := r.2.2.2.2.1
  obtain ⟨d, hd, t1, t2⟩ := r.2.2.2.1
  have c1 := rc.2.1
  have c2 := rc.2.2.1
  rcases ixW y with hy | ⟨f, hf, rfl⟩
  · refine Ost.no (v := nM) r ?_ ?_
    · unfold f_C_again
      rcases ixN x (n := N) (by omega) with hx | ⟨l, hl, rfl⟩
      · simp (disch := omega) only [lits, negs, nI_add, nn1, leT, leF, ltT, ltF, eqF, mF1, mF2, mF3, mF4, mF5, mF6, mTT, eq_self, Nat.reduceEqDiff, ↓reduceIte, jbd_s, jpu_e, tI0, tI1, jgd_tI, jgd_bb, tfF, ftF, jup_at, jup_oc, jup_ok, e_isLetter_no hN hx]
      · simp (disch := omega) only [lits, negs, nI_add, nn1, leT, leF, ltT, ltF, eqF, mF1, mF2, mF3, mF4, mF5, mF6, mTT, eq_self, Nat.reduceEqDiff, ↓reduceIte, jbd_s, jpu_e, tI0, tI1, jgd_tI, jgd_bb, tfF, ftF, jup_at, jup_oc, jup_ok, e_isLetter hN h30, e_isWriter_no hy]
    · unfold f_M_again
      simp (disch := omega) only [lits, negs, nI_add, nn1, leT, leF, ltT, ltF, eqF, mF1, mF2, mF3, mF4, mF5, mF6, mTT, eq_self, Nat.reduceEqDiff, ↓reduceIte, jbd_s, jpu_e, tI0, tI1, jgd_tI, jgd_bb, tfF, ftF, jup_at, jup_oc, jup_ok, e_MisWriter_no hy]
  · rcases ixW z with hz | ⟨t, ht, rfl⟩
    · refine Ost.no (v := nM) r ?_ ?_
      · unfold f_C_again
        rcases ixN x (n := N) (by omega) with hx | ⟨l, hl, rfl⟩
        · simp (disch := omega) only [lits, negs, nI_add, nn1, leT, leF, ltT, ltF, eqF, mF1, mF2, mF3, mF4, mF5, mF6, mTT, eq_self, Nat.reduceEqDiff, ↓reduceIte, jbd_s, jpu_e, tI0, tI1, jgd_tI, jgd_bb, tfF, ftF, jup_at, jup_oc, jup_ok, e_isLetter_no hN hx]
        · simp (disch := omega) only [lits, negs, nI_add, nn1, leT, leF, ltT, ltF, eqF, mF1, mF2, mF3, mF4, mF5, mF6, mTT, eq_self, Nat.reduceEqDiff, ↓reduceIte, jbd_s, jpu_e, tI0, tI1, jgd_tI, jgd_bb, tfF, ftF, jup_at, jup_oc, jup_ok, e_isLetter hN h30, e_isWriter, e_isWriter_no hz]
      · unfold f_M_again
        simp (disch := omega) only [lits, negs, nI_add, nn1, leT, leF, ltT, ltF, eqF, mF1, mF2, mF3, mF4, mF5, mF6, mTT, eq_self, Nat.reduceEqDiff, ↓reduceIte, jbd_s, jpu_e, tI0, tI1, jgd_tI, jgd_bb, tfF, ftF, jup_at, jup_oc, jup_ok, e_MisWriter, e_MisWriter_no hz]
    · by_cases hft : f = t
      · subst hft
        refine Ost.no (v := nM) r ?_ ?_
        · unfold f_C_again
          rcases ixN x (n := N) (by omega) with hx | ⟨l, hl, rfl⟩
          · simp (disch := omega) only [lits, negs, nI_add, nn1, leT, leF, ltT, ltF, eqF, mF1, mF2, mF3, mF4, mF5, mF6, mTT, eq_self, Nat.reduceEqDiff, ↓reduceIte, jbd_s, jpu_e, tI0, tI1, jgd_tI, jgd_bb, tfF, ftF, jup_at, jup_oc, jup_ok, e_isLetter_no hN hx]
          · simp (disch := omega) only [lits, negs, nI_add, nn1, leT, leF, ltT, ltF, eqF, mF1, mF2, mF3, mF4, mF5, mF6, mTT, eq_self, Nat.reduceEqDiff, ↓reduceIte, jbd_s, jpu_e, tI0, tI1, jgd_tI, jgd_bb, tfF, ftF, jup_at, jup_oc, jup_ok, e_isLetter hN h30, e_isWriter]
        · unfold f_M_again
          simp (disch := omega) only [lits, negs, nI_add, nn1, leT, leF, ltT, ltF, eqF, mF1, mF2, mF3, mF4, mF5, mF6, mTT, eq_self, Nat.reduceEqDiff, ↓reduceIte, jbd_s, jpu_e, tI0, tI1, jgd_tI, jgd_bb, tfF, ftF, jup_at, jup_oc, jup_ok, e_MisWriter]
      · rcases ixN x (n := N) (by omega) with hx | ⟨l, hl, rfl⟩
        · refine Ost.no (v := nM) r ?_ ?_
          · unfold f_C_again
            simp (disch := omega) only [lits, negs, nI_add, nn1, leT, leF, ltT, ltF, eqF, mF1, mF2, mF3, mF4, mF5, mF6, mTT, eq_self, Nat.reduceEqDiff, ↓reduceIte, jbd_s, jpu_e, tI0, tI1, jgd_tI, jgd_bb, tfF, ftF, jup_at, jup_oc, jup_ok, e_isLetter_no hN hx]
          · unfold f_M_again
            simp (disch := omega) only [lits, negs, nI_add, nn1, leT, leF, ltT, ltF, eqF, mF1, mF2, mF3, mF4, mF5, mF6, mTT, eq_self, Nat.reduceEqDiff, ↓reduceIte, jbd_s, jpu_e, tI0, tI1, jgd_tI, jgd_bb, tfF, ftF, jup_at, jup_oc, jup_ok, e_MisWriter, e_isKnown_no hM hf hx]
        · have hkn := (rk.1 f hf).1
          have hq : jup m 109 0 (nI 0) 135 f = m 135 f := by rw [jup_oc (by omega)]
          cases hkb : bt (m 135 f) l
          · refine Ost.no (v := nM) r ?_ ?_
            · unfold f_C_again
              simp (disch := omega) only [lits, negs, nI_add, nn1, leT, leF, ltT, ltF, eqF, mF1, mF2, mF3, mF4, mF5, mF6, mTT, eq_self, Nat.reduceEqDiff, ↓reduceIte, jbd_s, jpu_e, tI0, tI1, jgd_tI, jgd_bb, tfF, ftF, jup_at, jup_oc, jup_ok, e_isLetter hN h30, e_isWriter, e_knownTo, ← hkn, e_isIn, hkb]
            · have e := e_isKnown hM h30 hf hl
              rw [hq, hkb] at e
              unfold f_M_again
              simp (disch := omega) only [lits, negs, nI_add, nn1, leT, leF, ltT, ltF, eqF, mF1, mF2, mF3, mF4, mF5, mF6, mTT, eq_self, Nat.reduceEqDiff, ↓reduceIte, jbd_s, jpu_e, tI0, tI1, jgd_tI, jgd_bb, tfF, ftF, jup_at, jup_oc, jup_ok, e_MisWriter, e, tI_f]
          · by_cases hC2 : C = 150
            · refine Ost.no (v := nM) r ?_ ?_
              · unfold f_C_again f_P_send
                simp (disch := omega) only [lits, negs, nI_add, nn1, leT, leF, ltT, ltF, eqF, mF1, mF2, mF3, mF4, mF5, mF6, mTT, eq_self, Nat.reduceEqDiff, ↓reduceIte, jbd_s, jpu_e, tI0, tI1, jgd_tI, jgd_bb, tfF, ftF, jup_at, jup_oc, jup_ok, e_isLetter hN h30, e_isWriter, e_knownTo, ← hkn, e_isIn, hkb, c1, hC2]
              · have e := e_isKnown hM h30 hf hl
                rw [hq, hkb] at e
                unfold f_M_again
                simp (disch := omega) only [lits, negs, nI_add, nn1, leT, leF, ltT, ltF, eqF, mF1, mF2, mF3, mF4, mF5, mF6, mTT, eq_self, Nat.reduceEqDiff, ↓reduceIte, jbd_s, jpu_e, tI0, tI1, jgd_tI, jgd_bb, tfF, ftF, jup_at, jup_oc, jup_ok, e_MisWriter, e, tI_t, c2, hC2]
            · obtain ⟨w1, w2, w3, -⟩ := hW f hf t ht
              obtain ⟨dd, hdd, edd⟩ := RS_day rs f t (d := d + W f t) (by omega)
              have e1 : nI d + nI (W f t) = nI (d + W f t) := nI_add _ _
              have es := e_send (l := nI l) (td := nI d) c1 (by omega) hf ht w3
              rw [e1, edd] at es
              have eC : f_C_again (nI l) (nI f) (nI t) m = some (nI C, sndM m C (nI l) (nI f) (nI t) (nI dd)) := by
                unfold f_C_again
                simp (disch := omega) only [lits, negs, nI_add, nn1, leT, leF, ltT, ltF, eqF, mF1, mF2, mF3, mF4, mF5, mF6, mTT, eq_self, Nat.reduceEqDiff, ↓reduceIte, jbd_s, jpu_e, tI0, tI1, jgd_tI, jgd_bb, tfF, ftF, jup_at, jup_oc, jup_ok, e_isLetter hN h30, e_isWriter, e_knownTo, ← hkn, e_isIn, hkb, t1, es]
              have fr1 := fr_C_again eC
              have rl2 := RL_scr (thr_scr _ (nI 0)) (RL_fr fr1 rfl rl)
              have e2 := e_isKnown rl2.2.2.1 h30 hf hl
              have hq2 : jup (sndM m C (nI l) (nI f) (nI t) (nI dd)) 109 0 (nI 0) 135 f = m 135 f := by unfold sndM; simp (disch := omega) only [lits, negs, nI_add, nn1, leT, leF, ltT, ltF, eqF, mF1, mF2, mF3, mF4, mF5, mF6, mTT, eq_self, Nat.reduceEqDiff, ↓reduceIte, jbd_s, jpu_e, tI0, tI1, jgd_tI, jgd_bb, tfF, ftF, jup_at, jup_oc, jup_ok]
              rw [hq2, hkb] at e2
              have rs2 := RS_part rs f t (nI (d + W f t))
              rw [edd] at rs2
              have ep := e_post (l := nI l) (td := nI d) (wy := nI (W f t)) (C := C) (f := f) (t := t) (m := jup (sndM m C (nI l) (nI f) (nI t) (nI dd)) 109 0 (nI 0)) (by unfold sndM; simp (disch := omega) only [lits, negs, nI_add, nn1, leT, leF, ltT, ltF, eqF, mF1, mF2, mF3, mF4, mF5, mF6, mTT, eq_self, Nat.reduceEqDiff, ↓reduceIte, jbd_s, jpu_e, tI0, tI1, jgd_tI, jgd_bb, tfF, ftF, jup_at, jup_oc, jup_ok, c2]) (by omega) hf ht (by unfold sndM; simp (disch := omega) only [lits, negs, nI_add, nn1, leT, leF, ltT, ltF, eqF, mF1, mF2, mF3, mF4, mF5, mF6, mTT, eq_self, Nat.reduceEqDiff, ↓reduceIte, jbd_s, jpu_e, tI0, tI1, jgd_tI, jgd_bb, tfF, ftF, jup_at, jup_oc, jup_ok, w2]) (by unfold sndM; simp (disch := omega) only [lits, negs, nI_add, nn1, leT, leF, ltT, ltF, eqF, mF1, mF2, mF3, mF4, mF5, mF6, mTT, eq_self, Nat.reduceEqDiff, ↓reduceIte, jbd_s, jpu_e, tI0, tI1, jgd_tI, jgd_bb, tfF, ftF, jup_at, jup_oc, jup_ok, t2])
              have hp3 : ∀ k, k ≠ 0 → jup (sndM m C (nI l) (nI f) (nI t) (nI dd)) 109 0 (nI 0) 109 k = m 109 k := fun k hk => by unfold sndM; simp (disch := omega) only [lits, negs, nI_add, nn1, leT, leF, ltT, ltF, eqF, mF1, mF2, mF3, mF4, mF5, mF6, mTT, eq_self, Nat.reduceEqDiff, ↓reduceIte, jbd_s, jpu_e, tI0, tI1, jgd_tI, jgd_bb, tfF, ftF, jup_at, jup_oc, jup_ok, hk]
              rw [hp3 50 (by omega), hp3 51 (by omega), hp3 52 (by omega), e1, rs2] at ep
              have eM : f_M_again (nI l) (nI f) (nI t) (sndM m C (nI l) (nI f) (nI t) (nI dd)) = some (nI C, pstM (jup (sndM m C (nI l) (nI f) (nI t) (nI dd)) 109 0 (nI 0)) C (nI l) (nI f) (nI t) (nI dd)) := by
                have e9 : jup (sndM m C (nI l) (nI f) (nI t) (nI dd)) 109 0 (nI 0) 109 44 = nI C := by rw [hp3 44 (by omega)]; exact c2
                have e8 : pstM (jup (sndM m C (nI l) (nI f) (nI t) (nI dd)) 109 0 (nI 0)) C (nI l) (nI f) (nI t) (nI dd) 109 44 = nI (C + 1) := by unfold pstM; simp (disch := omega) only [lits, negs, nI_add, nn1, leT, leF, ltT, ltF, eqF, mF1, mF2, mF3, mF4, mF5, mF6, mTT, eq_self, Nat.reduceEqDiff, ↓reduceIte, jbd_s, jpu_e, tI0, tI1, jgd_tI, jgd_bb, tfF, ftF, jup_at, jup_oc, jup_ok]
                unfold f_M_again
                simp only [lits, negs]
                simp (disch := omega) only [lits, negs, nI_add, nn1, leT, leF, ltT, ltF, eqF, mF1, mF2, mF3, mF4, mF5, mF6, mTT, eq_self, Nat.reduceEqDiff, ↓reduceIte, ↓jbd_s, ↓jpu_e, tI0, tI1, jgd_tI, jgd_bb, tfF, ftF, jup_at, jup_oc, jup_ok, ↓jb (e_MisWriter (m := jup (sndM m C (nI l) (nI f) (nI t) (nI dd)) 109 0 (nI 0)) hf), ↓jb (e_MisWriter (m := jup (sndM m C (nI l) (nI f) (nI t) (nI dd)) 109 0 (nI 0)) ht), ↓jb e2, tI_t]
                rw [show sndM m C (nI l) (nI f) (nI t) (nI dd) 109 44 = nI C by unfold sndM; simp (disch := omega) only [lits, negs, nI_add, nn1, leT, leF, ltT, ltF, eqF, mF1, mF2, mF3, mF4, mF5, mF6, mTT, eq_self, Nat.reduceEqDiff, ↓reduceIte, jbd_s, jpu_e, tI0, tI1, jgd_tI, jgd_bb, tfF, ftF, jup_at, jup_oc, jup_ok, c2], if_neg (by rw [eqF hC2 (by omega) (by omega)]; exact id), ep]
                simp only [jbd_s]
                rw [e8, nn1]
              have fr := fr_two fr1 (fr_M_again eM)
              refine Ost.of (N := N) (C := C + 1) eC eM ⟨RL_fr fr rfl r.1, RB_fr fr rfl r.2.1, RT_fr fr rfl r.2.2.1, RD_fr fr rfl r.2.2.2.1, RW_fr fr rfl r.2.2.2.2.1, RS_fr fr rfl rs, RC_push rc (by omega) hl hf ht hdd, RK_fr fr rfl r.2.2.2.2.2.2.2.1, RH_fr fr rfl r.2.2.2.2.2.2.2.2.1, RP_fr fr rfl r.2.2.2.2.2.2.2.2.2.1, RX_fr fr rfl r.2.2.2.2.2.2.2.2.2.2⟩
theorem pcnt_del {x : Int32} {l : Nat} (hl : l < 32) (h : bt x l = true) : pcnt (x &&& (sb l ^^^ nM)) + 1 = pcnt x := by
  unfold pcnt
  have h1 := fb_ct_upd (bt x) false (i := l) (n := 32) hl
  rw [h, if_pos rfl, if_neg (by decide)] at h1
  refine Eq.trans ?_ (h1.trans (Nat.add_zero _))
  congr 1
  refine fb_ct_cong (fun k hk => ?_)
  rw [b_and, b_not hk, b_sb hl hk]
  by_cases q : k = l
  · rw [if_pos q, decide_eq_true q, Bool.not_true, Bool.and_false]
  · rw [if_neg q, decide_eq_false q, Bool.not_false, Bool.and_true]
theorem o_burn {N C : Nat} {m : jMem} (r : Rel N C m) (x : Int32) : Ost (f_C_burn x) (f_M_burn x) m := by
  have rl := r.1
  have h30 := rl.1
  have hN := rl.2.1
  have rl1 := RL_scr (thr_scr m (nI 0)) rl
  have hM := rl1.2.2.1
  obtain ⟨b, b1, b2, b3, b4⟩ := r.2.1
  rcases ixN x (n := N) (by omega) with hx | ⟨l, hl, rfl⟩
  · refine Ost.no (v := nM) r ?_ ?_
    · unfold f_C_burn
      simp (disch := omega) only [lits, negs, nI_add, nn1, leT, leF, ltT, ltF, eqF, mF1, mF2, mF3, mF4, mF5, mF6, mTT, eq_self, Nat.reduceEqDiff, ↓reduceIte, jbd_s, jpu_e, tI0, tI1, jgd_tI, jgd_bb, tfF, ftF, jup_at, jup_oc, jup_ok, e_isLeft_no hN hx]
    · unfold f_M_burn
      simp (disch := omega) only [lits, negs, nI_add, nn1, leT, leF, ltT, ltF, eqF, mF1, mF2, mF3, mF4, mF5, mF6, mTT, eq_self, Nat.reduceEqDiff, ↓reduceIte, jbd_s, jpu_e, tI0, tI1, jgd_tI, jgd_bb, tfF, ftF, jup_at, jup_oc, jup_ok, e_MisLetter_no hM hx]
  · have b5 := b4 l hl
    cases hq : bt (m 29 16) l
    · rw [hq] at b5
      have b6 : m 129 l = nI 1 := b5
      refine Ost.no (v := nM) r ?_ ?_
      · unfold f_C_burn
        simp (disch := omega) only [lits, negs, nI_add, nn1, leT, leF, ltT, ltF, eqF, mF1, mF2, mF3, mF4, mF5, mF6, mTT, eq_self, Nat.reduceEqDiff, ↓reduceIte, jbd_s, jpu_e, tI0, tI1, jgd_tI, jgd_bb, tfF, ftF, jup_at, jup_oc, jup_ok, e_isLeft hN h30, hq]
      · unfold f_M_burn
        simp (disch := omega) only [lits, negs, nI_add, nn1, leT, leF, ltT, ltF, eqF, mF1, mF2, mF3, mF4, mF5, mF6, mTT, eq_self, Nat.reduceEqDiff, ↓reduceIte, jbd_s, jpu_e, tI0, tI1, jgd_tI, jgd_bb, tfF, ftF, jup_at, jup_oc, jup_ok, e_MisLetter hM h30, ld_129, b6]
    · rw [hq] at b5
      have b6 : m 129 l = nI 0 := b5
      have hd := pcnt_del (by omega : l < 32) hq
      have hjz : jbz (nI 1) = nI 1 := by decide
      have eC : f_C_burn (nI l) m = some (nI (pcnt (m 29 16 &&& (sb l ^^^ nM))), jup m 29 16 (m 29 16 &&& (sb l ^^^ nM))) := by
        unfold f_C_burn
        simp (disch := omega) only [lits, negs, nI_add, nn1, leT, leF, ltT, ltF, eqF, mF1, mF2, mF3, mF4, mF5, mF6, mTT, eq_self, Nat.reduceEqDiff, ↓reduceIte, jbd_s, jpu_e, tI0, tI1, jgd_tI, jgd_bb, tfF, ftF, jup_at, jup_oc, jup_ok, e_isLeft hN h30, hq, e_bit, e_bitCount]
      generalize hX : m 29 16 &&& (sb l ^^^ nM) = X at eC hd
      have eM : f_M_burn (nI l) (jup m 29 16 X) = some (nI (pcnt X), jup (jup (jup (jup m 29 16 X) 109 0 (nI 0)) 129 l (nI 1)) 109 43 (nI (b + 1))) := by
        have rl2 := rl.2.2.1
        have e := e_MisLetter (m := jup (jup m 29 16 X) 109 0 (nI 0)) (N := N) (by simp (disch := omega) only [lits, negs, nI_add, nn1, leT, leF, ltT, ltF, eqF, mF1, mF2, mF3, mF4, mF5, mF6, mTT, eq_self, Nat.reduceEqDiff, ↓reduceIte, jbd_s, jpu_e, tI0, tI1, jgd_tI, jgd_bb, tfF, ftF, jup_at, jup_oc, jup_ok, rl2]) h30 hl
        unfold f_M_burn
        simp (disch := omega) only [lits, negs, nI_add, nn1, leT, leF, ltT, ltF, eqF, mF1, mF2, mF3, mF4, mF5, mF6, mTT, eq_self, Nat.reduceEqDiff, ↓reduceIte, jbd_s, jpu_e, tI0, tI1, jgd_tI, jgd_bb, tfF, ftF, jup_at, jup_oc, jup_ok, e, ld_129, b6, st_129, hjz, b1, rl2]
        rw [pk_sub (by omega), show N - (b + 1) = pcnt X by omega]
      have fr := fr_two (fr_C_burn eC) (fr_M_burn eM)
      refine Ost.of (N := N) (C := C) eC eM ⟨RL_fr fr rfl r.1, ?_, RT_fr fr rfl r.2.2.1, RD_fr fr rfl r.2.2.2.1, RW_fr fr rfl r.2.2.2.2.1, RS_fr fr rfl r.2.2.2.2.2.1, RC_fr fr rfl r.2.2.2.2.2.2.1, RK_fr fr rfl r.2.2.2.2.2.2.2.1, RH_fr fr rfl r.2.2.2.2.2.2.2.2.1, RP_fr fr rfl r.2.2.2.2.2.2.2.2.2.1, RX_fr fr rfl r.2.2.2.2.2.2.2.2.2.2⟩
      have hXb : ∀ j, j < 32 → bt X j = (bt (m 29 16) j && !decide (j = l)) := fun j hj => by
        rw [← hX, b_and, b_not hj, b_sb (by omega) hj]
      refine ⟨b + 1, by simp (disch := omega) only [lits, negs, nI_add, nn1, leT, leF, ltT, ltF, eqF, mF1, mF2, mF3, mF4, mF5, mF6, mTT, eq_self, Nat.reduceEqDiff, ↓reduceIte, jbd_s, jpu_e, tI0, tI1, jgd_tI, jgd_bb, tfF, ftF, jup_at, jup_oc, jup_ok], ?_, fun j hj => ?_, fun j hj => ?_⟩
      · simp (disch := omega) only [lits, negs, nI_add, nn1, leT, leF, ltT, ltF, eqF, mF1, mF2, mF3, mF4, mF5, mF6, mTT, eq_self, Nat.reduceEqDiff, ↓reduceIte, jbd_s, jpu_e, tI0, tI1, jgd_tI, jgd_bb, tfF, ftF, jup_at, jup_oc, jup_ok]
        omega
      · have e1 : jup (jup (jup (jup m 29 16 X) 109 0 (nI 0)) 129 l (nI 1)) 109 43 (nI (b + 1)) 29 16 = X := by simp (disch := omega) only [lits, negs, nI_add, nn1, leT, leF, ltT, ltF, eqF, mF1, mF2, mF3, mF4, mF5, mF6, mTT, eq_self, Nat.reduceEqDiff, ↓reduceIte, jbd_s, jpu_e, tI0, tI1, jgd_tI, jgd_bb, tfF, ftF, jup_at, jup_oc, jup_ok]
        rw [e1, hXb j (by have := bt_big hj; exact this), Bool.and_eq_true] at hj
        exact b3 j hj.1
      · have e1 : jup (jup (jup (jup m 29 16 X) 109 0 (nI 0)) 129 l (nI 1)) 109 43 (nI (b + 1)) 29 16 = X := by simp (disch := omega) only [lits, negs, nI_add, nn1, leT, leF, ltT, ltF, eqF, mF1, mF2, mF3, mF4, mF5, mF6, mTT, eq_self, Nat.reduceEqDiff, ↓reduceIte, jbd_s, jpu_e, tI0, tI1, jgd_tI, jgd_bb, tfF, ftF, jup_at, jup_oc, jup_ok]
        rw [e1, hXb j (by omega)]
        by_cases q : j = l
        · subst q
          simp (disch := omega) only [lits, negs, nI_add, nn1, leT, leF, ltT, ltF, eqF, mF1, mF2, mF3, mF4, mF5, mF6, mTT, eq_self, Nat.reduceEqDiff, ↓reduceIte, jbd_s, jpu_e, tI0, tI1, jgd_tI, jgd_bb, tfF, ftF, jup_at, jup_oc, jup_ok, decide_true, Bool.not_true, Bool.and_false]
          rfl
        · simp (disch := omega) only [lits, negs, nI_add, nn1, leT, leF, ltT, ltF, eqF, mF1, mF2, mF3, mF4, mF5, mF6, mTT, eq_self, Nat.reduceEqDiff, ↓reduceIte, jbd_s, jpu_e, tI0, tI1, jgd_tI, jgd_bb, tfF, ftF, jup_at, jup_oc, jup_ok, q]
          rw [b4 j hj]
          simp
