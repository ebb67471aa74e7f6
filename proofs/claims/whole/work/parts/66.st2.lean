/-! late, again, burn -/
def partS (hf sf st : Int32) (f t : Nat) (x : Int32) : Int32 := if bt hf f = bt hf t then x else if x < sf then x else if st < x then x else st + nI 1
theorem e_through1 {f t : Nat} {x : Int32} {m : jMem} (hf : f < 6) (ht : t < 6) : f_P_throughSplit (nI f) (nI t) x m = some (partS (m 45 2) (m 45 3) (m 45 4) f t x, m) := by
  unfold f_P_throughSplit partS
  simp (disch := omega) only [lits, negs, nI_add, nn1, leT, leF, ltT, ltF, eqF, mF1, mF2, mF3, mF4, mF5, mF6, mTT, eq_self, Nat.reduceEqDiff, ↓reduceIte, jbd_s, jpu_e, tI0, tI1, jgd_tI, jgd_bb, tfF, ftF, jup_at, jup_oc, jup_ok, e_isIn, tIeq]
  by_cases h1 : bt (m 45 2) f = bt (m 45 2) t
  · rw [if_pos h1, if_pos h1]
  · rw [if_neg h1, if_neg h1]
    split
    · rfl
    · split <;> rfl
theorem e_parted {f t : Nat} {x : Int32} {m : jMem} (hf : f < 6) (ht : t < 6) : f_M_parted (nI f) (nI t) x m = some (partS (m 109 50) (m 109 51) (m 109 52) f t x, m) := by
  unfold f_M_parted partS
  simp (disch := omega) only [lits, negs, nI_add, nn1, leT, leF, ltT, ltF, eqF, mF1, mF2, mF3, mF4, mF5, mF6, mTT, eq_self, Nat.reduceEqDiff, ↓reduceIte, jbd_s, jpu_e, tI0, tI1, jgd_tI, jgd_bb, tfF, ftF, jup_at, jup_oc, jup_ok, bitv, tIeq]
  by_cases h1 : bt (m 109 50) f = bt (m 109 50) t
  · rw [if_pos h1, if_pos h1]
  · rw [if_neg h1, if_neg h1]
    split
    · rfl
    · split <;> rfl
theorem RS_part {m : jMem} (rs : RS m) (f t : Nat) (x : Int32) : partS (m 109 50) (m 109 51) (m 109 52) f t x = partS (m 45 2) (m 45 3) (m 45 4) f t x := by
  obtain ⟨h, a, b, -, -, h1, h2, h3, h4⟩ := rs
  rw [h, h1, h2, h3, h4]
theorem RS_day {m : jMem} (rs : RS m) (f t : Nat) {d : Nat} (hd : d ≤ 1100) : ∃ e, e ≤ 1100 ∧ partS (m 45 2) (m 45 3) (m 45 4) f t (nI d) = nI e := by
  obtain ⟨h, a, b, ha, hb, h1, h2, h3, h4⟩ := rs
  unfold partS
  rw [h1, h3]
  split
  · exact ⟨d, hd, rfl⟩
  · split
    · exact ⟨d, hd, rfl⟩
    · split
      · exact ⟨d, hd, rfl⟩
      · exact ⟨b + 1, by omega, nI_add b 1⟩
theorem o_late {N C : Nat} {m : jMem} (r : Rel N C m) (x y : Int32) : Ost (f_C_late x y) (f_M_late x y) m := by
  have rc := r.2.2.2.2.2.2.1
  have rs := r.2.2.2.2.2.1
  have rc1 := RC_scr (thr_scr m (nI 0)) rc
  have hC := rc.1
  rcases ixN x (n := C) (by omega) with hx | ⟨c, hc, rfl⟩
  · refine Ost.no (v := nM) r ?_ ?_
    · unfold f_C_late
      simp (disch := omega) only [lits, negs, nI_add, nn1, leT, leF, ltT, ltF, eqF, mF1, mF2, mF3, mF4, mF5, mF6, mTT, eq_self, Nat.reduceEqDiff, ↓reduceIte, jbd_s, jpu_e, tI0, tI1, jgd_tI, jgd_bb, tfF, ftF, jup_at, jup_oc, jup_ok, e_underC_no rc hx]
    · unfold f_M_late
      simp (disch := omega) only [lits, negs, nI_add, nn1, leT, leF, ltT, ltF, eqF, mF1, mF2, mF3, mF4, mF5, mF6, mTT, eq_self, Nat.reduceEqDiff, ↓reduceIte, jbd_s, jpu_e, tI0, tI1, jgd_tI, jgd_bb, tfF, ftF, jup_at, jup_oc, jup_ok, e_underM_no rc1 hx]
  · have q : jup m 109 0 (nI 0) 64 c = m 64 c := by rw [jup_oc (by omega)]
    by_cases h0 : m 64 c = nI 0
    · have e1 := e_underC rc hc
      have e2 := e_underM rc1 hc
      rw [decide_eq_true h0, tI_t] at e1
      rw [q, decide_eq_true h0, tI_t] at e2
      have hyb : (y < nI 1 ∨ nI 99 < y) ∨ ∃ n : Nat, 1 ≤ n ∧ n ≤ 99 ∧ y = nI n := by
        by_cases h1 : y < nI 1
        · exact Or.inl (Or.inl h1)
        · by_cases h2 : nI 99 < y
          · exact Or.inl (Or.inr h2)
          · refine Or.inr ?_
            rw [Int32.lt_iff_toInt_lt, nI_toInt (by omega)] at h1 h2
            have h3 : ¬ y < 0 := fun q => by
              rw [Int32.lt_iff_toInt_lt] at q
              have : (0 : Int32).toInt = 0 := rfl
              omega
            obtain ⟨n, hn, rfl⟩ := nI_of h3
            rw [nI_toInt hn] at h1 h2
            exact ⟨n, by omega, by omega, rfl⟩
      rcases hyb with hy | ⟨n, hn1, hn2, rfl⟩
      · refine Ost.no (v := nM) r ?_ ?_
        · unfold f_C_late
          simp (disch := omega) only [lits, negs, nI_add, nn1, leT, leF, ltT, ltF, eqF, mF1, mF2, mF3, mF4, mF5, mF6, mTT, eq_self, Nat.reduceEqDiff, ↓reduceIte, jbd_s, jpu_e, tI0, tI1, jgd_tI, jgd_bb, tfF, ftF, jup_at, jup_oc, jup_ok, e1]
          rcases hy with h | h
          · rw [if_pos h]
          · rw [if_neg (Int32.not_le.mpr h)]
            split <;> rfl
        · unfold f_M_late
          simp (disch := omega) only [lits, negs, nI_add, nn1, leT, leF, ltT, ltF, eqF, mF1, mF2, mF3, mF4, mF5, mF6, mTT, eq_self, Nat.reduceEqDiff, ↓reduceIte, jbd_s, jpu_e, tI0, tI1, jgd_tI, jgd_bb, tfF, ftF, jup_at, jup_oc, jup_ok, e2]
          rcases hy with h | h
          · rw [if_pos h]
          · rw [if_pos h]
            split <;> rfl
      · obtain ⟨-, c1, c2, ⟨r1, r2, r3, r4, r5⟩, rr⟩ := rc
        obtain ⟨g1, ⟨wf, hwf, gf⟩, ⟨wt, hwt, gt⟩, ⟨d, hd, gd⟩, g5⟩ := rr c hc
        by_cases hov : d + n ≤ 999
        · obtain ⟨dd, hdd, edd⟩ := RS_day rs wf wt (d := d + n) (by omega)
          have eC : f_C_late (nI c) (nI n) m = some (nI dd, jup m 63 c (nI dd)) := by
            unfold f_C_late f_P_delay
            simp (disch := omega) only [lits, negs, nI_add, nn1, leT, leF, ltT, ltF, eqF, mF1, mF2, mF3, mF4, mF5, mF6, mTT, eq_self, Nat.reduceEqDiff, ↓reduceIte, jbd_s, jpu_e, tI0, tI1, jgd_tI, jgd_bb, tfF, ftF, jup_at, jup_oc, jup_ok, e1, ld_63, gd, ld_61, gf, ld_62, gt, e_through1, edd, st_63]
          have eM : f_M_late (nI c) (nI n) (jup m 63 c (nI dd)) = some (nI dd, jup (jup (jup m 63 c (nI dd)) 109 0 (nI 0)) 133 c (nI dd)) := by
            have e : f_M_isUnderWay (nI c) (jup (jup m 63 c (nI dd)) 109 0 (nI 0)) = some (nI 1, jup (jup m 63 c (nI dd)) 109 0 (nI 0)) := by
              unfold f_M_isUnderWay
              simp (disch := omega) only [lits, negs, nI_add, nn1, leT, leF, ltT, ltF, eqF, mF1, mF2, mF3, mF4, mF5, mF6, mTT, eq_self, Nat.reduceEqDiff, ↓reduceIte, jbd_s, jpu_e, tI0, tI1, jgd_tI, jgd_bb, tfF, ftF, jup_at, jup_oc, jup_ok, c2, ld_134, r5, h0]
            have e3 := RS_part rs wf wt (nI (d + n))
            rw [edd] at e3
            unfold f_M_late
            simp (disch := omega) only [lits, negs, nI_add, nn1, leT, leF, ltT, ltF, eqF, mF1, mF2, mF3, mF4, mF5, mF6, mTT, eq_self, Nat.reduceEqDiff, ↓reduceIte, jbd_s, jpu_e, tI0, tI1, jgd_tI, jgd_bb, tfF, ftF, jup_at, jup_oc, jup_ok, e, ld_133, r4, gd, ld_131, r2, gf, ld_132, r3, gt, e_parted, e3, st_133]
          have fr := fr_two (fr_C_late eC) (fr_M_late eM)
          refine Ost.of (N := N) (C := C) eC eM ⟨RL_fr fr rfl r.1, RB_fr fr rfl r.2.1, RT_fr fr rfl r.2.2.1, RD_fr fr rfl r.2.2.2.1, RW_fr fr rfl r.2.2.2.2.1, RS_fr fr rfl rs, ?_, RK_fr fr rfl r.2.2.2.2.2.2.2.1, RH_fr fr rfl r.2.2.2.2.2.2.2.2.1, RP_fr fr rfl r.2.2.2.2.2.2.2.2.2.1, RX_fr fr rfl r.2.2.2.2.2.2.2.2.2.2⟩
          refine ⟨hC, by simp (disch := omega) only [lits, negs, nI_add, nn1, leT, leF, ltT, ltF, eqF, mF1, mF2, mF3, mF4, mF5, mF6, mTT, eq_self, Nat.reduceEqDiff, ↓reduceIte, jbd_s, jpu_e, tI0, tI1, jgd_tI, jgd_bb, tfF, ftF, jup_at, jup_oc, jup_ok, c1], by simp (disch := omega) only [lits, negs, nI_add, nn1, leT, leF, ltT, ltF, eqF, mF1, mF2, mF3, mF4, mF5, mF6, mTT, eq_self, Nat.reduceEqDiff, ↓reduceIte, jbd_s, jpu_e, tI0, tI1, jgd_tI, jgd_bb, tfF, ftF, jup_at, jup_oc, jup_ok, c2], ⟨by simp (disch := omega) only [lits, negs, nI_add, nn1, leT, leF, ltT, ltF, eqF, mF1, mF2, mF3, mF4, mF5, mF6, mTT, eq_self, Nat.reduceEqDiff, ↓reduceIte, jbd_s, jpu_e, tI0, tI1, jgd_tI, jgd_bb, tfF, ftF, jup_at, jup_oc, jup_ok, r1], by simp (disch := omega) only [lits, negs, nI_add, nn1, leT, leF, ltT, ltF, eqF, mF1, mF2, mF3, mF4, mF5, mF6, mTT, eq_self, Nat.reduceEqDiff, ↓reduceIte, jbd_s, jpu_e, tI0, tI1, jgd_tI, jgd_bb, tfF, ftF, jup_at, jup_oc, jup_ok, r2], by simp (disch := omega) only [lits, negs, nI_add, nn1, leT, leF, ltT, ltF, eqF, mF1, mF2, mF3, mF4, mF5, mF6, mTT, eq_self, Nat.reduceEqDiff, ↓reduceIte, jbd_s, jpu_e, tI0, tI1, jgd_tI, jgd_bb, tfF, ftF, jup_at, jup_oc, jup_ok, r3], ?_, by simp (disch := omega) only [lits, negs, nI_add, nn1, leT, leF, ltT, ltF, eqF, mF1, mF2, mF3, mF4, mF5, mF6, mTT, eq_self, Nat.reduceEqDiff, ↓reduceIte, jbd_s, jpu_e, tI0, tI1, jgd_tI, jgd_bb, tfF, ftF, jup_at, jup_oc, jup_ok, r5]⟩, fun k hk => ?_⟩
          · simp (disch := omega) only [lits, negs, nI_add, nn1, leT, leF, ltT, ltF, eqF, mF1, mF2, mF3, mF4, mF5, mF6, mTT, eq_self, Nat.reduceEqDiff, ↓reduceIte, jbd_s, jpu_e, tI0, tI1, jgd_tI, jgd_bb, tfF, ftF, jup_at, jup_oc, jup_ok, jup_row, r4]
          · obtain ⟨g1, g2, g3, g4, g5⟩ := rr k hk
            refine ⟨by simp (disch := omega) only [lits, negs, nI_add, nn1, leT, leF, ltT, ltF, eqF, mF1, mF2, mF3, mF4, mF5, mF6, mTT, eq_self, Nat.reduceEqDiff, ↓reduceIte, jbd_s, jpu_e, tI0, tI1, jgd_tI, jgd_bb, tfF, ftF, jup_at, jup_oc, jup_ok]; exact g1, by simp (disch := omega) only [lits, negs, nI_add, nn1, leT, leF, ltT, ltF, eqF, mF1, mF2, mF3, mF4, mF5, mF6, mTT, eq_self, Nat.reduceEqDiff, ↓reduceIte, jbd_s, jpu_e, tI0, tI1, jgd_tI, jgd_bb, tfF, ftF, jup_at, jup_oc, jup_ok]; exact g2, by simp (disch := omega) only [lits, negs, nI_add, nn1, leT, leF, ltT, ltF, eqF, mF1, mF2, mF3, mF4, mF5, mF6, mTT, eq_self, Nat.reduceEqDiff, ↓reduceIte, jbd_s, jpu_e, tI0, tI1, jgd_tI, jgd_bb, tfF, ftF, jup_at, jup_oc, jup_ok]; exact g3, ?_, by simp (disch := omega) only [lits, negs, nI_add, nn1, leT, leF, ltT, ltF, eqF, mF1, mF2, mF3, mF4, mF5, mF6, mTT, eq_self, Nat.reduceEqDiff, ↓reduceIte, jbd_s, jpu_e, tI0, tI1, jgd_tI, jgd_bb, tfF, ftF, jup_at, jup_oc, jup_ok]; exact g5⟩
            by_cases q : k = c
            · subst q
              exact ⟨dd, hdd, by simp (disch := omega) only [lits, negs, nI_add, nn1, leT, leF, ltT, ltF, eqF, mF1, mF2, mF3, mF4, mF5, mF6, mTT, eq_self, Nat.reduceEqDiff, ↓reduceIte, jbd_s, jpu_e, tI0, tI1, jgd_tI, jgd_bb, tfF, ftF, jup_at, jup_oc, jup_ok]⟩
            · simp (disch := omega) only [lits, negs, nI_add, nn1, leT, leF, ltT, ltF, eqF, mF1, mF2, mF3, mF4, mF5, mF6, mTT, eq_self, Nat.reduceEqDiff, ↓reduceIte, jbd_s, jpu_e, tI0, tI1, jgd_tI, jgd_bb, tfF, ftF, jup_at, jup_oc, jup_ok, q]
              exact g4
        · refine Ost.no (v := nM) r ?_ ?_
          · unfold f_C_late f_P_delay
            simp (disch := omega) only [lits, negs, nI_add, nn1, leT, leF, ltT, ltF, eqF, mF1, mF2, mF3, mF4, mF5, mF6, mTT, eq_self, Nat.reduceEqDiff, ↓reduceIte, jbd_s, jpu_e, tI0, tI1, jgd_tI, jgd_bb, tfF, ftF, jup_at, jup_oc, jup_ok, e1, ld_63, gd]
          · unfold f_M_late
            simp (disch := omega) only [lits, negs, nI_add, nn1, leT, leF, ltT, ltF, eqF, mF1, mF2, mF3, mF4, mF5, mF6, mTT, eq_self, Nat.reduceEqDiff, ↓reduceIte, jbd_s, jpu_e, tI0, tI1, jgd_tI, jgd_bb, tfF, ftF, jup_at, jup_oc, jup_ok, e2, ld_133, r4, gd]
    · refine Ost.no (v := nM) r ?_ ?_
      · unfold f_C_late
        simp (disch := omega) only [lits, negs, nI_add, nn1, leT, leF, ltT, ltF, eqF, mF1, mF2, mF3, mF4, mF5, mF6, mTT, eq_self, Nat.reduceEqDiff, ↓reduceIte, jbd_s, jpu_e, tI0, tI1, jgd_tI, jgd_bb, tfF, ftF, jup_at, jup_oc, jup_ok, e_underC rc hc, decide_eq_false h0, tI_f]
      · have e := e_underM rc1 hc
        rw [q, decide_eq_false h0] at e
        unfold f_M_late
        simp (disch := omega) only [lits, negs, nI_add, nn1, leT, leF, ltT, ltF, eqF, mF1, mF2, mF3, mF4, mF5, mF6, mTT, eq_self, Nat.reduceEqDiff, ↓reduceIte, jbd_s, jpu_e, tI0, tI1, jgd_tI, jgd_bb, tfF, ftF, jup_at, jup_oc, jup_ok, e, tI_f]
/-- a copy is posted: the class -/
def sndM (m : jMem) (C : Nat) (l f t day : Int32) : jMem := jup (jup (jup (jup (jup (jup m 60 C l) 61 C f) 62 C t) 63 C day) 64 C (nI 0)) 45 10 (nI (C + 1))
/-- .. the reference -/
def pstM (m : jMem) (C : Nat) (l f t day : Int32) : jMem := jup (jup (jup (jup (jup (jup m 130 C l) 131 C f) 132 C t) 133 C day) 134 C (nI 0)) 109 44 (nI (C + 1))
theorem e_send {C f t : Nat} {l td wy : Int32} {m : jMem} (hC : m 45 10 = nI C) (hC2 : C < 150) (hf : f < 6) (ht : t < 6) (hw : m (47 + f) t = wy) : f_P_send l (nI f) (nI t) td m = some (nI C, sndM m C l (nI f) (nI t) (partS (m 45 2) (m 45 3) (m 45 4) f t (td + wy))) := by
  unfold f_P_send sndM
  simp only [lits, negs]
  simp (disch := omega) only [lits, negs, nI_add, nn1, leT, leF, ltT, ltF, eqF, mF1, mF2, mF3, mF4, mF5, mF6, mTT, eq_self, Nat.reduceEqDiff, ↓reduceIte, ↓jbd_s, ↓jpu_e, tI0, tI1, jgd_tI, jgd_bb, tfF, ftF, jup_at, jup_oc, jup_ok, hC, e_isWriter, ↓st_60, ↓st_61, ↓st_62, ↓l3_46, ↓ldr_46, hw, e_through1, ↓st_63, ↓st_64]
theorem e_post {C f t : Nat} {l td wy : Int32} {m : jMem} (hC : m 109 44 = nI C) (hC2 : C < 150) (hf : f < 6) (ht : t < 6) (hw : m 120 (6 * f + t) = wy) (hd : m 109 31 = td) : f_M_post l (nI f) (nI t) m = some ((), pstM m C l (nI f) (nI t) (partS (m 109 50) (m 109 51) (m 109 52) f t (td + wy))) := by
  unfold f_M_post pstM
  simp only [lits, negs]
  simp (disch := omega) only [lits, negs, nI_add, nn1, leT, leF, ltT, ltF, eqF, mF1, mF2, mF3, mF4, mF5, mF6, mTT, eq_self, Nat.reduceEqDiff, ↓reduceIte, ↓jbd_s, ↓jpu_e, tI0, tI1, jgd_tI, jgd_bb, tfF, ftF, jup_at, jup_oc, jup_ok, hC, ↓st_130, ↓st_131, ↓st_132, pk_mul, ↓ld_120, hw, hd, e_parted, ↓st_133, ↓st_134]
