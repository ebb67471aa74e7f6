/-! forged, forgers: the verdict -/
/-- too much of v -/
def tooP (Ls : Nat → Nat → Nat) (W D : Nat → Int32) (N w dd : Nat) (x : Int32) (v : Nat) : Bool := decide ((if v = w then wrS W D (nI v) (nI dd) N + 1 else wrS W D (nI v) (nI dd - nI (Ls v w)) N) < lsN x v)
/-- does v lack -/
def lackP (P W D : Nat → Int32) (N w dd : Nat) (x : Int32) (v : Nat) : Bool :=
  let l := kthS (fun l => decide (W l = nI v)) (lsN x v) N
  !decide (l = nM) && ((!decide (v = w) || !decide (nI dd < D l.toNatClampNeg)) && moreS P W x l.toNatClampNeg)
def backP (P W D : Nat → Int32) (N w dd : Nat) (x : Int32) : Bool :=
  let l := kthS (fun l => decide (W l = nI w)) (wrS W D (nI w) (nI dd) N) N
  !decide (l = nM) && moreS P W x l.toNatClampNeg
def verS (Ls : Nat → Nat → Nat) (P W D : Nat → Int32) (N w dd : Nat) (x : Int32) : Nat :=
  if exS (tooP Ls W D N w dd x) 6 = true then 1 else if exS (lackP P W D N w dd x) 6 = true then 2 else if backP P W D N w dd x = true then 3 else 0
theorem wrS_le (W D : Nat → Int32) (v d : Int32) (N : Nat) : wrS W D v d N ≤ N := fb_ct_le _ _
/-- the class's ways to a writer -/
def WL (Ls : Nat → Nat → Nat) (m : jMem) : Prop := (∀ a, a < 6 → ∀ b, b < 6 → m (54 + a) b = nI (Ls a b)) ∧ ∀ a, a < 6 → Ls a a = 0
theorem lp_too {N w dd : Nat} {Ls : Nat → Nat → Nat} {x : Int32} {kY kN : jMem → Option (Int32 × jMem)} {m : jMem} (h : LN N m) (hL : WL Ls m) (hw : w < 6) : ∀ (d n i : Nat), i + d = 6 → d < n → exS (tooP Ls (m 30) (m 31) N w dd x) i = false → lp_U_isTooMuch_3 (nI w) (nI dd) x kY kN n (nI i) m = if exS (tooP Ls (m 30) (m 31) N w dd x) 6 = true then kY m else kN m := by
  have h30 := h.1
  have hN := h.2.1
  intro d
  induction d with
  | zero =>
    intro n i h hn h0
    obtain ⟨n, rfl⟩ := ex_succ hn
    have e : i = 6 := by omega
    subst e
    unfold lp_U_isTooMuch_3
    simp (disch := omega) only [lits, negs, nI_add, nn1, leT, leF, ltT, ltF, eqF, mF1, mF2, mF3, mF4, mF5, mF6, mTT, eq_self, Nat.reduceEqDiff, ↓reduceIte, jbd_s, jpu_e, tI0, tI1, jgd_tI, jgd_bb, tfF, ftF, jup_at, jup_oc, jup_ok, h0]
  | succ d ih =>
    intro n i h9 hn h0
    obtain ⟨n, rfl⟩ := ex_succ hn
    have l1 := (lsN_e x i).2
    have l2 := wrS_le (m 30) (m 31) (nI i) (nI dd) N
    have l3 := wrS_le (m 30) (m 31) (nI i) (nI dd - nI (Ls i w)) N
    have hi : i < 6 := by omega
    have g1 := hL.1 i hi w hw
    have g2 := hL.2 w hw
    have hid : nI dd - nI 0 = nI dd := pk_sub (Nat.zero_le _)
    unfold lp_U_isTooMuch_3
    by_cases e1 : i = w
    · subst e1
      by_cases q : wrS (m 30) (m 31) (nI i) (nI dd) N + 1 < lsN x i
      · have hp : tooP Ls (m 30) (m 31) N i dd x i = true := by unfold tooP; rw [if_pos rfl]; exact decide_eq_true q
        rw [exS_mono hi hp]
        simp (disch := omega) only [lits, negs, nI_add, nn1, leT, leF, ltT, ltF, eqF, mF1, mF2, mF3, mF4, mF5, mF6, mTT, eq_self, Nat.reduceEqDiff, ↓reduceIte, jbd_s, jpu_e, tI0, tI1, jgd_tI, jgd_bb, tfF, ftF, jup_at, jup_oc, jup_ok, l3_53, ldr_53, g1, g2, hid, e_wrB hN h30, e_truth1, e_numberIn]
      · have hp : tooP Ls (m 30) (m 31) N i dd x i = false := by unfold tooP; rw [if_pos rfl]; exact decide_eq_false q
        have e := ih n (i + 1) (by omega) (by omega) (by rw [exS_succ, h0, hp]; rfl)
        simp (disch := omega) only [lits, negs, nI_add, nn1, leT, leF, ltT, ltF, eqF, mF1, mF2, mF3, mF4, mF5, mF6, mTT, eq_self, Nat.reduceEqDiff, ↓reduceIte, jbd_s, jpu_e, tI0, tI1, jgd_tI, jgd_bb, tfF, ftF, jup_at, jup_oc, jup_ok, l3_53, ldr_53, g1, g2, hid, e_wrB hN h30, e_truth1, e_numberIn]
        exact e
    · by_cases q : wrS (m 30) (m 31) (nI i) (nI dd - nI (Ls i w)) N < lsN x i
      · have hp : tooP Ls (m 30) (m 31) N w dd x i = true := by unfold tooP; rw [if_neg e1]; exact decide_eq_true q
        rw [exS_mono hi hp]
        simp (disch := omega) only [lits, negs, nI_add, nn1, leT, leF, ltT, ltF, eqF, mF1, mF2, mF3, mF4, mF5, mF6, mTT, eq_self, Nat.reduceEqDiff, ↓reduceIte, jbd_s, jpu_e, tI0, tI1, jgd_tI, jgd_bb, tfF, ftF, jup_at, jup_oc, jup_ok, l3_53, ldr_53, g1, e_wrB hN h30, e_truth0, e_numberIn, Nat.add_zero]
      · have hp : tooP Ls (m 30) (m 31) N w dd x i = false := by unfold tooP; rw [if_neg e1]; exact decide_eq_false q
        have e := ih n (i + 1) (by omega) (by omega) (by rw [exS_succ, h0, hp]; rfl)
        simp (disch := omega) only [lits, negs, nI_add, nn1, leT, leF, ltT, ltF, eqF, mF1, mF2, mF3, mF4, mF5, mF6, mTT, eq_self, Nat.reduceEqDiff, ↓reduceIte, jbd_s, jpu_e, tI0, tI1, jgd_tI, jgd_bb, tfF, ftF, jup_at, jup_oc, jup_ok, l3_53, ldr_53, g1, e_wrB hN h30, e_truth0, e_numberIn, Nat.add_zero]
        exact e
theorem lp_lack {N w dd : Nat} {x : Int32} {kY kN : jMem → Option (Int32 × jMem)} {m : jMem} (h : LN N m) (hw : w < 6) : ∀ (d n i : Nat), i + d = 6 → d < n → exS (lackP (m 37) (m 30) (m 31) N w dd x) i = false → lp_U_doesLack_3 (nI w) (nI dd) x kY kN n (nI i) m = if exS (lackP (m 37) (m 30) (m 31) N w dd x) 6 = true then kY m else kN m := by
  have h30 := h.1
  have hN := h.2.1
  intro d
  induction d with
  | zero =>
    intro n i h hn h0
    obtain ⟨n, rfl⟩ := ex_succ hn
    have e : i = 6 := by omega
    subst e
    unfold lp_U_doesLack_3
    simp (disch := omega) only [lits, negs, nI_add, nn1, leT, leF, ltT, ltF, eqF, mF1, mF2, mF3, mF4, mF5, mF6, mTT, eq_self, Nat.reduceEqDiff, ↓reduceIte, jbd_s, jpu_e, tI0, tI1, jgd_tI, jgd_bb, tfF, ftF, jup_at, jup_oc, jup_ok, h0]
  | succ d ih =>
    intro n i h9 hn h0
    obtain ⟨n, rfl⟩ := ex_succ hn
    have l1 := (lsN_e x i).2
    have hi : i < 6 := by omega
    have hyes : lackP (m 37) (m 30) (m 31) N w dd x i = true → exS (lackP (m 37) (m 30) (m 31) N w dd x) 6 = true := fun hp => exS_mono hi hp
    have hno : lackP (m 37) (m 30) (m 31) N w dd x i = false → lp_U_doesLack_3 (nI w) (nI dd) x kY kN n (nI (i + 1)) m = if exS (lackP (m 37) (m 30) (m 31) N w dd x) 6 = true then kY m else kN m := fun hp => ih n (i + 1) (by omega) (by omega) (by rw [exS_succ, h0, hp]; rfl)
    unfold lp_U_doesLack_3
    simp only [lits, negs]
    rcases kthS_or (p := fun l => decide (m 30 l = nI i)) (k := lsN x i) (N := N) with hk | ⟨l, hl, hk⟩
    · have hp : lackP (m 37) (m 30) (m 31) N w dd x i = false := by
        unfold lackP
        simp only [hk]
        rfl
      simp (disch := omega) only [lits, negs, nI_add, nn1, leT, leF, ltT, ltF, eqF, mF1, mF2, mF3, mF4, mF5, mF6, mTT, eq_self, Nat.reduceEqDiff, ↓reduceIte, ↓jbd_s, ↓jpu_e, tI0, tI1, jgd_tI, jgd_bb, tfF, ftF, jup_at, jup_oc, jup_ok, ↓jb (e_numberIn (x := x) (m := m) i), ↓jb (e_ofW (v := nI i) (kk := lsN x i) hN h30 (by omega)), hk, hno hp]
    · have hcl : (nI l).toNatClampNeg = l := nI_clamp (by omega)
      have hnm : decide (nI l = nM) = false := decide_eq_false (by rw [mF1 (by omega)]; exact id)
      by_cases e1 : i = w
      · subst e1
        by_cases e2 : nI dd < m 31 l
        · have hp : lackP (m 37) (m 30) (m 31) N i dd x i = false := by
            unfold lackP
            simp only [hk, hcl, hnm, decide_eq_true e2, decide_true]
            rfl
          simp (disch := omega) only [lits, negs, nI_add, nn1, leT, leF, ltT, ltF, eqF, mF1, mF2, mF3, mF4, mF5, mF6, mTT, eq_self, Nat.reduceEqDiff, ↓reduceIte, ↓jbd_s, ↓jpu_e, tI0, tI1, jgd_tI, jgd_bb, tfF, ftF, jup_at, jup_oc, jup_ok, ↓jb (e_numberIn (x := x) (m := m) i), ↓jb (e_ofW (v := nI i) (kk := lsN x i) hN h30 (by omega)), hk, ↓ld_31, e2, hno hp]
        · cases e3 : moreS (m 37) (m 30) x l
          · have hp : lackP (m 37) (m 30) (m 31) N i dd x i = false := by
              unfold lackP
              simp only [hk, hcl, hnm, decide_eq_false e2, e3, Bool.and_false]
            simp (disch := omega) only [lits, negs, nI_add, nn1, leT, leF, ltT, ltF, eqF, mF1, mF2, mF3, mF4, mF5, mF6, mTT, eq_self, Nat.reduceEqDiff, ↓reduceIte, ↓jbd_s, ↓jpu_e, tI0, tI1, jgd_tI, jgd_bb, tfF, ftF, jup_at, jup_oc, jup_ok, ↓jb (e_numberIn (x := x) (m := m) i), ↓jb (e_ofW (v := nI i) (kk := lsN x i) hN h30 (by omega)), hk, ↓ld_31, e2, hno hp, e_bearsMore h hl, e3]
          · have hp : lackP (m 37) (m 30) (m 31) N i dd x i = true := by
              unfold lackP
              simp only [hk, hcl, hnm, decide_eq_false e2, e3, Bool.not_false, Bool.or_true, Bool.and_true]
            simp (disch := omega) only [lits, negs, nI_add, nn1, leT, leF, ltT, ltF, eqF, mF1, mF2, mF3, mF4, mF5, mF6, mTT, eq_self, Nat.reduceEqDiff, ↓reduceIte, ↓jbd_s, ↓jpu_e, tI0, tI1, jgd_tI, jgd_bb, tfF, ftF, jup_at, jup_oc, jup_ok, ↓jb (e_numberIn (x := x) (m := m) i), ↓jb (e_ofW (v := nI i) (kk := lsN x i) hN h30 (by omega)), hk, ↓ld_31, e2, hyes hp, e_bearsMore h hl, e3]
      · cases e3 : moreS (m 37) (m 30) x l
        · have hp : lackP (m 37) (m 30) (m 31) N w dd x i = false := by
            unfold lackP
            simp only [hk, hcl, hnm, e3, Bool.and_false]
          simp (disch := omega) only [lits, negs, nI_add, nn1, leT, leF, ltT, ltF, eqF, mF1, mF2, mF3, mF4, mF5, mF6, mTT, eq_self, Nat.reduceEqDiff, ↓reduceIte, ↓jbd_s, ↓jpu_e, tI0, tI1, jgd_tI, jgd_bb, tfF, ftF, jup_at, jup_oc, jup_ok, ↓jb (e_numberIn (x := x) (m := m) i), ↓jb (e_ofW (v := nI i) (kk := lsN x i) hN h30 (by omega)), hk, hno hp, e_bearsMore h hl, e3]
        · have hp : lackP (m 37) (m 30) (m 31) N w dd x i = true := by
            unfold lackP
            simp only [hk, hcl, hnm, decide_eq_false e1, e3, Bool.not_false, Bool.true_or, Bool.and_true]
          simp (disch := omega) only [lits, negs, nI_add, nn1, leT, leF, ltT, ltF, eqF, mF1, mF2, mF3, mF4, mF5, mF6, mTT, eq_self, Nat.reduceEqDiff, ↓reduceIte, ↓jbd_s, ↓jpu_e, tI0, tI1, jgd_tI, jgd_bb, tfF, ftF, jup_at, jup_oc, jup_ok, ↓jb (e_numberIn (x := x) (m := m) i), ↓jb (e_ofW (v := nI i) (kk := lsN x i) hN h30 (by omega)), hk, hyes hp, e_bearsMore h hl, e3]
theorem e_verdict {N w dd : Nat} {Ls : Nat → Nat → Nat} {x : Int32} {m : jMem} (h : LN N m) (hL : WL Ls m) (hw : w < 6) : f_U_verdict (nI w) (nI dd) x m = some (nI (verS Ls (m 37) (m 30) (m 31) N w dd x), m) := by
  have h30 := h.1
  have hN := h.2.1
  have e1 : f_U_isTooMuch (nI w) (nI dd) x m = some (tI (exS (tooP Ls (m 30) (m 31) N w dd x) 6), m) := by
    unfold f_U_isTooMuch
    simp only [lits]
    rw [lp_too (kY := fun m13 => some (nI 1, m13)) (kN := fun m14 => some (nI 0, m14)) h hL hw 6 5000 0 (by omega) (by omega) rfl]
    cases exS (tooP Ls (m 30) (m 31) N w dd x) 6 <;> rfl
  have e2 : f_U_doesLack (nI w) (nI dd) x m = some (tI (exS (lackP (m 37) (m 30) (m 31) N w dd x) 6), m) := by
    unfold f_U_doesLack
    simp only [lits]
    rw [lp_lack (kY := fun m13 => some (nI 1, m13)) (kN := fun m14 => some (nI 0, m14)) h hw 6 5000 0 (by omega) (by omega) rfl]
    cases exS (lackP (m 37) (m 30) (m 31) N w dd x) 6 <;> rfl
  have l2 := wrS_le (m 30) (m 31) (nI w) (nI dd) N
  have e3 : f_U_goesBack (nI w) (nI dd) x m = some (tI (backP (m 37) (m 30) (m 31) N w dd x), m) := by
    unfold f_U_goesBack
    rcases kthS_or (p := fun l => decide (m 30 l = nI w)) (k := wrS (m 30) (m 31) (nI w) (nI dd) N) (N := N) with hk | ⟨l, hl, hk⟩
    · have hp : backP (m 37) (m 30) (m 31) N w dd x = false := by
        unfold backP
        simp only [hk]
        rfl
      simp (disch := omega) only [lits, negs, nI_add, nn1, leT, leF, ltT, ltF, eqF, mF1, mF2, mF3, mF4, mF5, mF6, mTT, eq_self, Nat.reduceEqDiff, ↓reduceIte, jbd_s, jpu_e, tI0, tI1, jgd_tI, jgd_bb, tfF, ftF, jup_at, jup_oc, jup_ok, e_wrB hN h30, e_ofW hN h30, hk, hp, tI_f]
    · have hcl : (nI l).toNatClampNeg = l := nI_clamp (by omega)
      have hnm : decide (nI l = nM) = false := decide_eq_false (by rw [mF1 (by omega)]; exact id)
      have hp : backP (m 37) (m 30) (m 31) N w dd x = moreS (m 37) (m 30) x l := by
        unfold backP
        simp only [hk, hcl, hnm, Bool.not_false, Bool.true_and]
      simp (disch := omega) only [lits, negs, nI_add, nn1, leT, leF, ltT, ltF, eqF, mF1, mF2, mF3, mF4, mF5, mF6, mTT, eq_self, Nat.reduceEqDiff, ↓reduceIte, jbd_s, jpu_e, tI0, tI1, jgd_tI, jgd_bb, tfF, ftF, jup_at, jup_oc, jup_ok, e_wrB hN h30, e_ofW hN h30, hk, hp, e_bearsMore h hl]
      cases moreS (m 37) (m 30) x l <;> rfl
  unfold f_U_verdict verS
  simp (disch := omega) only [lits, negs, nI_add, nn1, leT, leF, ltT, ltF, eqF, mF1, mF2, mF3, mF4, mF5, mF6, mTT, eq_self, Nat.reduceEqDiff, ↓reduceIte, jbd_s, jpu_e, tI0, tI1, jgd_tI, jgd_bb, tfF, ftF, jup_at, jup_oc, jup_ok, e1, e2, e3]
  cases exS (tooP Ls (m 30) (m 31) N w dd x) 6
  · cases exS (lackP (m 37) (m 30) (m 31) N w dd x) 6
    · cases backP (m 37) (m 30) (m 31) N w dd x <;> rfl
    · rfl
  · rfl
/-! the reference's -/
theorem lp_Mf1 {N w dd : Nat} {Ls : Nat → Nat → Nat} {x : Int32} {kY kN : jMem → Option (Int32 × jMem)} {m : jMem} (hM : m 109 33 = nI N) (h30 : N ≤ 30) (hL : M143 Ls m) (hw : w < 6) : ∀ (d n i : Nat), i + d = 6 → d < n → exS (tooP Ls (m 121) (m 122) N w dd x) i = false → lp_M_forgedBy_3 (nI w) (nI dd) x kY kN n (nI i) m = if exS (tooP Ls (m 121) (m 122) N w dd x) 6 = true then kY m else kN m := by
  intro d
  induction d with
  | zero =>
    intro n i h hn h0
    obtain ⟨n, rfl⟩ := ex_succ hn
    have e : i = 6 := by omega
    subst e
    unfold lp_M_forgedBy_3
    simp (disch := omega) only [lits, negs, nI_add, nn1, leT, leF, ltT, ltF, eqF, mF1, mF2, mF3, mF4, mF5, mF6, mTT, eq_self, Nat.reduceEqDiff, ↓reduceIte, jbd_s, jpu_e, tI0, tI1, jgd_tI, jgd_bb, tfF, ftF, jup_at, jup_oc, jup_ok, h0]
  | succ d ih =>
    intro n i h9 hn h0
    obtain ⟨n, rfl⟩ := ex_succ hn
    have l1 := (lsN_e x i).2
    have l2 := wrS_le (m 121) (m 122) (nI i) (nI dd) N
    have l3 := wrS_le (m 121) (m 122) (nI i) (nI dd - nI (Ls i w)) N
    have hi : i < 6 := by omega
    have g1 := hL i hi w hw
    unfold lp_M_forgedBy_3
    by_cases e1 : i = w
    · subst e1
      by_cases q : wrS (m 121) (m 122) (nI i) (nI dd) N + 1 < lsN x i
      · have hp : tooP Ls (m 121) (m 122) N i dd x i = true := by unfold tooP; rw [if_pos rfl]; exact decide_eq_true q
        rw [exS_mono hi hp]
        simp (disch := omega) only [lits, negs, nI_add, nn1, leT, leF, ltT, ltF, eqF, mF1, mF2, mF3, mF4, mF5, mF6, mTT, eq_self, Nat.reduceEqDiff, ↓reduceIte, jbd_s, jpu_e, tI0, tI1, jgd_tI, jgd_bb, tfF, ftF, jup_at, jup_oc, jup_ok, e_manyB hM h30, e_Mlisted]
      · have hp : tooP Ls (m 121) (m 122) N i dd x i = false := by unfold tooP; rw [if_pos rfl]; exact decide_eq_false q
        have e := ih n (i + 1) (by omega) (by omega) (by rw [exS_succ, h0, hp]; rfl)
        simp (disch := omega) only [lits, negs, nI_add, nn1, leT, leF, ltT, ltF, eqF, mF1, mF2, mF3, mF4, mF5, mF6, mTT, eq_self, Nat.reduceEqDiff, ↓reduceIte, jbd_s, jpu_e, tI0, tI1, jgd_tI, jgd_bb, tfF, ftF, jup_at, jup_oc, jup_ok, e_manyB hM h30, e_Mlisted]
        exact e
    · by_cases q : wrS (m 121) (m 122) (nI i) (nI dd - nI (Ls i w)) N < lsN x i
      · have hp : tooP Ls (m 121) (m 122) N w dd x i = true := by unfold tooP; rw [if_neg e1]; exact decide_eq_true q
        rw [exS_mono hi hp]
        simp (disch := omega) only [lits, negs, nI_add, nn1, leT, leF, ltT, ltF, eqF, mF1, mF2, mF3, mF4, mF5, mF6, mTT, eq_self, Nat.reduceEqDiff, ↓reduceIte, jbd_s, jpu_e, tI0, tI1, jgd_tI, jgd_bb, tfF, ftF, jup_at, jup_oc, jup_ok, pk_mul, ld_143, g1, e_manyB hM h30, e_Mlisted]
      · have hp : tooP Ls (m 121) (m 122) N w dd x i = false := by unfold tooP; rw [if_neg e1]; exact decide_eq_false q
        have e := ih n (i + 1) (by omega) (by omega) (by rw [exS_succ, h0, hp]; rfl)
        simp (disch := omega) only [lits, negs, nI_add, nn1, leT, leF, ltT, ltF, eqF, mF1, mF2, mF3, mF4, mF5, mF6, mTT, eq_self, Nat.reduceEqDiff, ↓reduceIte, jbd_s, jpu_e, tI0, tI1, jgd_tI, jgd_bb, tfF, ftF, jup_at, jup_oc, jup_ok, pk_mul, ld_143, g1, e_manyB hM h30, e_Mlisted]
        exact e
theorem lp_Mf2 {N w dd : Nat} {x : Int32} {kY kN : jMem → Option (Int32 × jMem)} {m : jMem} (hM : m 109 33 = nI N) (h30 : N ≤ 30) (hw : w < 6) : ∀ (d n i : Nat), i + d = 6 → d < n → exS (lackP (m 128) (m 121) (m 122) N w dd x) i = false → lp_M_forgedBy_71 (nI w) (nI dd) x kY kN n (nI i) m = if exS (lackP (m 128) (m 121) (m 122) N w dd x) 6 = true then kY m else kN m := by
  intro d
  induction d with
  | zero =>
    intro n i h hn h0
    obtain ⟨n, rfl⟩ := ex_succ hn
    have e : i = 6 := by omega
    subst e
    unfold lp_M_forgedBy_71
    simp (disch := omega) only [lits, negs, nI_add, nn1, leT, leF, ltT, ltF, eqF, mF1, mF2, mF3, mF4, mF5, mF6, mTT, eq_self, Nat.reduceEqDiff, ↓reduceIte, jbd_s, jpu_e, tI0, tI1, jgd_tI, jgd_bb, tfF, ftF, jup_at, jup_oc, jup_ok, h0]
  | succ d ih =>
    intro n i h9 hn h0
    obtain ⟨n, rfl⟩ := ex_succ hn
    have l1 := (lsN_e x i).2
    have hi : i < 6 := by omega
    have hyes : lackP (m 128) (m 121) (m 122) N w dd x i = true → exS (lackP (m 128) (m 121) (m 122) N w dd x) 6 = true := fun hp => exS_mono hi hp
    have hno : lackP (m 128) (m 121) (m 122) N w dd x i = false → lp_M_forgedBy_71 (nI w) (nI dd) x kY kN n (nI (i + 1)) m = if exS (lackP (m 128) (m 121) (m 122) N w dd x) 6 = true then kY m else kN m := fun hp => ih n (i + 1) (by omega) (by omega) (by rw [exS_succ, h0, hp]; rfl)
    unfold lp_M_forgedBy_71
    simp only [lits, negs]
    rcases kthS_or (p := fun l => decide (m 121 l = nI i)) (k := lsN x i) (N := N) with hk | ⟨l, hl, hk⟩
    · have hp : lackP (m 128) (m 121) (m 122) N w dd x i = false := by
        unfold lackP
        simp only [hk]
        rfl
      by_cases z : lsN x i = 0
      · simp (disch := omega) only [lits, negs, nI_add, nn1, leT, leF, ltT, ltF, eqF, mF1, mF2, mF3, mF4, mF5, mF6, mTT, eq_self, Nat.reduceEqDiff, ↓reduceIte, ↓jbd_s, ↓jpu_e, tI0, tI1, jgd_tI, jgd_bb, tfF, ftF, jup_at, jup_oc, jup_ok, ↓jb (e_Mlisted (x := x) (m := m) i), z, hno hp]
      · simp (disch := omega) only [lits, negs, nI_add, nn1, leT, leF, ltT, ltF, eqF, mF1, mF2, mF3, mF4, mF5, mF6, mTT, eq_self, Nat.reduceEqDiff, ↓reduceIte, ↓jbd_s, ↓jpu_e, tI0, tI1, jgd_tI, jgd_bb, tfF, ftF, jup_at, jup_oc, jup_ok, ↓jb (e_Mlisted (x := x) (m := m) i), ↓jb (e_lettO (v := nI i) (kk := lsN x i) hM h30 (by omega)), hk, hno hp]
    · have z : lsN x i ≠ 0 := fun z => by
        rw [z, kthS_0] at hk
        rw [mF2 (by omega)] at hk; exact hk
      have hcl : (nI l).toNatClampNeg = l := nI_clamp (by omega)
      have hnm : decide (nI l = nM) = false := decide_eq_false (by rw [mF1 (by omega)]; exact id)
      by_cases e1 : i = w
      · subst e1
        by_cases e2 : nI dd < m 122 l
        · have hp : lackP (m 128) (m 121) (m 122) N i dd x i = false := by
            unfold lackP
            simp only [hk, hcl, hnm, decide_eq_true e2, decide_true]
            rfl
          simp (disch := omega) only [lits, negs, nI_add, nn1, leT, leF, ltT, ltF, eqF, mF1, mF2, mF3, mF4, mF5, mF6, mTT, eq_self, Nat.reduceEqDiff, ↓reduceIte, ↓jbd_s, ↓jpu_e, tI0, tI1, jgd_tI, jgd_bb, tfF, ftF, jup_at, jup_oc, jup_ok, ↓jb (e_Mlisted (x := x) (m := m) i), ↓jb (e_lettO (v := nI i) (kk := lsN x i) hM h30 (by omega)), hk, ↓ld_122, e2, hno hp]
        · cases e3 : moreS (m 128) (m 121) x l
          · have hp : lackP (m 128) (m 121) (m 122) N i dd x i = false := by
              unfold lackP
              simp only [hk, hcl, hnm, decide_eq_false e2, e3, Bool.and_false]
            simp (disch := omega) only [lits, negs, nI_add, nn1, leT, leF, ltT, ltF, eqF, mF1, mF2, mF3, mF4, mF5, mF6, mTT, eq_self, Nat.reduceEqDiff, ↓reduceIte, ↓jbd_s, ↓jpu_e, tI0, tI1, jgd_tI, jgd_bb, tfF, ftF, jup_at, jup_oc, jup_ok, ↓jb (e_Mlisted (x := x) (m := m) i), ↓jb (e_lettO (v := nI i) (kk := lsN x i) hM h30 (by omega)), hk, ↓ld_122, e2, hno hp, e_Mmore, e3]
          · have hp : lackP (m 128) (m 121) (m 122) N i dd x i = true := by
              unfold lackP
              simp only [hk, hcl, hnm, decide_eq_false e2, e3, Bool.not_false, Bool.or_true, Bool.and_true]
            simp (disch := omega) only [lits, negs, nI_add, nn1, leT, leF, ltT, ltF, eqF, mF1, mF2, mF3, mF4, mF5, mF6, mTT, eq_self, Nat.reduceEqDiff, ↓reduceIte, ↓jbd_s, ↓jpu_e, tI0, tI1, jgd_tI, jgd_bb, tfF, ftF, jup_at, jup_oc, jup_ok, ↓jb (e_Mlisted (x := x) (m := m) i), ↓jb (e_lettO (v := nI i) (kk := lsN x i) hM h30 (by omega)), hk, ↓ld_122, e2, hyes hp, e_Mmore, e3]
      · cases e3 : moreS (m 128) (m 121) x l
        · have hp : lackP (m 128) (m 121) (m 122) N w dd x i = false := by
            unfold lackP
            simp only [hk, hcl, hnm, e3, Bool.and_false]
          simp (disch := omega) only [lits, negs, nI_add, nn1, leT, leF, ltT, ltF, eqF, mF1, mF2, mF3, mF4, mF5, mF6, mTT, eq_self, Nat.reduceEqDiff, ↓reduceIte, ↓jbd_s, ↓jpu_e, tI0, tI1, jgd_tI, jgd_bb, tfF, ftF, jup_at, jup_oc, jup_ok, ↓jb (e_Mlisted (x := x) (m := m) i), ↓jb (e_lettO (v := nI i) (kk := lsN x i) hM h30 (by omega)), hk, hno hp, e_Mmore, e3]
        · have hp : lackP (m 128) (m 121) (m 122) N w dd x i = true := by
            unfold lackP
            simp only [hk, hcl, hnm, decide_eq_false e1, e3, Bool.not_false, Bool.true_or, Bool.and_true]
          simp (disch := omega) only [lits, negs, nI_add, nn1, leT, leF, ltT, ltF, eqF, mF1, mF2, mF3, mF4, mF5, mF6, mTT, eq_self, Nat.reduceEqDiff, ↓reduceIte, ↓jbd_s, ↓jpu_e, tI0, tI1, jgd_tI, jgd_bb, tfF, ftF, jup_at, jup_oc, jup_ok, ↓jb (e_Mlisted (x := x) (m := m) i), ↓jb (e_lettO (v := nI i) (kk := lsN x i) hM h30 (by omega)), hk, hyes hp, e_Mmore, e3]
theorem e_Mforged {N w dd : Nat} {Ls : Nat → Nat → Nat} {x : Int32} {m : jMem} (hM : m 109 33 = nI N) (h30 : N ≤ 30) (hL : M143 Ls m) (hw : w < 6) : f_M_forgedBy (nI w) (nI dd) x m = some (nI (verS Ls (m 128) (m 121) (m 122) N w dd x), m) := by
  have l2 := wrS_le (m 121) (m 122) (nI w) (nI dd) N
  unfold f_M_forgedBy verS
  simp only [lits, negs]
  rw [lp_Mf1 hM h30 hL hw 6 5000 0 (by omega) (by omega) rfl]
  cases exS (tooP Ls (m 121) (m 122) N w dd x) 6
  · rw [if_neg (by decide), if_neg (by decide), lp_Mf2 hM h30 hw 6 5000 0 (by omega) (by omega) rfl]
    cases exS (lackP (m 128) (m 121) (m 122) N w dd x) 6
    · rw [if_neg (by decide), if_neg (by decide)]
      rcases kthS_or (p := fun l => decide (m 121 l = nI w)) (k := wrS (m 121) (m 122) (nI w) (nI dd) N) (N := N) with hk | ⟨l, hl, hk⟩
      · have hp : backP (m 128) (m 121) (m 122) N w dd x = false := by
          unfold backP
          simp only [hk]
          rfl
        rw [hp]
        by_cases z : wrS (m 121) (m 122) (nI w) (nI dd) N = 0
        · simp (disch := omega) only [lits, negs, nI_add, nn1, leT, leF, ltT, ltF, eqF, mF1, mF2, mF3, mF4, mF5, mF6, mTT, eq_self, Nat.reduceEqDiff, ↓reduceIte, jbd_s, jpu_e, tI0, tI1, jgd_tI, jgd_bb, tfF, ftF, jup_at, jup_oc, jup_ok, e_manyB hM h30, z]
        · simp (disch := omega) only [lits, negs, nI_add, nn1, leT, leF, ltT, ltF, eqF, mF1, mF2, mF3, mF4, mF5, mF6, mTT, eq_self, Nat.reduceEqDiff, ↓reduceIte, jbd_s, jpu_e, tI0, tI1, jgd_tI, jgd_bb, tfF, ftF, jup_at, jup_oc, jup_ok, e_manyB hM h30, e_lettO hM h30, hk]
      · have z : wrS (m 121) (m 122) (nI w) (nI dd) N ≠ 0 := fun z => by
          rw [z, kthS_0] at hk
          rw [mF2 (by omega)] at hk; exact hk
        have hcl : (nI l).toNatClampNeg = l := nI_clamp (by omega)
        have hnm : decide (nI l = nM) = false := decide_eq_false (by rw [mF1 (by omega)]; exact id)
        have hp : backP (m 128) (m 121) (m 122) N w dd x = moreS (m 128) (m 121) x l := by
          unfold backP
          simp only [hk, hcl, hnm, Bool.not_false, Bool.true_and]
        rw [hp]
        simp (disch := omega) only [lits, negs, nI_add, nn1, leT, leF, ltT, ltF, eqF, mF1, mF2, mF3, mF4, mF5, mF6, mTT, eq_self, Nat.reduceEqDiff, ↓reduceIte, jbd_s, jpu_e, tI0, tI1, jgd_tI, jgd_bb, tfF, ftF, jup_at, jup_oc, jup_ok, e_manyB hM h30, e_lettO hM h30, hk, e_Mmore]
        cases moreS (m 128) (m 121) x l <;> rfl
    · rfl
  · rfl
