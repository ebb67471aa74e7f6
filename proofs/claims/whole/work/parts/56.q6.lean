/-! forged, forgers -/
def lsN (x : Int32) (v : Nat) : Nat := ((x >>> (nI (5 * v) &&& nI 31)) &&& nI 31).toNatClampNeg
theorem lsN_e (x : Int32) (v : Nat) : (x >>> (nI (5 * v) &&& nI 31)) &&& nI 31 = nI (lsN x v) ∧ lsN x v < 32 := by
  obtain ⟨j, hj, e⟩ := pk_andE (x >>> (nI (5 * v) &&& nI 31)) (m := nI 31) 5 (by decide)
  unfold lsN
  rw [e, nI_clamp (by omega)]
  exact ⟨rfl, by omega⟩
theorem e_numberIn {x : Int32} {m : jMem} (v : Nat) : f_U_numberIn x (nI v) m = some (nI (lsN x v), m) := by
  unfold f_U_numberIn
  simp (disch := omega) only [lits, negs, nI_add, nn1, leT, leF, ltT, ltF, eqF, mF1, mF2, mF3, mF4, mF5, mF6, mTT, eq_self, Nat.reduceEqDiff, ↓reduceIte, jbd_s, jpu_e, tI0, tI1, jgd_tI, jgd_bb, tfF, ftF, jup_at, jup_oc, jup_ok, pk_mul]
  rw [(lsN_e x v).1]
theorem e_Mlisted {x : Int32} {m : jMem} (v : Nat) : f_M_listed x (nI v) m = some (nI (lsN x v), m) := by
  unfold f_M_listed
  simp (disch := omega) only [lits, negs, nI_add, nn1, leT, leF, ltT, ltF, eqF, mF1, mF2, mF3, mF4, mF5, mF6, mTT, eq_self, Nat.reduceEqDiff, ↓reduceIte, jbd_s, jpu_e, tI0, tI1, jgd_tI, jgd_bb, tfF, ftF, jup_at, jup_oc, jup_ok, pk_mul]
  rw [(lsN_e x v).1]
/-- letters of a writer by a day -/
def wrS (W D : Nat → Int32) (v d : Int32) (N : Nat) : Nat := fb_ct (fun l => decide (W l = v) && !decide (d < D l)) N
theorem lp_wrB {N : Nat} {v da : Int32} {k : Int32 → jMem → Option (Int32 × jMem)} {m : jMem} (hN : m 29 15 = nI N) (h30 : N ≤ 30) : ∀ (d n i : Nat), i + d = N → d < n → lp_L_writtenBy_5 v da k n (nI (fb_ct (fun l => decide (m 30 l = v) && !decide (da < m 31 l)) i)) (nI i) m = k (nI (wrS (m 30) (m 31) v da N)) m := by
  intro d
  induction d with
  | zero =>
    intro n i hid hdn
    obtain ⟨n, rfl⟩ := ex_succ hdn
    rw [show i = N by omega]
    unfold lp_L_writtenBy_5
    simp (disch := omega) only [lits, negs, nI_add, nn1, leT, leF, ltT, ltF, eqF, mF1, mF2, mF3, mF4, mF5, mF6, mTT, eq_self, Nat.reduceEqDiff, ↓reduceIte, jbd_s, jpu_e, tI0, tI1, jgd_tI, jgd_bb, tfF, ftF, jup_at, jup_oc, jup_ok, hN, wrS]
  | succ d ih =>
    intro n i hid hdn
    obtain ⟨n, rfl⟩ := ex_succ hdn
    have e := ih n (i + 1) (by omega) (by omega)
    unfold lp_L_writtenBy_5
    rw [fb_ct_succ] at e
    by_cases h1 : m 30 i = v
    · by_cases h2 : da < m 31 i
      · simp only [decide_eq_true h2, Bool.not_true, Bool.and_false, if_neg (by decide : ¬ false = true), Nat.add_zero] at e
        simp (disch := omega) only [lits, negs, nI_add, nn1, leT, leF, ltT, ltF, eqF, mF1, mF2, mF3, mF4, mF5, mF6, mTT, eq_self, Nat.reduceEqDiff, ↓reduceIte, jbd_s, jpu_e, tI0, tI1, jgd_tI, jgd_bb, tfF, ftF, jup_at, jup_oc, jup_ok, hN, ld_30, ld_31, h1, h2]
        exact e
      · simp only [decide_eq_true h1, decide_eq_false h2, Bool.not_false, Bool.and_true, if_pos] at e
        simp (disch := omega) only [lits, negs, nI_add, nn1, leT, leF, ltT, ltF, eqF, mF1, mF2, mF3, mF4, mF5, mF6, mTT, eq_self, Nat.reduceEqDiff, ↓reduceIte, jbd_s, jpu_e, tI0, tI1, jgd_tI, jgd_bb, tfF, ftF, jup_at, jup_oc, jup_ok, hN, ld_30, ld_31, h1]
        rw [if_neg h2]
        exact e
    · simp only [decide_eq_false h1, Bool.false_and, if_neg (by decide : ¬ false = true), Nat.add_zero] at e
      simp (disch := omega) only [lits, negs, nI_add, nn1, leT, leF, ltT, ltF, eqF, mF1, mF2, mF3, mF4, mF5, mF6, mTT, eq_self, Nat.reduceEqDiff, ↓reduceIte, jbd_s, jpu_e, tI0, tI1, jgd_tI, jgd_bb, tfF, ftF, jup_at, jup_oc, jup_ok, hN, ld_30]
      rw [if_neg h1]
      exact e
theorem e_wrB {N : Nat} {v da : Int32} {m : jMem} (hN : m 29 15 = nI N) (h30 : N ≤ 30) : f_L_writtenBy v da m = some (nI (wrS (m 30) (m 31) v da N), m) := by
  unfold f_L_writtenBy
  simp only [lits]
  exact lp_wrB hN h30 N 5000 0 (by omega) (by omega)
theorem lp_manyB {N : Nat} {v da : Int32} {k : Int32 → jMem → Option (Int32 × jMem)} {m : jMem} (hN : m 109 33 = nI N) (h30 : N ≤ 30) : ∀ (d n i : Nat), i + d = N → d < n → lp_M_manyBy_5 v da k n (nI (fb_ct (fun l => decide (m 121 l = v) && !decide (da < m 122 l)) i)) (nI i) m = k (nI (wrS (m 121) (m 122) v da N)) m := by
  intro d
  induction d with
  | zero =>
    intro n i hid hdn
    obtain ⟨n, rfl⟩ := ex_succ hdn
    rw [show i = N by omega]
    unfold lp_M_manyBy_5
    simp (disch := omega) only [lits, negs, nI_add, nn1, leT, leF, ltT, ltF, eqF, mF1, mF2, mF3, mF4, mF5, mF6, mTT, eq_self, Nat.reduceEqDiff, ↓reduceIte, jbd_s, jpu_e, tI0, tI1, jgd_tI, jgd_bb, tfF, ftF, jup_at, jup_oc, jup_ok, hN, wrS]
  | succ d ih =>
    intro n i hid hdn
    obtain ⟨n, rfl⟩ := ex_succ hdn
    have e := ih n (i + 1) (by omega) (by omega)
    unfold lp_M_manyBy_5
    rw [fb_ct_succ] at e
    by_cases h1 : m 121 i = v
    · by_cases h2 : da < m 122 i
      · simp only [decide_eq_true h2, Bool.not_true, Bool.and_false, if_neg (by decide : ¬ false = true), Nat.add_zero] at e
        simp (disch := omega) only [lits, negs, nI_add, nn1, leT, leF, ltT, ltF, eqF, mF1, mF2, mF3, mF4, mF5, mF6, mTT, eq_self, Nat.reduceEqDiff, ↓reduceIte, jbd_s, jpu_e, tI0, tI1, jgd_tI, jgd_bb, tfF, ftF, jup_at, jup_oc, jup_ok, hN, ld_121, ld_122, h1, h2, Nat.add_zero]
        exact e
      · simp only [decide_eq_true h1, decide_eq_false h2, Bool.not_false, Bool.and_true, if_pos] at e
        simp (disch := omega) only [lits, negs, nI_add, nn1, leT, leF, ltT, ltF, eqF, mF1, mF2, mF3, mF4, mF5, mF6, mTT, eq_self, Nat.reduceEqDiff, ↓reduceIte, jbd_s, jpu_e, tI0, tI1, jgd_tI, jgd_bb, tfF, ftF, jup_at, jup_oc, jup_ok, hN, ld_121, ld_122, h1, Nat.add_zero]
        rw [if_neg h2]
        exact e
    · simp only [decide_eq_false h1, Bool.false_and, if_neg (by decide : ¬ false = true), Nat.add_zero] at e
      simp (disch := omega) only [lits, negs, nI_add, nn1, leT, leF, ltT, ltF, eqF, mF1, mF2, mF3, mF4, mF5, mF6, mTT, eq_self, Nat.reduceEqDiff, ↓reduceIte, jbd_s, jpu_e, tI0, tI1, jgd_tI, jgd_bb, tfF, ftF, jup_at, jup_oc, jup_ok, hN, ld_121, Nat.add_zero]
      rw [if_neg h1]
      exact e
theorem e_manyB {N : Nat} {v da : Int32} {m : jMem} (hN : m 109 33 = nI N) (h30 : N ≤ 30) : f_M_manyBy v da m = some (nI (wrS (m 121) (m 122) v da N), m) := by
  unfold f_M_manyBy
  simp only [lits]
  exact lp_manyB hN h30 N 5000 0 (by omega) (by omega)
/-- the k-th of them -/
def kthS (p : Nat → Bool) (k : Nat) : Nat → Int32
  | 0 => nM
  | n + 1 => if p n && decide (fb_ct p n + 1 = k) then nI n else kthS p k n
theorem kthS_succ (p : Nat → Bool) (k n : Nat) : kthS p k (n + 1) = if p n && decide (fb_ct p n + 1 = k) then nI n else kthS p k n := rfl
theorem kthS_at {p : Nat → Bool} {k i : Nat} (hp : p i = true) (hk : fb_ct p i + 1 = k) : ∀ {N : Nat}, i < N → kthS p k N = nI i
  | 0, h => absurd h (Nat.not_lt_zero i)
  | N + 1, h => by
    rw [kthS_succ]
    by_cases e : i = N
    · subst e
      rw [hp, decide_eq_true hk]
      rfl
    · have h1 : fb_ct p (i + 1) ≤ fb_ct p N := fb_ct_mono p (by omega)
      rw [fb_ct_succ, hp, if_pos rfl] at h1
      rw [decide_eq_false (by omega), Bool.and_false, if_neg (by decide)]
      exact kthS_at hp hk (by omega)
theorem kthS_or {p : Nat → Bool} {k : Nat} : ∀ {N : Nat}, kthS p k N = nM ∨ ∃ i, i < N ∧ kthS p k N = nI i
  | 0 => Or.inl rfl
  | N + 1 => by
    rw [kthS_succ]
    split
    · exact Or.inr ⟨N, by omega, rfl⟩
    · rcases kthS_or (p := p) (k := k) (N := N) with h | ⟨i, hi, h⟩
      · exact Or.inl h
      · exact Or.inr ⟨i, by omega, h⟩
theorem kthS_0 {p : Nat → Bool} : ∀ {N : Nat}, kthS p 0 N = nM
  | 0 => rfl
  | N + 1 => by rw [kthS_succ, decide_eq_false (by omega), Bool.and_false, if_neg (by decide)]; exact kthS_0
theorem lp_ofW {N kk : Nat} {v : Int32} {kY : Int32 → jMem → Option (Int32 × jMem)} {kN : jMem → Option (Int32 × jMem)} {m : jMem} (hN : m 29 15 = nI N) (h30 : N ≤ 30) (hkk : kk < 100) : ∀ (d n i : Nat), i + d = N → d < n → kthS (fun l => decide (m 30 l = v)) kk i = nM → lp_L_ofWriter_5 v (nI kk) kY kN n (nI (fb_ct (fun l => decide (m 30 l = v)) i)) (nI i) m = if kthS (fun l => decide (m 30 l = v)) kk N = nM then kN m else kY (kthS (fun l => decide (m 30 l = v)) kk N) m := by
  intro d
  induction d with
  | zero =>
    intro n i h hn h0
    obtain ⟨n, rfl⟩ := ex_succ hn
    have e : i = N := by omega
    subst e
    unfold lp_L_ofWriter_5
    simp (disch := omega) only [lits, negs, nI_add, nn1, leT, leF, ltT, ltF, eqF, mF1, mF2, mF3, mF4, mF5, mF6, mTT, eq_self, Nat.reduceEqDiff, ↓reduceIte, jbd_s, jpu_e, tI0, tI1, jgd_tI, jgd_bb, tfF, ftF, jup_at, jup_oc, jup_ok, hN, h0]
  | succ d ih =>
    intro n i h hn h0
    obtain ⟨n, rfl⟩ := ex_succ hn
    have hc := fb_ct_le (fun l => decide (m 30 l = v)) i
    unfold lp_L_ofWriter_5
    by_cases h1 : m 30 i = v
    · by_cases h2 : fb_ct (fun l => decide (m 30 l = v)) i + 1 = kk
      · rw [kthS_at (p := fun l => decide (m 30 l = v)) (k := kk) (decide_eq_true h1) h2 (by omega : i < N)]
        simp (disch := omega) only [lits, negs, nI_add, nn1, leT, leF, ltT, ltF, eqF, mF1, mF2, mF3, mF4, mF5, mF6, mTT, eq_self, Nat.reduceEqDiff, ↓reduceIte, jbd_s, jpu_e, tI0, tI1, jgd_tI, jgd_bb, tfF, ftF, jup_at, jup_oc, jup_ok, hN, ld_30, h1, h2]
      · have e := ih n (i + 1) (by omega) (by omega) (by
          rw [kthS_succ]
          show (if (decide (m 30 i = v) && _) = true then _ else _) = _
          rw [decide_eq_false h2, Bool.and_false, if_neg (by decide)]; exact h0)
        rw [fb_ct_succ] at e
        simp only [decide_eq_true h1, if_pos] at e
        simp (disch := omega) only [lits, negs, nI_add, nn1, leT, leF, ltT, ltF, eqF, mF1, mF2, mF3, mF4, mF5, mF6, mTT, eq_self, Nat.reduceEqDiff, ↓reduceIte, jbd_s, jpu_e, tI0, tI1, jgd_tI, jgd_bb, tfF, ftF, jup_at, jup_oc, jup_ok, hN, ld_30, h1]
        exact e
    · have e := ih n (i + 1) (by omega) (by omega) (by
        rw [kthS_succ]
        show (if (decide (m 30 i = v) && _) = true then _ else _) = _
        rw [decide_eq_false h1, Bool.false_and, if_neg (by decide)]; exact h0)
      rw [fb_ct_succ] at e
      simp only [decide_eq_false h1, if_neg (by decide : ¬ false = true), Nat.add_zero] at e
      simp (disch := omega) only [lits, negs, nI_add, nn1, leT, leF, ltT, ltF, eqF, mF1, mF2, mF3, mF4, mF5, mF6, mTT, eq_self, Nat.reduceEqDiff, ↓reduceIte, jbd_s, jpu_e, tI0, tI1, jgd_tI, jgd_bb, tfF, ftF, jup_at, jup_oc, jup_ok, hN, ld_30]
      rw [if_neg h1]
      exact e
theorem e_ofW {N kk : Nat} {v : Int32} {m : jMem} (hN : m 29 15 = nI N) (h30 : N ≤ 30) (hkk : kk < 100) : f_L_ofWriter v (nI kk) m = some (kthS (fun l => decide (m 30 l = v)) kk N, m) := by
  unfold f_L_ofWriter
  simp only [lits, negs]
  have e := lp_ofW (v := v) (kY := fun w3 m2 => some (w3, m2)) (kN := fun m4 => some (nM, m4)) hN h30 hkk N 5000 0 (by omega) (by omega) rfl
  rw [show fb_ct (fun l => decide (m 30 l = v)) 0 = 0 from rfl] at e
  rw [e]
  split
  · rename_i h; rw [h]
  · rfl
theorem lp_lettO {N kk : Nat} {v : Int32} {kY : Int32 → jMem → Option (Int32 × jMem)} {kN : jMem → Option (Int32 × jMem)} {m : jMem} (hN : m 109 33 = nI N) (h30 : N ≤ 30) (hkk : kk < 100) : ∀ (d n i : Nat), i + d = N → d < n → kthS (fun l => decide (m 121 l = v)) kk i = nM → lp_M_letterOf_5 v (nI kk) kY kN n (nI (fb_ct (fun l => decide (m 121 l = v)) i)) (nI i) m = if kthS (fun l => decide (m 121 l = v)) kk N = nM then kN m else kY (kthS (fun l => decide (m 121 l = v)) kk N) m := by
  intro d
  induction d with
  | zero =>
    intro n i h hn h0
    obtain ⟨n, rfl⟩ := ex_succ hn
    have e : i = N := by omega
    subst e
    unfold lp_M_letterOf_5
    simp (disch := omega) only [lits, negs, nI_add, nn1, leT, leF, ltT, ltF, eqF, mF1, mF2, mF3, mF4, mF5, mF6, mTT, eq_self, Nat.reduceEqDiff, ↓reduceIte, jbd_s, jpu_e, tI0, tI1, jgd_tI, jgd_bb, tfF, ftF, jup_at, jup_oc, jup_ok, hN, h0]
  | succ d ih =>
    intro n i h hn h0
    obtain ⟨n, rfl⟩ := ex_succ hn
    have hc := fb_ct_le (fun l => decide (m 121 l = v)) i
    unfold lp_M_letterOf_5
    by_cases h1 : m 121 i = v
    · by_cases h2 : fb_ct (fun l => decide (m 121 l = v)) i + 1 = kk
      · rw [kthS_at (p := fun l => decide (m 121 l = v)) (k := kk) (decide_eq_true h1) h2 (by omega : i < N)]
        simp (disch := omega) only [lits, negs, nI_add, nn1, leT, leF, ltT, ltF, eqF, mF1, mF2, mF3, mF4, mF5, mF6, mTT, eq_self, Nat.reduceEqDiff, ↓reduceIte, jbd_s, jpu_e, tI0, tI1, jgd_tI, jgd_bb, tfF, ftF, jup_at, jup_oc, jup_ok, hN, ld_121, h1, h2, Nat.add_zero]
      · have e := ih n (i + 1) (by omega) (by omega) (by
          rw [kthS_succ]
          show (if (decide (m 121 i = v) && _) = true then _ else _) = _
          rw [decide_eq_false h2, Bool.and_false, if_neg (by decide)]; exact h0)
        rw [fb_ct_succ] at e
        simp only [decide_eq_true h1, if_pos] at e
        simp (disch := omega) only [lits, negs, nI_add, nn1, leT, leF, ltT, ltF, eqF, mF1, mF2, mF3, mF4, mF5, mF6, mTT, eq_self, Nat.reduceEqDiff, ↓reduceIte, jbd_s, jpu_e, tI0, tI1, jgd_tI, jgd_bb, tfF, ftF, jup_at, jup_oc, jup_ok, hN, ld_121, h1, Nat.add_zero]
        exact e
    · have e := ih n (i + 1) (by omega) (by omega) (by
        rw [kthS_succ]
        show (if (decide (m 121 i = v) && _) = true then _ else _) = _
        rw [decide_eq_false h1, Bool.false_and, if_neg (by decide)]; exact h0)
      rw [fb_ct_succ] at e
      simp only [decide_eq_false h1, if_neg (by decide : ¬ false = true), Nat.add_zero] at e
      simp (disch := omega) only [lits, negs, nI_add, nn1, leT, leF, ltT, ltF, eqF, mF1, mF2, mF3, mF4, mF5, mF6, mTT, eq_self, Nat.reduceEqDiff, ↓reduceIte, jbd_s, jpu_e, tI0, tI1, jgd_tI, jgd_bb, tfF, ftF, jup_at, jup_oc, jup_ok, hN, ld_121, Nat.add_zero]
      rw [if_neg h1]
      by_cases h3 : fb_ct (fun l => decide (m 121 l = v)) i = kk
      · simp (disch := omega) only [lits, negs, nI_add, nn1, leT, leF, ltT, ltF, eqF, mF1, mF2, mF3, mF4, mF5, mF6, mTT, eq_self, Nat.reduceEqDiff, ↓reduceIte, jbd_s, jpu_e, tI0, tI1, jgd_tI, jgd_bb, tfF, ftF, jup_at, jup_oc, jup_ok, h3]
        rw [h3] at e
        rw [if_neg h1]
        exact e
      · simp (disch := omega) only [lits, negs, nI_add, nn1, leT, leF, ltT, ltF, eqF, mF1, mF2, mF3, mF4, mF5, mF6, mTT, eq_self, Nat.reduceEqDiff, ↓reduceIte, jbd_s, jpu_e, tI0, tI1, jgd_tI, jgd_bb, tfF, ftF, jup_at, jup_oc, jup_ok]
        exact e
theorem e_lettO {N kk : Nat} {v : Int32} {m : jMem} (hN : m 109 33 = nI N) (h30 : N ≤ 30) (hkk : kk < 100) : f_M_letterOf v (nI kk) m = some (kthS (fun l => decide (m 121 l = v)) kk N, m) := by
  unfold f_M_letterOf
  simp only [lits, negs]
  have e := lp_lettO (v := v) (kY := fun w3 m2 => some (w3, m2)) (kN := fun m4 => some (nM, m4)) hN h30 hkk N 5000 0 (by omega) (by omega) rfl
  rw [show fb_ct (fun l => decide (m 121 l = v)) 0 = 0 from rfl] at e
  rw [e]
  split
  · rename_i h; rw [h]
  · rfl
/-- does a letter bear more than the list -/
def moreP (P W : Nat → Int32) (x : Int32) (l u : Nat) : Bool := decide (lsN x u < numS P W l (nI u))
def moreS (P W : Nat → Int32) (x : Int32) (l : Nat) : Bool := exS (moreP P W x l) 6
theorem lp_bears {N l : Nat} {x : Int32} {kY kN : jMem → Option (Int32 × jMem)} {m : jMem} (h : LN N m) (hl : l < N) : ∀ (d n i : Nat), i + d = 6 → d < n → exS (moreP (m 37) (m 30) x l) i = false → lp_U_bearsMore_2 (nI l) x kY kN n (nI i) m = if moreS (m 37) (m 30) x l = true then kY m else kN m := by
  have h30 := h.1
  intro d
  induction d with
  | zero =>
    intro n i h hn h0
    obtain ⟨n, rfl⟩ := ex_succ hn
    have e : i = 6 := by omega
    subst e
    unfold lp_U_bearsMore_2 moreS
    simp (disch := omega) only [lits, negs, nI_add, nn1, leT, leF, ltT, ltF, eqF, mF1, mF2, mF3, mF4, mF5, mF6, mTT, eq_self, Nat.reduceEqDiff, ↓reduceIte, jbd_s, jpu_e, tI0, tI1, jgd_tI, jgd_bb, tfF, ftF, jup_at, jup_oc, jup_ok, h0]
  | succ d ih =>
    intro n i h9 hn h0
    obtain ⟨n, rfl⟩ := ex_succ hn
    have l1 := (lsN_e x i).2
    have l2 := numS_le (m 37) (m 30) l (nI i)
    unfold lp_U_bearsMore_2
    by_cases q : lsN x i < numS (m 37) (m 30) l (nI i)
    · have hp : moreP (m 37) (m 30) x l i = true := decide_eq_true q
      rw [show moreS (m 37) (m 30) x l = true from exS_mono (by omega : i < 6) hp]
      simp (disch := omega) only [lits, negs, nI_add, nn1, leT, leF, ltT, ltF, eqF, mF1, mF2, mF3, mF4, mF5, mF6, mTT, eq_self, Nat.reduceEqDiff, ↓reduceIte, jbd_s, jpu_e, tI0, tI1, jgd_tI, jgd_bb, tfF, ftF, jup_at, jup_oc, jup_ok, e_numberFor h, e_numberIn]
    · have hp : moreP (m 37) (m 30) x l i = false := decide_eq_false q
      have e := ih n (i + 1) (by omega) (by omega) (by rw [exS_succ, h0, hp]; rfl)
      simp (disch := omega) only [lits, negs, nI_add, nn1, leT, leF, ltT, ltF, eqF, mF1, mF2, mF3, mF4, mF5, mF6, mTT, eq_self, Nat.reduceEqDiff, ↓reduceIte, jbd_s, jpu_e, tI0, tI1, jgd_tI, jgd_bb, tfF, ftF, jup_at, jup_oc, jup_ok, e_numberFor h, e_numberIn]
      exact e
theorem e_bearsMore {N l : Nat} {x : Int32} {m : jMem} (h : LN N m) (hl : l < N) : f_U_bearsMore (nI l) x m = some (tI (moreS (m 37) (m 30) x l), m) := by
  unfold f_U_bearsMore
  simp only [lits]
  rw [lp_bears (kY := fun m5 => some (nI 1, m5)) (kN := fun m5 => some (nI 0, m5)) h hl 6 5000 0 (by omega) (by omega) rfl]
  cases moreS (m 37) (m 30) x l <;> rfl
theorem lp_Mmore {l : Nat} {x : Int32} {kY kN : jMem → Option (Int32 × jMem)} {m : jMem} (hl : l < 30) : ∀ (d n i : Nat), i + d = 6 → d < n → exS (moreP (m 128) (m 121) x l) i = false → lp_M_isMore_2 (nI l) x kY kN n (nI i) m = if moreS (m 128) (m 121) x l = true then kY m else kN m := by
  intro d
  induction d with
  | zero =>
    intro n i h hn h0
    obtain ⟨n, rfl⟩ := ex_succ hn
    have e : i = 6 := by omega
    subst e
    unfold lp_M_isMore_2 moreS
    simp (disch := omega) only [lits, negs, nI_add, nn1, leT, leF, ltT, ltF, eqF, mF1, mF2, mF3, mF4, mF5, mF6, mTT, eq_self, Nat.reduceEqDiff, ↓reduceIte, jbd_s, jpu_e, tI0, tI1, jgd_tI, jgd_bb, tfF, ftF, jup_at, jup_oc, jup_ok, h0]
  | succ d ih =>
    intro n i h9 hn h0
    obtain ⟨n, rfl⟩ := ex_succ hn
    have l1 := (lsN_e x i).2
    have l2 := numS_le (m 128) (m 121) l (nI i)
    unfold lp_M_isMore_2
    by_cases q : lsN x i < numS (m 128) (m 121) l (nI i)
    · have hp : moreP (m 128) (m 121) x l i = true := decide_eq_true q
      rw [show moreS (m 128) (m 121) x l = true from exS_mono (by omega : i < 6) hp]
      simp (disch := omega) only [lits, negs, nI_add, nn1, leT, leF, ltT, ltF, eqF, mF1, mF2, mF3, mF4, mF5, mF6, mTT, eq_self, Nat.reduceEqDiff, ↓reduceIte, jbd_s, jpu_e, tI0, tI1, jgd_tI, jgd_bb, tfF, ftF, jup_at, jup_oc, jup_ok, e_Mnum, e_Mlisted]
    · have hp : moreP (m 128) (m 121) x l i = false := decide_eq_false q
      have e := ih n (i + 1) (by omega) (by omega) (by rw [exS_succ, h0, hp]; rfl)
      simp (disch := omega) only [lits, negs, nI_add, nn1, leT, leF, ltT, ltF, eqF, mF1, mF2, mF3, mF4, mF5, mF6, mTT, eq_self, Nat.reduceEqDiff, ↓reduceIte, jbd_s, jpu_e, tI0, tI1, jgd_tI, jgd_bb, tfF, ftF, jup_at, jup_oc, jup_ok, e_Mnum, e_Mlisted]
      exact e
theorem e_Mmore {l : Nat} {x : Int32} {m : jMem} (hl : l < 30) : f_M_isMore (nI l) x m = some (tI (moreS (m 128) (m 121) x l), m) := by
  unfold f_M_isMore
  simp only [lits]
  rw [lp_Mmore (kY := fun m5 => some (nI 1, m5)) (kN := fun m5 => some (nI 0, m5)) hl 6 5000 0 (by omega) (by omega) rfl]
  cases moreS (m 128) (m 121) x l <;> rfl
