/-! feed -/
def byt (v : Int32) (j : Nat) : Int32 := (v >>> (nI (24 - 8 * j) &&& nI 31)) &&& nI 255
theorem byt_lt (v : Int32) (j : Nat) : ∃ b, b < 256 ∧ byt v j = nI b := by
  obtain ⟨b, hb, e⟩ := pk_andE (v >>> (nI (24 - 8 * j) &&& nI 31)) (m := nI 255) 8 (by decide)
  exact ⟨b, by omega, e⟩
theorem m8a : nI 24 + -(nI 8) = nI 16 ∧ nI 16 + -(nI 8) = nI 8 ∧ nI 8 + -(nI 8) = nI 0 := by decide
theorem m8b : (nI 0 + -(nI 8) < nI 0) = True := by decide
theorem e_putBytes {t : Nat} {v : Int32} {m : jMem} (ht : m 1 1 = nI t) (h4 : t + 4 ≤ 400) : ∃ m', f_C_putBytes v m = some ((), m') ∧ m' 1 1 = nI (t + 4) ∧ (∀ i, m' 2 i = if t ≤ i ∧ i < t + 4 then byt v (i - t) else m 2 i) ∧ ∀ c k, c ≠ 2 → ¬ (c = 1 ∧ k = 1) → m' c k = m c k := by
  refine ⟨jup (jup (jup (jup (jup (jup (jup (jup m 2 t (byt v 0)) 1 1 (nI (t + 1))) 2 (t + 1) (byt v 1)) 1 1 (nI (t + 1 + 1))) 2 (t + 1 + 1) (byt v 2)) 1 1 (nI (t + 1 + 1 + 1))) 2 (t + 1 + 1 + 1) (byt v 3)) 1 1 (nI (t + 1 + 1 + 1 + 1)), ?_, ?_, fun i => ?_, fun c k h1 h2 => ?_⟩
  · unfold f_C_putBytes
    simp only [lits, negs]
    have e0 : (v >>> (nI 24 &&& nI 31)) &&& nI 255 = byt v 0 := rfl
    have e1 : (v >>> (nI 16 &&& nI 31)) &&& nI 255 = byt v 1 := rfl
    have e2 : (v >>> (nI 8 &&& nI 31)) &&& nI 255 = byt v 2 := rfl
    have e3 : (v >>> (nI 0 &&& nI 31)) &&& nI 255 = byt v 3 := rfl
    unfold lp_C_putBytes_3
    simp only [lits, negs]
    simp (disch := omega) only [lits, negs, nI_add, nn1, leT, leF, ltT, ltF, eqF, mF1, mF2, mF3, mF4, mF5, mF6, mTT, eq_self, Nat.reduceEqDiff, ↓reduceIte, ↓jbd_s, ↓jpu_e, tI0, tI1, jgd_tI, jgd_bb, tfF, ftF, jup_at, jup_oc, jup_ok, ht, ↓st_2, m8a, e0]
    unfold lp_C_putBytes_3
    simp only [lits, negs]
    simp (disch := omega) only [lits, negs, nI_add, nn1, leT, leF, ltT, ltF, eqF, mF1, mF2, mF3, mF4, mF5, mF6, mTT, eq_self, Nat.reduceEqDiff, ↓reduceIte, ↓jbd_s, ↓jpu_e, tI0, tI1, jgd_tI, jgd_bb, tfF, ftF, jup_at, jup_oc, jup_ok, ht, ↓st_2, m8a, e1]
    unfold lp_C_putBytes_3
    simp only [lits, negs]
    simp (disch := omega) only [lits, negs, nI_add, nn1, leT, leF, ltT, ltF, eqF, mF1, mF2, mF3, mF4, mF5, mF6, mTT, eq_self, Nat.reduceEqDiff, ↓reduceIte, ↓jbd_s, ↓jpu_e, tI0, tI1, jgd_tI, jgd_bb, tfF, ftF, jup_at, jup_oc, jup_ok, ht, ↓st_2, m8a, e2]
    unfold lp_C_putBytes_3
    simp only [lits, negs]
    simp (disch := omega) only [lits, negs, nI_add, nn1, leT, leF, ltT, ltF, eqF, mF1, mF2, mF3, mF4, mF5, mF6, mTT, eq_self, Nat.reduceEqDiff, ↓reduceIte, ↓jbd_s, ↓jpu_e, tI0, tI1, jgd_tI, jgd_bb, tfF, ftF, jup_at, jup_oc, jup_ok, ht, ↓st_2, m8a, e3]
    unfold lp_C_putBytes_3
    simp only [lits, negs]
    simp (disch := omega) only [lits, negs, nI_add, nn1, leT, leF, ltT, ltF, eqF, mF1, mF2, mF3, mF4, mF5, mF6, mTT, eq_self, Nat.reduceEqDiff, ↓reduceIte, ↓jbd_s, ↓jpu_e, tI0, tI1, jgd_tI, jgd_bb, tfF, ftF, jup_at, jup_oc, jup_ok, m8b]
  · simp (disch := omega) only [lits, negs, nI_add, nn1, leT, leF, ltT, ltF, eqF, mF1, mF2, mF3, mF4, mF5, mF6, mTT, eq_self, Nat.reduceEqDiff, ↓reduceIte, jbd_s, jpu_e, tI0, tI1, jgd_tI, jgd_bb, tfF, ftF, jup_at, jup_oc, jup_ok]
  · by_cases h0 : i = t
    · subst h0
      rw [if_pos ⟨by omega, by omega⟩, show i - i = 0 by omega]
      simp (disch := omega) only [lits, negs, nI_add, nn1, leT, leF, ltT, ltF, eqF, mF1, mF2, mF3, mF4, mF5, mF6, mTT, eq_self, Nat.reduceEqDiff, ↓reduceIte, jbd_s, jpu_e, tI0, tI1, jgd_tI, jgd_bb, tfF, ftF, jup_at, jup_oc, jup_ok]
    · by_cases h1 : i = t + 1
      · subst h1
        rw [if_pos ⟨by omega, by omega⟩, show t + 1 - t = 1 by omega]
        simp (disch := omega) only [lits, negs, nI_add, nn1, leT, leF, ltT, ltF, eqF, mF1, mF2, mF3, mF4, mF5, mF6, mTT, eq_self, Nat.reduceEqDiff, ↓reduceIte, jbd_s, jpu_e, tI0, tI1, jgd_tI, jgd_bb, tfF, ftF, jup_at, jup_oc, jup_ok]
      · by_cases h2 : i = t + 1 + 1
        · subst h2
          rw [if_pos ⟨by omega, by omega⟩, show t + 1 + 1 - t = 2 by omega]
          simp (disch := omega) only [lits, negs, nI_add, nn1, leT, leF, ltT, ltF, eqF, mF1, mF2, mF3, mF4, mF5, mF6, mTT, eq_self, Nat.reduceEqDiff, ↓reduceIte, jbd_s, jpu_e, tI0, tI1, jgd_tI, jgd_bb, tfF, ftF, jup_at, jup_oc, jup_ok]
        · by_cases h3 : i = t + 1 + 1 + 1
          · subst h3
            rw [if_pos ⟨by omega, by omega⟩, show t + 1 + 1 + 1 - t = 3 by omega]
            simp (disch := omega) only [lits, negs, nI_add, nn1, leT, leF, ltT, ltF, eqF, mF1, mF2, mF3, mF4, mF5, mF6, mTT, eq_self, Nat.reduceEqDiff, ↓reduceIte, jbd_s, jpu_e, tI0, tI1, jgd_tI, jgd_bb, tfF, ftF, jup_at, jup_oc, jup_ok]
          · rw [if_neg (by omega)]
            simp (disch := omega) only [lits, negs, nI_add, nn1, leT, leF, ltT, ltF, eqF, mF1, mF2, mF3, mF4, mF5, mF6, mTT, eq_self, Nat.reduceEqDiff, ↓reduceIte, jbd_s, jpu_e, tI0, tI1, jgd_tI, jgd_bb, tfF, ftF, jup_at, jup_oc, jup_ok]
  · have hk : ∀ (M : jMem) (x : Int32), jup M 1 1 x c k = M c k := fun M x => if_neg h2
    simp only [hk, jup_ne h1]
theorem lp_Mfeed {t : Nat} {a b c d e : Int32} {f : Nat → Int32} {k : jMem → Option (Int32 × jMem)} (ht : t + 20 ≤ 400) (hf : ∀ j, j < 20 → f j = byt (if j < 4 then a else if j < 8 then b else if j < 12 then c else if j < 16 then d else e) (j % 4)) : ∀ (n1 n i : Nat) (m : jMem), i + n1 = 20 → n1 < n → m 109 2 = nI t → ∃ m', lp_M_feed_20 a b c d e k n (nI i) m = k m' ∧ (∀ j, m' 110 j = if t + i ≤ j ∧ j < t + 20 then f (j - t) else m 110 j) ∧ ∀ c, c ≠ 110 → m' c = m c := by
  intro n1
  induction n1 with
  | zero =>
    intro n i m h hn hm
    obtain ⟨n, rfl⟩ := ex_succ hn
    refine ⟨m, ?_, fun j => ?_, fun _ _ => rfl⟩
    · rw [show i = 20 by omega]
      unfold lp_M_feed_20
      simp (disch := omega) only [lits, negs, nI_add, nn1, leT, leF, ltT, ltF, eqF, mF1, mF2, mF3, mF4, mF5, mF6, mTT, eq_self, Nat.reduceEqDiff, ↓reduceIte, jbd_s, jpu_e, tI0, tI1, jgd_tI, jgd_bb, tfF, ftF, jup_at, jup_oc, jup_ok]
    · rw [if_neg (by omega)]
  | succ n1 ih =>
    intro n i m h hn hm
    obtain ⟨n, rfl⟩ := ex_succ hn
    obtain ⟨m', e1, g1, g2⟩ := ih n (i + 1) (jup m 110 (t + i) (f i)) (by omega) (by omega) (by rw [jup_oc (by omega)]; exact hm)
    refine ⟨m', ?_, fun j => ?_, fun c hc => by rw [g2 c hc, jup_oc hc]⟩
    · have hfi := hf i (by omega)
      have hsh : ∀ v : Int32, (v >>> ((nI 24 - nI 8 * (nI i - nI i / nI 4 * nI 4)) &&& nI 31)) &&& nI 255 = byt v (i % 4) := fun v => by
        rw [pk_rem (by omega) (by omega) (by omega), pk_mul, pk_sub (by omega)]
        rfl
      unfold lp_M_feed_20
      simp only [lits, negs]
      rcases (by omega : i < 4 ∨ (4 ≤ i ∧ i < 8) ∨ (8 ≤ i ∧ i < 12) ∨ (12 ≤ i ∧ i < 16) ∨ 16 ≤ i) with q | q | q | q | q
      · rw [if_pos q] at hfi
        simp (disch := omega) only [lits, negs, nI_add, nn1, leT, leF, ltT, ltF, eqF, mF1, mF2, mF3, mF4, mF5, mF6, mTT, eq_self, Nat.reduceEqDiff, ↓reduceIte, jbd_s, jpu_e, tI0, tI1, jgd_tI, jgd_bb, tfF, ftF, jup_at, jup_oc, jup_ok, hm, hsh, ← hfi, st_110]
        exact e1
      · rw [if_neg (by omega), if_pos (by omega)] at hfi
        simp (disch := omega) only [lits, negs, nI_add, nn1, leT, leF, ltT, ltF, eqF, mF1, mF2, mF3, mF4, mF5, mF6, mTT, eq_self, Nat.reduceEqDiff, ↓reduceIte, jbd_s, jpu_e, tI0, tI1, jgd_tI, jgd_bb, tfF, ftF, jup_at, jup_oc, jup_ok, hm, hsh, ← hfi, st_110]
        exact e1
      · rw [if_neg (by omega), if_neg (by omega), if_pos (by omega)] at hfi
        simp (disch := omega) only [lits, negs, nI_add, nn1, leT, leF, ltT, ltF, eqF, mF1, mF2, mF3, mF4, mF5, mF6, mTT, eq_self, Nat.reduceEqDiff, ↓reduceIte, jbd_s, jpu_e, tI0, tI1, jgd_tI, jgd_bb, tfF, ftF, jup_at, jup_oc, jup_ok, hm, hsh, ← hfi, st_110]
        exact e1
      · rw [if_neg (by omega), if_neg (by omega), if_neg (by omega), if_pos (by omega)] at hfi
        simp (disch := omega) only [lits, negs, nI_add, nn1, leT, leF, ltT, ltF, eqF, mF1, mF2, mF3, mF4, mF5, mF6, mTT, eq_self, Nat.reduceEqDiff, ↓reduceIte, jbd_s, jpu_e, tI0, tI1, jgd_tI, jgd_bb, tfF, ftF, jup_at, jup_oc, jup_ok, hm, hsh, ← hfi, st_110]
        exact e1
      · rw [if_neg (by omega), if_neg (by omega), if_neg (by omega), if_neg (by omega)] at hfi
        simp (disch := omega) only [lits, negs, nI_add, nn1, leT, leF, ltT, ltF, eqF, mF1, mF2, mF3, mF4, mF5, mF6, mTT, eq_self, Nat.reduceEqDiff, ↓reduceIte, jbd_s, jpu_e, tI0, tI1, jgd_tI, jgd_bb, tfF, ftF, jup_at, jup_oc, jup_ok, hm, hsh, ← hfi, st_110]
        exact e1
    · rw [g1]
      by_cases q : j = t + i
      · subst q
        rw [if_neg (by omega), jup_at, if_pos ⟨by omega, by omega⟩, show t + i - t = i by omega]
      · by_cases q2 : t + i ≤ j ∧ j < t + 20
        · rw [if_pos ⟨by omega, q2.2⟩, if_pos q2]
        · rw [if_neg (by omega), if_neg q2, jup_ok q]
def fdF (a b c d e : Int32) (j : Nat) : Int32 := byt (if j < 4 then a else if j < 8 then b else if j < 12 then c else if j < 16 then d else e) (j % 4)
theorem o_feed {N C : Nat} {m : jMem} (r : Rel N C m) (a b c d e : Int32) : Ost (f_C_feed a b c d e) (f_M_feed a b c d e) m := by
  obtain ⟨t, ht, t1, t2, t3, t4⟩ := r.2.2.1
  by_cases h : t + 20 ≤ 400
  · obtain ⟨m1, e1, a1, b1, c1⟩ := e_putBytes (v := a) t1 (by omega)
    obtain ⟨m2, e2, a2, b2, c2⟩ := e_putBytes (v := b) a1 (by omega)
    obtain ⟨m3, e3, a3, b3, c3⟩ := e_putBytes (v := c) a2 (by omega)
    obtain ⟨m4, e4, a4, b4, c4⟩ := e_putBytes (v := d) a3 (by omega)
    obtain ⟨m5, e5, a5, b5, c5⟩ := e_putBytes (v := e) a4 (by omega)
    have hall : ∀ i, m5 2 i = if t ≤ i ∧ i < t + 20 then fdF a b c d e (i - t) else m 2 i := fun i => by
      rw [b5, b4, b3, b2, b1]
      unfold fdF
      rcases (by omega : i < t ∨ (t ≤ i ∧ i < t + 4) ∨ (t + 4 ≤ i ∧ i < t + 8) ∨ (t + 8 ≤ i ∧ i < t + 12) ∨ (t + 12 ≤ i ∧ i < t + 16) ∨ (t + 16 ≤ i ∧ i < t + 20) ∨ t + 20 ≤ i) with q | q | q | q | q | q | q
      · rw [if_neg (by omega), if_neg (by omega), if_neg (by omega), if_neg (by omega), if_neg (by omega), if_neg (by omega)]
      · rw [if_neg (by omega), if_neg (by omega), if_neg (by omega), if_neg (by omega), if_pos (by omega), if_pos (by omega), if_pos (by omega), Nat.mod_eq_of_lt (by omega)]
      · rw [if_neg (by omega), if_neg (by omega), if_neg (by omega), if_pos (by omega), if_pos (by omega), if_neg (by omega), if_pos (by omega), show (i - t) % 4 = i - (t + 4) by omega]
      · rw [if_neg (by omega), if_neg (by omega), if_pos (by omega), if_pos (by omega), if_neg (by omega), if_neg (by omega), if_pos (by omega), show (i - t) % 4 = i - (t + 4 + 4) by omega]
      · rw [if_neg (by omega), if_pos (by omega), if_pos (by omega), if_neg (by omega), if_neg (by omega), if_neg (by omega), if_pos (by omega), show (i - t) % 4 = i - (t + 4 + 4 + 4) by omega]
      · rw [if_pos (by omega), if_pos (by omega), if_neg (by omega), if_neg (by omega), if_neg (by omega), if_neg (by omega), show (i - t) % 4 = i - (t + 4 + 4 + 4 + 4) by omega]
      · rw [if_neg (by omega), if_neg (by omega), if_neg (by omega), if_neg (by omega), if_neg (by omega), if_neg (by omega)]
    have hoth : ∀ c k, c ≠ 2 → ¬ (c = 1 ∧ k = 1) → m5 c k = m c k := fun c k h1 h2 => by
      rw [c5 c k h1 h2, c4 c k h1 h2, c3 c k h1 h2, c2 c k h1 h2, c1 c k h1 h2]
    have a6 : m5 1 1 = nI (t + 20) := by rw [a5]
    have eC : f_C_feed a b c d e m = some (nI (t + 20), m5) := by
      unfold f_C_feed
      simp only [lits, negs]
      simp (disch := omega) only [lits, negs, nI_add, nn1, leT, leF, ltT, ltF, eqF, mF1, mF2, mF3, mF4, mF5, mF6, mTT, eq_self, Nat.reduceEqDiff, ↓reduceIte, ↓jbd_s, ↓jpu_e, tI0, tI1, jgd_tI, jgd_bb, tfF, ftF, jup_at, jup_oc, jup_ok, t1, ↓jb e1, ↓jb e2, ↓jb e3, ↓jb e4, ↓jb e5, a6]
    obtain ⟨m6, e6, g1, g2⟩ := lp_Mfeed (a := a) (b := b) (c := c) (d := d) (e := e) (f := fdF a b c d e) (k := fun m7 => jpu m7 109 2 ((m7 109 2) + nI 20) fun m8 => some ((m8 109 2), m8)) h (fun _ _ => rfl) 20 5000 0 (jup m5 109 0 (nI 0)) (by omega) (by omega) (by rw [jup_ok (by omega), hoth 109 2 (by omega) (by omega)]; exact t2)
    have t5 : m5 109 2 = nI t := by rw [hoth 109 2 (by omega) (by omega)]; exact t2
    have t6 : m6 109 2 = nI t := by rw [g2 109 (by omega), jup_ok (by omega)]; exact t5
    have eM : f_M_feed a b c d e m5 = some (nI (t + 20), jup m6 109 2 (nI (t + 20))) := by
      unfold f_M_feed
      simp only [lits, negs]
      rw [jpu_e, if_pos (by rw [jup_ok (by omega), t5]; exact nI_le (by omega) (by omega)), e6]
      simp (disch := omega) only [lits, negs, nI_add, nn1, leT, leF, ltT, ltF, eqF, mF1, mF2, mF3, mF4, mF5, mF6, mTT, eq_self, Nat.reduceEqDiff, ↓reduceIte, jbd_s, jpu_e, tI0, tI1, jgd_tI, jgd_bb, tfF, ftF, jup_at, jup_oc, jup_ok, t6]
    have fr := fr_two (fr_C_feed eC) (fr_M_feed eM)
    refine Ost.of (N := N) (C := C) eC eM ⟨RL_fr fr rfl r.1, RB_fr fr rfl r.2.1, ?_, RD_fr fr rfl r.2.2.2.1, RW_fr fr rfl r.2.2.2.2.1, RS_fr fr rfl r.2.2.2.2.2.1, RC_fr fr rfl r.2.2.2.2.2.2.1, RK_fr fr rfl r.2.2.2.2.2.2.2.1, RH_fr fr rfl r.2.2.2.2.2.2.2.2.1, RP_fr fr rfl r.2.2.2.2.2.2.2.2.2.1, RX_fr fr rfl r.2.2.2.2.2.2.2.2.2.2⟩
    have r2 : jup m6 109 2 (nI (t + 20)) 2 = m5 2 := by rw [jup_oc (by omega), g2 2 (by omega), jup_oc (by omega)]
    refine ⟨t + 20, h, ?_, jup_at, ?_, fun i => ?_⟩
    · rw [jup_oc (by omega), g2 1 (by omega), jup_oc (by omega)]; exact a6
    · rw [r2, jup_oc (by omega)]
      funext i
      rw [g1, hall, jup_oc (by omega), show m5 110 i = m 110 i from hoth 110 i (by omega) (by omega), t3, Nat.add_zero]
    · rw [r2, hall]
      split
      · exact byt_lt _ _
      · exact t4 i
  · refine Ost.no (v := nM) r ?_ ?_
    · unfold f_C_feed
      simp (disch := omega) only [lits, negs, nI_add, nn1, leT, leF, ltT, ltF, eqF, mF1, mF2, mF3, mF4, mF5, mF6, mTT, eq_self, Nat.reduceEqDiff, ↓reduceIte, jbd_s, jpu_e, tI0, tI1, jgd_tI, jgd_bb, tfF, ftF, jup_at, jup_oc, jup_ok, t1]
    · unfold f_M_feed
      simp (disch := omega) only [lits, negs, nI_add, nn1, leT, leF, ltT, ltF, eqF, mF1, mF2, mF3, mF4, mF5, mF6, mTT, eq_self, Nat.reduceEqDiff, ↓reduceIte, jbd_s, jpu_e, tI0, tI1, jgd_tI, jgd_bb, tfF, ftF, jup_at, jup_oc, jup_ok, t2]
