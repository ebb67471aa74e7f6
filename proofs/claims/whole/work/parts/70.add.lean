/-! a letter is added: the class -/
theorem aO_jup {p : Nat → Bool} {X : jMem} {c N : Nat} {v : Int32} : aO p (jup X c N v c) N = aO p (X c) N := aO_cong (fun _ _ => rfl) (fun l hl _ => jup_ok (by omega))
def addS (to : Int32) (N : Nat) : Nat → jMem → jMem
  | 0, m => m
  | d + 1, m => addS to N d (if bt to (6 - (d + 1)) then jup m 43 (6 - (d + 1)) (m 43 (6 - (d + 1)) ||| sb N) else m)
theorem addS_s (to : Int32) (N d : Nat) (m : jMem) : addS to N (d + 1) m = addS to N d (if bt to (6 - (d + 1)) then jup m 43 (6 - (d + 1)) (m 43 (6 - (d + 1)) ||| sb N) else m) := rfl
theorem addS_oc {to : Int32} {N c : Nat} (hc : c ≠ 43) : ∀ {d : Nat} {m : jMem}, addS to N d m c = m c
  | 0, _ => rfl
  | d + 1, m => by
    rw [addS_s, addS_oc hc]
    split
    · exact jup_oc hc
    · rfl
theorem addS_at {to : Int32} {N v : Nat} : ∀ {d : Nat} {m : jMem}, d ≤ 6 → v < 6 → addS to N d m 43 v = if 6 - d ≤ v ∧ bt to v = true then m 43 v ||| sb N else m 43 v
  | 0, m, _, hv => by
    rw [if_neg (by omega)]
    rfl
  | d + 1, m, hd, hv => by
    rw [addS_s, addS_at (by omega) hv]
    by_cases e : v = 6 - (d + 1)
    · rw [← e, if_neg (by omega)]
      cases hb : bt to v
      · rw [if_neg (by decide), if_neg (by simp)]
      · rw [if_pos rfl, if_pos ⟨Nat.le_refl _, rfl⟩, jup_at]
    · have e2 : (if bt to (6 - (d + 1)) = true then jup m 43 (6 - (d + 1)) (m 43 (6 - (d + 1)) ||| sb N) else m) 43 v = m 43 v := by
        split
        · exact jup_ok e
        · rfl
      rw [e2]
      by_cases q : 6 - d ≤ v ∧ bt to v = true
      · rw [if_pos q, if_pos ⟨by omega, q.2⟩]
      · rw [if_neg q, if_neg (fun z => q ⟨by omega, z.2⟩)]
theorem lp_add {N : Nat} {to : Int32} {k : jMem → Option (Int32 × jMem)} (hN : N < 30) : ∀ (d n i : Nat) (m : jMem), i + d = 6 → d < n → lp_L_add_231 to (nI N) k n (nI i) m = k (addS to N d m) := by
  intro d
  induction d with
  | zero =>
    intro n i m h hn
    obtain ⟨n, rfl⟩ := ex_succ hn
    rw [show i = 6 by omega]
    unfold lp_L_add_231 addS
    simp (disch := omega) only [lits, negs, nI_add, nn1, leT, leF, ltT, ltF, eqF, mF1, mF2, mF3, mF4, mF5, mF6, mTT, eq_self, Nat.reduceEqDiff, ↓reduceIte, jbd_s, jpu_e, tI0, tI1, jgd_tI, jgd_bb, tfF, ftF, jup_at, jup_oc, jup_ok]
  | succ d ih =>
    intro n i m h hn
    obtain ⟨n, rfl⟩ := ex_succ hn
    rw [addS_s, show 6 - (d + 1) = i by omega]
    unfold lp_L_add_231
    cases hb : bt to i
    · simp (disch := omega) only [lits, negs, nI_add, nn1, leT, leF, ltT, ltF, eqF, mF1, mF2, mF3, mF4, mF5, mF6, mTT, eq_self, Nat.reduceEqDiff, ↓reduceIte, jbd_s, jpu_e, tI0, tI1, jgd_tI, jgd_bb, tfF, ftF, jup_at, jup_oc, jup_ok, e_isIn, hb]
      exact ih n (i + 1) m (by omega) (by omega)
    · simp (disch := omega) only [lits, negs, nI_add, nn1, leT, leF, ltT, ltF, eqF, mF1, mF2, mF3, mF4, mF5, mF6, mTT, eq_self, Nat.reduceEqDiff, ↓reduceIte, jbd_s, jpu_e, tI0, tI1, jgd_tI, jgd_bb, tfF, ftF, jup_at, jup_oc, jup_ok, e_isIn, hb, ld_43, e_bit, st_43]
      exact ih n (i + 1) _ (by omega) (by omega)
def adA (m : jMem) (N : Nat) (w d : Nat) (kd to one oth K : Int32) : jMem := jup (jup (jup (jup (jup (jup (jup m 30 N (nI w)) 31 N (nI d)) 32 N kd) 33 N to) 34 N one) 35 N oth) 36 N K
def adB (m : jMem) (N : Nat) (P Q E T : Int32) (s : Nat) : jMem := jup (jup (jup (jup (jup m 37 N P) 38 N Q) 39 N E) 40 N T) 41 N (nI s)
def adC (m : jMem) (N w : Nat) (to b l : Int32) : jMem := jup (jup (addS to N 6 (jup m 42 w b)) 29 16 l) 29 15 (nI (N + 1))
/-- the new letter's past, what it cites, its list, what that is told, its sum -/
def nwP (m : jMem) (N : Nat) (K : Int32) : Int32 := K ||| aO (bt K) (m 37) N
def nwQ (m : jMem) (N : Nat) (one oth : Int32) : Int32 := ansS one oth ||| aO (bt (ansS one oth)) (m 38) N
def nwE (m : jMem) (N : Nat) (K : Int32) : Int32 := nwP m N K &&& (aO (bt (nwP m N K)) (m 37) N ^^^ nM)
def nwT (m : jMem) (N : Nat) (K : Int32) : Int32 := nwE m N K ||| aO (bt (nwE m N K)) (m 40) N
def nwS (m : jMem) (N : Nat) (K : Int32) : Nat := 1 + mxS (bt (nwP m N K)) (sumV m) N
def adM (m : jMem) (N w d : Nat) (kd to one oth K : Int32) : jMem := adC (adB (adA m N w d kd to one oth K) N (nwP m N K) (nwQ m N one oth) (nwE m N K) (nwT m N K) (nwS m N K)) N w to (m 42 w ||| sb N) (m 29 16 ||| sb N)
theorem e_add {N w d : Nat} {kd to one oth K : Int32} {m : jMem} (hN : m 29 15 = nI N) (h30 : N < 30) (hw : w < 6) (hs : ∀ l, l < N → m 41 l = nI (sumV m l) ∧ sumV m l ≤ 1000) : f_L_add (nI w) (nI d) kd to one oth K m = some (nI N, adM m N w d kd to one oth K) := by
  have hal : ∀ (v : Int32) (M : jMem), M 29 15 = nI N → f_L_allOf v 37 M = some (aO (bt v) (M 37) N, M) := fun v M h => e_allOf h (by omega) rfl
  have hal8 : ∀ (v : Int32) (M : jMem), M 29 15 = nI N → f_L_allOf v 38 M = some (aO (bt v) (M 38) N, M) := fun v M h => e_allOf h (by omega) rfl
  have hal0 : ∀ (v : Int32) (M : jMem), M 29 15 = nI N → f_L_allOf v 40 M = some (aO (bt v) (M 40) N, M) := fun v M h => e_allOf h (by omega) rfl
  have hgs : ∀ (v : Int32) (M : jMem), M 29 15 = nI N → M 41 = m 41 → f_L_greatestSum v M = some (nI (mxS (bt v) (sumV m) N), M) := fun v M h h2 => e_gsum h (by omega) (fun l hl => by rw [h2]; exact (hs l hl).1) (fun l hl => (hs l hl).2)
  have hlp : ∀ (k : jMem → Option (Int32 × jMem)) (M : jMem), lp_L_add_231 to (nI N) k 5000 (nI 0) M = k (addS to N 6 M) := fun k M => lp_add h30 6 5000 0 M (by omega) (by omega)
  unfold f_L_add adM adC adB adA nwS nwT nwE nwP nwQ
  simp only [lits, negs]
  simp (disch := first | omega | (simp (disch := omega) only [jup_at, jup_oc, jup_ok, hN])) only [lits, negs, nI_add, nn1, leT, leF, ltT, ltF, eqF, mF1, mF2, mF3, mF4, mF5, mF6, mTT, eq_self, Nat.reduceEqDiff, ↓reduceIte, ↓jbd_s, ↓jpu_e, tI0, tI1, jgd_tI, jgd_bb, tfF, ftF, jup_at, jup_oc, jup_ok, hN, ↓jb (e_isWriter (m := m) hw), ↓st_30, ↓st_31, ↓st_32, ↓st_33, ↓st_34, ↓st_35, ↓st_36, hal, hal8, hal0, hgs, ↓st_37, ↓st_38, ↓st_39, ↓st_40, ↓st_41, ↓ld_37, ↓ld_39, ↓ld_42, ↓st_42, e_answered, e_bit, hlp, addS_oc, aO_jup]
