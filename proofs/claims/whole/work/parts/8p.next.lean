/-! the reference's next token -/
/-- a number as the reference works it out -/
def refN (B : Nat → Nat) : Nat → Nat → Nat → Nat
  | 0, _, v => v
  | d + 1, a, v => if cD (B a) = true then refN B d (a + 1) (if v ≤ 999 then 10 * v + B a - 48 else v) else v
theorem cD_rg {c : Nat} (h : cD c = true) : 48 ≤ c ∧ c ≤ 57 := by
  unfold cD at h
  rw [Bool.and_eq_true, decide_eq_true_iff, decide_eq_true_iff] at h
  exact h
theorem refN_lt {B : Nat → Nat} : ∀ d a v, v < 10000 → refN B d a v < 10000
  | 0, _, _, h => h
  | d + 1, a, v, h => by
    unfold refN
    cases q : cD (B a)
    · rw [if_neg Bool.false_ne_true]; exact h
    · have := cD_rg q
      rw [if_pos rfl]
      exact refN_lt d (a + 1) _ (by split <;> omega)
theorem cls_ref {B : Nat → Nat} : ∀ d a v, clsN B d a (min 1000 v) = min 1000 (refN B d a v)
  | 0, _, _ => rfl
  | d + 1, a, v => by
    unfold clsN refN
    cases q : cD (B a)
    · rw [if_neg Bool.false_ne_true, if_neg Bool.false_ne_true]
    · have := cD_rg q
      rw [if_pos rfl, if_pos rfl, ← cls_ref d (a + 1)]
      congr 1
      split <;> omega
/-- what the reference makes of the token that begins at p -/
def tkM (B : Nat → Nat) (n p : Nat) (s v : Int32) : Prop :=
  (cL (B p) = true ∧ ((∃ t, t < 19 ∧ spM (wT t) B p (endF B n p - p) = true ∧ s = nI 0 ∧ v = nI t) ∨ ((∀ t, t < 19 → spM (wT t) B p (endF B n p - p) = false) ∧ s = nI 4))) ∨
  (cL (B p) = false ∧ cD (B p) = true ∧ s = nI 1 ∧ v = nI (refN B (n - p) p 0)) ∨
  (cL (B p) = false ∧ cD (B p) = false ∧ ((p + 1 < n ∧ c2 (B p) (B (p + 1)) = true ∧ s = nI 2 ∧ v = nI (if B p = 62 then 258 else if B (p + 1) = 61 then 256 else 257)) ∨
    (¬ (p + 1 < n ∧ c2 (B p) (B (p + 1)) = true) ∧ v = nI (B p) ∧ s = (if B p = 59 ∨ B p = 45 ∨ B p = 43 ∨ B p = 40 ∨ B p = 41 ∨ B p = 60 ∨ B p = 61 ∨ B p = 62 then nI 2 else nI 4))))
section NX
variable {B : Nat → Nat} {n : Nat} {M : jMem}
theorem e_MD {c : Nat} (h : c < 1000) : f_M_isDigit (nI c) M = some (tI (cD c), M) := by
  unfold f_M_isDigit cD
  by_cases h1 : 48 ≤ c
  · by_cases h2 : c ≤ 57
    · rw [decide_eq_true h1, decide_eq_true h2]; simp (disch := omega) only [lits, negs, nI_add, nn1, leT, leF, ltT, ltF, eqF, mF1, mF2, mF3, mF4, mF5, mF6, mTT, eq_self, Nat.reduceEqDiff, ↓reduceIte, jbd_s, jpu_e, tI0, tI1, jgd_tI, jgd_bb, tfF, ftF, jup_at, jup_oc, jup_ok, Bool.and_self, tI_t]
    · rw [decide_eq_true h1, decide_eq_false h2]; simp (disch := omega) only [lits, negs, nI_add, nn1, leT, leF, ltT, ltF, eqF, mF1, mF2, mF3, mF4, mF5, mF6, mTT, eq_self, Nat.reduceEqDiff, ↓reduceIte, jbd_s, jpu_e, tI0, tI1, jgd_tI, jgd_bb, tfF, ftF, jup_at, jup_oc, jup_ok, Bool.and_false, tI_f]
  · rw [decide_eq_false h1]; simp (disch := omega) only [lits, negs, nI_add, nn1, leT, leF, ltT, ltF, eqF, mF1, mF2, mF3, mF4, mF5, mF6, mTT, eq_self, Nat.reduceEqDiff, ↓reduceIte, jbd_s, jpu_e, tI0, tI1, jgd_tI, jgd_bb, tfF, ftF, jup_at, jup_oc, jup_ok, Bool.false_and, tI_f]
theorem e_MSm {c : Nat} (h : c < 1000) : f_M_isSmall (nI c) M = some (tI (cL c), M) := by
  unfold f_M_isSmall cL
  by_cases h1 : 97 ≤ c
  · by_cases h2 : c ≤ 122
    · rw [decide_eq_true h1, decide_eq_true h2]; simp (disch := omega) only [lits, negs, nI_add, nn1, leT, leF, ltT, ltF, eqF, mF1, mF2, mF3, mF4, mF5, mF6, mTT, eq_self, Nat.reduceEqDiff, ↓reduceIte, jbd_s, jpu_e, tI0, tI1, jgd_tI, jgd_bb, tfF, ftF, jup_at, jup_oc, jup_ok, Bool.and_self, tI_t]
    · rw [decide_eq_true h1, decide_eq_false h2]; simp (disch := omega) only [lits, negs, nI_add, nn1, leT, leF, ltT, ltF, eqF, mF1, mF2, mF3, mF4, mF5, mF6, mTT, eq_self, Nat.reduceEqDiff, ↓reduceIte, jbd_s, jpu_e, tI0, tI1, jgd_tI, jgd_bb, tfF, ftF, jup_at, jup_oc, jup_ok, Bool.and_false, tI_f]
  · rw [decide_eq_false h1]; simp (disch := omega) only [lits, negs, nI_add, nn1, leT, leF, ltT, ltF, eqF, mF1, mF2, mF3, mF4, mF5, mF6, mTT, eq_self, Nat.reduceEqDiff, ↓reduceIte, jbd_s, jpu_e, tI0, tI1, jgd_tI, jgd_bb, tfF, ftF, jup_at, jup_oc, jup_ok, Bool.false_and, tI_f]
theorem e_MDn : f_M_isDigit nM M = some (nI 0, M) := by
  unfold f_M_isDigit
  simp (disch := omega) only [lits, negs, nI_add, nn1, leT, leF, ltT, ltF, eqF, mF1, mF2, mF3, mF4, mF5, mF6, mTT, eq_self, Nat.reduceEqDiff, ↓reduceIte, jbd_s, jpu_e, tI0, tI1, jgd_tI, jgd_bb, tfF, ftF, jup_at, jup_oc, jup_ok]
theorem e_MSn : f_M_isSmall nM M = some (nI 0, M) := by
  unfold f_M_isSmall
  simp (disch := omega) only [lits, negs, nI_add, nn1, leT, leF, ltT, ltF, eqF, mF1, mF2, mF3, mF4, mF5, mF6, mTT, eq_self, Nat.reduceEqDiff, ↓reduceIte, jbd_s, jpu_e, tI0, tI1, jgd_tI, jgd_bb, tfF, ftF, jup_at, jup_oc, jup_ok]
theorem e_here {a : Nat} (hn4 : n ≤ 400) (h16 : M 109 16 = nI n) (h17 : M 109 17 = nI a) (ha : a < n) (hb : M 110 a = nI (B a)) : f_M_here M = some (nI (B a), M) := by
  unfold f_M_here
  simp (disch := omega) only [lits, negs, nI_add, nn1, leT, leF, ltT, ltF, eqF, mF1, mF2, mF3, mF4, mF5, mF6, mTT, eq_self, Nat.reduceEqDiff, ↓reduceIte, jbd_s, jpu_e, tI0, tI1, jgd_tI, jgd_bb, tfF, ftF, jup_at, jup_oc, jup_ok, h16, h17, ld_110, hb]
theorem e_hereN {a : Nat} (hn4 : n ≤ 400) (h16 : M 109 16 = nI n) (h17 : M 109 17 = nI a) (ha : a = n) : f_M_here M = some (nM, M) := by
  unfold f_M_here
  simp (disch := omega) only [lits, negs, nI_add, nn1, leT, leF, ltT, ltF, eqF, mF1, mF2, mF3, mF4, mF5, mF6, mTT, eq_self, Nat.reduceEqDiff, ↓reduceIte, jbd_s, jpu_e, tI0, tI1, jgd_tI, jgd_bb, tfF, ftF, jup_at, jup_oc, jup_ok, h16, h17]
theorem lp_nx0 (hn4 : n ≤ 400) : ∀ (d f a : Nat) (M : jMem), a + d = n → d < f → (∀ i, M 110 i = nI (B i) ∧ B i < 256) → M 109 16 = nI n → M 109 17 = nI a → ∃ M', (∀ k, lp_M_next_0 k f M = k M') ∧ M' 109 17 = nI (skF B n a) ∧ ∀ c k, ¬ (c = 109 ∧ k = 17) → M' c k = M c k := by
  intro d
  induction d with
  | zero =>
    intro f a M h1 h2 hB h16 h17
    obtain ⟨f, rfl⟩ := ex_succ h2
    refine ⟨M, fun k => ?_, ?_, fun c k _ => rfl⟩
    · have e := e_hereN hn4 h16 h17 (by omega)
      rw [lp_M_next_0]
      simp (disch := omega) only [lits, negs, nI_add, nn1, leT, leF, ltT, ltF, eqF, mF1, mF2, mF3, mF4, mF5, mF6, mTT, eq_self, Nat.reduceEqDiff, ↓reduceIte, jbd_s, jpu_e, tI0, tI1, jgd_tI, jgd_bb, tfF, ftF, jup_at, jup_oc, jup_ok, e]
    · unfold skF
      rw [runE_no (by omega)]
      exact h17
  | succ d ih =>
    intro f a M h1 h2 hB h16 h17
    obtain ⟨f, rfl⟩ := ex_succ h2
    obtain ⟨b1, b2⟩ := hB a
    have e := e_here hn4 h16 h17 (by omega) b1
    have hsk : skF B n a = if cW (B a) = true then skF B n (a + 1) else a := runE_at (by omega)
    cases hW : cW (B a)
    · rw [hW, if_neg Bool.false_ne_true] at hsk
      unfold cW at hW
      rw [Bool.or_eq_false_iff, decide_eq_false_iff_not, decide_eq_false_iff_not] at hW
      refine ⟨M, fun k => ?_, by rw [hsk]; exact h17, fun c k _ => rfl⟩
      rw [lp_M_next_0]
      simp (disch := omega) only [lits, negs, nI_add, nn1, leT, leF, ltT, ltF, eqF, mF1, mF2, mF3, mF4, mF5, mF6, mTT, eq_self, Nat.reduceEqDiff, ↓reduceIte, jbd_s, jpu_e, tI0, tI1, jgd_tI, jgd_bb, tfF, ftF, jup_at, jup_oc, jup_ok, e, hW.1, hW.2]
    · rw [hW, if_pos rfl] at hsk
      obtain ⟨M', e1, e2, e3⟩ := ih f (a + 1) (jup M 109 17 (nI (a + 1))) (by omega) (by omega) (fun i => by rw [jup_oc (by omega)]; exact hB i) (by rw [jup_ok (by omega)]; exact h16) jup_at
      refine ⟨M', fun k => ?_, by rw [hsk]; exact e2, fun c k hc => (e3 c k hc).trans (jup_no hc)⟩
      unfold cW at hW
      rw [Bool.or_eq_true, decide_eq_true_iff, decide_eq_true_iff] at hW
      rw [← e1 k, lp_M_next_0]
      rcases hW with z | z
      · rw [z] at e
        simp (disch := omega) only [lits, negs, nI_add, nn1, leT, leF, ltT, ltF, eqF, mF1, mF2, mF3, mF4, mF5, mF6, mTT, eq_self, Nat.reduceEqDiff, ↓reduceIte, jbd_s, jpu_e, tI0, tI1, jgd_tI, jgd_bb, tfF, ftF, jup_at, jup_oc, jup_ok, e, h17]
      · rw [z] at e
        simp (disch := omega) only [lits, negs, nI_add, nn1, leT, leF, ltT, ltF, eqF, mF1, mF2, mF3, mF4, mF5, mF6, mTT, eq_self, Nat.reduceEqDiff, ↓reduceIte, jbd_s, jpu_e, tI0, tI1, jgd_tI, jgd_bb, tfF, ftF, jup_at, jup_oc, jup_ok, e, h17]
theorem lp_nx62 (hn4 : n ≤ 400) : ∀ (d f a : Nat) (M : jMem), a + d = n → d < f → (∀ i, M 110 i = nI (B i) ∧ B i < 256) → M 109 16 = nI n → M 109 17 = nI a → ∃ M', (∀ k, lp_M_next_62 k f M = k M') ∧ M' 109 17 = nI (runE B cL n a) ∧ ∀ c k, ¬ (c = 109 ∧ k = 17) → M' c k = M c k := by
  intro d
  induction d with
  | zero =>
    intro f a M h1 h2 hB h16 h17
    obtain ⟨f, rfl⟩ := ex_succ h2
    refine ⟨M, fun k => ?_, ?_, fun c k _ => rfl⟩
    · have e := e_hereN hn4 h16 h17 (by omega)
      rw [lp_M_next_62]
      simp (disch := omega) only [lits, negs, nI_add, nn1, leT, leF, ltT, ltF, eqF, mF1, mF2, mF3, mF4, mF5, mF6, mTT, eq_self, Nat.reduceEqDiff, ↓reduceIte, jbd_s, jpu_e, tI0, tI1, jgd_tI, jgd_bb, tfF, ftF, jup_at, jup_oc, jup_ok, e, e_MSn]
    · rw [runE_no (by omega)]
      exact h17
  | succ d ih =>
    intro f a M h1 h2 hB h16 h17
    obtain ⟨f, rfl⟩ := ex_succ h2
    obtain ⟨b1, b2⟩ := hB a
    have e := e_here hn4 h16 h17 (by omega) b1
    rw [runE_at (by omega)]
    cases q : cL (B a)
    · refine ⟨M, fun k => ?_, by rw [if_neg Bool.false_ne_true]; exact h17, fun c k _ => rfl⟩
      rw [lp_M_next_62]
      simp (disch := omega) only [lits, negs, nI_add, nn1, leT, leF, ltT, ltF, eqF, mF1, mF2, mF3, mF4, mF5, mF6, mTT, eq_self, Nat.reduceEqDiff, ↓reduceIte, jbd_s, jpu_e, tI0, tI1, jgd_tI, jgd_bb, tfF, ftF, jup_at, jup_oc, jup_ok, e, e_MSm, q]
    · rw [if_pos rfl]
      obtain ⟨M', e1, e2, e3⟩ := ih f (a + 1) (jup M 109 17 (nI (a + 1))) (by omega) (by omega) (fun i => by rw [jup_oc (by omega)]; exact hB i) (by rw [jup_ok (by omega)]; exact h16) jup_at
      refine ⟨M', fun k => ?_, e2, fun c k hc => (e3 c k hc).trans (jup_no hc)⟩
      rw [← e1 k, lp_M_next_62]
      simp (disch := omega) only [lits, negs, nI_add, nn1, leT, leF, ltT, ltF, eqF, mF1, mF2, mF3, mF4, mF5, mF6, mTT, eq_self, Nat.reduceEqDiff, ↓reduceIte, jbd_s, jpu_e, tI0, tI1, jgd_tI, jgd_bb, tfF, ftF, jup_at, jup_oc, jup_ok, e, e_MSm, q, h17]
theorem lp_nx128 (hn4 : n ≤ 400) : ∀ (d f a v : Nat) (M : jMem), a + d = n → d < f → v < 10000 → (∀ i, M 110 i = nI (B i) ∧ B i < 256) → M 109 16 = nI n → M 109 17 = nI a → M 109 20 = nI v → ∃ M', (∀ k, lp_M_next_128 k f M = k M') ∧ M' 109 17 = nI (runE B cD n a) ∧ M' 109 20 = nI (refN B d a v) ∧ ∀ c k, ¬ (c = 109 ∧ k = 17) → ¬ (c = 109 ∧ k = 20) → M' c k = M c k := by
  intro d
  induction d with
  | zero =>
    intro f a v M h1 h2 hv hB h16 h17 h20
    obtain ⟨f, rfl⟩ := ex_succ h2
    refine ⟨M, fun k => ?_, ?_, h20, fun c k _ _ => rfl⟩
    · have e := e_hereN hn4 h16 h17 (by omega)
      rw [lp_M_next_128]
      simp (disch := omega) only [lits, negs, nI_add, nn1, leT, leF, ltT, ltF, eqF, mF1, mF2, mF3, mF4, mF5, mF6, mTT, eq_self, Nat.reduceEqDiff, ↓reduceIte, jbd_s, jpu_e, tI0, tI1, jgd_tI, jgd_bb, tfF, ftF, jup_at, jup_oc, jup_ok, e, e_MDn]
    · rw [runE_no (by omega)]
      exact h17
  | succ d ih =>
    intro f a v M h1 h2 hv hB h16 h17 h20
    obtain ⟨f, rfl⟩ := ex_succ h2
    obtain ⟨b1, b2⟩ := hB a
    have e := e_here hn4 h16 h17 (by omega) b1
    rw [runE_at (by omega), refN]
    cases q : cD (B a)
    · refine ⟨M, fun k => ?_, by rw [if_neg Bool.false_ne_true]; exact h17, by rw [if_neg Bool.false_ne_true]; exact h20, fun c k _ _ => rfl⟩
      rw [lp_M_next_128]
      simp (disch := omega) only [lits, negs, nI_add, nn1, leT, leF, ltT, ltF, eqF, mF1, mF2, mF3, mF4, mF5, mF6, mTT, eq_self, Nat.reduceEqDiff, ↓reduceIte, jbd_s, jpu_e, tI0, tI1, jgd_tI, jgd_bb, tfF, ftF, jup_at, jup_oc, jup_ok, e, e_MD, q]
    · have hq := cD_rg q
      rw [if_pos rfl, if_pos rfl]
      obtain ⟨M', e1, e2, e4, e3⟩ := ih f (a + 1) (if v ≤ 999 then 10 * v + B a - 48 else v) (jup (jup M 109 20 (nI (if v ≤ 999 then 10 * v + B a - 48 else v))) 109 17 (nI (a + 1))) (by omega) (by omega) (by split <;> omega) (fun i => by rw [jup_oc (by omega), jup_oc (by omega)]; exact hB i) (by rw [jup_ok (by omega), jup_ok (by omega)]; exact h16) jup_at (by rw [jup_ok (by omega)]; exact jup_at)
      refine ⟨M', fun k => ?_, e2, e4, fun c k hc hc2 => (e3 c k hc hc2).trans ((jup_no hc).trans (jup_no hc2))⟩
      rw [← e1 k, lp_M_next_128]
      by_cases z : v ≤ 999
      · rw [if_pos z]
        simp (disch := omega) only [lits, negs, nI_add, nn1, leT, leF, ltT, ltF, eqF, mF1, mF2, mF3, mF4, mF5, mF6, mTT, eq_self, Nat.reduceEqDiff, ↓reduceIte, jbd_s, jpu_e, tI0, tI1, jgd_tI, jgd_bb, tfF, ftF, jup_at, jup_oc, jup_ok, e, e_MD, q, h17, h20]
        rw [pk_mul, nI_add, n_sub (by omega)]
      · rw [if_neg z]
        simp (disch := omega) only [lits, negs, nI_add, nn1, leT, leF, ltT, ltF, eqF, mF1, mF2, mF3, mF4, mF5, mF6, mTT, eq_self, Nat.reduceEqDiff, ↓reduceIte, jbd_s, jpu_e, tI0, tI1, jgd_tI, jgd_bb, tfF, ftF, jup_at, jup_oc, jup_ok, e, e_MD, q, h17, h20]
theorem e_next {a : Nat} (hn4 : n ≤ 400) (ha : a ≤ n) (hB : ∀ i, M 110 i = nI (B i) ∧ B i < 256) (h16 : M 109 16 = nI n) (h17 : M 109 17 = nI a) : ∃ M', f_M_next M = some ((), M') ∧ (∀ c k, ¬ (c = 109 ∧ 17 ≤ k ∧ k ≤ 20) → M' c k = M c k) ∧ M' 109 18 = nI (skF B n a) ∧ ((skF B n a = n ∧ M' 109 17 = nI n ∧ M' 109 19 = nI 3) ∨ (skF B n a < n ∧ M' 109 17 = nI (endF B n (skF B n a)) ∧ tkM B n (skF B n a) (M' 109 19) (M' 109 20))) := by
  obtain ⟨M1, s1, s2, s3⟩ := lp_nx0 hn4 (n - a) 5000 a M (by omega) (by omega) hB h16 h17
  have hle : a ≤ skF B n a ∧ skF B n a ≤ n := runE_le ha
  generalize skF B n a = p at s2 hle ⊢
  have g16 : M1 109 16 = nI n := by rw [s3 109 16 (by omega)]; exact h16
  have gB : ∀ i, M1 110 i = nI (B i) ∧ B i < 256 := fun i => by rw [s3 110 i (by omega)]; exact hB i
  have frM : ∀ c k, ¬ (c = 109 ∧ 17 ≤ k ∧ k ≤ 20) → M1 c k = M c k := fun c k h => s3 c k (by omega)
  rcases Nat.lt_or_ge p n with hp | hp
  · obtain ⟨b1, b2⟩ := gB p
    have eh1 : f_M_here (jup M1 109 18 (nI p)) = some (nI (B p), jup M1 109 18 (nI p)) := e_here hn4 (by rw [jup_ok (by omega)]; exact g16) (by rw [jup_ok (by omega)]; exact s2) hp (by rw [jup_oc (by omega)]; exact b1)
    have hend := endF_le (B := B) hp
    cases hL : cL (B p)
    · cases hD : cD (B p)
      · have hE : endF B n p = if p + 1 < n ∧ c2 (B p) (B (p + 1)) = true then p + 2 else p + 1 := by
          unfold endF
          rw [hL, hD, if_neg Bool.false_ne_true, if_neg Bool.false_ne_true]
        have done : ∀ (e s v : Nat) (M2 : jMem), f_M_next M = some ((), M2) → (∀ c k, ¬ (c = 109 ∧ 17 ≤ k ∧ k ≤ 20) → M2 c k = M1 c k) → M2 109 18 = nI p → M2 109 17 = nI e → e = endF B n p → M2 109 19 = nI s → M2 109 20 = nI v → tkM B n p (nI s) (nI v) → ∃ M', f_M_next M = some ((), M') ∧ (∀ c k, ¬ (c = 109 ∧ 17 ≤ k ∧ k ≤ 20) → M' c k = M c k) ∧ M' 109 18 = nI p ∧ ((p = n ∧ M' 109 17 = nI n ∧ M' 109 19 = nI 3) ∨ (p < n ∧ M' 109 17 = nI (endF B n p) ∧ tkM B n p (M' 109 19) (M' 109 20))) := fun e s v M2 f1 f2 f3 f4 f5 f6 f7 f8 => ⟨M2, f1, fun c k h => (f2 c k h).trans (frM c k h), f3, Or.inr ⟨hp, by rw [← f5]; exact f4, by rw [f6, f7]; exact f8⟩⟩
        have tS : ∀ (s v : Int32), ((p + 1 < n ∧ c2 (B p) (B (p + 1)) = true ∧ s = nI 2 ∧ v = nI (if B p = 62 then 258 else if B (p + 1) = 61 then 256 else 257)) ∨ (¬ (p + 1 < n ∧ c2 (B p) (B (p + 1)) = true) ∧ v = nI (B p) ∧ s = (if B p = 59 ∨ B p = 45 ∨ B p = 43 ∨ B p = 40 ∨ B p = 41 ∨ B p = 60 ∨ B p = 61 ∨ B p = 62 then nI 2 else nI 4))) → tkM B n p s v := fun s v h => Or.inr (Or.inr ⟨hL, hD, h⟩)
        have pre : f_M_next M = (fun _ => f_M_next M) () := rfl
        -- the memory behind the first sign
        have e17 : ∀ K : jMem → Option (Unit × jMem), True := fun _ => trivial
        by_cases hs : B p = 60 ∨ B p = 62
        · rcases Nat.lt_or_ge (p + 1) n with hp1 | hp1
          · obtain ⟨d1, d2⟩ := gB (p + 1)
            have eh2 : f_M_here (jup (jup (jup (jup M1 109 18 (nI p)) 109 17 (nI (p + 1))) 109 19 (nI 2)) 109 20 (nI (B p))) = some (nI (B (p + 1)), jup (jup (jup (jup M1 109 18 (nI p)) 109 17 (nI (p + 1))) 109 19 (nI 2)) 109 20 (nI (B p))) := e_here hn4 (by simp (disch := omega) only [lits, negs, nI_add, nn1, leT, leF, ltT, ltF, eqF, mF1, mF2, mF3, mF4, mF5, mF6, mTT, eq_self, Nat.reduceEqDiff, ↓reduceIte, jbd_s, jpu_e, tI0, tI1, jgd_tI, jgd_bb, tfF, ftF, jup_at, jup_oc, jup_ok, g16]) (by simp (disch := omega) only [lits, negs, nI_add, nn1, leT, leF, ltT, ltF, eqF, mF1, mF2, mF3, mF4, mF5, mF6, mTT, eq_self, Nat.reduceEqDiff, ↓reduceIte, jbd_s, jpu_e, tI0, tI1, jgd_tI, jgd_bb, tfF, ftF, jup_at, jup_oc, jup_ok]) hp1 (by simp (disch := omega) only [lits, negs, nI_add, nn1, leT, leF, ltT, ltF, eqF, mF1, mF2, mF3, mF4, mF5, mF6, mTT, eq_self, Nat.reduceEqDiff, ↓reduceIte, jbd_s, jpu_e, tI0, tI1, jgd_tI, jgd_bb, tfF, ftF, jup_at, jup_oc, jup_ok, d1])
            rcases hs with hs | hs
            · by_cases q1 : B (p + 1) = 61
              · have hc : c2 (B p) (B (p + 1)) = true := by rw [hs, q1]; rfl
                rw [if_pos ⟨hp1, hc⟩] at hE
                rw [hs, q1] at eh2
                refine done (p + 2) 2 256 (jup (jup (jup (jup (jup (jup M1 109 18 (nI p)) 109 17 (nI (p + 1))) 109 19 (nI 2)) 109 20 (nI 60)) 109 20 (nI 256)) 109 17 (nI (p + 2))) ?_ (fun c k h => ?_) (by simp (disch := omega) only [lits, negs, nI_add, nn1, leT, leF, ltT, ltF, eqF, mF1, mF2, mF3, mF4, mF5, mF6, mTT, eq_self, Nat.reduceEqDiff, ↓reduceIte, jbd_s, jpu_e, tI0, tI1, jgd_tI, jgd_bb, tfF, ftF, jup_at, jup_oc, jup_ok]) (by simp (disch := omega) only [lits, negs, nI_add, nn1, leT, leF, ltT, ltF, eqF, mF1, mF2, mF3, mF4, mF5, mF6, mTT, eq_self, Nat.reduceEqDiff, ↓reduceIte, jbd_s, jpu_e, tI0, tI1, jgd_tI, jgd_bb, tfF, ftF, jup_at, jup_oc, jup_ok]) hE.symm (by simp (disch := omega) only [lits, negs, nI_add, nn1, leT, leF, ltT, ltF, eqF, mF1, mF2, mF3, mF4, mF5, mF6, mTT, eq_self, Nat.reduceEqDiff, ↓reduceIte, jbd_s, jpu_e, tI0, tI1, jgd_tI, jgd_bb, tfF, ftF, jup_at, jup_oc, jup_ok]) (by simp (disch := omega) only [lits, negs, nI_add, nn1, leT, leF, ltT, ltF, eqF, mF1, mF2, mF3, mF4, mF5, mF6, mTT, eq_self, Nat.reduceEqDiff, ↓reduceIte, jbd_s, jpu_e, tI0, tI1, jgd_tI, jgd_bb, tfF, ftF, jup_at, jup_oc, jup_ok]) (tS _ _ (Or.inl ⟨hp1, hc, rfl, by rw [hs, q1]; rfl⟩))
                · unfold f_M_next
                  simp only [lits, negs]
                  rw [s1, jpu_e, s2, eh1, jbd_s, if_neg (fun z => nI_no (by omega) rfl z), e_MSm (by omega), jbd_s, hL, if_pos (show tI false = nI 0 from rfl), e_MD (by omega), jbd_s, hD, if_pos (show tI false = nI 0 from rfl), jpu_e, jup_ok (by omega), s2, nI_add, jpu_e, jpu_e]
                  rw [hs]
                  simp (disch := omega) only [lits, negs, nI_add, nn1, leT, leF, ltT, ltF, eqF, mF1, mF2, mF3, mF4, mF5, mF6, mTT, eq_self, Nat.reduceEqDiff, ↓reduceIte, ↓jbd_s, ↓jpu_e, tI0, tI1, jgd_tI, jgd_bb, tfF, ftF, jup_at, jup_oc, jup_ok, ↓jb eh2]
                · rw [jup_no (by omega), jup_no (by omega), jup_no (by omega), jup_no (by omega), jup_no (by omega), jup_no (by omega)]
              · by_cases q2 : B (p + 1) = 62
                · have hc : c2 (B p) (B (p + 1)) = true := by rw [hs, q2]; rfl
                  rw [if_pos ⟨hp1, hc⟩] at hE
                  rw [hs, q2] at eh2
                  refine done (p + 2) 2 257 (jup (jup (jup (jup (jup (jup M1 109 18 (nI p)) 109 17 (nI (p + 1))) 109 19 (nI 2)) 109 20 (nI 60)) 109 20 (nI 257)) 109 17 (nI (p + 2))) ?_ (fun c k h => ?_) (by simp (disch := omega) only [lits, negs, nI_add, nn1, leT, leF, ltT, ltF, eqF, mF1, mF2, mF3, mF4, mF5, mF6, mTT, eq_self, Nat.reduceEqDiff, ↓reduceIte, jbd_s, jpu_e, tI0, tI1, jgd_tI, jgd_bb, tfF, ftF, jup_at, jup_oc, jup_ok]) (by simp (disch := omega) only [lits, negs, nI_add, nn1, leT, leF, ltT, ltF, eqF, mF1, mF2, mF3, mF4, mF5, mF6, mTT, eq_self, Nat.reduceEqDiff, ↓reduceIte, jbd_s, jpu_e, tI0, tI1, jgd_tI, jgd_bb, tfF, ftF, jup_at, jup_oc, jup_ok]) hE.symm (by simp (disch := omega) only [lits, negs, nI_add, nn1, leT, leF, ltT, ltF, eqF, mF1, mF2, mF3, mF4, mF5, mF6, mTT, eq_self, Nat.reduceEqDiff, ↓reduceIte, jbd_s, jpu_e, tI0, tI1, jgd_tI, jgd_bb, tfF, ftF, jup_at, jup_oc, jup_ok]) (by simp (disch := omega) only [lits, negs, nI_add, nn1, leT, leF, ltT, ltF, eqF, mF1, mF2, mF3, mF4, mF5, mF6, mTT, eq_self, Nat.reduceEqDiff, ↓reduceIte, jbd_s, jpu_e, tI0, tI1, jgd_tI, jgd_bb, tfF, ftF, jup_at, jup_oc, jup_ok]) (tS _ _ (Or.inl ⟨hp1, hc, rfl, by rw [hs, q2]; rfl⟩))
                  · unfold f_M_next
                    simp only [lits, negs]
                    rw [s1, jpu_e, s2, eh1, jbd_s, if_neg (fun z => nI_no (by omega) rfl z), e_MSm (by omega), jbd_s, hL, if_pos (show tI false = nI 0 from rfl), e_MD (by omega), jbd_s, hD, if_pos (show tI false = nI 0 from rfl), jpu_e, jup_ok (by omega), s2, nI_add, jpu_e, jpu_e]
                    rw [hs]
                    simp (disch := omega) only [lits, negs, nI_add, nn1, leT, leF, ltT, ltF, eqF, mF1, mF2, mF3, mF4, mF5, mF6, mTT, eq_self, Nat.reduceEqDiff, ↓reduceIte, ↓jbd_s, ↓jpu_e, tI0, tI1, jgd_tI, jgd_bb, tfF, ftF, jup_at, jup_oc, jup_ok, ↓jb eh2]
                  · rw [jup_no (by omega), jup_no (by omega), jup_no (by omega), jup_no (by omega), jup_no (by omega), jup_no (by omega)]
                · have hc : c2 (B p) (B (p + 1)) = false := by
                    unfold c2
                    rw [hs, decide_eq_false q1, decide_eq_false q2]; rfl
                  have hc' : ¬ (p + 1 < n ∧ c2 (B p) (B (p + 1)) = true) := fun z => bt_no hc z.2
                  rw [if_neg hc'] at hE
                  rw [hs] at eh2
                  refine done (p + 1) 2 60 (jup (jup (jup (jup M1 109 18 (nI p)) 109 17 (nI (p + 1))) 109 19 (nI 2)) 109 20 (nI 60)) ?_ (fun c k h => ?_) (by simp (disch := omega) only [lits, negs, nI_add, nn1, leT, leF, ltT, ltF, eqF, mF1, mF2, mF3, mF4, mF5, mF6, mTT, eq_self, Nat.reduceEqDiff, ↓reduceIte, jbd_s, jpu_e, tI0, tI1, jgd_tI, jgd_bb, tfF, ftF, jup_at, jup_oc, jup_ok]) (by simp (disch := omega) only [lits, negs, nI_add, nn1, leT, leF, ltT, ltF, eqF, mF1, mF2, mF3, mF4, mF5, mF6, mTT, eq_self, Nat.reduceEqDiff, ↓reduceIte, jbd_s, jpu_e, tI0, tI1, jgd_tI, jgd_bb, tfF, ftF, jup_at, jup_oc, jup_ok]) hE.symm (by simp (disch := omega) only [lits, negs, nI_add, nn1, leT, leF, ltT, ltF, eqF, mF1, mF2, mF3, mF4, mF5, mF6, mTT, eq_self, Nat.reduceEqDiff, ↓reduceIte, jbd_s, jpu_e, tI0, tI1, jgd_tI, jgd_bb, tfF, ftF, jup_at, jup_oc, jup_ok]) (by simp (disch := omega) only [lits, negs, nI_add, nn1, leT, leF, ltT, ltF, eqF, mF1, mF2, mF3, mF4, mF5, mF6, mTT, eq_self, Nat.reduceEqDiff, ↓reduceIte, jbd_s, jpu_e, tI0, tI1, jgd_tI, jgd_bb, tfF, ftF, jup_at, jup_oc, jup_ok]) (tS _ _ (Or.inr ⟨hc', by rw [hs], by rw [if_pos (by omega)]⟩))
                  · unfold f_M_next
                    simp only [lits, negs]
                    rw [s1, jpu_e, s2, eh1, jbd_s, if_neg (fun z => nI_no (by omega) rfl z), e_MSm (by omega), jbd_s, hL, if_pos (show tI false = nI 0 from rfl), e_MD (by omega), jbd_s, hD, if_pos (show tI false = nI 0 from rfl), jpu_e, jup_ok (by omega), s2, nI_add, jpu_e, jpu_e]
                    rw [hs]
                    simp (disch := omega) only [lits, negs, nI_add, nn1, leT, leF, ltT, ltF, eqF, mF1, mF2, mF3, mF4, mF5, mF6, mTT, eq_self, Nat.reduceEqDiff, ↓reduceIte, ↓jbd_s, ↓jpu_e, tI0, tI1, jgd_tI, jgd_bb, tfF, ftF, jup_at, jup_oc, jup_ok, ↓jb eh2]
                  · rw [jup_no (by omega), jup_no (by omega), jup_no (by omega), jup_no (by omega)]
            · by_cases q1 : B (p + 1) = 61
              · have hc : c2 (B p) (B (p + 1)) = true := by rw [hs, q1]; rfl
                rw [if_pos ⟨hp1, hc⟩] at hE
                rw [hs, q1] at eh2
                refine done (p + 2) 2 258 (jup (jup (jup (jup (jup (jup M1 109 18 (nI p)) 109 17 (nI (p + 1))) 109 19 (nI 2)) 109 20 (nI 62)) 109 20 (nI 258)) 109 17 (nI (p + 2))) ?_ (fun c k h => ?_) (by simp (disch := omega) only [lits, negs, nI_add, nn1, leT, leF, ltT, ltF, eqF, mF1, mF2, mF3, mF4, mF5, mF6, mTT, eq_self, Nat.reduceEqDiff, ↓reduceIte, jbd_s, jpu_e, tI0, tI1, jgd_tI, jgd_bb, tfF, ftF, jup_at, jup_oc, jup_ok]) (by simp (disch := omega) only [lits, negs, nI_add, nn1, leT, leF, ltT, ltF, eqF, mF1, mF2, mF3, mF4, mF5, mF6, mTT, eq_self, Nat.reduceEqDiff, ↓reduceIte, jbd_s, jpu_e, tI0, tI1, jgd_tI, jgd_bb, tfF, ftF, jup_at, jup_oc, jup_ok]) hE.symm (by simp (disch := omega) only [lits, negs, nI_add, nn1, leT, leF, ltT, ltF, eqF, mF1, mF2, mF3, mF4, mF5, mF6, mTT, eq_self, Nat.reduceEqDiff, ↓reduceIte, jbd_s, jpu_e, tI0, tI1, jgd_tI, jgd_bb, tfF, ftF, jup_at, jup_oc, jup_ok]) (by simp (disch := omega) only [lits, negs, nI_add, nn1, leT, leF, ltT, ltF, eqF, mF1, mF2, mF3, mF4, mF5, mF6, mTT, eq_self, Nat.reduceEqDiff, ↓reduceIte, jbd_s, jpu_e, tI0, tI1, jgd_tI, jgd_bb, tfF, ftF, jup_at, jup_oc, jup_ok]) (tS _ _ (Or.inl ⟨hp1, hc, rfl, by rw [hs]; rfl⟩))
                · unfold f_M_next
                  simp only [lits, negs]
                  rw [s1, jpu_e, s2, eh1, jbd_s, if_neg (fun z => nI_no (by omega) rfl z), e_MSm (by omega), jbd_s, hL, if_pos (show tI false = nI 0 from rfl), e_MD (by omega), jbd_s, hD, if_pos (show tI false = nI 0 from rfl), jpu_e, jup_ok (by omega), s2, nI_add, jpu_e, jpu_e]
                  rw [hs]
                  simp (disch := omega) only [lits, negs, nI_add, nn1, leT, leF, ltT, ltF, eqF, mF1, mF2, mF3, mF4, mF5, mF6, mTT, eq_self, Nat.reduceEqDiff, ↓reduceIte, ↓jbd_s, ↓jpu_e, tI0, tI1, jgd_tI, jgd_bb, tfF, ftF, jup_at, jup_oc, jup_ok, ↓jb eh2]
                · rw [jup_no (by omega), jup_no (by omega), jup_no (by omega), jup_no (by omega), jup_no (by omega), jup_no (by omega)]
              · have hc : c2 (B p) (B (p + 1)) = false := by
                  unfold c2
                  rw [hs, decide_eq_false q1]; rfl
                have hc' : ¬ (p + 1 < n ∧ c2 (B p) (B (p + 1)) = true) := fun z => bt_no hc z.2
                rw [if_neg hc'] at hE
                rw [hs] at eh2
                refine done (p + 1) 2 62 (jup (jup (jup (jup M1 109 18 (nI p)) 109 17 (nI (p + 1))) 109 19 (nI 2)) 109 20 (nI 62)) ?_ (fun c k h => ?_) (by simp (disch := omega) only [lits, negs, nI_add, nn1, leT, leF, ltT, ltF, eqF, mF1, mF2, mF3, mF4, mF5, mF6, mTT, eq_self, Nat.reduceEqDiff, ↓reduceIte, jbd_s, jpu_e, tI0, tI1, jgd_tI, jgd_bb, tfF, ftF, jup_at, jup_oc, jup_ok]) (by simp (disch := omega) only [lits, negs, nI_add, nn1, leT, leF, ltT, ltF, eqF, mF1, mF2, mF3, mF4, mF5, mF6, mTT, eq_self, Nat.reduceEqDiff, ↓reduceIte, jbd_s, jpu_e, tI0, tI1, jgd_tI, jgd_bb, tfF, ftF, jup_at, jup_oc, jup_ok]) hE.symm (by simp (disch := omega) only [lits, negs, nI_add, nn1, leT, leF, ltT, ltF, eqF, mF1, mF2, mF3, mF4, mF5, mF6, mTT, eq_self, Nat.reduceEqDiff, ↓reduceIte, jbd_s, jpu_e, tI0, tI1, jgd_tI, jgd_bb, tfF, ftF, jup_at, jup_oc, jup_ok]) (by simp (disch := omega) only [lits, negs, nI_add, nn1, leT, leF, ltT, ltF, eqF, mF1, mF2, mF3, mF4, mF5, mF6, mTT, eq_self, Nat.reduceEqDiff, ↓reduceIte, jbd_s, jpu_e, tI0, tI1, jgd_tI, jgd_bb, tfF, ftF, jup_at, jup_oc, jup_ok]) (tS _ _ (Or.inr ⟨hc', by rw [hs], by rw [if_pos (by omega)]⟩))
                · unfold f_M_next
                  simp only [lits, negs]
                  rw [s1, jpu_e, s2, eh1, jbd_s, if_neg (fun z => nI_no (by omega) rfl z), e_MSm (by omega), jbd_s, hL, if_pos (show tI false = nI 0 from rfl), e_MD (by omega), jbd_s, hD, if_pos (show tI false = nI 0 from rfl), jpu_e, jup_ok (by omega), s2, nI_add, jpu_e, jpu_e]
                  rw [hs]
                  simp (disch := omega) only [lits, negs, nI_add, nn1, leT, leF, ltT, ltF, eqF, mF1, mF2, mF3, mF4, mF5, mF6, mTT, eq_self, Nat.reduceEqDiff, ↓reduceIte, ↓jbd_s, ↓jpu_e, tI0, tI1, jgd_tI, jgd_bb, tfF, ftF, jup_at, jup_oc, jup_ok, ↓jb eh2]
                · rw [jup_no (by omega), jup_no (by omega), jup_no (by omega), jup_no (by omega)]
          · have eh2 : f_M_here (jup (jup (jup (jup M1 109 18 (nI p)) 109 17 (nI (p + 1))) 109 19 (nI 2)) 109 20 (nI (B p))) = some (nM, jup (jup (jup (jup M1 109 18 (nI p)) 109 17 (nI (p + 1))) 109 19 (nI 2)) 109 20 (nI (B p))) := e_hereN (a := p + 1) hn4 (by simp (disch := omega) only [lits, negs, nI_add, nn1, leT, leF, ltT, ltF, eqF, mF1, mF2, mF3, mF4, mF5, mF6, mTT, eq_self, Nat.reduceEqDiff, ↓reduceIte, jbd_s, jpu_e, tI0, tI1, jgd_tI, jgd_bb, tfF, ftF, jup_at, jup_oc, jup_ok, g16]) (by simp (disch := omega) only [lits, negs, nI_add, nn1, leT, leF, ltT, ltF, eqF, mF1, mF2, mF3, mF4, mF5, mF6, mTT, eq_self, Nat.reduceEqDiff, ↓reduceIte, jbd_s, jpu_e, tI0, tI1, jgd_tI, jgd_bb, tfF, ftF, jup_at, jup_oc, jup_ok]) (by omega)
            have hc' : ¬ (p + 1 < n ∧ c2 (B p) (B (p + 1)) = true) := fun z => by omega
            rw [if_neg hc'] at hE
            refine done (p + 1) 2 (B p) (jup (jup (jup (jup M1 109 18 (nI p)) 109 17 (nI (p + 1))) 109 19 (nI 2)) 109 20 (nI (B p))) ?_ (fun c k h => ?_) (by simp (disch := omega) only [lits, negs, nI_add, nn1, leT, leF, ltT, ltF, eqF, mF1, mF2, mF3, mF4, mF5, mF6, mTT, eq_self, Nat.reduceEqDiff, ↓reduceIte, jbd_s, jpu_e, tI0, tI1, jgd_tI, jgd_bb, tfF, ftF, jup_at, jup_oc, jup_ok]) (by simp (disch := omega) only [lits, negs, nI_add, nn1, leT, leF, ltT, ltF, eqF, mF1, mF2, mF3, mF4, mF5, mF6, mTT, eq_self, Nat.reduceEqDiff, ↓reduceIte, jbd_s, jpu_e, tI0, tI1, jgd_tI, jgd_bb, tfF, ftF, jup_at, jup_oc, jup_ok]) hE.symm (by simp (disch := omega) only [lits, negs, nI_add, nn1, leT, leF, ltT, ltF, eqF, mF1, mF2, mF3, mF4, mF5, mF6, mTT, eq_self, Nat.reduceEqDiff, ↓reduceIte, jbd_s, jpu_e, tI0, tI1, jgd_tI, jgd_bb, tfF, ftF, jup_at, jup_oc, jup_ok]) (by simp (disch := omega) only [lits, negs, nI_add, nn1, leT, leF, ltT, ltF, eqF, mF1, mF2, mF3, mF4, mF5, mF6, mTT, eq_self, Nat.reduceEqDiff, ↓reduceIte, jbd_s, jpu_e, tI0, tI1, jgd_tI, jgd_bb, tfF, ftF, jup_at, jup_oc, jup_ok]) (tS _ _ (Or.inr ⟨hc', rfl, by rw [if_pos (by omega)]⟩))
            · unfold f_M_next
              simp only [lits, negs]
              rw [s1, jpu_e, s2, eh1, jbd_s, if_neg (fun z => nI_no (by omega) rfl z), e_MSm (by omega), jbd_s, hL, if_pos (show tI false = nI 0 from rfl), e_MD (by omega), jbd_s, hD, if_pos (show tI false = nI 0 from rfl), jpu_e, jup_ok (by omega), s2, nI_add, jpu_e, jpu_e]
              rcases hs with hs | hs
              · rw [hs] at eh2 ⊢
                simp (disch := omega) only [lits, negs, nI_add, nn1, leT, leF, ltT, ltF, eqF, mF1, mF2, mF3, mF4, mF5, mF6, mTT, eq_self, Nat.reduceEqDiff, ↓reduceIte, ↓jbd_s, ↓jpu_e, tI0, tI1, jgd_tI, jgd_bb, tfF, ftF, jup_at, jup_oc, jup_ok, ↓jb eh2]
              · rw [hs] at eh2 ⊢
                simp (disch := omega) only [lits, negs, nI_add, nn1, leT, leF, ltT, ltF, eqF, mF1, mF2, mF3, mF4, mF5, mF6, mTT, eq_self, Nat.reduceEqDiff, ↓reduceIte, ↓jbd_s, ↓jpu_e, tI0, tI1, jgd_tI, jgd_bb, tfF, ftF, jup_at, jup_oc, jup_ok, ↓jb eh2]
            · rw [jup_no (by omega), jup_no (by omega), jup_no (by omega), jup_no (by omega)]
        · have hc : c2 (B p) (B (p + 1)) = false := by
            unfold c2
            rw [decide_eq_false (fun z => hs (Or.inl z)), decide_eq_false (fun z : B p = 62 => hs (Or.inr z))]; rfl
          have hc' : ¬ (p + 1 < n ∧ c2 (B p) (B (p + 1)) = true) := fun z => bt_no hc z.2
          rw [if_neg hc'] at hE
          have hs1 : ¬ B p = 60 := fun z => hs (Or.inl z)
          have hs2 : ¬ B p = 62 := fun z => hs (Or.inr z)
          by_cases q : B p = 59 ∨ B p = 45 ∨ B p = 43 ∨ B p = 40 ∨ B p = 41 ∨ B p = 60 ∨ B p = 61 ∨ B p = 62
          · refine done (p + 1) 2 (B p) (jup (jup (jup (jup M1 109 18 (nI p)) 109 17 (nI (p + 1))) 109 19 (nI 2)) 109 20 (nI (B p))) ?_ (fun c k h => ?_) (by simp (disch := omega) only [lits, negs, nI_add, nn1, leT, leF, ltT, ltF, eqF, mF1, mF2, mF3, mF4, mF5, mF6, mTT, eq_self, Nat.reduceEqDiff, ↓reduceIte, jbd_s, jpu_e, tI0, tI1, jgd_tI, jgd_bb, tfF, ftF, jup_at, jup_oc, jup_ok]) (by simp (disch := omega) only [lits, negs, nI_add, nn1, leT, leF, ltT, ltF, eqF, mF1, mF2, mF3, mF4, mF5, mF6, mTT, eq_self, Nat.reduceEqDiff, ↓reduceIte, jbd_s, jpu_e, tI0, tI1, jgd_tI, jgd_bb, tfF, ftF, jup_at, jup_oc, jup_ok]) hE.symm (by simp (disch := omega) only [lits, negs, nI_add, nn1, leT, leF, ltT, ltF, eqF, mF1, mF2, mF3, mF4, mF5, mF6, mTT, eq_self, Nat.reduceEqDiff, ↓reduceIte, jbd_s, jpu_e, tI0, tI1, jgd_tI, jgd_bb, tfF, ftF, jup_at, jup_oc, jup_ok]) (by simp (disch := omega) only [lits, negs, nI_add, nn1, leT, leF, ltT, ltF, eqF, mF1, mF2, mF3, mF4, mF5, mF6, mTT, eq_self, Nat.reduceEqDiff, ↓reduceIte, jbd_s, jpu_e, tI0, tI1, jgd_tI, jgd_bb, tfF, ftF, jup_at, jup_oc, jup_ok]) (tS _ _ (Or.inr ⟨hc', rfl, by rw [if_pos q]⟩))
            · unfold f_M_next
              simp only [lits, negs]
              rw [s1, jpu_e, s2, eh1, jbd_s, if_neg (fun z => nI_no (by omega) rfl z), e_MSm (by omega), jbd_s, hL, if_pos (show tI false = nI 0 from rfl), e_MD (by omega), jbd_s, hD, if_pos (show tI false = nI 0 from rfl), jpu_e, jup_ok (by omega), s2, nI_add, jpu_e, jpu_e]
              rcases q with q | q | q | q | q | q | q | q
              · rw [q]
                simp (disch := omega) only [lits, negs, nI_add, nn1, leT, leF, ltT, ltF, eqF, mF1, mF2, mF3, mF4, mF5, mF6, mTT, eq_self, Nat.reduceEqDiff, ↓reduceIte, ↓jbd_s, ↓jpu_e, tI0, tI1, jgd_tI, jgd_bb, tfF, ftF, jup_at, jup_oc, jup_ok]
              · rw [q]
                simp (disch := omega) only [lits, negs, nI_add, nn1, leT, leF, ltT, ltF, eqF, mF1, mF2, mF3, mF4, mF5, mF6, mTT, eq_self, Nat.reduceEqDiff, ↓reduceIte, ↓jbd_s, ↓jpu_e, tI0, tI1, jgd_tI, jgd_bb, tfF, ftF, jup_at, jup_oc, jup_ok]
              · rw [q]
                simp (disch := omega) only [lits, negs, nI_add, nn1, leT, leF, ltT, ltF, eqF, mF1, mF2, mF3, mF4, mF5, mF6, mTT, eq_self, Nat.reduceEqDiff, ↓reduceIte, ↓jbd_s, ↓jpu_e, tI0, tI1, jgd_tI, jgd_bb, tfF, ftF, jup_at, jup_oc, jup_ok]
              · rw [q]
                simp (disch := omega) only [lits, negs, nI_add, nn1, leT, leF, ltT, ltF, eqF, mF1, mF2, mF3, mF4, mF5, mF6, mTT, eq_self, Nat.reduceEqDiff, ↓reduceIte, ↓jbd_s, ↓jpu_e, tI0, tI1, jgd_tI, jgd_bb, tfF, ftF, jup_at, jup_oc, jup_ok]
              · rw [q]
                simp (disch := omega) only [lits, negs, nI_add, nn1, leT, leF, ltT, ltF, eqF, mF1, mF2, mF3, mF4, mF5, mF6, mTT, eq_self, Nat.reduceEqDiff, ↓reduceIte, ↓jbd_s, ↓jpu_e, tI0, tI1, jgd_tI, jgd_bb, tfF, ftF, jup_at, jup_oc, jup_ok]
              · exact absurd q hs1
              · rw [q]
                simp (disch := omega) only [lits, negs, nI_add, nn1, leT, leF, ltT, ltF, eqF, mF1, mF2, mF3, mF4, mF5, mF6, mTT, eq_self, Nat.reduceEqDiff, ↓reduceIte, ↓jbd_s, ↓jpu_e, tI0, tI1, jgd_tI, jgd_bb, tfF, ftF, jup_at, jup_oc, jup_ok]
              · exact absurd q hs2
            · rw [jup_no (by omega), jup_no (by omega), jup_no (by omega), jup_no (by omega)]
          · refine done (p + 1) 4 (B p) (jup (jup (jup (jup (jup M1 109 18 (nI p)) 109 17 (nI (p + 1))) 109 19 (nI 2)) 109 20 (nI (B p))) 109 19 (nI 4)) ?_ (fun c k h => ?_) (by simp (disch := omega) only [lits, negs, nI_add, nn1, leT, leF, ltT, ltF, eqF, mF1, mF2, mF3, mF4, mF5, mF6, mTT, eq_self, Nat.reduceEqDiff, ↓reduceIte, jbd_s, jpu_e, tI0, tI1, jgd_tI, jgd_bb, tfF, ftF, jup_at, jup_oc, jup_ok]) (by simp (disch := omega) only [lits, negs, nI_add, nn1, leT, leF, ltT, ltF, eqF, mF1, mF2, mF3, mF4, mF5, mF6, mTT, eq_self, Nat.reduceEqDiff, ↓reduceIte, jbd_s, jpu_e, tI0, tI1, jgd_tI, jgd_bb, tfF, ftF, jup_at, jup_oc, jup_ok]) hE.symm (by simp (disch := omega) only [lits, negs, nI_add, nn1, leT, leF, ltT, ltF, eqF, mF1, mF2, mF3, mF4, mF5, mF6, mTT, eq_self, Nat.reduceEqDiff, ↓reduceIte, jbd_s, jpu_e, tI0, tI1, jgd_tI, jgd_bb, tfF, ftF, jup_at, jup_oc, jup_ok]) (by simp (disch := omega) only [lits, negs, nI_add, nn1, leT, leF, ltT, ltF, eqF, mF1, mF2, mF3, mF4, mF5, mF6, mTT, eq_self, Nat.reduceEqDiff, ↓reduceIte, jbd_s, jpu_e, tI0, tI1, jgd_tI, jgd_bb, tfF, ftF, jup_at, jup_oc, jup_ok]) (tS _ _ (Or.inr ⟨hc', rfl, by rw [if_neg q]⟩))
            · unfold f_M_next
              simp only [lits, negs]
              rw [s1, jpu_e, s2, eh1, jbd_s, if_neg (fun z => nI_no (by omega) rfl z), e_MSm (by omega), jbd_s, hL, if_pos (show tI false = nI 0 from rfl), e_MD (by omega), jbd_s, hD, if_pos (show tI false = nI 0 from rfl), jpu_e, jup_ok (by omega), s2, nI_add, jpu_e, jpu_e]
              simp (disch := omega) only [lits, negs, nI_add, nn1, leT, leF, ltT, ltF, eqF, mF1, mF2, mF3, mF4, mF5, mF6, mTT, eq_self, Nat.reduceEqDiff, ↓reduceIte, ↓jbd_s, ↓jpu_e, tI0, tI1, jgd_tI, jgd_bb, tfF, ftF, jup_at, jup_oc, jup_ok]
            · rw [jup_no (by omega), jup_no (by omega), jup_no (by omega), jup_no (by omega), jup_no (by omega)]
      · obtain ⟨M2, t1, t2, t4, t3⟩ := lp_nx128 hn4 (n - p) 5000 p 0 (jup (jup (jup M1 109 18 (nI p)) 109 19 (nI 1)) 109 20 (nI 0)) (by omega) (by omega) (by omega) (fun i => by rw [jup_oc (by omega), jup_oc (by omega), jup_oc (by omega)]; exact gB i) (by simp (disch := omega) only [lits, negs, nI_add, nn1, leT, leF, ltT, ltF, eqF, mF1, mF2, mF3, mF4, mF5, mF6, mTT, eq_self, Nat.reduceEqDiff, ↓reduceIte, jbd_s, jpu_e, tI0, tI1, jgd_tI, jgd_bb, tfF, ftF, jup_at, jup_oc, jup_ok, g16]) (by simp (disch := omega) only [lits, negs, nI_add, nn1, leT, leF, ltT, ltF, eqF, mF1, mF2, mF3, mF4, mF5, mF6, mTT, eq_self, Nat.reduceEqDiff, ↓reduceIte, jbd_s, jpu_e, tI0, tI1, jgd_tI, jgd_bb, tfF, ftF, jup_at, jup_oc, jup_ok, s2]) jup_at
        refine ⟨M2, ?_, fun c k h => ?_, by rw [t3 109 18 (by omega) (by omega)]; simp (disch := omega) only [lits, negs, nI_add, nn1, leT, leF, ltT, ltF, eqF, mF1, mF2, mF3, mF4, mF5, mF6, mTT, eq_self, Nat.reduceEqDiff, ↓reduceIte, jbd_s, jpu_e, tI0, tI1, jgd_tI, jgd_bb, tfF, ftF, jup_at, jup_oc, jup_ok], Or.inr ⟨hp, ?_, Or.inr (Or.inl ⟨hL, hD, by rw [t3 109 19 (by omega) (by omega)]; simp (disch := omega) only [lits, negs, nI_add, nn1, leT, leF, ltT, ltF, eqF, mF1, mF2, mF3, mF4, mF5, mF6, mTT, eq_self, Nat.reduceEqDiff, ↓reduceIte, jbd_s, jpu_e, tI0, tI1, jgd_tI, jgd_bb, tfF, ftF, jup_at, jup_oc, jup_ok], t4⟩)⟩⟩
        · unfold f_M_next
          simp only [lits, negs]
          rw [s1, jpu_e, s2, eh1, jbd_s, if_neg (fun z => nI_no (by omega) rfl z), e_MSm (by omega), jbd_s, hL, if_pos (show tI false = nI 0 from rfl), e_MD (by omega), jbd_s, hD, if_neg (show ¬ tI true = nI 0 by decide), jpu_e, jpu_e, t1]
        · rw [t3 c k (by omega) (by omega), jup_no (by omega), jup_no (by omega), jup_no (by omega)]
          exact frM c k h
        · rw [t2, runE_at hp, hD, if_pos rfl]
          unfold endF
          rw [hL, hD, if_neg Bool.false_ne_true, if_pos rfl]
    · obtain ⟨M2, t1, t2, t3⟩ := lp_nx62 hn4 (n - p) 5000 p (jup M1 109 18 (nI p)) (by omega) (by omega) (fun i => by rw [jup_oc (by omega)]; exact gB i) (by simp (disch := omega) only [lits, negs, nI_add, nn1, leT, leF, ltT, ltF, eqF, mF1, mF2, mF3, mF4, mF5, mF6, mTT, eq_self, Nat.reduceEqDiff, ↓reduceIte, jbd_s, jpu_e, tI0, tI1, jgd_tI, jgd_bb, tfF, ftF, jup_at, jup_oc, jup_ok, g16]) (by simp (disch := omega) only [lits, negs, nI_add, nn1, leT, leF, ltT, ltF, eqF, mF1, mF2, mF3, mF4, mF5, mF6, mTT, eq_self, Nat.reduceEqDiff, ↓reduceIte, jbd_s, jpu_e, tI0, tI1, jgd_tI, jgd_bb, tfF, ftF, jup_at, jup_oc, jup_ok, s2])
      have hE : endF B n p = runE B cL n p := by
        unfold endF
        rw [hL, if_pos rfl, runE_at (a := p) hp, hL, if_pos rfl]
      rw [← hE] at t2
      have t18 : M2 109 18 = nI p := by rw [t3 109 18 (by omega)]; exact jup_at
      have tB : ∀ i, M2 110 i = nI (B i) ∧ B i < 256 := fun i => by
        rw [t3 110 i (by omega), jup_oc (by omega)]
        exact gB i
      have frM2 : ∀ c k, ¬ (c = 109 ∧ 17 ≤ k ∧ k ≤ 20) → M2 c k = M c k := fun c k h => by
        rw [t3 c k (by omega), jup_no (by omega)]
        exact frM c k h
      rcases e_Mword hn4 tB t18 t2 (by omega) hend.2 with ⟨t, u1, u2, u3⟩ | ⟨u1, u2⟩
      · refine ⟨jup (jup M2 109 20 (nI t)) 109 19 (nI 0), ?_, fun c k h => ?_, by simp (disch := omega) only [lits, negs, nI_add, nn1, leT, leF, ltT, ltF, eqF, mF1, mF2, mF3, mF4, mF5, mF6, mTT, eq_self, Nat.reduceEqDiff, ↓reduceIte, jbd_s, jpu_e, tI0, tI1, jgd_tI, jgd_bb, tfF, ftF, jup_at, jup_oc, jup_ok, t18], Or.inr ⟨hp, by simp (disch := omega) only [lits, negs, nI_add, nn1, leT, leF, ltT, ltF, eqF, mF1, mF2, mF3, mF4, mF5, mF6, mTT, eq_self, Nat.reduceEqDiff, ↓reduceIte, jbd_s, jpu_e, tI0, tI1, jgd_tI, jgd_bb, tfF, ftF, jup_at, jup_oc, jup_ok, t2], Or.inl ⟨hL, Or.inl ⟨t, u1, u2, by simp (disch := omega) only [lits, negs, nI_add, nn1, leT, leF, ltT, ltF, eqF, mF1, mF2, mF3, mF4, mF5, mF6, mTT, eq_self, Nat.reduceEqDiff, ↓reduceIte, jbd_s, jpu_e, tI0, tI1, jgd_tI, jgd_bb, tfF, ftF, jup_at, jup_oc, jup_ok], by simp (disch := omega) only [lits, negs, nI_add, nn1, leT, leF, ltT, ltF, eqF, mF1, mF2, mF3, mF4, mF5, mF6, mTT, eq_self, Nat.reduceEqDiff, ↓reduceIte, jbd_s, jpu_e, tI0, tI1, jgd_tI, jgd_bb, tfF, ftF, jup_at, jup_oc, jup_ok]⟩⟩⟩⟩
        · unfold f_M_next
          simp only [lits, negs]
          rw [s1, jpu_e, s2, eh1, jbd_s, if_neg (fun z => nI_no (by omega) rfl z), e_MSm (by omega), jbd_s, hL, if_neg (show ¬ tI true = nI 0 by decide), t1]
          simp (disch := omega) only [lits, negs, nI_add, nn1, leT, leF, ltT, ltF, eqF, mF1, mF2, mF3, mF4, mF5, mF6, mTT, eq_self, Nat.reduceEqDiff, ↓reduceIte, ↓jbd_s, ↓jpu_e, tI0, tI1, jgd_tI, jgd_bb, tfF, ftF, jup_at, jup_oc, jup_ok, ↓jb u3]
        · rw [jup_no (by omega), jup_no (by omega)]
          exact frM2 c k h
      · refine ⟨jup (jup M2 109 20 nM) 109 19 (nI 4), ?_, fun c k h => ?_, by simp (disch := omega) only [lits, negs, nI_add, nn1, leT, leF, ltT, ltF, eqF, mF1, mF2, mF3, mF4, mF5, mF6, mTT, eq_self, Nat.reduceEqDiff, ↓reduceIte, jbd_s, jpu_e, tI0, tI1, jgd_tI, jgd_bb, tfF, ftF, jup_at, jup_oc, jup_ok, t18], Or.inr ⟨hp, by simp (disch := omega) only [lits, negs, nI_add, nn1, leT, leF, ltT, ltF, eqF, mF1, mF2, mF3, mF4, mF5, mF6, mTT, eq_self, Nat.reduceEqDiff, ↓reduceIte, jbd_s, jpu_e, tI0, tI1, jgd_tI, jgd_bb, tfF, ftF, jup_at, jup_oc, jup_ok, t2], Or.inl ⟨hL, Or.inr ⟨u1, by simp (disch := omega) only [lits, negs, nI_add, nn1, leT, leF, ltT, ltF, eqF, mF1, mF2, mF3, mF4, mF5, mF6, mTT, eq_self, Nat.reduceEqDiff, ↓reduceIte, jbd_s, jpu_e, tI0, tI1, jgd_tI, jgd_bb, tfF, ftF, jup_at, jup_oc, jup_ok]⟩⟩⟩⟩
        · unfold f_M_next
          simp only [lits, negs]
          rw [s1, jpu_e, s2, eh1, jbd_s, if_neg (fun z => nI_no (by omega) rfl z), e_MSm (by omega), jbd_s, hL, if_neg (show ¬ tI true = nI 0 by decide), t1]
          simp (disch := omega) only [lits, negs, nI_add, nn1, leT, leF, ltT, ltF, eqF, mF1, mF2, mF3, mF4, mF5, mF6, mTT, eq_self, Nat.reduceEqDiff, ↓reduceIte, ↓jbd_s, ↓jpu_e, tI0, tI1, jgd_tI, jgd_bb, tfF, ftF, jup_at, jup_oc, jup_ok, ↓jb u2]
        · rw [jup_no (by omega), jup_no (by omega)]
          exact frM2 c k h
  · have hpn : p = n := by omega
    have eh1 : f_M_here (jup M1 109 18 (nI p)) = some (nM, jup M1 109 18 (nI p)) := e_hereN hn4 (by rw [jup_ok (by omega)]; exact g16) (by rw [jup_ok (by omega)]; exact s2) hpn
    refine ⟨jup (jup M1 109 18 (nI p)) 109 19 (nI 3), ?_, fun c k h => ?_, by simp (disch := omega) only [lits, negs, nI_add, nn1, leT, leF, ltT, ltF, eqF, mF1, mF2, mF3, mF4, mF5, mF6, mTT, eq_self, Nat.reduceEqDiff, ↓reduceIte, jbd_s, jpu_e, tI0, tI1, jgd_tI, jgd_bb, tfF, ftF, jup_at, jup_oc, jup_ok], Or.inl ⟨hpn, by simp (disch := omega) only [lits, negs, nI_add, nn1, leT, leF, ltT, ltF, eqF, mF1, mF2, mF3, mF4, mF5, mF6, mTT, eq_self, Nat.reduceEqDiff, ↓reduceIte, jbd_s, jpu_e, tI0, tI1, jgd_tI, jgd_bb, tfF, ftF, jup_at, jup_oc, jup_ok, s2, hpn], by simp (disch := omega) only [lits, negs, nI_add, nn1, leT, leF, ltT, ltF, eqF, mF1, mF2, mF3, mF4, mF5, mF6, mTT, eq_self, Nat.reduceEqDiff, ↓reduceIte, jbd_s, jpu_e, tI0, tI1, jgd_tI, jgd_bb, tfF, ftF, jup_at, jup_oc, jup_ok]⟩⟩
    · unfold f_M_next
      simp only [lits, negs]
      rw [s1, jpu_e, s2, eh1, jbd_s, if_pos rfl, jpu_e]
    · rw [jup_no (by omega), jup_no (by omega)]
      exact frM c k h
end NX
