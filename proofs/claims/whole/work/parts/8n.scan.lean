/-! the text's tokens: where they begin, where they end, what they are -/
def cL (c : Nat) : Bool := decide (97 ≤ c) && decide (c ≤ 122)
def cD (c : Nat) : Bool := decide (48 ≤ c) && decide (c ≤ 57)
def cW (c : Nat) : Bool := decide (c = 10) || decide (c = 32)
def c2 (c d : Nat) : Bool := (decide (c = 60) && (decide (d = 61) || decide (d = 62))) || (decide (c = 62) && decide (d = 61))
def runD (B : Nat → Nat) (p : Nat → Bool) : Nat → Nat → Nat
  | 0, a => a
  | d + 1, a => if p (B a) = true then runD B p d (a + 1) else a
def runE (B : Nat → Nat) (p : Nat → Bool) (n a : Nat) : Nat := runD B p (n - a) a
theorem runE_no {B : Nat → Nat} {p : Nat → Bool} {n a : Nat} (h : n ≤ a) : runE B p n a = a := by
  unfold runE
  rw [show n - a = 0 by omega]
  rfl
theorem runE_at {B : Nat → Nat} {p : Nat → Bool} {n a : Nat} (h : a < n) : runE B p n a = if p (B a) = true then runE B p n (a + 1) else a := by
  unfold runE
  rw [show n - a = (n - (a + 1)) + 1 by omega]
  rfl
theorem runD_le {B : Nat → Nat} {p : Nat → Bool} : ∀ d a, a ≤ runD B p d a ∧ runD B p d a ≤ a + d
  | 0, a => ⟨Nat.le_refl a, Nat.le_refl a⟩
  | d + 1, a => by
    unfold runD
    have := runD_le (B := B) (p := p) d (a + 1)
    split <;> omega
theorem runE_le {B : Nat → Nat} {p : Nat → Bool} {n a : Nat} (h : a ≤ n) : a ≤ runE B p n a ∧ runE B p n a ≤ n := by
  have := runD_le (B := B) (p := p) (n - a) a
  unfold runE
  omega
def endF (B : Nat → Nat) (n a : Nat) : Nat := if cL (B a) = true then runE B cL n (a + 1) else if cD (B a) = true then runE B cD n (a + 1) else if a + 1 < n ∧ c2 (B a) (B (a + 1)) = true then a + 2 else a + 1
theorem endF_le {B : Nat → Nat} {n a : Nat} (h : a < n) : a + 1 ≤ endF B n a ∧ endF B n a ≤ n := by
  unfold endF
  have h1 := runE_le (B := B) (p := cL) (n := n) (a := a + 1) (by omega)
  have h2 := runE_le (B := B) (p := cD) (n := n) (a := a + 1) (by omega)
  split
  · exact h1
  · split
    · exact h2
    · split <;> omega
theorem endF_W {B : Nat → Nat} {n a : Nat} (h : cW (B a) = true) : endF B n a = a + 1 ∧ cD (B a) = false ∧ cL (B a) = false := by
  have h1 : B a = 10 ∨ B a = 32 := by
    unfold cW at h
    rw [Bool.or_eq_true, decide_eq_true_iff, decide_eq_true_iff] at h
    exact h
  have h2 : cD (B a) = false := by rcases h1 with z | z <;> rw [z] <;> rfl
  have h3 : cL (B a) = false := by rcases h1 with z | z <;> rw [z] <;> rfl
  have h4 : c2 (B a) (B (a + 1)) = false := by rcases h1 with z | z <;> rw [z] <;> rfl
  refine ⟨?_, h2, h3⟩
  unfold endF
  rw [h2, h3, h4, if_neg (by decide), if_neg (by decide), if_neg (fun z => absurd z.2 (by decide))]
/-- where the next token begins -/
def skF (B : Nat → Nat) (n a : Nat) : Nat := runE B cW n a
def stF (B : Nat → Nat) (n : Nat) : Nat → Nat
  | 0 => skF B n 0
  | j + 1 => skF B n (endF B n (stF B n j))
theorem stF_le {B : Nat → Nat} {n : Nat} : ∀ j, (∀ i, i < j → stF B n i < n) → stF B n j ≤ n
  | 0, _ => (runE_le (Nat.zero_le n)).2
  | j + 1, h => (runE_le (endF_le (h j (by omega))).2).2
/-- a number as the class works it out -/
def clsN (B : Nat → Nat) : Nat → Nat → Nat → Nat
  | 0, _, v => v
  | d + 1, a, v => if cD (B a) = true then clsN B d (a + 1) (min 1000 (v * 10 + B a - 48)) else v
/-- does the text w stand there -/
def mch (w : Nat) (B : Nat → Nat) (f : Nat) : Nat → Nat → Bool
  | 0, _ => true
  | d + 1, k => decide (jsc w (nI k) = nI (B (f + k))) && mch w B f d (k + 1)
theorem mch_iff {w : Nat} {B : Nat → Nat} {f : Nat} : ∀ {d k : Nat}, mch w B f d k = true ↔ ∀ i, k ≤ i → i < k + d → jsc w (nI i) = nI (B (f + i))
  | 0, k => ⟨fun _ i h1 h2 => absurd h2 (by omega), fun _ => rfl⟩
  | d + 1, k => by
    unfold mch
    rw [Bool.and_eq_true, decide_eq_true_iff, mch_iff (d := d) (k := k + 1)]
    refine ⟨fun h i h1 h2 => ?_, fun h => ⟨h k (by omega) (by omega), fun i h1 h2 => h i (by omega) (by omega)⟩⟩
    by_cases q : i = k
    · rw [q]; exact h.1
    · exact h.2 i (by omega) (by omega)
def spM (w : Nat) (B : Nat → Nat) (f L : Nat) : Bool := decide (jstN.getD (w - 2001) 0 = L) && mch w B f L 0
theorem spM_iff {w : Nat} {B : Nat → Nat} {f L : Nat} : spM w B f L = true ↔ jstN.getD (w - 2001) 0 = L ∧ ∀ i, i < L → jsc w (nI i) = nI (B (f + i)) := by
  unfold spM
  rw [Bool.and_eq_true, decide_eq_true_iff, mch_iff]
  exact ⟨fun h => ⟨h.1, fun i hi => h.2 i (by omega) (by omega)⟩, fun h => ⟨h.1, fun i _ hi => h.2 i (by omega)⟩⟩
theorem sc_nI {ρ : Type} {w k : Nat} {K : Int32 → Option ρ} (hw : jsk w) (hk : k < jstN.getD (w - 2001) 0) : jSC w (nI k) K = K (jsc w (nI k)) := by
  unfold jSC
  rw [if_pos ⟨hw, nI_in hk (jstN_lt _ (by have := hw.2; omega))⟩]
theorem sl_nI {ρ : Type} {w : Nat} {K : Int32 → Option ρ} (hw : jsk w) : jSL w K = K (nI (jstN.getD (w - 2001) 0)) := by
  unfold jSL
  rw [if_pos hw]
  rfl
theorem L33_nI {ρ : Type} {i : Nat} {K : Nat → Option ρ} (h : i < 33) : jL33 (nI i) K = K (1001 + i) := by
  unfold jL33
  rw [if_neg (nI_in h (by decide)), nI_clamp (by omega)]
section SC
variable {B : Nat → Nat} {n : Nat} {m : jMem}
theorem e_SD {c : Nat} (h : c < 1000) : f_S_isDigit (nI c) m = some (tI (cD c), m) := by
  unfold f_S_isDigit cD
  by_cases h1 : 48 ≤ c
  · by_cases h2 : c ≤ 57
    · rw [decide_eq_true h1, decide_eq_true h2]; simp (disch := omega) only [lits, negs, nI_add, nn1, leT, leF, ltT, ltF, eqF, mF1, mF2, mF3, mF4, mF5, mF6, mTT, eq_self, Nat.reduceEqDiff, ↓reduceIte, jbd_s, jpu_e, tI0, tI1, jgd_tI, jgd_bb, tfF, ftF, jup_at, jup_oc, jup_ok, Bool.and_self, tI_t]
    · rw [decide_eq_true h1, decide_eq_false h2]; simp (disch := omega) only [lits, negs, nI_add, nn1, leT, leF, ltT, ltF, eqF, mF1, mF2, mF3, mF4, mF5, mF6, mTT, eq_self, Nat.reduceEqDiff, ↓reduceIte, jbd_s, jpu_e, tI0, tI1, jgd_tI, jgd_bb, tfF, ftF, jup_at, jup_oc, jup_ok, Bool.and_false, tI_f]
  · rw [decide_eq_false h1]; simp (disch := omega) only [lits, negs, nI_add, nn1, leT, leF, ltT, ltF, eqF, mF1, mF2, mF3, mF4, mF5, mF6, mTT, eq_self, Nat.reduceEqDiff, ↓reduceIte, jbd_s, jpu_e, tI0, tI1, jgd_tI, jgd_bb, tfF, ftF, jup_at, jup_oc, jup_ok, Bool.false_and, tI_f]
theorem e_SL {c : Nat} (h : c < 1000) : f_S_isSmallLetter (nI c) m = some (tI (cL c), m) := by
  unfold f_S_isSmallLetter cL
  by_cases h1 : 97 ≤ c
  · by_cases h2 : c ≤ 122
    · rw [decide_eq_true h1, decide_eq_true h2]; simp (disch := omega) only [lits, negs, nI_add, nn1, leT, leF, ltT, ltF, eqF, mF1, mF2, mF3, mF4, mF5, mF6, mTT, eq_self, Nat.reduceEqDiff, ↓reduceIte, jbd_s, jpu_e, tI0, tI1, jgd_tI, jgd_bb, tfF, ftF, jup_at, jup_oc, jup_ok, Bool.and_self, tI_t]
    · rw [decide_eq_true h1, decide_eq_false h2]; simp (disch := omega) only [lits, negs, nI_add, nn1, leT, leF, ltT, ltF, eqF, mF1, mF2, mF3, mF4, mF5, mF6, mTT, eq_self, Nat.reduceEqDiff, ↓reduceIte, jbd_s, jpu_e, tI0, tI1, jgd_tI, jgd_bb, tfF, ftF, jup_at, jup_oc, jup_ok, Bool.and_false, tI_f]
  · rw [decide_eq_false h1]; simp (disch := omega) only [lits, negs, nI_add, nn1, leT, leF, ltT, ltF, eqF, mF1, mF2, mF3, mF4, mF5, mF6, mTT, eq_self, Nat.reduceEqDiff, ↓reduceIte, jbd_s, jpu_e, tI0, tI1, jgd_tI, jgd_bb, tfF, ftF, jup_at, jup_oc, jup_ok, Bool.false_and, tI_f]
theorem e_S2 {c d : Nat} (h : c < 1000) (hd : d < 1000) : f_S_isOneSign (nI c) (nI d) m = some (tI (c2 c d), m) := by
  unfold f_S_isOneSign c2
  by_cases h1 : c = 60
  · subst h1
    by_cases h2 : d = 61
    · subst h2; simp (disch := omega) only [lits, negs, nI_add, nn1, leT, leF, ltT, ltF, eqF, mF1, mF2, mF3, mF4, mF5, mF6, mTT, eq_self, Nat.reduceEqDiff, ↓reduceIte, jbd_s, jpu_e, tI0, tI1, jgd_tI, jgd_bb, tfF, ftF, jup_at, jup_oc, jup_ok]; rfl
    · by_cases h3 : d = 62
      · subst h3; simp (disch := omega) only [lits, negs, nI_add, nn1, leT, leF, ltT, ltF, eqF, mF1, mF2, mF3, mF4, mF5, mF6, mTT, eq_self, Nat.reduceEqDiff, ↓reduceIte, jbd_s, jpu_e, tI0, tI1, jgd_tI, jgd_bb, tfF, ftF, jup_at, jup_oc, jup_ok]; rfl
      · rw [decide_eq_false h2, decide_eq_false h3]; simp (disch := omega) only [lits, negs, nI_add, nn1, leT, leF, ltT, ltF, eqF, mF1, mF2, mF3, mF4, mF5, mF6, mTT, eq_self, Nat.reduceEqDiff, ↓reduceIte, jbd_s, jpu_e, tI0, tI1, jgd_tI, jgd_bb, tfF, ftF, jup_at, jup_oc, jup_ok]; rfl
  · by_cases h4 : c = 62
    · subst h4
      by_cases h2 : d = 61
      · subst h2; simp (disch := omega) only [lits, negs, nI_add, nn1, leT, leF, ltT, ltF, eqF, mF1, mF2, mF3, mF4, mF5, mF6, mTT, eq_self, Nat.reduceEqDiff, ↓reduceIte, jbd_s, jpu_e, tI0, tI1, jgd_tI, jgd_bb, tfF, ftF, jup_at, jup_oc, jup_ok]; rfl
      · rw [decide_eq_false h2]; simp (disch := omega) only [lits, negs, nI_add, nn1, leT, leF, ltT, ltF, eqF, mF1, mF2, mF3, mF4, mF5, mF6, mTT, eq_self, Nat.reduceEqDiff, ↓reduceIte, jbd_s, jpu_e, tI0, tI1, jgd_tI, jgd_bb, tfF, ftF, jup_at, jup_oc, jup_ok]; rfl
    · rw [decide_eq_false h1, decide_eq_false h4]; simp (disch := omega) only [lits, negs, nI_add, nn1, leT, leF, ltT, ltF, eqF, mF1, mF2, mF3, mF4, mF5, mF6, mTT, eq_self, Nat.reduceEqDiff, ↓reduceIte, jbd_s, jpu_e, tI0, tI1, jgd_tI, jgd_bb, tfF, ftF, jup_at, jup_oc, jup_ok]; rfl
theorem lp_en16 (hn4 : n ≤ 400) (hn : m 24 1 = nI n) (hB : ∀ i, m 2 i = nI (B i) ∧ B i < 256) {k : Int32 → jMem → Option (Int32 × jMem)} : ∀ (d f a : Nat), a + d = n → d < f → lp_S_endOf_16 k f (nI a) m = k (nI (runE B cL n a)) m := by
  intro d
  induction d with
  | zero =>
    intro f a h1 h2
    obtain ⟨f, rfl⟩ := ex_succ h2
    rw [lp_S_endOf_16, runE_no (by omega)]
    simp (disch := omega) only [lits, negs, nI_add, nn1, leT, leF, ltT, ltF, eqF, mF1, mF2, mF3, mF4, mF5, mF6, mTT, eq_self, Nat.reduceEqDiff, ↓reduceIte, jbd_s, jpu_e, tI0, tI1, jgd_tI, jgd_bb, tfF, ftF, jup_at, jup_oc, jup_ok, hn]
  | succ d ih =>
    intro f a h1 h2
    obtain ⟨f, rfl⟩ := ex_succ h2
    have e := ih f (a + 1) (by omega) (by omega)
    obtain ⟨b1, b2⟩ := hB a
    rw [lp_S_endOf_16, runE_at (by omega)]
    cases q : cL (B a)
    · simp (disch := omega) only [lits, negs, nI_add, nn1, leT, leF, ltT, ltF, eqF, mF1, mF2, mF3, mF4, mF5, mF6, mTT, eq_self, Nat.reduceEqDiff, ↓reduceIte, jbd_s, jpu_e, tI0, tI1, jgd_tI, jgd_bb, tfF, ftF, jup_at, jup_oc, jup_ok, hn, ld_2, b1, e_SL, q, if_neg Bool.false_ne_true]
    · rw [if_pos rfl]
      simp (disch := omega) only [lits, negs, nI_add, nn1, leT, leF, ltT, ltF, eqF, mF1, mF2, mF3, mF4, mF5, mF6, mTT, eq_self, Nat.reduceEqDiff, ↓reduceIte, jbd_s, jpu_e, tI0, tI1, jgd_tI, jgd_bb, tfF, ftF, jup_at, jup_oc, jup_ok, hn, ld_2, b1, e_SL, q]
      exact e
theorem lp_en54 (hn4 : n ≤ 400) (hn : m 24 1 = nI n) (hB : ∀ i, m 2 i = nI (B i) ∧ B i < 256) {k : Int32 → jMem → Option (Int32 × jMem)} : ∀ (d f a : Nat), a + d = n → d < f → lp_S_endOf_54 k f (nI a) m = k (nI (runE B cD n a)) m := by
  intro d
  induction d with
  | zero =>
    intro f a h1 h2
    obtain ⟨f, rfl⟩ := ex_succ h2
    rw [lp_S_endOf_54, runE_no (by omega)]
    simp (disch := omega) only [lits, negs, nI_add, nn1, leT, leF, ltT, ltF, eqF, mF1, mF2, mF3, mF4, mF5, mF6, mTT, eq_self, Nat.reduceEqDiff, ↓reduceIte, jbd_s, jpu_e, tI0, tI1, jgd_tI, jgd_bb, tfF, ftF, jup_at, jup_oc, jup_ok, hn]
  | succ d ih =>
    intro f a h1 h2
    obtain ⟨f, rfl⟩ := ex_succ h2
    have e := ih f (a + 1) (by omega) (by omega)
    obtain ⟨b1, b2⟩ := hB a
    rw [lp_S_endOf_54, runE_at (by omega)]
    cases q : cD (B a)
    · simp (disch := omega) only [lits, negs, nI_add, nn1, leT, leF, ltT, ltF, eqF, mF1, mF2, mF3, mF4, mF5, mF6, mTT, eq_self, Nat.reduceEqDiff, ↓reduceIte, jbd_s, jpu_e, tI0, tI1, jgd_tI, jgd_bb, tfF, ftF, jup_at, jup_oc, jup_ok, hn, ld_2, b1, e_SD, q, if_neg Bool.false_ne_true]
    · rw [if_pos rfl]
      simp (disch := omega) only [lits, negs, nI_add, nn1, leT, leF, ltT, ltF, eqF, mF1, mF2, mF3, mF4, mF5, mF6, mTT, eq_self, Nat.reduceEqDiff, ↓reduceIte, jbd_s, jpu_e, tI0, tI1, jgd_tI, jgd_bb, tfF, ftF, jup_at, jup_oc, jup_ok, hn, ld_2, b1, e_SD, q]
      exact e
theorem e_SE (hn4 : n ≤ 400) (hn : m 24 1 = nI n) (hB : ∀ i, m 2 i = nI (B i) ∧ B i < 256) {a : Nat} (ha : a < n) : f_S_endOf (nI a) m = some (nI (endF B n a), m) := by
  obtain ⟨b1, b2⟩ := hB a
  obtain ⟨b3, b4⟩ := hB (a + 1)
  unfold f_S_endOf endF
  cases h1 : cL (B a)
  · cases h2 : cD (B a)
    · rw [if_neg Bool.false_ne_true, if_neg Bool.false_ne_true]
      by_cases h3 : a + 1 < n
      · cases h4 : c2 (B a) (B (a + 1))
        · rw [if_neg (fun z => Bool.false_ne_true z.2)]
          simp (disch := omega) only [lits, negs, nI_add, nn1, leT, leF, ltT, ltF, eqF, mF1, mF2, mF3, mF4, mF5, mF6, mTT, eq_self, Nat.reduceEqDiff, ↓reduceIte, jbd_s, jpu_e, tI0, tI1, jgd_tI, jgd_bb, tfF, ftF, jup_at, jup_oc, jup_ok, hn, ld_2, b1, e_SL, e_SD, h1, h2, b3, e_S2, h4]
        · rw [if_pos ⟨h3, rfl⟩]
          simp (disch := omega) only [lits, negs, nI_add, nn1, leT, leF, ltT, ltF, eqF, mF1, mF2, mF3, mF4, mF5, mF6, mTT, eq_self, Nat.reduceEqDiff, ↓reduceIte, jbd_s, jpu_e, tI0, tI1, jgd_tI, jgd_bb, tfF, ftF, jup_at, jup_oc, jup_ok, hn, ld_2, b1, e_SL, e_SD, h1, h2, b3, e_S2, h4]
      · rw [if_neg (fun z => h3 z.1)]
        simp (disch := omega) only [lits, negs, nI_add, nn1, leT, leF, ltT, ltF, eqF, mF1, mF2, mF3, mF4, mF5, mF6, mTT, eq_self, Nat.reduceEqDiff, ↓reduceIte, jbd_s, jpu_e, tI0, tI1, jgd_tI, jgd_bb, tfF, ftF, jup_at, jup_oc, jup_ok, hn, ld_2, b1, e_SL, e_SD, h1, h2]
    · have e := lp_en54 (k := fun w15 m14 => some (w15, m14)) hn4 hn hB (n - (a + 1)) 5000 (a + 1) (by omega) (by omega)
      rw [if_neg Bool.false_ne_true, if_pos rfl]
      simp (disch := omega) only [lits, negs, nI_add, nn1, leT, leF, ltT, ltF, eqF, mF1, mF2, mF3, mF4, mF5, mF6, mTT, eq_self, Nat.reduceEqDiff, ↓reduceIte, jbd_s, jpu_e, tI0, tI1, jgd_tI, jgd_bb, tfF, ftF, jup_at, jup_oc, jup_ok, ld_2, b1, e_SL, e_SD, h1, h2]
      exact e
  · have e := lp_en16 (k := fun w15 m14 => some (w15, m14)) hn4 hn hB (n - (a + 1)) 5000 (a + 1) (by omega) (by omega)
    rw [if_pos rfl]
    simp (disch := omega) only [lits, negs, nI_add, nn1, leT, leF, ltT, ltF, eqF, mF1, mF2, mF3, mF4, mF5, mF6, mTT, eq_self, Nat.reduceEqDiff, ↓reduceIte, jbd_s, jpu_e, tI0, tI1, jgd_tI, jgd_bb, tfF, ftF, jup_at, jup_oc, jup_ok, ld_2, b1, e_SL, h1]
    exact e
theorem lp_wo (hn4 : n ≤ 400) (hn : m 24 1 = nI n) (hB : ∀ i, m 2 i = nI (B i) ∧ B i < 256) {k : Int32 → jMem → Option (Int32 × jMem)} : ∀ (d f a v : Nat), a + d = n → d < f → v ≤ 1000 → lp_S_worthOf_4 k f (nI v) (nI a) m = k (nI (clsN B d a v)) m := by
  intro d
  induction d with
  | zero =>
    intro f a v h1 h2 hv
    obtain ⟨f, rfl⟩ := ex_succ h2
    rw [lp_S_worthOf_4, clsN]
    simp (disch := omega) only [lits, negs, nI_add, nn1, leT, leF, ltT, ltF, eqF, mF1, mF2, mF3, mF4, mF5, mF6, mTT, eq_self, Nat.reduceEqDiff, ↓reduceIte, jbd_s, jpu_e, tI0, tI1, jgd_tI, jgd_bb, tfF, ftF, jup_at, jup_oc, jup_ok, hn]
  | succ d ih =>
    intro f a v h1 h2 hv
    obtain ⟨f, rfl⟩ := ex_succ h2
    have e := ih f (a + 1) (min 1000 (v * 10 + B a - 48)) (by omega) (by omega) (by omega)
    obtain ⟨b1, b2⟩ := hB a
    rw [lp_S_worthOf_4, clsN]
    cases q : cD (B a)
    · simp (disch := omega) only [lits, negs, nI_add, nn1, leT, leF, ltT, ltF, eqF, mF1, mF2, mF3, mF4, mF5, mF6, mTT, eq_self, Nat.reduceEqDiff, ↓reduceIte, jbd_s, jpu_e, tI0, tI1, jgd_tI, jgd_bb, tfF, ftF, jup_at, jup_oc, jup_ok, hn, ld_2, b1, e_SD, q, if_neg Bool.false_ne_true]
    · have hq : 48 ≤ B a := by
        unfold cD at q
        rw [Bool.and_eq_true, decide_eq_true_iff] at q
        exact q.1
      rw [if_pos rfl]
      simp (disch := omega) only [lits, negs, nI_add, nn1, leT, leF, ltT, ltF, eqF, mF1, mF2, mF3, mF4, mF5, mF6, mTT, eq_self, Nat.reduceEqDiff, ↓reduceIte, jbd_s, jpu_e, tI0, tI1, jgd_tI, jgd_bb, tfF, ftF, jup_at, jup_oc, jup_ok, hn, ld_2, b1, e_SD, q]
      rw [pk_mul, nI_add, n_sub (by omega), jmin_nI (by omega) (by omega)]
      exact e
theorem lp_sp15 (hn4 : n ≤ 400) (hn : m 24 1 = nI n) (hB : ∀ i, m 2 i = nI (B i) ∧ B i < 256) {w f L : Nat} {k39 k47 : jMem → Option (Int32 × jMem)} (hw : jsk w) (hl : jstN.getD (w - 2001) 0 = L) (hf : f + L ≤ n) : ∀ (d g k : Nat), k + d = L → d < g → lp_S_spells_15 w (nI f) (nI (f + L)) k39 k47 g (nI (f + k)) m = if mch w B f d k = true then k47 m else k39 m := by
  intro d
  induction d with
  | zero =>
    intro g k h1 h2
    obtain ⟨g, rfl⟩ := ex_succ h2
    rw [lp_S_spells_15, show f + k = f + L by omega]
    simp (disch := omega) only [lits, negs, nI_add, nn1, leT, leF, ltT, ltF, eqF, mF1, mF2, mF3, mF4, mF5, mF6, mTT, eq_self, Nat.reduceEqDiff, ↓reduceIte, jbd_s, jpu_e, tI0, tI1, jgd_tI, jgd_bb, tfF, ftF, jup_at, jup_oc, jup_ok]
    rfl
  | succ d ih =>
    intro g k h1 h2
    obtain ⟨g, rfl⟩ := ex_succ h2
    have e := ih g (k + 1) (by omega) (by omega)
    obtain ⟨b1, b2⟩ := hB (f + k)
    have hs : nI (f + k) - nI f = nI k := by rw [n_sub (by omega), show f + k - f = k by omega]
    rw [lp_S_spells_15, mch]
    by_cases q : jsc w (nI k) = nI (B (f + k))
    · rw [decide_eq_true q, Bool.true_and, ← e]
      simp (disch := omega) only [lits, negs, nI_add, nn1, leT, leF, ltT, ltF, eqF, mF1, mF2, mF3, mF4, mF5, mF6, mTT, eq_self, Nat.reduceEqDiff, ↓reduceIte, jbd_s, jpu_e, tI0, tI1, jgd_tI, jgd_bb, tfF, ftF, jup_at, jup_oc, jup_ok, hs]
      rw [sc_nI hw (by omega)]
      simp (disch := omega) only [lits, negs, nI_add, nn1, leT, leF, ltT, ltF, eqF, mF1, mF2, mF3, mF4, mF5, mF6, mTT, eq_self, Nat.reduceEqDiff, ↓reduceIte, jbd_s, jpu_e, tI0, tI1, jgd_tI, jgd_bb, tfF, ftF, jup_at, jup_oc, jup_ok, ld_2, b1]
      rw [if_pos q]
      rfl
    · rw [decide_eq_false q, Bool.false_and, if_neg Bool.false_ne_true]
      simp (disch := omega) only [lits, negs, nI_add, nn1, leT, leF, ltT, ltF, eqF, mF1, mF2, mF3, mF4, mF5, mF6, mTT, eq_self, Nat.reduceEqDiff, ↓reduceIte, jbd_s, jpu_e, tI0, tI1, jgd_tI, jgd_bb, tfF, ftF, jup_at, jup_oc, jup_ok, hs]
      rw [sc_nI hw (by omega)]
      simp (disch := omega) only [lits, negs, nI_add, nn1, leT, leF, ltT, ltF, eqF, mF1, mF2, mF3, mF4, mF5, mF6, mTT, eq_self, Nat.reduceEqDiff, ↓reduceIte, jbd_s, jpu_e, tI0, tI1, jgd_tI, jgd_bb, tfF, ftF, jup_at, jup_oc, jup_ok, ld_2, b1]
      rw [if_neg q]
theorem e_spells (hn4 : n ≤ 400) (hn : m 24 1 = nI n) (hB : ∀ i, m 2 i = nI (B i) ∧ B i < 256) {w f e : Nat} (hw : jsk w) (hf : f ≤ e) (he : e ≤ n) : f_S_spells w (nI f) (nI e) m = some (tI (spM w B f (e - f)), m) := by
  have hlt : jstN.getD (w - 2001) 0 < 2 ^ 31 := jstN_lt _ (by have := hw.2; omega)
  unfold f_S_spells spM
  rw [sl_nI hw, n_sub hf]
  by_cases q : jstN.getD (w - 2001) 0 = e - f
  · have e1 := lp_sp15 (w := w) (f := f) (L := e - f) (k39 := fun m4 => some (nI 0, m4)) (k47 := fun m5 => some (nI 1, m5)) hn4 hn hB hw q (by omega) (e - f) 5000 0 (by omega) (by omega)
    rw [show f + (e - f) = e by omega, Nat.add_zero] at e1
    rw [decide_eq_true q, Bool.true_and, if_pos (by rw [q])]
    simp only [lits]
    rw [e1]
    cases mch w B f (e - f) 0 <;> rfl
  · rw [decide_eq_false q, Bool.false_and, if_neg (fun z => q (nI_ij (by omega) (by omega) z))]
    rfl
theorem lp_sd11 (hn4 : n ≤ 400) (hn : m 24 1 = nI n) (hB : ∀ i, m 2 i = nI (B i) ∧ B i < 256) {f e : Nat} {k38 : Nat → jMem → Option (Nat × jMem)} {k47 : jMem → Option (Nat × jMem)} (hf : f ≤ e) (he : e ≤ n) : ∀ (d g i : Nat), i + d = 33 → d < g → (∃ t, t < 33 ∧ spM (jtkS (1001 + t)) B f (e - f) = true ∧ lp_S_spelled_11 (nI f) (nI e) (nI 33) k38 k47 g (nI i) m = k38 (1001 + t) m) ∨ ((∀ t, i ≤ t → t < 33 → spM (jtkS (1001 + t)) B f (e - f) = false) ∧ lp_S_spelled_11 (nI f) (nI e) (nI 33) k38 k47 g (nI i) m = k47 m) := by
  intro d
  induction d with
  | zero =>
    intro g i h1 h2
    obtain ⟨g, rfl⟩ := ex_succ h2
    refine Or.inr ⟨fun t h3 h4 => absurd h3 (by omega), ?_⟩
    rw [lp_S_spelled_11]
    simp (disch := omega) only [lits, negs, nI_add, nn1, leT, leF, ltT, ltF, eqF, mF1, mF2, mF3, mF4, mF5, mF6, mTT, eq_self, Nat.reduceEqDiff, ↓reduceIte, jbd_s, jpu_e, tI0, tI1, jgd_tI, jgd_bb, tfF, ftF, jup_at, jup_oc, jup_ok]
  | succ d ih =>
    intro g i h1 h2
    obtain ⟨g, rfl⟩ := ex_succ h2
    have hk : ∀ t, t < 33 → jsk (jtkS (1001 + t)) := by decide
    have e1 := e_spells (w := jtkS (1001 + i)) hn4 hn hB (hk i (by omega)) hf he
    have e0 : ∀ b, spM (jtkS (1001 + i)) B f (e - f) = b → lp_S_spelled_11 (nI f) (nI e) (nI 33) k38 k47 (g + 1) (nI i) m = if b = true then k38 (1001 + i) m else lp_S_spelled_11 (nI f) (nI e) (nI 33) k38 k47 g (nI (i + 1)) m := fun b hb => by
      rw [hb] at e1
      rw [lp_S_spelled_11]
      simp (disch := omega) only [lits, negs, nI_add, nn1, leT, leF, ltT, ltF, eqF, mF1, mF2, mF3, mF4, mF5, mF6, mTT, eq_self, Nat.reduceEqDiff, ↓reduceIte, jbd_s, jpu_e, tI0, tI1, jgd_tI, jgd_bb, tfF, ftF, jup_at, jup_oc, jup_ok]
      rw [L33_nI (by omega), jgd_tk (by omega), jlt_e, e1, jbd_s]
      cases b
      · simp (disch := omega) only [lits, negs, nI_add, nn1, leT, leF, ltT, ltF, eqF, mF1, mF2, mF3, mF4, mF5, mF6, mTT, eq_self, Nat.reduceEqDiff, ↓reduceIte, jbd_s, jpu_e, tI0, tI1, jgd_tI, jgd_bb, tfF, ftF, jup_at, jup_oc, jup_ok, if_neg Bool.false_ne_true]
      · simp (disch := omega) only [lits, negs, nI_add, nn1, leT, leF, ltT, ltF, eqF, mF1, mF2, mF3, mF4, mF5, mF6, mTT, eq_self, Nat.reduceEqDiff, ↓reduceIte, jbd_s, jpu_e, tI0, tI1, jgd_tI, jgd_bb, tfF, ftF, jup_at, jup_oc, jup_ok]
    cases q : spM (jtkS (1001 + i)) B f (e - f)
    · have e2 := e0 _ q
      rw [if_neg Bool.false_ne_true] at e2
      rcases ih g (i + 1) (by omega) (by omega) with ⟨t, t1, t2, t3⟩ | ⟨t1, t2⟩
      · exact Or.inl ⟨t, t1, t2, e2.trans t3⟩
      · refine Or.inr ⟨fun t h3 h4 => ?_, e2.trans t2⟩
        by_cases z : t = i
        · rw [z]; exact q
        · exact t1 t (by omega) h4
    · have e2 := e0 _ q
      rw [if_pos rfl] at e2
      exact Or.inl ⟨i, by omega, q, e2⟩
end SC
/-- what the class makes of the token that begins at a -/
def tkA (B : Nat → Nat) (n a : Nat) (t w : Int32) : Prop := (cD (B a) = true ∧ t = nI 1003 ∧ w = nI (clsN B (n - a) a 0)) ∨ (cD (B a) = false ∧ w = nI 0 ∧ ((∃ i, i < 33 ∧ t = nI (1001 + i) ∧ spM (jtkS (1001 + i)) B a (endF B n a - a) = true) ∨ (t = nI 1002 ∧ ∀ i, i < 33 → spM (jtkS (1001 + i)) B a (endF B n a - a) = false)))
theorem e_put {t c p w : Nat} {m : jMem} (ht : 1001 ≤ t ∧ t ≤ 1033) (hc : c < 401) (h : m 24 5 = nI c) : f_S_put t (nI p) (nI w) m = some ((), jup (jup (jup (jup m 25 c (nI t)) 26 c (nI p)) 27 c (nI w)) 24 5 (nI (c + 1))) := by
  unfold f_S_put
  simp only [lits]
  rw [h, if_neg (nI_ge (by omega) (by omega)), jgd_tk ht, st_25 hc]
  simp (disch := omega) only [lits, negs, nI_add, nn1, leT, leF, ltT, ltF, eqF, mF1, mF2, mF3, mF4, mF5, mF6, mTT, eq_self, Nat.reduceEqDiff, ↓reduceIte, jbd_s, jpu_e, tI0, tI1, jgd_tI, jgd_bb, tfF, ftF, jup_at, jup_oc, jup_ok, h, st_26, st_27]
  rfl
def ctI (B : Nat → Nat) (n c : Nat) (m0 m : jMem) : Prop := (m 24 1 = nI n) ∧ (m 24 5 = nI c) ∧ (∀ q, ¬ q = 24 → ¬ q = 25 → ¬ q = 26 → ¬ q = 27 → m q = m0 q) ∧ (∀ j, j < c → stF B n j < n ∧ m 26 j = nI (stF B n j) ∧ tkA B n (stF B n j) (m 25 j) (m 27 j))
theorem ctI.ln {B : Nat → Nat} {n c : Nat} {m0 m : jMem} (h : ctI B n c m0 m) : m 24 1 = nI n := h.1
theorem ctI.cn {B : Nat → Nat} {n c : Nat} {m0 m : jMem} (h : ctI B n c m0 m) : m 24 5 = nI c := h.2.1
theorem ctI.fr {B : Nat → Nat} {n c : Nat} {m0 m : jMem} (h : ctI B n c m0 m) : ∀ q, ¬ q = 24 → ¬ q = 25 → ¬ q = 26 → ¬ q = 27 → m q = m0 q := h.2.2.1
theorem ctI.tk {B : Nat → Nat} {n c : Nat} {m0 m : jMem} (h : ctI B n c m0 m) : ∀ j, j < c → stF B n j < n ∧ m 26 j = nI (stF B n j) ∧ tkA B n (stF B n j) (m 25 j) (m 27 j) := h.2.2.2
theorem ctI.put {B : Nat → Nat} {n c a t w : Nat} {m0 m : jMem} (h : ctI B n c m0 m) (hs : a = stF B n c) (ha : a < n) (ht : tkA B n a (nI t) (nI w)) : ctI B n (c + 1) m0 (jup (jup (jup (jup m 25 c (nI t)) 26 c (nI a)) 27 c (nI w)) 24 5 (nI (c + 1))) := by
  refine ⟨by simp (disch := omega) only [lits, negs, nI_add, nn1, leT, leF, ltT, ltF, eqF, mF1, mF2, mF3, mF4, mF5, mF6, mTT, eq_self, Nat.reduceEqDiff, ↓reduceIte, jbd_s, jpu_e, tI0, tI1, jgd_tI, jgd_bb, tfF, ftF, jup_at, jup_oc, jup_ok, h.ln], jup_at, fun q h1 h2 h3 h4 => ?_, fun j hj => ?_⟩
  · rw [jup_oc h1, jup_oc h4, jup_oc h3, jup_oc h2]; exact h.fr q h1 h2 h3 h4
  · by_cases q : j = c
    · subst q
      rw [← hs]
      simp (disch := omega) only [lits, negs, nI_add, nn1, leT, leF, ltT, ltF, eqF, mF1, mF2, mF3, mF4, mF5, mF6, mTT, eq_self, Nat.reduceEqDiff, ↓reduceIte, jbd_s, jpu_e, tI0, tI1, jgd_tI, jgd_bb, tfF, ftF, jup_at, jup_oc, jup_ok]
      exact ⟨ha, trivial, ht⟩
    · simp (disch := omega) only [lits, negs, nI_add, nn1, leT, leF, ltT, ltF, eqF, mF1, mF2, mF3, mF4, mF5, mF6, mTT, eq_self, Nat.reduceEqDiff, ↓reduceIte, jbd_s, jpu_e, tI0, tI1, jgd_tI, jgd_bb, tfF, ftF, jup_at, jup_oc, jup_ok]
      exact h.tk j (by omega)
theorem lp_cut {B : Nat → Nat} {n : Nat} {m0 : jMem} {k : jMem → Option (Unit × jMem)} (hn4 : n ≤ 400) (hB : ∀ i, m0 2 i = nI (B i) ∧ B i < 256) : ∀ (d f a c : Nat) (m : jMem), n ≤ a + d → a ≤ n → d < f → c ≤ a → skF B n a = stF B n c → ctI B n c m0 m → ∃ m' K, lp_S_cut_20 k f (nI a) m = k m' ∧ K ≤ n ∧ stF B n K = n ∧ ctI B n K m0 m' := by
  intro d
  induction d with
  | zero =>
    intro f a c m h1 h2 h3 h4 h5 h6
    obtain ⟨f, rfl⟩ := ex_succ h3
    refine ⟨m, c, ?_, by omega, ?_, h6⟩
    · rw [lp_S_cut_20, show a = n by omega]
      simp (disch := omega) only [lits, negs, nI_add, nn1, leT, leF, ltT, ltF, eqF, mF1, mF2, mF3, mF4, mF5, mF6, mTT, eq_self, Nat.reduceEqDiff, ↓reduceIte, jbd_s, jpu_e, tI0, tI1, jgd_tI, jgd_bb, tfF, ftF, jup_at, jup_oc, jup_ok, h6.ln]
    · rw [← h5]
      unfold skF
      rw [runE_no (by omega)]
      omega
  | succ d ih =>
    intro f a c m h1 h2 h3 h4 h5 h6
    obtain ⟨f, rfl⟩ := ex_succ h3
    by_cases hq : a = n
    · refine ⟨m, c, ?_, by omega, ?_, h6⟩
      · rw [lp_S_cut_20, hq]
        simp (disch := omega) only [lits, negs, nI_add, nn1, leT, leF, ltT, ltF, eqF, mF1, mF2, mF3, mF4, mF5, mF6, mTT, eq_self, Nat.reduceEqDiff, ↓reduceIte, jbd_s, jpu_e, tI0, tI1, jgd_tI, jgd_bb, tfF, ftF, jup_at, jup_oc, jup_ok, h6.ln]
      · rw [← h5]
        unfold skF
        rw [runE_no (by omega)]
        omega
    · have han : a < n := by omega
      have hBm : ∀ i, m 2 i = nI (B i) ∧ B i < 256 := fun i => by rw [h6.fr 2 (by omega) (by omega) (by omega) (by omega)]; exact hB i
      obtain ⟨b1, b2⟩ := hBm a
      have eE := e_SE hn4 h6.ln hBm han
      obtain ⟨l1, l2⟩ := endF_le (B := B) han
      have hsk : skF B n a = if cW (B a) = true then skF B n (a + 1) else a := runE_at han
      have hmx : jmax (nI (a + 1)) (nI (endF B n a)) = nI (endF B n a) := by
        rw [jmax_nI (by omega) (by omega), show max (a + 1) (endF B n a) = endF B n a by omega]
      cases hW : cW (B a)
      · rw [hW, if_neg Bool.false_ne_true] at hsk
        have hst : a = stF B n c := hsk.symm.trans h5
        have hnw : ¬ B a = 10 ∧ ¬ B a = 32 := by
          unfold cW at hW
          rw [Bool.or_eq_false_iff, decide_eq_false_iff_not, decide_eq_false_iff_not] at hW
          exact hW
        have next : ∀ m', ctI B n (c + 1) m0 m' → ∃ m'' K, lp_S_cut_20 k f (nI (endF B n a)) m' = k m'' ∧ K ≤ n ∧ stF B n K = n ∧ ctI B n K m0 m'' := fun m' hm' => ih f (endF B n a) (c + 1) m' (by omega) (by omega) (by omega) (by omega) (by rw [stF, ← hst]) hm'
        cases hD : cD (B a)
        · have hz : ∀ t, (1001 ≤ t ∧ t ≤ 1033) → f_S_spelled (nI a) (nI (endF B n a)) m = some (t, m) → tkA B n a (nI t) (nI 0) → ∃ m' K, lp_S_cut_20 k (f + 1) (nI a) m = k m' ∧ K ≤ n ∧ stF B n K = n ∧ ctI B n K m0 m' := fun t ht hs hA => by
            have hI := h6.put hst han hA
            obtain ⟨m'', K, e1, e2⟩ := next _ hI
            have hBm2 : ∀ i, jup (jup (jup (jup m 25 c (nI t)) 26 c (nI a)) 27 c (nI 0)) 24 5 (nI (c + 1)) 2 i = nI (B i) ∧ B i < 256 := fun i => by rw [hI.fr 2 (by omega) (by omega) (by omega) (by omega)]; exact hB i
            have eE2 := e_SE hn4 hI.ln hBm2 han
            refine ⟨m'', K, ?_, e2⟩
            rw [lp_S_cut_20]
            simp (disch := omega) only [lits, negs, nI_add, nn1, leT, leF, ltT, ltF, eqF, mF1, mF2, mF3, mF4, mF5, mF6, mTT, eq_self, Nat.reduceEqDiff, ↓reduceIte, jbd_s, jpu_e, tI0, tI1, jgd_tI, jgd_bb, tfF, ftF, jup_at, jup_oc, jup_ok, h6.ln, ld_2, b1, e_SD, hD, hnw.1, hnw.2, eE]
            rw [hs, jbd_s, e_put ht (by omega) h6.cn, jbd_s, eE2, jbd_s, hmx]
            exact e1
          unfold f_S_spelled at hz
          simp only [lits] at hz
          rcases lp_sd11 (f := a) (e := endF B n a) (k38 := fun w6 m5 => some (w6, m5)) (k47 := fun m7 => some (1002, m7)) hn4 h6.ln hBm (by omega) l2 33 5000 0 (by omega) (by omega) with ⟨t, t1, t2, t3⟩ | ⟨t1, t2⟩
          · exact hz (1001 + t) (by omega) t3 (Or.inr ⟨hD, rfl, Or.inl ⟨t, t1, rfl, t2⟩⟩)
          · exact hz 1002 (by omega) t2 (Or.inr ⟨hD, rfl, Or.inr ⟨rfl, fun i hi => t1 i (by omega) hi⟩⟩)
        · have ew : f_S_worthOf (nI a) m = some (nI (clsN B (n - a) a 0), m) := by
            unfold f_S_worthOf
            simp only [lits]
            exact lp_wo (k := fun w6 m5 => some (w6, m5)) hn4 h6.ln hBm (n - a) 5000 a 0 (by omega) (by omega) (by omega)
          have hI := h6.put (t := 1003) hst han (Or.inl ⟨hD, rfl, rfl⟩)
          obtain ⟨m'', K, e1, e2⟩ := next _ hI
          have hBm2 : ∀ i, jup (jup (jup (jup m 25 c (nI 1003)) 26 c (nI a)) 27 c (nI (clsN B (n - a) a 0))) 24 5 (nI (c + 1)) 2 i = nI (B i) ∧ B i < 256 := fun i => by rw [hI.fr 2 (by omega) (by omega) (by omega) (by omega)]; exact hB i
          have eE2 := e_SE hn4 hI.ln hBm2 han
          refine ⟨m'', K, ?_, e2⟩
          rw [lp_S_cut_20]
          simp (disch := omega) only [lits, negs, nI_add, nn1, leT, leF, ltT, ltF, eqF, mF1, mF2, mF3, mF4, mF5, mF6, mTT, eq_self, Nat.reduceEqDiff, ↓reduceIte, jbd_s, jpu_e, tI0, tI1, jgd_tI, jgd_bb, tfF, ftF, jup_at, jup_oc, jup_ok, h6.ln, ld_2, b1, e_SD, hD]
          rw [ew, jbd_s, e_put (by omega) (by omega) h6.cn, jbd_s, eE2, jbd_s, hmx]
          exact e1
      · rw [hW, if_pos rfl] at hsk
        obtain ⟨w1, w2, w3⟩ := endF_W (n := n) hW
        obtain ⟨m', K, e1, e2⟩ := ih f (a + 1) c m (by omega) (by omega) (by omega) (by omega) (hsk.symm.trans h5) h6
        refine ⟨m', K, ?_, e2⟩
        rw [← e1, lp_S_cut_20]
        rw [w1] at eE hmx
        unfold cW at hW
        rw [Bool.or_eq_true, decide_eq_true_iff, decide_eq_true_iff] at hW
        rcases hW with z | z
        · rw [z] at b1 w2
          simp (disch := omega) only [lits, negs, nI_add, nn1, leT, leF, ltT, ltF, eqF, mF1, mF2, mF3, mF4, mF5, mF6, mTT, eq_self, Nat.reduceEqDiff, ↓reduceIte, jbd_s, jpu_e, tI0, tI1, jgd_tI, jgd_bb, tfF, ftF, jup_at, jup_oc, jup_ok, h6.ln, ld_2, b1, e_SD, w2, eE, hmx]
        · rw [z] at b1 w2
          simp (disch := omega) only [lits, negs, nI_add, nn1, leT, leF, ltT, ltF, eqF, mF1, mF2, mF3, mF4, mF5, mF6, mTT, eq_self, Nat.reduceEqDiff, ↓reduceIte, jbd_s, jpu_e, tI0, tI1, jgd_tI, jgd_bb, tfF, ftF, jup_at, jup_oc, jup_ok, h6.ln, ld_2, b1, e_SD, w2, eE, hmx]
/-- the class's tokens, all of them -/
theorem e_cut {B : Nat → Nat} {n : Nat} {m : jMem} (hn4 : n ≤ 400) (hB : ∀ i, m 2 i = nI (B i) ∧ B i < 256) : ∃ m' K, f_S_cut (nI n) m = some ((), m') ∧ K ≤ n ∧ stF B n K = n ∧ m' 24 5 = nI (K + 1) ∧ (∀ q, ¬ q = 24 → ¬ q = 25 → ¬ q = 26 → ¬ q = 27 → m' q = m q) ∧ (∀ j, j < K → stF B n j < n ∧ m' 26 j = nI (stF B n j) ∧ tkA B n (stF B n j) (m' 25 j) (m' 27 j)) ∧ m' 25 K = nI 1001 ∧ m' 26 K = nI n ∧ m' 27 K = nI 0 := by
  obtain ⟨m1, K, e1, e2, e3, e4⟩ := lp_cut (m0 := m) (k := fun m26 => jbd (f_S_put 1001 (m26 24 1) (nI 0) m26) fun u27 m28 => some ((), m28)) hn4 hB n 5000 0 0 (jup (jup m 24 1 (nI n)) 24 5 (nI 0)) (by omega) (by omega) (by omega) (by omega) rfl ⟨by simp (disch := omega) only [lits, negs, nI_add, nn1, leT, leF, ltT, ltF, eqF, mF1, mF2, mF3, mF4, mF5, mF6, mTT, eq_self, Nat.reduceEqDiff, ↓reduceIte, jbd_s, jpu_e, tI0, tI1, jgd_tI, jgd_bb, tfF, ftF, jup_at, jup_oc, jup_ok], jup_at, fun q h1 _ _ _ => by rw [jup_oc h1, jup_oc h1], fun j hj => absurd hj (by omega)⟩
  refine ⟨jup (jup (jup (jup m1 25 K (nI 1001)) 26 K (nI n)) 27 K (nI 0)) 24 5 (nI (K + 1)), K, ?_, e2, e3, jup_at, fun q h1 h2 h3 h4 => ?_, fun j hj => ?_, ?_, ?_, ?_⟩
  · unfold f_S_cut
    simp only [lits]
    rw [jmin_nI (by omega) (by omega), show min n 400 = n by omega, jpu_e, jpu_e, e1, e4.ln, e_put (by omega) (by omega) e4.cn, jbd_s]
  · rw [jup_oc h1, jup_oc h4, jup_oc h3, jup_oc h2]; exact e4.fr q h1 h2 h3 h4
  · simp (disch := omega) only [lits, negs, nI_add, nn1, leT, leF, ltT, ltF, eqF, mF1, mF2, mF3, mF4, mF5, mF6, mTT, eq_self, Nat.reduceEqDiff, ↓reduceIte, jbd_s, jpu_e, tI0, tI1, jgd_tI, jgd_bb, tfF, ftF, jup_at, jup_oc, jup_ok]
    exact e4.tk j hj
  · simp (disch := omega) only [lits, negs, nI_add, nn1, leT, leF, ltT, ltF, eqF, mF1, mF2, mF3, mF4, mF5, mF6, mTT, eq_self, Nat.reduceEqDiff, ↓reduceIte, jbd_s, jpu_e, tI0, tI1, jgd_tI, jgd_bb, tfF, ftF, jup_at, jup_oc, jup_ok]
  · simp (disch := omega) only [lits, negs, nI_add, nn1, leT, leF, ltT, ltF, eqF, mF1, mF2, mF3, mF4, mF5, mF6, mTT, eq_self, Nat.reduceEqDiff, ↓reduceIte, jbd_s, jpu_e, tI0, tI1, jgd_tI, jgd_bb, tfF, ftF, jup_at, jup_oc, jup_ok]
  · simp (disch := omega) only [lits, negs, nI_add, nn1, leT, leF, ltT, ltF, eqF, mF1, mF2, mF3, mF4, mF5, mF6, mTT, eq_self, Nat.reduceEqDiff, ↓reduceIte, jbd_s, jpu_e, tI0, tI1, jgd_tI, jgd_bb, tfF, ftF, jup_at, jup_oc, jup_ok]
