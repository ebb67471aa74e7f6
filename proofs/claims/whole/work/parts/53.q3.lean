/-! hangs -/
def setS (p : Nat → Bool) : Nat → Int32
  | 0 => nI 0
  | n + 1 => if p n then setS p n ||| sb n else setS p n
theorem setS_succ (p : Nat → Bool) (n : Nat) : setS p (n + 1) = if p n then setS p n ||| sb n else setS p n := rfl
theorem b_setS {p : Nat → Bool} {j : Nat} (hj : j < 32) : ∀ {n : Nat}, n ≤ 32 → bt (setS p n) j = (decide (j < n) && p j)
  | 0, _ => by
    unfold setS
    rw [b_n0, decide_eq_false (Nat.not_lt_zero j), Bool.false_and]
  | n + 1, h => by
    rw [setS_succ]
    have ih := b_setS (p := p) hj (n := n) (by omega)
    by_cases e : j = n
    · subst e
      cases hp : p j
      · rw [if_neg (by decide), ih, hp, Bool.and_false, Bool.and_false]
      · rw [if_pos rfl, b_or, b_sb (by omega) hj, decide_eq_true rfl, Bool.or_true, decide_eq_true (by omega), Bool.true_and]
    · have e2 : decide (j < n + 1) = decide (j < n) := by
        by_cases q : j < n
        · rw [decide_eq_true q, decide_eq_true (by omega)]
        · rw [decide_eq_false q, decide_eq_false (by omega)]
      rw [e2]
      cases hp : p n
      · rw [if_neg (by decide), ih]
      · rw [if_pos rfl, b_or, ih, b_sb (by omega) hj, decide_eq_false e, Bool.or_false]
theorem setS_top {p : Nat → Bool} {n N : Nat} (hn : n ≤ N) (h : ∀ l, n ≤ l → l < N → p l = false) : setS p N = setS p n := by
  induction N with
  | zero => rw [show n = 0 by omega]
  | succ N ih =>
    rcases Nat.lt_or_ge n (N + 1) with q | q
    · rw [setS_succ, h N (by omega) (by omega), if_neg (by decide), ih (by omega) (fun l a b => h l a (by omega))]
    · rw [show n = N + 1 by omega]
def exS (p : Nat → Bool) : Nat → Bool
  | 0 => false
  | n + 1 => exS p n || p n
theorem exS_succ (p : Nat → Bool) (n : Nat) : exS p (n + 1) = (exS p n || p n) := rfl
theorem exS_iff {p : Nat → Bool} : ∀ {n : Nat}, exS p n = true ↔ ∃ i, i < n ∧ p i = true
  | 0 => ⟨fun h => absurd h (by unfold exS; decide), fun ⟨i, h, _⟩ => absurd h (Nat.not_lt_zero i)⟩
  | n + 1 => by
    rw [exS_succ, Bool.or_eq_true, exS_iff]
    refine ⟨fun h => ?_, fun ⟨i, h, q⟩ => ?_⟩
    · rcases h with ⟨i, h, q⟩ | h
      · exact ⟨i, by omega, q⟩
      · exact ⟨n, by omega, h⟩
    · rcases Nat.lt_or_ge i n with r | r
      · exact Or.inl ⟨i, r, q⟩
      · rw [show i = n by omega] at q; exact Or.inr q
theorem exS_none {p : Nat → Bool} {n : Nat} (h : ∀ i, i < n → p i = false) : exS p n = false := by
  cases q : exS p n
  · rfl
  · obtain ⟨i, hi, e⟩ := exS_iff.mp q
    rw [h i hi] at e; exact absurd e (by decide)
theorem tI_or (a b : Bool) : tI a ||| tI b = tI (a || b) := by cases a <;> cases b <;> decide
theorem or_n1 (a : Bool) : tI a ||| nI 1 = tI true := by cases a <;> decide
theorem exS_mono {p : Nat → Bool} {i N : Nat} (h : i < N) (hp : p i = true) : exS p N = true := exS_iff.mpr ⟨i, h, hp⟩
def tbP (m : jMem) (x : Int32) (l : Nat) : Bool := decide (m 32 l = nI 2) && decide (m 34 l = x)
theorem e_tback {N : Nat} {x : Int32} {kY kN : jMem → Option (Int32 × jMem)} {m : jMem} (hN : m 29 15 = nI N) (h30 : N ≤ 30) : ∀ (d n i : Nat), i + d = N → d < n → exS (tbP m x) i = false → lp_L_isTakenBack_2 x kY kN n (nI i) m = if exS (tbP m x) N = true then kY m else kN m := by
  intro d
  induction d with
  | zero =>
    intro n i h hn h0
    obtain ⟨n, rfl⟩ := ex_succ hn
    have e : i = N := by omega
    subst e
    unfold lp_L_isTakenBack_2
    simp (disch := omega) only [lits, negs, nI_add, nn1, leT, leF, ltT, ltF, eqF, mF1, mF2, mF3, mF4, mF5, mF6, mTT, eq_self, Nat.reduceEqDiff, ↓reduceIte, jbd_s, jpu_e, tI0, tI1, jgd_tI, jgd_bb, tfF, ftF, jup_at, jup_oc, jup_ok, hN, h0]
  | succ d ih =>
    intro n i h hn h0
    obtain ⟨n, rfl⟩ := ex_succ hn
    unfold lp_L_isTakenBack_2
    by_cases h1 : m 32 i = nI 2
    · by_cases h2 : m 34 i = x
      · have hp : tbP m x i = true := by unfold tbP; rw [decide_eq_true h1, decide_eq_true h2]; rfl
        rw [exS_mono (by omega : i < N) hp]
        simp (disch := omega) only [lits, negs, nI_add, nn1, leT, leF, ltT, ltF, eqF, mF1, mF2, mF3, mF4, mF5, mF6, mTT, eq_self, Nat.reduceEqDiff, ↓reduceIte, jbd_s, jpu_e, tI0, tI1, jgd_tI, jgd_bb, tfF, ftF, jup_at, jup_oc, jup_ok, hN, ld_32, ld_34, h1, h2]
      · have hp : tbP m x i = false := by unfold tbP; rw [decide_eq_false h2, Bool.and_false]
        have e := ih n (i + 1) (by omega) (by omega) (by rw [exS_succ, h0, hp]; rfl)
        simp (disch := omega) only [lits, negs, nI_add, nn1, leT, leF, ltT, ltF, eqF, mF1, mF2, mF3, mF4, mF5, mF6, mTT, eq_self, Nat.reduceEqDiff, ↓reduceIte, jbd_s, jpu_e, tI0, tI1, jgd_tI, jgd_bb, tfF, ftF, jup_at, jup_oc, jup_ok, hN, ld_32, ld_34, h1]
        rw [if_neg h2, e]
    · have hp : tbP m x i = false := by unfold tbP; rw [decide_eq_false h1, Bool.false_and]
      have e := ih n (i + 1) (by omega) (by omega) (by rw [exS_succ, h0, hp]; rfl)
      simp (disch := omega) only [lits, negs, nI_add, nn1, leT, leF, ltT, ltF, eqF, mF1, mF2, mF3, mF4, mF5, mF6, mTT, eq_self, Nat.reduceEqDiff, ↓reduceIte, jbd_s, jpu_e, tI0, tI1, jgd_tI, jgd_bb, tfF, ftF, jup_at, jup_oc, jup_ok, hN, ld_32]
      rw [if_neg h1, e]
theorem e_isTakenBack {N : Nat} {x : Int32} {m : jMem} (hN : m 29 15 = nI N) (h30 : N ≤ 30) : f_L_isTakenBack x m = some (tI (exS (tbP m x) N), m) := by
  unfold f_L_isTakenBack
  simp only [lits]
  rw [e_tback (kY := fun m3 => some (nI 1, m3)) (kN := fun m4 => some (nI 0, m4)) hN h30 N 5000 0 (by omega) (by omega) rfl]
  cases exS (tbP m x) N <;> rfl
theorem lp_hang0 {N a : Nat} {k : Int32 → jMem → Option (Int32 × jMem)} {m : jMem} (hN : m 29 15 = nI N) (h30 : N ≤ 30) (ha : a < 30) : ∀ (d n i : Nat), i + d = N → d < n → lp_L_hanging_5 (nI a) (nI 0) k n (setS (fun l => bt (m 37 l) a) i) (nI i) m = k (setS (fun l => bt (m 37 l) a) N) m := by
  intro d
  induction d with
  | zero =>
    intro n i hid hdn
    obtain ⟨n, rfl⟩ := ex_succ hdn
    rw [show i = N by omega]
    unfold lp_L_hanging_5
    simp (disch := omega) only [lits, negs, nI_add, nn1, leT, leF, ltT, ltF, eqF, mF1, mF2, mF3, mF4, mF5, mF6, mTT, eq_self, Nat.reduceEqDiff, ↓reduceIte, jbd_s, jpu_e, tI0, tI1, jgd_tI, jgd_bb, tfF, ftF, jup_at, jup_oc, jup_ok, hN]
  | succ d ih =>
    intro n i hid hdn
    obtain ⟨n, rfl⟩ := ex_succ hdn
    have e := ih n (i + 1) (by omega) (by omega)
    unfold lp_L_hanging_5
    rw [setS_succ] at e
    cases hp : bt (m 37 i) a
    · rw [hp] at e
      simp (disch := omega) only [lits, negs, nI_add, nn1, leT, leF, ltT, ltF, eqF, mF1, mF2, mF3, mF4, mF5, mF6, mTT, eq_self, Nat.reduceEqDiff, ↓reduceIte, jbd_s, jpu_e, tI0, tI1, jgd_tI, jgd_bb, tfF, ftF, jup_at, jup_oc, jup_ok, hN, ld_37, e_isIn, hp] at e ⊢
      exact e
    · rw [hp] at e
      simp (disch := omega) only [lits, negs, nI_add, nn1, leT, leF, ltT, ltF, eqF, mF1, mF2, mF3, mF4, mF5, mF6, mTT, eq_self, Nat.reduceEqDiff, ↓reduceIte, jbd_s, jpu_e, tI0, tI1, jgd_tI, jgd_bb, tfF, ftF, jup_at, jup_oc, jup_ok, hN, ld_37, e_isIn, hp, e_bit] at e ⊢
      exact e
theorem lp_hang1 {N a : Nat} {k : Int32 → jMem → Option (Int32 × jMem)} {m : jMem} (hN : m 29 15 = nI N) (h30 : N ≤ 30) (ha : a < 30) : ∀ (d n i : Nat), i + d = N → d < n → lp_L_hanging_5 (nI a) (nI 1) k n (setS (fun l => bt (m 38 l) a) i) (nI i) m = k (setS (fun l => bt (m 38 l) a) N) m := by
  intro d
  induction d with
  | zero =>
    intro n i hid hdn
    obtain ⟨n, rfl⟩ := ex_succ hdn
    rw [show i = N by omega]
    unfold lp_L_hanging_5
    simp (disch := omega) only [lits, negs, nI_add, nn1, leT, leF, ltT, ltF, eqF, mF1, mF2, mF3, mF4, mF5, mF6, mTT, eq_self, Nat.reduceEqDiff, ↓reduceIte, jbd_s, jpu_e, tI0, tI1, jgd_tI, jgd_bb, tfF, ftF, jup_at, jup_oc, jup_ok, hN]
  | succ d ih =>
    intro n i hid hdn
    obtain ⟨n, rfl⟩ := ex_succ hdn
    have e := ih n (i + 1) (by omega) (by omega)
    unfold lp_L_hanging_5
    rw [setS_succ] at e
    cases hp : bt (m 38 i) a
    · rw [hp] at e
      simp (disch := omega) only [lits, negs, nI_add, nn1, leT, leF, ltT, ltF, eqF, mF1, mF2, mF3, mF4, mF5, mF6, mTT, eq_self, Nat.reduceEqDiff, ↓reduceIte, jbd_s, jpu_e, tI0, tI1, jgd_tI, jgd_bb, tfF, ftF, jup_at, jup_oc, jup_ok, hN, ld_38, e_isIn, hp] at e ⊢
      exact e
    · rw [hp] at e
      simp (disch := omega) only [lits, negs, nI_add, nn1, leT, leF, ltT, ltF, eqF, mF1, mF2, mF3, mF4, mF5, mF6, mTT, eq_self, Nat.reduceEqDiff, ↓reduceIte, jbd_s, jpu_e, tI0, tI1, jgd_tI, jgd_bb, tfF, ftF, jup_at, jup_oc, jup_ok, hN, ld_38, e_isIn, hp, e_bit] at e ⊢
      exact e
theorem RL_cbits {N : Nat} {m : jMem} (r : RL N m) : ∀ k l, l < k → l < N → ∀ j, bt (m 38 l) j = true → j < l := by
  intro k
  induction k with
  | zero => intro l h; exact absurd h (Nat.not_lt_zero l)
  | succ k ih =>
    intro l hl hN j hj
    have hj32 := bt_big hj
    have h30 := r.1
    obtain ⟨o1, o2⟩ := RL_oI r l hN
    obtain ⟨-, -, -, -, -, -, -, -, -, -, -, h38, -⟩ := r.2.2.2.2.1 l hN
    rw [h38, b_or, Bool.or_eq_true, b_aO] at hj
    rcases hj with hj | ⟨x, hx, hx2, hx3⟩
    · rw [b_ansS (by omega) o1 o2 hj32, Bool.or_eq_true, decide_eq_true_iff, decide_eq_true_iff] at hj
      rcases hj with hj | hj
      · exact oI_lt (by omega) o1 hj32 hj
      · exact oI_lt (by omega) o2 hj32 hj
    · have := ih x (by omega) (by omega) j hx3
      omega
/-- of a letter: does it hang on a by answers -/
theorem RL_cit_iff {N l a : Nat} {m : jMem} (r : RL N m) (hl : l < N) (ha : a < 32) : bt (m 38 l) a = true ↔ (m 34 l = nI a ∨ m 35 l = nI a) ∨ ∃ j, j < l ∧ (m 34 l = nI j ∨ m 35 l = nI j) ∧ bt (m 38 j) a = true := by
  have h30 := r.1
  obtain ⟨o1, o2⟩ := RL_oI r l hl
  obtain ⟨-, -, -, -, -, -, -, -, -, -, -, h38, -⟩ := r.2.2.2.2.1 l hl
  have hS : ∀ i, i < 32 → (bt (ansS (m 34 l) (m 35 l)) i = true ↔ (m 34 l = nI i ∨ m 35 l = nI i)) := fun i hi => by
    rw [b_ansS (by omega) o1 o2 hi, Bool.or_eq_true, decide_eq_true_iff, decide_eq_true_iff]
  conv => lhs; rw [h38]
  rw [b_or, Bool.or_eq_true, b_aO, hS a ha]
  refine ⟨fun h => ?_, fun h => ?_⟩
  · rcases h with h | ⟨j, hj, h1, h2⟩
    · exact Or.inl h
    · exact Or.inr ⟨j, hj, (hS j (by omega)).mp h1, h2⟩
  · rcases h with h | ⟨j, hj, h1, h2⟩
    · exact Or.inl h
    · exact Or.inr ⟨j, hj, (hS j (by omega)).mpr h1, h2⟩
theorem jb {α ρ : Type} {o : Option (α × jMem)} {a : α} {m : jMem} (e : o = some (a, m)) (K : α → jMem → Option ρ) : jbd o K = K a m := by rw [e]; rfl
theorem jb_MisBefore {ρ : Type} {m : jMem} {a b : Nat} (ha : a < 32) (hb : b < 30) (K : Int32 → jMem → Option ρ) : jbd (f_M_isBefore (nI a) (nI b) m) K = K (tI (bt (m 128 b) a)) m := jb (e_MisBefore ha hb) K
/-- does a letter that answers x, y hang, if those of v do -/
def hgC (x y : Int32) (i : Nat) (v : Int32) (a : Nat) : Bool := (decide (x = nI a) || decide (y = nI a)) || exS (fun j => (decide (x = nI j) || decide (y = nI j)) && bt v j) i
theorem hgC_iff {x y : Int32} {i : Nat} {v : Int32} {a : Nat} : hgC x y i v a = true ↔ (x = nI a ∨ y = nI a) ∨ ∃ j, j < i ∧ (x = nI j ∨ y = nI j) ∧ bt v j = true := by
  unfold hgC
  rw [Bool.or_eq_true, Bool.or_eq_true, decide_eq_true_iff, decide_eq_true_iff, exS_iff]
  simp only [Bool.and_eq_true, Bool.or_eq_true, decide_eq_true_iff]
theorem st_hang {N a i n : Nat} {z : Int32} {k : Int32 → Int32 → Int32 → jMem → Option (Int32 × jMem)} {t : Bool} {v4 v5 : Int32} {m : jMem} (hM : m 109 33 = nI N) (h30 : N ≤ 30) (hi : i < N) (ha : a < N) (x : oI (m 125 i) i) (y : oI (m 126 i) i) : lp_M_hangs_37 (nI a) z k (n + 1) (tI t) v4 v5 (nI i) m = lp_M_hangs_37 (nI a) z k n (tI (t || (decide (m 123 i = nI 2) && decide (m 125 i = nI a)))) (if hgC (m 125 i) (m 126 i) i v4 a = true then v4 ||| sb i else v4) (if bt (m 128 i) a = true then v5 ||| sb i else v5) (nI (i + 1)) m := by
  have hj : ∀ p q : Nat, p < 30 → q < 30 → (nI p = nI q ↔ p = q) := fun p q hp hq => nI_eq (by omega) (by omega)
  have hm : ∀ q : Nat, q < 30 → ¬ nM = nI q := fun q hq e => by rw [mF2 (by omega)] at e; exact e
  have g1 : tI t ||| nI 0 = tI t := or_n0 _
  have g2 : tI t ||| nI 1 = nI 1 := or_n1 t
  conv => lhs; unfold lp_M_hangs_37
  simp only [lits, negs]
  rcases x with hx | ⟨p, hp, hx⟩ <;> rcases y with hy | ⟨q, hq, hy⟩
  · have c : hgC (m 125 i) (m 126 i) i v4 a = false := by
      cases hc : hgC (m 125 i) (m 126 i) i v4 a
      · rfl
      · exfalso
        rw [hgC_iff, hx, hy] at hc
        rcases hc with (e | e) | ⟨j, h2, e | e, -⟩
        · exact hm a (by omega) e
        · exact hm a (by omega) e
        · exact hm j (by omega) e
        · exact hm j (by omega) e
    rw [c]
    have d0 : decide (m 125 i = nI a) = false := decide_eq_false (by rw [hx]; exact hm a (by omega))
    rw [d0, Bool.and_false, Bool.or_false]
    by_cases h1 : m 123 i = nI 2 <;> cases h3 : bt (m 128 i) a <;> simp (disch := omega) only [lits, negs, nI_add, nn1, leT, leF, ltT, ltF, eqF, mF1, mF2, mF3, mF4, mF5, mF6, mTT, eq_self, Nat.reduceEqDiff, ↓reduceIte, ↓jbd_s, ↓jpu_e, tI0, tI1, jgd_tI, jgd_bb, tfF, ftF, jup_at, jup_oc, jup_ok, hM, ↓ld_123, ↓ld_125, ↓ld_126, ↓jb_MisBefore, hx, hy, h1, h3, g1, g2, sb_e]
  · have c : hgC (m 125 i) (m 126 i) i v4 a = (decide (q = a) || bt v4 q) := by
      rw [Bool.eq_iff_iff, hgC_iff, hx, hy, hj q a (by omega) (by omega), Bool.or_eq_true, decide_eq_true_iff]
      constructor
      · rintro ((e | e) | ⟨j, h2, e | e, e2⟩)
        · exact absurd e (hm a (by omega))
        · exact Or.inl e
        · exact absurd e (hm j (by omega))
        · rw [(hj q j (by omega) (by omega)).mp e]; exact Or.inr e2
      · rintro (e | e)
        · exact Or.inl (Or.inr e)
        · exact Or.inr ⟨q, hq, Or.inr rfl, e⟩
    have d0 : decide (m 125 i = nI a) = false := decide_eq_false (by rw [hx]; exact hm a (by omega))
    rw [d0, Bool.and_false, Bool.or_false, c]
    by_cases h1 : m 123 i = nI 2 <;> cases h3 : bt (m 128 i) a <;> simp (disch := omega) only [lits, negs, nI_add, nn1, leT, leF, ltT, ltF, eqF, mF1, mF2, mF3, mF4, mF5, mF6, mTT, eq_self, Nat.reduceEqDiff, ↓reduceIte, ↓jbd_s, ↓jpu_e, tI0, tI1, jgd_tI, jgd_bb, tfF, ftF, jup_at, jup_oc, jup_ok, hM, ↓ld_123, ↓ld_125, ↓ld_126, ↓jb_MisBefore, hx, hy, h1, h3, g1, g2, sb_e, bit1, hj] <;> by_cases h4 : q = a <;> cases h5 : bt v4 q <;> simp only [h4, h5, decide_true, decide_false, Bool.true_or, Bool.false_or, if_true, if_false, tfF, ftF, ↓reduceIte]
  · have c : hgC (m 125 i) (m 126 i) i v4 a = (decide (p = a) || bt v4 p) := by
      rw [Bool.eq_iff_iff, hgC_iff, hx, hy, hj p a (by omega) (by omega), Bool.or_eq_true, decide_eq_true_iff]
      constructor
      · rintro ((e | e) | ⟨j, h2, e | e, e2⟩)
        · exact Or.inl e
        · exact absurd e (hm a (by omega))
        · rw [(hj p j (by omega) (by omega)).mp e]; exact Or.inr e2
        · exact absurd e (hm j (by omega))
      · rintro (e | e)
        · exact Or.inl (Or.inl e)
        · exact Or.inr ⟨p, hp, Or.inl rfl, e⟩
    rw [c, hx, show decide (nI p = nI a) = decide (p = a) from by simp only [hj p a (by omega) (by omega)]]
    by_cases h1 : m 123 i = nI 2 <;> cases h3 : bt (m 128 i) a <;> by_cases h4 : p = a <;> simp (disch := omega) only [lits, negs, nI_add, nn1, leT, leF, ltT, ltF, eqF, mF1, mF2, mF3, mF4, mF5, mF6, mTT, eq_self, Nat.reduceEqDiff, ↓reduceIte, ↓jbd_s, ↓jpu_e, tI0, tI1, jgd_tI, jgd_bb, tfF, ftF, jup_at, jup_oc, jup_ok, hM, ↓ld_123, ↓ld_125, ↓ld_126, ↓jb_MisBefore, hx, hy, h1, h3, h4, g1, g2, sb_e, bit1, hj, decide_true, decide_false, Bool.true_or, Bool.false_or, Bool.and_true, Bool.and_false, Bool.or_true, Bool.or_false, tI_t] <;> cases h5 : bt v4 p <;> simp only [h5, if_true, if_false, tfF, ftF, ↓reduceIte]
  · have c : hgC (m 125 i) (m 126 i) i v4 a = ((decide (p = a) || decide (q = a)) || (bt v4 p || bt v4 q)) := by
      rw [Bool.eq_iff_iff, hgC_iff, hx, hy, hj p a (by omega) (by omega), hj q a (by omega) (by omega), Bool.or_eq_true, Bool.or_eq_true, Bool.or_eq_true, decide_eq_true_iff, decide_eq_true_iff]
      constructor
      · rintro (e | ⟨j, h2, e | e, e2⟩)
        · exact Or.inl e
        · rw [(hj p j (by omega) (by omega)).mp e]; exact Or.inr (Or.inl e2)
        · rw [(hj q j (by omega) (by omega)).mp e]; exact Or.inr (Or.inr e2)
      · rintro (e | (e | e))
        · exact Or.inl e
        · exact Or.inr ⟨p, hp, Or.inl rfl, e⟩
        · exact Or.inr ⟨q, hq, Or.inr rfl, e⟩
    rw [c, hx, show decide (nI p = nI a) = decide (p = a) from by simp only [hj p a (by omega) (by omega)]]
    by_cases h1 : m 123 i = nI 2 <;> cases h3 : bt (m 128 i) a <;> by_cases h4 : p = a <;> simp (disch := omega) only [lits, negs, nI_add, nn1, leT, leF, ltT, ltF, eqF, mF1, mF2, mF3, mF4, mF5, mF6, mTT, eq_self, Nat.reduceEqDiff, ↓reduceIte, ↓jbd_s, ↓jpu_e, tI0, tI1, jgd_tI, jgd_bb, tfF, ftF, jup_at, jup_oc, jup_ok, hM, ↓ld_123, ↓ld_125, ↓ld_126, ↓jb_MisBefore, hx, hy, h1, h3, h4, g1, g2, sb_e, bit1, hj, decide_true, decide_false, Bool.true_or, Bool.false_or, Bool.and_true, Bool.and_false, Bool.or_true, Bool.or_false, tI_t] <;> by_cases h6 : q = a <;> cases h5 : bt v4 p <;> cases h7 : bt v4 q <;> simp only [h5, h6, h7, if_true, if_false, tfF, ftF, ↓reduceIte, decide_true, decide_false, Bool.true_or, Bool.false_or, Bool.or_true, Bool.or_false]
theorem lp_Mhang {N a : Nat} {z : Int32} {k : Int32 → Int32 → Int32 → jMem → Option (Int32 × jMem)} {m : jMem} (hM : m 109 33 = nI N) (rl : RL N m) (ha : a < N) : ∀ (d n i : Nat), i + d = N → d < n → lp_M_hangs_37 (nI a) z k n (tI (exS (tbP m (nI a)) i)) (setS (fun l => bt (m 38 l) a) i) (setS (fun l => bt (m 37 l) a) i) (nI i) m = k (tI (exS (tbP m (nI a)) N)) (setS (fun l => bt (m 38 l) a) N) (setS (fun l => bt (m 37 l) a) N) m := by
  have h30 := rl.1
  obtain ⟨-, -, q3, -, q5, q6, -, q8⟩ := rl.2.2.2.1
  intro d
  induction d with
  | zero =>
    intro n i h hn
    obtain ⟨n, rfl⟩ := ex_succ hn
    have e : i = N := by omega
    subst e
    unfold lp_M_hangs_37
    simp only [lits, negs]
    simp (disch := omega) only [lits, negs, nI_add, nn1, leT, leF, ltT, ltF, eqF, mF1, mF2, mF3, mF4, mF5, mF6, mTT, eq_self, Nat.reduceEqDiff, ↓reduceIte, ↓jbd_s, ↓jpu_e, tI0, tI1, jgd_tI, jgd_bb, tfF, ftF, jup_at, jup_oc, jup_ok, hM]
  | succ d ih =>
    intro n i h hn
    obtain ⟨n, rfl⟩ := ex_succ hn
    have hi : i < N := by omega
    obtain ⟨o1, o2⟩ := RL_oI rl i hi
    have e := ih n (i + 1) (by omega) (by omega)
    rw [st_hang hM h30 hi ha (by rw [q5]; exact o1) (by rw [q6]; exact o2), q3, q5, q6, q8]
    rw [exS_succ, setS_succ, setS_succ] at e
    have c : hgC (m 34 i) (m 35 i) i (setS (fun l => bt (m 38 l) a) i) a = bt (m 38 i) a := by
      rw [Bool.eq_iff_iff, hgC_iff, RL_cit_iff rl hi (by omega)]
      refine or_congr Iff.rfl ⟨fun ⟨j, h1, h2, h3⟩ => ⟨j, h1, h2, ?_⟩, fun ⟨j, h1, h2, h3⟩ => ⟨j, h1, h2, ?_⟩⟩
      · rw [b_setS (by omega) (by omega), Bool.and_eq_true] at h3
        exact h3.2
      · rw [b_setS (by omega) (by omega), Bool.and_eq_true]
        exact ⟨decide_eq_true h1, h3⟩
    rw [c]
    exact e
theorem q_hangs {N C : Nat} {m : jMem} (r : Rel N C m) (x z : Int32) : Qst (f_C_hangs x z) (f_M_hangs x z) m := by
  have rl := r.1
  have h30 := rl.1
  have hN := rl.2.1
  have rl1 := RL_scr (thr_scr m (nI 0)) rl
  have hM := rl1.2.2.1
  have hcl := RL_cbits rl
  have hpl := RL_past rl
  rcases ixN x (n := N) (by omega) with hx | ⟨a, ha, rfl⟩
  · refine ⟨nM, m, jup m 109 0 (nI 0), ?_, ?_⟩
    · have e0 : exS (tbP m x) N = false := exS_none fun i hi => by
        unfold tbP
        cases q : (decide (m 32 i = nI 2) && decide (m 34 i = x))
        · rfl
        · exfalso
          rw [Bool.and_eq_true, decide_eq_true_iff, decide_eq_true_iff] at q
          obtain ⟨-, -, -, -, o1, -, -, -, hk, -⟩ := rl.2.2.2.2.1 i hi
          rcases o1 with e | ⟨j, hj, e⟩
          · exact hk q.1 e
          · have e2 : x = nI j := by rw [← q.2, e]
            subst e2
            rcases hx with h | h
            · exact nI_pos (by omega) h
            · exact nI_ge (by omega : j < N) (by omega) h
      unfold f_C_hangs
      simp (disch := omega) only [lits, negs, nI_add, nn1, leT, leF, ltT, ltF, eqF, mF1, mF2, mF3, mF4, mF5, mF6, mTT, eq_self, Nat.reduceEqDiff, ↓reduceIte, jbd_s, jpu_e, tI0, tI1, jgd_tI, jgd_bb, tfF, ftF, jup_at, jup_oc, jup_ok, e_isTakenBack hN h30, e0]
    · unfold f_M_hangs
      simp (disch := omega) only [lits, negs, nI_add, nn1, leT, leF, ltT, ltF, eqF, mF1, mF2, mF3, mF4, mF5, mF6, mTT, eq_self, Nat.reduceEqDiff, ↓reduceIte, jbd_s, jpu_e, tI0, tI1, jgd_tI, jgd_bb, tfF, ftF, jup_at, jup_oc, jup_ok, e_MisLetter_no hM hx]
  · rcases ixN z (n := 2) (by omega) with hz | ⟨zz, hzz, rfl⟩
    · have hz3 : z < nI 0 ∨ ¬ z ≤ nI 1 := by
        rcases hz with h | h
        · exact Or.inl h
        · refine Or.inr fun q => ?_
          rw [Int32.le_iff_toInt_le, nI_toInt (by omega)] at h q
          omega
      refine ⟨nM, m, jup m 109 0 (nI 0), ?_, ?_⟩
      · unfold f_C_hangs
        simp (disch := omega) only [lits, negs, nI_add, nn1, leT, leF, ltT, ltF, eqF, mF1, mF2, mF3, mF4, mF5, mF6, mTT, eq_self, Nat.reduceEqDiff, ↓reduceIte, jbd_s, jpu_e, tI0, tI1, jgd_tI, jgd_bb, tfF, ftF, jup_at, jup_oc, jup_ok, e_isTakenBack hN h30]
        cases exS (tbP m (nI a)) N
        · rw [if_pos rfl]
        · rw [if_neg (by decide)]
          rcases hz3 with h | h
          · rw [if_pos h]
          · by_cases q : z < nI 0
            · rw [if_pos q]
            · rw [if_neg q, if_neg h]
      · unfold f_M_hangs
        simp (disch := omega) only [lits, negs, nI_add, nn1, leT, leF, ltT, ltF, eqF, mF1, mF2, mF3, mF4, mF5, mF6, mTT, eq_self, Nat.reduceEqDiff, ↓reduceIte, jbd_s, jpu_e, tI0, tI1, jgd_tI, jgd_bb, tfF, ftF, jup_at, jup_oc, jup_ok, e_MisLetter hM h30]
        rcases hz3 with h | h
        · rw [if_pos h]
        · by_cases q : z < nI 0
          · rw [if_pos q]
          · rw [if_neg q, if_neg h]
    · have c0 : ∀ l, l < a + 1 → bt (m 38 l) a = false := fun l hl => by
        cases q : bt (m 38 l) a
        · rfl
        · have := hcl (l + 1) l (by omega) (by omega) a q; omega
      have p0 : ∀ l, l < a + 1 → bt (m 37 l) a = false := fun l hl => by
        cases q : bt (m 37 l) a
        · rfl
        · have := hpl (l + 1) l (by omega) (by omega) a q; omega
      have t0 : exS (tbP m (nI a)) (a + 1) = false := exS_none fun i hi => by
        unfold tbP
        cases q : (decide (m 32 i = nI 2) && decide (m 34 i = nI a))
        · rfl
        · exfalso
          rw [Bool.and_eq_true, decide_eq_true_iff, decide_eq_true_iff] at q
          have := oI_lt (by omega) (RL_oI rl i (by omega)).1 (by omega) q.2
          omega
      have e := lp_Mhang (z := nI zz) (k := fun w61 w62 w63 m60 => if w61 = nI 0 then some (nM, m60) else if nI zz = nI 0 then some (w62, m60) else some (w63, m60)) hM rl1 ha (N - (a + 1)) 5000 (a + 1) (by omega) (by omega)
      have r38 : jup m 109 0 (nI 0) 38 = m 38 := jup_oc (by omega)
      have r37 : jup m 109 0 (nI 0) 37 = m 37 := jup_oc (by omega)
      have rtb : tbP (jup m 109 0 (nI 0)) (nI a) = tbP m (nI a) := by
        funext l
        unfold tbP
        rw [jup_oc (by omega), jup_oc (by omega)]
      rw [r38, r37, rtb, t0, setS_top (n := 0) (by omega) (fun l _ h => c0 l h), setS_top (p := fun l => bt (m 37 l) a) (n := 0) (by omega) (fun l _ h => p0 l h)] at e
      rcases (by omega : zz = 0 ∨ zz = 1) with rfl | rfl
      · refine ⟨if exS (tbP m (nI a)) N = true then setS (fun l => bt (m 38 l) a) N else nM, m, jup m 109 0 (nI 0), ?_, ?_⟩
        · unfold f_C_hangs f_L_hanging
          simp (disch := omega) only [lits, negs, nI_add, nn1, leT, leF, ltT, ltF, eqF, mF1, mF2, mF3, mF4, mF5, mF6, mTT, eq_self, Nat.reduceEqDiff, ↓reduceIte, jbd_s, jpu_e, tI0, tI1, jgd_tI, jgd_bb, tfF, ftF, jup_at, jup_oc, jup_ok, e_isTakenBack hN h30]
          cases exS (tbP m (nI a)) N
          · rfl
          · rw [if_neg (by decide), if_pos rfl]
            have e9 := lp_hang1 (k := fun w12 m11 => some (w12, m11)) hN h30 (by omega : a < 30) N 5000 0 (by omega) (by omega)
            rw [show setS (fun l => bt (m 38 l) a) 0 = nI 0 from rfl] at e9
            rw [e9]
            rfl
        · unfold f_M_hangs
          simp (disch := omega) only [lits, negs, nI_add, nn1, leT, leF, ltT, ltF, eqF, mF1, mF2, mF3, mF4, mF5, mF6, mTT, eq_self, Nat.reduceEqDiff, ↓reduceIte, jbd_s, jpu_e, tI0, tI1, jgd_tI, jgd_bb, tfF, ftF, jup_at, jup_oc, jup_ok, e_MisLetter hM h30]
          simp (disch := omega) only [lits, negs, nI_add, nn1, leT, leF, ltT, ltF, eqF, mF1, mF2, mF3, mF4, mF5, mF6, mTT, eq_self, Nat.reduceEqDiff, ↓reduceIte, jbd_s, jpu_e, tI0, tI1, jgd_tI, jgd_bb, tfF, ftF, jup_at, jup_oc, jup_ok] at e
          rw [show setS (fun l => bt (m 37 l) a) 0 = nI 0 from rfl, show setS (fun l => bt (m 38 l) a) 0 = nI 0 from rfl, tI_f] at e
          rw [e]
          cases exS (tbP m (nI a)) N <;> rfl
      · refine ⟨if exS (tbP m (nI a)) N = true then setS (fun l => bt (m 37 l) a) N else nM, m, jup m 109 0 (nI 0), ?_, ?_⟩
        · unfold f_C_hangs f_L_hanging
          simp (disch := omega) only [lits, negs, nI_add, nn1, leT, leF, ltT, ltF, eqF, mF1, mF2, mF3, mF4, mF5, mF6, mTT, eq_self, Nat.reduceEqDiff, ↓reduceIte, jbd_s, jpu_e, tI0, tI1, jgd_tI, jgd_bb, tfF, ftF, jup_at, jup_oc, jup_ok, e_isTakenBack hN h30]
          cases exS (tbP m (nI a)) N
          · rfl
          · rw [if_neg (by decide), if_pos rfl]
            have e9 := lp_hang0 (k := fun w12 m11 => some (w12, m11)) hN h30 (by omega : a < 30) N 5000 0 (by omega) (by omega)
            rw [show setS (fun l => bt (m 37 l) a) 0 = nI 0 from rfl] at e9
            rw [e9]
            rfl
        · unfold f_M_hangs
          simp (disch := omega) only [lits, negs, nI_add, nn1, leT, leF, ltT, ltF, eqF, mF1, mF2, mF3, mF4, mF5, mF6, mTT, eq_self, Nat.reduceEqDiff, ↓reduceIte, jbd_s, jpu_e, tI0, tI1, jgd_tI, jgd_bb, tfF, ftF, jup_at, jup_oc, jup_ok, e_MisLetter hM h30]
          simp (disch := omega) only [lits, negs, nI_add, nn1, leT, leF, ltT, ltF, eqF, mF1, mF2, mF3, mF4, mF5, mF6, mTT, eq_self, Nat.reduceEqDiff, ↓reduceIte, jbd_s, jpu_e, tI0, tI1, jgd_tI, jgd_bb, tfF, ftF, jup_at, jup_oc, jup_ok] at e
          rw [show setS (fun l => bt (m 37 l) a) 0 = nI 0 from rfl, show setS (fun l => bt (m 38 l) a) 0 = nI 0 from rfl, tI_f] at e
          rw [e]
          cases exS (tbP m (nI a)) N <;> rfl
