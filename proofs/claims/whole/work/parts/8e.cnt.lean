/-! the class counts how often one comes before another -/
theorem lp_go59 {S i u : Nat} {x v1 : Int32} {k : jMem → Option (Unit × jMem)} (h12 : S ≤ 12) (hi : i < S) : ∀ (d n c : Nat) (m : jMem), c + d = S → d < n → m 89 6 = nI S → ∃ m', lp_O_goOnFrom_59 v1 (nI i) (nI u) x k n (nI c) m = k m' ∧ (∀ r, r ≠ 97 + i → m' r = m r) ∧ ∀ b, b < S → m' (97 + i) b = if c ≤ b ∧ u.testBit b = false then m (97 + i) b + x else m (97 + i) b := by
  intro d
  induction d with
  | zero =>
    intro n c m hc hn hS
    obtain ⟨n, rfl⟩ := ex_succ hn
    have e : c = S := by omega
    subst e
    refine ⟨m, ?_, fun _ _ => rfl, fun b hb => (if_neg (fun z => by omega)).symm⟩
    unfold lp_O_goOnFrom_59
    simp (disch := omega) only [lits, negs, nI_add, nn1, leT, leF, ltT, ltF, eqF, mF1, mF2, mF3, mF4, mF5, mF6, mTT, eq_self, Nat.reduceEqDiff, ↓reduceIte, jbd_s, jpu_e, tI0, tI1, jgd_tI, jgd_bb, tfF, ftF, jup_at, jup_oc, jup_ok, hS]
  | succ d ih =>
    intro n c m hc hn hS
    obtain ⟨n, rfl⟩ := ex_succ hn
    have ei := e_isIn (v := nI u) (m := m) (by omega : c < 30)
    rw [bt_nI (by omega)] at ei
    cases q : u.testBit c
    · rw [q] at ei
      obtain ⟨m', e, f1, f2⟩ := ih n (c + 1) (jup m (97 + i) c (m (97 + i) c + x)) (by omega) (by omega) (by rw [jup_oc (by omega)]; exact hS)
      refine ⟨m', ?_, fun r hr => by rw [f1 r hr, jup_oc hr], fun b hb => ?_⟩
      · rw [← e]
        conv => lhs; unfold lp_O_goOnFrom_59
        simp only [lits]
        simp (disch := omega) only [lits, negs, nI_add, nn1, leT, leF, ltT, ltF, eqF, mF1, mF2, mF3, mF4, mF5, mF6, mTT, eq_self, Nat.reduceEqDiff, ↓reduceIte, ↓jbd_s, ↓jpu_e, tI0, tI1, jgd_tI, jgd_bb, tfF, ftF, jup_at, jup_oc, jup_ok, hS, ↓jb ei, ↓l3_96, ↓ldr_96, ↓str_96]
      · rw [f2 b hb]
        by_cases e1 : b = c
        · subst e1
          rw [if_neg (fun z => by omega), jup_at, if_pos ⟨Nat.le_refl b, q⟩]
        · rw [jup_ok e1]
          by_cases e2 : c + 1 ≤ b ∧ u.testBit b = false
          · rw [if_pos e2, if_pos ⟨by omega, e2.2⟩]
          · rw [if_neg e2, if_neg (fun z => e2 ⟨by omega, z.2⟩)]
    · rw [q] at ei
      obtain ⟨m', e, f1, f2⟩ := ih n (c + 1) m (by omega) (by omega) hS
      refine ⟨m', ?_, f1, fun b hb => ?_⟩
      · rw [← e]
        conv => lhs; unfold lp_O_goOnFrom_59
        simp only [lits]
        simp (disch := omega) only [lits, negs, nI_add, nn1, leT, leF, ltT, ltF, eqF, mF1, mF2, mF3, mF4, mF5, mF6, mTT, eq_self, Nat.reduceEqDiff, ↓reduceIte, ↓jbd_s, ↓jpu_e, tI0, tI1, jgd_tI, jgd_bb, tfF, ftF, jup_at, jup_oc, jup_ok, hS, ↓jb ei]
      · rw [f2 b hb]
        by_cases e1 : b = c
        · subst e1
          rw [if_neg (fun z => by omega), if_neg (fun z => by rw [q] at z; exact absurd z.2 (by decide))]
        · by_cases e2 : c + 1 ≤ b ∧ u.testBit b = false
          · rw [if_pos e2, if_pos ⟨by omega, e2.2⟩]
          · rw [if_neg e2, if_neg (fun z => e2 ⟨by omega, z.2⟩)]
/-- the orders still open that go through a set above s -/
def opI (nd : Nat → Int32) (S a b s : Nat) (B : Nat → Int32) : Int32 := sI (fun t => if s < t ∧ t.testBit a = false ∧ t.testBit b = false then B t * nI (rsN (upN nd a b) S t) else nI 0) (2 ^ S)
def tlN (nd : Nat → Int32) (S a b s i : Nat) : Nat := fb_sm (asF nd S a b s) S - fb_sm (asF nd S a b s) i
def Psi (nd : Nat → Int32) (S a b s i : Nat) (m : jMem) : Int32 := m (97 + a) b + opI nd S a b s (m 95) + (if s.testBit a = false ∧ s.testBit b = false then m 95 s * nI (tlN nd S a b s i) else nI 0)
theorem tl_step {nd : Nat → Int32} {S a b s i : Nat} (hi : i < S) : tlN nd S a b s i = asF nd S a b s i + tlN nd S a b s (i + 1) := by
  unfold tlN
  have h1 := sm_mono (asF nd S a b s) (show i + 1 ≤ S by omega)
  rw [fb_sm_succ] at h1 ⊢
  omega
theorem op_upd {nd : Nat → Int32} {S a b s t0 : Nat} {B : Nat → Int32} {x : Int32} (h : t0 < 2 ^ S) (h1 : s < t0) : opI nd S a b s (upd B t0 (B t0 + x)) = opI nd S a b s B + (if t0.testBit a = false ∧ t0.testBit b = false then x * nI (rsN (upN nd a b) S t0) else nI 0) := by
  unfold opI
  rw [← sI_upd (i := t0) h]
  refine sI_cong fun t ht => ?_
  by_cases q : t = t0
  · subst q
    rw [if_pos rfl, up_at]
    by_cases q2 : t.testBit a = false ∧ t.testBit b = false
    · rw [if_pos ⟨h1, q2⟩, if_pos ⟨h1, q2⟩, if_pos q2, Int32.add_mul]
    · rw [if_neg (fun z => q2 z.2), if_neg (fun z => q2 z.2), if_neg q2, i_add0]
  · rw [if_neg q, up_ne q]
theorem psi_step {nd : Nat → Int32} {S a b s i : Nat} {m m' : jMem} {x : Int32} (ha : a < S) (hb : b < S) (hab : a ≠ b) (h12 : S ≤ 12) (hs : s < 2 ^ S) (hi : i < S) (hF : fwB nd s i = true) (hx : x = m 95 s * nI (rsN nd S (s ||| 2 ^ i))) (e95 : m' 95 = upd (m 95) (s ||| 2 ^ i) (m 95 (s ||| 2 ^ i) + m 95 s)) (er : ∀ r, r < S → r ≠ i → m' (97 + r) = m (97 + r)) (ei : ∀ c, c < S → m' (97 + i) c = if (s ||| 2 ^ i).testBit c = false then m (97 + i) c + x else m (97 + i) c) : Psi nd S a b s (i + 1) m' = Psi nd S a b s i m := by
  obtain ⟨b1, -⟩ := fw_bit hF
  obtain ⟨o1, o2⟩ := or_two hs hi b1
  have hB : m' 95 s = m 95 s := by rw [e95, up_ne (by omega)]
  have eF : rsF nd S s i = rsN nd S (s ||| 2 ^ i) := by unfold rsF; rw [hF, if_pos rfl]
  have tb : ∀ c, (s ||| 2 ^ i).testBit c = (s.testBit c || decide (i = c)) := fun c => by rw [Nat.testBit_or, Nat.testBit_two_pow]
  unfold Psi
  rw [e95, op_upd o2 o1, ← e95, hB, tb a, tb b, tl_step hi, ← nI_add, Int32.mul_add]
  by_cases qs : s.testBit a = false ∧ s.testBit b = false
  · rw [if_pos qs, if_pos qs, qs.1, qs.2, Bool.false_or, Bool.false_or]
    by_cases qa : i = a
    · subst qa
      have e1 : asF nd S i b s i = rsN nd S (s ||| 2 ^ i) := by unfold asF; rw [if_neg hab, if_pos rfl, eF]
      rw [ei b hb, tb b, qs.2, Bool.false_or, decide_eq_false hab, if_pos rfl, decide_eq_true rfl, if_neg (fun z => absurd z.1 (by decide)), i_add0, e1, hx]
      simp only [Int32.add_assoc]
      congr 1
      simp only [← Int32.add_assoc]
      congr 1
      rw [Int32.add_comm]
    · rw [er a ha (fun z => qa z.symm), decide_eq_false qa]
      by_cases qb : i = b
      · subst qb
        have e1 : asF nd S a i s i = 0 := by unfold asF; rw [if_pos rfl]
        rw [decide_eq_true rfl, if_neg (fun z => absurd z.2 (by decide)), i_add0, e1, show m 95 s * nI 0 = nI 0 from Int32.mul_zero, i_0add]
      · have e1 : asF nd S a b s i = rsN (upN nd a b) S (s ||| 2 ^ i) := by unfold asF; rw [if_neg qb, if_neg qa, hF, if_pos rfl]
        rw [decide_eq_false qb, if_pos ⟨rfl, rfl⟩, e1]
        simp only [Int32.add_assoc]
  · rw [if_neg qs, if_neg qs, i_add0, i_add0]
    have h1 : ¬ ((s.testBit a || decide (i = a)) = false ∧ (s.testBit b || decide (i = b)) = false) := fun z => qs ⟨(Bool.or_eq_false_iff.mp z.1).1, (Bool.or_eq_false_iff.mp z.2).1⟩
    rw [if_neg h1, i_add0]
    by_cases qa : i = a
    · subst qa
      rw [ei b hb, tb b]
      have h2 : ¬ (s.testBit b || decide (i = b)) = false := fun z => qs ⟨b1, (Bool.or_eq_false_iff.mp z).1⟩
      rw [if_neg h2]
    · rw [er a ha (fun z => qa z.symm)]
theorem psi_same {nd : Nat → Int32} {S a b s i : Nat} {m : jMem} (hi : i < S) (hF : fwB nd s i = false) : Psi nd S a b s (i + 1) m = Psi nd S a b s i m := by
  have e : asF nd S a b s i = 0 := by
    unfold asF rsF
    by_cases q : i = b
    · rw [if_pos q]
    · rw [if_neg q]
      by_cases q2 : i = a
      · rw [if_pos q2, ← q2, hF, if_neg (by decide)]
      · rw [if_neg q2, hF, if_neg (by decide)]
  unfold Psi
  rw [tl_step hi, e, Nat.zero_add]
