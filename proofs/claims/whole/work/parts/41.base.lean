/-! the least methods, and sets of letters as bits -/
theorem ex_succ {d n : Nat} (h : d < n) : ∃ n', n = n' + 1 := ⟨n - 1, by omega⟩
theorem e_isIn {v : Int32} {m : jMem} {i : Nat} (h : i < 30) : f_C_isIn v (nI i) m = some (tI (bt v i), m) := by
  unfold f_C_isIn
  simp (disch := omega) only [lits, negs, nI_add, nn1, leT, leF, ltT, ltF, eqF, mF1, mF2, mF3, mF4, mF5, mF6, mTT, eq_self, Nat.reduceEqDiff, ↓reduceIte, jbd_s, jpu_e, tI0, tI1, jgd_tI, jgd_bb, tfF, ftF, jup_at, jup_oc, jup_ok, bit1]
  cases bt v i <;> rfl
theorem e_isIn_no {v x : Int32} {m : jMem} (h : x < nI 0 ∨ nI 30 ≤ x) : f_C_isIn v x m = some (nI 0, m) := by
  unfold f_C_isIn
  simp only [lits]
  rcases h with h | h
  · rw [if_pos h]
  · rw [if_pos h]
    by_cases q : x < nI 0
    · rw [if_pos q]
    · rw [if_neg q]
theorem e_isIn_m {v : Int32} {m : jMem} : f_C_isIn v nM m = some (nI 0, m) := e_isIn_no (Or.inl (by decide))
theorem e_bit {m : jMem} (i : Nat) : f_C_bit (nI i) m = some (sb i, m) := by
  unfold f_C_bit
  simp (disch := omega) only [lits, negs, nI_add, nn1, leT, leF, ltT, ltF, eqF, mF1, mF2, mF3, mF4, mF5, mF6, mTT, eq_self, Nat.reduceEqDiff, ↓reduceIte, jbd_s, jpu_e, tI0, tI1, jgd_tI, jgd_bb, tfF, ftF, jup_at, jup_oc, jup_ok, sb_e]
theorem e_isWriter {m : jMem} {w : Nat} (h : w < 6) : f_C_isWriter (nI w) m = some (nI 1, m) := by
  unfold f_C_isWriter
  simp (disch := omega) only [lits, negs, nI_add, nn1, leT, leF, ltT, ltF, eqF, mF1, mF2, mF3, mF4, mF5, mF6, mTT, eq_self, Nat.reduceEqDiff, ↓reduceIte, jbd_s, jpu_e, tI0, tI1, jgd_tI, jgd_bb, tfF, ftF, jup_at, jup_oc, jup_ok]
theorem e_isWriter_no {m : jMem} {x : Int32} (h : x < nI 0 ∨ nI 6 ≤ x) : f_C_isWriter x m = some (nI 0, m) := by
  unfold f_C_isWriter
  simp only [lits]
  rcases h with h | h
  · rw [if_pos h]
  · rw [if_pos h]
    by_cases q : x < nI 0
    · rw [if_pos q]
    · rw [if_neg q]
theorem e_truth {m : jMem} (b : Bool) : f_C_truth (tI b) m = some (tI b, m) := by
  unfold f_C_truth
  cases b
  · rfl
  · rfl
theorem e_truth0 {m : jMem} : f_C_truth (nI 0) m = some (nI 0, m) := e_truth false
theorem e_truth1 {m : jMem} : f_C_truth (nI 1) m = some (nI 1, m) := e_truth true
theorem ixW (x : Int32) : (x < nI 0 ∨ nI 6 ≤ x) ∨ ∃ w : Nat, w < 6 ∧ x = nI w := by
  rcases pk_ix x (n := 6) (by decide) with h | h | h
  · exact Or.inl (Or.inl h)
  · exact Or.inl (Or.inr h)
  · exact Or.inr h
theorem ixN (x : Int32) {n : Nat} (hn : n < 2147483648) : (x < nI 0 ∨ nI n ≤ x) ∨ ∃ w : Nat, w < n ∧ x = nI w := by
  rcases pk_ix x (n := n) hn with h | h | h
  · exact Or.inl (Or.inl h)
  · exact Or.inl (Or.inr h)
  · exact Or.inr h
/-- the union of the rows of a set -/
def aO (p : Nat → Bool) (f : Nat → Int32) : Nat → Int32
  | 0 => nI 0
  | n + 1 => if p n then aO p f n ||| f n else aO p f n
theorem aO_succ (p : Nat → Bool) (f : Nat → Int32) (n : Nat) : aO p f (n + 1) = if p n then aO p f n ||| f n else aO p f n := rfl
theorem b_aO {p : Nat → Bool} {f : Nat → Int32} {j : Nat} : ∀ {n : Nat}, bt (aO p f n) j = true ↔ ∃ l, l < n ∧ p l = true ∧ bt (f l) j = true
  | 0 => by
    unfold aO
    rw [b_n0]
    exact ⟨fun h => absurd h (by decide), fun ⟨l, h, _⟩ => absurd h (Nat.not_lt_zero l)⟩
  | n + 1 => by
    unfold aO
    have ih := b_aO (p := p) (f := f) (j := j) (n := n)
    cases hp : p n
    · rw [if_neg (by decide), ih]
      exact ⟨fun ⟨l, h, q⟩ => ⟨l, by omega, q⟩, fun ⟨l, h, q⟩ => ⟨l, by
        rcases Nat.lt_or_ge l n with r | r
        · exact r
        · have e : l = n := by omega
          rw [e, hp] at q
          exact absurd q.1 (by decide), q⟩⟩
    · rw [if_pos rfl, b_or, Bool.or_eq_true, ih]
      refine ⟨fun h => ?_, fun ⟨l, h, q⟩ => ?_⟩
      · rcases h with ⟨l, h, q⟩ | h
        · exact ⟨l, by omega, q⟩
        · exact ⟨n, by omega, hp, h⟩
      · rcases Nat.lt_or_ge l n with r | r
        · exact Or.inl ⟨l, r, q⟩
        · have e : l = n := by omega
          rw [e] at q
          exact Or.inr q.2
theorem aO_cong {p q : Nat → Bool} {f g : Nat → Int32} : ∀ {n : Nat}, (∀ l, l < n → p l = q l) → (∀ l, l < n → p l = true → f l = g l) → aO p f n = aO q g n
  | 0, _, _ => rfl
  | n + 1, h, h2 => by
    unfold aO
    rw [aO_cong (fun l hl => h l (by omega)) (fun l hl => h2 l (by omega)), h n (by omega)]
    cases hq : q n
    · rfl
    · rw [if_pos rfl, if_pos rfl, h2 n (by omega) (by rw [h n (by omega), hq])]
theorem aO_top {p : Nat → Bool} {f : Nat → Int32} {n N : Nat} (hn : n ≤ N) (h : ∀ l, n ≤ l → l < N → p l = false) : aO p f N = aO p f n := by
  induction N with
  | zero => rw [show n = 0 by omega]
  | succ N ih =>
    rcases Nat.lt_or_ge n (N + 1) with q | q
    · unfold aO
      rw [h N (by omega) (by omega), if_neg (by decide), ih (by omega) (fun l a b => h l a (by omega))]
      cases n <;> rfl
    · rw [show n = N + 1 by omega]
theorem lp_allOf {v : Int32} {c N : Nat} {k : Int32 → jMem → Option (Int32 × jMem)} {m : jMem} (hN : m 29 15 = nI N) (h30 : N ≤ 30) (hc : jlen 1 c = 30) : ∀ (d n i : Nat), i + d = N → d < n → lp_L_allOf_5 v c k n (aO (bt v) (m c) i) (nI i) m = k (aO (bt v) (m c) N) m := by
  intro d
  induction d with
  | zero =>
    intro n i h hn
    obtain ⟨n, rfl⟩ := ex_succ hn
    rw [show i = N by omega]
    unfold lp_L_allOf_5
    simp (disch := omega) only [lits, negs, nI_add, nn1, leT, leF, ltT, ltF, eqF, mF1, mF2, mF3, mF4, mF5, mF6, mTT, eq_self, Nat.reduceEqDiff, ↓reduceIte, jbd_s, jpu_e, tI0, tI1, jgd_tI, jgd_bb, tfF, ftF, jup_at, jup_oc, jup_ok, hN]
  | succ d ih =>
    intro n i h hn
    obtain ⟨n, rfl⟩ := ex_succ hn
    have e := ih n (i + 1) (by omega) (by omega)
    unfold lp_L_allOf_5
    rw [aO_succ] at e
    cases hb : bt v i
    · rw [hb] at e
      simp (disch := omega) only [lits, negs, nI_add, nn1, leT, leF, ltT, ltF, eqF, mF1, mF2, mF3, mF4, mF5, mF6, mTT, eq_self, Nat.reduceEqDiff, ↓reduceIte, jbd_s, jpu_e, tI0, tI1, jgd_tI, jgd_bb, tfF, ftF, jup_at, jup_oc, jup_ok, hN, e_isIn, hb] at e ⊢
      exact e
    · rw [hb] at e
      simp (disch := omega) only [lits, negs, nI_add, nn1, leT, leF, ltT, ltF, eqF, mF1, mF2, mF3, mF4, mF5, mF6, mTT, eq_self, Nat.reduceEqDiff, ↓reduceIte, jbd_s, jpu_e, tI0, tI1, jgd_tI, jgd_bb, tfF, ftF, jup_at, jup_oc, jup_ok, hN, e_isIn, hb, jld_nI hc] at e ⊢
      exact e
theorem e_allOf {v : Int32} {c N : Nat} {m : jMem} (hN : m 29 15 = nI N) (h30 : N ≤ 30) (hc : jlen 1 c = 30) : f_L_allOf v c m = some (aO (bt v) (m c) N, m) := by
  unfold f_L_allOf
  simp only [lits]
  exact lp_allOf hN h30 hc N 5000 0 (by omega) (by omega)
