/-! the count, the whole -/
theorem lp_go2 {S s : Nat} {nd : Nat → Int32} {k : jMem → Option (Unit × jMem)} (h12 : S ≤ 12) (hs : s < 2 ^ S) : ∀ (d n i : Nat) (m : jMem), i + d = S → d < n → m 89 6 = nI S → m 93 = nd → (∀ t, t < 2 ^ S → m 94 t = nI (rsN nd S t)) → ∃ m', lp_O_goOnFrom_2 (nI s) k n (nI i) m = k m' ∧ (∀ r, r ≠ 95 → (r < 97 ∨ 108 < r) → m' r = m r) ∧ ∀ a b, a < S → b < S → a ≠ b → Psi nd S a b s S m' = Psi nd S a b s i m := by
  obtain ⟨p1, p2⟩ := two_lim h12
  intro d
  induction d with
  | zero =>
    intro n i m hi hn hS hnd hT
    obtain ⟨n, rfl⟩ := ex_succ hn
    have e : i = S := by omega
    subst e
    refine ⟨m, ?_, fun _ _ _ => rfl, fun _ _ _ _ _ => rfl⟩
    unfold lp_O_goOnFrom_2
    simp (disch := omega) only [lits, negs, nI_add, nn1, leT, leF, ltT, ltF, eqF, mF1, mF2, mF3, mF4, mF5, mF6, mTT, eq_self, Nat.reduceEqDiff, ↓reduceIte, jbd_s, jpu_e, tI0, tI1, jgd_tI, jgd_bb, tfF, ftF, jup_at, jup_oc, jup_ok, hS]
  | succ d ih =>
    intro n i m hi hn hS hnd hT
    obtain ⟨n, rfl⟩ := ex_succ hn
    have ef := e_mayFollow (s := s) (m := m) h12 (by omega : i < S)
    rw [hnd] at ef
    cases q : fwB nd s i
    · rw [q] at ef
      obtain ⟨m', e, f1, f2⟩ := ih n (i + 1) m (by omega) (by omega) hS hnd hT
      refine ⟨m', ?_, f1, fun a b ha hb hab => by rw [f2 a b ha hb hab, psi_same (by omega) q]⟩
      rw [← e]
      conv => lhs; unfold lp_O_goOnFrom_2
      simp only [lits]
      simp (disch := omega) only [lits, negs, nI_add, nn1, leT, leF, ltT, ltF, eqF, mF1, mF2, mF3, mF4, mF5, mF6, mTT, eq_self, Nat.reduceEqDiff, ↓reduceIte, ↓jbd_s, ↓jpu_e, tI0, tI1, jgd_tI, jgd_bb, tfF, ftF, jup_at, jup_oc, jup_ok, hS, ↓jb ef]
    · rw [q] at ef
      obtain ⟨o1, o2⟩ := or_two hs (by omega : i < S) (fw_bit q).1
      let m7 : jMem := jup m 95 (s ||| 2 ^ i) (m 95 (s ||| 2 ^ i) + m 95 s)
      have e7 : ∀ c, c ≠ 95 → m7 c = m c := fun c hc => jup_oc hc
      have e7s : m7 95 s = m 95 s := jup_ok (by omega)
      obtain ⟨m1, g1, g2, g3⟩ := lp_go59 (u := s ||| 2 ^ i) (x := m 95 s * nI (rsN nd S (s ||| 2 ^ i))) (v1 := nI s) (k := fun m15 => lp_O_goOnFrom_2 (nI s) k n (nI (i + 1)) m15) h12 (by omega : i < S) S 5000 0 m7 (by omega) (by omega) (by rw [e7 89 (by omega)]; exact hS)
      obtain ⟨m', e, f1, f2⟩ := ih n (i + 1) m1 (by omega) (by omega) (by rw [g2 89 (by omega), e7 89 (by omega)]; exact hS) (by rw [g2 93 (by omega), e7 93 (by omega)]; exact hnd) (fun t ht => by rw [g2 94 (by omega), e7 94 (by omega)]; exact hT t ht)
      refine ⟨m', ?_, fun r h1 h2 => by rw [f1 r h1 h2, g2 r (by omega), e7 r h1], fun a b ha hb hab => ?_⟩
      · rw [← e, ← g1]
        conv => lhs; unfold lp_O_goOnFrom_2
        simp only [lits]
        simp (disch := omega) only [lits, negs, nI_add, nn1, leT, leF, ltT, ltF, eqF, mF1, mF2, mF3, mF4, mF5, mF6, mTT, eq_self, Nat.reduceEqDiff, ↓reduceIte, ↓jbd_s, ↓jpu_e, tI0, tI1, jgd_tI, jgd_bb, tfF, ftF, jup_at, jup_oc, jup_ok, hS, ↓jb ef, ↓jb (e_bit (m := m) i)]
        rw [or_sbn (by omega), ld_95 (by omega), ld_95 (by omega), st_95 (by omega)]
        show jld 1 m7 95 (nI s) _ = _
        rw [ld_95 (by omega), e7s, ld_94 (by omega), jup_oc (by omega : 94 ≠ 95), hT _ o2]
        first | done | rfl
      · rw [f2 a b ha hb hab]
        refine psi_step ha hb hab h12 hs (by omega) q rfl ?_ (fun r h1 h2 => by rw [g2 (97 + r) (by omega), e7 (97 + r) (by omega)]) (fun c hc => ?_)
        · rw [g2 95 (by omega)]
          exact jup_row
        · rw [g3 c hc, e7 (97 + i) (by omega)]
          by_cases z : (s ||| 2 ^ i).testBit c = false
          · rw [if_pos ⟨Nat.zero_le c, z⟩, if_pos z]
          · rw [if_neg (fun y => z y.2), if_neg z]
/-- what stands when the sets below s have gone on -/
def Phi (nd : Nat → Int32) (S a b s : Nat) (m : jMem) : Int32 := m (97 + a) b + sI (fun t => if s ≤ t ∧ t.testBit a = false ∧ t.testBit b = false then m 95 t * nI (rsN (upN nd a b) S t) else nI 0) (2 ^ S)
theorem phi_psi0 {nd : Nat → Int32} {S a b s : Nat} {m : jMem} (h12 : S ≤ 12) (ha : a < S) (hab : a ≠ b) (hs : s < 2 ^ S) : Phi nd S a b s m = Psi nd S a b s 0 m := by
  unfold Phi Psi opI
  rw [Int32.add_assoc]
  congr 1
  have e := sI_upd (f := fun t => if s < t ∧ t.testBit a = false ∧ t.testBit b = false then m 95 t * nI (rsN (upN nd a b) S t) else nI 0) (v := if s.testBit a = false ∧ s.testBit b = false then m 95 s * nI (tlN nd S a b s 0) else nI 0) hs
  rw [← e]
  refine sI_cong fun t ht => ?_
  by_cases q : t = s
  · subst q
    rw [if_pos rfl, if_neg (show ¬ (t < t ∧ t.testBit a = false ∧ t.testBit b = false) from fun z => Nat.lt_irrefl _ z.1), i_0add]
    by_cases q2 : t.testBit a = false ∧ t.testBit b = false
    · rw [if_pos ⟨Nat.le_refl t, q2⟩, if_pos q2]
      have e0 : tlN nd S a b t 0 = rsN (upN nd a b) S t := by
        rw [rs_ask h12 ha hab ht q2.1]
        exact Nat.sub_zero _
      rw [e0]
    · rw [if_neg (fun z => q2 z.2), if_neg q2]
  · rw [if_neg q]
    by_cases q2 : s < t ∧ t.testBit a = false ∧ t.testBit b = false
    · rw [if_pos ⟨by omega, q2.2⟩, if_pos q2]
    · rw [if_neg (fun z => q2 ⟨by omega, z.2⟩), if_neg q2]
theorem phi_psiS {nd : Nat → Int32} {S a b s : Nat} {m : jMem} : Phi nd S a b (s + 1) m = Psi nd S a b s S m := by
  unfold Phi Psi opI
  have e0 : tlN nd S a b s S = 0 := Nat.sub_self _
  rw [e0, show m 95 s * nI 0 = nI 0 from Int32.mul_zero, ite_self, i_add0]
  rfl
theorem phi_skip {nd : Nat → Int32} {S a b s : Nat} {m : jMem} (h : m 95 s = nI 0) : Phi nd S a b (s + 1) m = Phi nd S a b s m := by
  unfold Phi
  congr 1
  refine sI_cong fun t ht => ?_
  by_cases q : t = s
  · subst q
    rw [if_neg (fun z => by omega), h, show nI 0 * nI (rsN (upN nd a b) S t) = nI 0 from Int32.zero_mul, ite_self]
  · by_cases q2 : s ≤ t ∧ t.testBit a = false ∧ t.testBit b = false
    · rw [if_pos ⟨by omega, q2.2⟩, if_pos q2]
    · rw [if_neg (fun z => q2 ⟨by omega, z.2⟩), if_neg q2]
theorem lp_ca81 {S : Nat} {nd : Nat → Int32} {k : jMem → Option (Unit × jMem)} (h12 : S ≤ 12) : ∀ (d n s : Nat) (m : jMem), s + d = 2 ^ S - 1 → d < n → m 89 6 = nI S → m 93 = nd → (∀ t, t < 2 ^ S → m 94 t = nI (rsN nd S t)) → ∃ m', lp_O_countAhead_81 (nI (2 ^ S - 1)) k n (nI s) m = k m' ∧ (∀ r, r ≠ 95 → (r < 97 ∨ 108 < r) → m' r = m r) ∧ ∀ a b, a < S → b < S → a ≠ b → Phi nd S a b (2 ^ S - 1) m' = Phi nd S a b s m := by
  obtain ⟨p1, p2⟩ := two_lim h12
  intro d
  induction d with
  | zero =>
    intro n s m hi hn hS hnd hT
    obtain ⟨n, rfl⟩ := ex_succ hn
    have e : s = 2 ^ S - 1 := by omega
    subst e
    refine ⟨m, ?_, fun _ _ _ => rfl, fun _ _ _ _ _ => rfl⟩
    unfold lp_O_countAhead_81
    rw [if_pos (nI_le (Nat.le_refl _) (by omega))]
  | succ d ih =>
    intro n s m hi hn hS hnd hT
    obtain ⟨n, rfl⟩ := ex_succ hn
    by_cases q : m 95 s = nI 0
    · obtain ⟨m', e, f1, f2⟩ := ih n (s + 1) m (by omega) (by omega) hS hnd hT
      refine ⟨m', ?_, f1, fun a b ha hb hab => by rw [f2 a b ha hb hab, phi_skip q]⟩
      rw [← e]
      conv => lhs; unfold lp_O_countAhead_81
      simp only [lits]
      rw [if_neg (nI_ge (by omega) (by omega)), ld_95 (by omega), if_pos q, nI_add]
    · obtain ⟨m1, g1, g2, g3⟩ := lp_go2 (s := s) (nd := nd) (k := fun m16 => some ((), m16)) h12 (by omega) S 5000 0 m (by omega) (by omega) hS hnd hT
      have eg : f_O_goOnFrom (nI s) m = some ((), m1) := by
        unfold f_O_goOnFrom
        simp only [lits]
        exact g1
      obtain ⟨m', e, f1, f2⟩ := ih n (s + 1) m1 (by omega) (by omega) (by rw [g2 89 (by omega) (by omega)]; exact hS) (by rw [g2 93 (by omega) (by omega)]; exact hnd) (fun t ht => by rw [g2 94 (by omega) (by omega)]; exact hT t ht)
      refine ⟨m', ?_, fun r h1 h2 => by rw [f1 r h1 h2, g2 r h1 h2], fun a b ha hb hab => by rw [f2 a b ha hb hab, phi_psiS, g3 a b ha hb hab, phi_psi0 h12 ha hab (by omega)]⟩
      rw [← e]
      conv => lhs; unfold lp_O_countAhead_81
      simp only [lits]
      rw [if_neg (nI_ge (by omega) (by omega)), ld_95 (by omega), if_neg q, eg, jbd_s, nI_add]
theorem phi_full {nd : Nat → Int32} {S a b : Nat} {m : jMem} (ha : a < S) : Phi nd S a b (2 ^ S - 1) m = m (97 + a) b := by
  unfold Phi
  rw [sI_zero, i_add0]
  intro t ht
  refine if_neg fun z => ?_
  have e : t = 2 ^ S - 1 := by omega
  rw [e, Nat.testBit_two_pow_sub_one, decide_eq_true ha] at z
  exact absurd z.2.1 (by decide)
theorem phi_0 {nd : Nat → Int32} {S a b : Nat} {m : jMem} (h0 : m (97 + a) b = nI 0) (h1 : m 95 0 = nI 1) (h2 : ∀ t, 0 < t → t < 2 ^ S → m 95 t = nI 0) : Phi nd S a b 0 m = nI (rsN (upN nd a b) S 0) := by
  unfold Phi
  rw [h0, i_0add]
  have hp : 0 < 2 ^ S := Nat.pow_pos (by omega)
  have e := sI_upd (f := fun _ => nI 0) (i := 0) (v := nI (rsN (upN nd a b) S 0)) hp
  rw [sI_zero (fun _ _ => rfl), i_0add] at e
  rw [← e]
  refine sI_cong fun t ht => ?_
  by_cases q : t = 0
  · subst q
    rw [if_pos rfl, if_pos ⟨Nat.le_refl 0, Nat.zero_testBit a, Nat.zero_testBit b⟩, h1]
    exact Int32.one_mul _
  · rw [if_neg q, h2 t (by omega) ht, show nI 0 * nI (rsN (upN nd a b) S t) = nI 0 from Int32.zero_mul, ite_self]
