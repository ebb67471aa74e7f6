/-! what each letter of a set needs -/
def ndS (P : Nat → Int32) (A B g : Nat → Nat) (S a : Nat) : Nat → Int32
  | 0 => plS g S (P (g a))
  | k + 1 => if B k = g a then ndS P A B g S a k ||| plS g S (sb (A k)) else ndS P A B g S a k
theorem ndS_succ (P : Nat → Int32) (A B g : Nat → Nat) (S a k : Nat) : ndS P A B g S a (k + 1) = if B k = g a then ndS P A B g S a k ||| plS g S (sb (A k)) else ndS P A B g S a k := rfl
theorem pl_none {g : Nat → Nat} {S l : Nat} (h12 : S ≤ 12) (hl : l < 32) (hg : ∀ b, b < S → g b < 32) (h : ∀ b, b < S → ¬ g b = l) : plS g S (sb l) = nI 0 := by
  apply b_ext
  intro j hj
  rw [b_pl h12 hj, b_n0]
  by_cases q : j < S
  · rw [b_sb hl (hg j q), decide_eq_false (h j q), Bool.and_false]
  · rw [decide_eq_false q, Bool.false_and]
theorem pl_one {g : Nat → Nat} {S b : Nat} (h12 : S ≤ 12) (hb : b < S) (hg : ∀ b, b < S → g b < 32) (hi : ∀ a b, a < S → b < S → g a = g b → a = b) : plS g S (sb (g b)) = sb b := by
  apply b_ext
  intro j hj
  rw [b_pl h12 hj, b_sb (by omega) hj]
  by_cases q : j < S
  · rw [b_sb (hg b hb) (hg j q), decide_eq_true q, Bool.true_and]
    by_cases e : j = b
    · rw [e, decide_eq_true rfl, decide_eq_true rfl]
    · rw [decide_eq_false e, decide_eq_false (fun z => e (hi j b q hb z))]
  · rw [decide_eq_false q, Bool.false_and, decide_eq_false (by omega)]
theorem lp_dem {S a0 b0 : Nat} {g : Nat → Nat} {k : jMem → Option (Unit × jMem)} (h12 : S ≤ 12) (hb0 : b0 < 30) : ∀ (d n i : Nat) (m : jMem), i + d = S → d < n → m 89 6 = nI S → (∀ b, b < S → m 92 b = nI (g b) ∧ g b < 30) → ∃ m', lp_O_demand_2 (nI a0) (nI b0) k n (nI i) m = k m' ∧ (∀ c, c ≠ 93 → m' c = m c) ∧ ∀ a, a < S → m' 93 a = if i ≤ a ∧ b0 = g a then m 93 a ||| plS g S (sb a0) else m 93 a := by
  intro d
  induction d with
  | zero =>
    intro n i m hi hn hS hg
    obtain ⟨n, rfl⟩ := ex_succ hn
    have e : i = S := by omega
    subst e
    refine ⟨m, ?_, fun _ _ => rfl, fun a ha => (if_neg (fun z => by omega)).symm⟩
    unfold lp_O_demand_2
    simp (disch := omega) only [lits, negs, nI_add, nn1, leT, leF, ltT, ltF, eqF, mF1, mF2, mF3, mF4, mF5, mF6, mTT, eq_self, Nat.reduceEqDiff, ↓reduceIte, jbd_s, jpu_e, tI0, tI1, jgd_tI, jgd_bb, tfF, ftF, jup_at, jup_oc, jup_ok, hS]
  | succ d ih =>
    intro n i m hi hn hS hg
    obtain ⟨n, rfl⟩ := ex_succ hn
    have hgi := (hg i (by omega)).2
    by_cases q : g i = b0
    · obtain ⟨m', e, f1, f2⟩ := ih n (i + 1) (jup m 93 i (m 93 i ||| plS g S (sb a0))) (by omega) (by omega) (by rw [jup_oc (by omega)]; exact hS) (fun b hb => by rw [jup_oc (by omega)]; exact hg b hb)
      refine ⟨m', ?_, fun c hc => by rw [f1 c hc, jup_oc hc], fun a ha => ?_⟩
      · rw [← e]
        conv => lhs; unfold lp_O_demand_2
        simp only [lits]
        simp (disch := omega) only [lits, negs, nI_add, nn1, leT, leF, ltT, ltF, eqF, mF1, mF2, mF3, mF4, mF5, mF6, mTT, eq_self, Nat.reduceEqDiff, ↓reduceIte, ↓jbd_s, ↓jpu_e, tI0, tI1, jgd_tI, jgd_bb, tfF, ftF, jup_at, jup_oc, jup_ok, hS, ↓ld_92, (hg i (by omega)).1, q, ↓ld_93, ↓jb (e_bit (m := m) a0), ↓jb (e_places (v := sb a0) h12 hS hg), ↓st_93]
      · rw [f2 a ha]
        by_cases e1 : a = i
        · subst e1
          rw [if_neg (fun z => by omega), jup_at, if_pos ⟨Nat.le_refl a, q.symm⟩]
        · rw [jup_ok e1]
          by_cases e2 : i + 1 ≤ a ∧ b0 = g a
          · rw [if_pos e2, if_pos ⟨by omega, e2.2⟩]
          · rw [if_neg e2, if_neg (fun z => e2 ⟨by omega, z.2⟩)]
    · obtain ⟨m', e, f1, f2⟩ := ih n (i + 1) m (by omega) (by omega) hS hg
      refine ⟨m', ?_, f1, fun a ha => ?_⟩
      · rw [← e]
        conv => lhs; unfold lp_O_demand_2
        simp only [lits]
        simp (disch := omega) only [lits, negs, nI_add, nn1, leT, leF, ltT, ltF, eqF, mF1, mF2, mF3, mF4, mF5, mF6, mTT, eq_self, Nat.reduceEqDiff, ↓reduceIte, ↓jbd_s, ↓jpu_e, tI0, tI1, jgd_tI, jgd_bb, tfF, ftF, jup_at, jup_oc, jup_ok, hS, ↓ld_92, (hg i (by omega)).1, q]
      · rw [f2 a ha]
        by_cases e1 : a = i
        · subst e1
          rw [if_neg (fun z => by omega), if_neg (fun z => q z.2.symm)]
        · by_cases e2 : i + 1 ≤ a ∧ b0 = g a
          · rw [if_pos e2, if_pos ⟨by omega, e2.2⟩]
          · rw [if_neg e2, if_neg (fun z => e2 ⟨by omega, z.2⟩)]
theorem lp_Cts125 {N S p : Nat} {X : Int32} {P : Nat → Int32} {A B g : Nat → Nat} {k : jMem → Option (Int32 × jMem)} (h30 : N ≤ 30) (h12 : S ≤ 12) (hn : nthS g X N S) (hp12 : p ≤ 12) (hAB : ∀ k, k < p → A k < N ∧ B k < N) : ∀ (d n i : Nat) (m : jMem), i + d = p → d < n → m 89 6 = nI S → m 89 3 = nI p → (∀ k, k < p → m 90 k = nI (A k) ∧ m 91 k = nI (B k)) → (∀ b, b < S → m 92 b = nI (g b)) → (∀ a, a < S → m 93 a = ndS P A B g S a i) → ∃ m', lp_O_takesSet_125 X k n (nI i) m = k m' ∧ (∀ c, c ≠ 93 → m' c = m c) ∧ ∀ a, a < S → m' 93 a = ndS P A B g S a p := by
  intro d
  induction d with
  | zero =>
    intro n i m hi hn hS hp hab hg h
    obtain ⟨n, rfl⟩ := ex_succ hn
    have e : i = p := by omega
    subst e
    refine ⟨m, ?_, fun _ _ => rfl, h⟩
    unfold lp_O_takesSet_125
    simp (disch := omega) only [lits, negs, nI_add, nn1, leT, leF, ltT, ltF, eqF, mF1, mF2, mF3, mF4, mF5, mF6, mTT, eq_self, Nat.reduceEqDiff, ↓reduceIte, jbd_s, jpu_e, tI0, tI1, jgd_tI, jgd_bb, tfF, ftF, jup_at, jup_oc, jup_ok, hp]
  | succ d ih =>
    intro n i m hi hn' hS hp hab hg h
    obtain ⟨n, rfl⟩ := ex_succ hn'
    have hgN : ∀ b, b < S → g b < N ∧ bt X (g b) = true := fun b hb => ⟨(hn.2 b hb).1, (hn.2 b hb).2.1⟩
    have hg' : ∀ b, b < S → m 92 b = nI (g b) ∧ g b < 30 := fun b hb => ⟨hg b hb, by have := (hgN b hb).1; omega⟩
    obtain ⟨a1, b1⟩ := hAB i (by omega)
    obtain ⟨a2, b2⟩ := hab i (by omega)
    have a30 : A i < 30 := by omega
    have b30 : B i < 30 := by omega
    by_cases qa : bt X (A i) = true
    · by_cases qb : bt X (B i) = true
      · obtain ⟨m1, e1, f1, f2⟩ := lp_dem (a0 := A i) (b0 := B i) (k := fun m8 => some ((), m8)) h12 b30 S 5000 0 m (by omega) (by omega) hS hg'
        have ed : f_O_demand (nI (A i)) (nI (B i)) m = some ((), m1) := by
          unfold f_O_demand
          simp only [lits]
          exact e1
        obtain ⟨m', e, g1, g2⟩ := ih n (i + 1) m1 (by omega) (by omega) (by rw [f1 89 (by omega)]; exact hS) (by rw [f1 89 (by omega)]; exact hp) (fun k hk => by rw [f1 90 (by omega), f1 91 (by omega)]; exact hab k hk) (fun b hb => by rw [f1 92 (by omega)]; exact hg b hb) (fun a ha => by
          rw [f2 a ha, ndS_succ, h a ha]
          by_cases q : B i = g a
          · rw [if_pos ⟨Nat.zero_le a, q⟩, if_pos q]
          · rw [if_neg (fun z => q z.2), if_neg q])
        refine ⟨m', ?_, fun c hc => by rw [g1 c hc, f1 c hc], g2⟩
        rw [← e]
        conv => lhs; unfold lp_O_takesSet_125
        simp only [lits]
        simp (disch := omega) only [lits, negs, nI_add, nn1, leT, leF, ltT, ltF, eqF, mF1, mF2, mF3, mF4, mF5, mF6, mTT, eq_self, Nat.reduceEqDiff, ↓reduceIte, ↓jbd_s, ↓jpu_e, tI0, tI1, jgd_tI, jgd_bb, tfF, ftF, jup_at, jup_oc, jup_ok, hp, ↓ld_90, a2, ↓jb (e_isIn (v := X) (m := m) a30), qa, ↓ld_91, b2, ↓jb (e_isIn (v := X) (m := m) b30), qb, ↓jb ed]
      · have qb' : bt X (B i) = false := by cases z : bt X (B i); rfl; exact absurd z qb
        obtain ⟨m', e, g1, g2⟩ := ih n (i + 1) m (by omega) (by omega) hS hp hab hg (fun a ha => by
          rw [ndS_succ, h a ha, if_neg (fun z => qb (by rw [z]; exact (hgN a ha).2))])
        refine ⟨m', ?_, g1, g2⟩
        rw [← e]
        conv => lhs; unfold lp_O_takesSet_125
        simp only [lits]
        simp (disch := omega) only [lits, negs, nI_add, nn1, leT, leF, ltT, ltF, eqF, mF1, mF2, mF3, mF4, mF5, mF6, mTT, eq_self, Nat.reduceEqDiff, ↓reduceIte, ↓jbd_s, ↓jpu_e, tI0, tI1, jgd_tI, jgd_bb, tfF, ftF, jup_at, jup_oc, jup_ok, hp, ↓ld_90, a2, ↓jb (e_isIn (v := X) (m := m) a30), qa, ↓ld_91, b2, ↓jb (e_isIn (v := X) (m := m) b30), qb']
    · have qa' : bt X (A i) = false := by cases z : bt X (A i); rfl; exact absurd z qa
      obtain ⟨m', e, g1, g2⟩ := ih n (i + 1) m (by omega) (by omega) hS hp hab hg (fun a ha => by
        rw [ndS_succ, h a ha]
        by_cases q : B i = g a
        · rw [if_pos q, pl_none h12 (by omega) (fun b hb => by have := (hg' b hb).2; omega) (fun b hb z => qa (by rw [← z]; exact (hgN b hb).2)), or_n0]
        · rw [if_neg q])
      refine ⟨m', ?_, g1, g2⟩
      rw [← e]
      conv => lhs; unfold lp_O_takesSet_125
      simp only [lits]
      simp (disch := omega) only [lits, negs, nI_add, nn1, leT, leF, ltT, ltF, eqF, mF1, mF2, mF3, mF4, mF5, mF6, mTT, eq_self, Nat.reduceEqDiff, ↓reduceIte, ↓jbd_s, ↓jpu_e, tI0, tI1, jgd_tI, jgd_bb, tfF, ftF, jup_at, jup_oc, jup_ok, hp, ↓ld_90, a2, ↓jb (e_isIn (v := X) (m := m) a30), qa']
/-- the class lays a set out -/
theorem e_takes {N p : Nat} {X : Int32} {A B g : Nat → Nat} {m : jMem} (h30 : N ≤ 30) (hN : m 29 15 = nI N) (hX : isSt N X = true) (h12 : pcnt X ≤ 12) (hn : nthS g X N (pcnt X)) (hp12 : p ≤ 12) (hp : m 89 3 = nI p) (hAB : ∀ k, k < p → m 90 k = nI (A k) ∧ m 91 k = nI (B k) ∧ A k < N ∧ B k < N) : ∃ m', f_O_takesSet X m = some (nI 1, m') ∧ (∀ c, c ≠ 92 → c ≠ 93 → c ≠ 89 → m' c = m c) ∧ (∀ j, j ≠ 6 → m' 89 j = m 89 j) ∧ m' 89 6 = nI (pcnt X) ∧ (∀ b, b < pcnt X → m' 92 b = nI (g b)) ∧ ∀ a, a < pcnt X → m' 93 a = ndS (m 37) A B g (pcnt X) a p := by
  have hS := hn.1
  obtain ⟨m1, e1, f1, f2, f3, f4⟩ := lp_Cts29 (X := X) (k := fun m10 => lp_O_takesSet_85 X (fun m16 => lp_O_takesSet_125 X (fun m27 => some (nI 1, m27)) 5000 (nI 0) m16) 5000 (nI 0) m10) h30 (by omega) N 5000 0 (jup m 89 6 (nI 0)) (by omega) (by omega) (by rw [jup_oc (by omega)]; exact hN) jup_at (fun l hl => absurd hl (Nat.not_lt_zero l))
  have g92 : ∀ b, b < pcnt X → m1 92 b = nI (g b) ∧ g b < 30 := fun b hb => by
    obtain ⟨z1, z2, z3⟩ := hn.2 b hb
    have := f4 (g b) z1 z2
    rw [z3] at this
    exact ⟨this, by omega⟩
  rw [← hS] at f3
  obtain ⟨m2, e2, k1, k2⟩ := lp_Cts85 (X := X) (k := fun m16 => lp_O_takesSet_125 X (fun m27 => some (nI 1, m27)) 5000 (nI 0) m16) h12 (pcnt X) 5000 0 m1 (by omega) (by omega) f3 g92 (fun a ha => absurd ha (Nat.not_lt_zero a))
  have e37 : m1 37 = m 37 := by rw [f1 37 (by omega) (by omega), jup_oc (by omega)]
  have e89 : m1 89 3 = nI p := by rw [f2 3 (by omega), jup_ok (by omega)]; exact hp
  obtain ⟨m3, e3, n1, n2⟩ := lp_Cts125 (X := X) (P := m 37) (A := A) (B := B) (k := fun m27 => some (nI 1, m27)) h30 h12 hn hp12 (fun k hk => (hAB k hk).2.2) p 5000 0 m2 (by omega) (by omega) (by rw [k1 89 (by omega)]; exact f3) (by rw [k1 89 (by omega)]; exact e89) (fun k hk => by
    rw [k1 90 (by omega), k1 91 (by omega), f1 90 (by omega) (by omega), f1 91 (by omega) (by omega), jup_oc (by omega), jup_oc (by omega)]
    exact ⟨(hAB k hk).1, (hAB k hk).2.1⟩) (fun b hb => by rw [k1 92 (by omega)]; exact (g92 b hb).1) (fun a ha => by rw [k2 a ha, e37]; rfl)
  refine ⟨m3, ?_, fun c a b d => by rw [n1 c b, k1 c b, f1 c a d, jup_oc d], fun j hj => by rw [n1 89 (by omega), k1 89 (by omega), f2 j hj, jup_ok hj], by rw [n1 89 (by omega), k1 89 (by omega)]; exact f3, fun b hb => by rw [n1 92 (by omega), k1 92 (by omega)]; exact (g92 b hb).1, n2⟩
  unfold f_O_takesSet
  simp only [lits]
  rw [e_isSet hN h30, hX]
  simp (disch := omega) only [lits, negs, nI_add, nn1, leT, leF, ltT, ltF, eqF, mF1, mF2, mF3, mF4, mF5, mF6, mTT, eq_self, Nat.reduceEqDiff, ↓reduceIte, ↓jbd_s, ↓jpu_e, tI0, tI1, jgd_tI, jgd_bb, tfF, ftF, jup_at, jup_oc, jup_ok, ↓jb (e_bitCount (x := X) (m := m))]
  rw [e1, e2, e3]
theorem e_takes_no {N : Nat} {X : Int32} {m : jMem} (h30 : N ≤ 30) (hN : m 29 15 = nI N) (h : isSt N X = false ∨ ¬ pcnt X ≤ 12) : f_O_takesSet X m = some (nI 0, m) := by
  have hp := pcnt_le X
  unfold f_O_takesSet
  simp only [lits]
  rw [e_isSet hN h30]
  cases q : isSt N X
  · simp (disch := omega) only [lits, negs, nI_add, nn1, leT, leF, ltT, ltF, eqF, mF1, mF2, mF3, mF4, mF5, mF6, mTT, eq_self, Nat.reduceEqDiff, ↓reduceIte, jbd_s, jpu_e, tI0, tI1, jgd_tI, jgd_bb, tfF, ftF, jup_at, jup_oc, jup_ok]
  · have h2 : ¬ pcnt X ≤ 12 := by
      rcases h with h | h
      · rw [q] at h; exact absurd h (by decide)
      · exact h
    simp (disch := omega) only [lits, negs, nI_add, nn1, leT, leF, ltT, ltF, eqF, mF1, mF2, mF3, mF4, mF5, mF6, mTT, eq_self, Nat.reduceEqDiff, ↓reduceIte, ↓jbd_s, ↓jpu_e, tI0, tI1, jgd_tI, jgd_bb, tfF, ftF, jup_at, jup_oc, jup_ok, ↓jb (e_bitCount (x := X) (m := m))]
