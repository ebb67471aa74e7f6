/-! in how many orders the rest of a set may come -/
theorem or_two {s v S : Nat} (hs : s < 2 ^ S) (hv : v < S) (h : s.testBit v = false) : s < s ||| 2 ^ v ∧ s ||| 2 ^ v < 2 ^ S := by
  refine ⟨?_, Nat.or_lt_two_pow hs (Nat.pow_lt_pow_right (by omega) hv)⟩
  have h1 : s ≤ s ||| 2 ^ v := Nat.left_le_or
  have h2 : s ≠ s ||| 2 ^ v := fun e => by
    have : (s ||| 2 ^ v).testBit v = true := by rw [Nat.testBit_or, Nat.testBit_two_pow_self, Bool.or_true]
    rw [← e, h] at this
    exact absurd this (by decide)
  omega
theorem or_sbn {s v : Nat} (hv : v < 32) : nI s ||| sb v = nI (s ||| 2 ^ v) := by
  apply b_ext
  intro j hj
  rw [b_or, bt_nI hj, bt_nI hj, b_sb hv hj, Nat.testBit_or, Nat.testBit_two_pow]
  by_cases q : j = v
  · subst q; rw [decide_eq_true rfl]
  · rw [decide_eq_false q, decide_eq_false (fun z => q z.symm)]
theorem sb_n {v : Nat} (hv : v < 32) : sb v = nI (2 ^ v) := by
  apply b_ext
  intro j hj
  rw [bt_nI hj, b_sb hv hj, Nat.testBit_two_pow]
  by_cases q : j = v
  · subst q; rw [decide_eq_true rfl]
  · rw [decide_eq_false q, decide_eq_false (fun z => q z.symm)]
/-- may v come next, those of s being there -/
def fwB (nd : Nat → Int32) (s v : Nat) : Bool := !s.testBit v && decide (nd v &&& (nI s ^^^ nM) = nI 0)
def fcD (nd : Nat → Int32) (S : Nat) : Nat → Nat → Nat
  | 0, _ => 1
  | d + 1, s => fb_sm (fun v => if fwB nd s v = true then fcD nd S d (s ||| 2 ^ v) else 0) S
def depS (S s : Nat) : Nat := fb_ct (fun v => !s.testBit v) S
def rsN (nd : Nat → Int32) (S s : Nat) : Nat := fcD nd S (depS S s) s
theorem dep_le (S s : Nat) : depS S s ≤ S := fb_ct_le _ _
theorem dep_full (S : Nat) : depS S (2 ^ S - 1) = 0 := by
  unfold depS
  rw [fb_ct_zero]
  intro k hk
  rw [Nat.testBit_two_pow_sub_one, decide_eq_true hk]
  rfl
theorem dep_pos {S s : Nat} (hs : s < 2 ^ S) (h : s ≠ 2 ^ S - 1) : 0 < depS S s := by
  unfold depS
  rw [fb_ct_pos]
  refine Classical.byContradiction fun hc => h ?_
  apply Nat.eq_of_testBit_eq
  intro i
  rw [Nat.testBit_two_pow_sub_one]
  by_cases q : i < S
  · rw [decide_eq_true q]
    cases z : s.testBit i
    · exact absurd ⟨i, q, by rw [z]; rfl⟩ hc
    · rfl
  · rw [decide_eq_false q]
    exact Nat.testBit_lt_two_pow (Nat.lt_of_lt_of_le hs (Nat.pow_le_pow_right (by omega) (by omega)))
theorem dep_step {S s v : Nat} (hv : v < S) (h : s.testBit v = false) : depS S (s ||| 2 ^ v) + 1 = depS S s := by
  have e := fb_ct_upd (fun v => !s.testBit v) false (i := v) (n := S) hv
  rw [show (!s.testBit v) = true by rw [h]; rfl, if_pos rfl, if_neg (by decide), Nat.add_zero] at e
  unfold depS
  refine Eq.trans ?_ e
  congr 1
  refine fb_ct_cong fun k hk => ?_
  rw [Nat.testBit_or, Nat.testBit_two_pow]
  by_cases q : k = v
  · rw [if_pos q, q, decide_eq_true rfl, Bool.or_true]; rfl
  · rw [if_neg q, decide_eq_false (fun z => q z.symm), Bool.or_false]
theorem rs_full (nd : Nat → Int32) (S : Nat) : rsN nd S (2 ^ S - 1) = 1 := by
  unfold rsN
  rw [dep_full]
  rfl
/-- the part of the rest that goes on with v -/
def rsF (nd : Nat → Int32) (S s v : Nat) : Nat := if fwB nd s v = true then rsN nd S (s ||| 2 ^ v) else 0
theorem rs_step {nd : Nat → Int32} {S s : Nat} (hs : s < 2 ^ S) (h : s ≠ 2 ^ S - 1) : rsN nd S s = fb_sm (rsF nd S s) S := by
  have hp := dep_pos hs h
  unfold rsN
  obtain ⟨d, hd⟩ := Nat.exists_eq_succ_of_ne_zero (show depS S s ≠ 0 by omega)
  rw [hd]
  show fb_sm _ S = _
  refine fb_sm_cong fun v hv => ?_
  unfold rsF rsN
  cases q : fwB nd s v
  · rw [if_neg (by decide), if_neg (by decide)]
  · rw [if_pos rfl, if_pos rfl]
    unfold fwB at q
    rw [Bool.and_eq_true] at q
    have hb : s.testBit v = false := by
      cases z : s.testBit v
      · rfl
      · rw [z] at q; exact absurd q.1 (by decide)
    have := dep_step hv hb
    rw [show depS S (s ||| 2 ^ v) = d by omega]
def facN : Nat → Nat
  | 0 => 1
  | n + 1 => (n + 1) * facN n
theorem sm_cnt {p : Nat → Bool} {f : Nat → Nat} {b : Nat} : ∀ {n : Nat}, (∀ k, k < n → p k = true → f k ≤ b) → (∀ k, k < n → p k = false → f k = 0) → fb_sm f n ≤ fb_ct p n * b
  | 0, _, _ => by
    show 0 ≤ _
    exact Nat.zero_le _
  | n + 1, h1, h2 => by
    have ih := sm_cnt (n := n) (fun k hk => h1 k (by omega)) (fun k hk => h2 k (by omega))
    rw [fb_sm_succ, fb_ct_succ, Nat.add_mul]
    cases q : p n
    · have := h2 n (by omega) q
      rw [this, if_neg (by decide), Nat.zero_mul]
      omega
    · have := h1 n (by omega) q
      rw [if_pos rfl, Nat.one_mul]
      omega
theorem fc_le {nd : Nat → Int32} {S : Nat} : ∀ d s, depS S s = d → fcD nd S d s ≤ facN d
  | 0, _, _ => Nat.le_refl 1
  | d + 1, s, h => by
    show fb_sm _ S ≤ (d + 1) * facN d
    rw [← h]
    refine sm_cnt (p := fun v => !s.testBit v) (fun v hv hb => ?_) (fun v hv hb => ?_)
    · split
      · have hb' : s.testBit v = false := by cases z : s.testBit v; rfl; rw [z] at hb; exact absurd hb (by decide)
        have := dep_step hv hb'
        exact fc_le d _ (by omega)
      · exact Nat.zero_le _
    · unfold fwB
      have hb' : (!s.testBit v) = false := hb
      rw [hb', Bool.false_and, if_neg (by decide)]
theorem fac_mono : ∀ {a b : Nat}, a ≤ b → facN a ≤ facN b := by
  intro a b h
  induction h with
  | refl => exact Nat.le_refl _
  | step h ih => exact Nat.le_trans ih (Nat.le_mul_of_pos_left _ (by omega))
theorem rs_le {nd : Nat → Int32} {S s : Nat} (h12 : S ≤ 12) : rsN nd S s ≤ 479001600 := by
  have h1 := fc_le (nd := nd) (S := S) (depS S s) s rfl
  have h2 := fac_mono (show depS S s ≤ 12 by have := dep_le S s; omega)
  exact Nat.le_trans h1 (Nat.le_trans h2 (by decide))
theorem e_mayFollow {S s v : Nat} {m : jMem} (hS : S ≤ 12) (hv : v < S) : f_O_mayFollow (nI v) (nI s) m = some (tI (fwB (m 93) s v), m) := by
  unfold f_O_mayFollow fwB
  simp only [lits, negs]
  rw [e_isIn (by omega), jbd_s, bt_nI (by omega)]
  cases s.testBit v
  · by_cases q : m 93 v &&& (nI s ^^^ nM) = nI 0
    · simp (disch := omega) only [lits, negs, nI_add, nn1, leT, leF, ltT, ltF, eqF, mF1, mF2, mF3, mF4, mF5, mF6, mTT, eq_self, Nat.reduceEqDiff, ↓reduceIte, jbd_s, jpu_e, tI0, tI1, jgd_tI, jgd_bb, tfF, ftF, jup_at, jup_oc, jup_ok, ld_93, q, decide_eq_true q]
      rfl
    · simp (disch := omega) only [lits, negs, nI_add, nn1, leT, leF, ltT, ltF, eqF, mF1, mF2, mF3, mF4, mF5, mF6, mTT, eq_self, Nat.reduceEqDiff, ↓reduceIte, jbd_s, jpu_e, tI0, tI1, jgd_tI, jgd_bb, tfF, ftF, jup_at, jup_oc, jup_ok, ld_93, q, decide_eq_false q]
      rfl
  · simp (disch := omega) only [lits, negs, nI_add, nn1, leT, leF, ltT, ltF, eqF, mF1, mF2, mF3, mF4, mF5, mF6, mTT, eq_self, Nat.reduceEqDiff, ↓reduceIte, jbd_s, jpu_e, tI0, tI1, jgd_tI, jgd_bb, tfF, ftF, jup_at, jup_oc, jup_ok]
    rfl
theorem lp_hm30 {S s : Nat} {nd : Nat → Int32} {k : Int32 → jMem → Option (Int32 × jMem)} {m : jMem} (h12 : S ≤ 12) (hS : m 89 6 = nI S) (hs : s < 2 ^ S) (hnd : m 93 = nd) (hT : ∀ t, s < t → t < 2 ^ S → m 94 t = nI (rsN nd S t)) : ∀ (d n i : Nat), i + d = S → d < n → lp_O_howMany_30 (nI s) k n (nI (fb_sm (rsF nd S s) i)) (nI i) m = k (nI (fb_sm (rsF nd S s) S)) m := by
  have h4096 : 2 ^ S ≤ 4096 := Nat.pow_le_pow_right (by omega) h12
  intro d
  induction d with
  | zero =>
    intro n i hid hdn
    obtain ⟨n, rfl⟩ := ex_succ hdn
    rw [show i = S by omega]
    unfold lp_O_howMany_30
    simp (disch := omega) only [lits, negs, nI_add, nn1, leT, leF, ltT, ltF, eqF, mF1, mF2, mF3, mF4, mF5, mF6, mTT, eq_self, Nat.reduceEqDiff, ↓reduceIte, jbd_s, jpu_e, tI0, tI1, jgd_tI, jgd_bb, tfF, ftF, jup_at, jup_oc, jup_ok, hS]
  | succ d ih =>
    intro n i hid hdn
    obtain ⟨n, rfl⟩ := ex_succ hdn
    have e := ih n (i + 1) (by omega) (by omega)
    unfold lp_O_howMany_30
    rw [fb_sm_succ] at e
    simp only [lits]
    have ef := e_mayFollow (s := s) (m := m) h12 (by omega : i < S)
    rw [hnd] at ef
    unfold rsF at e ⊢
    cases q : fwB nd s i
    · rw [q, if_neg (by decide), Nat.add_zero] at e
      rw [q] at ef
      simp (disch := omega) only [lits, negs, nI_add, nn1, leT, leF, ltT, ltF, eqF, mF1, mF2, mF3, mF4, mF5, mF6, mTT, eq_self, Nat.reduceEqDiff, ↓reduceIte, ↓jbd_s, ↓jpu_e, tI0, tI1, jgd_tI, jgd_bb, tfF, ftF, jup_at, jup_oc, jup_ok, hS, ↓jb ef]
      exact e
    · rw [q, if_pos rfl] at e
      rw [q] at ef
      have hb : s.testBit i = false := by
        unfold fwB at q
        rw [Bool.and_eq_true] at q
        cases z : s.testBit i
        · rfl
        · rw [z] at q; exact absurd q.1 (by decide)
      obtain ⟨o1, o2⟩ := or_two hs (by omega : i < S) hb
      simp (disch := omega) only [lits, negs, nI_add, nn1, leT, leF, ltT, ltF, eqF, mF1, mF2, mF3, mF4, mF5, mF6, mTT, eq_self, Nat.reduceEqDiff, ↓reduceIte, ↓jbd_s, ↓jpu_e, tI0, tI1, jgd_tI, jgd_bb, tfF, ftF, jup_at, jup_oc, jup_ok, hS, ↓jb ef, ↓jb (e_bit (m := m) i)]
      rw [or_sbn (by omega), ld_94 (by omega), hT _ o1 o2, nI_add]
      exact e
