/-! days go by -/
theorem pig : ∀ (c N : Nat) (f : Nat → Nat), (∀ i, i < c → f i < N) → (∀ i j, i < j → j < c → ¬ f i = f j) → c ≤ N := by
  intro c
  induction c with
  | zero => intro N f _ _; omega
  | succ c ih =>
    intro N f h1 h2
    have hv := h1 c (by omega)
    have := ih (N - 1) (fun i => if f c < f i then f i - 1 else f i) (fun i hi => by
      have a := h1 i (by omega)
      have b := h2 i c hi (by omega)
      show (if f c < f i then f i - 1 else f i) < N - 1
      split <;> omega) (fun i j hi hj => by
      have a := h2 i c (by omega) (by omega)
      have b := h2 j c hj (by omega)
      have d := h2 i j hi (by omega)
      show ¬ (if f c < f i then f i - 1 else f i) = (if f c < f j then f j - 1 else f j)
      split <;> split <;> omega)
    omega
theorem RX2_rule {m M : jMem} (rx : RX2 m M) {w : Nat} (hw : w < 6) : ∃ r, r ≤ 4 ∧ M 116 w = nI r ∧ ((m 1 2).toNatClampNeg = 3 ∨ (m 1 2).toNatClampNeg = 12) ∧ f_H_ruleOf (m 1 2).toNatClampNeg (nI w) m = some (1011 + r, m) := by
  obtain ⟨hb, hd, h0, h1, -, -, -, -, hr, -⟩ := rx
  obtain ⟨r, r1, r2, r3⟩ := hr w hw
  have e : (m 1 2).toNatClampNeg = hb := by rw [h1]; exact nI_clamp (by omega)
  refine ⟨r, r1, r2, by rw [e]; omega, ?_⟩
  rw [e]
  unfold f_H_ruleOf
  have hbb : hb = 3 ∨ hb = 12 := by omega
  cases hq : bt (m hb 1) w
  · rw [hq, if_neg (by decide)] at r3
    simp (disch := omega) only [lits, negs, nI_add, nn1, leT, leF, ltT, ltF, eqF, mF1, mF2, mF3, mF4, mF5, mF6, mTT, eq_self, Nat.reduceEqDiff, ↓reduceIte, jbd_s, jpu_e, tI0, tI1, jgd_tI, jgd_bb, tfF, ftF, jup_at, jup_oc, jup_ok, e_isIn, hq, r3]
  · rw [hq, if_pos rfl] at r3
    rcases hbb with rfl | rfl
    · have r4 : m 4 w = nI (1011 + r) := r3
      simp (disch := omega) only [lits, negs, nI_add, nn1, leT, leF, ltT, ltF, eqF, mF1, mF2, mF3, mF4, mF5, mF6, mTT, eq_self, Nat.reduceEqDiff, ↓reduceIte, jbd_s, jpu_e, tI0, tI1, jgd_tI, jgd_bb, tfF, ftF, jup_at, jup_oc, jup_ok, e_isIn, hq]
      show jl4 m 4 (nI w) _ = _
      rw [l4_4 hw, r4, nI_clamp (by omega)]
    · have r4 : m 13 w = nI (1011 + r) := r3
      simp (disch := omega) only [lits, negs, nI_add, nn1, leT, leF, ltT, ltF, eqF, mF1, mF2, mF3, mF4, mF5, mF6, mTT, eq_self, Nat.reduceEqDiff, ↓reduceIte, jbd_s, jpu_e, tI0, tI1, jgd_tI, jgd_bb, tfF, ftF, jup_at, jup_oc, jup_ok, e_isIn, hq]
      show jl4 m 13 (nI w) _ = _
      rw [l4_13 hw, r4, nI_clamp (by omega)]
theorem e_missing2 {N r w l : Nat} {m M : jMem} (rl : RL2 N m M) (rk : RK2 N m M) (hw : w < 6) (hl : l < N) (hr4 : r ≤ 4) (hh : (m 1 2).toNatClampNeg = 3 ∨ (m 1 2).toNatClampNeg = 12) (he : f_H_ruleOf (m 1 2).toNatClampNeg (nI w) m = some (1011 + r, m)) : f_C_missing (nI w) (nI l) m = some (setS (wtP M r w l) l, m) := by
  have h30 := rl.1
  have hN := rl.2.1
  obtain ⟨q1, -, -, q4, q5, q6, -, q8⟩ := rl.2.2.2.1
  obtain ⟨wl, hwl, ewl⟩ := (rl.2.2.2.2.1 l hl).1
  obtain ⟨k1, k2, -⟩ := rk.1 w hw
  have hby := rl.2.2.2.2.2.1
  have hst := rl.2.2.2.2.2.2 w hw
  obtain ⟨-, -, -, -, o1, o2, -⟩ := rl.2.2.2.2.1 l hl
  have hpl := RL2_past rl (l + 1) l (by omega) hl
  -- the unread ones, bit by bit
  have hun : ∀ j, j < l → bt (m 43 w &&& (m 75 w ^^^ nM)) j = (bt (m 33 j) w && !bt (M 135 w) j) := fun j hj => by
    obtain ⟨-, -, -, hto, -⟩ := rl.2.2.2.2.1 j (by omega)
    rw [b_and, b_not (by omega), k1, b_or]
    have e1 : bt (m 43 w) j = bt (m 33 j) w := by
      rw [Bool.eq_iff_iff, hst j]
      exact ⟨fun h => h.2, fun h => ⟨by omega, h⟩⟩
    rw [e1]
    cases h1 : bt (m 33 j) w
    · rfl
    · have e2 : bt (m 42 w) j = false := by
        cases q : bt (m 42 w) j
        · rfl
        · have := hto w hw ((hby w hw j).mp q).2
          rw [h1] at this; exact absurd this (by decide)
      rw [e2, Bool.false_or]
  have hw2 : ∀ j, wtP M r w l j = (isP M r l j && (bt (m 33 j) w && !bt (M 135 w) j)) := fun j => by
    unfold wtP
    rw [q4]
  have key : ∀ X : Int32, (∀ j, j < l → bt X j = isP M r l j) → (∀ j, j < 32 → bt X j = true → j < l) → (m 43 w &&& (m 75 w ^^^ nM)) &&& X = setS (wtP M r w l) l := fun X h1 h2 => by
    apply b_ext
    intro j hj
    rw [b_and, b_setS hj (by omega), hw2]
    by_cases q : j < l
    · rw [decide_eq_true q, Bool.true_and, hun j q, h1 j q, Bool.and_comm]
    · rw [decide_eq_false q, Bool.false_and]
      cases q2 : bt X j
      · rw [Bool.and_false]
      · exact absurd (h2 j hj q2) q
  unfold f_C_missing
  simp only [lits, negs]
  rcases (by omega : r = 0 ∨ r = 1 ∨ r = 2 ∨ r = 3 ∨ r = 4) with rfl | rfl | rfl | rfl | rfl
  · have e0 : setS (wtP M 0 w l) l = nI 0 := setS_top (n := 0) (by omega) (fun j _ _ => rfl)
    simp (disch := omega) only [lits, negs, nI_add, nn1, leT, leF, ltT, ltF, eqF, mF1, mF2, mF3, mF4, mF5, mF6, mTT, eq_self, Nat.reduceEqDiff, ↓reduceIte, ↓jbd_s, ↓jpu_e, tI0, tI1, jgd_tI, jgd_bb, tfF, ftF, jup_at, jup_oc, jup_ok, ↓jb (e_isWriter (m := m) hw), ↓jb (e_isLetter hN h30 hl), ↓ld_43, ↓ld_75, jgd_hok hh, ↓jb he, jgd_ok, nqT, nqF, e0]
  · have e0 : setS (wtP M 1 w l) l = nI 0 := setS_top (n := 0) (by omega) (fun j _ _ => rfl)
    simp (disch := omega) only [lits, negs, nI_add, nn1, leT, leF, ltT, ltF, eqF, mF1, mF2, mF3, mF4, mF5, mF6, mTT, eq_self, Nat.reduceEqDiff, ↓reduceIte, ↓jbd_s, ↓jpu_e, tI0, tI1, jgd_tI, jgd_bb, tfF, ftF, jup_at, jup_oc, jup_ok, ↓jb (e_isWriter (m := m) hw), ↓jb (e_isLetter hN h30 hl), ↓ld_43, ↓ld_75, jgd_hok hh, ↓jb he, jgd_ok, nqT, nqF, e0]
  · have e0 := key (m 42 wl &&& (sb l - nI 1)) (fun j hj => by
      rw [b_and, sb1_b (by omega) (by omega), decide_eq_true hj, Bool.and_true, isP_2, q1, ewl]
      rw [Bool.eq_iff_iff, hby wl hwl j, decide_eq_true_iff]
      exact ⟨fun h => h.2, fun h => ⟨by omega, h⟩⟩) (fun j hj h => by
      rw [b_and, sb1_b (by omega) hj, Bool.and_eq_true, decide_eq_true_iff] at h
      exact h.2)
    have e1 : (m 43 w &&& (m 75 w ^^^ nM)) &&& m 42 wl &&& (sb l - nI 1) = setS (wtP M 2 w l) l := by
      rw [← e0]
      apply b_ext
      intro j _
      simp only [b_and, Bool.and_assoc]
    simp (disch := omega) only [lits, negs, nI_add, nn1, leT, leF, ltT, ltF, eqF, mF1, mF2, mF3, mF4, mF5, mF6, mTT, eq_self, Nat.reduceEqDiff, ↓reduceIte, ↓jbd_s, ↓jpu_e, tI0, tI1, jgd_tI, jgd_bb, tfF, ftF, jup_at, jup_oc, jup_ok, ↓jb (e_isWriter (m := m) hw), ↓jb (e_isLetter hN h30 hl), ↓ld_43, ↓ld_75, jgd_hok hh, ↓jb he, jgd_ok, nqT, nqF, ↓ld_30, ewl, ↓ld_42, ↓jb (e_bit (m := m) l), e1]
  · have e0 := key (ansS (m 34 l) (m 35 l)) (fun j hj => by
      rw [b_ansS (by omega) o1 o2 (by omega), isP_3, q5, q6]) (fun j hj h => by
      rw [b_ansS (by omega) o1 o2 hj, Bool.or_eq_true, decide_eq_true_iff, decide_eq_true_iff] at h
      rcases h with h | h
      · exact oI_lt (by omega) o1 hj h
      · exact oI_lt (by omega) o2 hj h)
    simp (disch := omega) only [lits, negs, nI_add, nn1, leT, leF, ltT, ltF, eqF, mF1, mF2, mF3, mF4, mF5, mF6, mTT, eq_self, Nat.reduceEqDiff, ↓reduceIte, ↓jbd_s, ↓jpu_e, tI0, tI1, jgd_tI, jgd_bb, tfF, ftF, jup_at, jup_oc, jup_ok, ↓jb (e_isWriter (m := m) hw), ↓jb (e_isLetter hN h30 hl), ↓ld_43, ↓ld_75, jgd_hok hh, ↓jb he, jgd_ok, nqT, nqF, ↓jb (e_answered (m := m) (by omega : l < 30)), e0]
  · have e0 := key (m 37 l) (fun j hj => by rw [isP_4, q8]) (fun j _ h => hpl j h)
    simp (disch := omega) only [lits, negs, nI_add, nn1, leT, leF, ltT, ltF, eqF, mF1, mF2, mF3, mF4, mF5, mF6, mTT, eq_self, Nat.reduceEqDiff, ↓reduceIte, ↓jbd_s, ↓jpu_e, tI0, tI1, jgd_tI, jgd_bb, tfF, ftF, jup_at, jup_oc, jup_ok, ↓jb (e_isWriter (m := m) hw), ↓jb (e_isLetter hN h30 hl), ↓ld_43, ↓ld_75, jgd_hok hh, ↓jb he, jgd_ok, nqT, nqF, ↓ld_37, e0]

/-- what of a desk the rules look at -/
def fdS (m : jMem) (M : jMem) (r w k : Nat) : Int32 := setS (wtP M r w (m (67 + w) k).toNatClampNeg) (m (67 + w) k).toNatClampNeg
theorem e_letterAt {w k : Nat} {m : jMem} (hw : w < 6) (hk : k < 30) : f_D_letterAt (nI w) (nI k) m = some (m (67 + w) k, m) := by
  unfold f_D_letterAt
  simp (disch := omega) only [lits, negs, nI_add, nn1, leT, leF, ltT, ltF, eqF, mF1, mF2, mF3, mF4, mF5, mF6, mTT, eq_self, Nat.reduceEqDiff, ↓reduceIte, jbd_s, jpu_e, tI0, tI1, jgd_tI, jgd_bb, tfF, ftF, jup_at, jup_oc, jup_ok, e_isWriter, l3_66, ldr_66]
theorem lp_ftY {w c k0 : Nat} {F : Nat → Int32} {kY : Int32 → jMem → Option (Int32 × jMem)} {kN : jMem → Option (Int32 × jMem)} {m : jMem} (hw : w < 6) (hc : m 73 w = nI c) (h30 : c ≤ 30) (hF : ∀ k, k < c → f_C_missing (nI w) (m (67 + w) k) m = some (F k, m)) (hk : k0 < c) (h0 : F k0 = nI 0) (hl : ∀ k, k < k0 → ¬ F k = nI 0) : ∀ (d n i : Nat), i + d = k0 → d < n → lp_C_firstThatRuleLets_18 (nI w) kY kN n (nI i) m = kY (m (67 + w) k0) m := by
  intro d
  induction d with
  | zero =>
    intro n i hi hn
    obtain ⟨n, rfl⟩ := ex_succ hn
    have e : i = k0 := by omega
    subst e
    unfold lp_C_firstThatRuleLets_18
    simp only [lits, negs]
    simp (disch := omega) only [lits, negs, nI_add, nn1, leT, leF, ltT, ltF, eqF, mF1, mF2, mF3, mF4, mF5, mF6, mTT, eq_self, Nat.reduceEqDiff, ↓reduceIte, ↓jbd_s, ↓jpu_e, tI0, tI1, jgd_tI, jgd_bb, tfF, ftF, jup_at, jup_oc, jup_ok, ↓ld_73, hc, ↓jb (e_letterAt (m := m) hw (by omega : i < 30)), ↓jb (hF i hk), h0]
  | succ d ih =>
    intro n i hi hn
    obtain ⟨n, rfl⟩ := ex_succ hn
    have e := ih n (i + 1) (by omega) (by omega)
    unfold lp_C_firstThatRuleLets_18
    simp only [lits, negs]
    simp (disch := omega) only [lits, negs, nI_add, nn1, leT, leF, ltT, ltF, eqF, mF1, mF2, mF3, mF4, mF5, mF6, mTT, eq_self, Nat.reduceEqDiff, ↓reduceIte, ↓jbd_s, ↓jpu_e, tI0, tI1, jgd_tI, jgd_bb, tfF, ftF, jup_at, jup_oc, jup_ok, ↓ld_73, hc, ↓jb (e_letterAt (m := m) hw (by omega : i < 30)), ↓jb (hF i (by omega)), hl i (by omega)]
    exact e
theorem lp_ftN {w c : Nat} {F : Nat → Int32} {kY : Int32 → jMem → Option (Int32 × jMem)} {kN : jMem → Option (Int32 × jMem)} {m : jMem} (hw : w < 6) (hc : m 73 w = nI c) (h30 : c ≤ 30) (hF : ∀ k, k < c → f_C_missing (nI w) (m (67 + w) k) m = some (F k, m)) (hl : ∀ k, k < c → ¬ F k = nI 0) : ∀ (d n i : Nat), i + d = c → d < n → lp_C_firstThatRuleLets_18 (nI w) kY kN n (nI i) m = kN m := by
  intro d
  induction d with
  | zero =>
    intro n i hi hn
    obtain ⟨n, rfl⟩ := ex_succ hn
    have e : i = c := by omega
    subst e
    unfold lp_C_firstThatRuleLets_18
    simp only [lits, negs]
    simp (disch := omega) only [lits, negs, nI_add, nn1, leT, leF, ltT, ltF, eqF, mF1, mF2, mF3, mF4, mF5, mF6, mTT, eq_self, Nat.reduceEqDiff, ↓reduceIte, ↓jbd_s, ↓jpu_e, tI0, tI1, jgd_tI, jgd_bb, tfF, ftF, jup_at, jup_oc, jup_ok, ↓ld_73, hc]
  | succ d ih =>
    intro n i hi hn
    obtain ⟨n, rfl⟩ := ex_succ hn
    have e := ih n (i + 1) (by omega) (by omega)
    unfold lp_C_firstThatRuleLets_18
    simp only [lits, negs]
    simp (disch := omega) only [lits, negs, nI_add, nn1, leT, leF, ltT, ltF, eqF, mF1, mF2, mF3, mF4, mF5, mF6, mTT, eq_self, Nat.reduceEqDiff, ↓reduceIte, ↓jbd_s, ↓jpu_e, tI0, tI1, jgd_tI, jgd_bb, tfF, ftF, jup_at, jup_oc, jup_ok, ↓ld_73, hc, ↓jb (e_letterAt (m := m) hw (by omega : i < 30)), ↓jb (hF i (by omega)), hl i (by omega)]
    exact e
theorem lp_gbY {w c k0 r : Nat} {F L : Nat → Int32} {k : jMem → Option (Unit × jMem)} {M : jMem} (hw : w < 6) (hc : M 138 w = nI c) (h30 : c ≤ 30) (hr : M 116 w = nI r) (hr0 : r ≠ 0) (hr4 : r ≤ 4) (hL : ∀ k, k < c → M 137 (30 * w + k) = L k) (hF : ∀ k, k < c → f_M_waitsFor (nI w) (L k) M = some (F k, M)) (hk : k0 < c) (h0 : F k0 = nI 0) (hl : ∀ k, k < k0 → ¬ F k = nI 0) : ∀ (d n i : Nat), i + d = k0 → d < n → lp_M_goesBy_144 (nI w) k n (nI i) M = jbd (f_M_readsNow (nI w) (L k0) M) fun _ m23 => lp_M_goesBy_144 (nI w) k (n - d - 1) (nI 0) m23 := by
  intro d
  induction d with
  | zero =>
    intro n i hi hn
    obtain ⟨n, rfl⟩ := ex_succ hn
    have e : i = k0 := by omega
    subst e
    conv => lhs; unfold lp_M_goesBy_144
    simp only [lits, negs, pk_mul, nI_add]
    simp (disch := omega) only [lits, negs, nI_add, nn1, leT, leF, ltT, ltF, eqF, mF1, mF2, mF3, mF4, mF5, mF6, mTT, eq_self, Nat.reduceEqDiff, ↓reduceIte, ↓jbd_s, ↓jpu_e, tI0, tI1, jgd_tI, jgd_bb, tfF, ftF, jup_at, jup_oc, jup_ok, ↓ld_138, hc, ↓ld_137, hL i hk, ↓ld_116, hr, ↓jb (hF i hk), h0]
    rfl
  | succ d ih =>
    intro n i hi hn
    obtain ⟨n, rfl⟩ := ex_succ hn
    have e := ih n (i + 1) (by omega) (by omega)
    conv => lhs; unfold lp_M_goesBy_144
    simp only [lits, negs, pk_mul, nI_add]
    simp (disch := omega) only [lits, negs, nI_add, nn1, leT, leF, ltT, ltF, eqF, mF1, mF2, mF3, mF4, mF5, mF6, mTT, eq_self, Nat.reduceEqDiff, ↓reduceIte, ↓jbd_s, ↓jpu_e, tI0, tI1, jgd_tI, jgd_bb, tfF, ftF, jup_at, jup_oc, jup_ok, ↓ld_138, hc, ↓ld_137, hL i (by omega), ↓ld_116, hr, ↓jb (hF i (by omega)), hl i (by omega)]
    rw [e, show n + 1 - (d + 1) - 1 = n - d - 1 by omega]
theorem lp_gbN {w c r : Nat} {F L : Nat → Int32} {k : jMem → Option (Unit × jMem)} {M : jMem} (hw : w < 6) (hc : M 138 w = nI c) (h30 : c ≤ 30) (hr : M 116 w = nI r) (hr4 : r ≤ 4) (hL : ∀ k, k < c → M 137 (30 * w + k) = L k) (hF : r ≠ 0 → ∀ k, k < c → f_M_waitsFor (nI w) (L k) M = some (F k, M)) (hl : r ≠ 0 → ∀ k, k < c → ¬ F k = nI 0) : ∀ (d n i : Nat), i + d = c → d < n → lp_M_goesBy_144 (nI w) k n (nI i) M = k M := by
  intro d
  induction d with
  | zero =>
    intro n i hi hn
    obtain ⟨n, rfl⟩ := ex_succ hn
    have e : i = c := by omega
    subst e
    unfold lp_M_goesBy_144
    simp only [lits, negs, pk_mul, nI_add]
    simp (disch := omega) only [lits, negs, nI_add, nn1, leT, leF, ltT, ltF, eqF, mF1, mF2, mF3, mF4, mF5, mF6, mTT, eq_self, Nat.reduceEqDiff, ↓reduceIte, ↓jbd_s, ↓jpu_e, tI0, tI1, jgd_tI, jgd_bb, tfF, ftF, jup_at, jup_oc, jup_ok, ↓ld_138, hc]
  | succ d ih =>
    intro n i hi hn
    obtain ⟨n, rfl⟩ := ex_succ hn
    have e := ih n (i + 1) (by omega) (by omega)
    unfold lp_M_goesBy_144
    simp only [lits, negs, pk_mul, nI_add]
    by_cases q : r = 0
    · simp (disch := omega) only [lits, negs, nI_add, nn1, leT, leF, ltT, ltF, eqF, mF1, mF2, mF3, mF4, mF5, mF6, mTT, eq_self, Nat.reduceEqDiff, ↓reduceIte, ↓jbd_s, ↓jpu_e, tI0, tI1, jgd_tI, jgd_bb, tfF, ftF, jup_at, jup_oc, jup_ok, ↓ld_138, hc, ↓ld_137, hL i (by omega), ↓ld_116, hr, q]
      exact e
    · simp (disch := omega) only [lits, negs, nI_add, nn1, leT, leF, ltT, ltF, eqF, mF1, mF2, mF3, mF4, mF5, mF6, mTT, eq_self, Nat.reduceEqDiff, ↓reduceIte, ↓jbd_s, ↓jpu_e, tI0, tI1, jgd_tI, jgd_bb, tfF, ftF, jup_at, jup_oc, jup_ok, ↓ld_138, hc, ↓ld_137, hL i (by omega), ↓ld_116, hr, ↓jb (hF q i (by omega)), hl q i (by omega)]
      exact e
theorem ex_first (F : Nat → Int32) : ∀ c, (∀ k, k < c → ¬ F k = nI 0) ∨ ∃ k0, k0 < c ∧ F k0 = nI 0 ∧ ∀ k, k < k0 → ¬ F k = nI 0 := by
  intro c
  induction c with
  | zero => exact Or.inl fun k hk => absurd hk (Nat.not_lt_zero k)
  | succ c ih =>
    rcases ih with h | ⟨k0, h1, h2, h3⟩
    · by_cases q : F c = nI 0
      · exact Or.inr ⟨c, by omega, q, h⟩
      · refine Or.inl fun k hk => ?_
        by_cases e : k = c
        · rw [e]; exact q
        · exact h k (by omega)
    · exact Or.inr ⟨k0, by omega, h2, h3⟩
theorem sim_clear {w : Nat} {kC kM : jMem → Option (Unit × jMem)} (hw : w < 6) : ∀ (c v N C : Nat) (m M : jMem) (n n' : Nat), Rel2 N C m M → m 73 w = nI c → c + v ≤ 30 → 30 < n + v → 32 * (c + 1) ≤ n' → ∃ m' M' N' C', lp_C_clearDesk_2 (nI w) kC kC n (nI v) m = kC m' ∧ lp_M_goesBy_144 (nI w) kM n' (nI 0) M = kM M' ∧ Rel2 N' C' m' M' ∧ m' 1 = m 1 := by
  intro c
  induction c with
  | zero =>
    intro v N C m M n n' r hc hv hn hn'
    obtain ⟨n, rfl⟩ := ex_succ (by omega : 0 < n)
    obtain ⟨c', hc', c0, c1, c2, -⟩ := r.2.2.2.2.2.2.2.2.1 w hw
    have ec : c' = 0 := (nI_eq (by have := r.1.1; omega) (by omega)).mp (c0.symm.trans hc)
    subst ec
    obtain ⟨rr, r1, r2, r3, r4⟩ := RX2_rule r.2.2.2.2.2.2.2.2.2.2 hw
    refine ⟨m, M, N, C, ?_, ?_, r, rfl⟩
    · unfold lp_C_clearDesk_2
      simp only [lits, negs]
      by_cases q : v = 30
      · simp (disch := omega) only [lits, negs, nI_add, nn1, leT, leF, ltT, ltF, eqF, mF1, mF2, mF3, mF4, mF5, mF6, mTT, eq_self, Nat.reduceEqDiff, ↓reduceIte, jbd_s, jpu_e, tI0, tI1, jgd_tI, jgd_bb, tfF, ftF, jup_at, jup_oc, jup_ok, q]
      · have e : f_C_firstThatRuleLets (nI w) m = some (nM, m) := by
          unfold f_C_firstThatRuleLets
          simp only [lits, negs]
          by_cases q0 : rr = 0
          · simp (disch := omega) only [lits, negs, nI_add, nn1, leT, leF, ltT, ltF, eqF, mF1, mF2, mF3, mF4, mF5, mF6, mTT, eq_self, Nat.reduceEqDiff, ↓reduceIte, ↓jbd_s, ↓jpu_e, tI0, tI1, jgd_tI, jgd_bb, tfF, ftF, jup_at, jup_oc, jup_ok, jgd_hok r3, ↓jb r4, jgd_ok, nqT, nqF, q0]
          · simp (disch := omega) only [lits, negs, nI_add, nn1, leT, leF, ltT, ltF, eqF, mF1, mF2, mF3, mF4, mF5, mF6, mTT, eq_self, Nat.reduceEqDiff, ↓reduceIte, ↓jbd_s, ↓jpu_e, tI0, tI1, jgd_tI, jgd_bb, tfF, ftF, jup_at, jup_oc, jup_ok, jgd_hok r3, ↓jb r4, jgd_ok, nqT, nqF]
            exact lp_ftN (F := fun _ => nI 0) hw hc (by omega) (fun k hk => absurd hk (Nat.not_lt_zero k)) (fun k hk => absurd hk (Nat.not_lt_zero k)) 0 5000 0 (by omega) (by omega)
        simp (disch := omega) only [lits, negs, nI_add, nn1, leT, leF, ltT, ltF, eqF, mF1, mF2, mF3, mF4, mF5, mF6, mTT, eq_self, Nat.reduceEqDiff, ↓reduceIte, ↓jbd_s, ↓jpu_e, tI0, tI1, jgd_tI, jgd_bb, tfF, ftF, jup_at, jup_oc, jup_ok, ↓jb e]
    · exact lp_gbN (F := fun _ => nI 0) (L := fun _ => nI 0) hw c1 (by omega) r2 r1 (fun k hk => absurd hk (Nat.not_lt_zero k)) (fun _ k hk => absurd hk (Nat.not_lt_zero k)) (fun _ k hk => absurd hk (Nat.not_lt_zero k)) 0 n' 0 (by omega) (by omega)
  | succ c ih =>
    intro v N C m M n n' r hc hv hn hn'
    obtain ⟨n, rfl⟩ := ex_succ (by omega : 0 < n)
    have h30 := r.1.1
    obtain ⟨c', hc', c0, c1, c2, c3, c4⟩ := r.2.2.2.2.2.2.2.2.1 w hw
    have ec : c' = c + 1 := (nI_eq (by omega) (by omega)).mp (c0.symm.trans hc)
    subst ec
    obtain ⟨rr, r1, r2, r3, r4⟩ := RX2_rule r.2.2.2.2.2.2.2.2.2.2 hw
    have hcl : ∀ k, k < c + 1 → ∃ l, l < N ∧ m (67 + w) k = nI l ∧ (m (67 + w) k).toNatClampNeg = l := fun k hk => by
      obtain ⟨-, l, hl, el, -⟩ := c2 k hk
      exact ⟨l, hl, el, by rw [el]; exact nI_clamp (by omega)⟩
    have hFC : ∀ k, k < c + 1 → f_C_missing (nI w) (m (67 + w) k) m = some (fdS m M rr w k, m) := fun k hk => by
      obtain ⟨l, hl, el, ecl⟩ := hcl k hk
      unfold fdS
      rw [ecl, el]
      exact e_missing2 r.1 r.2.2.2.2.2.2.2.1 hw hl r1 r3 r4
    have hFM : ∀ k, k < c + 1 → f_M_waitsFor (nI w) (m (67 + w) k) M = some (fdS m M rr w k, M) := fun k hk => by
      obtain ⟨l, hl, el, ecl⟩ := hcl k hk
      unfold fdS
      rw [ecl, el]
      exact e_Mwaits hw (by omega) r1 r2
    have hv30 : ¬ v = 30 := by omega
    have none1 : (rr = 0 ∨ ∀ k, k < c + 1 → ¬ fdS m M rr w k = nI 0) → f_C_firstThatRuleLets (nI w) m = some (nM, m) := fun h => by
      unfold f_C_firstThatRuleLets
      simp only [lits, negs]
      by_cases q0 : rr = 0
      · simp (disch := omega) only [lits, negs, nI_add, nn1, leT, leF, ltT, ltF, eqF, mF1, mF2, mF3, mF4, mF5, mF6, mTT, eq_self, Nat.reduceEqDiff, ↓reduceIte, ↓jbd_s, ↓jpu_e, tI0, tI1, jgd_tI, jgd_bb, tfF, ftF, jup_at, jup_oc, jup_ok, jgd_hok r3, ↓jb r4, jgd_ok, nqT, nqF, q0]
      · simp (disch := omega) only [lits, negs, nI_add, nn1, leT, leF, ltT, ltF, eqF, mF1, mF2, mF3, mF4, mF5, mF6, mTT, eq_self, Nat.reduceEqDiff, ↓reduceIte, ↓jbd_s, ↓jpu_e, tI0, tI1, jgd_tI, jgd_bb, tfF, ftF, jup_at, jup_oc, jup_ok, jgd_hok r3, ↓jb r4, jgd_ok, nqT, nqF]
        rcases h with h | h
        · exact absurd h q0
        · exact lp_ftN hw hc (by omega) hFC h (c + 1) 5000 0 (by omega) (by omega)
    by_cases hn0 : rr = 0 ∨ ∀ k, k < c + 1 → ¬ fdS m M rr w k = nI 0
    · refine ⟨m, M, N, C, ?_, ?_, r, rfl⟩
      · unfold lp_C_clearDesk_2
        simp only [lits, negs]
        simp (disch := omega) only [lits, negs, nI_add, nn1, leT, leF, ltT, ltF, eqF, mF1, mF2, mF3, mF4, mF5, mF6, mTT, eq_self, Nat.reduceEqDiff, ↓reduceIte, ↓jbd_s, ↓jpu_e, tI0, tI1, jgd_tI, jgd_bb, tfF, ftF, jup_at, jup_oc, jup_ok, ↓jb (none1 hn0)]
      · exact lp_gbN (F := fdS m M rr w) hw c1 (by omega) r2 r1 (fun k hk => (c2 k hk).1) (fun _ => hFM) (fun q => hn0.resolve_left q) (c + 1) n' 0 (by omega) (by omega)
    · have hr0 : rr ≠ 0 := fun q => hn0 (Or.inl q)
      rcases ex_first (fdS m M rr w) (c + 1) with h | ⟨k0, h1, h2, h3⟩
      · exact absurd (Or.inr h) hn0
      · obtain ⟨l, hl, el, -⟩ := hcl k0 h1
        have hb : bt (m 74 w) l = true := (c4 l (by omega)).mpr ⟨k0, h1, el⟩
        obtain ⟨m1, M1, N1, C1, e1, e2, e3, e4, ⟨cc, e5, e6⟩, -⟩ := sim_up r hw hb
        have e6' : m1 73 w = nI c := by
          have q := e5.symm.trans hc
          have q2 : nI (cc + 1) - nI 1 = nI (c + 1) - nI 1 := by rw [q]
          rw [nn1, nn1] at q2
          exact e6.trans q2
        obtain ⟨m2, M2, N2, C2, f1, f2, f3, f4⟩ := ih (v + 1) N1 C1 m1 M1 n (n' - k0 - 1) e3 e6' (by omega) (by omega) (by omega)
        have ef : f_C_firstThatRuleLets (nI w) m = some (nI l, m) := by
          unfold f_C_firstThatRuleLets
          simp only [lits, negs]
          simp (disch := omega) only [lits, negs, nI_add, nn1, leT, leF, ltT, ltF, eqF, mF1, mF2, mF3, mF4, mF5, mF6, mTT, eq_self, Nat.reduceEqDiff, ↓reduceIte, ↓jbd_s, ↓jpu_e, tI0, tI1, jgd_tI, jgd_bb, tfF, ftF, jup_at, jup_oc, jup_ok, jgd_hok r3, ↓jb r4, jgd_ok, nqT, nqF]
          rw [← el]
          exact lp_ftY hw hc (by omega) hFC h1 h2 h3 k0 5000 0 (by omega) (by omega)
        refine ⟨m2, M2, N2, C2, ?_, ?_, f3, by rw [f4, e4]⟩
        · rw [← f1]
          conv => lhs; unfold lp_C_clearDesk_2
          simp only [lits, negs]
          simp (disch := omega) only [lits, negs, nI_add, nn1, leT, leF, ltT, ltF, eqF, mF1, mF2, mF3, mF4, mF5, mF6, mTT, eq_self, Nat.reduceEqDiff, ↓reduceIte, ↓jbd_s, ↓jpu_e, tI0, tI1, jgd_tI, jgd_bb, tfF, ftF, jup_at, jup_oc, jup_ok, ↓jb ef, ↓jb e1]
        · rw [lp_gbY (F := fdS m M rr w) hw c1 (by omega) r2 hr0 r1 (fun k hk => (c2 k hk).1) hFM h1 h2 h3 k0 n' 0 (by omega) (by omega), el, e2, jbd_s]
          exact f2
