/-! how many orders -/
theorem fcD_cong {nd nd' : Nat → Int32} {S : Nat} (h : ∀ v, v < S → nd v = nd' v) : ∀ d s, fcD nd S d s = fcD nd' S d s
  | 0, _ => rfl
  | d + 1, s => by
    show fb_sm _ S = fb_sm _ S
    refine fb_sm_cong fun v hv => ?_
    unfold fwB
    rw [h v hv, fcD_cong h d]
theorem rsN_cong {nd nd' : Nat → Int32} {S : Nat} (h : ∀ v, v < S → nd v = nd' v) (s : Nat) : rsN nd S s = rsN nd' S s := fcD_cong h _ s
theorem two_lim {S : Nat} (h12 : S ≤ 12) : 1 ≤ 2 ^ S ∧ 2 ^ S ≤ 4096 := ⟨Nat.pos_of_ne_zero (by exact Nat.ne_of_gt (Nat.pow_pos (by omega))), Nat.pow_le_pow_right (by omega) h12⟩
theorem n_dec (u : Nat) : nI u + nM = nI u - nI 1 := by rw [Int32.sub_eq_add_neg, negs]
theorem n_full {S : Nat} (h12 : S ≤ 12) : sb S - nI 1 = nI (2 ^ S - 1) := by
  rw [sb_n (by omega)]
  have := (two_lim h12).1
  obtain ⟨t, ht⟩ := Nat.exists_eq_succ_of_ne_zero (show 2 ^ S ≠ 0 by omega)
  rw [ht]
  exact nn1 t
theorem lp_hm21 {S : Nat} {nd : Nat → Int32} {k : jMem → Option (Int32 × jMem)} (h12 : S ≤ 12) : ∀ (u n : Nat) (m : jMem), u ≤ 2 ^ S - 1 → u < n → m 89 6 = nI S → m 93 = nd → (∀ t, u ≤ t → t < 2 ^ S → m 94 t = nI (rsN nd S t)) → ∃ m', lp_O_howMany_21 k n (nI u - nI 1) m = k m' ∧ (∀ c, c ≠ 94 → m' c = m c) ∧ ∀ t, t < 2 ^ S → m' 94 t = nI (rsN nd S t) := by
  obtain ⟨p1, p2⟩ := two_lim h12
  intro u
  induction u with
  | zero =>
    intro n m hu hn hS hnd h
    obtain ⟨n, rfl⟩ := ex_succ hn
    refine ⟨m, ?_, fun _ _ => rfl, fun t ht => h t (Nat.zero_le t) ht⟩
    rw [show nI 0 - nI 1 = nM by decide]
    unfold lp_O_howMany_21
    simp (disch := omega) only [lits, negs, nI_add, nn1, leT, leF, ltT, ltF, eqF, mF1, mF2, mF3, mF4, mF5, mF6, mTT, eq_self, Nat.reduceEqDiff, ↓reduceIte, jbd_s, jpu_e, tI0, tI1, jgd_tI, jgd_bb, tfF, ftF, jup_at, jup_oc, jup_ok]
  | succ u ih =>
    intro n m hu hn hS hnd h
    obtain ⟨n, rfl⟩ := ex_succ hn
    have e1 := lp_hm30 (s := u) (nd := nd) (k := fun w10 m9 => jst 1 m9 94 (nI u) w10 fun m11 => lp_O_howMany_21 k n (nI u - nI 1) m11) h12 hS (by omega) hnd (fun t a b => h t (by omega) b) S 5000 0 (by omega) (by omega)
    obtain ⟨m', e, f1, f2⟩ := ih n (jup m 94 u (nI (rsN nd S u))) (by omega) (by omega) (by rw [jup_oc (by omega)]; exact hS) (by rw [jup_oc (by omega)]; exact hnd) (fun t a b => by
      by_cases q : t = u
      · rw [q, jup_at]
      · rw [jup_ok q]; exact h t (by omega) b)
    refine ⟨m', ?_, fun c hc => by rw [f1 c hc, jup_oc hc], f2⟩
    rw [← e, nn1]
    conv => lhs; unfold lp_O_howMany_21
    simp only [lits, negs, n_dec]
    rw [if_neg (nI_nlt (a := u) (b := 0) (Nat.zero_le u) (by omega))]
    refine e1.trans ?_
    rw [rs_step (by omega) (by omega), st_94 (by omega)]
theorem e_howMany {S : Nat} {nd : Nat → Int32} {m : jMem} (h12 : S ≤ 12) (hS : m 89 6 = nI S) (hnd : m 93 = nd) : ∃ m', f_O_howMany m = some (nI (rsN nd S 0), m') ∧ (∀ c, c ≠ 94 → m' c = m c) ∧ ∀ t, t < 2 ^ S → m' 94 t = nI (rsN nd S t) := by
  obtain ⟨p1, p2⟩ := two_lim h12
  obtain ⟨m', e, f1, f2⟩ := lp_hm21 (nd := nd) (k := fun m12 => jld 1 m12 94 (nI 0) fun x13 => some (x13, m12)) h12 (2 ^ S - 1) 5000 (jup m 94 (2 ^ S - 1) (nI 1)) (by omega) (by omega) (by rw [jup_oc (by omega)]; exact hS) (by rw [jup_oc (by omega)]; exact hnd) (fun t a b => by
    have : t = 2 ^ S - 1 := by omega
    rw [this, jup_at, rs_full])
  refine ⟨m', ?_, fun c hc => by rw [f1 c hc, jup_oc hc], f2⟩
  unfold f_O_howMany
  simp only [lits]
  rw [hS, e_bit, jbd_s, n_full h12, st_94 (by omega), e, ld_94 (by omega), f2 0 (by omega)]
theorem e_fwM {S s v : Nat} {ρ : Type} {nd : Nat → Int32} {a b c : Option ρ} {m : jMem} (hS : S ≤ 12) (hv : v < S) (hnd : m 147 v = nd v) : (if ((nI s >>> (nI v &&& nI 31)) &&& nI 1) = nI 0 then jld 1 m 147 (nI v) fun x3 => if (x3 &&& (nI s ^^^ nM)) = nI 0 then a else b else c) = if fwB nd s v = true then a else if s.testBit v = true then c else b := by
  have h1 := bit0 (v := nI s) (i := v) (by omega)
  rw [bt_nI (by omega)] at h1
  unfold fwB
  cases q : s.testBit v
  · rw [q] at h1
    rw [if_pos (by rw [h1]), ld_147 (by omega), hnd, if_neg (by decide : ¬ false = true)]
    by_cases q2 : nd v &&& (nI s ^^^ nM) = nI 0
    · rw [if_pos q2, decide_eq_true q2]; rfl
    · rw [if_neg q2, decide_eq_false q2]; rfl
  · rw [q] at h1
    rw [if_neg (by rw [h1]; decide)]
    rfl
theorem lp_Mco33 {S s : Nat} {nd : Nat → Int32} {k : jMem → Option (Int32 × jMem)} (h12 : S ≤ 12) (hs : s < 2 ^ S) : ∀ (d n i : Nat) (m : jMem), i + d = S → d < n → m 109 67 = nI S → (∀ v, v < S → m 147 v = nd v) → (∀ t, s < t → t < 2 ^ S → m 148 t = nI (rsN nd S t)) → m 148 s = nI (fb_sm (rsF nd S s) i) → ∃ m', lp_M_countOrders_33 (nI s) k n (nI i) m = k m' ∧ (∀ c, c ≠ 148 → m' c = m c) ∧ (∀ t, t ≠ s → m' 148 t = m 148 t) ∧ m' 148 s = nI (fb_sm (rsF nd S s) S) := by
  obtain ⟨p1, p2⟩ := two_lim h12
  intro d
  induction d with
  | zero =>
    intro n i m hi hn hS hnd hT h
    obtain ⟨n, rfl⟩ := ex_succ hn
    have e : i = S := by omega
    subst e
    refine ⟨m, ?_, fun _ _ => rfl, fun _ _ => rfl, h⟩
    unfold lp_M_countOrders_33
    simp (disch := omega) only [lits, negs, nI_add, nn1, leT, leF, ltT, ltF, eqF, mF1, mF2, mF3, mF4, mF5, mF6, mTT, eq_self, Nat.reduceEqDiff, ↓reduceIte, jbd_s, jpu_e, tI0, tI1, jgd_tI, jgd_bb, tfF, ftF, jup_at, jup_oc, jup_ok, hS]
  | succ d ih =>
    intro n i m hi hn hS hnd hT h
    obtain ⟨n, rfl⟩ := ex_succ hn
    have hfw : ∀ a b c : Option (Int32 × jMem), _ := fun a b c => e_fwM (s := s) (a := a) (b := b) (c := c) h12 (by omega : i < S) (hnd i (by omega))
    cases q : fwB nd s i
    · obtain ⟨m', e, f1, f2, f3⟩ := ih n (i + 1) m (by omega) (by omega) hS hnd hT (by rw [fb_sm_succ]; unfold rsF; rw [q, if_neg (by decide), Nat.add_zero]; exact h)
      refine ⟨m', ?_, f1, f2, f3⟩
      rw [← e]
      conv => lhs; unfold lp_M_countOrders_33
      simp only [lits, negs]
      rw [if_neg (by rw [hS]; exact nI_ge (by omega) (by omega)), hfw, q, if_neg (by decide), nI_add]
      cases s.testBit i <;> rfl
    · have hb : s.testBit i = false := by
        have q' := q
        unfold fwB at q'
        rw [Bool.and_eq_true] at q'
        cases z : s.testBit i
        · rfl
        · rw [z] at q'; exact absurd q'.1 (by decide)
      obtain ⟨o1, o2⟩ := or_two hs (by omega : i < S) hb
      obtain ⟨m', e, f1, f2, f3⟩ := ih n (i + 1) (jup m 148 s (nI (fb_sm (rsF nd S s) (i + 1)))) (by omega) (by omega) (by rw [jup_oc (by omega)]; exact hS) (fun v hv => by rw [jup_oc (by omega)]; exact hnd v hv) (fun t a b => by rw [jup_ok (by omega)]; exact hT t a b) jup_at
      refine ⟨m', ?_, fun c hc => by rw [f1 c hc, jup_oc hc], fun t ht => by rw [f2 t ht, jup_ok ht], f3⟩
      rw [← e]
      conv => lhs; unfold lp_M_countOrders_33
      simp only [lits, negs]
      rw [if_neg (by rw [hS]; exact nI_ge (by omega) (by omega)), hfw, q, if_pos rfl, nI_add, ld_148 (by omega), h, sb_e, or_sbn (by omega), ld_148 (by omega), hT _ o1 o2, nI_add, st_148 (by omega), fb_sm_succ]
      unfold rsF
      rw [q, if_pos rfl]
theorem lp_Mco20 {S : Nat} {nd : Nat → Int32} {k : jMem → Option (Int32 × jMem)} (h12 : S ≤ 12) : ∀ (u n : Nat) (m : jMem), u ≤ 2 ^ S - 1 → u < n → m 109 67 = nI S → (∀ v, v < S → m 147 v = nd v) → (∀ t, u ≤ t → t < 2 ^ S → m 148 t = nI (rsN nd S t)) → ∃ m', lp_M_countOrders_20 k n (nI u - nI 1) m = k m' ∧ (∀ c, c ≠ 148 → m' c = m c) ∧ ∀ t, t < 2 ^ S → m' 148 t = nI (rsN nd S t) := by
  obtain ⟨p1, p2⟩ := two_lim h12
  intro u
  induction u with
  | zero =>
    intro n m hu hn hS hnd h
    obtain ⟨n, rfl⟩ := ex_succ hn
    refine ⟨m, ?_, fun _ _ => rfl, fun t ht => h t (Nat.zero_le t) ht⟩
    rw [show nI 0 - nI 1 = nM by decide]
    unfold lp_M_countOrders_20
    simp (disch := omega) only [lits, negs, nI_add, nn1, leT, leF, ltT, ltF, eqF, mF1, mF2, mF3, mF4, mF5, mF6, mTT, eq_self, Nat.reduceEqDiff, ↓reduceIte, jbd_s, jpu_e, tI0, tI1, jgd_tI, jgd_bb, tfF, ftF, jup_at, jup_oc, jup_ok]
  | succ u ih =>
    intro n m hu hn hS hnd h
    obtain ⟨n, rfl⟩ := ex_succ hn
    obtain ⟨m1, e1, g1, g2, g3⟩ := lp_Mco33 (s := u) (nd := nd) (k := fun m7 => lp_M_countOrders_20 k n (nI u - nI 1) m7) h12 (by omega) S 5000 0 (jup m 148 u (nI 0)) (by omega) (by omega) (by rw [jup_oc (by omega)]; exact hS) (fun v hv => by rw [jup_oc (by omega)]; exact hnd v hv) (fun t a b => by rw [jup_ok (by omega)]; exact h t (by omega) b) jup_at
    obtain ⟨m', e, f1, f2⟩ := ih n m1 (by omega) (by omega) (by rw [g1 109 (by omega), jup_oc (by omega)]; exact hS) (fun v hv => by rw [g1 147 (by omega), jup_oc (by omega)]; exact hnd v hv) (fun t a b => by
      by_cases q : t = u
      · rw [q, g3, rs_step (by omega) (by omega)]
      · rw [g2 t q, jup_ok q]; exact h t (by omega) b)
    refine ⟨m', ?_, fun c hc => by rw [f1 c hc, g1 c hc, jup_oc hc], f2⟩
    rw [← e, nn1]
    conv => lhs; unfold lp_M_countOrders_20
    simp only [lits, negs, n_dec]
    rw [if_neg (nI_nlt (a := u) (b := 0) (Nat.zero_le u) (by omega)), st_148 (by omega)]
    exact e1
theorem e_countOrders {S : Nat} {nd : Nat → Int32} {m : jMem} (h12 : S ≤ 12) (hS : m 109 67 = nI S) (hnd : ∀ v, v < S → m 147 v = nd v) : ∃ m', f_M_countOrders m = some (nI (rsN nd S 0), m') ∧ (∀ c, c ≠ 148 → m' c = m c) ∧ ∀ t, t < 2 ^ S → m' 148 t = nI (rsN nd S t) := by
  obtain ⟨p1, p2⟩ := two_lim h12
  obtain ⟨m', e, f1, f2⟩ := lp_Mco20 (nd := nd) (k := fun m8 => jld 1 m8 148 (nI 0) fun x9 => some (x9, m8)) h12 (2 ^ S - 1) 5000 (jup m 148 (2 ^ S - 1) (nI 1)) (by omega) (by omega) (by rw [jup_oc (by omega)]; exact hS) (fun v hv => by rw [jup_oc (by omega)]; exact hnd v hv) (fun t a b => by
    have : t = 2 ^ S - 1 := by omega
    rw [this, jup_at, rs_full])
  refine ⟨m', ?_, fun c hc => by rw [f1 c hc, jup_oc hc], f2⟩
  unfold f_M_countOrders
  simp only [lits]
  rw [hS, sb_e, n_full h12, st_148 (by omega), e, ld_148 (by omega), f2 0 (by omega)]
/-- both lay the set out -/
theorem lay_two {N C : Nat} {m : jMem} (r : Rel N C m) {X : Int32} (hX : isSt N X = true) (h12 : pcnt X ≤ 12) : ∃ (g A B : Nat → Nat) (p : Nat) (m1 : jMem), nthS g X N (pcnt X) ∧ p ≤ 12 ∧ f_O_takesSet X m = some (nI 1, m1) ∧ m1 89 6 = nI (pcnt X) ∧ (∀ b, b < pcnt X → m1 92 b = nI (g b)) ∧ (∀ a, a < pcnt X → m1 93 a = ndS (m 37) A B g (pcnt X) a p) ∧ (∀ c, c ≠ 92 → c ≠ 93 → c ≠ 89 → m1 c = m c) ∧ ∀ M : jMem, (∀ c, 109 ≤ c → c ≠ 109 → M c = m c) → (∀ j, j ≠ 0 → M 109 j = m 109 j) → ∃ M1, f_M_lay X M = some (nI 1, M1) ∧ M1 109 67 = nI (pcnt X) ∧ (∀ b, b < pcnt X → M1 146 b = nI (g b)) ∧ ∀ a, a < pcnt X → M1 147 a = ndS (m 37) A B g (pcnt X) a p := by
  have h30 := r.1.1
  have hN := r.1.2.1
  have hS : pcnt X = fb_ct (bt X) N := by
    unfold pcnt
    exact ct_top (by omega) (fun j h1 _ => by
      cases q : bt X j
      · rfl
      · have := isSt_iff.mp hX j q; omega)
  obtain ⟨g, hg⟩ := ex_nth (X := X) (N := N)
  have hn : nthS g X N (pcnt X) := ⟨hS, fun k hk => hg k (by omega)⟩
  obtain ⟨p, p1, p2, p3, p4, p5, p6⟩ := r.2.2.2.2.2.2.2.2.2.1
  have hA : ∀ k, k < p → m 90 k = nI ((m 90 k).toNatClampNeg) ∧ m 91 k = nI ((m 91 k).toNatClampNeg) ∧ (m 90 k).toNatClampNeg < N ∧ (m 91 k).toNatClampNeg < N := fun k hk => by
    obtain ⟨⟨a, ha, ea⟩, b, hb, eb⟩ := p6 k hk
    rw [ea, eb, nI_clamp (by omega), nI_clamp (by omega)]
    exact ⟨rfl, rfl, ha, hb⟩
  obtain ⟨m1, e1, f1, f2, f3, f4, f5⟩ := e_takes (A := fun k => (m 90 k).toNatClampNeg) (B := fun k => (m 91 k).toNatClampNeg) h30 hN hX h12 hn p1 p2 hA
  refine ⟨g, fun k => (m 90 k).toNatClampNeg, fun k => (m 91 k).toNatClampNeg, p, m1, hn, p1, e1, f3, f4, f5, f1, fun M hM1 hM2 => ?_⟩
  obtain ⟨M1, k1, k2, k3, k4, k5, k6⟩ := e_lay (P := m 37) (A := fun k => (m 90 k).toNatClampNeg) (B := fun k => (m 91 k).toNatClampNeg) (M := M) h30 (by rw [hM2 33 (by omega)]; exact r.1.2.2.1) hX h12 hn (by rw [hM1 128 (by omega) (by omega)]; exact r.1.2.2.2.1.2.2.2.2.2.2.2) p1 (by rw [hM2 64 (by omega)]; exact p3) (fun k hk => by rw [hM1 144 (by omega) (by omega), hM1 145 (by omega) (by omega), p4, p5]; exact hA k hk)
  exact ⟨M1, k1, k4, k5, k6⟩
theorem q_orders {N C : Nat} {m : jMem} (r : Rel N C m) (X : Int32) : Qst (f_C_orders X) (f_M_orders X) m := by
  have h30 := r.1.1
  have hN := r.1.2.1
  by_cases hbad : isSt N X = false ∨ ¬ pcnt X ≤ 12
  · refine ⟨nM, m, jup m 109 0 (nI 0), ?_, ?_⟩
    · unfold f_C_orders
      simp only [lits, negs]
      simp (disch := omega) only [lits, negs, nI_add, nn1, leT, leF, ltT, ltF, eqF, mF1, mF2, mF3, mF4, mF5, mF6, mTT, eq_self, Nat.reduceEqDiff, ↓reduceIte, ↓jbd_s, ↓jpu_e, tI0, tI1, jgd_tI, jgd_bb, tfF, ftF, jup_at, jup_oc, jup_ok, ↓jb (e_takes_no (m := m) h30 hN hbad)]
    · unfold f_M_orders
      simp only [lits, negs]
      simp (disch := omega) only [lits, negs, nI_add, nn1, leT, leF, ltT, ltF, eqF, mF1, mF2, mF3, mF4, mF5, mF6, mTT, eq_self, Nat.reduceEqDiff, ↓reduceIte, ↓jbd_s, ↓jpu_e, tI0, tI1, jgd_tI, jgd_bb, tfF, ftF, jup_at, jup_oc, jup_ok, ↓jb (e_lay_no (M := jup m 109 0 (nI 0)) h30 (by rw [jup_ok (by omega)]; exact r.1.2.2.1) hbad)]
  · have hX : isSt N X = true := by cases q : isSt N X; exact absurd (Or.inl q) hbad; rfl
    have h12 : pcnt X ≤ 12 := Classical.byContradiction fun q => hbad (Or.inr q)
    obtain ⟨g, A, B, p, m1, -, -, e1, e2, -, e4, e5, e6⟩ := lay_two r hX h12
    obtain ⟨m2, f1, f2, -⟩ := e_howMany (nd := m1 93) h12 e2 rfl
    have hm2 : ∀ c, c ≠ 92 → c ≠ 93 → c ≠ 89 → c ≠ 94 → m2 c = m c := fun c a b d e => by rw [f2 c e, e5 c a b d]
    obtain ⟨M1, k1, k2, -, k4⟩ := e6 (jup m2 109 0 (nI 0)) (fun c h1 h2 => by rw [jup_oc h2, hm2 c (by omega) (by omega) (by omega) (by omega)]) (fun j hj => by rw [jup_ok hj, hm2 109 (by omega) (by omega) (by omega) (by omega)])
    obtain ⟨M2, g1, -, -⟩ := e_countOrders (nd := m1 93) h12 k2 (fun v hv => by rw [k4 v hv, e4 v hv])
    refine ⟨nI (rsN (m1 93) (pcnt X) 0), m2, M2, ?_, ?_⟩
    · unfold f_C_orders
      simp only [lits, negs]
      simp (disch := omega) only [lits, negs, nI_add, nn1, leT, leF, ltT, ltF, eqF, mF1, mF2, mF3, mF4, mF5, mF6, mTT, eq_self, Nat.reduceEqDiff, ↓reduceIte, ↓jbd_s, ↓jpu_e, tI0, tI1, jgd_tI, jgd_bb, tfF, ftF, jup_at, jup_oc, jup_ok, ↓jb e1, ↓jb f1]
    · unfold f_M_orders
      simp only [lits, negs]
      simp (disch := omega) only [lits, negs, nI_add, nn1, leT, leF, ltT, ltF, eqF, mF1, mF2, mF3, mF4, mF5, mF6, mTT, eq_self, Nat.reduceEqDiff, ↓reduceIte, ↓jbd_s, ↓jpu_e, tI0, tI1, jgd_tI, jgd_bb, tfF, ftF, jup_at, jup_oc, jup_ok, ↓jb k1, ↓jb g1]
