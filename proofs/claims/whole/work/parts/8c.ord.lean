/-! order -/
theorem sim_ord {S pl : Nat} {g : Nat → Nat} {nd : Nat → Int32} {k51 : jMem → Option (Int32 × jMem)} {m M : jMem} (h12 : S ≤ 12) (hpl : pl < S) (hS : m 89 6 = nI S) (hg : ∀ b, b < S → m 92 b = nI (g b)) (hnd : m 93 = nd) (hT : ∀ t, t < 2 ^ S → m 94 t = nI (rsN nd S t)) (hgM : ∀ b, b < S → M 146 b = nI (g b)) (hndM : ∀ v, v < S → M 147 v = nd v) (hTM : ∀ t, t < 2 ^ S → M 148 t = nI (rsN nd S t)) : ∀ (d j s q : Nat) (L R : Int32) (n n' : Nat), j + d = pl + 1 → d < n → d < n' → s < 2 ^ S → depS S s + j = S → (0 < d → q < rsN nd S s) → (d = 0 → ∃ b, b < S ∧ L = nI (g b) ∧ R = nI b) → ∃ w, lp_O_letterAt_21 (nI pl) k51 (fun w12 m11 => some (w12, m11)) n (nI s) (nI q) L (nI j) m = some (w, m) ∧ lp_M_order_51 (nI pl) (fun w18 m17 => jld 1 m17 146 w18 fun x19 => some (x19, m17)) n' (nI q) (nI s) R (nI j) M = some (w, M) := by
  obtain ⟨p1, p2⟩ := two_lim h12
  intro d
  induction d with
  | zero =>
    intro j s q L R n n' hj hn hn' hs hd hq h0
    obtain ⟨n, rfl⟩ := ex_succ hn
    obtain ⟨n', rfl⟩ := ex_succ hn'
    obtain ⟨b, hb, rfl, rfl⟩ := h0 rfl
    refine ⟨nI (g b), ?_, ?_⟩
    · unfold lp_O_letterAt_21
      simp (disch := omega) only [lits, negs, nI_add, nn1, leT, leF, ltT, ltF, eqF, mF1, mF2, mF3, mF4, mF5, mF6, mTT, eq_self, Nat.reduceEqDiff, ↓reduceIte, jbd_s, jpu_e, tI0, tI1, jgd_tI, jgd_bb, tfF, ftF, jup_at, jup_oc, jup_ok]
    · unfold lp_M_order_51
      simp (disch := omega) only [lits, negs, nI_add, nn1, leT, leF, ltT, ltF, eqF, mF1, mF2, mF3, mF4, mF5, mF6, mTT, eq_self, Nat.reduceEqDiff, ↓reduceIte, jbd_s, jpu_e, tI0, tI1, jgd_tI, jgd_bb, tfF, ftF, jup_at, jup_oc, jup_ok, ld_146, hgM b hb]
  | succ d ih =>
    intro j s q L R n n' hj hn hn' hs hd hq h0
    obtain ⟨n, rfl⟩ := ex_succ hn
    obtain ⟨n', rfl⟩ := ex_succ hn'
    have hq' := hq (by omega)
    have hsf : s ≠ 2 ^ S - 1 := fun e => by
      rw [e, dep_full] at hd
      omega
    have hlim := rs_le (nd := nd) (s := s) h12
    have hall := rs_step (nd := nd) hs hsf
    obtain ⟨v, hv, h1, h2⟩ := ex_pick (rsF nd S s) (by rw [← hall]; exact hq')
    have hF : fwB nd s v = true := by
      rw [fb_sm_succ] at h2
      cases z : fwB nd s v
      · unfold rsF at h2
        rw [z, if_neg (by decide)] at h2
        unfold rsF at h1
        omega
      · rfl
    have eF : rsF nd S s v = rsN nd S (s ||| 2 ^ v) := by unfold rsF; rw [hF, if_pos rfl]
    obtain ⟨b1, b2⟩ := fw_bit hF
    obtain ⟨o1, o2⟩ := or_two hs hv b1
    have hds := dep_step hv b1
    have h2' := h2
    rw [fb_sm_succ] at h2'
    obtain ⟨w, e1, e2⟩ := ih (j + 1) (s ||| 2 ^ v) (q - fb_sm (rsF nd S s) v) (nI (g v)) (nI v) n n' (by omega) (by omega) (by omega) o2 (by omega) (fun _ => by rw [← eF]; omega) (fun _ => ⟨v, hv, rfl, rfl⟩)
    refine ⟨w, ?_, ?_⟩
    · have em : f_O_memberAt (nI s) (nI q) m = some (nI v, m) := by
        unfold f_O_memberAt
        simp only [lits, negs]
        exact lp_mem h12 hS hs hsf hnd hT hq' hv h1 h2 v 5000 0 (by omega) (by omega)
      rw [← e1]
      conv => lhs; unfold lp_O_letterAt_21
      simp only [lits, negs]
      simp (disch := omega) only [lits, negs, nI_add, nn1, leT, leF, ltT, ltF, eqF, mF1, mF2, mF3, mF4, mF5, mF6, mTT, eq_self, Nat.reduceEqDiff, ↓reduceIte, ↓jbd_s, ↓jpu_e, tI0, tI1, jgd_tI, jgd_bb, tfF, ftF, jup_at, jup_oc, jup_ok, hS, ↓jb em, ↓jb (e_ways (m := m) h12 (by omega : v ≤ S) hs hnd hT), ↓jb (e_bit (m := m) v), ↓ld_92, hg v hv]
      rw [or_sbn (by omega), n_sub h1]
    · have eo := lp_Mo60 (v3 := nI pl) (v7 := nI j) (k := fun w15 w16 m14 => lp_M_order_51 (nI pl) (fun w18 m17 => jld 1 m17 146 w18 fun x19 => some (x19, m17)) n' w15 (nI s ||| (nI 1 <<< (w16 &&& nI 31))) w16 (nI (j + 1)) m14) h12 hs hsf hndM hTM hq' hv h1 h2 v 5000 0 (by omega) (by omega)
      rw [sb_e, or_sbn (by omega), show fb_sm (rsF nd S s) 0 = 0 from rfl, Nat.sub_zero] at eo
      rw [← e2, ← eo]
      conv => lhs; unfold lp_M_order_51
      simp only [lits, negs]
      simp (disch := omega) only [lits, negs, nI_add, nn1, leT, leF, ltT, ltF, eqF, mF1, mF2, mF3, mF4, mF5, mF6, mTT, eq_self, Nat.reduceEqDiff, ↓reduceIte, jbd_s, jpu_e, tI0, tI1, jgd_tI, jgd_bb, tfF, ftF, jup_at, jup_oc, jup_ok]
theorem q_order {N C : Nat} {m : jMem} (r : Rel N C m) (X x y : Int32) : Qst (f_C_order X x y) (f_M_order X x y) m := by
  have h30 := r.1.1
  have hN := r.1.2.1
  by_cases hbad : isSt N X = false ∨ ¬ pcnt X ≤ 12
  · refine ⟨nM, m, jup m 109 0 (nI 0), ?_, ?_⟩
    · unfold f_C_order
      simp only [lits, negs]
      simp (disch := omega) only [lits, negs, nI_add, nn1, leT, leF, ltT, ltF, eqF, mF1, mF2, mF3, mF4, mF5, mF6, mTT, eq_self, Nat.reduceEqDiff, ↓reduceIte, ↓jbd_s, ↓jpu_e, tI0, tI1, jgd_tI, jgd_bb, tfF, ftF, jup_at, jup_oc, jup_ok, ↓jb (e_takes_no (m := m) h30 hN hbad)]
    · unfold f_M_order
      simp only [lits, negs]
      simp (disch := omega) only [lits, negs, nI_add, nn1, leT, leF, ltT, ltF, eqF, mF1, mF2, mF3, mF4, mF5, mF6, mTT, eq_self, Nat.reduceEqDiff, ↓reduceIte, ↓jbd_s, ↓jpu_e, tI0, tI1, jgd_tI, jgd_bb, tfF, ftF, jup_at, jup_oc, jup_ok, ↓jb (e_lay_no (M := jup m 109 0 (nI 0)) h30 (by rw [jup_ok (by omega)]; exact r.1.2.2.1) hbad)]
  · have hX : isSt N X = true := by cases q : isSt N X; exact absurd (Or.inl q) hbad; rfl
    have h12 : pcnt X ≤ 12 := Classical.byContradiction fun q => hbad (Or.inr q)
    obtain ⟨p1, p2⟩ := two_lim h12
    obtain ⟨g, A, B, p, m1, hn, -, e1, e2, e3, e4, e5, e6⟩ := lay_two r hX h12
    have hM : ∀ m2 : jMem, (∀ c, c ≠ 92 → c ≠ 93 → c ≠ 89 → c ≠ 94 → m2 c = m c) → ∃ M1, f_M_lay X (jup m2 109 0 (nI 0)) = some (nI 1, M1) ∧ M1 109 67 = nI (pcnt X) ∧ (∀ b, b < pcnt X → M1 146 b = nI (g b)) ∧ ∀ a, a < pcnt X → M1 147 a = ndS (m 37) A B g (pcnt X) a p := fun m2 hm2 => e6 (jup m2 109 0 (nI 0)) (fun c h1 h2 => by rw [jup_oc h2, hm2 c (by omega) (by omega) (by omega) (by omega)]) (fun j hj => by rw [jup_ok hj, hm2 109 (by omega) (by omega) (by omega) (by omega)])
    obtain ⟨M1, k1, k2, k3, k4⟩ := hM m1 (fun c a b d _ => e5 c a b d)
    by_cases hx : x < nI 0
    · refine ⟨nM, m1, M1, ?_, ?_⟩
      · unfold f_C_order
        simp only [lits, negs]
        simp (disch := omega) only [lits, negs, nI_add, nn1, leT, leF, ltT, ltF, eqF, mF1, mF2, mF3, mF4, mF5, mF6, mTT, eq_self, Nat.reduceEqDiff, ↓reduceIte, ↓jbd_s, ↓jpu_e, tI0, tI1, jgd_tI, jgd_bb, tfF, ftF, jup_at, jup_oc, jup_ok, ↓jb e1, hx]
      · unfold f_M_order
        simp only [lits, negs]
        simp (disch := omega) only [lits, negs, nI_add, nn1, leT, leF, ltT, ltF, eqF, mF1, mF2, mF3, mF4, mF5, mF6, mTT, eq_self, Nat.reduceEqDiff, ↓reduceIte, ↓jbd_s, ↓jpu_e, tI0, tI1, jgd_tI, jgd_bb, tfF, ftF, jup_at, jup_oc, jup_ok, ↓jb k1, hx]
    · by_cases hy : y < nI 0
      · refine ⟨nM, m1, M1, ?_, ?_⟩
        · unfold f_C_order
          simp only [lits, negs]
          simp (disch := omega) only [lits, negs, nI_add, nn1, leT, leF, ltT, ltF, eqF, mF1, mF2, mF3, mF4, mF5, mF6, mTT, eq_self, Nat.reduceEqDiff, ↓reduceIte, ↓jbd_s, ↓jpu_e, tI0, tI1, jgd_tI, jgd_bb, tfF, ftF, jup_at, jup_oc, jup_ok, ↓jb e1, hx, hy]
        · unfold f_M_order
          simp only [lits, negs]
          simp (disch := omega) only [lits, negs, nI_add, nn1, leT, leF, ltT, ltF, eqF, mF1, mF2, mF3, mF4, mF5, mF6, mTT, eq_self, Nat.reduceEqDiff, ↓reduceIte, ↓jbd_s, ↓jpu_e, tI0, tI1, jgd_tI, jgd_bb, tfF, ftF, jup_at, jup_oc, jup_ok, ↓jb k1, hx, hy]
      · by_cases hyS : nI (pcnt X) ≤ y
        · have hyS' : ¬ y < nI (pcnt X) := Int32.not_lt.mpr hyS
          refine ⟨nM, m1, M1, ?_, ?_⟩
          · unfold f_C_order
            simp only [lits, negs]
            simp (disch := omega) only [lits, negs, nI_add, nn1, leT, leF, ltT, ltF, eqF, mF1, mF2, mF3, mF4, mF5, mF6, mTT, eq_self, Nat.reduceEqDiff, ↓reduceIte, ↓jbd_s, ↓jpu_e, tI0, tI1, jgd_tI, jgd_bb, tfF, ftF, jup_at, jup_oc, jup_ok, ↓jb e1, hx, hy, e2, hyS']
          · unfold f_M_order
            simp only [lits, negs]
            simp (disch := omega) only [lits, negs, nI_add, nn1, leT, leF, ltT, ltF, eqF, mF1, mF2, mF3, mF4, mF5, mF6, mTT, eq_self, Nat.reduceEqDiff, ↓reduceIte, ↓jbd_s, ↓jpu_e, tI0, tI1, jgd_tI, jgd_bb, tfF, ftF, jup_at, jup_oc, jup_ok, ↓jb k1, hx, hy, k2, hyS]
        · have hyS' : y < nI (pcnt X) := Int32.not_le.mp hyS
          obtain ⟨pl, hpl, rfl⟩ : ∃ pl, pl < pcnt X ∧ y = nI pl := by
            rcases ixN y (n := pcnt X) (by omega) with h | h
            · exact absurd h (fun h => h.elim hy hyS)
            · exact h
          obtain ⟨m2, f1, f2, f3⟩ := e_howMany (nd := m1 93) h12 e2 rfl
          have hm2 : ∀ c, c ≠ 92 → c ≠ 93 → c ≠ 89 → c ≠ 94 → m2 c = m c := fun c a b d e => by rw [f2 c e, e5 c a b d]
          obtain ⟨M3, s1, s2, s3, s4⟩ := hM m2 hm2
          obtain ⟨M2, g1, g2, g3⟩ := e_countOrders (nd := m1 93) h12 s2 (fun v hv => by rw [s4 v hv, e4 v hv])
          have hlim := rs_le (nd := m1 93) (s := 0) h12
          by_cases hr : x < nI (rsN (m1 93) (pcnt X) 0)
          · obtain ⟨q, hq, rfl⟩ : ∃ q, q < rsN (m1 93) (pcnt X) 0 ∧ x = nI q := by
              rcases ixN x (n := rsN (m1 93) (pcnt X) 0) (by omega) with h | h
              · exact absurd h (fun h => h.elim hx (fun z => (Int32.not_lt.mpr z) hr))
              · exact h
            have d0 : depS (pcnt X) 0 + 0 = pcnt X := by
              show fb_ct (fun v => !(0 : Nat).testBit v) (pcnt X) = pcnt X
              rw [fb_ct_all]
              intro k _
              rw [Nat.zero_testBit]
              rfl
            obtain ⟨w, o1, o2⟩ := sim_ord (k51 := fun m10 => some (nM, m10)) (m := m2) (M := M2) h12 hpl (by rw [f2 89 (by omega)]; exact e2) (fun b hb => by rw [f2 92 (by omega)]; exact e3 b hb) (f2 93 (by omega)) f3 (fun b hb => by rw [g2 146 (by omega)]; exact s3 b hb) (fun v hv => by rw [g2 147 (by omega), s4 v hv, e4 v hv]) g3 (pl + 1) 0 0 q nM nM 5000 5000 (by omega) (by omega) (by omega) (by omega) d0 (fun _ => hq) (fun z => absurd z (by omega))
            refine ⟨w, m2, M2, ?_, ?_⟩
            · have el : f_O_letterAt (nI q) (nI pl) m1 = some (w, m2) := by
                unfold f_O_letterAt
                simp only [lits, negs]
                rw [f1, jbd_s, if_pos hr]
                exact o1
              unfold f_C_order
              simp only [lits, negs]
              simp (disch := omega) only [lits, negs, nI_add, nn1, leT, leF, ltT, ltF, eqF, mF1, mF2, mF3, mF4, mF5, mF6, mTT, eq_self, Nat.reduceEqDiff, ↓reduceIte, ↓jbd_s, ↓jpu_e, tI0, tI1, jgd_tI, jgd_bb, tfF, ftF, jup_at, jup_oc, jup_ok, ↓jb e1, hx, hy, e2, hyS', ↓jb el]
            · unfold f_M_order
              simp only [lits, negs]
              simp (disch := omega) only [lits, negs, nI_add, nn1, leT, leF, ltT, ltF, eqF, mF1, mF2, mF3, mF4, mF5, mF6, mTT, eq_self, Nat.reduceEqDiff, ↓reduceIte, ↓jbd_s, ↓jpu_e, tI0, tI1, jgd_tI, jgd_bb, tfF, ftF, jup_at, jup_oc, jup_ok, ↓jb s1, hx, hy, s2, hyS, ↓jb g1, hr]
              exact o2
          · refine ⟨nM, m2, M2, ?_, ?_⟩
            · have el : f_O_letterAt x (nI pl) m1 = some (nM, m2) := by
                unfold f_O_letterAt
                simp only [lits, negs]
                rw [f1, jbd_s, if_neg hr]
              unfold f_C_order
              simp only [lits, negs]
              simp (disch := omega) only [lits, negs, nI_add, nn1, leT, leF, ltT, ltF, eqF, mF1, mF2, mF3, mF4, mF5, mF6, mTT, eq_self, Nat.reduceEqDiff, ↓reduceIte, ↓jbd_s, ↓jpu_e, tI0, tI1, jgd_tI, jgd_bb, tfF, ftF, jup_at, jup_oc, jup_ok, ↓jb e1, hx, hy, e2, hyS', ↓jb el]
            · unfold f_M_order
              simp only [lits, negs]
              simp (disch := omega) only [lits, negs, nI_add, nn1, leT, leF, ltT, ltF, eqF, mF1, mF2, mF3, mF4, mF5, mF6, mTT, eq_self, Nat.reduceEqDiff, ↓reduceIte, ↓jbd_s, ↓jpu_e, tI0, tI1, jgd_tI, jgd_bb, tfF, ftF, jup_at, jup_oc, jup_ok, ↓jb s1, hx, hy, s2, hyS, ↓jb g1, hr]
