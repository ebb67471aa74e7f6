/-! waits, ever, count, fault -/
theorem lp_dpN {w c : Nat} {x : Int32} {kY : Int32 → jMem → Option (Int32 × jMem)} {kN : jMem → Option (Int32 × jMem)} {m : jMem} (hw : w < 6) (hc : c ≤ 30) (h1 : m 138 w = nI c) (hx : ∀ k, k < c → ¬ m 137 (30 * w + k) = x) : ∀ (d n i : Nat), i + d = c → d < n → lp_M_deskPlace_2 (nI w) x kY kN n (nI i) m = kN m := by
  intro d
  induction d with
  | zero =>
    intro n i h hn
    obtain ⟨n, rfl⟩ := ex_succ hn
    unfold lp_M_deskPlace_2
    simp (disch := omega) only [lits, negs, nI_add, nn1, leT, leF, ltT, ltF, eqF, mF1, mF2, mF3, mF4, mF5, mF6, mTT, eq_self, Nat.reduceEqDiff, ↓reduceIte, jbd_s, jpu_e, tI0, tI1, jgd_tI, jgd_bb, tfF, ftF, jup_at, jup_oc, jup_ok, ld_138, h1]
  | succ d ih =>
    intro n i h hn
    obtain ⟨n, rfl⟩ := ex_succ hn
    unfold lp_M_deskPlace_2
    simp (disch := omega) only [lits, negs, nI_add, nn1, leT, leF, ltT, ltF, eqF, mF1, mF2, mF3, mF4, mF5, mF6, mTT, eq_self, Nat.reduceEqDiff, ↓reduceIte, jbd_s, jpu_e, tI0, tI1, jgd_tI, jgd_bb, tfF, ftF, jup_at, jup_oc, jup_ok, ld_138, h1, pk_mul, ld_137]
    rw [if_neg (hx i (by omega))]
    exact ih n (i + 1) (by omega) (by omega)
theorem lp_dpY {w c k0 : Nat} {x : Int32} {kY : Int32 → jMem → Option (Int32 × jMem)} {kN : jMem → Option (Int32 × jMem)} {m : jMem} (hw : w < 6) (hc : c ≤ 30) (h1 : m 138 w = nI c) (hk : k0 < c) (hx : m 137 (30 * w + k0) = x) (hl : ∀ k, k < k0 → ¬ m 137 (30 * w + k) = x) : ∀ (d n i : Nat), i + d = k0 → d < n → lp_M_deskPlace_2 (nI w) x kY kN n (nI i) m = kY (nI k0) m := by
  intro d
  induction d with
  | zero =>
    intro n i h hn
    obtain ⟨n, rfl⟩ := ex_succ hn
    have e : i = k0 := by omega
    subst e
    unfold lp_M_deskPlace_2
    simp (disch := omega) only [lits, negs, nI_add, nn1, leT, leF, ltT, ltF, eqF, mF1, mF2, mF3, mF4, mF5, mF6, mTT, eq_self, Nat.reduceEqDiff, ↓reduceIte, jbd_s, jpu_e, tI0, tI1, jgd_tI, jgd_bb, tfF, ftF, jup_at, jup_oc, jup_ok, ld_138, h1, pk_mul, ld_137, hx]
  | succ d ih =>
    intro n i h hn
    obtain ⟨n, rfl⟩ := ex_succ hn
    unfold lp_M_deskPlace_2
    simp (disch := omega) only [lits, negs, nI_add, nn1, leT, leF, ltT, ltF, eqF, mF1, mF2, mF3, mF4, mF5, mF6, mTT, eq_self, Nat.reduceEqDiff, ↓reduceIte, jbd_s, jpu_e, tI0, tI1, jgd_tI, jgd_bb, tfF, ftF, jup_at, jup_oc, jup_ok, ld_138, h1, pk_mul, ld_137]
    rw [if_neg (hl i (by omega))]
    exact ih n (i + 1) (by omega) (by omega)
theorem e_dpN {w c : Nat} {x : Int32} {m : jMem} (hw : w < 6) (hc : c ≤ 30) (h1 : m 138 w = nI c) (hx : ∀ k, k < c → ¬ m 137 (30 * w + k) = x) : f_M_deskPlace (nI w) x m = some (nM, m) := by
  unfold f_M_deskPlace
  simp only [lits, negs]
  exact lp_dpN hw hc h1 hx c 5000 0 (by omega) (by omega)
theorem e_dpY {w c k0 : Nat} {x : Int32} {m : jMem} (hw : w < 6) (hc : c ≤ 30) (h1 : m 138 w = nI c) (hk : k0 < c) (hx : m 137 (30 * w + k0) = x) (hl : ∀ k, k < k0 → ¬ m 137 (30 * w + k) = x) : f_M_deskPlace (nI w) x m = some (nI k0, m) := by
  unfold f_M_deskPlace
  simp only [lits, negs]
  exact lp_dpY hw hc h1 hk hx hl k0 5000 0 (by omega) (by omega)
theorem e_holds {w l : Nat} {m : jMem} (hw : w < 6) (hl : l < 30) : f_D_holds (nI w) (nI l) m = some (tI (bt (m 74 w) l), m) := by
  unfold f_D_holds
  simp (disch := omega) only [lits, negs, nI_add, nn1, leT, leF, ltT, ltF, eqF, mF1, mF2, mF3, mF4, mF5, mF6, mTT, eq_self, Nat.reduceEqDiff, ↓reduceIte, jbd_s, jpu_e, tI0, tI1, jgd_tI, jgd_bb, tfF, ftF, jup_at, jup_oc, jup_ok, e_isWriter, ld_74, e_isIn]
  cases bt (m 74 w) l <;> rfl
theorem e_holds_no {w : Nat} {x : Int32} {m : jMem} (hw : w < 6) (hx : x < nI 0 ∨ nI 30 ≤ x) : f_D_holds (nI w) x m = some (nI 0, m) := by
  unfold f_D_holds
  simp (disch := omega) only [lits, negs, nI_add, nn1, leT, leF, ltT, ltF, eqF, mF1, mF2, mF3, mF4, mF5, mF6, mTT, eq_self, Nat.reduceEqDiff, ↓reduceIte, jbd_s, jpu_e, tI0, tI1, jgd_tI, jgd_bb, tfF, ftF, jup_at, jup_oc, jup_ok, e_isWriter, ld_74, e_isIn_no hx]
/-- where the reference finds a letter on a desk -/
theorem RH_place {N w l : Nat} {m : jMem} (h30 : N ≤ 30) (rh : RH N m) (hw : w < 6) (hl : l < 32) : (bt (m 74 w) l = false ∧ f_M_deskPlace (nI w) (nI l) m = some (nM, m)) ∨ (bt (m 74 w) l = true ∧ ∃ k0 c, k0 < c ∧ c ≤ N ∧ m 73 w = nI c ∧ m 137 (30 * w + k0) = nI l ∧ m (67 + w) k0 = nI l ∧ f_M_deskPlace (nI w) (nI l) m = some (nI k0, m)) := by
  obtain ⟨c, hc, c0, c1, c2, c3, c4⟩ := rh w hw
  cases hq : bt (m 74 w) l
  · refine Or.inl ⟨rfl, e_dpN hw (by omega) c1 (fun k hk e => ?_)⟩
    rw [(c2 k hk).1] at e
    have := (c4 l hl).mpr ⟨k, hk, e⟩
    rw [hq] at this; exact absurd this (by decide)
  · obtain ⟨k, hk, e⟩ := (c4 l hl).mp hq
    refine Or.inr ⟨rfl, k, c, hk, hc, c0, by rw [(c2 k hk).1, e], e, e_dpY hw (by omega) c1 hk (by rw [(c2 k hk).1, e]) (fun j hj e2 => ?_)⟩
    rw [(c2 j (by omega)).1] at e2
    exact c3 j k hj hk (e2.trans e.symm)
theorem RH_place_no {N w : Nat} {x : Int32} {m : jMem} (h30 : N ≤ 30) (rh : RH N m) (hw : w < 6) (hx : x < nI 0 ∨ nI N ≤ x) : f_M_deskPlace (nI w) x m = some (nM, m) := by
  obtain ⟨c, hc, c0, c1, c2, c3, c4⟩ := rh w hw
  refine e_dpN hw (by omega) c1 (fun k hk e => ?_)
  obtain ⟨e1, l, hl, e2, -⟩ := c2 k hk
  rw [e1, e2] at e
  subst e
  rcases hx with h | h
  · exact nI_pos (by omega) h
  · exact nI_ge hl (by omega) h
theorem RH_bits {N w l : Nat} {m : jMem} (rh : RH N m) (h30 : N ≤ 30) (hw : w < 6) (h : bt (m 74 w) l = true) : l < N := by
  obtain ⟨c, hc, c0, c1, c2, c3, c4⟩ := rh w hw
  have hl := bt_big h
  obtain ⟨k, hk, e⟩ := (c4 l hl).mp h
  obtain ⟨-, l2, hl2, e2, -⟩ := c2 k hk
  rw [e2] at e
  have := (nI_eq (by omega) (by omega)).mp e
  omega
theorem q_waits {N C : Nat} {m : jMem} (r : Rel N C m) (x y : Int32) : Qst (f_C_waits x y) (f_M_waits x y) m := by
  have rl := r.1
  have h30 := rl.1
  have rk := r.2.2.2.2.2.2.2.1
  have rh := r.2.2.2.2.2.2.2.2.1
  have rx := r.2.2.2.2.2.2.2.2.2.2
  have rh1 := RH_scr (thr_scr m (nI 0)) rh
  have q74 : jup m 109 0 (nI 0) 74 = m 74 := jup_oc (by omega)
  rcases ixW x with hx | ⟨w, hw, rfl⟩
  · refine ⟨nM, m, jup m 109 0 (nI 0), ?_, ?_⟩
    · unfold f_C_waits f_D_holds
      simp (disch := omega) only [lits, negs, nI_add, nn1, leT, leF, ltT, ltF, eqF, mF1, mF2, mF3, mF4, mF5, mF6, mTT, eq_self, Nat.reduceEqDiff, ↓reduceIte, jbd_s, jpu_e, tI0, tI1, jgd_tI, jgd_bb, tfF, ftF, jup_at, jup_oc, jup_ok, e_isWriter_no hx]
    · unfold f_M_waits
      simp (disch := omega) only [lits, negs, nI_add, nn1, leT, leF, ltT, ltF, eqF, mF1, mF2, mF3, mF4, mF5, mF6, mTT, eq_self, Nat.reduceEqDiff, ↓reduceIte, jbd_s, jpu_e, tI0, tI1, jgd_tI, jgd_bb, tfF, ftF, jup_at, jup_oc, jup_ok, e_MisWriter_no hx]
  · rcases ixN y (n := N) (by omega) with hy | ⟨l, hl, rfl⟩
    · refine ⟨nM, m, jup m 109 0 (nI 0), ?_, ?_⟩
      · have e : f_D_holds (nI w) y m = some (nI 0, m) := by
          rcases ixN y (n := 30) (by omega) with h | ⟨l, hl, rfl⟩
          · exact e_holds_no hw h
          · rw [e_holds hw hl]
            cases q : bt (m 74 w) l
            · rfl
            · have := RH_bits rh h30 hw q
              rcases hy with h | h
              · exact (nI_pos (by omega) h).elim
              · exact (nI_ge this (by omega) h).elim
        unfold f_C_waits
        simp (disch := omega) only [lits, negs, nI_add, nn1, leT, leF, ltT, ltF, eqF, mF1, mF2, mF3, mF4, mF5, mF6, mTT, eq_self, Nat.reduceEqDiff, ↓reduceIte, jbd_s, jpu_e, tI0, tI1, jgd_tI, jgd_bb, tfF, ftF, jup_at, jup_oc, jup_ok, e]
      · unfold f_M_waits
        simp (disch := omega) only [lits, negs, nI_add, nn1, leT, leF, ltT, ltF, eqF, mF1, mF2, mF3, mF4, mF5, mF6, mTT, eq_self, Nat.reduceEqDiff, ↓reduceIte, jbd_s, jpu_e, tI0, tI1, jgd_tI, jgd_bb, tfF, ftF, jup_at, jup_oc, jup_ok, e_MisWriter, RH_place_no h30 rh1 hw hy]
    · obtain ⟨rr, r4, r5, r6, r7⟩ := RX_rule rx hw
      rcases RH_place h30 rh1 hw (by omega : l < 32) with ⟨h1, h2⟩ | ⟨h1, k0, c, g1, g2, g3, g4, g5, h2⟩
      · rw [q74] at h1
        refine ⟨nM, m, jup m 109 0 (nI 0), ?_, ?_⟩
        · unfold f_C_waits
          simp (disch := omega) only [lits, negs, nI_add, nn1, leT, leF, ltT, ltF, eqF, mF1, mF2, mF3, mF4, mF5, mF6, mTT, eq_self, Nat.reduceEqDiff, ↓reduceIte, jbd_s, jpu_e, tI0, tI1, jgd_tI, jgd_bb, tfF, ftF, jup_at, jup_oc, jup_ok, e_holds, h1]
        · unfold f_M_waits
          simp (disch := omega) only [lits, negs, nI_add, nn1, leT, leF, ltT, ltF, eqF, mF1, mF2, mF3, mF4, mF5, mF6, mTT, eq_self, Nat.reduceEqDiff, ↓reduceIte, jbd_s, jpu_e, tI0, tI1, jgd_tI, jgd_bb, tfF, ftF, jup_at, jup_oc, jup_ok, e_MisWriter, h2]
      · rw [q74] at h1
        refine ⟨setS (wtP m rr w l) l, m, jup m 109 0 (nI 0), ?_, ?_⟩
        · unfold f_C_waits
          simp (disch := omega) only [lits, negs, nI_add, nn1, leT, leF, ltT, ltF, eqF, mF1, mF2, mF3, mF4, mF5, mF6, mTT, eq_self, Nat.reduceEqDiff, ↓reduceIte, jbd_s, jpu_e, tI0, tI1, jgd_tI, jgd_bb, tfF, ftF, jup_at, jup_oc, jup_ok, e_holds, h1, e_missing rl rk hw hl r4 r5 r6 r7]
        · have e := e_Mwaits (m := jup m 109 0 (nI 0)) hw (by omega : l < 30) r4 (by rw [jup_oc (by omega)]; exact r5)
          have e2 : wtP (jup m 109 0 (nI 0)) rr w l = wtP m rr w l := by
            funext j
            unfold wtP isP
            rw [jup_oc (by omega), jup_oc (by omega), jup_oc (by omega), jup_oc (by omega), jup_oc (by omega), jup_oc (by omega)]
          rw [e2] at e
          unfold f_M_waits
          simp (disch := omega) only [lits, negs, nI_add, nn1, leT, leF, ltT, ltF, eqF, mF1, mF2, mF3, mF4, mF5, mF6, mTT, eq_self, Nat.reduceEqDiff, ↓reduceIte, jbd_s, jpu_e, tI0, tI1, jgd_tI, jgd_bb, tfF, ftF, jup_at, jup_oc, jup_ok, e_MisWriter, h2, e]
/-! ever -/
def cmP (m : jMem) (w l c : Nat) : Bool := decide (m 64 c = nI 0) && (decide (m 62 c = nI w) && decide (m 60 c = nI l))
theorem lp_coming {C w l : Nat} {kY kN : jMem → Option (Int32 × jMem)} {m : jMem} (hC : m 109 44 = nI C) (hC2 : C ≤ 150) : ∀ (d n i : Nat), i + d = C → d < n → exS (fun c => decide (m 134 c = nI 0) && (decide (m 132 c = nI w) && decide (m 130 c = nI l))) i = false → lp_M_isComing_2 (nI w) (nI l) kY kN n (nI i) m = if exS (fun c => decide (m 134 c = nI 0) && (decide (m 132 c = nI w) && decide (m 130 c = nI l))) C = true then kY m else kN m := by
  intro d
  induction d with
  | zero =>
    intro n i h hn h0
    obtain ⟨n, rfl⟩ := ex_succ hn
    have e : i = C := by omega
    subst e
    unfold lp_M_isComing_2
    simp (disch := omega) only [lits, negs, nI_add, nn1, leT, leF, ltT, ltF, eqF, mF1, mF2, mF3, mF4, mF5, mF6, mTT, eq_self, Nat.reduceEqDiff, ↓reduceIte, jbd_s, jpu_e, tI0, tI1, jgd_tI, jgd_bb, tfF, ftF, jup_at, jup_oc, jup_ok, hC, h0]
  | succ d ih =>
    intro n i h hn h0
    obtain ⟨n, rfl⟩ := ex_succ hn
    have hno : (decide (m 134 i = nI 0) && (decide (m 132 i = nI w) && decide (m 130 i = nI l))) = false → lp_M_isComing_2 (nI w) (nI l) kY kN n (nI (i + 1)) m = if exS (fun c => decide (m 134 c = nI 0) && (decide (m 132 c = nI w) && decide (m 130 c = nI l))) C = true then kY m else kN m := fun hp => ih n (i + 1) (by omega) (by omega) (by rw [exS_succ, h0, Bool.false_or]; exact hp)
    unfold lp_M_isComing_2
    by_cases h1 : m 134 i = nI 0
    · by_cases h2 : m 132 i = nI w
      · by_cases h3 : m 130 i = nI l
        · rw [exS_mono (i := i) (by omega : i < C) (by show (decide _ && _) = true; rw [decide_eq_true h1, decide_eq_true h2, decide_eq_true h3]; rfl)]
          simp (disch := omega) only [lits, negs, nI_add, nn1, leT, leF, ltT, ltF, eqF, mF1, mF2, mF3, mF4, mF5, mF6, mTT, eq_self, Nat.reduceEqDiff, ↓reduceIte, jbd_s, jpu_e, tI0, tI1, jgd_tI, jgd_bb, tfF, ftF, jup_at, jup_oc, jup_ok, hC, ld_134, h1, ld_132, h2, ld_130, h3]
        · simp (disch := omega) only [lits, negs, nI_add, nn1, leT, leF, ltT, ltF, eqF, mF1, mF2, mF3, mF4, mF5, mF6, mTT, eq_self, Nat.reduceEqDiff, ↓reduceIte, jbd_s, jpu_e, tI0, tI1, jgd_tI, jgd_bb, tfF, ftF, jup_at, jup_oc, jup_ok, hC, ld_134, h1, ld_132, h2, ld_130]
          rw [if_neg h3]
          exact hno (by rw [decide_eq_false h3, Bool.and_false, Bool.and_false])
      · simp (disch := omega) only [lits, negs, nI_add, nn1, leT, leF, ltT, ltF, eqF, mF1, mF2, mF3, mF4, mF5, mF6, mTT, eq_self, Nat.reduceEqDiff, ↓reduceIte, jbd_s, jpu_e, tI0, tI1, jgd_tI, jgd_bb, tfF, ftF, jup_at, jup_oc, jup_ok, hC, ld_134, h1, ld_132]
        rw [if_neg h2]
        exact hno (by rw [decide_eq_false h2, Bool.false_and, Bool.and_false])
    · simp (disch := omega) only [lits, negs, nI_add, nn1, leT, leF, ltT, ltF, eqF, mF1, mF2, mF3, mF4, mF5, mF6, mTT, eq_self, Nat.reduceEqDiff, ↓reduceIte, jbd_s, jpu_e, tI0, tI1, jgd_tI, jgd_bb, tfF, ftF, jup_at, jup_oc, jup_ok, hC, ld_134]
      rw [if_neg h1]
      exact hno (by rw [decide_eq_false h1, Bool.false_and])
theorem e_coming {N C w l : Nat} {m : jMem} (rc : RC N C m) : f_M_isComing (nI w) (nI l) m = some (tI (exS (cmP m w l) C), m) := by
  obtain ⟨hC, c1, c2, ⟨r1, r2, r3, r4, r5⟩, -⟩ := rc
  unfold f_M_isComing
  simp only [lits]
  rw [lp_coming (kY := fun m4 => some (nI 1, m4)) (kN := fun m5 => some (nI 0, m5)) c2 hC C 5000 0 (by omega) (by omega) rfl]
  rw [r1, r3, r5]
  show (if exS (cmP m w l) C = true then _ else _) = _
  cases exS (cmP m w l) C <;> rfl
/-- letters on the way to a writer -/
def owS (m : jMem) (w : Nat) : Nat → Int32
  | 0 => nI 0
  | c + 1 => if decide (m 64 c = nI 0) && decide (m 62 c = nI w) then owS m w c ||| (nI 1 <<< (m 60 c &&& nI 31)) else owS m w c
theorem owS_s (m : jMem) (w c : Nat) : owS m w (c + 1) = if decide (m 64 c = nI 0) && decide (m 62 c = nI w) then owS m w c ||| (nI 1 <<< (m 60 c &&& nI 31)) else owS m w c := rfl
theorem lp_onWay {C w : Nat} {k : Int32 → jMem → Option (Int32 × jMem)} {m : jMem} (hC : m 45 10 = nI C) (hC2 : C ≤ 150) : ∀ (d n i : Nat), i + d = C → d < n → lp_P_onTheWayTo_4 (nI w) k n (owS m w i) (nI i) m = k (owS m w C) m := by
  intro d
  induction d with
  | zero =>
    intro n i hid hdn
    obtain ⟨n, rfl⟩ := ex_succ hdn
    rw [show i = C by omega]
    unfold lp_P_onTheWayTo_4
    simp (disch := omega) only [lits, negs, nI_add, nn1, leT, leF, ltT, ltF, eqF, mF1, mF2, mF3, mF4, mF5, mF6, mTT, eq_self, Nat.reduceEqDiff, ↓reduceIte, jbd_s, jpu_e, tI0, tI1, jgd_tI, jgd_bb, tfF, ftF, jup_at, jup_oc, jup_ok, hC]
  | succ d ih =>
    intro n i hid hdn
    obtain ⟨n, rfl⟩ := ex_succ hdn
    have e := ih n (i + 1) (by omega) (by omega)
    unfold lp_P_onTheWayTo_4
    rw [owS_s] at e
    by_cases h1 : m 64 i = nI 0
    · by_cases h2 : m 62 i = nI w
      · rw [decide_eq_true h1, decide_eq_true h2, Bool.true_and, if_pos rfl] at e
        simp (disch := omega) only [lits, negs, nI_add, nn1, leT, leF, ltT, ltF, eqF, mF1, mF2, mF3, mF4, mF5, mF6, mTT, eq_self, Nat.reduceEqDiff, ↓reduceIte, jbd_s, jpu_e, tI0, tI1, jgd_tI, jgd_bb, tfF, ftF, jup_at, jup_oc, jup_ok, hC, ld_64, h1, ld_62, h2, ld_60, e_bitG]
        exact e
      · rw [decide_eq_false h2, Bool.and_false, if_neg (by decide)] at e
        simp (disch := omega) only [lits, negs, nI_add, nn1, leT, leF, ltT, ltF, eqF, mF1, mF2, mF3, mF4, mF5, mF6, mTT, eq_self, Nat.reduceEqDiff, ↓reduceIte, jbd_s, jpu_e, tI0, tI1, jgd_tI, jgd_bb, tfF, ftF, jup_at, jup_oc, jup_ok, hC, ld_64, h1, ld_62]
        rw [if_neg h2]
        exact e
    · rw [decide_eq_false h1, Bool.false_and, if_neg (by decide)] at e
      simp (disch := omega) only [lits, negs, nI_add, nn1, leT, leF, ltT, ltF, eqF, mF1, mF2, mF3, mF4, mF5, mF6, mTT, eq_self, Nat.reduceEqDiff, ↓reduceIte, jbd_s, jpu_e, tI0, tI1, jgd_tI, jgd_bb, tfF, ftF, jup_at, jup_oc, jup_ok, hC, ld_64]
      rw [if_neg h1]
      exact e
theorem e_onWay {C w : Nat} {m : jMem} (hC : m 45 10 = nI C) (hC2 : C ≤ 150) : f_P_onTheWayTo (nI w) m = some (owS m w C, m) := by
  unfold f_P_onTheWayTo
  simp only [lits]
  exact lp_onWay hC hC2 C 5000 0 (by omega) (by omega)
theorem b_owS {N w l : Nat} {m : jMem} (h30 : N ≤ 30) (hl : l < N) : ∀ {C : Nat}, (∀ c, c < C → ∃ l, l < N ∧ m 60 c = nI l) → bt (owS m w C) l = exS (cmP m w l) C
  | 0, _ => b_n0 l
  | C + 1, h => by
    rw [owS_s, exS_succ]
    have ih := b_owS (m := m) (w := w) h30 hl (C := C) (fun c hc => h c (by omega))
    obtain ⟨l2, hl2, e2⟩ := h C (by omega)
    unfold cmP at ih ⊢
    rw [e2]
    by_cases h1 : m 64 C = nI 0
    · by_cases h2 : m 62 C = nI w
      · rw [decide_eq_true h1, decide_eq_true h2, Bool.true_and, if_pos rfl, b_or, ih, sb_e, b_sb (by omega) (by omega)]
        simp only [nI_eq (by omega : l2 < 2 ^ 31) (by omega : l < 2 ^ 31), Bool.true_and]
        by_cases q : l2 = l
        · rw [q]
        · rw [decide_eq_false q, decide_eq_false (fun e => q e.symm)]
      · rw [decide_eq_false h2, Bool.and_false, if_neg (by decide), ih, Bool.false_and, Bool.and_false, Bool.or_false]
    · rw [decide_eq_false h1, Bool.false_and, if_neg (by decide), ih, Bool.false_and, Bool.or_false]
/-- does the inner loop keep a letter for ever -/
def evQ (H P fe : Int32) (x : Nat) : Bool := if bt H x then bt fe x else !bt P x
/-- held for ever, letter by letter -/
def evS (W : Nat → Int32) (H P : Int32) : Nat → Int32
  | 0 => nI 0
  | l + 1 => if bt H l && exS (fun x => bt (W l) x && evQ H P (evS W H P l) x) l then evS W H P l ||| sb l else evS W H P l
theorem evS_s (W : Nat → Int32) (H P : Int32) (l : Nat) : evS W H P (l + 1) = if bt H l && exS (fun x => bt (W l) x && evQ H P (evS W H P l) x) l then evS W H P l ||| sb l else evS W H P l := rfl
theorem evS_bits {W : Nat → Int32} {H P : Int32} : ∀ {n j : Nat}, n ≤ 32 → bt (evS W H P n) j = true → bt H j = true ∧ j < n
  | 0, j, _, h => by
    unfold evS at h
    rw [b_n0] at h; exact absurd h (by decide)
  | n + 1, j, hn, h => by
    rw [evS_s] at h
    split at h
    · rename_i q
      rw [Bool.and_eq_true] at q
      rw [b_or, Bool.or_eq_true] at h
      rcases h with h | h
      · have := evS_bits (by omega) h
        exact ⟨this.1, by omega⟩
      · rw [b_sb (by omega) (bt_big h), decide_eq_true_iff] at h
        rw [h]; exact ⟨q.1, by omega⟩
    · have := evS_bits (by omega) h
      exact ⟨this.1, by omega⟩
theorem lp_ever {N w r : Nat} {P : Int32} {k : Int32 → jMem → Option (Int32 × jMem)} {m : jMem} (rl : RL N m) (rk : RK N m) (rx : RX m) (hw : w < 6) (hr4 : r ≤ 4) (hr : m 116 w = nI r) (hh : (m 1 2).toNatClampNeg = 3 ∨ (m 1 2).toNatClampNeg = 12) (he : f_H_ruleOf (m 1 2).toNatClampNeg (nI w) m = some (1011 + r, m)) : ∀ (d n i : Nat), i + d = N → d < n → lp_C_ever_33 (nI w) (m 74 w ||| P) k n (evS (fun l => setS (wtP m r w l) l) (m 74 w) P i) (nI i) m = k (evS (fun l => setS (wtP m r w l) l) (m 74 w) P N) m := by
  have h30 := rl.1
  have hN := rl.2.1
  intro d
  induction d with
  | zero =>
    intro n i h hn
    obtain ⟨n, rfl⟩ := ex_succ hn
    rw [show i = N by omega]
    unfold lp_C_ever_33
    simp (disch := omega) only [lits, negs, nI_add, nn1, leT, leF, ltT, ltF, eqF, mF1, mF2, mF3, mF4, mF5, mF6, mTT, eq_self, Nat.reduceEqDiff, ↓reduceIte, jbd_s, jpu_e, tI0, tI1, jgd_tI, jgd_bb, tfF, ftF, jup_at, jup_oc, jup_ok, hN]
  | succ d ih =>
    intro n i h hn
    obtain ⟨n, rfl⟩ := ex_succ hn
    have e := ih n (i + 1) (by omega) (by omega)
    rw [evS_s] at e
    generalize hE : evS (fun l => setS (wtP m r w l) l) (m 74 w) P i = E at e ⊢
    have hEb : ∀ j, bt E j = true → bt (m 74 w) j = true ∧ j < i := fun j hj => by
      rw [← hE] at hj
      exact evS_bits (by omega) hj
    generalize hV2 : setS (wtP m r w i) i = V at e
    have hVb : ∀ j, j < 32 → bt V j = true → j < i := fun j hj h => by
      rw [← hV2, b_setS hj (by omega), Bool.and_eq_true, decide_eq_true_iff] at h
      exact h.1
    unfold lp_C_ever_33
    cases hq : bt (m 74 w) i
    · rw [hq, Bool.false_and, if_neg (by decide)] at e
      simp (disch := omega) only [lits, negs, nI_add, nn1, leT, leF, ltT, ltF, eqF, mF1, mF2, mF3, mF4, mF5, mF6, mTT, eq_self, Nat.reduceEqDiff, ↓reduceIte, jbd_s, jpu_e, tI0, tI1, jgd_tI, jgd_bb, tfF, ftF, jup_at, jup_oc, jup_ok, hN, e_holds, hq]
      exact e
    · rw [hq, Bool.true_and] at e
      have em := e_missing rl rk hw (by omega : i < N) hr4 hr hh he
      rw [hV2] at em
      by_cases h1 : V &&& ((m 74 w ||| P) ^^^ nM) = nI 0
      · by_cases h2 : V &&& E = nI 0
        · have hx : exS (fun x => bt V x && evQ (m 74 w) P E x) i = false := exS_none fun x hx => by
            cases hvx : bt V x
            · rfl
            · rw [Bool.true_and]
              have g1 := ex32.mp h1 x (by omega)
              have g2 := ex32.mp h2 x (by omega)
              rw [b_and, b_not (by omega), b_or, hvx, Bool.true_and] at g1
              rw [b_and, hvx, Bool.true_and] at g2
              unfold evQ
              cases hhx : bt (m 74 w) x
              · rw [hhx, Bool.false_or] at g1
                rw [if_neg (by decide)]; exact g1
              · rw [if_pos rfl]; exact g2
          rw [hx, if_neg (by decide)] at e
          simp (disch := omega) only [lits, negs, nI_add, nn1, leT, leF, ltT, ltF, eqF, mF1, mF2, mF3, mF4, mF5, mF6, mTT, eq_self, Nat.reduceEqDiff, ↓reduceIte, jbd_s, jpu_e, tI0, tI1, jgd_tI, jgd_bb, tfF, ftF, jup_at, jup_oc, jup_ok, hN, e_holds, hq, em, h1, h2]
          exact e
        · have hx : exS (fun x => bt V x && evQ (m 74 w) P E x) i = true := by
            cases hx : exS (fun x => bt V x && evQ (m 74 w) P E x) i
            · exfalso
              apply h2
              rw [ex32]
              intro x hx32
              rw [b_and]
              cases hvx : bt V x
              · rfl
              · cases hex : bt E x
                · rfl
                · have : exS (fun x => bt V x && evQ (m 74 w) P E x) i = true := exS_iff.mpr ⟨x, (hEb x hex).2, by
                    show (bt V x && evQ (m 74 w) P E x) = true
                    unfold evQ
                    rw [hvx, (hEb x hex).1, if_pos rfl, hex]; rfl⟩
                  rw [hx] at this; exact absurd this (by decide)
            · rfl
          rw [hx, if_pos rfl] at e
          simp (disch := omega) only [lits, negs, nI_add, nn1, leT, leF, ltT, ltF, eqF, mF1, mF2, mF3, mF4, mF5, mF6, mTT, eq_self, Nat.reduceEqDiff, ↓reduceIte, jbd_s, jpu_e, tI0, tI1, jgd_tI, jgd_bb, tfF, ftF, jup_at, jup_oc, jup_ok, hN, e_holds, hq, em, h1, e_bit]
          rw [if_neg h2]
          exact e
      · have hx : exS (fun x => bt V x && evQ (m 74 w) P E x) i = true := by
          cases hx : exS (fun x => bt V x && evQ (m 74 w) P E x) i
          · exfalso
            apply h1
            rw [ex32]
            intro x hx32
            rw [b_and, b_not hx32, b_or]
            cases hvx : bt V x
            · rfl
            · cases hhx : bt (m 74 w) x
              · cases hpx : bt P x
                · have : exS (fun x => bt V x && evQ (m 74 w) P E x) i = true := exS_iff.mpr ⟨x, hVb x hx32 hvx, by
                    show (bt V x && evQ (m 74 w) P E x) = true
                    unfold evQ
                    rw [hvx, hhx, if_neg (by decide), hpx]; rfl⟩
                  rw [hx] at this; exact absurd this (by decide)
                · rfl
              · rfl
          · rfl
        rw [hx, if_pos rfl] at e
        simp (disch := omega) only [lits, negs, nI_add, nn1, leT, leF, ltT, ltF, eqF, mF1, mF2, mF3, mF4, mF5, mF6, mTT, eq_self, Nat.reduceEqDiff, ↓reduceIte, jbd_s, jpu_e, tI0, tI1, jgd_tI, jgd_bb, tfF, ftF, jup_at, jup_oc, jup_ok, hN, e_holds, hq, em, e_bit]
        rw [if_neg h1]
        exact e
