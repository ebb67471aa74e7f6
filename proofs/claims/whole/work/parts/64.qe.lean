theorem or_sb_b {E : Int32} {l x : Nat} (hx : x < l) (hl : l < 32) (b : Bool) : bt (if b = true then E ||| sb l else E) x = bt E x := by
  cases b
  · rw [if_neg (by decide)]
  · rw [if_pos rfl, b_or, b_sb hl (by omega), decide_eq_false (by omega), Bool.or_false]
theorem or_sb_2 {E : Int32} {l : Nat} (b : Bool) : (if b = true then E ||| sb l else E) ||| sb l = E ||| sb l := by
  cases b
  · rw [if_neg (by decide)]
  · rw [if_pos rfl]
    apply b_ext
    intro j _
    rw [b_or, b_or, Bool.or_assoc, Bool.or_self]
theorem evQ_t {H P fe : Int32} {x : Nat} (h : bt H x = true) : evQ H P fe x = bt fe x := by unfold evQ; rw [if_pos h]
theorem evQ_f {H P fe : Int32} {x : Nat} (h : bt H x = false) : evQ H P fe x = !bt P x := by unfold evQ; rw [h, if_neg (by decide)]
theorem lp_Mev1 {N C w l : Nat} {V E : Int32} {k : Int32 → jMem → Option (Int32 × jMem)} {m : jMem} (h30 : N ≤ 30) (rh : RH N m) (rc : RC N C m) (hw : w < 6) (hl : l < N) : ∀ (d n i : Nat), i + d = l → d < n → lp_M_ever_50 (nI w) (nI l) V k n (if exS (fun x => bt V x && evQ (m 74 w) (owS m w C) E x) i = true then E ||| sb l else E) (nI i) m = k (if exS (fun x => bt V x && evQ (m 74 w) (owS m w C) E x) l = true then E ||| sb l else E) m := by
  intro d
  induction d with
  | zero =>
    intro n i h hn
    obtain ⟨n, rfl⟩ := ex_succ hn
    rw [show i = l by omega]
    unfold lp_M_ever_50
    simp (disch := omega) only [lits, negs, nI_add, nn1, leT, leF, ltT, ltF, eqF, mF1, mF2, mF3, mF4, mF5, mF6, mTT, eq_self, Nat.reduceEqDiff, ↓reduceIte, jbd_s, jpu_e, tI0, tI1, jgd_tI, jgd_bb, tfF, ftF, jup_at, jup_oc, jup_ok]
  | succ d ih =>
    intro n i h hn
    obtain ⟨n, rfl⟩ := ex_succ hn
    have e := ih n (i + 1) (by omega) (by omega)
    rw [exS_succ] at e
    generalize hb : exS (fun x => bt V x && evQ (m 74 w) (owS m w C) E x) i = b at e ⊢
    have hbt := or_sb_b (E := E) (by omega : i < l) (by omega : l < 32) b
    have h2 := or_sb_2 (E := E) (l := l) b
    generalize hA : (if b = true then E ||| sb l else E) = A at e hbt h2 ⊢
    have hcm := b_owS (m := m) (w := w) h30 (by omega : i < N) (C := C) (fun c hc => (rc.2.2.2.2 c hc).1)
    have ec := e_coming (w := w) (l := i) rc
    unfold lp_M_ever_50
    cases hv : bt V i
    · simp only [hv, Bool.false_and, Bool.or_false, hA] at e
      simp (disch := omega) only [lits, negs, nI_add, nn1, leT, leF, ltT, ltF, eqF, mF1, mF2, mF3, mF4, mF5, mF6, mTT, eq_self, Nat.reduceEqDiff, ↓reduceIte, jbd_s, jpu_e, tI0, tI1, jgd_tI, jgd_bb, tfF, ftF, jup_at, jup_oc, jup_ok, bit0, hv]
      exact e
    · simp only [hv, Bool.true_and] at e
      rcases RH_place h30 rh hw (by omega : i < 32) with ⟨g1, g2⟩ | ⟨g1, k0, c, g3, g4, g5, g6, g7, g2⟩
      · rw [evQ_f g1, hcm] at e
        cases hc : exS (cmP m w i) C
        · rw [hc] at ec
          rw [hc, Bool.not_false, Bool.or_true, if_pos rfl] at e
          simp (disch := omega) only [lits, negs, nI_add, nn1, leT, leF, ltT, ltF, eqF, mF1, mF2, mF3, mF4, mF5, mF6, mTT, eq_self, Nat.reduceEqDiff, ↓reduceIte, jbd_s, jpu_e, tI0, tI1, jgd_tI, jgd_bb, tfF, ftF, jup_at, jup_oc, jup_ok, bit0, hv, g2, ec, tI_f, sb_e, h2]
          exact e
        · rw [hc] at ec
          rw [hc, Bool.not_true, Bool.or_false, hA] at e
          simp (disch := omega) only [lits, negs, nI_add, nn1, leT, leF, ltT, ltF, eqF, mF1, mF2, mF3, mF4, mF5, mF6, mTT, eq_self, Nat.reduceEqDiff, ↓reduceIte, jbd_s, jpu_e, tI0, tI1, jgd_tI, jgd_bb, tfF, ftF, jup_at, jup_oc, jup_ok, bit0, hv, g2, ec, tI_t]
          exact e
      · rw [evQ_t g1] at e
        cases he : bt E i
        · rw [he, Bool.or_false, hA] at e
          simp (disch := omega) only [lits, negs, nI_add, nn1, leT, leF, ltT, ltF, eqF, mF1, mF2, mF3, mF4, mF5, mF6, mTT, eq_self, Nat.reduceEqDiff, ↓reduceIte, jbd_s, jpu_e, tI0, tI1, jgd_tI, jgd_bb, tfF, ftF, jup_at, jup_oc, jup_ok, bit0, bit1, hv, g2, hbt, he]
          exact e
        · rw [he, Bool.or_true, if_pos rfl] at e
          simp (disch := omega) only [lits, negs, nI_add, nn1, leT, leF, ltT, ltF, eqF, mF1, mF2, mF3, mF4, mF5, mF6, mTT, eq_self, Nat.reduceEqDiff, ↓reduceIte, jbd_s, jpu_e, tI0, tI1, jgd_tI, jgd_bb, tfF, ftF, jup_at, jup_oc, jup_ok, bit0, bit1, hv, g2, hbt, he, sb_e, h2]
          exact e
theorem lp_Mev2 {N C w r : Nat} {k : Int32 → jMem → Option (Int32 × jMem)} {m : jMem} (rl : RL N m) (rh : RH N m) (rc : RC N C m) (hw : w < 6) (hr4 : r ≤ 4) (hr : m 116 w = nI r) : ∀ (d n i : Nat), i + d = N → d < n → lp_M_ever_18 (nI w) k n (evS (fun l => setS (wtP m r w l) l) (m 74 w) (owS m w C) i) (nI i) m = k (evS (fun l => setS (wtP m r w l) l) (m 74 w) (owS m w C) N) m := by
  have h30 := rl.1
  have hM := rl.2.2.1
  intro d
  induction d with
  | zero =>
    intro n i h hn
    obtain ⟨n, rfl⟩ := ex_succ hn
    rw [show i = N by omega]
    unfold lp_M_ever_18
    simp (disch := omega) only [lits, negs, nI_add, nn1, leT, leF, ltT, ltF, eqF, mF1, mF2, mF3, mF4, mF5, mF6, mTT, eq_self, Nat.reduceEqDiff, ↓reduceIte, jbd_s, jpu_e, tI0, tI1, jgd_tI, jgd_bb, tfF, ftF, jup_at, jup_oc, jup_ok, hM]
  | succ d ih =>
    intro n i h hn
    obtain ⟨n, rfl⟩ := ex_succ hn
    have e := ih n (i + 1) (by omega) (by omega)
    rw [evS_s] at e
    generalize hE : evS (fun l => setS (wtP m r w l) l) (m 74 w) (owS m w C) i = E at e ⊢
    unfold lp_M_ever_18
    rcases RH_place h30 rh hw (by omega : i < 32) with ⟨g1, g2⟩ | ⟨g1, k0, c, g3, g4, g5, g6, g7, g2⟩
    · rw [g1, Bool.false_and, if_neg (by decide)] at e
      simp (disch := omega) only [lits, negs, nI_add, nn1, leT, leF, ltT, ltF, eqF, mF1, mF2, mF3, mF4, mF5, mF6, mTT, eq_self, Nat.reduceEqDiff, ↓reduceIte, jbd_s, jpu_e, tI0, tI1, jgd_tI, jgd_bb, tfF, ftF, jup_at, jup_oc, jup_ok, hM, g2]
      exact e
    · rw [g1, Bool.true_and] at e
      have ew := e_Mwaits hw (by omega : i < 30) hr4 hr
      have e1 := lp_Mev1 (V := setS (wtP m r w i) i) (E := E) (k := fun w15 m14 => lp_M_ever_18 (nI w) k n w15 (nI (i + 1)) m14) h30 rh rc hw (by omega : i < N) i 5000 0 (by omega) (by omega)
      simp (disch := omega) only [lits, negs, nI_add, nn1, leT, leF, ltT, ltF, eqF, mF1, mF2, mF3, mF4, mF5, mF6, mTT, eq_self, Nat.reduceEqDiff, ↓reduceIte, jbd_s, jpu_e, tI0, tI1, jgd_tI, jgd_bb, tfF, ftF, jup_at, jup_oc, jup_ok, hM, g2, ew]
      exact e1.trans e
theorem e_ever {N C w rr : Nat} {m : jMem} (rl : RL N m) (rc : RC N C m) (rk : RK N m) (rx : RX m) (hw : w < 6) (r4 : rr ≤ 4) (r5 : m 116 w = nI rr) (r6 : (m 1 2).toNatClampNeg = 3 ∨ (m 1 2).toNatClampNeg = 12) (r7 : f_H_ruleOf (m 1 2).toNatClampNeg (nI w) m = some (1011 + rr, m)) : f_C_ever (nI w) m = some (evS (fun l => setS (wtP m rr w l) l) (m 74 w) (owS m w C) N, m) := by
  have h30 := rl.1
  have e9 := lp_ever (P := owS m w C) (k := fun w15 m14 => some (w15, m14)) rl rk rx hw r4 r5 r6 r7 N 5000 0 (by omega) (by omega)
  rw [show evS (fun l => setS (wtP m rr w l) l) (m 74 w) (owS m w C) 0 = nI 0 from rfl] at e9
  unfold f_C_ever
  simp only [lits, negs]
  rw [e_isWriter hw]
  simp only [jbd_s]
  rw [if_neg (by decide), ld_74 hw, e_onWay rc.2.1 rc.1]
  simp only [jbd_s]
  exact e9
theorem wtP_thr (m : jMem) (v : Int32) (rr w l : Nat) : wtP (jup m 109 0 v) rr w l = wtP m rr w l := by
  funext j
  unfold wtP isP
  rw [jup_oc (by omega), jup_oc (by omega), jup_oc (by omega), jup_oc (by omega), jup_oc (by omega), jup_oc (by omega)]
theorem owS_thr (m : jMem) (v : Int32) (w c : Nat) : owS (jup m 109 0 v) w c = owS m w c := by
  induction c with
  | zero => rfl
  | succ c ih => rw [owS_s, owS_s, ih, jup_oc (by omega), jup_oc (by omega), jup_oc (by omega)]
theorem e_Mever {N C w rr : Nat} {m : jMem} (rl : RL N m) (rc : RC N C m) (rh : RH N m) (hw : w < 6) (r4 : rr ≤ 4) (r5 : m 116 w = nI rr) : f_M_ever (nI w) m = some (evS (fun l => setS (wtP m rr w l) l) (m 74 w) (owS m w C) N, jup m 109 0 (nI 0)) := by
  have h30 := rl.1
  have e := lp_Mev2 (C := C) (k := fun w17 m16 => some (w17, m16)) (RL_scr (thr_scr m (nI 0)) rl) (RH_scr (thr_scr m (nI 0)) rh) (RC_scr (thr_scr m (nI 0)) rc) hw r4 (by rw [jup_oc (by omega)]; exact r5) N 5000 0 (by omega) (by omega)
  simp only [wtP_thr] at e
  rw [owS_thr, jup_oc (by omega)] at e
  rw [show evS (fun l => setS (wtP m rr w l) l) (m 74 w) (owS m w C) 0 = nI 0 from rfl] at e
  unfold f_M_ever
  simp (disch := omega) only [lits, negs, nI_add, nn1, leT, leF, ltT, ltF, eqF, mF1, mF2, mF3, mF4, mF5, mF6, mTT, eq_self, Nat.reduceEqDiff, ↓reduceIte, jbd_s, jpu_e, tI0, tI1, jgd_tI, jgd_bb, tfF, ftF, jup_at, jup_oc, jup_ok, e_MisWriter]
  exact e
theorem q_ever {N C : Nat} {m : jMem} (r : Rel N C m) (x : Int32) : Qst (f_C_ever x) (f_M_ever x) m := by
  rcases ixW x with hx | ⟨w, hw, rfl⟩
  · refine ⟨nM, m, jup m 109 0 (nI 0), ?_, ?_⟩
    · unfold f_C_ever
      simp (disch := omega) only [lits, negs, nI_add, nn1, leT, leF, ltT, ltF, eqF, mF1, mF2, mF3, mF4, mF5, mF6, mTT, eq_self, Nat.reduceEqDiff, ↓reduceIte, jbd_s, jpu_e, tI0, tI1, jgd_tI, jgd_bb, tfF, ftF, jup_at, jup_oc, jup_ok, e_isWriter_no hx]
    · unfold f_M_ever
      simp (disch := omega) only [lits, negs, nI_add, nn1, leT, leF, ltT, ltF, eqF, mF1, mF2, mF3, mF4, mF5, mF6, mTT, eq_self, Nat.reduceEqDiff, ↓reduceIte, jbd_s, jpu_e, tI0, tI1, jgd_tI, jgd_bb, tfF, ftF, jup_at, jup_oc, jup_ok, e_MisWriter_no hx]
  · obtain ⟨rr, r4, r5, r6, r7⟩ := RX_rule r.2.2.2.2.2.2.2.2.2.2 hw
    exact ⟨_, m, _, e_ever r.1 r.2.2.2.2.2.2.1 r.2.2.2.2.2.2.2.1 r.2.2.2.2.2.2.2.2.2.2 hw r4 r5 r6 r7, e_Mever r.1 r.2.2.2.2.2.2.1 r.2.2.2.2.2.2.2.2.1 hw r4 r5⟩
/-! fault, count -/
theorem q_fault {N C : Nat} {m : jMem} (r : Rel N C m) (x : Int32) : Qst (f_C_fault x) (f_M_fault x) m := by
  have rx := r.2.2.2.2.2.2.2.2.2.2
  obtain ⟨hb, hd, h0, h1, h2, h3, h4, -⟩ := rx
  refine ⟨if x = nI 0 then m 21 4 else if x = nI 1 then m 21 5 else nM, m, jup m 109 0 (nI 0), ?_, ?_⟩
  · unfold f_C_fault
    simp only [lits, negs]
    split
    · rfl
    · split <;> rfl
  · unfold f_M_fault
    simp (disch := omega) only [lits, negs, nI_add, nn1, leT, leF, ltT, ltF, eqF, mF1, mF2, mF3, mF4, mF5, mF6, mTT, eq_self, Nat.reduceEqDiff, ↓reduceIte, jbd_s, jpu_e, tI0, tI1, jgd_tI, jgd_bb, tfF, ftF, jup_at, jup_oc, jup_ok, h3, h4]
    split
    · rfl
    · split <;> rfl
theorem lp_allHeld {f : Nat → Nat} {k : Int32 → jMem → Option (Int32 × jMem)} {m : jMem} (hf : ∀ w, w < 6 → m 73 w = nI (f w)) : ∀ (d n i : Nat), i + d = 6 → d < n → lp_D_allHeld_4 k n (nI (fb_sm f i)) (nI i) m = k (nI (fb_sm f 6)) m := by
  intro d
  induction d with
  | zero =>
    intro n i hid hdn
    obtain ⟨n, rfl⟩ := ex_succ hdn
    rw [show i = 6 by omega]
    unfold lp_D_allHeld_4
    simp (disch := omega) only [lits, negs, nI_add, nn1, leT, leF, ltT, ltF, eqF, mF1, mF2, mF3, mF4, mF5, mF6, mTT, eq_self, Nat.reduceEqDiff, ↓reduceIte, jbd_s, jpu_e, tI0, tI1, jgd_tI, jgd_bb, tfF, ftF, jup_at, jup_oc, jup_ok]
  | succ d ih =>
    intro n i hid hdn
    obtain ⟨n, rfl⟩ := ex_succ hdn
    have e := ih n (i + 1) (by omega) (by omega)
    unfold lp_D_allHeld_4
    rw [fb_sm_succ] at e
    have h1 := hf i (by omega)
    simp (disch := omega) only [lits, negs, nI_add, nn1, leT, leF, ltT, ltF, eqF, mF1, mF2, mF3, mF4, mF5, mF6, mTT, eq_self, Nat.reduceEqDiff, ↓reduceIte, jbd_s, jpu_e, tI0, tI1, jgd_tI, jgd_bb, tfF, ftF, jup_at, jup_oc, jup_ok, ld_73, h1]
    exact e
theorem lp_MallHeld {f : Nat → Nat} {k : Int32 → jMem → Option (Int32 × jMem)} {m : jMem} (hf : ∀ w, w < 6 → m 138 w = nI (f w)) : ∀ (d n i : Nat), i + d = 6 → d < n → lp_M_count_116 k n (nI (fb_sm f i)) (nI i) m = k (nI (fb_sm f 6)) m := by
  intro d
  induction d with
  | zero =>
    intro n i hid hdn
    obtain ⟨n, rfl⟩ := ex_succ hdn
    rw [show i = 6 by omega]
    unfold lp_M_count_116
    simp (disch := omega) only [lits, negs, nI_add, nn1, leT, leF, ltT, ltF, eqF, mF1, mF2, mF3, mF4, mF5, mF6, mTT, eq_self, Nat.reduceEqDiff, ↓reduceIte, jbd_s, jpu_e, tI0, tI1, jgd_tI, jgd_bb, tfF, ftF, jup_at, jup_oc, jup_ok]
  | succ d ih =>
    intro n i hid hdn
    obtain ⟨n, rfl⟩ := ex_succ hdn
    have e := ih n (i + 1) (by omega) (by omega)
    unfold lp_M_count_116
    rw [fb_sm_succ] at e
    have h1 := hf i (by omega)
    simp (disch := omega) only [lits, negs, nI_add, nn1, leT, leF, ltT, ltF, eqF, mF1, mF2, mF3, mF4, mF5, mF6, mTT, eq_self, Nat.reduceEqDiff, ↓reduceIte, jbd_s, jpu_e, tI0, tI1, jgd_tI, jgd_bb, tfF, ftF, jup_at, jup_oc, jup_ok, ld_138, h1]
    exact e
theorem lp_allRead {k : Int32 → jMem → Option (Int32 × jMem)} {m : jMem} : ∀ (d n i : Nat), i + d = 6 → d < n → lp_D_allRead_4 k n (nI (fb_sm (fun w => pcnt (m 75 w)) i)) (nI i) m = k (nI (fb_sm (fun w => pcnt (m 75 w)) 6)) m := by
  intro d
  induction d with
  | zero =>
    intro n i hid hdn
    obtain ⟨n, rfl⟩ := ex_succ hdn
    rw [show i = 6 by omega]
    unfold lp_D_allRead_4
    simp (disch := omega) only [lits, negs, nI_add, nn1, leT, leF, ltT, ltF, eqF, mF1, mF2, mF3, mF4, mF5, mF6, mTT, eq_self, Nat.reduceEqDiff, ↓reduceIte, jbd_s, jpu_e, tI0, tI1, jgd_tI, jgd_bb, tfF, ftF, jup_at, jup_oc, jup_ok]
  | succ d ih =>
    intro n i hid hdn
    obtain ⟨n, rfl⟩ := ex_succ hdn
    have e := ih n (i + 1) (by omega) (by omega)
    unfold lp_D_allRead_4
    rw [fb_sm_succ] at e
    simp (disch := omega) only [lits, negs, nI_add, nn1, leT, leF, ltT, ltF, eqF, mF1, mF2, mF3, mF4, mF5, mF6, mTT, eq_self, Nat.reduceEqDiff, ↓reduceIte, jbd_s, jpu_e, tI0, tI1, jgd_tI, jgd_bb, tfF, ftF, jup_at, jup_oc, jup_ok, ld_75, e_bitCount]
    exact e
theorem lp_underWay {C : Nat} {k : Int32 → jMem → Option (Int32 × jMem)} {m : jMem} (hC : m 45 10 = nI C) (hC2 : C ≤ 150) : ∀ (d n i : Nat), i + d = C → d < n → lp_P_howManyUnderWay_4 k n (nI (fb_ct (fun c => decide (m 64 c = nI 0)) i)) (nI i) m = k (nI (fb_ct (fun c => decide (m 64 c = nI 0)) C)) m := by
  intro d
  induction d with
  | zero =>
    intro n i hid hdn
    obtain ⟨n, rfl⟩ := ex_succ hdn
    rw [show i = C by omega]
    unfold lp_P_howManyUnderWay_4
    simp (disch := omega) only [lits, negs, nI_add, nn1, leT, leF, ltT, ltF, eqF, mF1, mF2, mF3, mF4, mF5, mF6, mTT, eq_self, Nat.reduceEqDiff, ↓reduceIte, jbd_s, jpu_e, tI0, tI1, jgd_tI, jgd_bb, tfF, ftF, jup_at, jup_oc, jup_ok, hC]
  | succ d ih =>
    intro n i hid hdn
    obtain ⟨n, rfl⟩ := ex_succ hdn
    have e := ih n (i + 1) (by omega) (by omega)
    unfold lp_P_howManyUnderWay_4
    rw [fb_ct_succ] at e
    by_cases h1 : m 64 i = nI 0
    · rw [decide_eq_true h1, if_pos rfl] at e
      simp (disch := omega) only [lits, negs, nI_add, nn1, leT, leF, ltT, ltF, eqF, mF1, mF2, mF3, mF4, mF5, mF6, mTT, eq_self, Nat.reduceEqDiff, ↓reduceIte, jbd_s, jpu_e, tI0, tI1, jgd_tI, jgd_bb, tfF, ftF, jup_at, jup_oc, jup_ok, hC, ld_64, h1, e_truth1]
      exact e
    · rw [decide_eq_false h1, if_neg (by decide), Nat.add_zero] at e
      simp (disch := omega) only [lits, negs, nI_add, nn1, leT, leF, ltT, ltF, eqF, mF1, mF2, mF3, mF4, mF5, mF6, mTT, eq_self, Nat.reduceEqDiff, ↓reduceIte, jbd_s, jpu_e, tI0, tI1, jgd_tI, jgd_bb, tfF, ftF, jup_at, jup_oc, jup_ok, hC, ld_64]
      rw [if_neg h1]
      simp (disch := omega) only [lits, negs, nI_add, nn1, leT, leF, ltT, ltF, eqF, mF1, mF2, mF3, mF4, mF5, mF6, mTT, eq_self, Nat.reduceEqDiff, ↓reduceIte, jbd_s, jpu_e, tI0, tI1, jgd_tI, jgd_bb, tfF, ftF, jup_at, jup_oc, jup_ok, e_truth0, Nat.add_zero]
      exact e
theorem lp_MunderWay {C : Nat} {k : Int32 → jMem → Option (Int32 × jMem)} {m : jMem} (hC : m 109 44 = nI C) (hC2 : C ≤ 150) : ∀ (d n i : Nat), i + d = C → d < n → lp_M_count_81 k n (nI (fb_ct (fun c => decide (m 134 c = nI 0)) i)) (nI i) m = k (nI (fb_ct (fun c => decide (m 134 c = nI 0)) C)) m := by
  intro d
  induction d with
  | zero =>
    intro n i hid hdn
    obtain ⟨n, rfl⟩ := ex_succ hdn
    rw [show i = C by omega]
    unfold lp_M_count_81
    simp (disch := omega) only [lits, negs, nI_add, nn1, leT, leF, ltT, ltF, eqF, mF1, mF2, mF3, mF4, mF5, mF6, mTT, eq_self, Nat.reduceEqDiff, ↓reduceIte, jbd_s, jpu_e, tI0, tI1, jgd_tI, jgd_bb, tfF, ftF, jup_at, jup_oc, jup_ok, hC]
  | succ d ih =>
    intro n i hid hdn
    obtain ⟨n, rfl⟩ := ex_succ hdn
    have e := ih n (i + 1) (by omega) (by omega)
    unfold lp_M_count_81
    rw [fb_ct_succ] at e
    by_cases h1 : m 134 i = nI 0
    · rw [decide_eq_true h1, if_pos rfl] at e
      simp (disch := omega) only [lits, negs, nI_add, nn1, leT, leF, ltT, ltF, eqF, mF1, mF2, mF3, mF4, mF5, mF6, mTT, eq_self, Nat.reduceEqDiff, ↓reduceIte, jbd_s, jpu_e, tI0, tI1, jgd_tI, jgd_bb, tfF, ftF, jup_at, jup_oc, jup_ok, hC, ld_134, h1]
      exact e
    · rw [decide_eq_false h1, if_neg (by decide), Nat.add_zero] at e
      simp (disch := omega) only [lits, negs, nI_add, nn1, leT, leF, ltT, ltF, eqF, mF1, mF2, mF3, mF4, mF5, mF6, mTT, eq_self, Nat.reduceEqDiff, ↓reduceIte, jbd_s, jpu_e, tI0, tI1, jgd_tI, jgd_bb, tfF, ftF, jup_at, jup_oc, jup_ok, hC, ld_134, Nat.add_zero]
      rw [if_neg h1]
      exact e
theorem q_count {N C : Nat} {m : jMem} (r : Rel N C m) (x : Int32) : Qst (f_C_count x) (f_M_count x) m := by
  have rl := r.1
  have h30 := rl.1
  have hN := rl.2.1
  have hM := rl.2.2.1
  obtain ⟨b, b1, b2, -, -⟩ := r.2.1
  obtain ⟨d, hd, t1, t2⟩ := r.2.2.2.1
  obtain ⟨hC, c1, c2, ⟨-, -, -, -, c7⟩, -⟩ := r.2.2.2.2.2.2.1
  obtain ⟨-, k2⟩ := r.2.2.2.2.2.2.2.1
  have rh := r.2.2.2.2.2.2.2.2.1
  obtain ⟨p, hp, p1, p2, -⟩ := r.2.2.2.2.2.2.2.2.2.1
  obtain ⟨hb, hdd, x0, x1, x2, x3, x4, x5, -, H, x6, x7, x8, -⟩ := r.2.2.2.2.2.2.2.2.2.2
  have xe : (m 1 2).toNatClampNeg = hb := by rw [x1]; exact nI_clamp (by omega)
  have xh : hb = 3 ∨ hb = 12 := by omega
  have hf : ∀ w, w < 6 → m 73 w = nI ((m 73 w).toNatClampNeg) ∧ m 138 w = nI ((m 73 w).toNatClampNeg) := fun w hw => by
    obtain ⟨c, hc, e1, e2, -⟩ := rh w hw
    rw [e1, nI_clamp (by omega)]
    exact ⟨rfl, e2⟩
  rcases ixN x (n := 10) (by omega) with hx | ⟨a, ha, rfl⟩
  · have hne : ∀ k, k < 10 → ¬ x = nI k := fun k hk q => by
      subst q
      rcases hx with h | h
      · exact nI_pos (by omega) h
      · exact nI_ge hk (by omega) h
    refine ⟨nM, m, jup m 109 0 (nI 0), ?_, ?_⟩
    · unfold f_C_count
      simp (disch := omega) only [lits, negs, nI_add, nn1, leT, leF, ltT, ltF, eqF, mF1, mF2, mF3, mF4, mF5, mF6, mTT, eq_self, Nat.reduceEqDiff, ↓reduceIte, jbd_s, jpu_e, tI0, tI1, jgd_tI, jgd_bb, tfF, ftF, jup_at, jup_oc, jup_ok, hne 0 (by omega), hne 1 (by omega), hne 2 (by omega), hne 3 (by omega), hne 4 (by omega), hne 5 (by omega), hne 6 (by omega), hne 7 (by omega), hne 8 (by omega), hne 9 (by omega)]
    · unfold f_M_count
      simp (disch := omega) only [lits, negs, nI_add, nn1, leT, leF, ltT, ltF, eqF, mF1, mF2, mF3, mF4, mF5, mF6, mTT, eq_self, Nat.reduceEqDiff, ↓reduceIte, jbd_s, jpu_e, tI0, tI1, jgd_tI, jgd_bb, tfF, ftF, jup_at, jup_oc, jup_ok, hne 0 (by omega), hne 1 (by omega), hne 2 (by omega), hne 3 (by omega), hne 4 (by omega), hne 5 (by omega), hne 6 (by omega), hne 7 (by omega), hne 8 (by omega), hne 9 (by omega)]
  · rcases (by omega : a = 0 ∨ a = 1 ∨ a = 2 ∨ a = 3 ∨ a = 4 ∨ a = 5 ∨ a = 6 ∨ a = 7 ∨ a = 8 ∨ a = 9) with rfl | rfl | rfl | rfl | rfl | rfl | rfl | rfl | rfl | rfl
    · refine ⟨nI d, m, jup m 109 0 (nI 0), ?_, ?_⟩
      · unfold f_C_count
        simp (disch := omega) only [lits, negs, nI_add, nn1, leT, leF, ltT, ltF, eqF, mF1, mF2, mF3, mF4, mF5, mF6, mTT, eq_self, Nat.reduceEqDiff, ↓reduceIte, jbd_s, jpu_e, tI0, tI1, jgd_tI, jgd_bb, tfF, ftF, jup_at, jup_oc, jup_ok, t1]
      · unfold f_M_count
        simp (disch := omega) only [lits, negs, nI_add, nn1, leT, leF, ltT, ltF, eqF, mF1, mF2, mF3, mF4, mF5, mF6, mTT, eq_self, Nat.reduceEqDiff, ↓reduceIte, jbd_s, jpu_e, tI0, tI1, jgd_tI, jgd_bb, tfF, ftF, jup_at, jup_oc, jup_ok, t2]
    · refine ⟨nI N, m, jup m 109 0 (nI 0), ?_, ?_⟩
      · unfold f_C_count
        simp (disch := omega) only [lits, negs, nI_add, nn1, leT, leF, ltT, ltF, eqF, mF1, mF2, mF3, mF4, mF5, mF6, mTT, eq_self, Nat.reduceEqDiff, ↓reduceIte, jbd_s, jpu_e, tI0, tI1, jgd_tI, jgd_bb, tfF, ftF, jup_at, jup_oc, jup_ok, hN]
      · unfold f_M_count
        simp (disch := omega) only [lits, negs, nI_add, nn1, leT, leF, ltT, ltF, eqF, mF1, mF2, mF3, mF4, mF5, mF6, mTT, eq_self, Nat.reduceEqDiff, ↓reduceIte, jbd_s, jpu_e, tI0, tI1, jgd_tI, jgd_bb, tfF, ftF, jup_at, jup_oc, jup_ok, hM]
    · refine ⟨nI C, m, jup m 109 0 (nI 0), ?_, ?_⟩
      · unfold f_C_count
        simp (disch := omega) only [lits, negs, nI_add, nn1, leT, leF, ltT, ltF, eqF, mF1, mF2, mF3, mF4, mF5, mF6, mTT, eq_self, Nat.reduceEqDiff, ↓reduceIte, jbd_s, jpu_e, tI0, tI1, jgd_tI, jgd_bb, tfF, ftF, jup_at, jup_oc, jup_ok, c1]
      · unfold f_M_count
        simp (disch := omega) only [lits, negs, nI_add, nn1, leT, leF, ltT, ltF, eqF, mF1, mF2, mF3, mF4, mF5, mF6, mTT, eq_self, Nat.reduceEqDiff, ↓reduceIte, jbd_s, jpu_e, tI0, tI1, jgd_tI, jgd_bb, tfF, ftF, jup_at, jup_oc, jup_ok, c2]
    · refine ⟨nI (fb_ct (fun c => decide (m 64 c = nI 0)) C), m, jup m 109 0 (nI 0), ?_, ?_⟩
      · have e := lp_underWay (k := fun w7 m6 => some (w7, m6)) c1 hC C 5000 0 (by omega) (by omega)
        rw [show fb_ct (fun c => decide (m 64 c = nI 0)) 0 = 0 from rfl] at e
        unfold f_C_count f_P_howManyUnderWay
        simp (disch := omega) only [lits, negs, nI_add, nn1, leT, leF, ltT, ltF, eqF, mF1, mF2, mF3, mF4, mF5, mF6, mTT, eq_self, Nat.reduceEqDiff, ↓reduceIte, jbd_s, jpu_e, tI0, tI1, jgd_tI, jgd_bb, tfF, ftF, jup_at, jup_oc, jup_ok, e]
      · have e := lp_MunderWay (k := fun w7 m6 => some (w7, m6)) (m := jup m 109 0 (nI 0)) (by rw [jup_ok (by omega)]; exact c2) hC C 5000 0 (by omega) (by omega)
        rw [jup_oc (c' := 134) (by omega), c7] at e
        rw [show fb_ct (fun c => decide (m 64 c = nI 0)) 0 = 0 from rfl] at e
        unfold f_M_count
        simp (disch := omega) only [lits, negs, nI_add, nn1, leT, leF, ltT, ltF, eqF, mF1, mF2, mF3, mF4, mF5, mF6, mTT, eq_self, Nat.reduceEqDiff, ↓reduceIte, jbd_s, jpu_e, tI0, tI1, jgd_tI, jgd_bb, tfF, ftF, jup_at, jup_oc, jup_ok]
        exact e
    · refine ⟨nI (fb_sm (fun w => (m 73 w).toNatClampNeg) 6), m, jup m 109 0 (nI 0), ?_, ?_⟩
      · have e := lp_allHeld (f := fun w => (m 73 w).toNatClampNeg) (k := fun w7 m6 => some (w7, m6)) (m := m) (fun w hw => (hf w hw).1) 6 5000 0 (by omega) (by omega)
        rw [show fb_sm (fun w => (m 73 w).toNatClampNeg) 0 = 0 from rfl] at e
        unfold f_C_count f_D_allHeld
        simp (disch := omega) only [lits, negs, nI_add, nn1, leT, leF, ltT, ltF, eqF, mF1, mF2, mF3, mF4, mF5, mF6, mTT, eq_self, Nat.reduceEqDiff, ↓reduceIte, jbd_s, jpu_e, tI0, tI1, jgd_tI, jgd_bb, tfF, ftF, jup_at, jup_oc, jup_ok, e]
      · have e := lp_MallHeld (f := fun w => (m 73 w).toNatClampNeg) (k := fun w7 m6 => some (w7, m6)) (m := jup m 109 0 (nI 0)) (fun w hw => by rw [jup_oc (by omega)]; exact (hf w hw).2) 6 5000 0 (by omega) (by omega)
        rw [show fb_sm (fun w => (m 73 w).toNatClampNeg) 0 = 0 from rfl] at e
        unfold f_M_count
        simp (disch := omega) only [lits, negs, nI_add, nn1, leT, leF, ltT, ltF, eqF, mF1, mF2, mF3, mF4, mF5, mF6, mTT, eq_self, Nat.reduceEqDiff, ↓reduceIte, jbd_s, jpu_e, tI0, tI1, jgd_tI, jgd_bb, tfF, ftF, jup_at, jup_oc, jup_ok]
        exact e
    · refine ⟨nI (fb_sm (fun w => pcnt (m 75 w)) 6), m, jup m 109 0 (nI 0), ?_, ?_⟩
      · have e := lp_allRead (k := fun w7 m6 => some (w7, m6)) (m := m) 6 5000 0 (by omega) (by omega)
        rw [show fb_sm (fun w => pcnt (m 75 w)) 0 = 0 from rfl] at e
        unfold f_C_count f_D_allRead
        simp (disch := omega) only [lits, negs, nI_add, nn1, leT, leF, ltT, ltF, eqF, mF1, mF2, mF3, mF4, mF5, mF6, mTT, eq_self, Nat.reduceEqDiff, ↓reduceIte, jbd_s, jpu_e, tI0, tI1, jgd_tI, jgd_bb, tfF, ftF, jup_at, jup_oc, jup_ok, e]
      · unfold f_M_count
        simp (disch := omega) only [lits, negs, nI_add, nn1, leT, leF, ltT, ltF, eqF, mF1, mF2, mF3, mF4, mF5, mF6, mTT, eq_self, Nat.reduceEqDiff, ↓reduceIte, jbd_s, jpu_e, tI0, tI1, jgd_tI, jgd_bb, tfF, ftF, jup_at, jup_oc, jup_ok, k2]
    · refine ⟨nI (pcnt (m 29 16)), m, jup m 109 0 (nI 0), ?_, ?_⟩
      · unfold f_C_count
        simp (disch := omega) only [lits, negs, nI_add, nn1, leT, leF, ltT, ltF, eqF, mF1, mF2, mF3, mF4, mF5, mF6, mTT, eq_self, Nat.reduceEqDiff, ↓reduceIte, jbd_s, jpu_e, tI0, tI1, jgd_tI, jgd_bb, tfF, ftF, jup_at, jup_oc, jup_ok, e_bitCount]
      · unfold f_M_count
        simp (disch := omega) only [lits, negs, nI_add, nn1, leT, leF, ltT, ltF, eqF, mF1, mF2, mF3, mF4, mF5, mF6, mTT, eq_self, Nat.reduceEqDiff, ↓reduceIte, jbd_s, jpu_e, tI0, tI1, jgd_tI, jgd_bb, tfF, ftF, jup_at, jup_oc, jup_ok, hM, b1]
        rw [pk_sub (by omega)]
        rw [show N - b = pcnt (m 29 16) by omega]
    · refine ⟨nI H, m, jup m 109 0 (nI 0), ?_, ?_⟩
      · unfold f_C_count
        simp (disch := omega) only [lits, negs, nI_add, nn1, leT, leF, ltT, ltF, eqF, mF1, mF2, mF3, mF4, mF5, mF6, mTT, eq_self, Nat.reduceEqDiff, ↓reduceIte, jbd_s, jpu_e, tI0, tI1, jgd_tI, jgd_bb, tfF, ftF, jup_at, jup_oc, jup_ok, xe, jgd_hok xh, x7]
      · unfold f_M_count
        simp (disch := omega) only [lits, negs, nI_add, nn1, leT, leF, ltT, ltF, eqF, mF1, mF2, mF3, mF4, mF5, mF6, mTT, eq_self, Nat.reduceEqDiff, ↓reduceIte, jbd_s, jpu_e, tI0, tI1, jgd_tI, jgd_bb, tfF, ftF, jup_at, jup_oc, jup_ok, x8]
    · refine ⟨m hb 11, m, jup m 109 0 (nI 0), ?_, ?_⟩
      · unfold f_C_count
        simp (disch := omega) only [lits, negs, nI_add, nn1, leT, leF, ltT, ltF, eqF, mF1, mF2, mF3, mF4, mF5, mF6, mTT, eq_self, Nat.reduceEqDiff, ↓reduceIte, jbd_s, jpu_e, tI0, tI1, jgd_tI, jgd_bb, tfF, ftF, jup_at, jup_oc, jup_ok, xe, jgd_hok xh]
      · unfold f_M_count
        simp (disch := omega) only [lits, negs, nI_add, nn1, leT, leF, ltT, ltF, eqF, mF1, mF2, mF3, mF4, mF5, mF6, mTT, eq_self, Nat.reduceEqDiff, ↓reduceIte, jbd_s, jpu_e, tI0, tI1, jgd_tI, jgd_bb, tfF, ftF, jup_at, jup_oc, jup_ok, x5]
    · refine ⟨nI p, m, jup m 109 0 (nI 0), ?_, ?_⟩
      · unfold f_C_count
        simp (disch := omega) only [lits, negs, nI_add, nn1, leT, leF, ltT, ltF, eqF, mF1, mF2, mF3, mF4, mF5, mF6, mTT, eq_self, Nat.reduceEqDiff, ↓reduceIte, jbd_s, jpu_e, tI0, tI1, jgd_tI, jgd_bb, tfF, ftF, jup_at, jup_oc, jup_ok, p1]
      · unfold f_M_count
        simp (disch := omega) only [lits, negs, nI_add, nn1, leT, leF, ltT, ltF, eqF, mF1, mF2, mF3, mF4, mF5, mF6, mTT, eq_self, Nat.reduceEqDiff, ↓reduceIte, jbd_s, jpu_e, tI0, tI1, jgd_tI, jgd_bb, tfF, ftF, jup_at, jup_oc, jup_ok, p2]
