/-! way -/
def M54 (L : Nat → Nat → Nat) (m : jMem) : Prop := ∀ a, a < 6 → ∀ b, b < 6 → m (54 + a) b = nI (L a b)
def fr54 (m m' : jMem) : Prop := ∀ c, (c < 54 ∨ 59 < c) → m' c = m c
theorem lp_sh1 {kk u : Nat} {L : Nat → Nat → Nat} {k : jMem → Option (Unit × jMem)} (hk : kk < 6) (hu : u < 6) (hL : ∀ a b, a < 6 → b < 6 → L a b ≤ 30) : ∀ (d n i : Nat) (m : jMem), i + d = 6 → d < n → M54 (fl1 kk u L i) m → ∃ m', lp_P_shortenBy_10 (nI kk) (nI u) k n (nI i) m = k m' ∧ fr54 m m' ∧ M54 (fl1 kk u L 6) m' := by
  intro d
  induction d with
  | zero =>
    intro n i m h hn r
    obtain ⟨n, rfl⟩ := ex_succ hn
    have e : i = 6 := by omega
    subst e
    refine ⟨m, ?_, fun _ _ => rfl, r⟩
    unfold lp_P_shortenBy_10
    simp (disch := omega) only [lits, negs, nI_add, nn1, leT, leF, ltT, ltF, eqF, mF1, mF2, mF3, mF4, mF5, mF6, mTT, eq_self, Nat.reduceEqDiff, ↓reduceIte, jbd_s, jpu_e, tI0, tI1, jgd_tI, jgd_bb, tfF, ftF, jup_at, jup_oc, jup_ok]
  | succ d ih =>
    intro n i m h hn r
    obtain ⟨n, rfl⟩ := ex_succ hn
    have hi : i < 6 := by omega
    have l1 := fl1_le (k := kk) (u := u) hL i u i hu hi
    have l2 := fl1_le (k := kk) (u := u) hL i u kk hu hk
    have l3 := fl1_le (k := kk) (u := u) hL i kk i hk hi
    obtain ⟨m', e, f, g⟩ := ih n (i + 1) (jup m (54 + u) i (nI (min (fl1 kk u L i u i) (fl1 kk u L i u kk + fl1 kk u L i kk i)))) (by omega) (by omega) (by
      intro a ha b hb
      rw [fl1_at]
      show _ = nI (if a = u ∧ b = i then _ else _)
      by_cases q : a = u ∧ b = i
      · rw [if_pos q, q.1, q.2, jup_at]
      · rw [if_neg q]
        have e9 : jup m (54 + u) i (nI (min (fl1 kk u L i u i) (fl1 kk u L i u kk + fl1 kk u L i kk i))) (54 + a) b = m (54 + a) b := if_neg (by omega)
        rw [e9]
        exact r a ha b hb)
    refine ⟨m', ?_, fun c hc => by rw [f c hc, jup_oc (by omega)], g⟩
    unfold lp_P_shortenBy_10
    simp only [lits, negs]
    simp (disch := omega) only [lits, negs, nI_add, nn1, leT, leF, ltT, ltF, eqF, mF1, mF2, mF3, mF4, mF5, mF6, mTT, eq_self, Nat.reduceEqDiff, ↓reduceIte, ↓jbd_s, ↓jpu_e, tI0, tI1, jgd_tI, jgd_bb, tfF, ftF, jup_at, jup_oc, jup_ok, ↓l3_53, ↓ldr_53, ↓str_53, r u hu i hi, r u hu kk hk, r kk hk i hi, jmin_nI]
    exact e
theorem lp_sh2 {kk : Nat} {L : Nat → Nat → Nat} {k : jMem → Option (Unit × jMem)} (hk : kk < 6) (hL : ∀ a b, a < 6 → b < 6 → L a b ≤ 30) : ∀ (d n i : Nat) (m : jMem), i + d = 6 → d < n → M54 (fl2 kk L i) m → ∃ m', lp_P_shortenBy_2 (nI kk) k n (nI i) m = k m' ∧ fr54 m m' ∧ M54 (fl2 kk L 6) m' := by
  intro d
  induction d with
  | zero =>
    intro n i m h hn r
    obtain ⟨n, rfl⟩ := ex_succ hn
    have e : i = 6 := by omega
    subst e
    refine ⟨m, ?_, fun _ _ => rfl, r⟩
    unfold lp_P_shortenBy_2
    simp (disch := omega) only [lits, negs, nI_add, nn1, leT, leF, ltT, ltF, eqF, mF1, mF2, mF3, mF4, mF5, mF6, mTT, eq_self, Nat.reduceEqDiff, ↓reduceIte, jbd_s, jpu_e, tI0, tI1, jgd_tI, jgd_bb, tfF, ftF, jup_at, jup_oc, jup_ok]
  | succ d ih =>
    intro n i m h hn r
    obtain ⟨n, rfl⟩ := ex_succ hn
    obtain ⟨m1, e1, f1, g1⟩ := lp_sh1 (kk := kk) (u := i) (L := fl2 kk L i) (k := fun m8 => lp_P_shortenBy_2 (nI kk) k n (nI (i + 1)) m8) hk (by omega) (fl2_le hL i) 6 5000 0 m (by omega) (by omega) r
    obtain ⟨m', e, f, g⟩ := ih n (i + 1) m1 (by omega) (by omega) g1
    refine ⟨m', ?_, fun c hc => by rw [f c hc, f1 c hc], g⟩
    unfold lp_P_shortenBy_2
    simp (disch := omega) only [lits, negs, nI_add, nn1, leT, leF, ltT, ltF, eqF, mF1, mF2, mF3, mF4, mF5, mF6, mTT, eq_self, Nat.reduceEqDiff, ↓reduceIte, jbd_s, jpu_e, tI0, tI1, jgd_tI, jgd_bb, tfF, ftF, jup_at, jup_oc, jup_ok]
    exact e1.trans e
theorem e_short {kk : Nat} {L : Nat → Nat → Nat} {m : jMem} (hk : kk < 6) (hL : ∀ a b, a < 6 → b < 6 → L a b ≤ 30) (r : M54 L m) : ∃ m', f_P_shortenBy (nI kk) m = some ((), m') ∧ fr54 m m' ∧ M54 (fl2 kk L 6) m' := by
  obtain ⟨m', e, f, g⟩ := lp_sh2 (k := fun m10 => some ((), m10)) hk hL 6 5000 0 m (by omega) (by omega) r
  refine ⟨m', ?_, f, g⟩
  unfold f_P_shortenBy
  simp only [lits]
  exact e
theorem lp_sw2 {L : Nat → Nat → Nat} {k : jMem → Option (Unit × jMem)} (hL : ∀ a b, a < 6 → b < 6 → L a b ≤ 30) : ∀ (d n i : Nat) (m : jMem), i + d = 6 → d < n → M54 (fl3 L i) m → ∃ m', lp_P_setWay_58 k n (nI i) m = k m' ∧ fr54 m m' ∧ M54 (fl3 L 6) m' := by
  intro d
  induction d with
  | zero =>
    intro n i m h hn r
    obtain ⟨n, rfl⟩ := ex_succ hn
    have e : i = 6 := by omega
    subst e
    refine ⟨m, ?_, fun _ _ => rfl, r⟩
    unfold lp_P_setWay_58
    simp (disch := omega) only [lits, negs, nI_add, nn1, leT, leF, ltT, ltF, eqF, mF1, mF2, mF3, mF4, mF5, mF6, mTT, eq_self, Nat.reduceEqDiff, ↓reduceIte, jbd_s, jpu_e, tI0, tI1, jgd_tI, jgd_bb, tfF, ftF, jup_at, jup_oc, jup_ok]
  | succ d ih =>
    intro n i m h hn r
    obtain ⟨n, rfl⟩ := ex_succ hn
    obtain ⟨m1, e1, f1, g1⟩ := e_short (kk := i) (by omega) (fl3_le hL i) r
    obtain ⟨m', e, f, g⟩ := ih n (i + 1) m1 (by omega) (by omega) g1
    refine ⟨m', ?_, fun c hc => by rw [f c hc, f1 c hc], g⟩
    unfold lp_P_setWay_58
    simp (disch := omega) only [lits, negs, nI_add, nn1, leT, leF, ltT, ltF, eqF, mF1, mF2, mF3, mF4, mF5, mF6, mTT, eq_self, Nat.reduceEqDiff, ↓reduceIte, jbd_s, jpu_e, tI0, tI1, jgd_tI, jgd_bb, tfF, ftF, jup_at, jup_oc, jup_ok, e1]
    exact e
theorem jtg47 : ∀ u, u < 6 → jtag (47 + u) = 1 ∧ jtag (54 + u) = 1 := by decide +kernel
theorem lp_sw1 {k : jMem → Option (Unit × jMem)} : ∀ (d n i : Nat) (m : jMem), i + d = 6 → d < n → (∀ u, u < i → ∀ b, b < 6 → m (54 + u) b = m (47 + u) b) → ∃ m', lp_P_setWay_21 k n (nI i) m = k m' ∧ fr54 m m' ∧ ∀ u, u < 6 → ∀ b, b < 6 → m' (54 + u) b = m' (47 + u) b := by
  intro d
  induction d with
  | zero =>
    intro n i m h hn r
    obtain ⟨n, rfl⟩ := ex_succ hn
    have e : i = 6 := by omega
    subst e
    refine ⟨m, ?_, fun _ _ => rfl, r⟩
    unfold lp_P_setWay_21
    simp (disch := omega) only [lits, negs, nI_add, nn1, leT, leF, ltT, ltF, eqF, mF1, mF2, mF3, mF4, mF5, mF6, mTT, eq_self, Nat.reduceEqDiff, ↓reduceIte, jbd_s, jpu_e, tI0, tI1, jgd_tI, jgd_bb, tfF, ftF, jup_at, jup_oc, jup_ok]
  | succ d ih =>
    intro n i m h hn r
    obtain ⟨n, rfl⟩ := ex_succ hn
    have hi : i < 6 := by omega
    have c0 : (nI 0).toNatClampNeg = 0 := nI_clamp (by omega)
    have c6 : (nI 6).toNatClampNeg = 6 := nI_clamp (by omega)
    have hrow : ∀ c, c ≠ 54 + i → jcpM m (47 + i) (nI 0) (54 + i) (nI 0) (nI 6) c = m c := fun c hc => if_neg hc
    have hcp : ∀ b, b < 6 → jcpM m (47 + i) (nI 0) (54 + i) (nI 0) (nI 6) (54 + i) b = m (47 + i) b := fun b hb => by
      unfold jcpM
      rw [if_pos rfl, c0, c6, pk_cpy_in (by omega) (by omega)]
      rw [show 0 + (b - 0) = b by omega]
    obtain ⟨m', e, f, g⟩ := ih n (i + 1) (jcpM m (47 + i) (nI 0) (54 + i) (nI 0) (nI 6)) (by omega) (by omega) (fun u hu b hb => by
      rw [hrow (47 + u) (by omega)]
      by_cases q : u = i
      · rw [q]; exact hcp b hb
      · rw [hrow (54 + u) (by omega)]; exact r u (by omega) b hb)
    refine ⟨m', ?_, fun c hc => by rw [f c hc, hrow c (by omega)], g⟩
    unfold lp_P_setWay_21
    simp only [lits, negs]
    simp (disch := omega) only [lits, negs, nI_add, nn1, leT, leF, ltT, ltF, eqF, mF1, mF2, mF3, mF4, mF5, mF6, mTT, eq_self, Nat.reduceEqDiff, ↓reduceIte, ↓jbd_s, ↓jpu_e, tI0, tI1, jgd_tI, jgd_bb, tfF, ftF, jup_at, jup_oc, jup_ok, ↓l3_46, ↓l3_53]
    unfold jcp
    rw [if_pos ⟨nI_pos (by omega), nI_pos (by omega), nI_pos (by omega), by rw [c0, c6, jlr_46 i hi]; omega, by rw [c0, c6, jlr_53 i hi]; omega, (jtg47 i hi).1, (jtg47 i hi).2⟩]
    exact e
theorem o_way {N C : Nat} {m : jMem} (r : Rel N C m) (x y z : Int32) : Ost (f_C_way x y z) (f_M_way x y z) m := by
  rcases ixW x with hx | ⟨a, ha, rfl⟩
  · refine Ost.no (v := nI 0) r ?_ ?_
    · unfold f_C_way
      simp (disch := omega) only [lits, negs, nI_add, nn1, leT, leF, ltT, ltF, eqF, mF1, mF2, mF3, mF4, mF5, mF6, mTT, eq_self, Nat.reduceEqDiff, ↓reduceIte, jbd_s, jpu_e, tI0, tI1, jgd_tI, jgd_bb, tfF, ftF, jup_at, jup_oc, jup_ok, e_isWriter_no hx]
    · unfold f_M_way
      simp (disch := omega) only [lits, negs, nI_add, nn1, leT, leF, ltT, ltF, eqF, mF1, mF2, mF3, mF4, mF5, mF6, mTT, eq_self, Nat.reduceEqDiff, ↓reduceIte, jbd_s, jpu_e, tI0, tI1, jgd_tI, jgd_bb, tfF, ftF, jup_at, jup_oc, jup_ok, e_MisWriter_no hx]
  · rcases ixW y with hy | ⟨b, hb, rfl⟩
    · refine Ost.no (v := nI 0) r ?_ ?_
      · unfold f_C_way
        simp (disch := omega) only [lits, negs, nI_add, nn1, leT, leF, ltT, ltF, eqF, mF1, mF2, mF3, mF4, mF5, mF6, mTT, eq_self, Nat.reduceEqDiff, ↓reduceIte, jbd_s, jpu_e, tI0, tI1, jgd_tI, jgd_bb, tfF, ftF, jup_at, jup_oc, jup_ok, e_isWriter, e_isWriter_no hy]
      · unfold f_M_way
        simp (disch := omega) only [lits, negs, nI_add, nn1, leT, leF, ltT, ltF, eqF, mF1, mF2, mF3, mF4, mF5, mF6, mTT, eq_self, Nat.reduceEqDiff, ↓reduceIte, jbd_s, jpu_e, tI0, tI1, jgd_tI, jgd_bb, tfF, ftF, jup_at, jup_oc, jup_ok, e_MisWriter, e_MisWriter_no hy]
    · by_cases hab : a = b
      · subst hab
        refine Ost.no (v := nI 0) r ?_ ?_
        · unfold f_C_way
          simp (disch := omega) only [lits, negs, nI_add, nn1, leT, leF, ltT, ltF, eqF, mF1, mF2, mF3, mF4, mF5, mF6, mTT, eq_self, Nat.reduceEqDiff, ↓reduceIte, jbd_s, jpu_e, tI0, tI1, jgd_tI, jgd_bb, tfF, ftF, jup_at, jup_oc, jup_ok, e_isWriter]
        · unfold f_M_way
          simp (disch := omega) only [lits, negs, nI_add, nn1, leT, leF, ltT, ltF, eqF, mF1, mF2, mF3, mF4, mF5, mF6, mTT, eq_self, Nat.reduceEqDiff, ↓reduceIte, jbd_s, jpu_e, tI0, tI1, jgd_tI, jgd_bb, tfF, ftF, jup_at, jup_oc, jup_ok, e_MisWriter]
      · by_cases h1 : z < nI 1
        · refine Ost.no (v := nI 0) r ?_ ?_
          · unfold f_C_way
            simp (disch := omega) only [lits, negs, nI_add, nn1, leT, leF, ltT, ltF, eqF, mF1, mF2, mF3, mF4, mF5, mF6, mTT, eq_self, Nat.reduceEqDiff, ↓reduceIte, jbd_s, jpu_e, tI0, tI1, jgd_tI, jgd_bb, tfF, ftF, jup_at, jup_oc, jup_ok, e_isWriter, h1]
          · unfold f_M_way
            simp (disch := omega) only [lits, negs, nI_add, nn1, leT, leF, ltT, ltF, eqF, mF1, mF2, mF3, mF4, mF5, mF6, mTT, eq_self, Nat.reduceEqDiff, ↓reduceIte, jbd_s, jpu_e, tI0, tI1, jgd_tI, jgd_bb, tfF, ftF, jup_at, jup_oc, jup_ok, e_MisWriter, h1]
        · by_cases h2 : z ≤ nI 30
          · have h0 : ¬ z < 0 := fun q => by
              rw [Int32.lt_iff_toInt_lt] at q h1
              rw [nI_toInt (by omega)] at h1
              have : (0 : Int32).toInt = 0 := rfl
              omega
            obtain ⟨d, hd, rfl⟩ := nI_of2 (M := nI 30) (n := 30) (nI_toInt (by omega)) h0 h2
            obtain ⟨W, hW, hWd⟩ := r.2.2.2.2.1
            let W' : Nat → Nat → Nat := fun u v => if (u = a ∧ v = b) ∨ (u = b ∧ v = a) then d else W u v
            have hL : ∀ u v, u < 6 → v < 6 → W' u v ≤ 30 := fun u v hu hv => by
              show (if _ then d else W u v) ≤ 30
              split
              · exact hd
              · exact (hW u hu v hv).1
            obtain ⟨m1, e1, f1, g1⟩ := lp_sw1 (k := fun m8 => lp_P_setWay_58 (fun m11 => some ((), m11)) 5000 (nI 0) m8) 6 5000 0 (jup (jup m (47 + a) b (nI d)) (47 + b) a (nI d)) (by omega) (by omega) (fun u hu => absurd hu (Nat.not_lt_zero u))
            have hway : ∀ u, u < 6 → ∀ v, v < 6 → m1 (47 + u) v = nI (W' u v) := fun u hu v hv => by
              rw [f1 (47 + u) (by omega)]
              show _ = nI (if _ then d else W u v)
              by_cases q : (u = a ∧ v = b) ∨ (u = b ∧ v = a)
              · rw [if_pos q]
                rcases q with ⟨rfl, rfl⟩ | ⟨rfl, rfl⟩
                · rw [show jup (jup m (47 + u) v (nI d)) (47 + v) u (nI d) (47 + u) v = jup m (47 + u) v (nI d) (47 + u) v from if_neg (by omega), jup_at]
                · rw [jup_at]
              · rw [if_neg q, show jup (jup m (47 + a) b (nI d)) (47 + b) a (nI d) (47 + u) v = jup m (47 + a) b (nI d) (47 + u) v from if_neg (by omega), show jup m (47 + a) b (nI d) (47 + u) v = m (47 + u) v from if_neg (by omega)]
                exact (hW u hu v hv).2.2.1
            obtain ⟨m2, e2, f2, g2⟩ := lp_sw2 (L := W') (k := fun m11 => some ((), m11)) hL 6 5000 0 m1 (by omega) (by omega) (fun u hu v hv => by rw [g1 u hu v hv]; exact hway u hu v hv)
            have eC : f_C_way (nI a) (nI b) (nI d) m = some (nI 1, m2) := by
              have e3 : f_P_setWay (nI a) (nI b) (nI d) m = some ((), m2) := by
                unfold f_P_setWay
                simp only [lits, negs]
                simp (disch := omega) only [lits, negs, nI_add, nn1, leT, leF, ltT, ltF, eqF, mF1, mF2, mF3, mF4, mF5, mF6, mTT, eq_self, Nat.reduceEqDiff, ↓reduceIte, ↓jbd_s, ↓jpu_e, tI0, tI1, jgd_tI, jgd_bb, tfF, ftF, jup_at, jup_oc, jup_ok, ↓l3_46, ↓str_46]
                exact e1.trans e2
              unfold f_C_way
              simp (disch := omega) only [lits, negs, nI_add, nn1, leT, leF, ltT, ltF, eqF, mF1, mF2, mF3, mF4, mF5, mF6, mTT, eq_self, Nat.reduceEqDiff, ↓reduceIte, jbd_s, jpu_e, tI0, tI1, jgd_tI, jgd_bb, tfF, ftF, jup_at, jup_oc, jup_ok, e_isWriter, h1, h2, e3]
            have h120 : ∀ c, 59 < c → m2 c = m c := fun c hc => by
              rw [f2 c (by omega), f1 c (by omega), jup_oc (by omega), jup_oc (by omega)]
            have eM : f_M_way (nI a) (nI b) (nI d) m2 = some (nI 1, jup (jup (jup m2 109 0 (nI 0)) 120 (6 * a + b) (nI d)) 120 (6 * b + a) (nI d)) := by
              unfold f_M_way
              simp (disch := omega) only [lits, negs, nI_add, nn1, leT, leF, ltT, ltF, eqF, mF1, mF2, mF3, mF4, mF5, mF6, mTT, eq_self, Nat.reduceEqDiff, ↓reduceIte, jbd_s, jpu_e, tI0, tI1, jgd_tI, jgd_bb, tfF, ftF, jup_at, jup_oc, jup_ok, e_MisWriter, h1, h2, pk_mul, st_120]
            have fr := fr_two (fr_C_way eC) (fr_M_way eM)
            refine Ost.of (N := N) (C := C) eC eM ⟨RL_fr fr rfl r.1, RB_fr fr rfl r.2.1, RT_fr fr rfl r.2.2.1, RD_fr fr rfl r.2.2.2.1, ?_, RS_fr fr rfl r.2.2.2.2.2.1, RC_fr fr rfl r.2.2.2.2.2.2.1, RK_fr fr rfl r.2.2.2.2.2.2.2.1, RH_fr fr rfl r.2.2.2.2.2.2.2.2.1, RP_fr fr rfl r.2.2.2.2.2.2.2.2.2.1, RX_fr fr rfl r.2.2.2.2.2.2.2.2.2.2⟩
            refine ⟨W', fun u hu v hv => ⟨hL u v hu hv, ?_, ?_, ?_⟩, fun u hu => ?_⟩
            · show _ = nI (if _ then d else W u v)
              by_cases q : (u = a ∧ v = b) ∨ (u = b ∧ v = a)
              · rw [if_pos q]
                rcases q with ⟨rfl, rfl⟩ | ⟨rfl, rfl⟩
                · rw [jup_ok (by omega), jup_at]
                · rw [jup_at]
              · rw [if_neg q, jup_ok (by omega), jup_ok (by omega), jup_oc (by omega), h120 120 (by omega)]
                exact (hW u hu v hv).2.1
            · rw [jup_oc (by omega), jup_oc (by omega), jup_oc (by omega), f2 (47 + u) (by omega)]
              exact hway u hu v hv
            · rw [jup_oc (by omega), jup_oc (by omega), jup_oc (by omega)]
              exact g2 u hu v hv
            · show (if _ then d else W u u) = 0
              rw [if_neg (by omega)]
              exact hWd u hu
          · refine Ost.no (v := nI 0) r ?_ ?_
            · unfold f_C_way
              simp (disch := omega) only [lits, negs, nI_add, nn1, leT, leF, ltT, ltF, eqF, mF1, mF2, mF3, mF4, mF5, mF6, mTT, eq_self, Nat.reduceEqDiff, ↓reduceIte, jbd_s, jpu_e, tI0, tI1, jgd_tI, jgd_bb, tfF, ftF, jup_at, jup_oc, jup_ok, e_isWriter]
              rw [if_neg h1, if_neg h2]
            · unfold f_M_way
              simp (disch := omega) only [lits, negs, nI_add, nn1, leT, leF, ltT, ltF, eqF, mF1, mF2, mF3, mF4, mF5, mF6, mTT, eq_self, Nat.reduceEqDiff, ↓reduceIte, jbd_s, jpu_e, tI0, tI1, jgd_tI, jgd_bb, tfF, ftF, jup_at, jup_oc, jup_ok, e_MisWriter]
              rw [if_neg h1, if_neg h2]
