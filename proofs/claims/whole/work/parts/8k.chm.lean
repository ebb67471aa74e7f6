/-! the reference's count of chains -/
theorem lp_Mch17 {N : Nat} {v1 : Int32} {k : jMem → Option (Int32 × jMem)} (h30 : N ≤ 30) : ∀ (d n i : Nat) (m : jMem), i + d = N → d < n → m 109 33 = nI N → (∀ r, r < i → m 142 r = nM) → ∃ m', lp_M_chains_17 v1 k n (nI i) m = k m' ∧ (∀ c, ¬ c = 142 → m' c = m c) ∧ ∀ r, r < N → m' 142 r = nM := by
  intro d
  induction d with
  | zero =>
    intro n i m hid hdn hN h
    obtain ⟨n, rfl⟩ := ex_succ hdn
    refine ⟨m, ?_, fun c _ => rfl, fun r hr => h r (by omega)⟩
    unfold lp_M_chains_17
    simp (disch := omega) only [lits, negs, nI_add, nn1, leT, leF, ltT, ltF, eqF, mF1, mF2, mF3, mF4, mF5, mF6, mTT, eq_self, Nat.reduceEqDiff, ↓reduceIte, jbd_s, jpu_e, tI0, tI1, jgd_tI, jgd_bb, tfF, ftF, jup_at, jup_oc, jup_ok, hN]
  | succ d ih =>
    intro n i m hid hdn hN h
    obtain ⟨n, rfl⟩ := ex_succ hdn
    obtain ⟨m', e1, e2, e3⟩ := ih n (i + 1) (jup m 142 i nM) (by omega) (by omega) (by rw [jup_oc (by omega)]; exact hN) (fun r hr => by
      by_cases q : r = i
      · rw [q]; exact jup_at
      · rw [jup_ok q]; exact h r (by omega))
    refine ⟨m', ?_, fun c hc => (e2 c hc).trans (jup_oc hc), e3⟩
    unfold lp_M_chains_17
    simp (disch := omega) only [lits, negs, nI_add, nn1, leT, leF, ltT, ltF, eqF, mF1, mF2, mF3, mF4, mF5, mF6, mTT, eq_self, Nat.reduceEqDiff, ↓reduceIte, jbd_s, jpu_e, tI0, tI1, jgd_tI, jgd_bb, tfF, ftF, jup_at, jup_oc, jup_ok, hN, st_142]
    exact e1
theorem mtN_le {X : Int32} {E : Nat → Nat → Bool} {N i : Nat} {p : Nat → Int32} (hi : i ≤ N) (h30 : N ≤ 30) (h : mtOK E (bt X) N i p) : mtN N p ≤ pcnt X := by
  have e := mt_dual (A := fun _ => false) (R := fun _ => false) hi h30 h (fun l r _ _ q => absurd q (by decide))
  have e1 : fb_ct (fun _ => false) N = 0 := fb_ct_zero.mpr fun _ _ => rfl
  have e2 : fb_ct (fun l => bt X l && !false) i = fb_ct (bt X) i := fb_ct_cong fun k _ => by rw [Bool.not_false, Bool.and_true]
  have e3 : fb_ct (bt X) i ≤ fb_ct (bt X) 32 := fb_ct_mono _ (by omega)
  have e4 : mtN N p ≤ fb_ct (fun _ => false) N + fb_ct (fun l => bt X l && !false) i := e
  rw [e1, e2] at e4
  unfold pcnt
  omega
section CM
variable {X : Int32} {P p p' : Nat → Int32} {N i : Nat}
theorem mt_won (hX : bt X i = true) (hi : i < N) (h30 : N ≤ 30) (h : mtC (egB X P) (bt X) N i p) (s : srT X P p p' N (nI 0) i) : mtC (egB X P) (bt X) N (i + 1) p' := by
  obtain ⟨-, s2, s3, s4⟩ := s
  refine mtC_succ h hX ⟨fun r hr => ?_, fun a b ha hb e hn => ?_⟩ s4
  · rcases s2 r hr with q | ⟨l, hl, q1, q2, q3⟩
    · rw [q]
      exact (h.1.1 r hr).imp id (fun ⟨l, hl, z⟩ => ⟨l, by omega, z⟩)
    · rcases q1 with q1 | ⟨r', hr', -, q4⟩
      · exact Or.inr ⟨l, by omega, by rw [q1]; exact hX, q2, q3⟩
      · rcases h.1.1 r' hr' with z | ⟨l', hl', z1, -, z3⟩
        · exact (nI_no (by omega) q4 z).elim
        · have : l = l' := nI_ij (by omega) (by omega) (q4.symm.trans z3)
          exact Or.inr ⟨l, by omega, by rw [this]; exact z1, q2, q3⟩
  · rcases s3 a b ha hb e hn with z | ⟨-, z | z⟩
    · exact z
    · rw [b_n0] at z; exact absurd z (by decide)
    · rw [b_n0] at z; exact absurd z (by decide)
theorem mt_lost {W' : Int32} (hX : bt X i = true) (hi : i < N) (h30 : N ≤ 30) (h : mtC (egB X P) (bt X) N i p) (s : srF X P p N (nI 0) W' i) : mtC (egB X P) (bt X) N (i + 1) p := by
  obtain ⟨-, s2, s3, s4⟩ := s
  have hz : ∀ l, (decide (l = i) || (decide (l < N) && exS (fun r => bt W' r && decide (p r = nI l)) N)) = true → l = i ∨ l < N ∧ ∃ r, r < N ∧ bt W' r = true ∧ p r = nI l := fun l hl => by
    rw [Bool.or_eq_true, decide_eq_true_iff, Bool.and_eq_true, decide_eq_true_iff] at hl
    refine hl.imp id (fun hl => ⟨hl.1, ?_⟩)
    obtain ⟨r, hr, q⟩ := exS_iff.mp hl.2
    rw [Bool.and_eq_true, decide_eq_true_iff] at q
    exact ⟨r, hr, q.1, q.2⟩
  refine mtC_fail (Z := fun l => decide (l = i) || (decide (l < N) && exS (fun r => bt W' r && decide (p r = nI l)) N)) (V := bt W') hi h30 h hX ?_ (fun l hl => ?_) (fun l r hr hl he => ?_) (fun r hr hV => ?_)
  · show (decide (i = i) || (decide (i < N) && exS (fun r => bt W' r && decide (p r = nI i)) N)) = true
    rw [decide_eq_true rfl]; rfl
  · rcases hz l hl with q | ⟨hl2, r, hr, -, q⟩
    · exact ⟨by omega, by rw [q]; exact hX⟩
    · rcases h.1.1 r hr with z | ⟨l', hl', z1, -, z3⟩
      · exact (nI_no (by omega) q z).elim
      · have e : l = l' := nI_ij (by omega) (by omega) (q.symm.trans z3)
        exact ⟨by omega, by rw [e]; exact z1⟩
  · rcases hz l hl with q | ⟨hl2, r0, hr0, q1, q2⟩
    · exact s3 r hr (q ▸ he)
    · obtain ⟨l', hl', z1, z2⟩ := s4 r0 hr0 (b_n0 r0) q1
      have e : l = l' := nI_ij (by omega) (by omega) (q2.symm.trans z1)
      exact z2 r hr (e ▸ he)
  · obtain ⟨l', hl', z1, z2⟩ := s4 r hr (b_n0 r) hV
    rcases h.1.1 r hr with z | ⟨l, hl, q1, q2, q3⟩
    · exact (nI_no (by omega) z1 z).elim
    · refine ⟨l, hl, ?_, q2, q3⟩
      show (decide (l = i) || (decide (l < N) && exS (fun r => bt W' r && decide (p r = nI l)) N)) = true
      rw [exS_mono (p := fun r => bt W' r && decide (p r = nI l)) hr (by
        show (bt W' r && decide (p r = nI l)) = true
        rw [hV, decide_eq_true q3]; rfl), decide_eq_true (by omega : l < N), Bool.or_comm]
      rfl
theorem lp_Mch45 (h30 : N ≤ 30) (hX : ∀ j, bt X j = true → j < N) (hP : ∀ l, l < N → ∀ j, bt (P l) j = true → j < l) : ∀ (d n i s : Nat) (m : jMem), i + d = N → d < n → m 109 33 = nI N → m 128 = P → s + mtN N (m 142) = pcnt X → mtC (egB X P) (bt X) N i (m 142) → ∃ m' s', lp_M_chains_45 X (fun w12 m11 => some (w12, m11)) n (nI s) (nI i) m = some (nI s', m') ∧ s' + mtN N (m' 142) = pcnt X ∧ mtC (egB X P) (bt X) N N (m' 142) := by
  intro d
  induction d with
  | zero =>
    intro n i s m hid hdn hN h128 hs h
    obtain ⟨n, rfl⟩ := ex_succ hdn
    refine ⟨m, s, ?_, hs, by rw [show N = i by omega] at h ⊢; exact h⟩
    unfold lp_M_chains_45
    simp (disch := omega) only [lits, negs, nI_add, nn1, leT, leF, ltT, ltF, eqF, mF1, mF2, mF3, mF4, mF5, mF6, mTT, eq_self, Nat.reduceEqDiff, ↓reduceIte, jbd_s, jpu_e, tI0, tI1, jgd_tI, jgd_bb, tfF, ftF, jup_at, jup_oc, jup_ok, hN]
  | succ d ih =>
    intro n i s m hid hdn hN h128 hs h
    obtain ⟨n, rfl⟩ := ex_succ hdn
    cases q : bt X i
    · obtain ⟨m', s', e1, e2⟩ := ih n (i + 1) s (jup m 109 62 (nI 0)) (by omega) (by omega) (by rw [jup_ok (by omega)]; exact hN) (by rw [jup_oc (by omega)]; exact h128) (by rw [jup_oc (by omega)]; exact hs) (by rw [jup_oc (by omega)]; exact mtC_skip h q)
      refine ⟨m', s', ?_, e2⟩
      unfold lp_M_chains_45
      simp (disch := omega) only [lits, negs, nI_add, nn1, leT, leF, ltT, ltF, eqF, mF1, mF2, mF3, mF4, mF5, mF6, mTT, eq_self, Nat.reduceEqDiff, ↓reduceIte, jbd_s, jpu_e, tI0, tI1, jgd_tI, jgd_bb, tfF, ftF, jup_at, jup_oc, jup_ok, hN, bit1, q]
      exact e1
    · have hp : ∀ r, r < N → m 142 r = nM ∨ ∃ l, l < N ∧ m 142 r = nI l := fun r hr => (h.1.1 r hr).imp id (fun ⟨l, hl, _, _, z⟩ => ⟨l, by omega, z⟩)
      obtain ⟨m7, r⟩ := e_joins (X := X) (P := P) (p := m 142) h30 hP hp h.1.2 40 (nI 0) i (jup m 109 62 (nI 0)) (by omega) (fun r hr e => by
        rcases h.1.1 r hr with z | ⟨l, hl, -, -, z⟩
        · exact (nI_no (by omega) e z).elim
        · have := nI_ij (by omega) (by omega) (e.symm.trans z); omega) (fun j hj => by rw [b_n0] at hj; exact absurd hj (by decide)) (by omega) (by rw [jup_ok (by omega)]; exact hN) (by rw [jup_oc (by omega)]; exact h128) (by rw [jup_oc (by omega)]) jup_at
      rcases r with ⟨r1, r2⟩ | ⟨r1, r2, r3⟩
      · have fr : jfr W_M_joins (jup m 109 62 (nI 0)) m7 := fr_M_joins 40 r1
        have hw := mt_won q (by omega) h30 h r2
        have hl := mtN_le (by omega) h30 hw.1
        have e4 := r2.2.2.2
        obtain ⟨m', s', e1, e2⟩ := ih n (i + 1) (s - 1) m7 (by omega) (by omega) (by rw [fr 109 33 rfl, jup_ok (by omega)]; exact hN) (by
          funext k
          rw [fr 128 k rfl, jup_oc (by omega), h128]) (by omega) hw
        refine ⟨m', s', ?_, e2⟩
        unfold lp_M_chains_45
        simp (disch := omega) only [lits, negs, nI_add, nn1, leT, leF, ltT, ltF, eqF, mF1, mF2, mF3, mF4, mF5, mF6, mTT, eq_self, Nat.reduceEqDiff, ↓reduceIte, jbd_s, jpu_e, tI0, tI1, jgd_tI, jgd_bb, tfF, ftF, jup_at, jup_oc, jup_ok, hN, bit1, q, r1]
        rw [n_dec, n_sub (by omega)]
        exact e1
      · have fr : jfr W_M_joins (jup m 109 62 (nI 0)) m7 := fr_M_joins 40 r1
        obtain ⟨m', s', e1, e2⟩ := ih n (i + 1) s m7 (by omega) (by omega) (by rw [fr 109 33 rfl, jup_ok (by omega)]; exact hN) (by
          funext k
          rw [fr 128 k rfl, jup_oc (by omega), h128]) (by rw [r2]; exact hs) (by rw [r2]; exact mt_lost q (by omega) h30 h r3)
        refine ⟨m', s', ?_, e2⟩
        unfold lp_M_chains_45
        simp (disch := omega) only [lits, negs, nI_add, nn1, leT, leF, ltT, ltF, eqF, mF1, mF2, mF3, mF4, mF5, mF6, mTT, eq_self, Nat.reduceEqDiff, ↓reduceIte, jbd_s, jpu_e, tI0, tI1, jgd_tI, jgd_bb, tfF, ftF, jup_at, jup_oc, jup_ok, hN, bit1, q, r1]
        exact e1
theorem mtC_0 {E : Nat → Nat → Bool} {Y : Nat → Bool} (hn : ∀ r, r < N → p r = nM) : mtC E Y N 0 p ∧ mtN N p = 0 := by
  have h0 : mtN N p = 0 := fb_ct_zero.mpr fun k hk => by
    show (!decide (p k = nM)) = false
    rw [decide_eq_true (hn k hk)]; rfl
  refine ⟨⟨⟨fun r hr => Or.inl (hn r hr), fun r r' hr _ _ q => absurd (hn r hr) q⟩, fun _ => false, fun _ => false, fun l q => absurd q Bool.false_ne_true, fun l r q => absurd q (by omega), ?_⟩, h0⟩
  rw [h0, show fb_ct (fun _ => false) N = 0 from fb_ct_zero.mpr fun _ _ => rfl]
  rfl
theorem e_Mchains {m : jMem} (h30 : N ≤ 30) (hX : isSt N X = true) (hP : ∀ l, l < N → ∀ j, bt (P l) j = true → j < l) (hN : m 109 33 = nI N) (h128 : m 128 = P) : ∃ m' s', f_M_chains X m = some (nI s', m') ∧ s' + mtN N (m' 142) = pcnt X ∧ mtC (egB X P) (bt X) N N (m' 142) := by
  have hX2 := isSt_iff.mp hX
  have h31 : bt X 31 = false := bf_of (fun q => by have := hX2 31 q; omega)
  obtain ⟨m1, a1, a2, a3⟩ := lp_Mch17 (v1 := X) (k := fun m5 => jbd (f_M_bits X m5) fun x6 m7 => lp_M_chains_45 X (fun w12 m11 => some (w12, m11)) 5000 x6 (nI 0) m7) h30 N 5000 0 (jup m 109 0 (nI 0)) (by omega) (by omega) (by rw [jup_ok (by omega)]; exact hN) (fun r hr => absurd hr (by omega))
  obtain ⟨z1, z2⟩ := mtC_0 (E := egB X P) (Y := bt X) a3
  obtain ⟨m', s', e1, e2⟩ := lp_Mch45 h30 hX2 hP N 5000 0 (pcnt X) m1 (by omega) (by omega) (by rw [a2 109 (by omega), jup_ok (by omega)]; exact hN) (by rw [a2 128 (by omega), jup_oc (by omega)]; exact h128) (by omega) z1
  refine ⟨m', s', ?_, e2⟩
  unfold f_M_chains
  simp only [lits, negs]
  rw [jpu_e, e_MisSet (by rw [jup_ok (by omega)]; exact hN) h30, jbd_s, hX, if_neg (by decide), a1, e_MbitsP h31, jbd_s]
  exact e1
end CM
