/-! an expression on both sides: from its first token to its last -/
def FF (m M : jMem) : Prop := (∃ k, 1 ≤ k ∧ k ≤ 3 ∧ m 21 4 = nI k ∧ M 109 21 = nI k) ∧ m 21 5 = M 109 22
def kE1 (m : jMem) : Option (Unit × jMem) :=
  if (m 21 4) = nI 0 then
    if (m 21 9) ≤ nI 0 then
      jbd (f_R_settle (nI 0) m) fun _ m20 => some ((), m20)
    else
      jbd (f_R_fail (nI 1) m) fun _ m22 => jbd (f_R_settle (nI 0) m22) fun _ m24 => some ((), m24)
  else
    jbd (f_R_settle (nI 0) m) fun _ m18 => some ((), m18)
def kE2 (M : jMem) : Option (Unit × jMem) :=
  if (M 109 21) = nI 0 then
    if (M 109 27) ≤ nI 0 then
      if (M 109 21) = nI 0 then
        jbd (f_M_pour (nI 1) M) fun _ m19 => some ((), m19)
      else
        some ((), M)
    else
      jbd (f_M_wrong (nI 1) M) fun _ m21 =>
      if (m21 109 21) = nI 0 then
        jbd (f_M_pour (nI 1) m21) fun _ m23 => some ((), m23)
      else
        some ((), m21)
  else
    some ((), M)
section FE
variable {B : Nat → Nat} {n K : Nat} {T Pl W : Nat → Int32} {hd c : Nat} {m M : jMem} {j : Nat}
theorem frE.mono {c0 c1 : Nat} {m' : jMem} (h : frE hd c1 m m') (h2 : c0 ≤ c1) : frE hd c0 m m' := fun q k a b d e => h q k a b d (by omega)
theorem frF.mono {c0 c1 : Nat} {M' : jMem} (h : frF c1 M M') (h2 : c0 ≤ c1) : frF c0 M M' := fun q k a b d => h q k a (by omega) d
theorem e_settlePW (hh : hd = 3 ∨ hd = 12) {s : Nat → Nat} : ∀ (pc c n : Nat) (m : jMem), pc < n → pc ≤ 72 → m 21 6 = nI hd → m 21 8 = nI pc → (∀ k, k < pc → pdT (s k) ∧ m 22 k = nI (s k)) → m hd 10 = nI c → c ≤ 64 → ∃ m', lp_R_settle_5 (nI 0) (fun m7 => some ((), m7)) (fun m8 => some ((), m8)) n (nI pc) m = some ((), m') ∧ frS hd c m m' := by
  intro pc
  induction pc with
  | zero =>
    intro c n m h1 h3 h6 h8 h22 h10 hc
    obtain ⟨n, rfl⟩ := ex_succ h1
    refine ⟨m, ?_, fun q k _ _ _ => rfl⟩
    rw [lp_R_settle_5]
    simp (disch := omega) only [lits, negs, nI_add, nn1, leT, leF, ltT, ltF, eqF, mF1, mF2, mF3, mF4, mF5, mF6, mTT, eq_self, Nat.reduceEqDiff, ↓reduceIte, jbd_s, jpu_e, tI0, tI1, jgd_tI, jgd_bb, tfF, ftF, jup_at, jup_oc, jup_ok]
  | succ pc ih =>
    intro c n m h1 h3 h6 h8 h22 h10 hc
    obtain ⟨n, rfl⟩ := ex_succ h1
    obtain ⟨a1, a2⟩ := h22 pc (by omega)
    have ht : 1001 ≤ s pc ∧ s pc ≤ 1033 := by unfold pdT at a1; omega
    have hrk := (rk_e ht).1
    have hrk6 := (rk_e ht).2.1
    by_cases q : s pc = 1005
    · refine ⟨m, ?_, fun q k _ _ _ => rfl⟩
      rw [lp_R_settle_5]
      simp only [lits, negs]
      rw [if_neg (nI_ge (by omega) (by omega)), h8, if_neg (nI_ge (by omega) (by omega)), nn1, l4_22 (by omega), a2, nI_clamp (by omega), if_neg (by omega), jgd_ok (by omega) (by omega), if_pos q]
    · have key : ∃ m4 c', f_H_addKnot hd (s pc) (nI 0) m = some ((), m4) ∧ c ≤ c' ∧ c' ≤ 64 ∧ m4 hd 10 = nI c' ∧ frS hd c m m4 ∧ m4 21 8 = nI (pc + 1) := by
        by_cases z : c < 64
        · exact ⟨_, c + 1, e_addKnot hh ht z h10, by omega, by omega, jup_at, fun q k _ a b => akM_ne a b, by rw [akM_ne (by omega) (by omega)]; exact h8⟩
        · refine ⟨m, c, ?_, by omega, hc, h10, fun q k _ _ _ => rfl, h8⟩
          unfold f_H_addKnot
          simp only [lits]
          rw [h10, if_neg (fun y => absurd y (nI_nlt (by omega) (by omega)))]
      obtain ⟨m4, c', k1, k2, k3, k4, k5, k6⟩ := key
      obtain ⟨m', g1, g2⟩ := ih c' n (jup m4 21 8 (nI pc)) (by omega) (by omega) (by rw [jup_no (by omega), k5 21 6 (by omega) (by omega) (by omega)]; exact h6) jup_at (fun k hk => ⟨(h22 k (by omega)).1, by rw [jup_no (by omega), k5 22 k (by omega) (by omega) (by omega)]; exact (h22 k (by omega)).2⟩) (by rw [jup_no (by omega)]; exact k4) k3
      refine ⟨m', ?_, fun q k a b d => ?_⟩
      · rw [lp_R_settle_5]
        simp only [lits, negs]
        rw [if_neg (nI_ge (by omega) (by omega)), h8, if_neg (nI_ge (by omega) (by omega)), nn1, l4_22 (by omega), a2, nI_clamp (by omega), if_neg (by omega), jgd_ok (by omega) (by omega), if_neg q, jgd_tk ht, jlt_e, hrk, if_pos (nI_le (by omega) (by omega)), h6, nI_clamp (by omega), jgd_hok hh, k1, jbd_s, k6, nn1, jpu_e, n_dec, nn1]
        exact g1
      · rw [g2 q k a b (by omega), jup_no (by omega), k5 q k a b d]
/-- what is left is poured out, and the fault stays -/
theorem FX.fin (hh : hd = 3 ∨ hd = 12) (h : FX hd m M) : ∃ m', f_R_settle (nI 0) m = some ((), m') ∧ FF m' M ∧ frE hd 0 m m' := by
  obtain ⟨⟨k, a1, a2, a3, a4⟩, a5, b1, s, pc, c, b2, b3, b4, b5, b6⟩ := h
  obtain ⟨m', g1, g2⟩ := e_settlePW hh pc c 5000 m (by omega) b2 b1 b3 b4 b5 b6
  refine ⟨m', ?_, ⟨⟨k, a1, a2, ?_, a4⟩, ?_⟩, fun q k x y z w => g2 q k (by omega) (by omega) (by omega)⟩
  · unfold f_R_settle
    rw [b3]
    exact g1
  · rw [g2 21 4 (by omega) (by omega) (by omega)]; exact a3
  · rw [g2 21 5 (by omega) (by omega) (by omega)]; exact a5
theorem sim_takeExpr (hh : hd = 3 ∨ hd = 12) (ts : TS B n K T Pl W) (tx : TX B n K T Pl W m M j) (f0 : m 21 4 = nI 0) (f1 : M 109 21 = nI 0) (dr : m 21 6 = nI hd) (k1 : m hd 11 = nI c) (k2 : M 109 7 = nI c) (hc : c ≤ 64) (cd : CD hd c m M) : ∃ m' M', f_R_takeExpression m = some ((), m') ∧ f_M_expression M = some ((), M') ∧ frE hd 0 m m' ∧ frF 0 M M' ∧ ((∃ c' j', c ≤ c' ∧ c' ≤ 64 ∧ j ≤ j' ∧ TX B n K T Pl W m' M' j' ∧ m' 21 4 = nI 0 ∧ M' 109 21 = nI 0 ∧ m' hd 11 = nI c' ∧ M' 109 7 = nI c' ∧ CD hd c' m' M' ∧ DP (m' (hd + 6)) c c' 1 ∧ ∀ k, k < c → m' (hd + 6) k = m (hd + 6) k) ∨ FF m' M') := by
  have n4 := ts.n4
  have Kn := ts.Kn
  have jK := tx.jK
  have b0 : jbz (nI 0) = nI 0 := by decide
  obtain ⟨m5, hm5⟩ : ∃ x, x = jup (jup (jup (jup (jup m 21 8 (nI 0)) 21 9 (nI 0)) 23 0 (nI 0)) 21 11 (nI 1)) 21 12 (nI 1) := ⟨_, rfl⟩
  obtain ⟨M2, hM2⟩ : ∃ x, x = jup (jup M 109 26 (nI 0)) 109 27 (nI 0) := ⟨_, rfl⟩
  have h5 : ∀ q k, ¬ (q = 21 ∧ (k = 8 ∨ k = 9 ∨ k = 11 ∨ k = 12)) → ¬ (q = 23 ∧ k = 0) → m5 q k = m q k := fun q k a b => by rw [hm5, jup_no (by omega), jup_no (by omega), jup_no (by omega), jup_no (by omega), jup_no (by omega)]
  have h2 : ∀ q k, ¬ (q = 109 ∧ (k = 26 ∨ k = 27)) → M2 q k = M q k := fun q k a => by rw [hM2, jup_no (by omega), jup_no (by omega)]
  have hC : f_R_takeExpression m = lp_R_takeExpression_29 kE1 5000 (nI 0) m5 := by
    unfold f_R_takeExpression
    simp only [lits]
    rw [jpu_e, jpu_e, st_23 (by omega), jpu_e, jpu_e, b0, hm5]
    rfl
  have hM : f_M_expression M = lp_M_expression_14 kE2 5000 (nI 0) (nI 1) M2 := by
    unfold f_M_expression
    simp only [lits]
    rw [jpu_e, jpu_e, hM2]
    rfl
  have hex : EX B n K T Pl W hd c (fun _ => 0) 0 c c 0 true m5 M2 j := by
    refine ⟨tx.cong (fun q k a => h5 q k (by omega) (by omega)) (fun q k a => h2 q k (by omega)), by rw [h5 21 4 (by omega) (by omega)]; exact f0, by rw [h2 109 21 (by omega)]; exact f1, by rw [h5 21 6 (by omega) (by omega)]; exact dr, by rw [h5 hd 11 (by omega) (by omega)]; exact k1, by rw [h2 109 7 (by omega)]; exact k2, hc, cd.cong (h5 hd 10 (by omega) (by omega)) (fun k _ => ⟨h5 (hd + 6) k (by omega) (by omega), h5 (hd + 7) k (by omega) (by omega)⟩) (h2 109 5 (by omega)) (fun k _ => ⟨h2 111 _ (by omega), h2 112 _ (by omega)⟩), ⟨?_, ?_, fun k hk => absurd hk (Nat.not_lt_zero k)⟩, ?_, ?_, by omega, rfl, rfl, fun k hk _ => ?_, fun k hk => absurd hk (Nat.not_lt_zero k), ?_, fun _ => ?_, ⟨Nat.le_refl c, ?_, ?_⟩⟩
    · rw [hm5, jup_no (by omega), jup_no (by omega), jup_no (by omega), jup_no (by omega)]; exact jup_at
    · rw [hM2, jup_no (by omega)]; exact jup_at
    · rw [hm5, jup_no (by omega), jup_no (by omega), jup_no (by omega)]; exact jup_at
    · rw [hM2]; exact jup_at
    · obtain rfl : k = 0 := by omega
      show m5 23 0 = nI 0
      rw [hm5, jup_no (by omega), jup_no (by omega)]; exact jup_at
    · show m5 21 11 = nI 1
      rw [hm5, jup_no (by omega)]; exact jup_at
    · show m5 21 12 = nI 1
      rw [hm5]; exact jup_at
    · rw [Nat.sub_self]; exact fun i hi => absurd hi (Nat.not_lt_zero i)
    · rw [Nat.sub_self]; rfl
  obtain ⟨m1, M1, e1, e2, e3, e4, e5⟩ := sim_expr (c0 := c) (k106 := kE1) (k109 := kE2) hh ts (K - j) 0 5000 5000 true m5 M2 j (by omega) (by omega) (by omega) (by omega) ⟨_, 0, c, c, 0, Nat.le_refl c, hex⟩
  have e2 : lp_M_expression_14 kE2 5000 (nI 0) (nI 1) M2 = kE2 M1 := e2
  have a5 : frE hd c m m5 := fun q k a b d e => h5 q k (by omega) (by omega)
  have a6 : frF c M M2 := fun q k a b d => h2 q k (by omega)
  rw [hC, hM, e1, e2]
  rcases e5 with ⟨j', hjj, s, pc, c1, kn, o, hc1, h⟩ | h
  · obtain ⟨p72, p64⟩ := h.pc72
    have hdp : DP (m1 (hd + 6)) c c1 (biN s pc + 1) := h.dp
    have ho8 := h.o3
    by_cases o0 : o = 0
    · subst o0
      obtain ⟨m3, M3, pc', c', g1, g2, g3, g4, g5, g6, g7, g8, g9, g10, g11, g12⟩ := sim_settle (r := 0) (l := 1) hh (by omega) (by omega) (by omega) pc c1 5000 5000 m1 M1 (by omega) (by omega) p72 h.pd h.cd p64 h.dr hdp (fun k x y z => by
        have := (rk_p (h.pd.p3 k x).1).2.1 z
        omega)
      have hls : levP s pc' = 0 := by
        rw [← h.lv]
        exact (lev_same g3 fun k x y => (g10 k x y).1).symm
      have hp0 : pc' = 0 := by
        rcases g9 with y | y | y
        · exact y
        · refine Classical.byContradiction fun z => ?_
          obtain ⟨p, rfl⟩ : ∃ p, pc' = p + 1 := ⟨pc' - 1, by omega⟩
          rw [Nat.add_sub_cancel] at y
          rw [lev_s, if_pos y] at hls
          omega
        · omega
      subst hp0
      have hkn : c' = kn := by
        have z : c' + noP s 0 = c' := rfl
        have := h.ko
        omega
      have eset : f_R_settle (nI 0) m1 = some ((), m3) := by
        unfold f_R_settle
        rw [h.pd.p1]
        exact g1
      have ep : f_M_pour (nI 1) M1 = some ((), M3) := g2
      refine ⟨m3, M3, ?_, ?_, ((a5.tr e3).tr (frE_S hc1 g11)).mono (Nat.zero_le c), ((a6.tr e4).tr (frF_P hc1 g12)).mono (Nat.zero_le c), Or.inl ⟨c', j', by omega, by have := h.k3; omega, hjj, h.tx.cong (fun q k a => g11 q k (by omega) (by omega) (by omega)) (fun q k a => g12 q k (by omega) (by omega)), ?_, ?_, ?_, ?_, g6, g8, fun k hk => ?_⟩⟩
      · unfold kE1
        rw [h.f0, if_pos rfl, h.o1, if_pos (nI_le (by omega) (by omega)), eset, jbd_s]
      · unfold kE2
        rw [h.f1, if_pos rfl, h.o2, if_pos (nI_le (by omega) (by omega)), if_pos rfl, ep, jbd_s]
      · rw [g11 21 4 (by omega) (by omega) (by omega)]; exact h.f0
      · rw [g12 109 21 (by omega) (by omega)]; exact h.f1
      · rw [g11 hd 11 (by omega) (by omega) (by omega), hkn]; exact h.k1
      · rw [g12 109 7 (by omega) (by omega), hkn]; exact h.k2
      · rw [g11 (hd + 6) k (by omega) (by omega) (by omega), e3 (hd + 6) k (by omega) (by omega) (by omega) (by omega), h5 (hd + 6) k (by omega) (by omega)]
    · obtain ⟨m', g1, g2, g3⟩ := FX.fin hh (h.fx (k := 1) hh (by omega) (by omega))
      refine ⟨m', wrM 1 (Pl j') M1, ?_, ?_, ((a5.tr e3).mono (Nat.zero_le c)).tr (frE_fl.tr g3), ((a6.tr e4).mono (Nat.zero_le c)).tr frF_wr, Or.inr g2⟩
      · unfold kE1
        rw [h.f0, if_pos rfl, h.o1, if_neg (nI_ge (by omega) (by omega)), e_fail ts h.tx, jbd_s, g1, jbd_s]
      · unfold kE2
        rw [h.f1, if_pos rfl, h.o2, if_neg (nI_ge (by omega) (by omega)), e_wrong h.tx h.f1, jbd_s, wr21, if_neg (by decide)]
  · obtain ⟨m', g1, g2, g3⟩ := h.fin hh
    obtain ⟨⟨k, a1, a2, a3, a4⟩, -⟩ := h
    have k0 : ¬ nI k = nI 0 := fun z => by have := nI_ij (by omega) (by omega) z; omega
    refine ⟨m', M1, ?_, ?_, ((a5.tr e3).mono (Nat.zero_le c)).tr g3, (a6.tr e4).mono (Nat.zero_le c), Or.inr g2⟩
    · unfold kE1
      rw [a3, if_neg k0, g1, jbd_s]
    · unfold kE2
      rw [a4, if_neg k0]
end FE
