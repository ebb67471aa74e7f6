/-! an expression on both sides: what joins, and a bracket closed -/
section JN
variable {B : Nat → Nat} {n K : Nat} {T Pl W : Nat → Int32} {hd b c0 : Nat} {s : Nat → Nat} {pc c kn o t : Nat} {due : Bool} {m M : jMem} {j : Nat}
def flJ (o r : Nat) (m : jMem) : jMem := jup (jup (if r ≤ 4 then jup m 23 o (tI (decide (r = 4))) else m) 21 12 (tI (decide (r < 4)))) 21 11 (nI 1)
theorem flJ_ne {r q k : Nat} (h : ¬ (q = 23 ∧ k = o)) (h2 : ¬ (q = 21 ∧ (k = 11 ∨ k = 12))) : flJ o r m q k = m q k := by
  unfold flJ
  rw [jup_no (by omega), jup_no (by omega)]
  split
  · rw [jup_no h]
  · rfl
theorem rk_j (ht : 1023 ≤ t ∧ t ≤ 1033) (h25 : ¬ t = 1025) : rkT t = 1 ∨ rkT t = 2 ∨ rkT t = 4 ∨ rkT t = 5 := by
  rcases (by omega : t = 1023 ∨ t = 1024 ∨ t = 1026 ∨ t = 1027 ∨ t = 1028 ∨ t = 1029 ∨ t = 1030 ∨ t = 1031 ∨ t = 1032 ∨ t = 1033) with rfl | rfl | rfl | rfl | rfl | rfl | rfl | rfl | rfl | rfl <;> decide
theorem jbz01 (x : Bool) : jbz (tI x) = tI x := by cases x <;> decide
theorem e_takeJoint (ht : 1023 ≤ t ∧ t ≤ 1033) (h25 : ¬ t = 1025) (htok : m 21 2 = nI t) (ho : m 21 9 = nI o) (ho8 : o ≤ 8) (hc : rkT t = 4 → m 23 o = nI 0) : f_R_takeJoint m = jbd (f_R_settle (nI (rkT t)) (flJ o (rkT t) m)) fun u74 m75 => jbd (f_R_takePending m75) fun u76 m77 => some ((), m77) := by
  obtain ⟨hR, -, -, -⟩ := rk_e (t := t) (by omega)
  have hr := rk_j ht h25
  have hj : ∀ x, jbz (nI x) = jbz (nI x) := fun _ => rfl
  have b1 : jbz (nI 1) = nI 1 := by decide
  have b0 : jbz (nI 0) = nI 0 := by decide
  unfold f_R_takeJoint
  simp only [lits]
  rw [htok, nI_clamp (by omega), jgd_tk (by omega), jlt_e, hR]
  rcases hr with q | q | q | q
  · rw [q, if_neg (by decide), if_pos trivial, jgd_tk (by omega), jlt_e, if_neg (by decide), ho, st_23 (by omega), jup_no (by omega), htok, nI_clamp (by omega), jgd_tk (by omega), jlt_e, hR, q, if_neg (by decide), jpu_e, jpu_e, jup_no (by omega), jup_no (by omega), jup_no (by omega), htok, nI_clamp (by omega), jgd_tk (by omega), jlt_e, hR, q, b0]
    rfl
  · rw [q, if_neg (by decide), if_pos trivial, jgd_tk (by omega), jlt_e, if_neg (by decide), ho, st_23 (by omega), jup_no (by omega), htok, nI_clamp (by omega), jgd_tk (by omega), jlt_e, hR, q, if_neg (by decide), jpu_e, jpu_e, jup_no (by omega), jup_no (by omega), jup_no (by omega), htok, nI_clamp (by omega), jgd_tk (by omega), jlt_e, hR, q, b0]
    rfl
  · rw [q, if_pos rfl, if_neg (by decide), ho, ld_23 (by omega), hc q, if_pos rfl, jgd_tk (by omega), jlt_e, if_neg (by decide), st_23 (by omega), jup_no (by omega), htok, nI_clamp (by omega), jgd_tk (by omega), jlt_e, hR, q, if_pos (by decide), jpu_e, jpu_e, jup_no (by omega), jup_no (by omega), jup_no (by omega), htok, nI_clamp (by omega), jgd_tk (by omega), jlt_e, hR, q, b1]
    rfl
  · rw [q, if_neg (by decide), if_pos trivial, jgd_tk (by omega), jlt_e, if_pos (by decide), jgd_tk (by omega), jlt_e, if_pos (by decide), jpu_e, jpu_e, jup_no (by omega), jup_no (by omega), htok, nI_clamp (by omega), jgd_tk (by omega), jlt_e, hR, q]
    rfl
theorem EX.pc72 (h : EX B n K T Pl W hd b s pc c kn o due m M j) : pc ≤ 72 ∧ c + noP s pc ≤ 64 := by
  have h1 := h.ko
  have h2 := h.k3
  have h3 := h.o3
  have h4 := h.lv
  have h5 := nop_lev (s := s) (pc := pc)
  omega
theorem frF_P (h : c0 ≤ c) {M' : jMem} (f : frP c M M') : frF c0 M M' := fun q k a b _ => f q k (by omega) (by omega)
theorem frE_S (h : c0 ≤ c) {m' : jMem} (f : frS hd c m m') : frE hd c0 m m' := fun q k a _ d e => f q k (by omega) (by omega) (by omega)
theorem frE_J {r : Nat} : frE hd c0 m (flJ o r m) := fun q k a d _ _ => flJ_ne (by omega) (by omega)
theorem wr21 {k : Nat} {p : Int32} : wrM k p M 109 21 = nI k := by unfold wrM; rw [jup_no (by omega)]; exact jup_at
theorem sim_joint (hh : hd = 3 ∨ hd = 12) (ts : TS B n K T Pl W) (h : EX B n K T Pl W hd b s pc c kn o false m M j) (hc0 : c0 ≤ c) (hT : T j = nI t) (ht : 1023 ≤ t ∧ t ≤ 1033) (h25 : ¬ t = 1025) : ∃ m' M', f_R_takeJoint m = some ((), m') ∧ f_M_sign (nI (sgP t)) M = some ((), M') ∧ frE hd c0 m m' ∧ frF c0 M M' ∧ (EXs B n K T Pl W hd b c0 true m' M' (j + 1) ∨ FX hd m' M') := by
  obtain ⟨p72, p64⟩ := h.pc72
  have htok : m 21 2 = nI t := h.tx.tok.trans hT
  have hr := rk_j ht h25
  have hdp : DP (m (hd + 6)) b c (biN s pc + 1) := h.dp
  have hcm := h.cm pc (Nat.le_refl pc) (Or.inl rfl)
  rw [h.lv] at hcm
  have ho8 := h.o3
  have ebd : f_M_bind (nI (sgP t)) M = some (nI (rkT t), M) := e_bind (Or.inr ht)
  by_cases q4 : rkT t = 4 ∧ cmpT s pc = true
  · obtain ⟨q4, qc⟩ := q4
    obtain ⟨m3, M3, pc', c', g1, g2, g3, g4, g5, g6, g7, g8, g9, g10, g11, g12⟩ := sim_settle (r := 5) (l := 5) hh (by omega) (by omega) (by omega) pc c 5000 5000 m M (by omega) (by omega) p72 h.pd h.cd p64 h.dr hdp (fun _ _ _ _ => Iff.rfl)
    have hcs : cmpT s pc' = true := by
      rw [← qc]
      exact (cmp_same g3 fun k x y => ⟨(g10 k x y).1, by have := (g10 k x y).2; omega⟩).symm
    have hp0 : ¬ pc' = 0 := fun z => by rw [z] at hcs; exact absurd hcs Bool.false_ne_true
    obtain ⟨p, rfl⟩ : ∃ p, pc' = p + 1 := ⟨pc' - 1, by omega⟩
    rw [Nat.add_sub_cancel] at g9
    have h5 : ¬ s p = 1005 := fun z => by rw [cmpT_s, if_pos z] at hcs; exact absurd hcs Bool.false_ne_true
    have hp4 : rkT (s p) = 4 := by
      rw [cmpT_s, if_neg h5, Bool.or_eq_true, decide_eq_true_iff] at hcs
      rcases hcs with z | z
      · exact z
      · have g9' := (g9.resolve_left (by omega)).resolve_left h5
        refine Classical.byContradiction fun y => ?_
        exact bt_no (h.sg p (by omega) h5 (by omega)) z
    obtain ⟨b1, b2, b3⟩ := g5.p3 p (by omega)
    have f21 : M3 109 21 = nI 0 := by rw [g12 109 21 (by omega) (by omega)]; exact h.f1
    have f18 : M3 109 18 = Pl j := by rw [g12 109 18 (by omega) (by omega)]; exact h.tx.pl
    refine ⟨flC 1 (Pl j) m, wrM 1 (Pl j) M3, ?_, ?_, frE_fl, (frF_P hc0 g12).tr frF_wr, Or.inr (FX.mk hh (by omega) (by omega) h.pw)⟩
    · obtain ⟨hR, -, -, -⟩ := rk_e (t := t) (by omega)
      unfold f_R_takeJoint
      simp only [lits]
      rw [htok, nI_clamp (by omega), jgd_tk (by omega), jlt_e, hR, q4, if_pos rfl, if_neg (by decide), h.o1, ld_23 (by omega), hcm, qc, if_neg (by decide), e_fail ts h.tx, jbd_s]
    · have ep : f_M_pour (nI 5) M = some ((), M3) := g2
      unfold f_M_sign
      simp only [lits]
      rw [ebd, jbd_s, q4, if_pos rfl, ep, jbd_s, g5.p2, if_neg (nI_ge (by omega) (by omega)), nn1, ld_117 (by omega), b3, e_bind b1, jbd_s, hp4, if_pos rfl, e_wrong0 f18 f21, jbd_s, wr21, if_neg (by decide), if_neg (by decide)]
  · have hcl : rkT t = 4 → cmpT s pc = false := fun z => bf_of fun y => q4 ⟨z, y⟩
    have hl5 : (if rkT t = 4 then 5 else rkT t) ≤ 5 ∧ 1 ≤ (if rkT t = 4 then 5 else rkT t) := by split <;> omega
    obtain ⟨m3, M3, pc', c', g1, g2, g3, g4, g5, g6, g7, g8, g9, g10, g11, g12⟩ := sim_settle (r := rkT t) (l := if rkT t = 4 then 5 else rkT t) hh (by omega) hl5.2 hl5.1 pc c 5000 5000 (flJ o (rkT t) m) M (by omega) (by omega) p72 (h.pd.cong (flJ_ne (by omega) (by omega)) rfl (fun k _ => ⟨flJ_ne (by omega) (by omega), rfl⟩)) (h.cd.cong (flJ_ne (by omega) (by omega)) (fun k _ => ⟨flJ_ne (by omega) (by omega), flJ_ne (by omega) (by omega)⟩) rfl (fun _ _ => ⟨rfl, rfl⟩)) p64 (by rw [flJ_ne (by omega) (by omega)]; exact h.dr) (hdp.cong fun k _ => flJ_ne (by omega) (by omega)) (by
      by_cases z : rkT t = 4
      · rw [if_pos z, z]
        intro k x y w
        have := cmp_no (hcl z) k x y w
        omega
      · rw [if_neg z]
        exact fun _ _ _ _ => Iff.rfl)
    have hC : ∀ q k, ¬ (q = 21 ∧ (k = 8 ∨ k = 11 ∨ k = 12)) → ¬ (q = hd ∧ k = 10) → ¬ ((q = hd + 6 ∨ q = hd + 7) ∧ c ≤ k) → ¬ (q = 23 ∧ k = o) → m3 q k = m q k := fun q k x y z w => (g11 q k (by omega) y z).trans (flJ_ne w (by omega))
    have hls : levP s pc' = o := by
      rw [← h.lv]
      exact (lev_same g3 fun k x y => (g10 k x y).1).symm
    have hct : rkT t < 4 → cmpT s pc' = false := fun z => cmp_top (fun k x => h.sg k (by omega)) (g9.imp id fun y => y.imp id fun w => by omega)
    have hF23 : rkT t ≤ 4 → m3 23 o = tI (decide (rkT t = 4)) := fun z => by
      rw [g11 23 o (by omega) (by omega) (by omega)]
      unfold flJ
      rw [jup_no (by omega), jup_no (by omega), if_pos z]
      exact jup_at
    have hy : EY B n K T Pl W hd b s pc' c' kn o t m3 M3 j := by
      refine ⟨h.tx.cong (fun q k a => hC q k (by omega) (by omega) (by omega) (by omega)) (fun q k a => g12 q k (by omega) (by omega)), by rw [hC 21 4 (by omega) (by omega) (by omega) (by omega)]; exact h.f0, by rw [g12 109 21 (by omega) (by omega)]; exact h.f1, by rw [hC 21 6 (by omega) (by omega) (by omega) (by omega)]; exact h.dr, by rw [hC hd 11 (by omega) (by omega) (by omega) (by omega)]; exact h.k1, by rw [g12 109 7 (by omega) (by omega)]; exact h.k2, h.k3, g6, g5, by rw [hC 21 9 (by omega) (by omega) (by omega) (by omega)]; exact h.o1, by rw [g12 109 27 (by omega) (by omega)]; exact h.o2, h.o3, by rw [g7]; exact h.ko, hls, fun k x y => ?_, ?_, fun k x => h.sg k (by omega), ?_, ?_, by rw [if_neg h25]; exact g8, hct⟩
      · have := lev_lt x y
        rw [hls] at this
        rw [hC 23 _ (by omega) (by omega) (by omega) (by omega)]
        exact h.cm k (by omega) (Or.inr y)
      · by_cases z : rkT t ≤ 4
        · rw [hF23 z]
          by_cases z2 : rkT t = 4
          · rw [decide_eq_true z2, Bool.true_or]
          · rw [hct (by omega), Bool.or_false]
        · have z5 : rkT t = 5 := by omega
          rw [decide_eq_false (by omega), Bool.false_or, g11 23 o (by omega) (by omega) (by omega)]
          unfold flJ
          rw [jup_no (by omega), jup_no (by omega), if_neg z, hcm, show cmpT s pc = cmpT s pc' from cmp_same g3 fun k x y => ⟨(g10 k x y).1, by have := (g10 k x y).2; omega⟩]
      · rw [g11 21 11 (by omega) (by omega) (by omega)]; exact jup_at
      · rw [g11 21 12 (by omega) (by omega) (by omega)]
        unfold flJ
        rw [jup_no (by omega)]; exact jup_at
    obtain ⟨m', M', w1, w2, w3, w4⟩ := hy.go (c0 := c0) hh ts (by omega) hT ht
    have eset : f_R_settle (nI (rkT t)) (flJ o (rkT t) m) = some ((), m3) := by
      unfold f_R_settle
      rw [flJ_ne (by omega) (by omega), h.pd.p1]
      exact g1
    have eT : f_R_takeJoint m = some ((), m') := by
      rw [e_takeJoint ht h25 htok h.o1 ho8 (fun z => by rw [hcm, hcl z]; rfl), eset, jbd_s, w1, jbd_s]
    have ep : f_M_pour (nI (if rkT t = 4 then 5 else rkT t)) M = some ((), M3) := g2
    have f21 : M3 109 21 = nI 0 := hy.f1
    have eM : f_M_sign (nI (sgP t)) M = jbd (f_M_knot M3) fun u17 m18 => if (m18 109 21) = nI 0 then jbd (f_M_awaits (nI (sgP t)) m18) fun u19 m20 => some ((), m20) else some ((), m18) := by
      unfold f_M_sign
      simp only [lits]
      rw [ebd, jbd_s]
      by_cases z : rkT t = 4
      · rw [if_pos z] at ep
        rw [z, if_pos rfl, ep, jbd_s, g5.p2]
        by_cases z2 : pc' = 0
        · rw [z2, if_pos (by decide), f21, if_pos rfl]
        · obtain ⟨p, rfl⟩ : ∃ p, pc' = p + 1 := ⟨pc' - 1, by omega⟩
          obtain ⟨b1, b2, b3⟩ := g5.p3 p (by omega)
          have hr5 := rk_p b1
          rw [Nat.add_sub_cancel] at g9
          have hne : ¬ rkT (s p) = 4 := by
            rcases g9 with y | y | y
            · omega
            · have := hr5.2.2.1 y; omega
            · omega
          rw [if_neg (nI_ge (by omega) (by omega)), nn1, ld_117 (by omega), b3, e_bind b1, jbd_s, if_neg (fun y => hne (nI_ij (by omega) (by omega) y)), f21, if_pos rfl]
      · rw [if_neg z] at ep
        rw [if_neg (fun y => z (nI_ij (by omega) (by omega) y)), ebd, jbd_s, ep, jbd_s, f21, if_pos rfl]
    rcases w4 with ⟨hk, w5, s', pc2, kn', w6⟩ | ⟨hk, w5, w6⟩
    · refine ⟨m', M', eT, ?_, (frE_J.tr (frE_S hc0 g11)).tr w2, (frF_P hc0 g12).tr w3, Or.inl ⟨s', pc2, c', kn', o, by omega, w6⟩⟩
      rw [eM, e_knot hy.k2 hk, jbd_s, jup_no (by omega), f21, if_pos rfl, w5, jbd_s]
    · refine ⟨m', M', eT, ?_, (frE_J.tr (frE_S hc0 g11)).tr w2, (frF_P hc0 g12).tr w3, Or.inr w6⟩
      rw [eM, e_knot64 (by rw [hy.k2, hk]) hy.tx.pl f21, jbd_s, wr21, if_neg (by decide), w5]
/-- a bracket closed -/
theorem sim_close (hh : hd = 3 ∨ hd = 12) (ts : TS B n K T Pl W) (h : EX B n K T Pl W hd b s pc c kn o false m M j) (hc0 : c0 ≤ c) (hT : T j = nI 1006) (ho : 0 < o) : ∃ m' M2 M', f_R_closeBracket m = some ((), m') ∧ f_M_pour (nI 1) M = some ((), M2) ∧ f_M_next (jup (jup M2 109 26 ((M2 109 26) - nI 1)) 109 27 (((jup M2 109 26 ((M2 109 26) - nI 1)) 109 27) - nI 1)) = some ((), M') ∧ frE hd c0 m m' ∧ frF c0 M M' ∧ EXs B n K T Pl W hd b c0 false m' M' (j + 1) := by
  obtain ⟨p72, p64⟩ := h.pc72
  have hdp : DP (m (hd + 6)) b c (biN s pc + 1) := h.dp
  have ho8 := h.o3
  have hj := tok_rg h.tx hT ts (by omega) (by omega)
  obtain ⟨m3, M3, pc', c', g1, g2, g3, g4, g5, g6, g7, g8, g9, g10, g11, g12⟩ := sim_settle (r := 0) (l := 1) hh (by omega) (by omega) (by omega) pc c 5000 5000 m M (by omega) (by omega) p72 h.pd h.cd p64 h.dr hdp (fun k x y z => by
    have := (rk_p (h.pd.p3 k x).1).2.1 z
    omega)
  have hls : levP s pc' = o := by
    rw [← h.lv]
    exact (lev_same g3 fun k x y => (g10 k x y).1).symm
  have hp0 : ¬ pc' = 0 := fun z => by
    rw [z] at hls
    have : levP s 0 = 0 := rfl
    omega
  obtain ⟨p, rfl⟩ : ∃ p, pc' = p + 1 := ⟨pc' - 1, by omega⟩
  rw [Nat.add_sub_cancel] at g9
  have h5 : s p = 1005 := by
    rcases g9 with y | y | y
    · omega
    · exact y
    · omega
  have hlp : levP s p + 1 = o := by
    rw [lev_s, if_pos h5] at hls
    exact hls
  obtain ⟨o', rfl⟩ : ∃ o', o = o' + 1 := ⟨o - 1, by omega⟩
  have eset : f_R_settle (nI 0) m = some ((), m3) := by
    unfold f_R_settle
    rw [h.pd.p1]
    exact g1
  have e9 : m3 21 9 = nI (o' + 1) := by rw [g11 21 9 (by omega) (by omega) (by omega)]; exact h.o1
  have e27 : M3 109 27 = nI (o' + 1) := by rw [g12 109 27 (by omega) (by omega)]; exact h.o2
  have hx : EX B n K T Pl W hd b s p c' kn o' false (jup (jup m3 21 8 (nI p)) 21 9 (nI o')) (jup (jup M3 109 26 (nI p)) 109 27 (nI o')) j := by
    have hC : ∀ q k, ¬ (q = 21 ∧ (k = 8 ∨ k = 9)) → jup (jup m3 21 8 (nI p)) 21 9 (nI o') q k = m3 q k := fun q k a => by rw [jup_no (by omega), jup_no (by omega)]
    have hM : ∀ q k, ¬ (q = 109 ∧ (k = 26 ∨ k = 27)) → jup (jup M3 109 26 (nI p)) 109 27 (nI o') q k = M3 q k := fun q k a => by rw [jup_no (by omega), jup_no (by omega)]
    have hbi : biN s (p + 1) = biN s p := by rw [bin_s, if_neg (fun z => by omega), Nat.add_zero]
    have hno : noP s (p + 1) = noP s p := by rw [nop_s, if_pos h5, Nat.add_zero]
    refine ⟨h.tx.cong (fun q k a => ?_) (fun q k a => ?_), ?_, ?_, ?_, ?_, ?_, h.k3, ?_, ?_, jup_at, jup_at, by omega, ?_, by omega, fun k x y => ?_, fun k x => h.sg k (by omega), ?_, fun z => absurd z Bool.false_ne_true, ?_⟩
    · rw [hC q k (by omega), g11 q k (by omega) (by omega) (by omega)]
    · rw [hM q k (by omega), g12 q k (by omega) (by omega)]
    · rw [hC 21 4 (by omega), g11 21 4 (by omega) (by omega) (by omega)]; exact h.f0
    · rw [hM 109 21 (by omega), g12 109 21 (by omega) (by omega)]; exact h.f1
    · rw [hC 21 6 (by omega), g11 21 6 (by omega) (by omega) (by omega)]; exact h.dr
    · rw [hC hd 11 (by omega), g11 hd 11 (by omega) (by omega) (by omega)]; exact h.k1
    · rw [hM 109 7 (by omega), g12 109 7 (by omega) (by omega)]; exact h.k2
    · exact g6.cong (hC hd 10 (by omega)) (fun k _ => ⟨hC (hd + 6) k (by omega), hC (hd + 7) k (by omega)⟩) (hM 109 5 (by omega)) (fun k _ => ⟨hM 111 _ (by omega), hM 112 _ (by omega)⟩)
    · refine ⟨?_, ?_, fun k x => ?_⟩
      · rw [jup_no (by omega)]; exact jup_at
      · rw [jup_no (by omega)]; exact jup_at
      · rw [hC 22 k (by omega), hM 117 k (by omega)]
        exact g5.p3 k (by omega)
    · rw [← hno, g7]; exact h.ko
    · have hs5 : s k = 1005 := by
        rcases y with y | y
        · rw [y]; exact h5
        · exact y
      rw [hC 23 _ (by omega), g11 23 _ (by omega) (by omega) (by omega)]
      exact h.cm k (by omega) (Or.inr hs5)
    · rw [hC 21 11 (by omega), g11 21 11 (by omega) (by omega) (by omega)]; exact h.du
    · rw [if_neg Bool.false_ne_true, ← hbi]
      exact g8.cong fun k _ => hC (hd + 6) k (by omega)
  obtain ⟨M', e1, e2, e3, e4, e5⟩ := hx.step (c0 := c0) hh ts hj
  refine ⟨_, M3, M', ?_, g2, ?_, ((frE_S hc0 g11).tr (fun q k a _ _ _ => ?_)).tr e4, ((frF_P hc0 g12).tr (fun q k a _ _ => ?_)).tr e5, ⟨s, p, c', kn, o', by omega, e3⟩⟩
  · unfold f_R_closeBracket
    simp only [lits]
    rw [eset, jbd_s, g5.p1, if_neg (nI_ge (by omega) (by omega)), nn1, jpu_e, jup_no (by omega), e9, nn1, jpu_e, hx.tx.at, nI_add, e1, jbd_s]
  · rw [g5.p2, nn1, jup_no (by omega), e27, nn1]
    exact e2
  · rw [jup_no (by omega), jup_no (by omega)]
  · rw [jup_no (by omega), jup_no (by omega)]
end JN
