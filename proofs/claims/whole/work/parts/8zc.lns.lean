/-! line by line, on both sides; what the reference copies -/
section LN
variable {B : Nat → Nat} {n K : Nat} {T Pl W : Nat → Int32} {hd : Nat}
theorem sim_lns (hh : hd = 3 ∨ hd = 12) (ts : TS B n K T Pl W) {k120 k128 : jMem → Option (Int32 × jMem)} : ∀ (D f f' i : Nat) (m M : jMem) (j c H L : Nat), K - j ≤ D → D + 2 < f → D + 2 < f' → i ≤ j → LX B n K T Pl W hd m M j c H L → ∃ m' M', lp_R_takes_37 k120 f (nI i) m = k120 m' ∧ lp_M_text_106 k128 f' M = k128 M' ∧ frL hd m m' ∧ frN M M' ∧ ((∃ j c H L, LX B n K T Pl W hd m' M' j c H L) ∨ FF m' M') := by
  intro D
  induction D with
  | zero =>
    intro f f' i m M j c H L hD hf hf' hi h
    obtain ⟨f, rfl⟩ := ex_succ (by omega : 0 < f)
    obtain ⟨f', rfl⟩ := ex_succ (by omega : 0 < f')
    have n4 := ts.n4
    have Kn := ts.Kn
    have jK := h.tx.jK
    have hT : T j = nI 1001 := by rw [show j = K by omega]; exact ts.tK
    obtain ⟨τ, t1, t2, t3, h19, -⟩ := h.tx.tk
    obtain rfl : τ = 1001 := nI_ij (by omega) (by omega) (t3.symm.trans hT)
    refine ⟨m, M, ?_, ?_, fun _ _ _ _ _ => rfl, fun _ _ _ _ _ _ _ => rfl, Or.inl ⟨j, c, H, L, h⟩⟩
    · rw [lp_R_takes_37]
      simp only [lits]
      rw [h.tx.cn, if_neg (nI_ge (by omega) (by omega)), h.f0, if_pos rfl, h.tx.tok, hT, nI_clamp (by omega), jgd_ok (by omega) (by omega), if_pos rfl]
    · rw [lp_M_text_106]
      simp only [lits]
      rw [h.f1, if_pos rfl, h19]; rfl
  | succ D ih =>
    intro f f' i m M j c H L hD hf hf' hi h
    obtain ⟨f, rfl⟩ := ex_succ (by omega : 0 < f)
    obtain ⟨f', rfl⟩ := ex_succ (by omega : 0 < f')
    have n4 := ts.n4
    have Kn := ts.Kn
    have jK := h.tx.jK
    obtain ⟨τ, t1, t2, hT, h19, -, h20, -⟩ := h.tx.tk
    obtain ⟨x, rfl⟩ : ∃ x, τ = 1001 + x := ⟨τ - 1001, by omega⟩
    have tok : m 21 2 = nI (1001 + x) := h.tx.tok.trans hT
    obtain ⟨u1, u2, u3, u4, u5, u6⟩ := vl_2 x (by omega)
    by_cases q0 : x = 0
    · subst q0
      refine ⟨m, M, ?_, ?_, fun _ _ _ _ _ => rfl, fun _ _ _ _ _ _ _ => rfl, Or.inl ⟨j, c, H, L, h⟩⟩
      · rw [lp_R_takes_37]
        simp only [lits]
        rw [h.tx.cn, if_neg (nI_ge (by omega) (by omega)), h.f0, if_pos rfl, tok, nI_clamp (by omega), jgd_ok (by omega) (by omega), if_pos rfl]
      · rw [lp_M_text_106]
        simp only [lits]
        rw [h.f1, if_pos rfl, h19]; rfl
    · have hj := tok_rg h.tx hT ts (by omega) (by omega)
      have stopC : ∀ v m1 M1, FF m1 M1 → lp_R_takes_37 k120 f v m1 = k120 m1 := fun v m1 M1 g => by
        obtain ⟨f, rfl⟩ := ex_succ (by omega : 0 < f)
        obtain ⟨⟨k, k1, k2, k3, k4⟩, -⟩ := g
        rw [lp_R_takes_37]
        simp only [lits]
        by_cases z : m1 24 5 ≤ v
        · rw [if_pos z]
        · rw [if_neg z, k3, if_neg (fun z => by have := nI_ij (by omega) (by omega) z; omega)]
      have stopM : ∀ m1 M1, FF m1 M1 → lp_M_text_106 k128 f' M1 = k128 M1 := fun m1 M1 g => by
        obtain ⟨f', rfl⟩ := ex_succ (by omega : 0 < f')
        obtain ⟨⟨k, k1, k2, k3, k4⟩, -⟩ := g
        rw [lp_M_text_106]
        simp only [lits]
        rw [k4, if_neg (fun z => by have := nI_ij (by omega) (by omega) z; omega)]
      have eM : ∀ M1, f_M_line M = some ((), M1) → lp_M_text_106 k128 (f' + 1) M = lp_M_text_106 k128 f' M1 := fun M1 e => by
        rw [lp_M_text_106]
        simp only [lits]
        rw [h.f1, if_pos rfl, h19, if_neg (fun z => q0 (u4.mp (nI_ij (by omega) (by omega) z))), e, jbd_s]
      have fin : ∀ m1 M1, f_M_line M = some ((), M1) → lp_R_takes_37 k120 (f + 1) (nI i) m = lp_R_takes_37 k120 f (nI (i + 1)) m1 → frL hd m m1 → frN M M1 → ((∃ j' c' H' L', j < j' ∧ LX B n K T Pl W hd m1 M1 j' c' H' L') ∨ FF m1 M1) → ∃ m' M', lp_R_takes_37 k120 (f + 1) (nI i) m = k120 m' ∧ lp_M_text_106 k128 (f' + 1) M = k128 M' ∧ frL hd m m' ∧ frN M M' ∧ ((∃ j c H L, LX B n K T Pl W hd m' M' j c H L) ∨ FF m' M') := fun m1 M1 g1 g2 g3 g4 g5 => by
        rcases g5 with ⟨j', c', H', L', g5, g6⟩ | g5
        · obtain ⟨m', M', w1, w2, w3, w4, w5⟩ := ih f f' (i + 1) m1 M1 j' c' H' L' (by omega) (by omega) (by omega) (by omega) g6
          exact ⟨m', M', g2.trans w1, (eM M1 g1).trans w2, g3.tr w3, g4.tr w4, w5⟩
        · exact ⟨m1, M1, g2.trans (stopC _ _ _ g5), (eM M1 g1).trans (stopM _ _ g5), g3, g4, Or.inr g5⟩
      by_cases q6 : x = 6
      · subst q6
        obtain ⟨m1, M1, g1, g2, g3, g4, g5⟩ := sim_rule hh ts h hT
        refine fin m1 M1 g2 ?_ g3 g4 (g5.imp (fun ⟨j', a, b⟩ => ⟨j', c, H, L + 1, a, b⟩) id)
        rw [lp_R_takes_37]
        simp only [lits]
        rw [h.tx.cn, if_neg (nI_ge (by omega) (by omega)), h.f0, if_pos rfl, tok, nI_clamp (by omega), jgd_ok (by omega) (by omega), if_neg (by omega), jgd_ok (by omega) (by omega), if_pos rfl, g1, jbd_s, nI_add]
      · by_cases q7 : x = 7
        · subst q7
          obtain ⟨m1, M1, g1, g2, g3, g4, g5⟩ := sim_habit hh ts h false hT
          refine fin m1 M1 g2 ?_ g3 g4 (g5.imp (fun ⟨j', c', a, b⟩ => ⟨j', c', H + 1, L + 1, a, b⟩) id)
          rw [lp_R_takes_37]
          simp only [lits]
          rw [h.tx.cn, if_neg (nI_ge (by omega) (by omega)), h.f0, if_pos rfl, tok, nI_clamp (by omega), jgd_ok (by omega) (by omega), if_neg (by omega), jgd_ok (by omega) (by omega), if_neg (by omega), jgd_ok (by omega) (by omega), if_pos rfl, g1, jbd_s, nI_add]
        · by_cases q8 : x = 8
          · subst q8
            obtain ⟨m1, M1, g1, g2, g3, g4, g5⟩ := sim_habit hh ts h true hT
            refine fin m1 M1 g2 ?_ g3 g4 (g5.imp (fun ⟨j', c', a, b⟩ => ⟨j', c', H + 1, L + 1, a, b⟩) id)
            rw [lp_R_takes_37]
            simp only [lits]
            rw [h.tx.cn, if_neg (nI_ge (by omega) (by omega)), h.f0, if_pos rfl, tok, nI_clamp (by omega), jgd_ok (by omega) (by omega), if_neg (by omega), jgd_ok (by omega) (by omega), if_neg (by omega), jgd_ok (by omega) (by omega), if_neg (by omega), jgd_ok (by omega) (by omega), if_pos rfl, g1, jbd_s, nI_add]
          · refine fin (flC 1 (Pl j) m) (wrM 1 (Pl j) M) ?_ ?_ (frT_fl : frT m _).ln (frU_wr : frU M _).nn (Or.inr (FF.fl (by omega) (by omega)))
            · unfold f_M_line
              simp only [lits]
              rw [h19]
              by_cases z : soT (1001 + x) = 0
              · have hr := u1.mp z
                have v7 := (vl_7 x (by omega) (by omega)).2.2.2.1
                rw [z, if_pos rfl, h20 (by omega), if_neg (fun y => ?_), e_wrong h.tx h.f1, jbd_s]
                refine absurd (v7.mp (Nat.le_of_not_lt fun w => nI_ge w (by omega) y)) (by omega)
              · rw [if_neg (fun y => z (nI_ij (by omega) (by omega) y)), e_wrong h.tx h.f1, jbd_s]
            · rw [lp_R_takes_37]
              simp only [lits]
              rw [h.tx.cn, if_neg (nI_ge (by omega) (by omega)), h.f0, if_pos rfl, tok, nI_clamp (by omega), jgd_ok (by omega) (by omega), if_neg (by omega), jgd_ok (by omega) (by omega), if_neg (by omega), jgd_ok (by omega) (by omega), if_neg (by omega), jgd_ok (by omega) (by omega), if_neg (by omega), e_fail ts h.tx, jbd_s, nI_add]
theorem lp_t80 {k102 : jMem → Option (Int32 × jMem)} : ∀ (d f i : Nat) (M : jMem), i + d = 6 → d < f → ∃ M', lp_M_text_80 k102 f (nI i) M = k102 M' ∧ (∀ q k, ¬ (q = 116 ∧ 6 + i ≤ k) → M' q k = M q k) ∧ ∀ w, i ≤ w → w < 6 → M' 116 (6 + w) = nI 1 := by
  intro d
  induction d with
  | zero =>
    intro f i M hi hf
    obtain ⟨f, rfl⟩ := ex_succ hf
    refine ⟨M, ?_, fun q k _ => rfl, fun w a b => absurd b (by omega)⟩
    rw [show i = 6 by omega, lp_M_text_80]
    simp only [lits]
    rw [if_pos (nI_le (by omega) (by omega))]
  | succ d ih =>
    intro f i M hi hf
    obtain ⟨f, rfl⟩ := ex_succ hf
    obtain ⟨M', g1, g2, g3⟩ := ih f (i + 1) (jup M 116 (6 + i) (nI 1)) (by omega) (by omega)
    refine ⟨M', ?_, fun q k a => by rw [g2 q k (by omega), jup_no (by omega)], fun w a b => ?_⟩
    · rw [← g1, lp_M_text_80]
      simp only [lits]
      rw [if_neg (nI_ge (by omega) (by omega)), nI_add, st_116 (by omega), nI_add]
    · by_cases y : w = i
      · rw [g2 _ _ (by omega), y, jup_at]
      · exact g3 w (by omega) b
theorem lp_t155 {k197 : jMem → Option (Int32 × jMem)} : ∀ (d f i : Nat) (M : jMem), i + d = 64 → d < f → ∃ M', lp_M_text_155 k197 f (nI i) M = k197 M' ∧ (∀ q k, ¬ ((q = 111 ∨ q = 112) ∧ i ≤ k ∧ k < 64) → M' q k = M q k) ∧ ∀ k, i ≤ k → k < 64 → M' 111 k = M 111 (64 + k) ∧ M' 112 k = M 112 (64 + k) := by
  intro d
  induction d with
  | zero =>
    intro f i M hi hf
    obtain ⟨f, rfl⟩ := ex_succ hf
    refine ⟨M, ?_, fun q k _ => rfl, fun w a b => absurd b (by omega)⟩
    rw [show i = 64 by omega, lp_M_text_155]
    simp only [lits]
    rw [if_pos (nI_le (by omega) (by omega))]
  | succ d ih =>
    intro f i M hi hf
    obtain ⟨f, rfl⟩ := ex_succ hf
    obtain ⟨M', g1, g2, g3⟩ := ih f (i + 1) (jup (jup M 111 i (M 111 (64 + i))) 112 i (M 112 (64 + i))) (by omega) (by omega)
    refine ⟨M', ?_, fun q k a => by rw [g2 q k (by omega), jup_no (by omega), jup_no (by omega)], fun w a b => ?_⟩
    · rw [← g1, lp_M_text_155]
      simp only [lits]
      rw [if_neg (nI_ge (by omega) (by omega)), nI_add, ld_111 (by omega), st_111 (by omega), ld_112 (by omega), st_112 (by omega), jup_no (by omega), nI_add]
    · by_cases y : w = i
      · subst y
        rw [g2 _ _ (by omega), g2 _ _ (by omega), jup_at, jup_no (by omega), jup_at]
        exact ⟨rfl, rfl⟩
      · rw [(g3 w (by omega) b).1, (g3 w (by omega) b).2, jup_no (by omega), jup_no (by omega), jup_no (by omega), jup_no (by omega)]
        exact ⟨rfl, rfl⟩
theorem lp_t199 {k256 : jMem → Option (Int32 × jMem)} : ∀ (d f i : Nat) (M : jMem), i + d = 9 → d < f → ∃ M', lp_M_text_199 k256 f (nI i) M = k256 M' ∧ (∀ q k, ¬ ((113 ≤ q ∧ q ≤ 115) ∧ i ≤ k ∧ k < 9) → M' q k = M q k) ∧ ∀ k, i ≤ k → k < 9 → M' 113 k = jbz (M 113 (9 + k)) ∧ M' 114 k = M 114 (9 + k) ∧ M' 115 k = M 115 (9 + k) := by
  intro d
  induction d with
  | zero =>
    intro f i M hi hf
    obtain ⟨f, rfl⟩ := ex_succ hf
    refine ⟨M, ?_, fun q k _ => rfl, fun w a b => absurd b (by omega)⟩
    rw [show i = 9 by omega, lp_M_text_199]
    simp only [lits]
    rw [if_pos (nI_le (by omega) (by omega))]
  | succ d ih =>
    intro f i M hi hf
    obtain ⟨f, rfl⟩ := ex_succ hf
    obtain ⟨M', g1, g2, g3⟩ := ih f (i + 1) (jup (jup (jup M 113 i (jbz (M 113 (9 + i)))) 114 i (M 114 (9 + i))) 115 i (M 115 (9 + i))) (by omega) (by omega)
    refine ⟨M', ?_, fun q k a => by rw [g2 q k (by omega), jup_no (by omega), jup_no (by omega), jup_no (by omega)], fun w a b => ?_⟩
    · rw [← g1, lp_M_text_199]
      simp only [lits]
      rw [if_neg (nI_ge (by omega) (by omega)), nI_add, ld_113 (by omega), st_113 (by omega), ld_114 (by omega), st_114 (by omega), jup_no (by omega), ld_115 (by omega), st_115 (by omega), jup_no (by omega), jup_no (by omega), nI_add]
    · by_cases y : w = i
      · subst y
        refine ⟨?_, ?_, ?_⟩
        · rw [g2 _ _ (by omega), jup_no (by omega), jup_no (by omega), jup_at]
        · rw [g2 _ _ (by omega), jup_no (by omega), jup_at]
        · rw [g2 _ _ (by omega), jup_at]
      · obtain ⟨z1, z2, z3⟩ := g3 w (by omega) b
        refine ⟨?_, ?_, ?_⟩
        · rw [z1, jup_no (by omega), jup_no (by omega), jup_no (by omega)]
        · rw [z2, jup_no (by omega), jup_no (by omega), jup_no (by omega)]
        · rw [z3, jup_no (by omega), jup_no (by omega), jup_no (by omega)]
theorem lp_t258 {k285 : jMem → Option (Int32 × jMem)} : ∀ (d f i : Nat) (M : jMem), i + d = 6 → d < f → ∃ M', lp_M_text_258 k285 f (nI i) M = k285 M' ∧ (∀ q k, ¬ (q = 116 ∧ i ≤ k ∧ k < 6) → M' q k = M q k) ∧ ∀ k, i ≤ k → k < 6 → M' 116 k = M 116 (6 + k) := by
  intro d
  induction d with
  | zero =>
    intro f i M hi hf
    obtain ⟨f, rfl⟩ := ex_succ hf
    refine ⟨M, ?_, fun q k _ => rfl, fun w a b => absurd b (by omega)⟩
    rw [show i = 6 by omega, lp_M_text_258]
    simp only [lits]
    rw [if_pos (nI_le (by omega) (by omega))]
  | succ d ih =>
    intro f i M hi hf
    obtain ⟨f, rfl⟩ := ex_succ hf
    obtain ⟨M', g1, g2, g3⟩ := ih f (i + 1) (jup M 116 i (M 116 (6 + i))) (by omega) (by omega)
    refine ⟨M', ?_, fun q k a => by rw [g2 q k (by omega), jup_no (by omega)], fun w a b => ?_⟩
    · rw [← g1, lp_M_text_258]
      simp only [lits]
      rw [if_neg (nI_ge (by omega) (by omega)), nI_add, ld_116 (by omega), st_116 (by omega), nI_add]
    · by_cases y : w = i
      · rw [g2 _ _ (by omega), y, jup_at]
      · rw [g3 w (by omega) b, jup_no (by omega)]
end LN
