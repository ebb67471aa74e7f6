/-! an expression on both sides: what a token does -/
/-- before the token t is laid to those that wait -/
def EY (B : Nat → Nat) (n K : Nat) (T Pl W : Nat → Int32) (hd b : Nat) (s : Nat → Nat) (pc c kn o t : Nat) (m M : jMem) (j : Nat) : Prop := (TX B n K T Pl W m M j) ∧ (m 21 4 = nI 0) ∧ (M 109 21 = nI 0) ∧ (m 21 6 = nI hd) ∧ (m hd 11 = nI kn) ∧ (M 109 7 = nI kn) ∧ (kn ≤ 64) ∧ (CD hd c m M) ∧ (PD s pc m M) ∧ (m 21 9 = nI o) ∧ (M 109 27 = nI o) ∧ (o ≤ 8) ∧ (c + noP s pc = kn) ∧ (levP s pc = o) ∧ (∀ k, k < pc → s k = 1005 → m 23 (levP s k) = tI (cmpT s k)) ∧ (m 23 o = tI (decide (rkT t = 4) || cmpT s pc)) ∧ (∀ k, k < pc → ¬ s k = 1005 → rkT (s k) < 4 → cmpT s k = false) ∧ (m 21 11 = nI 1) ∧ (m 21 12 = tI (decide (rkT t < 4))) ∧ (DP (m (hd + 6)) b c (biN s pc + (if t = 1025 then 0 else 1))) ∧ (rkT t < 4 → cmpT s pc = false)
theorem EY.tx {B : Nat → Nat} {n K : Nat} {T Pl W : Nat → Int32} {hd b : Nat} {s : Nat → Nat} {pc c kn o t : Nat} {m M : jMem} {j : Nat} (h : EY B n K T Pl W hd b s pc c kn o t m M j) : TX B n K T Pl W m M j := h.1
theorem EY.f0 {B : Nat → Nat} {n K : Nat} {T Pl W : Nat → Int32} {hd b : Nat} {s : Nat → Nat} {pc c kn o t : Nat} {m M : jMem} {j : Nat} (h : EY B n K T Pl W hd b s pc c kn o t m M j) : m 21 4 = nI 0 := h.2.1
theorem EY.f1 {B : Nat → Nat} {n K : Nat} {T Pl W : Nat → Int32} {hd b : Nat} {s : Nat → Nat} {pc c kn o t : Nat} {m M : jMem} {j : Nat} (h : EY B n K T Pl W hd b s pc c kn o t m M j) : M 109 21 = nI 0 := h.2.2.1
theorem EY.dr {B : Nat → Nat} {n K : Nat} {T Pl W : Nat → Int32} {hd b : Nat} {s : Nat → Nat} {pc c kn o t : Nat} {m M : jMem} {j : Nat} (h : EY B n K T Pl W hd b s pc c kn o t m M j) : m 21 6 = nI hd := h.2.2.2.1
theorem EY.k1 {B : Nat → Nat} {n K : Nat} {T Pl W : Nat → Int32} {hd b : Nat} {s : Nat → Nat} {pc c kn o t : Nat} {m M : jMem} {j : Nat} (h : EY B n K T Pl W hd b s pc c kn o t m M j) : m hd 11 = nI kn := h.2.2.2.2.1
theorem EY.k2 {B : Nat → Nat} {n K : Nat} {T Pl W : Nat → Int32} {hd b : Nat} {s : Nat → Nat} {pc c kn o t : Nat} {m M : jMem} {j : Nat} (h : EY B n K T Pl W hd b s pc c kn o t m M j) : M 109 7 = nI kn := h.2.2.2.2.2.1
theorem EY.k3 {B : Nat → Nat} {n K : Nat} {T Pl W : Nat → Int32} {hd b : Nat} {s : Nat → Nat} {pc c kn o t : Nat} {m M : jMem} {j : Nat} (h : EY B n K T Pl W hd b s pc c kn o t m M j) : kn ≤ 64 := h.2.2.2.2.2.2.1
theorem EY.cd {B : Nat → Nat} {n K : Nat} {T Pl W : Nat → Int32} {hd b : Nat} {s : Nat → Nat} {pc c kn o t : Nat} {m M : jMem} {j : Nat} (h : EY B n K T Pl W hd b s pc c kn o t m M j) : CD hd c m M := h.2.2.2.2.2.2.2.1
theorem EY.pd {B : Nat → Nat} {n K : Nat} {T Pl W : Nat → Int32} {hd b : Nat} {s : Nat → Nat} {pc c kn o t : Nat} {m M : jMem} {j : Nat} (h : EY B n K T Pl W hd b s pc c kn o t m M j) : PD s pc m M := h.2.2.2.2.2.2.2.2.1
theorem EY.o1 {B : Nat → Nat} {n K : Nat} {T Pl W : Nat → Int32} {hd b : Nat} {s : Nat → Nat} {pc c kn o t : Nat} {m M : jMem} {j : Nat} (h : EY B n K T Pl W hd b s pc c kn o t m M j) : m 21 9 = nI o := h.2.2.2.2.2.2.2.2.2.1
theorem EY.o2 {B : Nat → Nat} {n K : Nat} {T Pl W : Nat → Int32} {hd b : Nat} {s : Nat → Nat} {pc c kn o t : Nat} {m M : jMem} {j : Nat} (h : EY B n K T Pl W hd b s pc c kn o t m M j) : M 109 27 = nI o := h.2.2.2.2.2.2.2.2.2.2.1
theorem EY.o3 {B : Nat → Nat} {n K : Nat} {T Pl W : Nat → Int32} {hd b : Nat} {s : Nat → Nat} {pc c kn o t : Nat} {m M : jMem} {j : Nat} (h : EY B n K T Pl W hd b s pc c kn o t m M j) : o ≤ 8 := h.2.2.2.2.2.2.2.2.2.2.2.1
theorem EY.ko {B : Nat → Nat} {n K : Nat} {T Pl W : Nat → Int32} {hd b : Nat} {s : Nat → Nat} {pc c kn o t : Nat} {m M : jMem} {j : Nat} (h : EY B n K T Pl W hd b s pc c kn o t m M j) : c + noP s pc = kn := h.2.2.2.2.2.2.2.2.2.2.2.2.1
theorem EY.lv {B : Nat → Nat} {n K : Nat} {T Pl W : Nat → Int32} {hd b : Nat} {s : Nat → Nat} {pc c kn o t : Nat} {m M : jMem} {j : Nat} (h : EY B n K T Pl W hd b s pc c kn o t m M j) : levP s pc = o := h.2.2.2.2.2.2.2.2.2.2.2.2.2.1
theorem EY.cm {B : Nat → Nat} {n K : Nat} {T Pl W : Nat → Int32} {hd b : Nat} {s : Nat → Nat} {pc c kn o t : Nat} {m M : jMem} {j : Nat} (h : EY B n K T Pl W hd b s pc c kn o t m M j) : ∀ k, k < pc → s k = 1005 → m 23 (levP s k) = tI (cmpT s k) := h.2.2.2.2.2.2.2.2.2.2.2.2.2.2.1
theorem EY.co {B : Nat → Nat} {n K : Nat} {T Pl W : Nat → Int32} {hd b : Nat} {s : Nat → Nat} {pc c kn o t : Nat} {m M : jMem} {j : Nat} (h : EY B n K T Pl W hd b s pc c kn o t m M j) : m 23 o = tI (decide (rkT t = 4) || cmpT s pc) := h.2.2.2.2.2.2.2.2.2.2.2.2.2.2.2.1
theorem EY.sg {B : Nat → Nat} {n K : Nat} {T Pl W : Nat → Int32} {hd b : Nat} {s : Nat → Nat} {pc c kn o t : Nat} {m M : jMem} {j : Nat} (h : EY B n K T Pl W hd b s pc c kn o t m M j) : ∀ k, k < pc → ¬ s k = 1005 → rkT (s k) < 4 → cmpT s k = false := h.2.2.2.2.2.2.2.2.2.2.2.2.2.2.2.2.1
theorem EY.du {B : Nat → Nat} {n K : Nat} {T Pl W : Nat → Int32} {hd b : Nat} {s : Nat → Nat} {pc c kn o t : Nat} {m M : jMem} {j : Nat} (h : EY B n K T Pl W hd b s pc c kn o t m M j) : m 21 11 = nI 1 := h.2.2.2.2.2.2.2.2.2.2.2.2.2.2.2.2.2.1
theorem EY.nm {B : Nat → Nat} {n K : Nat} {T Pl W : Nat → Int32} {hd b : Nat} {s : Nat → Nat} {pc c kn o t : Nat} {m M : jMem} {j : Nat} (h : EY B n K T Pl W hd b s pc c kn o t m M j) : m 21 12 = tI (decide (rkT t < 4)) := h.2.2.2.2.2.2.2.2.2.2.2.2.2.2.2.2.2.2.1
theorem EY.dp {B : Nat → Nat} {n K : Nat} {T Pl W : Nat → Int32} {hd b : Nat} {s : Nat → Nat} {pc c kn o t : Nat} {m M : jMem} {j : Nat} (h : EY B n K T Pl W hd b s pc c kn o t m M j) : DP (m (hd + 6)) b c (biN s pc + (if t = 1025 then 0 else 1)) := h.2.2.2.2.2.2.2.2.2.2.2.2.2.2.2.2.2.2.2.1
theorem EY.ct {B : Nat → Nat} {n K : Nat} {T Pl W : Nat → Int32} {hd b : Nat} {s : Nat → Nat} {pc c kn o t : Nat} {m M : jMem} {j : Nat} (h : EY B n K T Pl W hd b s pc c kn o t m M j) : rkT t < 4 → cmpT s pc = false := h.2.2.2.2.2.2.2.2.2.2.2.2.2.2.2.2.2.2.2.2
section EY
variable {B : Nat → Nat} {n K : Nat} {T Pl W : Nat → Int32} {hd b : Nat} {s : Nat → Nat} {pc c kn o t : Nat} {m M : jMem} {j : Nat}
theorem EY.pc72 (h : EY B n K T Pl W hd b s pc c kn o t m M j) : pc ≤ kn + o := by
  have h1 := h.ko
  have h4 := h.lv
  have h5 := nop_lev (s := s) (pc := pc)
  omega
theorem EY.push (hh : hd = 3 ∨ hd = 12) (h : EY B n K T Pl W hd b s pc c kn o t m M j) (hk : kn < 64) (ht : 1023 ≤ t ∧ t ≤ 1033) : EX B n K T Pl W hd b (psh s pc t) (pc + 1) c (kn + 1) o true (pnM pc t (jup m hd 11 (nI (kn + 1)))) (awM pc (sgP t) (jup M 109 7 (nI (kn + 1)))) j := by
  have hc : ∀ q k, ¬ (q = 21 ∧ k = 8) → ¬ (q = hd ∧ k = 11) → ¬ (q = 22 ∧ k = pc) → pnM pc t (jup m hd 11 (nI (kn + 1))) q k = m q k := fun q k a b d => by rw [pnM_ne d a, jup_no b]
  have hM : ∀ q k, ¬ (q = 109 ∧ (k = 26 ∨ k = 7)) → ¬ (q = 117 ∧ k = pc) → awM pc (sgP t) (jup M 109 7 (nI (kn + 1))) q k = M q k := fun q k a b => by rw [awM_ne b (by omega), jup_no (by omega)]
  have h5 : ¬ t = 1005 := by omega
  refine ⟨h.tx.cong (fun q k a => hc q k (by omega) (by omega) (by omega)) (fun q k a => hM q k (by omega) (by omega)), by rw [hc 21 4 (by omega) (by omega) (by omega)]; exact h.f0, by rw [hM 109 21 (by omega) (by omega)]; exact h.f1, by rw [hc 21 6 (by omega) (by omega) (by omega)]; exact h.dr, ?_, ?_, by omega, ?_, ?_, by rw [hc 21 9 (by omega) (by omega) (by omega)]; exact h.o1, by rw [hM 109 27 (by omega) (by omega)]; exact h.o2, h.o3, ?_, ?_, fun k h1 h2 => ?_, fun k h1 h2 h3 => ?_, by rw [hc 21 11 (by omega) (by omega) (by omega)]; exact h.du, fun _ => ?_, ?_⟩
  · rw [pnM_ne (by omega) (by omega)]; exact jup_at
  · rw [awM_ne (by omega) (by omega)]; exact jup_at
  · exact h.cd.cong (hc hd 10 (by omega) (by omega) (by omega)) (fun k _ => ⟨hc (hd + 6) k (by omega) (by omega) (by omega), hc (hd + 7) k (by omega) (by omega) (by omega)⟩) (hM 109 5 (by omega) (by omega)) (fun k _ => ⟨hM 111 _ (by omega) (by omega), hM 112 _ (by omega) (by omega)⟩)
  · exact PD.push (m := jup m hd 11 (nI (kn + 1))) (M := jup M 109 7 (nI (kn + 1))) (h.pd.cong (jup_no (by omega)) (jup_no (by omega)) (fun k _ => ⟨jup_no (by omega), jup_no (by omega)⟩)) (Or.inr ht)
  · rw [nop_s, nop_psh (Nat.le_refl pc), psh_at, if_neg h5]
    have := h.ko
    omega
  · rw [lev_s, lev_psh (Nat.le_refl pc), psh_at, if_neg h5]
    exact h.lv
  · by_cases q : k = pc + 1
    · subst q
      rw [lev_s, lev_psh (Nat.le_refl pc), psh_at, if_neg h5, h.lv, Nat.add_zero o, cmpT_s, psh_at, if_neg h5, cmp_psh (Nat.le_refl pc), hc 23 o (by omega) (by omega) (by omega)]
      exact h.co
    · have h3 := h2.resolve_left q
      by_cases q2 : k = pc
      · rw [q2, psh_at] at h3; exact absurd h3 h5
      · rw [psh_ne q2] at h3
        rw [lev_psh (by omega), cmp_psh (by omega), hc 23 _ (by omega) (by omega) (by omega)]
        exact h.cm k (by omega) h3
  · by_cases q : k = pc
    · subst q
      rw [psh_at] at h3
      rw [cmp_psh (Nat.le_refl k)]
      exact h.ct h3
    · rw [psh_ne q] at h2 h3
      rw [cmp_psh (by omega)]
      exact h.sg k (by omega) h2 h3
  · rw [hc 21 12 (by omega) (by omega) (by omega), Nat.add_sub_cancel, psh_at, decide_eq_false (by omega : ¬ pc + 1 = 0), Bool.false_or]
    exact h.nm
  · rw [bin_s, bin_psh (Nat.le_refl pc), psh_at, if_pos rfl, Nat.add_zero]
    have e : (if 1023 ≤ t ∧ ¬ t = 1025 then 1 else 0) = (if t = 1025 then 0 else 1) := by
      by_cases q : t = 1025
      · rw [if_pos q, if_neg (fun z => z.2 q)]
      · rw [if_neg q, if_pos ⟨ht.1, q⟩]
    rw [e]
    exact h.dp.cong fun k _ => hc (hd + 6) k (by omega) (by omega) (by omega)
theorem frE_pn {c0 : Nat} : frE hd c0 m (pnM pc t (jup m hd 11 (nI (kn + 1)))) := fun q k a b d _ => by rw [pnM_ne (by omega) (by omega), jup_no (by omega)]
theorem frF_aw {c0 x : Nat} : frF c0 M (awM pc x (jup M 109 7 (nI (kn + 1)))) := fun q k a _ d => by rw [awM_ne (by omega) (by omega), jup_no (by omega)]
theorem tok_rg {τ : Nat} (h : TX B n K T Pl W m M j) (ht : T j = nI τ) (hts : TS B n K T Pl W) (h1 : ¬ τ = 1001) (h2 : τ < 5000) : j < K := by
  have := h.jK
  refine Classical.byContradiction fun q => ?_
  have e : j = K := by omega
  rw [e, hts.tK] at ht
  exact h1 (nI_ij (by omega) (by omega) ht).symm
/-- laid to those that wait, on both sides, and on to the next token -/
theorem EY.go {c0 : Nat} (hh : hd = 3 ∨ hd = 12) (ts : TS B n K T Pl W) (h : EY B n K T Pl W hd b s pc c kn o t m M j) (hc0 : c0 ≤ c) (hT : T j = nI t) (ht : 1023 ≤ t ∧ t ≤ 1033) : ∃ m' M', f_R_takePending m = some ((), m') ∧ frE hd c0 m m' ∧ frF c0 M M' ∧ ((kn < 64 ∧ f_M_awaits (nI (sgP t)) (jup M 109 7 (nI (kn + 1))) = some ((), M') ∧ ∃ s' pc' kn', EX B n K T Pl W hd b s' pc' c kn' o true m' M' (j + 1)) ∨ (kn = 64 ∧ M' = wrM 2 (Pl j) M ∧ FX hd m' M')) := by
  have hj := tok_rg h.tx hT ts (by omega) (by omega)
  have h3 := h.k3
  have h8 := h.o3
  have hpc := h.pc72
  have hl := jhlen hh
  by_cases hk : kn < 64
  · have hx := h.push hh hk ht
    obtain ⟨M', e1, e2, e3, e4, e5⟩ := hx.step (c0 := c0) hh ts hj
    refine ⟨_, M', ?_, frE_pn.tr e4, (frF_aw (x := sgP t)).tr e5, Or.inl ⟨hk, ?_, _, _, _, e3⟩⟩
    · unfold f_R_takePending
      simp only [lits]
      rw [h.dr, nI_clamp (by omega), jgd_hok hh, h.k1, if_pos (nI_lt hk (by omega)), jgd_hok hh, jgd_hok hh, nI_add, jpu_e, e_pend (t := t) (pc := pc) (by omega) (by rw [jup_no (by omega), h.tx.tok]; exact hT) (by rw [jup_no (by omega)]; exact h.pd.p1) (by omega), jbd_s, pnM_ne (by omega) (by omega), jup_no (by omega), h.tx.at, nI_add, e1, jbd_s]
    · unfold f_M_awaits
      simp only [lits]
      rw [jup_no (by omega), h.pd.p2, st_117 (by omega), jup_no (by omega), jup_no (by omega), h.pd.p2, nI_add, jpu_e]
      have e6 : jup (jup (jup M 109 7 (nI (kn + 1))) 117 pc (nI (sgP t))) 109 26 (nI (pc + 1)) = awM pc (sgP t) (jup M 109 7 (nI (kn + 1))) := rfl
      rw [e6, e2, jbd_s]
  · have hk2 : kn = 64 := by omega
    have hpw : PW hd m := ⟨h.dr, s, pc, c, by omega, h.pd.p1, fun k hk => ⟨(h.pd.p3 k hk).1, (h.pd.p3 k hk).2.1⟩, h.cd.c1, by have h1 := h.ko; omega⟩
    refine ⟨flC 2 (Pl j) m, wrM 2 (Pl j) M, ?_, frE_fl, frF_wr, Or.inr ⟨hk2, rfl, FX.mk hh (by omega) (by omega) hpw⟩⟩
    unfold f_R_takePending
    simp only [lits]
    rw [h.dr, nI_clamp (by omega), jgd_hok hh, h.k1, if_neg (by rw [hk2]; decide), e_fail ts h.tx, jbd_s]
theorem EX.toNot (h : EX B n K T Pl W hd b s pc c kn o true m M j) (hn : pc = 0 ∨ s (pc - 1) = 1005 ∨ rkT (s (pc - 1)) < 4) : EY B n K T Pl W hd b s pc c kn o 1025 m M j := by
  have hct := cmp_top h.sg hn
  refine ⟨h.tx, h.f0, h.f1, h.dr, h.k1, h.k2, h.k3, h.cd, h.pd, h.o1, h.o2, h.o3, h.ko, h.lv, fun k a b => h.cm k (by omega) (Or.inr b), ?_, h.sg, h.du, ?_, ?_, fun _ => hct⟩
  · have := h.cm pc (Nat.le_refl pc) (Or.inl rfl)
    rw [h.lv] at this
    exact this
  · rw [h.nm rfl]
    show tI _ = tI true
    congr 1
    rw [Bool.or_eq_true, decide_eq_true_iff, decide_eq_true_iff]
    rcases hn with q | q | q
    · exact Or.inl q
    · refine Or.inr ?_
      rw [q]
      decide
    · exact Or.inr q
  · rw [if_pos rfl]
    have := h.dp
    rw [if_pos rfl] at this
    exact this
/-- a bracket opened -/
theorem EX.opn (hh : hd = 3 ∨ hd = 12) (h : EX B n K T Pl W hd b s pc c kn o true m M j) (ho : o < 8) : EX B n K T Pl W hd b (psh s pc 1005) (pc + 1) c kn (o + 1) true (pnM pc 1005 (jup (jup (jup m 21 9 (nI (o + 1))) 23 (o + 1) (nI 0)) 21 12 (nI 1))) (awM pc 40 (jup M 109 27 (nI (o + 1)))) j := by
  have hc : ∀ q k, ¬ (q = 21 ∧ (k = 8 ∨ k = 9 ∨ k = 12)) → ¬ (q = 23 ∧ k = o + 1) → ¬ (q = 22 ∧ k = pc) → pnM pc 1005 (jup (jup (jup m 21 9 (nI (o + 1))) 23 (o + 1) (nI 0)) 21 12 (nI 1)) q k = m q k := fun q k a b d => by rw [pnM_ne d (by omega), jup_no (by omega), jup_no b, jup_no (by omega)]
  have hM : ∀ q k, ¬ (q = 109 ∧ (k = 26 ∨ k = 27)) → ¬ (q = 117 ∧ k = pc) → awM pc 40 (jup M 109 27 (nI (o + 1))) q k = M q k := fun q k a b => by rw [awM_ne b (by omega), jup_no (by omega)]
  refine ⟨h.tx.cong (fun q k a => hc q k (by omega) (by omega) (by omega)) (fun q k a => hM q k (by omega) (by omega)), by rw [hc 21 4 (by omega) (by omega) (by omega)]; exact h.f0, by rw [hM 109 21 (by omega) (by omega)]; exact h.f1, by rw [hc 21 6 (by omega) (by omega) (by omega)]; exact h.dr, by rw [hc hd 11 (by omega) (by omega) (by omega)]; exact h.k1, by rw [hM 109 7 (by omega) (by omega)]; exact h.k2, h.k3, ?_, ?_, ?_, ?_, by omega, ?_, ?_, fun k h1 h2 => ?_, fun k h1 h2 h3 => ?_, by rw [hc 21 11 (by omega) (by omega) (by omega)]; exact h.du, fun _ => ?_, ?_⟩
  · exact h.cd.cong (hc hd 10 (by omega) (by omega) (by omega)) (fun k _ => ⟨hc (hd + 6) k (by omega) (by omega) (by omega), hc (hd + 7) k (by omega) (by omega) (by omega)⟩) (hM 109 5 (by omega) (by omega)) (fun k _ => ⟨hM 111 _ (by omega) (by omega), hM 112 _ (by omega) (by omega)⟩)
  · exact PD.push (t := 1005) (m := jup (jup (jup m 21 9 (nI (o + 1))) 23 (o + 1) (nI 0)) 21 12 (nI 1)) (M := jup M 109 27 (nI (o + 1))) (h.pd.cong (by rw [jup_no (by omega), jup_no (by omega), jup_no (by omega)]) (jup_no (by omega)) (fun k _ => ⟨by rw [jup_no (by omega), jup_no (by omega), jup_no (by omega)], jup_no (by omega)⟩)) (Or.inl rfl)
  · rw [pnM_ne (by omega) (by omega), jup_no (by omega), jup_no (by omega)]; exact jup_at
  · rw [awM_ne (by omega) (by omega)]; exact jup_at
  · rw [nop_s, nop_psh (Nat.le_refl pc), psh_at, if_pos rfl]
    exact h.ko
  · rw [lev_s, lev_psh (Nat.le_refl pc), psh_at, if_pos rfl, h.lv]
  · by_cases q : k = pc + 1
    · subst q
      rw [lev_s, lev_psh (Nat.le_refl pc), psh_at, if_pos rfl, h.lv, cmpT_s, psh_at, if_pos rfl, pnM_ne (by omega) (by omega), jup_no (by omega)]
      exact jup_at
    · rw [lev_psh (by omega), cmp_psh (by omega)]
      have hle := lev_mono (s := s) (pc := pc) (k := k) (by omega)
      rw [h.lv] at hle
      rw [hc 23 _ (by omega) (by omega) (by omega)]
      by_cases q2 : k = pc
      · exact h.cm k (by omega) (Or.inl q2)
      · have h3 := h2.resolve_left q
        rw [psh_ne q2] at h3
        exact h.cm k (by omega) (Or.inr h3)
  · by_cases q : k = pc
    · rw [q, psh_at] at h2; exact absurd rfl h2
    · rw [psh_ne q] at h2 h3
      rw [cmp_psh (by omega)]
      exact h.sg k (by omega) h2 h3
  · rw [pnM_ne (by omega) (by omega), jup_at, Nat.add_sub_cancel, psh_at, decide_eq_false (by omega : ¬ pc + 1 = 0), Bool.false_or]
    rfl
  · rw [bin_s, bin_psh (Nat.le_refl pc), psh_at, if_neg (fun z => absurd z.1 (by omega)), Nat.add_zero]
    exact h.dp.cong fun k _ => hc (hd + 6) k (by omega) (by omega) (by omega)
end EY
