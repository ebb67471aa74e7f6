/-! an expression on both sides: a value's token -/
theorem vl_1 : ∀ i, i < 33 → (ptT (1001 + i) = 2 ↔ 15 ≤ i ∧ i ≤ 21) ∧ (ptT (1001 + i) = 3 ↔ 22 ≤ i ∧ ¬ i = 24) ∧ (ptT (1001 + i) = 1 ↔ 10 ≤ i ∧ i ≤ 14) := by decide +kernel
theorem vl_2 : ∀ i, i < 33 → (soT (1001 + i) = 0 ↔ (6 ≤ i ∧ i ≤ 24)) ∧ (soT (1001 + i) = 1 ↔ i = 2) ∧ (soT (1001 + i) = 2 ↔ ((3 ≤ i ∧ i ≤ 5) ∨ 25 ≤ i)) ∧ (soT (1001 + i) = 3 ↔ i = 0) ∧ soT (1001 + i) ≤ 4 ∧ vlT (1001 + i) < 300 := by decide +kernel
theorem vl_3 : ∀ i, i < 25 → 6 ≤ i → vlT (1001 + i) = if i ≤ 14 then i - 6 else if i ≤ 21 then i - 3 else i - 13 := by decide +kernel
theorem vl_5 : ∀ i, i < 33 → (25 ≤ i ∨ i = 22 ∨ i = 23) → sgnV (1001 + i) = (if i = 22 then 262 else if i = 23 then 261 else vlT (1001 + i)) := by decide +kernel
theorem vl_6 : ∀ i, i < 33 → ((3 ≤ i ∧ i ≤ 5) ∨ 25 ≤ i) → (vlT (1001 + i) = 40 ↔ i = 4) ∧ (vlT (1001 + i) = 41 ↔ i = 5) ∧ (vlT (1001 + i) = 59 ↔ i = 3) := by decide +kernel
def EXs (B : Nat → Nat) (n K : Nat) (T Pl W : Nat → Int32) (hd b c0 : Nat) (due : Bool) (m M : jMem) (j : Nat) : Prop := ∃ (s : Nat → Nat) (pc c kn o : Nat), c0 ≤ c ∧ EX B n K T Pl W hd b s pc c kn o due m M j
section VL
variable {B : Nat → Nat} {n K : Nat} {T Pl W : Nat → Int32} {hd b c0 : Nat} {s : Nat → Nat} {pc c kn o : Nat} {due : Bool} {m M : jMem} {j : Nat}
theorem e_isSign {c sv : Nat} (hs : sv < 10) (h19 : M 109 19 = nI sv) (x : Bool) (h : x = true → sv = 2 ∧ M 109 20 = nI c) (h' : x = false → ¬ sv = 2 ∨ ¬ M 109 20 = nI c) : f_M_isSign (nI c) M = some (tI x, M) := by
  unfold f_M_isSign
  simp only [lits]
  rw [h19]
  cases x
  · rcases h' rfl with q | q
    · rw [if_neg (fun z => q (nI_ij (by omega) (by omega) z))]; rfl
    · by_cases q2 : sv = 2
      · rw [if_pos (by rw [q2]), if_neg q]; rfl
      · rw [if_neg (fun z => q2 (nI_ij (by omega) (by omega) z))]; rfl
  · obtain ⟨a, a2⟩ := h rfl
    rw [if_pos (by rw [a]), if_pos a2]; rfl
theorem e_knot {kn : Nat} (h2 : M 109 7 = nI kn) (hk : kn < 64) : f_M_knot M = some ((), jup M 109 7 (nI (kn + 1))) := by
  unfold f_M_knot
  simp only [lits]
  rw [h2, if_neg (fun z => by have := nI_ij (by omega) (by omega) z; omega), nI_add, jpu_e]
theorem e_knot64 {p : Int32} (h2 : M 109 7 = nI 64) (h18 : M 109 18 = p) (f1 : M 109 21 = nI 0) : f_M_knot M = some ((), wrM 2 p M) := by
  unfold f_M_knot
  simp only [lits]
  rw [h2, if_pos rfl, e_wrong0 h18 f1, jbd_s]
theorem EX.fx {k : Nat} (hh : hd = 3 ∨ hd = 12) (h : EX B n K T Pl W hd b s pc c kn o due m M j) (h1 : 1 ≤ k) (h3 : k ≤ 3) : FX hd (flC k (Pl j) m) (wrM k (Pl j) M) := FX.mk hh h1 h3 h.pw
theorem e_opBad {sv : Nat} (h : EX B n K T Pl W hd b s pc c kn o due m M j) (hs : sv < 5) (h19 : M 109 19 = nI sv) (h1 : ¬ sv = 1) (h2 : sv = 2 → ∃ v, v < 300 ∧ M 109 20 = nI v ∧ ¬ v = 40) (h0 : sv = 0 → ∃ v, v < 12 ∧ M 109 20 = nI v ∧ (v = 11 → ¬ pc = 0 ∧ ¬ rkT (s (pc - 1)) < 4)) : f_M_operand M = some (nI 0, wrM 1 (Pl j) M) := by
  have eS : f_M_isSign (nI 40) M = some (nI 0, M) := by
    refine e_isSign (by omega) h19 false (fun z => absurd z Bool.false_ne_true) (fun _ => ?_)
    by_cases q : sv = 2
    · obtain ⟨v, a1, a2, a3⟩ := h2 q
      exact Or.inr (by rw [a2]; exact fun z => a3 (nI_ij (by omega) (by omega) z))
    · exact Or.inl q
  have eW := e_wrong (k := 1) h.tx h.f1
  have h72 : pc ≤ 72 := by
    have a1 := h.ko
    have a2 := h.k3
    have a3 := h.o3
    have a4 := h.lv
    have a5 := nop_lev (s := s) (pc := pc)
    omega
  unfold f_M_operand
  simp only [lits, negs]
  rw [h19, if_neg (fun z => h1 (nI_ij (by omega) (by omega) z))]
  by_cases q0 : sv = 0
  · obtain ⟨v, a1, a2, a3⟩ := h0 q0
    subst q0
    rw [if_pos rfl, a2, if_pos (nI_lt a1 (by omega)), eS, jbd_s, if_pos rfl, h.pd.p2]
    by_cases q : pc = 0
    · have q3 : ¬ v = 11 := fun z => (a3 z).1 q
      rw [q, if_pos rfl, h19, if_pos rfl, a2, if_neg (fun z => q3 (nI_ij (by omega) (by omega) z)), eW, jbd_s]
    · obtain ⟨p, rfl⟩ : ∃ p, pc = p + 1 := ⟨pc - 1, by omega⟩
      obtain ⟨b1, b2, b3⟩ := h.pd.p3 p (by omega)
      rw [if_neg (fun z => q (nI_ij (by omega) (by omega) z)), nn1, ld_117 (by omega), b3, e_bind b1, jbd_s, h19]
      have hr := rk_p b1
      by_cases q4 : 4 ≤ rkT (s p)
      · rw [if_pos (nI_le q4 (by omega)), if_pos rfl, a2]
        by_cases q5 : v = 11
        · rw [if_pos (by rw [q5]), if_pos trivial, eW, jbd_s]
        · rw [if_neg (fun z => q5 (nI_ij (by omega) (by omega) z)), eW, jbd_s]
      · rw [if_neg (nI_ge (by omega) (by omega)), if_pos rfl, a2]
        have q5 : ¬ v = 11 := fun z => (a3 z).2 (by rw [Nat.add_sub_cancel]; omega)
        rw [if_neg (fun z => q5 (nI_ij (by omega) (by omega) z)), eW, jbd_s]
  · have hn0 : ¬ nI sv = nI 0 := fun z => q0 (nI_ij (by omega) (by omega) z)
    rw [if_neg hn0, eS, jbd_s, if_pos rfl, h.pd.p2]
    by_cases q : pc = 0
    · rw [q, if_pos rfl, h19, if_neg hn0, eW, jbd_s]
    · obtain ⟨p, rfl⟩ : ∃ p, pc = p + 1 := ⟨pc - 1, by omega⟩
      obtain ⟨b1, b2, b3⟩ := h.pd.p3 p (by omega)
      rw [if_neg (fun z => q (nI_ij (by omega) (by omega) z)), nn1, ld_117 (by omega), b3, e_bind b1, jbd_s, h19]
      have hr := rk_p b1
      by_cases q4 : 4 ≤ rkT (s p)
      · rw [if_pos (nI_le q4 (by omega)), if_neg hn0, eW, jbd_s]
      · rw [if_neg (nI_ge (by omega) (by omega)), if_neg hn0, eW, jbd_s]
/-- a number or a name, put down by the class -/
theorem e_tvVal {τ x : Nat} (hh : hd = 3 ∨ hd = 12) (ts : TS B n K T Pl W) (h : EX B n K T Pl W hd b s pc c kn o true m M j) (hk : kn < 64) (hτ : 1001 ≤ τ ∧ τ < 1023) (hp : τ = 1003 ∨ ptT τ = 2) (hT : T j = nI τ) (hx : x ≤ 999) (hW : W j = nI x) {m1 m' : jMem} (hm1 : m1 = jup (akM hd c τ (nI x) (jup m hd 11 (nI (kn + 1)))) 21 11 (nI 0)) (hs : f_R_stepTo (nI (j + 1)) m1 = some ((), m')) : f_R_takeValue m = some ((), m') := by
  have htok : m 21 2 = nI τ := h.tx.tok.trans hT
  have hwo : m 21 3 = nI x := h.tx.wo.trans hW
  have hko := h.ko
  have hP := (rk_e (t := τ) (by omega)).2.2.1
  have htail : (jgd (jhok hd) (if nI kn < nI 64 then jgd (jhok hd) (jgd (jhok hd) (jpu m hd 11 (nI kn + nI 1) fun m5 => jgd (jhok (m5 21 6).toNatClampNeg) (jbd (f_H_addKnot (m5 21 6).toNatClampNeg (m5 21 2).toNatClampNeg (m5 21 3) m5) fun u7 m8 => jpu m8 21 11 (nI 0) fun m10 => jbd (f_R_stepTo ((m10 21 1) + nI 1) m10) fun u11 m12 => some ((), m12)))) else jbd (f_R_fail (nI 2) m) fun u13 m14 => some ((), m14))) = some ((), m') := by
    rw [jgd_hok hh, if_pos (nI_lt hk (by omega)), jgd_hok hh, jgd_hok hh, jpu_e, nI_add, jup_no (by omega), jup_no (by omega), jup_no (by omega), h.dr, htok, hwo, nI_clamp (by omega), nI_clamp (by omega), jgd_hok hh, e_addKnot (c := c) hh (by omega) (by omega) (by rw [jup_no (by omega)]; exact h.cd.c1), jbd_s, jpu_e]
    rw [← hm1, show m1 21 1 = nI j by rw [hm1, jup_no (by omega), akM_ne (by omega) (by omega), jup_no (by omega)]; exact h.tx.at, nI_add, hs, jbd_s]
  unfold f_R_takeValue
  simp only [lits]
  rw [htok, nI_clamp (by omega), jgd_ok (by omega) (by omega)]
  rw [hwo, h.dr, nI_clamp (by omega), h.k1]
  by_cases q : τ = 1003
  · rw [if_pos q, if_neg (by rw [ltF (by omega) (by omega)]; exact id)]
    exact htail
  · rw [if_neg q, jgd_tk (by omega), jlt_e, hP, hp.resolve_left q, if_pos rfl, if_neg (by rw [ltF (by omega) (by omega)]; exact id)]
    exact htail
/-- .. or refused by it -/
theorem e_tvMuch {τ x : Nat} (hh : hd = 3 ∨ hd = 12) (ts : TS B n K T Pl W) (h : EX B n K T Pl W hd b s pc c kn o true m M j) (hτ : 1001 ≤ τ ∧ τ < 1023) (hp : τ = 1003 ∨ ptT τ = 2) (hT : T j = nI τ) (hx : x ≤ 1000) (hW : W j = nI x) (hq : 999 < x ∨ kn = 64) : f_R_takeValue m = some ((), flC 2 (Pl j) m) := by
  have htok : m 21 2 = nI τ := h.tx.tok.trans hT
  have hwo : m 21 3 = nI x := h.tx.wo.trans hW
  have hP := (rk_e (t := τ) (by omega)).2.2.1
  have eF := e_fail (k := 2) ts h.tx
  have h3 := h.k3
  unfold f_R_takeValue
  simp only [lits]
  rw [htok, nI_clamp (by omega), jgd_ok (by omega) (by omega)]
  rw [hwo, h.dr, nI_clamp (by omega), h.k1]
  by_cases q : τ = 1003
  · rw [if_pos q]
    by_cases q2 : 999 < x
    · rw [if_pos (nI_lt q2 (by omega)), eF, jbd_s]
    · have q3 := hq.resolve_left q2
      rw [if_neg (by rw [ltF (by omega) (by omega)]; exact id), jgd_hok hh, if_neg (by rw [q3]; decide), eF, jbd_s]
  · rw [if_neg q, jgd_tk (by omega), jlt_e, hP, hp.resolve_left q, if_pos rfl]
    by_cases q2 : 999 < x
    · rw [if_pos (nI_lt q2 (by omega)), eF, jbd_s]
    · have q3 := hq.resolve_left q2
      rw [if_neg (by rw [ltF (by omega) (by omega)]; exact id), jgd_hok hh, if_neg (by rw [q3]; decide), eF, jbd_s]
theorem e_tvBad {τ : Nat} (hh : hd = 3 ∨ hd = 12) (ts : TS B n K T Pl W) (h : EX B n K T Pl W hd b s pc c kn o true m M j) (hτ : 1001 ≤ τ ∧ τ ≤ 1033) (hT : T j = nI τ) (h3 : ¬ τ = 1003) (h2 : ¬ ptT τ = 2) (h5 : ¬ τ = 1005) (hn : τ = 1025 → m 21 12 = nI 0) : f_R_takeValue m = some ((), flC 1 (Pl j) m) := by
  have htok : m 21 2 = nI τ := h.tx.tok.trans hT
  obtain ⟨-, -, hP, hP3⟩ := rk_e (t := τ) hτ
  have eF := e_fail (k := 1) ts h.tx
  unfold f_R_takeValue
  simp only [lits]
  rw [htok, nI_clamp (by omega), jgd_ok (by omega) (by omega), if_neg h3, jgd_tk (by omega), jlt_e, hP, if_neg (fun z => h2 (nI_ij (by omega) (by omega) z)), jgd_ok (by omega) (by omega), if_neg h5, jgd_ok (by omega) (by omega)]
  by_cases q : τ = 1025
  · rw [if_pos q, hn q, if_pos rfl, eF, jbd_s]
  · rw [if_neg q, eF, jbd_s]
theorem sim_value (hh : hd = 3 ∨ hd = 12) (ts : TS B n K T Pl W) (h : EX B n K T Pl W hd b s pc c kn o true m M j) (hc0 : c0 ≤ c) : ∃ m' M' x, f_R_takeValue m = some ((), m') ∧ f_M_operand M = some (x, M') ∧ frE hd c0 m m' ∧ frF c0 M M' ∧ ((∃ due', x = tI (!due') ∧ EXs B n K T Pl W hd b c0 due' m' M' (j + 1)) ∨ (x = nI 0 ∧ FX hd m' M')) := by
  obtain ⟨τ, t1, t2, hT, h19, hnum, hval, hw0⟩ := h.tx.tk
  obtain ⟨i, rfl⟩ : ∃ i, τ = 1001 + i := ⟨τ - 1001, by omega⟩
  obtain ⟨v1, v2, v3⟩ := vl_1 i (by omega)
  obtain ⟨u1, u2, u3, u4, u5, u6⟩ := vl_2 i (by omega)
  have h3 := h.k3
  have h8 := h.o3
  have f1 := h.f1
  have h18 := h.tx.pl
  have bad : ∀ k, 1 ≤ k → k ≤ 3 → f_R_takeValue m = some ((), flC k (Pl j) m) → f_M_operand M = some (nI 0, wrM k (Pl j) M) → ∃ m' M' x, f_R_takeValue m = some ((), m') ∧ f_M_operand M = some (x, M') ∧ frE hd c0 m m' ∧ frF c0 M M' ∧ ((∃ due', x = tI (!due') ∧ EXs B n K T Pl W hd b c0 due' m' M' (j + 1)) ∨ (x = nI 0 ∧ FX hd m' M')) := fun k k1 k3 a1 a2 => ⟨_, _, _, a1, a2, frE_fl, frF_wr, Or.inr ⟨rfl, h.fx hh k1 k3⟩⟩
  have val : ∀ (x : Nat) (w sv v : Int32), kn < 64 → 1001 + i < 1023 → (1001 + i = 1003 ∨ ptT (1001 + i) = 2) → x ≤ 999 → W j = nI x → w = nI x → knR (nI (1001 + i)) w sv v → (∀ M2, f_M_next (ouM c sv v (jup M 109 7 (nI (kn + 1)))) = some ((), M2) → f_M_operand M = some (nI 1, M2)) → ∃ m' M' x, f_R_takeValue m = some ((), m') ∧ f_M_operand M = some (x, M') ∧ frE hd c0 m m' ∧ frF c0 M M' ∧ ((∃ due', x = tI (!due') ∧ EXs B n K T Pl W hd b c0 due' m' M' (j + 1)) ∨ (x = nI 0 ∧ FX hd m' M')) := fun x w sv v hk hlt hp hx hW hw hkn hM => by
    have hj := tok_rg h.tx hT ts (by
      rcases hp with q | q
      · omega
      · have := v1.mp q; omega) (by omega)
    subst hw
    have hxv := h.val hh hk ⟨t1, hlt⟩ hkn
    obtain ⟨M', e1, e2, e3, e4, e5⟩ := hxv.step (c0 := c0) hh ts hj
    refine ⟨_, M', nI 1, e_tvVal hh ts h hk ⟨t1, hlt⟩ hp hT hx hW rfl e1, hM M' e2, ?_, ?_, Or.inl ⟨false, rfl, s, pc, c + 1, kn + 1, o, by omega, e3⟩⟩
    · refine frE.tr (fun q k a b d e => ?_) e4
      rw [jup_no (by omega), akM_ne (by omega) (by omega), jup_no (by omega)]
    · refine frF.tr (fun q k a b d => ?_) e5
      rw [ouM_ne (by omega) (by omega), jup_no (by omega)]
  have hko := h.ko
  by_cases q3 : i = 2
  · subst q3
    obtain ⟨x, x1, x2, x3⟩ := hnum rfl
    have h19' : M 109 19 = nI 1 := h19
    by_cases q : x ≤ 999
    · have hW : W j = nI x := by rw [x3, Nat.min_eq_right (by omega)]
      by_cases hk : kn < 64
      · refine val x (nI x) (nI 0) (nI x) hk (by omega) (Or.inl rfl) q hW rfl (Or.inl ⟨x, q, rfl, rfl, rfl, rfl⟩) (fun M2 hM2 => ?_)
        unfold f_M_operand
        simp only [lits, negs]
        rw [h19', if_pos rfl, x2, if_pos (nI_le q (by omega)), f1, if_pos rfl, e_knot h.k2 hk, jbd_s, jup_no (by omega), jup_no (by omega), f1, x2, if_pos rfl, e_out (c := c) (by omega) (by rw [jup_no (by omega)]; exact h.cd.c2), jbd_s, hM2, jbd_s]
      · have hk2 : kn = 64 := by omega
        refine bad 2 (by omega) (by omega) (e_tvMuch hh ts h ⟨t1, by omega⟩ (Or.inl rfl) hT (by omega) hW (Or.inr hk2)) ?_
        have e64 := e_knot64 (M := M) (by rw [h.k2, hk2]) h18 f1
        unfold f_M_operand
        simp only [lits, negs]
        rw [h19', if_pos rfl, x2, if_pos (nI_le q (by omega)), f1, if_pos rfl, e64, jbd_s]
        rw [show wrM 2 (Pl j) M 109 21 = nI 2 by unfold wrM; rw [jup_no (by omega)]; exact jup_at, if_neg (by decide)]
    · refine bad 2 (by omega) (by omega) (e_tvMuch hh ts h ⟨t1, by omega⟩ (Or.inl rfl) hT (x := 1000) (by omega) (by rw [x3, Nat.min_eq_left (by omega)]) (Or.inl (by omega))) ?_
      have eW := e_wrong (k := 2) h.tx f1
      unfold f_M_operand
      simp only [lits, negs]
      have e21 : wrM 2 (Pl j) M 109 21 = nI 2 := by unfold wrM; rw [jup_no (by omega)]; exact jup_at
      rw [h19', if_pos rfl, x2, if_neg (nI_ge (by omega) (by omega)), eW, jbd_s, e21, if_neg (by decide), if_neg (by decide)]
  · have hw := hw0 (by omega)
    by_cases qn : 15 ≤ i ∧ i ≤ 21
    · have hv := hval (by omega)
      rw [vl_3 i (by omega) (by omega), if_neg (by omega), if_pos (by omega)] at hv
      have h19' : M 109 19 = nI 0 := by rw [h19, u1.mpr (by omega)]
      have hp := v1.mpr qn
      by_cases hk : kn < 64
      · refine val 0 (nI 0) (nI 1) (nI (i - 15)) hk (by omega) (Or.inr hp) (by omega) hw rfl (Or.inr (Or.inl ⟨i - 15, by omega, by rw [show 1016 + (i - 15) = 1001 + i by omega], rfl, rfl⟩)) (fun M2 hM2 => ?_)
        unfold f_M_operand
        simp only [lits, negs]
        rw [h19', if_neg (by decide), if_pos rfl, hv, if_neg (by rw [ltF (by omega) (by omega)]; exact id), e_knot h.k2 hk, jbd_s, jup_no (by omega), jup_no (by omega), f1, hv, if_pos rfl, n_sub (by omega), show i - 3 - 12 = i - 15 by omega, e_out (c := c) (by omega) (by rw [jup_no (by omega)]; exact h.cd.c2), jbd_s, hM2, jbd_s]
      · have hk2 : kn = 64 := by omega
        refine bad 2 (by omega) (by omega) (e_tvMuch hh ts h ⟨t1, by omega⟩ (Or.inr hp) hT (by omega) hw (Or.inr hk2)) ?_
        have e64 := e_knot64 (M := M) (by rw [h.k2, hk2]) h18 f1
        unfold f_M_operand
        simp only [lits, negs]
        rw [h19', if_neg (by decide), if_pos rfl, hv, if_neg (by rw [ltF (by omega) (by omega)]; exact id), e64, jbd_s]
        rw [show wrM 2 (Pl j) M 109 21 = nI 2 by unfold wrM; rw [jup_no (by omega)]; exact jup_at, if_neg (by decide)]
    · have hp2 : ¬ ptT (1001 + i) = 2 := fun z => qn (v1.mp z)
      by_cases q5 : i = 4
      · subst q5
        have h19' : M 109 19 = nI 2 := h19
        have hv : M 109 20 = nI 40 := hval (by omega)
        have htok : m 21 2 = nI 1005 := h.tx.tok.trans hT
        have eS : f_M_isSign (nI 40) M = some (nI 1, M) := e_isSign (by omega) h19' true (fun _ => ⟨rfl, hv⟩) (fun z => absurd z.symm Bool.false_ne_true)
        have eT : f_R_takeValue m = jbd (f_R_openBracket m) fun u22 m23 => some ((), m23) := by
          unfold f_R_takeValue
          simp only [lits]
          rw [htok, nI_clamp (by omega), jgd_ok (by omega) (by omega), if_neg (by decide), jgd_tk (by omega), jlt_e, show jtkP 1005 = nI 0 by decide, if_neg (by decide), jgd_ok (by omega) (by omega), if_pos rfl]
        by_cases ho : o < 8
        · have hj := tok_rg h.tx hT ts (by omega) (by omega)
          have hpc : pc ≤ 71 := by
            have a4 := h.lv
            have a5 := nop_lev (s := s) (pc := pc)
            omega
          have hxo := h.opn hh ho
          obtain ⟨M', e1, e2, e3, e4, e5⟩ := hxo.step (c0 := c0) hh ts hj
          refine ⟨_, M', nI 0, ?_, ?_, frE.tr (fun q k a b d e => ?_) e4, frF.tr (fun q k a b d => ?_) e5, Or.inl ⟨true, rfl, _, _, _, _, _, hc0, e3⟩⟩
          · rw [eT]
            have eO : f_R_openBracket m = some ((), cst T W (pnM pc 1005 (jup (jup (jup m 21 9 (nI (o + 1))) 23 (o + 1) (nI 0)) 21 12 (nI 1))) j) := by
              unfold f_R_openBracket
              simp only [lits]
              rw [h.o1, if_pos (nI_lt ho (by omega)), nI_add, jpu_e, jup_at, st_23 (by omega), show jbz (nI 0) = nI 0 by decide, jpu_e, e_pend (t := 1005) (pc := pc) (by omega) (by rw [jup_no (by omega), jup_no (by omega), jup_no (by omega)]; exact htok) (by rw [jup_no (by omega), jup_no (by omega), jup_no (by omega)]; exact h.pd.p1) (by omega), jbd_s, hxo.tx.at, nI_add, e1, jbd_s]
            rw [eO, jbd_s]
          · unfold f_M_operand
            simp only [lits, negs]
            rw [h19', if_neg (by decide), if_neg (by decide), eS, jbd_s, if_neg (by decide), h.o2, if_neg (fun z => by have := nI_ij (by omega) (by omega) z; omega), f1, if_pos rfl, nI_add, jpu_e]
            unfold f_M_awaits
            simp only [lits]
            rw [jup_no (by omega), h.pd.p2, st_117 (by omega), jup_no (by omega), jup_no (by omega), h.pd.p2, nI_add, jpu_e]
            have e6 : jup (jup (jup M 109 27 (nI (o + 1))) 117 pc (nI 40)) 109 26 (nI (pc + 1)) = awM pc 40 (jup M 109 27 (nI (o + 1))) := rfl
            rw [e6, e2, jbd_s, jbd_s]
          · rw [pnM_ne (by omega) (by omega), jup_no (by omega), jup_no (by omega), jup_no (by omega)]
          · rw [awM_ne (by omega) (by omega), jup_no (by omega)]
        · have ho8 : o = 8 := by omega
          have eW := e_wrong (k := 2) h.tx f1
          have e21 : wrM 2 (Pl j) M 109 21 = nI 2 := by unfold wrM; rw [jup_no (by omega)]; exact jup_at
          refine bad 2 (by omega) (by omega) ?_ ?_
          · rw [eT]
            unfold f_R_openBracket
            simp only [lits]
            rw [h.o1, if_neg (by rw [ho8]; decide), e_fail ts h.tx, jbd_s, jbd_s]
          · unfold f_M_operand
            simp only [lits, negs]
            rw [h19', if_neg (by decide), if_neg (by decide), eS, jbd_s, if_neg (by decide), h.o2, if_pos (by rw [ho8]), eW, jbd_s, e21, if_neg (by decide)]
      · by_cases q24 : i = 24
        · subst q24
          have h19' : M 109 19 = nI 0 := h19
          have hv : M 109 20 = nI 11 := hval (by omega)
          have hT' : T j = nI 1025 := hT
          have htok : m 21 2 = nI 1025 := h.tx.tok.trans hT
          by_cases hn : pc = 0 ∨ rkT (s (pc - 1)) < 4
          · have hy := h.toNot (hn.imp id Or.inr)
            obtain ⟨m', M', g1, g2, g3, g4⟩ := hy.go hh ts hc0 hT' (by omega)
            have h12 : m 21 12 = nI 1 := hy.nm
            have eT : f_R_takeValue m = some ((), m') := by
              unfold f_R_takeValue
              simp only [lits]
              rw [htok, nI_clamp (by omega), jgd_ok (by omega) (by omega), if_neg (by decide), jgd_tk (by omega), jlt_e, show jtkP 1025 = nI 0 by decide, if_neg (by decide), jgd_ok (by omega) (by omega), if_neg (by decide), jgd_ok (by omega) (by omega), if_pos rfl, h12, if_neg (by decide), g1, jbd_s]
            have eS : f_M_isSign (nI 40) M = some (nI 0, M) := e_isSign (sv := 0) (by omega) h19' false (fun z => absurd z Bool.false_ne_true) (fun _ => Or.inl (by omega))
            have eM : f_M_operand M = jbd (f_M_knot M) fun u50 m51 => if (m51 109 21) = nI 0 then jbd (f_M_awaits (nI 260) m51) fun u52 m53 => some (nI 0, m53) else some (nI 0, m51) := by
              unfold f_M_operand
              simp only [lits, negs]
              rw [h19', if_neg (by decide), if_pos rfl, hv, if_pos (by decide), eS, jbd_s, if_pos rfl, h.pd.p2]
              by_cases q : pc = 0
              · rw [q, if_pos rfl, h19', if_pos rfl, hv, if_pos rfl, if_neg (by decide)]
              · obtain ⟨p, rfl⟩ : ∃ p, pc = p + 1 := ⟨pc - 1, by omega⟩
                obtain ⟨b1, b2, b3⟩ := h.pd.p3 p (by omega)
                have hr := rk_p b1
                have hpc : p + 1 ≤ 72 := by
                  have a4 := h.lv
                  have a5 := nop_lev (s := s) (pc := p + 1)
                  omega
                have hn2 := hn.resolve_left q
                rw [Nat.add_sub_cancel] at hn2
                rw [if_neg (fun z => q (nI_ij (by omega) (by omega) z)), nn1, ld_117 (by omega), b3, e_bind b1, jbd_s, h19', if_neg (nI_ge (by omega) (by omega)), if_pos rfl, hv, if_pos rfl, if_neg (by decide)]
            rcases g4 with ⟨hk, g5, s', pc', kn', g6⟩ | ⟨hk, g5, g6⟩
            · refine ⟨m', M', nI 0, eT, ?_, g2, g3, Or.inl ⟨true, rfl, s', pc', c, kn', o, hc0, g6⟩⟩
              rw [eM, e_knot h.k2 hk, jbd_s, jup_no (by omega), f1, if_pos rfl]
              have g7 : f_M_awaits (nI 260) (jup M 109 7 (nI (kn + 1))) = some ((), M') := g5
              rw [g7, jbd_s]
            · refine ⟨m', M', nI 0, eT, ?_, g2, g3, Or.inr ⟨rfl, g6⟩⟩
              rw [eM, e_knot64 (by rw [h.k2, hk]) h18 f1, jbd_s]
              rw [show wrM 2 (Pl j) M 109 21 = nI 2 by unfold wrM; rw [jup_no (by omega)]; exact jup_at, if_neg (by decide), g5]
          · have h12 : m 21 12 = nI 0 := by
              rw [h.nm rfl, decide_eq_false (fun z => hn (Or.inl z)), decide_eq_false (fun z => hn (Or.inr z))]
              rfl
            refine bad 1 (by omega) (by omega) (e_tvBad hh ts h ⟨t1, t2⟩ hT (by omega) hp2 (by omega) (fun _ => h12)) (e_opBad h (sv := 0) (by omega) h19' (by omega) (fun z => absurd z (by omega)) (fun _ => ⟨11, by omega, hv, fun _ => ⟨fun z => hn (Or.inl z), fun z => hn (Or.inr z)⟩⟩))
        · refine bad 1 (by omega) (by omega) (e_tvBad hh ts h ⟨t1, t2⟩ hT (by omega) hp2 (by omega) (fun z => absurd z (by omega))) (e_opBad h (by omega) h19 (fun z => q3 (u2.mp z)) (fun z => ?_) (fun z => ?_))
          · have := u3.mp z
            refine ⟨vlT (1001 + i), u6, hval (by omega), fun y => q5 ?_⟩
            exact (vl_6 i (by omega) this).1.mp y
          · have := u1.mp z
            have hv := hval (by omega)
            rw [vl_3 i (by omega) (by omega)] at hv
            refine ⟨_, ?_, hv, fun y => ?_⟩
            · split
              · omega
              · rw [if_neg (by omega)]; omega
            · exfalso
              split at y
              · omega
              · rw [if_neg (by omega)] at y; omega
end VL
