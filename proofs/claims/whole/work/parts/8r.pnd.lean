/-! what waits for its right side, and the knots put down, on both sides -/
def rkL : List Nat := [0, 0, 0, 0, 0, 0, 0, 0, 0, 0, 0, 0, 0, 0, 0, 0, 1, 2, 3, 4, 5, 6, 1, 2, 3, 4, 4, 4, 4, 4, 4, 5, 5]
def rkT (t : Nat) : Nat := rkL.getD (t - 1001) 0
def ptL : List Nat := [0, 0, 0, 0, 0, 0, 0, 0, 0, 0, 1, 1, 1, 1, 1, 2, 2, 2, 2, 2, 2, 2, 3, 3, 0, 3, 3, 3, 3, 3, 3, 3, 3]
def ptT (t : Nat) : Nat := ptL.getD (t - 1001) 0
theorem rk_0 : ∀ i, i < 33 → jtkR (1001 + i) = nI (rkT (1001 + i)) ∧ rkT (1001 + i) ≤ 6 ∧ jtkP (1001 + i) = nI (ptT (1001 + i)) ∧ ptT (1001 + i) ≤ 3 := by decide +kernel
theorem rk_e {t : Nat} (h : 1001 ≤ t ∧ t ≤ 1033) : jtkR t = nI (rkT t) ∧ rkT t ≤ 6 ∧ jtkP t = nI (ptT t) ∧ ptT t ≤ 3 := by
  have := rk_0 (t - 1001) (by omega)
  rw [show 1001 + (t - 1001) = t by omega] at this
  exact this
def pdT (t : Nat) : Prop := t = 1005 ∨ (1023 ≤ t ∧ t ≤ 1033)
def sgP (t : Nat) : Nat := if t = 1005 then 40 else sgnV t
theorem pdT_c {t : Nat} (h : pdT t) : t = 1005 ∨ t = 1023 ∨ t = 1024 ∨ t = 1025 ∨ t = 1026 ∨ t = 1027 ∨ t = 1028 ∨ t = 1029 ∨ t = 1030 ∨ t = 1031 ∨ t = 1032 ∨ t = 1033 := by
  unfold pdT at h
  omega
theorem rk_p {t : Nat} (h : pdT t) : rkT t ≤ 5 ∧ (¬ t = 1005 → 1 ≤ rkT t) ∧ (t = 1005 → rkT t = 0) ∧ sgP t < 300 := by
  rcases pdT_c h with rfl | rfl | rfl | rfl | rfl | rfl | rfl | rfl | rfl | rfl | rfl | rfl <;> decide
theorem e_bind {t : Nat} {M : jMem} (h : pdT t) : f_M_bind (nI (sgP t)) M = some (nI (rkT t), M) := by
  unfold f_M_bind
  rcases pdT_c h with rfl | rfl | rfl | rfl | rfl | rfl | rfl | rfl | rfl | rfl | rfl | rfl
  · simp (disch := omega) only [lits, negs, nI_add, nn1, leT, leF, ltT, ltF, eqF, mF1, mF2, mF3, mF4, mF5, mF6, mTT, eq_self, Nat.reduceEqDiff, ↓reduceIte, jbd_s, jpu_e, tI0, tI1, jgd_tI, jgd_bb, tfF, ftF, jup_at, jup_oc, jup_ok, show sgP 1005 = 40 from rfl, show rkT 1005 = 0 from rfl]
  · simp (disch := omega) only [lits, negs, nI_add, nn1, leT, leF, ltT, ltF, eqF, mF1, mF2, mF3, mF4, mF5, mF6, mTT, eq_self, Nat.reduceEqDiff, ↓reduceIte, jbd_s, jpu_e, tI0, tI1, jgd_tI, jgd_bb, tfF, ftF, jup_at, jup_oc, jup_ok, show sgP 1023 = 262 from rfl, show rkT 1023 = 1 from rfl]
  · simp (disch := omega) only [lits, negs, nI_add, nn1, leT, leF, ltT, ltF, eqF, mF1, mF2, mF3, mF4, mF5, mF6, mTT, eq_self, Nat.reduceEqDiff, ↓reduceIte, jbd_s, jpu_e, tI0, tI1, jgd_tI, jgd_bb, tfF, ftF, jup_at, jup_oc, jup_ok, show sgP 1024 = 261 from rfl, show rkT 1024 = 2 from rfl]
  · simp (disch := omega) only [lits, negs, nI_add, nn1, leT, leF, ltT, ltF, eqF, mF1, mF2, mF3, mF4, mF5, mF6, mTT, eq_self, Nat.reduceEqDiff, ↓reduceIte, jbd_s, jpu_e, tI0, tI1, jgd_tI, jgd_bb, tfF, ftF, jup_at, jup_oc, jup_ok, show sgP 1025 = 260 from rfl, show rkT 1025 = 3 from rfl]
  · simp (disch := omega) only [lits, negs, nI_add, nn1, leT, leF, ltT, ltF, eqF, mF1, mF2, mF3, mF4, mF5, mF6, mTT, eq_self, Nat.reduceEqDiff, ↓reduceIte, jbd_s, jpu_e, tI0, tI1, jgd_tI, jgd_bb, tfF, ftF, jup_at, jup_oc, jup_ok, show sgP 1026 = 60 from rfl, show rkT 1026 = 4 from rfl]
  · simp (disch := omega) only [lits, negs, nI_add, nn1, leT, leF, ltT, ltF, eqF, mF1, mF2, mF3, mF4, mF5, mF6, mTT, eq_self, Nat.reduceEqDiff, ↓reduceIte, jbd_s, jpu_e, tI0, tI1, jgd_tI, jgd_bb, tfF, ftF, jup_at, jup_oc, jup_ok, show sgP 1027 = 256 from rfl, show rkT 1027 = 4 from rfl]
  · simp (disch := omega) only [lits, negs, nI_add, nn1, leT, leF, ltT, ltF, eqF, mF1, mF2, mF3, mF4, mF5, mF6, mTT, eq_self, Nat.reduceEqDiff, ↓reduceIte, jbd_s, jpu_e, tI0, tI1, jgd_tI, jgd_bb, tfF, ftF, jup_at, jup_oc, jup_ok, show sgP 1028 = 61 from rfl, show rkT 1028 = 4 from rfl]
  · simp (disch := omega) only [lits, negs, nI_add, nn1, leT, leF, ltT, ltF, eqF, mF1, mF2, mF3, mF4, mF5, mF6, mTT, eq_self, Nat.reduceEqDiff, ↓reduceIte, jbd_s, jpu_e, tI0, tI1, jgd_tI, jgd_bb, tfF, ftF, jup_at, jup_oc, jup_ok, show sgP 1029 = 257 from rfl, show rkT 1029 = 4 from rfl]
  · simp (disch := omega) only [lits, negs, nI_add, nn1, leT, leF, ltT, ltF, eqF, mF1, mF2, mF3, mF4, mF5, mF6, mTT, eq_self, Nat.reduceEqDiff, ↓reduceIte, jbd_s, jpu_e, tI0, tI1, jgd_tI, jgd_bb, tfF, ftF, jup_at, jup_oc, jup_ok, show sgP 1030 = 258 from rfl, show rkT 1030 = 4 from rfl]
  · simp (disch := omega) only [lits, negs, nI_add, nn1, leT, leF, ltT, ltF, eqF, mF1, mF2, mF3, mF4, mF5, mF6, mTT, eq_self, Nat.reduceEqDiff, ↓reduceIte, jbd_s, jpu_e, tI0, tI1, jgd_tI, jgd_bb, tfF, ftF, jup_at, jup_oc, jup_ok, show sgP 1031 = 62 from rfl, show rkT 1031 = 4 from rfl]
  · simp (disch := omega) only [lits, negs, nI_add, nn1, leT, leF, ltT, ltF, eqF, mF1, mF2, mF3, mF4, mF5, mF6, mTT, eq_self, Nat.reduceEqDiff, ↓reduceIte, jbd_s, jpu_e, tI0, tI1, jgd_tI, jgd_bb, tfF, ftF, jup_at, jup_oc, jup_ok, show sgP 1032 = 43 from rfl, show rkT 1032 = 5 from rfl]
  · simp (disch := omega) only [lits, negs, nI_add, nn1, leT, leF, ltT, ltF, eqF, mF1, mF2, mF3, mF4, mF5, mF6, mTT, eq_self, Nat.reduceEqDiff, ↓reduceIte, jbd_s, jpu_e, tI0, tI1, jgd_tI, jgd_bb, tfF, ftF, jup_at, jup_oc, jup_ok, show sgP 1033 = 45 from rfl, show rkT 1033 = 5 from rfl]
def PD (s : Nat → Nat) (pc : Nat) (m M : jMem) : Prop := (m 21 8 = nI pc) ∧ (M 109 26 = nI pc) ∧ (∀ k, k < pc → pdT (s k) ∧ m 22 k = nI (s k) ∧ M 117 k = nI (sgP (s k)))
theorem PD.p1 {s : Nat → Nat} {pc : Nat} {m M : jMem} (h : PD s pc m M) : m 21 8 = nI pc := h.1
theorem PD.p2 {s : Nat → Nat} {pc : Nat} {m M : jMem} (h : PD s pc m M) : M 109 26 = nI pc := h.2.1
theorem PD.p3 {s : Nat → Nat} {pc : Nat} {m M : jMem} (h : PD s pc m M) : ∀ k, k < pc → pdT (s k) ∧ m 22 k = nI (s k) ∧ M 117 k = nI (sgP (s k)) := h.2.2
def CD (hd c : Nat) (m M : jMem) : Prop := (m hd 10 = nI c) ∧ (M 109 5 = nI c) ∧ (∀ k, k < c → knR (m (hd + 6) k) (m (hd + 7) k) (M 111 (64 + k)) (M 112 (64 + k)))
theorem CD.c1 {hd c : Nat} {m M : jMem} (h : CD hd c m M) : m hd 10 = nI c := h.1
theorem CD.c2 {hd c : Nat} {m M : jMem} (h : CD hd c m M) : M 109 5 = nI c := h.2.1
theorem CD.c3 {hd c : Nat} {m M : jMem} (h : CD hd c m M) : ∀ k, k < c → knR (m (hd + 6) k) (m (hd + 7) k) (M 111 (64 + k)) (M 112 (64 + k)) := h.2.2
def noP (s : Nat → Nat) (pc : Nat) : Nat := fb_ct (fun k => !decide (s k = 1005)) pc
def biN (s : Nat → Nat) (pc : Nat) : Nat := fb_ct (fun k => decide (1023 ≤ s k) && !decide (s k = 1025)) pc
def DP (f : Nat → Int32) (b c d : Nat) : Prop := b ≤ c ∧ dpOK f b (c - b) ∧ dpS f b (c - b) = d
theorem dpS_cong {f g : Nat → Int32} {b : Nat} : ∀ {k : Nat}, (∀ i, i < k → g (b + i) = f (b + i)) → dpS g b k = dpS f b k
  | 0, _ => rfl
  | k + 1, h => by rw [dpS_s, dpS_s, h k (by omega), dpS_cong (k := k) (fun i hi => h i (by omega))]
theorem dpOK_cong {f g : Nat → Int32} {b k : Nat} (h : ∀ i, i < k → g (b + i) = f (b + i)) (hf : dpOK f b k) : dpOK g b k := fun i hi => by
  rw [h i hi, dpS_cong (k := i) (fun j hj => h j (by omega))]
  exact hf i hi
theorem DP.cong {f g : Nat → Int32} {b c d : Nat} (h : DP f b c d) (hg : ∀ k, k < c → g k = f k) : DP g b c d := by
  obtain ⟨h1, h2, h3⟩ := h
  exact ⟨h1, dpOK_cong (fun i hi => hg _ (by omega)) h2, by rw [dpS_cong (fun i hi => hg _ (by omega))]; exact h3⟩
theorem DP.add {f g : Nat → Int32} {b c d d' t : Nat} (h : DP f b c d) (hg : ∀ k, k < c → g k = f k) (hc : g c = nI t) (ht : t ≤ 1033) (hd : (t < 1023 ∧ d' = d + 1) ∨ (t = 1025 ∧ 1 ≤ d ∧ d' = d) ∨ (1023 ≤ t ∧ ¬ t = 1025 ∧ 2 ≤ d ∧ d' + 1 = d)) : DP g b (c + 1) d' := by
  have h' := h.cong hg
  obtain ⟨h1, h2, h3⟩ := h'
  have hk : c + 1 - b = (c - b) + 1 := by omega
  have hb : b + (c - b) = c := by omega
  refine ⟨by omega, ?_, ?_⟩
  · rw [hk]
    intro i hi
    by_cases q : i < c - b
    · exact h2 i q
    · have : i = c - b := by omega
      subst this
      rw [hb, hc, h3]
      refine ⟨fun z => ?_, fun z z2 => ?_⟩
      · have := nI_ij (by omega) (by omega) z; omega
      · have q1 : ¬ t = 1025 := fun y => z (by rw [y])
        have q2 : 1023 ≤ t := Classical.byContradiction fun y => nI_ge (a := t) (b := 1023) (by omega) (by omega) z2
        omega
  · rw [hk, dpS_s, hb, hc, h3]
    rcases hd with ⟨q1, q2⟩ | ⟨q1, q2, q3⟩ | ⟨q1, q2, q3, q4⟩
    · rw [if_neg (fun z => by have := nI_ij (by omega) (by omega) z; omega), if_neg (nI_ge (by omega) (by omega)), q2]
    · rw [if_pos (by rw [q1]), q3]
    · rw [if_neg (fun z => by have := nI_ij (by omega) (by omega) z; omega), if_pos (nI_le q1 (by omega))]
      omega
def akM (hd c t : Nat) (w : Int32) (m : jMem) : jMem := jup (jup (jup m (hd + 6) c (nI t)) (hd + 7) c w) hd 10 (nI (c + 1))
def ouM (c : Nat) (s v : Int32) (M : jMem) : jMem := jup (jup (jup M 111 (64 + c) s) 112 (64 + c) v) 109 5 (nI (c + 1))
theorem e_addKnot {hd c t : Nat} {w : Int32} {m : jMem} (hh : hd = 3 ∨ hd = 12) (ht : 1001 ≤ t ∧ t ≤ 1033) (hc : c < 64) (h : m hd 10 = nI c) : f_H_addKnot hd t w m = some ((), akM hd c t w m) := by
  obtain ⟨l6, l7, -⟩ := jhlen hh
  unfold f_H_addKnot akM
  simp only [lits]
  rw [h, if_pos (nI_lt hc (by omega)), jgd_tk ht, jst_nI l6 (by omega) hc]
  rw [show jup m (hd + 6) c (Int32.ofNat t) hd 10 = nI c by rw [jup_oc (by omega)]; exact h, jst_nI l7 (by omega) hc]
  rw [show jup (jup m (hd + 6) c (Int32.ofNat t)) (hd + 7) c w hd 10 = nI c by rw [jup_oc (by omega), jup_oc (by omega)]; exact h, jpu_e, nI_add]
  rfl
theorem e_out {c : Nat} {s v : Int32} {M : jMem} (hc : c < 64) (h : M 109 5 = nI c) : f_M_out s v M = some ((), ouM c s v M) := by
  unfold f_M_out ouM
  simp (disch := omega) only [lits, negs, nI_add, nn1, leT, leF, ltT, ltF, eqF, mF1, mF2, mF3, mF4, mF5, mF6, mTT, eq_self, Nat.reduceEqDiff, ↓reduceIte, jbd_s, jpu_e, tI0, tI1, jgd_tI, jgd_bb, tfF, ftF, jup_at, jup_oc, jup_ok, h, st_111, st_112]
theorem akM_ne {hd c t : Nat} {w : Int32} {m : jMem} {q k : Nat} (h1 : ¬ (q = hd ∧ k = 10)) (h2 : ¬ ((q = hd + 6 ∨ q = hd + 7) ∧ c ≤ k)) : akM hd c t w m q k = m q k := by
  unfold akM
  rw [jup_no h1, jup_no (by omega), jup_no (by omega)]
theorem ouM_ne {c : Nat} {s v : Int32} {M : jMem} {q k : Nat} (h1 : ¬ (q = 109 ∧ k = 5)) (h2 : ¬ ((q = 111 ∨ q = 112) ∧ 64 + c ≤ k)) : ouM c s v M q k = M q k := by
  unfold ouM
  rw [jup_no h1, jup_no (by omega), jup_no (by omega)]
/-- a knot put down on both sides -/
theorem CD.add {hd c t : Nat} {w s v : Int32} {m M : jMem} (h : CD hd c m M) (hk : knR (nI t) w s v) : CD hd (c + 1) (akM hd c t w m) (ouM c s v M) := by
  refine ⟨jup_at, jup_at, fun k hk2 => ?_⟩
  by_cases q : k = c
  · subst q
    have e1 : akM hd k t w m (hd + 6) k = nI t := by
      unfold akM
      rw [jup_no (by omega), jup_no (by omega)]; exact jup_at
    have e2 : akM hd k t w m (hd + 7) k = w := by
      unfold akM
      rw [jup_no (by omega)]; exact jup_at
    have e3 : ouM k s v M 111 (64 + k) = s := by
      unfold ouM
      rw [jup_no (by omega), jup_no (by omega)]; exact jup_at
    have e4 : ouM k s v M 112 (64 + k) = v := by
      unfold ouM
      rw [jup_no (by omega)]; exact jup_at
    rw [e1, e2, e3, e4]
    exact hk
  · rw [akM_ne (by omega) (by omega), akM_ne (by omega) (by omega), ouM_ne (by omega) (by omega), ouM_ne (by omega) (by omega)]
    exact h.c3 k (by omega)
theorem CD.cong {hd c : Nat} {m M m' M' : jMem} (h : CD hd c m M) (h1 : m' hd 10 = m hd 10) (h2 : ∀ k, k < c → m' (hd + 6) k = m (hd + 6) k ∧ m' (hd + 7) k = m (hd + 7) k) (h3 : M' 109 5 = M 109 5) (h4 : ∀ k, k < c → M' 111 (64 + k) = M 111 (64 + k) ∧ M' 112 (64 + k) = M 112 (64 + k)) : CD hd c m' M' :=
  ⟨h1.trans h.c1, h3.trans h.c2, fun k hk => by rw [(h2 k hk).1, (h2 k hk).2, (h4 k hk).1, (h4 k hk).2]; exact h.c3 k hk⟩
def frS (hd c : Nat) (m m' : jMem) : Prop := ∀ q k, ¬ (q = 21 ∧ k = 8) → ¬ (q = hd ∧ k = 10) → ¬ ((q = hd + 6 ∨ q = hd + 7) ∧ c ≤ k) → m' q k = m q k
def frP (c : Nat) (M M' : jMem) : Prop := ∀ q k, ¬ (q = 109 ∧ (k = 26 ∨ k = 5)) → ¬ ((q = 111 ∨ q = 112) ∧ 64 + c ≤ k) → M' q k = M q k
def rlP (s : Nat → Nat) (r l pc : Nat) : Prop := ∀ k, k < pc → (∀ k', k < k' → k' < pc → ¬ s k' = 1005) → ¬ s k = 1005 → (r ≤ rkT (s k) ↔ l ≤ rkT (s k))
theorem sim_settle {hd b r l : Nat} {s : Nat → Nat} (hh : hd = 3 ∨ hd = 12) (hr : r ≤ 5) (hl : 1 ≤ l) (hl5 : l ≤ 5) : ∀ (pc c n n' : Nat) (m M : jMem), pc < n → pc < n' → pc ≤ 72 → PD s pc m M → CD hd c m M → c + noP s pc ≤ 64 → m 21 6 = nI hd → DP (m (hd + 6)) b c (biN s pc + 1) → rlP s r l pc → ∃ m' M' pc' c', lp_R_settle_5 (nI r) (fun m7 => some ((), m7)) (fun m8 => some ((), m8)) n (nI pc) m = some ((), m') ∧ lp_M_pour_0 (nI l) (fun m8 => some ((), m8)) n' M = some ((), M') ∧ pc' ≤ pc ∧ c ≤ c' ∧ PD s pc' m' M' ∧ CD hd c' m' M' ∧ c' + noP s pc' = c + noP s pc ∧ DP (m' (hd + 6)) b c' (biN s pc' + 1) ∧ (pc' = 0 ∨ s (pc' - 1) = 1005 ∨ rkT (s (pc' - 1)) < r) ∧ (∀ k, pc' ≤ k → k < pc → ¬ s k = 1005 ∧ r ≤ rkT (s k)) ∧ frS hd c m m' ∧ frP c M M' := by
  intro pc
  induction pc with
  | zero =>
    intro c n n' m M h1 h2 h3 hp hc hcn h6 hdp hrl
    obtain ⟨n, rfl⟩ := ex_succ h1
    obtain ⟨n', rfl⟩ := ex_succ h2
    refine ⟨m, M, 0, c, ?_, ?_, by omega, by omega, hp, hc, rfl, hdp, Or.inl rfl, fun k a b => absurd b (by omega), fun q k _ _ _ => rfl, fun q k _ _ => rfl⟩
    · rw [lp_R_settle_5]
      simp (disch := omega) only [lits, negs, nI_add, nn1, leT, leF, ltT, ltF, eqF, mF1, mF2, mF3, mF4, mF5, mF6, mTT, eq_self, Nat.reduceEqDiff, ↓reduceIte, jbd_s, jpu_e, tI0, tI1, jgd_tI, jgd_bb, tfF, ftF, jup_at, jup_oc, jup_ok]
    · rw [lp_M_pour_0]
      simp (disch := omega) only [lits, negs, nI_add, nn1, leT, leF, ltT, ltF, eqF, mF1, mF2, mF3, mF4, mF5, mF6, mTT, eq_self, Nat.reduceEqDiff, ↓reduceIte, jbd_s, jpu_e, tI0, tI1, jgd_tI, jgd_bb, tfF, ftF, jup_at, jup_oc, jup_ok, hp.p2]
  | succ pc ih =>
    intro c n n' m M h1 h2 h3 hp hc hcn h6 hdp hrl
    obtain ⟨n, rfl⟩ := ex_succ h1
    obtain ⟨n', rfl⟩ := ex_succ h2
    obtain ⟨a1, a2, a3⟩ := hp.p3 pc (by omega)
    obtain ⟨b1, b2, b3, b4⟩ := rk_p a1
    have ht : 1001 ≤ s pc ∧ s pc ≤ 1033 := by unfold pdT at a1; omega
    have hrk := (rk_e ht).1
    have eC : ∀ R, (if s pc = 1005 then some ((), m) else if r ≤ rkT (s pc) then lp_R_settle_5 (nI r) (fun m7 => some ((), m7)) (fun m8 => some ((), m8)) n (nI pc) (jup (akM hd c (s pc) (nI 0) m) 21 8 (nI pc)) else some ((), m)) = R → c < 64 ∨ s pc = 1005 ∨ ¬ r ≤ rkT (s pc) → lp_R_settle_5 (nI r) (fun m7 => some ((), m7)) (fun m8 => some ((), m8)) (n + 1) (nI (pc + 1)) m = R := fun R hR hc64 => by
      rw [lp_R_settle_5]
      simp only [lits, negs]
      rw [if_neg (nI_ge (by omega) (by omega)), hp.p1, if_neg (nI_ge (by omega) (by omega)), nn1, l4_22 (by omega), a2, nI_clamp (by omega), if_neg (by omega), jgd_ok (by omega) (by omega)]
      by_cases q : s pc = 1005
      · rw [if_pos q] at hR ⊢
        exact hR
      · rw [if_neg q] at hR ⊢
        rw [jgd_tk ht, jlt_e, hrk]
        by_cases q2 : r ≤ rkT (s pc)
        · rw [if_pos q2] at hR
          rw [if_pos (nI_le q2 (by omega)), h6, nI_clamp (by omega), jgd_hok hh, e_addKnot hh ht (by omega) hc.c1, jbd_s, show akM hd c (s pc) (nI 0) m 21 8 = nI (pc + 1) by rw [akM_ne (by omega) (by omega)]; exact hp.p1, nn1, jpu_e, n_dec, nn1]
          exact hR
        · rw [if_neg q2] at hR
          rw [if_neg (nI_ge (by omega) (by omega))]
          exact hR
    have eM : ∀ R, (if l ≤ rkT (s pc) then lp_M_pour_0 (nI l) (fun m8 => some ((), m8)) n' (ouM c (nI 2) (nI (sgP (s pc))) (jup M 109 26 (nI pc))) else some ((), M)) = R → c < 64 ∨ ¬ l ≤ rkT (s pc) → lp_M_pour_0 (nI l) (fun m8 => some ((), m8)) (n' + 1) M = R := fun R hR hc64 => by
      rw [lp_M_pour_0]
      simp only [lits, negs]
      rw [hp.p2, if_neg (nI_ge (by omega) (by omega)), nn1, ld_117 (by omega), a3, e_bind a1, jbd_s]
      by_cases q2 : l ≤ rkT (s pc)
      · rw [if_pos q2] at hR
        rw [if_neg (by rw [ltF q2 (by omega)]; exact id), jpu_e, jup_at, hp.p2, nn1, ld_117 (by omega), jup_oc (by omega), a3, e_out (c := c) (by omega) (by rw [jup_ok (by omega)]; exact hc.c2), jbd_s]
        exact hR
      · rw [if_neg q2] at hR
        rw [if_pos (nI_lt (by omega) (by omega))]
        exact hR
    have stop : (s pc = 1005 ∨ ¬ r ≤ rkT (s pc)) → (¬ l ≤ rkT (s pc)) → ∃ m' M' pc' c', lp_R_settle_5 (nI r) (fun m7 => some ((), m7)) (fun m8 => some ((), m8)) (n + 1) (nI (pc + 1)) m = some ((), m') ∧ lp_M_pour_0 (nI l) (fun m8 => some ((), m8)) (n' + 1) M = some ((), M') ∧ pc' ≤ pc + 1 ∧ c ≤ c' ∧ PD s pc' m' M' ∧ CD hd c' m' M' ∧ c' + noP s pc' = c + noP s (pc + 1) ∧ DP (m' (hd + 6)) b c' (biN s pc' + 1) ∧ (pc' = 0 ∨ s (pc' - 1) = 1005 ∨ rkT (s (pc' - 1)) < r) ∧ (∀ k, pc' ≤ k → k < pc + 1 → ¬ s k = 1005 ∧ r ≤ rkT (s k)) ∧ frS hd c m m' ∧ frP c M M' := fun q1 q2 => by
      refine ⟨m, M, pc + 1, c, eC _ ?_ (Or.inr q1), eM _ (if_neg q2) (Or.inr q2), by omega, by omega, hp, hc, rfl, hdp, Or.inr ?_, fun k a b => absurd b (by omega), fun q k _ _ _ => rfl, fun q k _ _ => rfl⟩
      · by_cases z : s pc = 1005
        · rw [if_pos z]
        · rw [if_neg z, if_neg (q1.resolve_left z)]
      · rw [Nat.add_sub_cancel]
        exact q1.imp id (fun z => by omega)
    by_cases q : s pc = 1005
    · exact stop (Or.inl q) (by have := b3 q; omega)
    · have hiff := hrl pc (by omega) (fun k' x y => absurd x (by omega)) q
      by_cases q2 : r ≤ rkT (s pc)
      · clear stop
        have hno : noP s (pc + 1) = noP s pc + 1 := by
          unfold noP
          rw [fb_ct_succ, decide_eq_false q]
          rfl
        have hq3 : 1023 ≤ s pc := by unfold pdT at a1; omega
        have hbi : biN s (pc + 1) = biN s pc + (if s pc = 1025 then 0 else 1) := by
          unfold biN
          rw [fb_ct_succ, decide_eq_true hq3, Bool.true_and]
          by_cases z : s pc = 1025
          · rw [decide_eq_true z, if_pos z]; rfl
          · rw [decide_eq_false z, if_neg z]; rfl
        have hkn : knR (nI (s pc)) (nI 0) (nI 2) (nI (sgP (s pc))) := by
          refine Or.inr (Or.inr ⟨s pc, hq3, ht.2, rfl, rfl, ?_⟩)
          unfold sgP
          rw [if_neg q]
        have hf6 : ∀ k, jup (akM hd c (s pc) (nI 0) m) 21 8 (nI pc) (hd + 6) k = if k = c then nI (s pc) else m (hd + 6) k := fun k => by
          rw [jup_no (by omega)]
          unfold akM
          rw [jup_no (by omega), jup_no (by omega)]
          by_cases z : k = c
          · rw [if_pos z, z]; exact jup_at
          · rw [if_neg z, jup_no (by omega)]
        obtain ⟨m', M', pc', c', e1, e2, e3, e4, e5, e6, e7, e8, e9, e10, e11, e12⟩ := ih (c + 1) n n' (jup (akM hd c (s pc) (nI 0) m) 21 8 (nI pc)) (ouM c (nI 2) (nI (sgP (s pc))) (jup M 109 26 (nI pc))) (by omega) (by omega) (by omega) ⟨jup_at, by rw [ouM_ne (by omega) (by omega)]; exact jup_at, fun k hk => by
            obtain ⟨x1, x2, x3⟩ := hp.p3 k (by omega)
            rw [jup_no (by omega), akM_ne (by omega) (by omega), ouM_ne (by omega) (by omega), jup_no (by omega)]
            exact ⟨x1, x2, x3⟩⟩ ((CD.add (M := jup M 109 26 (nI pc)) (hc.cong rfl (fun _ _ => ⟨rfl, rfl⟩) (jup_no (by omega)) (fun k _ => ⟨jup_no (by omega), jup_no (by omega)⟩)) hkn).cong (jup_no (by omega)) (fun k _ => ⟨jup_no (by omega), jup_no (by omega)⟩) rfl (fun _ _ => ⟨rfl, rfl⟩)) (by omega) (by rw [jup_no (by omega), akM_ne (by omega) (by omega)]; exact h6) (by
            refine hdp.add (t := s pc) (fun k hk => by rw [hf6, if_neg (by omega)]) (by rw [hf6, if_pos rfl]) (by omega) ?_
            by_cases z : s pc = 1025
            · rw [if_pos z] at hbi
              exact Or.inr (Or.inl ⟨z, by omega, by omega⟩)
            · rw [if_neg z] at hbi
              exact Or.inr (Or.inr ⟨hq3, z, by omega, by omega⟩)) (fun k hk hk2 hk3 => hrl k (by omega) (fun k' x y => by
            by_cases z : k' = pc
            · rw [z]; exact q
            · exact hk2 k' x (by omega)) hk3)
        refine ⟨m', M', pc', c', eC _ (by rw [if_neg q, if_pos q2]; exact e1) (Or.inl (by omega)), eM _ (by rw [if_pos (hiff.mp q2)]; exact e2) (Or.inl (by omega)), by omega, by omega, e5, e6, by omega, e8, e9, fun k x y => ?_, fun q' k x y z => ?_, fun q' k x y => ?_⟩
        · by_cases z : k = pc
          · rw [z]; exact ⟨q, q2⟩
          · exact e10 k x (by omega)
        · rw [e11 q' k x y (by omega), jup_no x, akM_ne y z]
        · rw [e12 q' k x (by omega), ouM_ne (by omega) y, jup_no (by omega)]
      · exact stop (Or.inr q2) (fun z => q2 (hiff.mpr z))
