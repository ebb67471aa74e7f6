/-! an expression on both sides: what holds between two tokens -/
def levP (s : Nat → Nat) (pc : Nat) : Nat := fb_ct (fun k => decide (s k = 1005)) pc
def cmpT (s : Nat → Nat) : Nat → Bool
  | 0 => false
  | k + 1 => if s k = 1005 then false else (decide (rkT (s k) = 4) || cmpT s k)
theorem cmpT_s (s : Nat → Nat) (k : Nat) : cmpT s (k + 1) = if s k = 1005 then false else (decide (rkT (s k) = 4) || cmpT s k) := rfl
def psh (s : Nat → Nat) (pc t : Nat) : Nat → Nat := fun k => if k = pc then t else s k
section PS
variable {s s' : Nat → Nat} {pc t : Nat}
theorem psh_at : psh s pc t pc = t := if_pos rfl
theorem psh_ne {k : Nat} (h : ¬ k = pc) : psh s pc t k = s k := if_neg h
theorem cmpT_cong : ∀ {k : Nat}, (∀ i, i < k → s' i = s i) → cmpT s' k = cmpT s k
  | 0, _ => rfl
  | k + 1, h => by rw [cmpT_s, cmpT_s, h k (by omega), cmpT_cong (k := k) (fun i hi => h i (by omega))]
theorem cnt_cong {g : Nat → Bool} {k : Nat} (h : ∀ i, i < k → s' i = s i) : fb_ct (fun i => g (s' i)) k = fb_ct (fun i => g (s i)) k := fb_ct_cong fun i hi => by rw [h i hi]
theorem lev_psh {k : Nat} (h : k ≤ pc) : levP (psh s pc t) k = levP s k := cnt_cong (g := fun x => decide (x = 1005)) fun i hi => psh_ne (by omega)
theorem nop_psh {k : Nat} (h : k ≤ pc) : noP (psh s pc t) k = noP s k := cnt_cong (g := fun x => !decide (x = 1005)) fun i hi => psh_ne (by omega)
theorem bin_psh {k : Nat} (h : k ≤ pc) : biN (psh s pc t) k = biN s k := cnt_cong (g := fun x => decide (1023 ≤ x) && !decide (x = 1025)) fun i hi => psh_ne (by omega)
theorem cmp_psh {k : Nat} (h : k ≤ pc) : cmpT (psh s pc t) k = cmpT s k := cmpT_cong fun i hi => psh_ne (by omega)
theorem lev_s : levP s (pc + 1) = levP s pc + (if s pc = 1005 then 1 else 0) := by
  unfold levP
  rw [fb_ct_succ]
  by_cases q : s pc = 1005
  · rw [decide_eq_true q, if_pos rfl, if_pos q]
  · rw [decide_eq_false q, if_neg Bool.false_ne_true, if_neg q]
theorem nop_s : noP s (pc + 1) = noP s pc + (if s pc = 1005 then 0 else 1) := by
  unfold noP
  rw [fb_ct_succ]
  by_cases q : s pc = 1005
  · rw [decide_eq_true q, if_pos q]; rfl
  · rw [decide_eq_false q, if_neg q]; rfl
theorem bin_s : biN s (pc + 1) = biN s pc + (if 1023 ≤ s pc ∧ ¬ s pc = 1025 then 1 else 0) := by
  unfold biN
  rw [fb_ct_succ]
  by_cases q : 1023 ≤ s pc
  · by_cases q2 : s pc = 1025
    · rw [decide_eq_true q, decide_eq_true q2, if_neg (show ¬ (true && !true) = true from Bool.false_ne_true), if_neg (show ¬ (1023 ≤ s pc ∧ ¬ s pc = 1025) from fun z => z.2 q2)]
    · rw [decide_eq_true q, decide_eq_false q2, if_pos (show (true && !false) = true from rfl), if_pos (show 1023 ≤ s pc ∧ ¬ s pc = 1025 from ⟨q, q2⟩)]
  · rw [decide_eq_false q, Bool.false_and, if_neg Bool.false_ne_true, if_neg (show ¬ (1023 ≤ s pc ∧ ¬ s pc = 1025) from fun z => q z.1)]
theorem lev_mono {k : Nat} (h : k ≤ pc) : levP s k ≤ levP s pc := fb_ct_mono _ h
theorem lev_lt {k : Nat} (h : k < pc) (hk : s k = 1005) : levP s k < levP s pc := by
  have h1 := lev_s (s := s) (pc := k)
  rw [if_pos hk] at h1
  have := lev_mono (s := s) (pc := pc) (k := k + 1) (by omega)
  omega
theorem nop_lev : noP s pc + levP s pc = pc := by
  have := fb_ct_not (fun k => decide (s k = 1005)) pc
  unfold noP levP
  omega
/-- above the place pc' there is neither a bracket nor a comparison -/
theorem cmp_same {pc' : Nat} : ∀ {pc : Nat}, pc' ≤ pc → (∀ k, pc' ≤ k → k < pc → ¬ s k = 1005 ∧ ¬ rkT (s k) = 4) → cmpT s pc = cmpT s pc'
  | 0, h, _ => by rw [show pc' = 0 by omega]
  | pc + 1, h, h2 => by
    by_cases q : pc' = pc + 1
    · rw [q]
    · obtain ⟨a, b⟩ := h2 pc (by omega) (by omega)
      rw [cmpT_s, if_neg a, decide_eq_false b, Bool.false_or]
      exact cmp_same (by omega) fun k x y => h2 k x (by omega)
theorem lev_same {pc' : Nat} : ∀ {pc : Nat}, pc' ≤ pc → (∀ k, pc' ≤ k → k < pc → ¬ s k = 1005) → levP s pc = levP s pc'
  | 0, h, _ => by rw [show pc' = 0 by omega]
  | pc + 1, h, h2 => by
    by_cases q : pc' = pc + 1
    · rw [q]
    · rw [lev_s, if_neg (h2 pc (by omega) (by omega)), Nat.add_zero]
      exact lev_same (by omega) fun k x y => h2 k x (by omega)
theorem cmp_no : ∀ {pc : Nat}, cmpT s pc = false → ∀ k, k < pc → (∀ k', k < k' → k' < pc → ¬ s k' = 1005) → ¬ s k = 1005 → ¬ rkT (s k) = 4
  | 0, _, k, hk, _, _ => absurd hk (Nat.not_lt_zero k)
  | pc + 1, h, k, hk, h2, h3 => by
    have hpc : ¬ s pc = 1005 := by
      by_cases q : k = pc
      · rw [← q]; exact h3
      · exact h2 pc (by omega) (by omega)
    rw [cmpT_s, if_neg hpc, Bool.or_eq_false_iff, decide_eq_false_iff_not] at h
    by_cases q : k = pc
    · rw [q]; exact h.1
    · exact cmp_no h.2 k (by omega) (fun k' x y => h2 k' x (by omega)) h3
/-- the top stands for no comparison -/
theorem cmp_top (sg : ∀ k, k < pc → ¬ s k = 1005 → rkT (s k) < 4 → cmpT s k = false) (h : pc = 0 ∨ s (pc - 1) = 1005 ∨ rkT (s (pc - 1)) < 4) : cmpT s pc = false := by
  by_cases q : pc = 0
  · rw [q]; rfl
  · have e : pc = (pc - 1) + 1 := by omega
    rw [e, cmpT_s]
    by_cases q2 : s (pc - 1) = 1005
    · rw [if_pos q2]
    · have q3 := (h.resolve_left q).resolve_left q2
      rw [if_neg q2, decide_eq_false (by omega), Bool.false_or]
      exact sg (pc - 1) (by omega) q2 q3
end PS
def EX (B : Nat → Nat) (n K : Nat) (T Pl W : Nat → Int32) (hd b : Nat) (s : Nat → Nat) (pc c kn o : Nat) (due : Bool) (m M : jMem) (j : Nat) : Prop := (TX B n K T Pl W m M j) ∧ (m 21 4 = nI 0) ∧ (M 109 21 = nI 0) ∧ (m 21 6 = nI hd) ∧ (m hd 11 = nI kn) ∧ (M 109 7 = nI kn) ∧ (kn ≤ 64) ∧ (CD hd c m M) ∧ (PD s pc m M) ∧ (m 21 9 = nI o) ∧ (M 109 27 = nI o) ∧ (o ≤ 8) ∧ (c + noP s pc = kn) ∧ (levP s pc = o) ∧ (∀ k, k ≤ pc → (k = pc ∨ s k = 1005) → m 23 (levP s k) = tI (cmpT s k)) ∧ (∀ k, k < pc → ¬ s k = 1005 → rkT (s k) < 4 → cmpT s k = false) ∧ (m 21 11 = tI due) ∧ (due = true → m 21 12 = tI (decide (pc = 0) || decide (rkT (s (pc - 1)) < 4))) ∧ (DP (m (hd + 6)) b c (biN s pc + (if due = true then 0 else 1)))
theorem EX.tx {B : Nat → Nat} {n K : Nat} {T Pl W : Nat → Int32} {hd b : Nat} {s : Nat → Nat} {pc c kn o : Nat} {due : Bool} {m M : jMem} {j : Nat} (h : EX B n K T Pl W hd b s pc c kn o due m M j) : TX B n K T Pl W m M j := h.1
theorem EX.f0 {B : Nat → Nat} {n K : Nat} {T Pl W : Nat → Int32} {hd b : Nat} {s : Nat → Nat} {pc c kn o : Nat} {due : Bool} {m M : jMem} {j : Nat} (h : EX B n K T Pl W hd b s pc c kn o due m M j) : m 21 4 = nI 0 := h.2.1
theorem EX.f1 {B : Nat → Nat} {n K : Nat} {T Pl W : Nat → Int32} {hd b : Nat} {s : Nat → Nat} {pc c kn o : Nat} {due : Bool} {m M : jMem} {j : Nat} (h : EX B n K T Pl W hd b s pc c kn o due m M j) : M 109 21 = nI 0 := h.2.2.1
theorem EX.dr {B : Nat → Nat} {n K : Nat} {T Pl W : Nat → Int32} {hd b : Nat} {s : Nat → Nat} {pc c kn o : Nat} {due : Bool} {m M : jMem} {j : Nat} (h : EX B n K T Pl W hd b s pc c kn o due m M j) : m 21 6 = nI hd := h.2.2.2.1
theorem EX.k1 {B : Nat → Nat} {n K : Nat} {T Pl W : Nat → Int32} {hd b : Nat} {s : Nat → Nat} {pc c kn o : Nat} {due : Bool} {m M : jMem} {j : Nat} (h : EX B n K T Pl W hd b s pc c kn o due m M j) : m hd 11 = nI kn := h.2.2.2.2.1
theorem EX.k2 {B : Nat → Nat} {n K : Nat} {T Pl W : Nat → Int32} {hd b : Nat} {s : Nat → Nat} {pc c kn o : Nat} {due : Bool} {m M : jMem} {j : Nat} (h : EX B n K T Pl W hd b s pc c kn o due m M j) : M 109 7 = nI kn := h.2.2.2.2.2.1
theorem EX.k3 {B : Nat → Nat} {n K : Nat} {T Pl W : Nat → Int32} {hd b : Nat} {s : Nat → Nat} {pc c kn o : Nat} {due : Bool} {m M : jMem} {j : Nat} (h : EX B n K T Pl W hd b s pc c kn o due m M j) : kn ≤ 64 := h.2.2.2.2.2.2.1
theorem EX.cd {B : Nat → Nat} {n K : Nat} {T Pl W : Nat → Int32} {hd b : Nat} {s : Nat → Nat} {pc c kn o : Nat} {due : Bool} {m M : jMem} {j : Nat} (h : EX B n K T Pl W hd b s pc c kn o due m M j) : CD hd c m M := h.2.2.2.2.2.2.2.1
theorem EX.pd {B : Nat → Nat} {n K : Nat} {T Pl W : Nat → Int32} {hd b : Nat} {s : Nat → Nat} {pc c kn o : Nat} {due : Bool} {m M : jMem} {j : Nat} (h : EX B n K T Pl W hd b s pc c kn o due m M j) : PD s pc m M := h.2.2.2.2.2.2.2.2.1
theorem EX.o1 {B : Nat → Nat} {n K : Nat} {T Pl W : Nat → Int32} {hd b : Nat} {s : Nat → Nat} {pc c kn o : Nat} {due : Bool} {m M : jMem} {j : Nat} (h : EX B n K T Pl W hd b s pc c kn o due m M j) : m 21 9 = nI o := h.2.2.2.2.2.2.2.2.2.1
theorem EX.o2 {B : Nat → Nat} {n K : Nat} {T Pl W : Nat → Int32} {hd b : Nat} {s : Nat → Nat} {pc c kn o : Nat} {due : Bool} {m M : jMem} {j : Nat} (h : EX B n K T Pl W hd b s pc c kn o due m M j) : M 109 27 = nI o := h.2.2.2.2.2.2.2.2.2.2.1
theorem EX.o3 {B : Nat → Nat} {n K : Nat} {T Pl W : Nat → Int32} {hd b : Nat} {s : Nat → Nat} {pc c kn o : Nat} {due : Bool} {m M : jMem} {j : Nat} (h : EX B n K T Pl W hd b s pc c kn o due m M j) : o ≤ 8 := h.2.2.2.2.2.2.2.2.2.2.2.1
theorem EX.ko {B : Nat → Nat} {n K : Nat} {T Pl W : Nat → Int32} {hd b : Nat} {s : Nat → Nat} {pc c kn o : Nat} {due : Bool} {m M : jMem} {j : Nat} (h : EX B n K T Pl W hd b s pc c kn o due m M j) : c + noP s pc = kn := h.2.2.2.2.2.2.2.2.2.2.2.2.1
theorem EX.lv {B : Nat → Nat} {n K : Nat} {T Pl W : Nat → Int32} {hd b : Nat} {s : Nat → Nat} {pc c kn o : Nat} {due : Bool} {m M : jMem} {j : Nat} (h : EX B n K T Pl W hd b s pc c kn o due m M j) : levP s pc = o := h.2.2.2.2.2.2.2.2.2.2.2.2.2.1
theorem EX.cm {B : Nat → Nat} {n K : Nat} {T Pl W : Nat → Int32} {hd b : Nat} {s : Nat → Nat} {pc c kn o : Nat} {due : Bool} {m M : jMem} {j : Nat} (h : EX B n K T Pl W hd b s pc c kn o due m M j) : ∀ k, k ≤ pc → (k = pc ∨ s k = 1005) → m 23 (levP s k) = tI (cmpT s k) := h.2.2.2.2.2.2.2.2.2.2.2.2.2.2.1
theorem EX.sg {B : Nat → Nat} {n K : Nat} {T Pl W : Nat → Int32} {hd b : Nat} {s : Nat → Nat} {pc c kn o : Nat} {due : Bool} {m M : jMem} {j : Nat} (h : EX B n K T Pl W hd b s pc c kn o due m M j) : ∀ k, k < pc → ¬ s k = 1005 → rkT (s k) < 4 → cmpT s k = false := h.2.2.2.2.2.2.2.2.2.2.2.2.2.2.2.1
theorem EX.du {B : Nat → Nat} {n K : Nat} {T Pl W : Nat → Int32} {hd b : Nat} {s : Nat → Nat} {pc c kn o : Nat} {due : Bool} {m M : jMem} {j : Nat} (h : EX B n K T Pl W hd b s pc c kn o due m M j) : m 21 11 = tI due := h.2.2.2.2.2.2.2.2.2.2.2.2.2.2.2.2.1
theorem EX.nm {B : Nat → Nat} {n K : Nat} {T Pl W : Nat → Int32} {hd b : Nat} {s : Nat → Nat} {pc c kn o : Nat} {due : Bool} {m M : jMem} {j : Nat} (h : EX B n K T Pl W hd b s pc c kn o due m M j) : due = true → m 21 12 = tI (decide (pc = 0) || decide (rkT (s (pc - 1)) < 4)) := h.2.2.2.2.2.2.2.2.2.2.2.2.2.2.2.2.2.1
theorem EX.dp {B : Nat → Nat} {n K : Nat} {T Pl W : Nat → Int32} {hd b : Nat} {s : Nat → Nat} {pc c kn o : Nat} {due : Bool} {m M : jMem} {j : Nat} (h : EX B n K T Pl W hd b s pc c kn o due m M j) : DP (m (hd + 6)) b c (biN s pc + (if due = true then 0 else 1)) := h.2.2.2.2.2.2.2.2.2.2.2.2.2.2.2.2.2.2
def frE (hd c0 : Nat) (m m' : jMem) : Prop := ∀ q k, ¬ (q = 21 ∧ ¬ k = 6) → ¬ (q = 22 ∨ q = 23) → ¬ (q = hd ∧ (k = 10 ∨ k = 11)) → ¬ ((q = hd + 6 ∨ q = hd + 7) ∧ c0 ≤ k) → m' q k = m q k
def frF (c0 : Nat) (M M' : jMem) : Prop := ∀ q k, ¬ (q = 109 ∧ (k = 5 ∨ k = 7 ∨ (17 ≤ k ∧ k ≤ 22) ∨ k = 26 ∨ k = 27)) → ¬ ((q = 111 ∨ q = 112) ∧ 64 + c0 ≤ k) → ¬ q = 117 → M' q k = M q k
theorem frE.tr {hd c0 : Nat} {m m' m'' : jMem} (h : frE hd c0 m m') (h2 : frE hd c0 m' m'') : frE hd c0 m m'' := fun q k a b c d => (h2 q k a b c d).trans (h q k a b c d)
theorem frF.tr {c0 : Nat} {M M' M'' : jMem} (h : frF c0 M M') (h2 : frF c0 M' M'') : frF c0 M M'' := fun q k a b c => (h2 q k a b c).trans (h q k a b c)
theorem frE.rf {hd c0 : Nat} {m : jMem} : frE hd c0 m m := fun _ _ _ _ _ _ => rfl
theorem frF.rf {c0 : Nat} {M : jMem} : frF c0 M M := fun _ _ _ _ _ => rfl
/-- what is left after a fault: enough to pour out -/
def PW (hd : Nat) (m : jMem) : Prop := m 21 6 = nI hd ∧ ∃ (s : Nat → Nat) (pc c : Nat), pc ≤ 72 ∧ m 21 8 = nI pc ∧ (∀ k, k < pc → pdT (s k) ∧ m 22 k = nI (s k)) ∧ m hd 10 = nI c ∧ c ≤ 64
def FX (hd : Nat) (m M : jMem) : Prop := (∃ k, 1 ≤ k ∧ k ≤ 3 ∧ m 21 4 = nI k ∧ M 109 21 = nI k) ∧ m 21 5 = M 109 22 ∧ PW hd m
def flC (k : Nat) (p : Int32) (m : jMem) : jMem := jup (jup m 21 4 (nI k)) 21 5 p
def wrM (k : Nat) (p : Int32) (M : jMem) : jMem := jup (jup M 109 21 (nI k)) 109 22 p
section EX
variable {B : Nat → Nat} {n K : Nat} {T Pl W : Nat → Int32} {hd b : Nat} {s : Nat → Nat} {pc c kn o : Nat} {due : Bool} {m M : jMem} {j : Nat}
theorem e_fail {k : Nat} (ts : TS B n K T Pl W) (h : TX B n K T Pl W m M j) : f_R_fail (nI k) m = some ((), flC k (Pl j) m) := by
  have h1 := h.jK
  have h2 := ts.Kn
  have h3 := ts.n4
  unfold f_R_fail flC
  rw [jpu_e, jup_ok (by omega), h.at, ld_26 (by omega), jup_oc (by omega), h.r26, jpu_e]
theorem e_wrong {k : Nat} (h : TX B n K T Pl W m M j) (f1 : M 109 21 = nI 0) : f_M_wrong (nI k) M = some ((), wrM k (Pl j) M) := by
  unfold f_M_wrong wrM
  simp (disch := omega) only [lits, negs, nI_add, nn1, leT, leF, ltT, ltF, eqF, mF1, mF2, mF3, mF4, mF5, mF6, mTT, eq_self, Nat.reduceEqDiff, ↓reduceIte, jbd_s, jpu_e, tI0, tI1, jgd_tI, jgd_bb, tfF, ftF, jup_at, jup_oc, jup_ok, f1, h.pl]
theorem e_wrong0 {k : Nat} {p : Int32} (h18 : M 109 18 = p) (f1 : M 109 21 = nI 0) : f_M_wrong (nI k) M = some ((), wrM k p M) := by
  unfold f_M_wrong wrM
  simp (disch := omega) only [lits, negs, nI_add, nn1, leT, leF, ltT, ltF, eqF, mF1, mF2, mF3, mF4, mF5, mF6, mTT, eq_self, Nat.reduceEqDiff, ↓reduceIte, jbd_s, jpu_e, tI0, tI1, jgd_tI, jgd_bb, tfF, ftF, jup_at, jup_oc, jup_ok, f1, h18]
theorem EX.pw (h : EX B n K T Pl W hd b s pc c kn o due m M j) : PW hd m := ⟨h.dr, s, pc, c, by have h1 := h.ko; have h2 := h.k3; have h3 := h.o3; have h4 := h.lv; have h5 := nop_lev (s := s) (pc := pc); omega, h.pd.p1, fun k hk => ⟨(h.pd.p3 k hk).1, (h.pd.p3 k hk).2.1⟩, h.cd.c1, by have h1 := h.ko; have h2 := h.k3; omega⟩
theorem PW.cong {m' : jMem} (h : PW hd m) (h6 : m' 21 6 = m 21 6) (h8 : m' 21 8 = m 21 8) (h22 : ∀ k, m' 22 k = m 22 k) (h10 : m' hd 10 = m hd 10) : PW hd m' := by
  obtain ⟨a, s, pc, c, b1, b2, b3, b4, b5⟩ := h
  exact ⟨h6.trans a, s, pc, c, b1, h8.trans b2, fun k hk => ⟨(b3 k hk).1, (h22 k).trans (b3 k hk).2⟩, h10.trans b4, b5⟩
theorem FX.mk {k : Nat} {p : Int32} (hh : hd = 3 ∨ hd = 12) (h1 : 1 ≤ k) (h3 : k ≤ 3) (h : PW hd m) : FX hd (flC k p m) (wrM k p M) := by
  refine ⟨⟨k, h1, h3, ?_, ?_⟩, ?_, h.cong ?_ ?_ (fun i => ?_) ?_⟩
  · unfold flC
    rw [jup_ok (by omega)]; exact jup_at
  · unfold wrM
    rw [jup_ok (by omega)]; exact jup_at
  · unfold wrM flC
    rw [jup_at, jup_at]
  · unfold flC
    rw [jup_no (by omega), jup_no (by omega)]
  · unfold flC
    rw [jup_no (by omega), jup_no (by omega)]
  · unfold flC
    rw [jup_no (by omega), jup_no (by omega)]
  · unfold flC
    rw [jup_no (by omega), jup_no (by omega)]
theorem frE_fl {k : Nat} {p : Int32} {c0 : Nat} : frE hd c0 m (flC k p m) := fun q k' a _ _ _ => by
  unfold flC
  rw [jup_no (by omega), jup_no (by omega)]
theorem frF_wr {k : Nat} {p : Int32} {c0 : Nat} : frF c0 M (wrM k p M) := fun q k' a _ _ => by
  unfold wrM
  rw [jup_no (by omega), jup_no (by omega)]
theorem PD.cong {m' M' : jMem} (h : PD s pc m M) (h1 : m' 21 8 = m 21 8) (h2 : M' 109 26 = M 109 26) (h3 : ∀ k, k < pc → m' 22 k = m 22 k ∧ M' 117 k = M 117 k) : PD s pc m' M' :=
  ⟨h1.trans h.p1, h2.trans h.p2, fun k hk => ⟨(h.p3 k hk).1, (h3 k hk).1.trans (h.p3 k hk).2.1, (h3 k hk).2.trans (h.p3 k hk).2.2⟩⟩
def pnM (pc t : Nat) (m : jMem) : jMem := jup (jup m 22 pc (nI t)) 21 8 (nI (pc + 1))
def awM (pc x : Nat) (M : jMem) : jMem := jup (jup M 117 pc (nI x)) 109 26 (nI (pc + 1))
theorem pnM_ne {t q k : Nat} (h : ¬ (q = 22 ∧ k = pc)) (h2 : ¬ (q = 21 ∧ k = 8)) : pnM pc t m q k = m q k := by
  unfold pnM
  rw [jup_no h2, jup_no h]
theorem awM_ne {x q k : Nat} (h : ¬ (q = 117 ∧ k = pc)) (h2 : ¬ (q = 109 ∧ k = 26)) : awM pc x M q k = M q k := by
  unfold awM
  rw [jup_no h2, jup_no h]
theorem PD.push {t : Nat} (h : PD s pc m M) (ht : pdT t) : PD (psh s pc t) (pc + 1) (pnM pc t m) (awM pc (sgP t) M) := by
  refine ⟨jup_at, jup_at, fun k hk => ?_⟩
  by_cases q : k = pc
  · rw [q, psh_at]
    refine ⟨ht, ?_, ?_⟩
    · unfold pnM
      rw [jup_no (by omega)]; exact jup_at
    · unfold awM
      rw [jup_no (by omega)]; exact jup_at
  · rw [psh_ne q, pnM_ne (by omega) (by omega), awM_ne (by omega) (by omega)]
    exact h.p3 k (by omega)
theorem e_pend {t : Nat} (ht : 1001 ≤ t ∧ t ≤ 1033) (h2 : m 21 2 = nI t) (h8 : m 21 8 = nI pc) (hpc : pc < 72) : f_R_pend m = some ((), pnM pc t m) := by
  have e : Int32.ofNat t = nI t := rfl
  unfold f_R_pend pnM
  simp only [lits]
  rw [h8, if_neg (nI_ge (by omega) (by omega)), h2, nI_clamp (by omega), jgd_tk ht, st_22 hpc, jup_oc (by omega), h8, nI_add, jpu_e, e]
theorem EX.cong {m' M' : jMem} {j' : Nat} (h : EX B n K T Pl W hd b s pc c kn o due m M j) (hh : hd = 3 ∨ hd = 12) (tx : TX B n K T Pl W m' M' j') (hc : ∀ q k, ¬ (q = 21 ∧ k ≤ 3) → m' q k = m q k) (hM : ∀ q k, ¬ (q = 109 ∧ 17 ≤ k ∧ k ≤ 20) → M' q k = M q k) : EX B n K T Pl W hd b s pc c kn o due m' M' j' := by
  refine ⟨tx, by rw [hc 21 4 (by omega)]; exact h.f0, by rw [hM 109 21 (by omega)]; exact h.f1, by rw [hc 21 6 (by omega)]; exact h.dr, by rw [hc hd 11 (by omega)]; exact h.k1, by rw [hM 109 7 (by omega)]; exact h.k2, h.k3, h.cd.cong (hc hd 10 (by omega)) (fun k _ => ⟨hc (hd + 6) k (by omega), hc (hd + 7) k (by omega)⟩) (hM 109 5 (by omega)) (fun k _ => ⟨hM 111 _ (by omega), hM 112 _ (by omega)⟩), h.pd.cong (hc 21 8 (by omega)) (hM 109 26 (by omega)) (fun k _ => ⟨hc 22 k (by omega), hM 117 k (by omega)⟩), by rw [hc 21 9 (by omega)]; exact h.o1, by rw [hM 109 27 (by omega)]; exact h.o2, h.o3, h.ko, h.lv, fun k a b => by rw [hc 23 _ (by omega)]; exact h.cm k a b, h.sg, by rw [hc 21 11 (by omega)]; exact h.du, fun z => by rw [hc 21 12 (by omega)]; exact h.nm z, h.dp.cong fun k _ => hc (hd + 6) k (by omega)⟩
/-- on to the next token -/
theorem EX.step {c0 : Nat} (hh : hd = 3 ∨ hd = 12) (ts : TS B n K T Pl W) (h : EX B n K T Pl W hd b s pc c kn o due m M j) (hj : j < K) : ∃ M', f_R_stepTo (nI (j + 1)) m = some ((), cst T W m j) ∧ f_M_next M = some ((), M') ∧ EX B n K T Pl W hd b s pc c kn o due (cst T W m j) M' (j + 1) ∧ frE hd c0 m (cst T W m j) ∧ frF c0 M M' := by
  obtain ⟨M', e1, e2, e3, e4⟩ := h.tx.step ts hj
  exact ⟨M', e1, e2, h.cong hh e4 (fun q k a => cst_ne (by omega)) e3, fun q k a _ _ _ => cst_ne (by omega), fun q k a _ _ => e3 q k (by omega)⟩
/-- a value put down -/
theorem EX.val {t : Nat} {w sv v : Int32} (hh : hd = 3 ∨ hd = 12) (h : EX B n K T Pl W hd b s pc c kn o true m M j) (hk : kn < 64) (ht : 1001 ≤ t ∧ t < 1023) (hkn : knR (nI t) w sv v) : EX B n K T Pl W hd b s pc (c + 1) (kn + 1) o false (jup (akM hd c t w (jup m hd 11 (nI (kn + 1)))) 21 11 (nI 0)) (ouM c sv v (jup M 109 7 (nI (kn + 1)))) j := by
  have hc : ∀ q k, ¬ (q = 21 ∧ k = 11) → ¬ (q = hd ∧ (k = 10 ∨ k = 11)) → ¬ ((q = hd + 6 ∨ q = hd + 7) ∧ c ≤ k) → jup (akM hd c t w (jup m hd 11 (nI (kn + 1)))) 21 11 (nI 0) q k = m q k := fun q k a b d => by rw [jup_no a, akM_ne (by omega) d, jup_no (by omega)]
  have hM : ∀ q k, ¬ (q = 109 ∧ (k = 5 ∨ k = 7)) → ¬ ((q = 111 ∨ q = 112) ∧ 64 + c ≤ k) → ouM c sv v (jup M 109 7 (nI (kn + 1))) q k = M q k := fun q k a b => by rw [ouM_ne (by omega) b, jup_no (by omega)]
  have hf6 : jup (akM hd c t w (jup m hd 11 (nI (kn + 1)))) 21 11 (nI 0) (hd + 6) c = nI t := by
    rw [jup_no (by omega)]
    unfold akM
    rw [jup_no (by omega), jup_no (by omega)]; exact jup_at
  refine ⟨h.tx.cong (fun q k a => hc q k (by omega) (by omega) (by omega)) (fun q k a => hM q k (by omega) (by omega)), by rw [hc 21 4 (by omega) (by omega) (by omega)]; exact h.f0, by rw [hM 109 21 (by omega) (by omega)]; exact h.f1, by rw [hc 21 6 (by omega) (by omega) (by omega)]; exact h.dr, ?_, ?_, by omega, ?_, h.pd.cong (hc 21 8 (by omega) (by omega) (by omega)) (hM 109 26 (by omega) (by omega)) (fun k _ => ⟨hc 22 k (by omega) (by omega) (by omega), hM 117 k (by omega) (by omega)⟩), by rw [hc 21 9 (by omega) (by omega) (by omega)]; exact h.o1, by rw [hM 109 27 (by omega) (by omega)]; exact h.o2, h.o3, by have := h.ko; omega, h.lv, fun k a b => by rw [hc 23 _ (by omega) (by omega) (by omega)]; exact h.cm k a b, h.sg, jup_at, fun z => absurd z Bool.false_ne_true, ?_⟩
  · rw [jup_no (by omega), akM_ne (by omega) (by omega)]; exact jup_at
  · rw [ouM_ne (by omega) (by omega)]; exact jup_at
  · exact (CD.add (m := jup m hd 11 (nI (kn + 1))) (M := jup M 109 7 (nI (kn + 1))) (h.cd.cong (jup_no (by omega)) (fun k _ => ⟨jup_no (by omega), jup_no (by omega)⟩) (jup_no (by omega)) (fun k _ => ⟨jup_no (by omega), jup_no (by omega)⟩)) hkn).cong (jup_no (by omega)) (fun k _ => ⟨jup_no (by omega), jup_no (by omega)⟩) rfl (fun _ _ => ⟨rfl, rfl⟩)
  · refine h.dp.add (t := t) (fun k hk => hc (hd + 6) k (by omega) (by omega) (by omega)) hf6 (by omega) (Or.inl ⟨by omega, ?_⟩)
    rw [if_pos rfl, if_neg Bool.false_ne_true]
end EX
