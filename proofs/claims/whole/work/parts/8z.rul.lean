/-! a line of read, on both sides -/
def RYh (m M : jMem) (hd c h : Nat) : Prop :=
  (∀ w, w < 6 → (bt (m (hd + 3) h) w = true ↔ M 114 (9 + h) = nI 0 ∨ bt (M 114 (9 + h)) w = true)) ∧ (∃ z, m (hd + 2) h = tI z ∧ M 113 (9 + h) = tI z) ∧
  ∃ b e, b ≤ e ∧ e ≤ c ∧ m (hd + 4) h = nI b ∧ M 115 (9 + h) = nI b ∧ m (hd + 5) h = nI e ∧ M 115 (9 + h + 1) = nI e ∧ dpOK (m (hd + 6)) b (e - b) ∧ dpS (m (hd + 6)) b (e - b) = 1
def LX (B : Nat → Nat) (n K : Nat) (T Pl W : Nat → Int32) (hd : Nat) (m M : jMem) (j c H L : Nat) : Prop := (TX B n K T Pl W m M j) ∧ (m 21 4 = nI 0) ∧ (M 109 21 = nI 0) ∧ (m 21 6 = nI hd) ∧ (m hd 11 = nI c) ∧ (M 109 7 = nI c) ∧ (c ≤ 64) ∧ (CD hd c m M) ∧ (m hd 7 = nI H) ∧ (M 109 12 = nI H) ∧ (H ≤ 8) ∧ (m hd 2 = nI L) ∧ (M 109 15 = nI L) ∧ (m hd 1 = M 109 14) ∧ (∀ w, w < 6 → ∃ r, r ≤ 4 ∧ M 116 (6 + w) = nI r ∧ (if bt (m hd 1) w = true then m (hd + 1) w = nI (1011 + r) else r = 1)) ∧ (∀ h, h < H → RYh m M hd c h) ∧ (M 115 (9 + H) = nI c)
theorem LX.tx {B : Nat → Nat} {n K : Nat} {T Pl W : Nat → Int32} {hd : Nat} {m M : jMem} {j c H L : Nat} (h : LX B n K T Pl W hd m M j c H L) : TX B n K T Pl W m M j := h.1
theorem LX.f0 {B : Nat → Nat} {n K : Nat} {T Pl W : Nat → Int32} {hd : Nat} {m M : jMem} {j c H L : Nat} (h : LX B n K T Pl W hd m M j c H L) : m 21 4 = nI 0 := h.2.1
theorem LX.f1 {B : Nat → Nat} {n K : Nat} {T Pl W : Nat → Int32} {hd : Nat} {m M : jMem} {j c H L : Nat} (h : LX B n K T Pl W hd m M j c H L) : M 109 21 = nI 0 := h.2.2.1
theorem LX.dr {B : Nat → Nat} {n K : Nat} {T Pl W : Nat → Int32} {hd : Nat} {m M : jMem} {j c H L : Nat} (h : LX B n K T Pl W hd m M j c H L) : m 21 6 = nI hd := h.2.2.2.1
theorem LX.k1 {B : Nat → Nat} {n K : Nat} {T Pl W : Nat → Int32} {hd : Nat} {m M : jMem} {j c H L : Nat} (h : LX B n K T Pl W hd m M j c H L) : m hd 11 = nI c := h.2.2.2.2.1
theorem LX.k2 {B : Nat → Nat} {n K : Nat} {T Pl W : Nat → Int32} {hd : Nat} {m M : jMem} {j c H L : Nat} (h : LX B n K T Pl W hd m M j c H L) : M 109 7 = nI c := h.2.2.2.2.2.1
theorem LX.c64 {B : Nat → Nat} {n K : Nat} {T Pl W : Nat → Int32} {hd : Nat} {m M : jMem} {j c H L : Nat} (h : LX B n K T Pl W hd m M j c H L) : c ≤ 64 := h.2.2.2.2.2.2.1
theorem LX.cd {B : Nat → Nat} {n K : Nat} {T Pl W : Nat → Int32} {hd : Nat} {m M : jMem} {j c H L : Nat} (h : LX B n K T Pl W hd m M j c H L) : CD hd c m M := h.2.2.2.2.2.2.2.1
theorem LX.h1 {B : Nat → Nat} {n K : Nat} {T Pl W : Nat → Int32} {hd : Nat} {m M : jMem} {j c H L : Nat} (h : LX B n K T Pl W hd m M j c H L) : m hd 7 = nI H := h.2.2.2.2.2.2.2.2.1
theorem LX.h2 {B : Nat → Nat} {n K : Nat} {T Pl W : Nat → Int32} {hd : Nat} {m M : jMem} {j c H L : Nat} (h : LX B n K T Pl W hd m M j c H L) : M 109 12 = nI H := h.2.2.2.2.2.2.2.2.2.1
theorem LX.h8 {B : Nat → Nat} {n K : Nat} {T Pl W : Nat → Int32} {hd : Nat} {m M : jMem} {j c H L : Nat} (h : LX B n K T Pl W hd m M j c H L) : H ≤ 8 := h.2.2.2.2.2.2.2.2.2.2.1
theorem LX.l1 {B : Nat → Nat} {n K : Nat} {T Pl W : Nat → Int32} {hd : Nat} {m M : jMem} {j c H L : Nat} (h : LX B n K T Pl W hd m M j c H L) : m hd 2 = nI L := h.2.2.2.2.2.2.2.2.2.2.2.1
theorem LX.l2 {B : Nat → Nat} {n K : Nat} {T Pl W : Nat → Int32} {hd : Nat} {m M : jMem} {j c H L : Nat} (h : LX B n K T Pl W hd m M j c H L) : M 109 15 = nI L := h.2.2.2.2.2.2.2.2.2.2.2.2.1
theorem LX.ru {B : Nat → Nat} {n K : Nat} {T Pl W : Nat → Int32} {hd : Nat} {m M : jMem} {j c H L : Nat} (h : LX B n K T Pl W hd m M j c H L) : m hd 1 = M 109 14 := h.2.2.2.2.2.2.2.2.2.2.2.2.2.1
theorem LX.rl {B : Nat → Nat} {n K : Nat} {T Pl W : Nat → Int32} {hd : Nat} {m M : jMem} {j c H L : Nat} (h : LX B n K T Pl W hd m M j c H L) : ∀ w, w < 6 → ∃ r, r ≤ 4 ∧ M 116 (6 + w) = nI r ∧ (if bt (m hd 1) w = true then m (hd + 1) w = nI (1011 + r) else r = 1) := h.2.2.2.2.2.2.2.2.2.2.2.2.2.2.1
theorem LX.hb {B : Nat → Nat} {n K : Nat} {T Pl W : Nat → Int32} {hd : Nat} {m M : jMem} {j c H L : Nat} (h : LX B n K T Pl W hd m M j c H L) : ∀ h, h < H → RYh m M hd c h := h.2.2.2.2.2.2.2.2.2.2.2.2.2.2.2.1
theorem LX.be {B : Nat → Nat} {n K : Nat} {T Pl W : Nat → Int32} {hd : Nat} {m M : jMem} {j c H L : Nat} (h : LX B n K T Pl W hd m M j c H L) : M 115 (9 + H) = nI c := h.2.2.2.2.2.2.2.2.2.2.2.2.2.2.2.2
def frL (hd : Nat) (m m' : jMem) : Prop := ∀ q k, ¬ (q = 21 ∧ ¬ k = 6) → ¬ (q = 22 ∨ q = 23) → ¬ (hd ≤ q ∧ q ≤ hd + 7) → m' q k = m q k
def frN (M M' : jMem) : Prop := ∀ q k, ¬ (q = 109 ∧ (k = 5 ∨ k = 7 ∨ k = 12 ∨ k = 14 ∨ k = 15 ∨ (17 ≤ k ∧ k ≤ 22) ∨ k = 26 ∨ k = 27)) → ¬ ((q = 111 ∨ q = 112) ∧ 64 ≤ k) → ¬ ((113 ≤ q ∧ q ≤ 115) ∧ 9 ≤ k) → ¬ (q = 116 ∧ 6 ≤ k) → ¬ q = 117 → M' q k = M q k
section RU
variable {B : Nat → Nat} {n K : Nat} {T Pl W : Nat → Int32} {hd c H L : Nat} {m M : jMem} {j : Nat}
theorem frL.tr {m' m'' : jMem} (h : frL hd m m') (h2 : frL hd m' m'') : frL hd m m'' := fun q k a b d => (h2 q k a b d).trans (h q k a b d)
theorem frN.tr {M' M'' : jMem} (h : frN M M') (h2 : frN M' M'') : frN M M'' := fun q k a b c d e => (h2 q k a b c d e).trans (h q k a b c d e)
theorem frT.ln {m' : jMem} (h : frT m m') : frL hd m m' := fun q k a b d => h q k (by omega)
theorem frU.nn {M' : jMem} (h : frU M M') : frN M M' := fun q k a b c d e => h q k (by omega)
theorem frE.ln (hh : hd = 3 ∨ hd = 12) {m' : jMem} (h : frE hd 0 m m') : frL hd m m' := fun q k a b d => h q k a b (by omega) (by omega)
theorem frF.nn {M' : jMem} (h : frF 0 M M') : frN M M' := fun q k a b c d e => h q k (by omega) (by omega) e
theorem RYh.cong {m' M' : jMem} {h : Nat} (r : RYh m M hd c h) (hc : ∀ q k, hd + 2 ≤ q → q ≤ hd + 6 → (q = hd + 6 → k < c) → (q < hd + 6 → k < H) → m' q k = m q k) (hh : h < H) (hM : ∀ q k, 113 ≤ q → q ≤ 115 → 9 ≤ k → k ≤ 9 + H → (q = 115 ∨ k < 9 + H) → M' q k = M q k) {c' : Nat} (hcc : c ≤ c') : RYh m' M' hd c' h := by
  obtain ⟨r1, r2, b, e, r3, r4, r5, r6, r7, r8, r9, r10⟩ := r
  unfold RYh
  rw [hc (hd + 3) h (by omega) (by omega) (by omega) (by omega), hc (hd + 2) h (by omega) (by omega) (by omega) (by omega), hM 114 (9 + h) (by omega) (by omega) (by omega) (by omega) (by omega), hM 113 (9 + h) (by omega) (by omega) (by omega) (by omega) (by omega)]
  refine ⟨r1, r2, b, e, r3, by omega, by rw [hc (hd + 4) h (by omega) (by omega) (by omega) (by omega)]; exact r5, by rw [hM 115 (9 + h) (by omega) (by omega) (by omega) (by omega) (by omega)]; exact r6, by rw [hc (hd + 5) h (by omega) (by omega) (by omega) (by omega)]; exact r7, by rw [hM 115 (9 + h + 1) (by omega) (by omega) (by omega) (by omega) (by omega)]; exact r8, dpOK_cong (fun i hi => hc (hd + 6) (b + i) (by omega) (by omega) (by omega) (by omega)) r9, ?_⟩
  rw [dpS_cong (f := m (hd + 6)) (fun i hi => hc (hd + 6) (b + i) (by omega) (by omega) (by omega) (by omega))]
  exact r10
theorem LX.rul (h : LX B n K T Pl W hd m M j c H L) (hh : hd = 3 ∨ hd = 12) {m' M' : jMem} {j' L' : Nat} (hC : ∀ q k, ¬ (q = 21 ∧ 1 ≤ k ∧ k ≤ 5) → ¬ q = hd + 1 → ¬ (q = hd ∧ (k = 1 ∨ k = 2)) → m' q k = m q k) (hM : ∀ q k, ¬ (q = 109 ∧ ((17 ≤ k ∧ k ≤ 22) ∨ k = 14 ∨ k = 15)) → ¬ q = 116 → M' q k = M q k) (tx : TX B n K T Pl W m' M' j') (f0 : m' 21 4 = nI 0) (f1 : M' 109 21 = nI 0) (l1 : m' hd 2 = nI L') (l2 : M' 109 15 = nI L') (ru : m' hd 1 = M' 109 14) (rl : ∀ w, w < 6 → ∃ r, r ≤ 4 ∧ M' 116 (6 + w) = nI r ∧ (if bt (m' hd 1) w = true then m' (hd + 1) w = nI (1011 + r) else r = 1)) : LX B n K T Pl W hd m' M' j' c H L' :=
  ⟨tx, f0, f1, by rw [hC 21 6 (by omega) (by omega) (by omega)]; exact h.dr, by rw [hC hd 11 (by omega) (by omega) (by omega)]; exact h.k1, by rw [hM 109 7 (by omega) (by omega)]; exact h.k2, h.c64, h.cd.cong (hC hd 10 (by omega) (by omega) (by omega)) (fun k _ => ⟨hC _ _ (by omega) (by omega) (by omega), hC _ _ (by omega) (by omega) (by omega)⟩) (hM _ _ (by omega) (by omega)) (fun k _ => ⟨hM _ _ (by omega) (by omega), hM _ _ (by omega) (by omega)⟩), by rw [hC hd 7 (by omega) (by omega) (by omega)]; exact h.h1, by rw [hM 109 12 (by omega) (by omega)]; exact h.h2, h.h8, l1, l2, ru, rl, fun i hi => (h.hb i hi).cong (fun q k a b _ _ => hC q k (by omega) (by omega) (by omega)) hi (fun q k a b _ _ _ => hM q k (by omega) (by omega)) (Nat.le_refl c), by rw [hM 115 _ (by omega) (by omega)]; exact h.be⟩
theorem lp_adr (hh : hd = 3 ∨ hd = 12) {t : Nat} (ht : 1001 ≤ t ∧ t ≤ 1033) {v : Int32} {k29 : jMem → Option (Unit × jMem)} : ∀ (d f i : Nat) (m : jMem), i + d = 6 → d < f → ∃ m', lp_H_addRule_2 hd t v k29 f (nI i) m = k29 m' ∧ (∀ q k, ¬ (q = hd + 1 ∧ i ≤ k) → m' q k = m q k) ∧ ∀ w, i ≤ w → w < 6 → m' (hd + 1) w = if bt v w = true then nI t else m (hd + 1) w := by
  have l1 : jlen 4 (hd + 1) = 6 := by rcases hh with rfl | rfl <;> decide +kernel
  intro d
  induction d with
  | zero =>
    intro f i m hi hf
    obtain ⟨f, rfl⟩ := ex_succ hf
    refine ⟨m, ?_, fun q k _ => rfl, fun w a b => absurd b (by omega)⟩
    rw [show i = 6 by omega, lp_H_addRule_2]
    simp only [lits]
    rw [if_pos (nI_le (by omega) (by omega))]
  | succ d ih =>
    intro f i m hi hf
    obtain ⟨f, rfl⟩ := ex_succ hf
    by_cases z : bt v i = true
    · obtain ⟨m', g1, g2, g3⟩ := ih f (i + 1) (jup m (hd + 1) i (nI t)) (by omega) (by omega)
      refine ⟨m', ?_, fun q k a => ?_, fun w a b => ?_⟩
      · rw [← g1, lp_H_addRule_2]
        simp only [lits]
        rw [if_neg (nI_ge (by omega) (by omega)), e_isIn (by omega), jbd_s, z, if_neg (by decide), jgd_tk ht, jst_nI l1 (by omega) (by omega), nI_add]
        rfl
      · rw [g2 q k (by omega), jup_no (by omega)]
      · by_cases y : w = i
        · rw [g2 _ _ (by omega), y, jup_at, if_pos z]
        · rw [g3 w (by omega) b, jup_no (by omega)]
    · obtain ⟨m', g1, g2, g3⟩ := ih f (i + 1) m (by omega) (by omega)
      refine ⟨m', ?_, fun q k a => g2 q k (by omega), fun w a b => ?_⟩
      · rw [← g1, lp_H_addRule_2]
        simp only [lits]
        rw [if_neg (nI_ge (by omega) (by omega)), e_isIn (by omega), jbd_s, bf_of z, if_pos tI_f, nI_add]
      · by_cases y : w = i
        · rw [g2 _ _ (by omega), y, if_neg z]
        · exact g3 w (by omega) b
theorem e_addRule (hh : hd = 3 ∨ hd = 12) {t : Nat} (ht : 1001 ≤ t ∧ t ≤ 1033) (v : Int32) (hl : m hd 2 = nI L) : ∃ m', f_H_addRule hd t v m = some ((), m') ∧ (∀ q k, ¬ q = hd + 1 → ¬ (q = hd ∧ (k = 1 ∨ k = 2)) → m' q k = m q k) ∧ m' hd 1 = m hd 1 ||| v ∧ m' hd 2 = nI (L + 1) ∧ ∀ w, w < 6 → m' (hd + 1) w = if bt v w = true then nI t else m (hd + 1) w := by
  obtain ⟨m1, g1, g2, g3⟩ := lp_adr (hd := hd) hh ht (v := v) (k29 := fun m4 => jpu m4 hd 1 ((m4 hd 1) ||| v) fun m5 => jpu m5 hd 2 ((m5 hd 2) + nI 1) fun m6 => some ((), m6)) 6 5000 0 m (by omega) (by omega)
  refine ⟨jup (jup m1 hd 1 (m hd 1 ||| v)) hd 2 (nI (L + 1)), ?_, fun q k a b => ?_, ?_, jup_at, fun w hw => ?_⟩
  · unfold f_H_addRule
    simp only [lits]
    rw [g1, jpu_e, jpu_e, g2 hd 1 (by omega), jup_no (by omega), g2 hd 2 (by omega), hl, nI_add]
  · rw [jup_no (by omega), jup_no (by omega), g2 q k (by omega)]
  · rw [jup_no (by omega)]; exact jup_at
  · rw [jup_no (by omega), jup_no (by omega)]
    exact g3 w (by omega) hw
theorem lp_mrd {r v : Int32} {k145 : jMem → Option (Unit × jMem)} : ∀ (d f i : Nat) (M : jMem), i + d = 6 → d < f → ∃ M', lp_M_reads_114 r v k145 f (nI i) M = k145 M' ∧ (∀ q k, ¬ (q = 116 ∧ 6 + i ≤ k) → M' q k = M q k) ∧ ∀ w, i ≤ w → w < 6 → M' 116 (6 + w) = if bt v w = true then r else M 116 (6 + w) := by
  intro d
  induction d with
  | zero =>
    intro f i M hi hf
    obtain ⟨f, rfl⟩ := ex_succ hf
    refine ⟨M, ?_, fun q k _ => rfl, fun w a b => absurd b (by omega)⟩
    rw [show i = 6 by omega, lp_M_reads_114]
    simp only [lits]
    rw [if_pos (nI_le (by omega) (by omega))]
  | succ d ih =>
    intro f i M hi hf
    obtain ⟨f, rfl⟩ := ex_succ hf
    by_cases z : bt v i = true
    · obtain ⟨M', g1, g2, g3⟩ := ih f (i + 1) (jup M 116 (6 + i) r) (by omega) (by omega)
      refine ⟨M', ?_, fun q k a => ?_, fun w a b => ?_⟩
      · rw [← g1, lp_M_reads_114]
        simp only [lits]
        rw [if_neg (nI_ge (by omega) (by omega)), if_pos ((bit1 (by omega)).mpr z), nI_add, st_116 (by omega), nI_add]
      · rw [g2 q k (by omega), jup_no (by omega)]
      · by_cases y : w = i
        · rw [g2 _ _ (by omega), y, jup_at, if_pos z]
        · rw [g3 w (by omega) b, jup_no (by omega)]
    · obtain ⟨M', g1, g2, g3⟩ := ih f (i + 1) M (by omega) (by omega)
      refine ⟨M', ?_, fun q k a => g2 q k (by omega), fun w a b => ?_⟩
      · rw [← g1, lp_M_reads_114]
        simp only [lits]
        rw [if_neg (nI_ge (by omega) (by omega)), if_neg (fun y => z ((bit1 (by omega)).mp y)), nI_add]
      · by_cases y : w = i
        · rw [g2 _ _ (by omega), y, if_neg z]
        · exact g3 w (by omega) b
/-- a line's ; on the reference's side, and whether there is one -/
theorem e_semi {x : Nat} (hx : x < 33) (h19 : M 109 19 = nI (soT (1001 + x))) (hv : 1004 ≤ 1001 + x → M 109 20 = nI (vlT (1001 + x))) : f_M_isSign (nI 59) M = some (tI (decide (x = 3)), M) := by
  obtain ⟨u1, u2, u3, u4, u5, u6⟩ := vl_2 x hx
  by_cases q : x = 3
  · subst q
    rw [decide_eq_true rfl]
    exact e_isSign (sv := 2) (by omega) h19 true (fun _ => ⟨rfl, hv (by omega)⟩) (fun z => absurd z.symm Bool.false_ne_true)
  · rw [decide_eq_false q]
    refine e_isSign (by omega) h19 false (fun z => absurd z Bool.false_ne_true) (fun _ => ?_)
    by_cases z : soT (1001 + x) = 2
    · have hr := u3.mp z
      refine Or.inr ?_
      rw [hv (by omega)]
      exact fun y => q ((vl_6 x hx hr).2.2.mp (nI_ij (by omega) (by omega) y))
    · exact Or.inl z
end RU
