/-! the class's search, and the two counts -/
theorem p_lit0 : pcnt (nI 0) = 0 := pcnt_0
section BF
variable {X : Int32} {P p q f x0 : Nat → Int32} {N i w k a : Nat} {R : Int32}
/-- the same with what the search still needs -/
def bfS (X : Int32) (P p q f : Nat → Int32) (N i w : Nat) (R : Int32) : Prop := (bfQ X P p q f N i w R) ∧ (∀ r, bt R r = true → ¬ p r = nM)
theorem bfS.b {X : Int32} {P p q f : Nat → Int32} {N i w : Nat} {R : Int32} (h : bfS X P p q f N i w R) : bfQ X P p q f N i w R := h.1
theorem bfS.rm {X : Int32} {P p q f : Nat → Int32} {N i w : Nat} {R : Int32} (h : bfS X P p q f N i w R) : ∀ r, bt R r = true → ¬ p r = nM := h.2
theorem bfS.lim (hP : ∀ l, l < N → ∀ j, bt (P l) j = true → j < l) (hN : i < N) (h30 : N ≤ 30) (h : bfS X P p q f N i w R) {l : Nat} (hl : l < N) (hRl : bt R l = false) (hea : ∃ a, egB X P a l = true) : w + 1 ≤ N := by
  have h1 : ∀ r, bt R r = true → 0 < r := fun r hr => by
    obtain ⟨a, -, -, -, e⟩ := h.b.re r hr
    unfold egB at e
    rw [Bool.and_eq_true] at e
    have := hP r (h.b.rq r hr).1 a e.2
    omega
  have hl0 : 0 < l := by
    obtain ⟨a, e⟩ := hea
    unfold egB at e
    rw [Bool.and_eq_true] at e
    have := hP l hl a e.2
    omega
  have c0 : bt (R ||| sb l) 0 = false := bf_of (fun z => by
    rcases (b_new (by omega)).mp z with z | z
    · have := h1 0 z; omega
    · omega)
  have e1 := pcnt_add (x := R) (l := l) (by omega) hRl
  have e2 := pcnt_add (x := R ||| sb l) (l := 0) (by omega) c0
  have e3 := pcnt_lim (x := (R ||| sb l) ||| sb 0) (N := N) (fun j hj => by
    rcases (b_new (by omega)).mp hj with z | z
    · rcases (b_new (by omega)).mp z with z | z
      · exact (h.b.rq j z).1
      · omega
    · omega) (by omega)
  have := h.b.wR
  omega
theorem bfS.lim0 (hP : ∀ l, l < N → ∀ j, bt (P l) j = true → j < l) (hN : i < N) (h30 : N ≤ 30) (h : bfS X P p q f N i w R) : w ≤ N := by
  have h1 : ∀ r, bt R r = true → 0 < r := fun r hr => by
    obtain ⟨a, -, -, -, e⟩ := h.b.re r hr
    unfold egB at e
    rw [Bool.and_eq_true] at e
    have := hP r (h.b.rq r hr).1 a e.2
    omega
  have c0 : bt R 0 = false := bf_of (fun z => by have := h1 0 z; omega)
  have e2 := pcnt_add (x := R) (l := 0) (by omega) c0
  have e3 := pcnt_lim (x := R ||| sb 0) (N := N) (fun j hj => by
    rcases (b_new (by omega)).mp hj with z | z
    · exact (h.b.rq j z).1
    · omega) (by omega)
  have := h.b.wR
  omega
theorem bfS.push {u l : Nat} (hN : i < N) (h30 : N ≤ 30) (hp : mtOK (egB X P) (bt X) N i p) (h : bfS X P p q f N i w R) (hk : k < w) (hl : l < N) (hRl : bt R l = false) (ha : a < i + 1) (hXa : bt X a = true) (hqa : q k = nI a) (he : egB X P a l = true) (hpl : p l = nI u) (hu : u < i) : bfS X P p (upd q w (nI u)) (upd f l (nI a)) N i (w + 1) (R ||| sb l) := by
  have hn : ∀ r, bt (R ||| sb l) r = true → bt R r = true ∧ ¬ r = l ∨ r = l := fun r hr => by
    by_cases z : r = l
    · exact Or.inr z
    · exact Or.inl ⟨((b_new (by omega)).mp hr).resolve_right z, z⟩
  refine ⟨⟨?_, fun j h1 h2 => ?_, fun r hr => ?_, fun r hr => ?_, fun j j' h1 h2 => ?_, ?_⟩, fun r hr => ?_⟩
  · rw [up_ne (by omega)]; exact h.b.q0
  · by_cases z : j = w
    · rw [z, up_at]
      exact ⟨l, hl, (b_new (by omega)).mpr (Or.inr rfl), hpl⟩
    · rw [up_ne z]
      obtain ⟨r, r1, r2, r3⟩ := h.b.qr j h1 (by omega)
      exact ⟨r, r1, (b_new (by omega)).mpr (Or.inl r2), r3⟩
  · rcases hn r hr with ⟨z, z2⟩ | z
    · obtain ⟨c1, j, c2, c3, c4, j', c5, c6⟩ := h.b.rq r z
      refine ⟨c1, j, c2, by omega, by rw [up_ne (by omega)]; exact c4, j', c5, ?_⟩
      rw [up_ne z2, up_ne (by omega)]
      exact c6
    · rw [z]
      refine ⟨hl, w, by omega, by omega, by rw [up_at]; exact hpl, k, hk, ?_⟩
      rw [up_at, up_ne (by omega)]
      exact hqa.symm
  · rcases hn r hr with ⟨z, z2⟩ | z
    · rw [up_ne z2]; exact h.b.re r z
    · rw [z, up_at]
      exact ⟨a, ha, hXa, rfl, he⟩
  · by_cases z : j' = w
    · rw [z, up_at, up_ne (by omega)]
      intro e
      by_cases z0 : j = 0
      · rw [z0, h.b.q0] at e
        have := nI_ij (by omega) (by omega) e
        omega
      · obtain ⟨r, r1, r2, r3⟩ := h.b.qr j (by omega) (by omega)
        have e2 : r = l := hp.2 r l r1 hl ((r3.trans e).trans hpl.symm) (h.rm r r2)
        rw [e2] at r2
        exact bt_no hRl r2
    · rw [up_ne z, up_ne (by omega)]
      exact h.b.qi j j' h1 (by omega)
  · rw [pcnt_add (by omega) hRl]
    have := h.b.wR
    omega
  · rcases hn r hr with ⟨z, z2⟩ | z
    · exact h.rm r z
    · rw [z]; exact fun z3 => nI_no (by omega) hpl z3
theorem bfS.aside {l : Nat} {v : Int32} (h : bfS X P p q f N i w R) (hRl : bt R l = false) : bfS X P p q (upd f l v) N i w R := by
  have hn : ∀ r, bt R r = true → ¬ r = l := fun r hr z => bt_no hRl (z ▸ hr)
  refine ⟨⟨h.b.q0, h.b.qr, fun r hr => ?_, fun r hr => ?_, h.b.qi, h.b.wR⟩, h.rm⟩
  · rw [up_ne (hn r hr)]; exact h.b.rq r hr
  · rw [up_ne (hn r hr)]; exact h.b.re r hr
theorem lp_N31 {m0 : jMem} {Res : Option (Int32 × jMem) → Prop} {k115 : Int32 → jMem → Option (Int32 × jMem)} {k151 : Int32 → Int32 → jMem → Option (Int32 × jMem)} (h30 : N ≤ 30) (hP : ∀ l, l < N → ∀ j, bt (P l) j = true → j < l) (hN : m0 29 15 = nI N) (h37 : m0 37 = P) (h86 : m0 86 = p) (hp : mtOK (egB X P) (bt X) N i p) (hi : i < N) (ha : a < i + 1) (hXa : bt X a = true)
    (hs : ∀ w R r m', bfS X P p (m' 88) (m' 87) N i w R → k < w → r < N → egB X P a r = true → m' 87 r = nI a → m' 88 k = nI a → p r = nM → (∀ c, ¬ c = 87 → ¬ c = 88 → m' c = m0 c) → Res (k115 (nI r) m'))
    (hf : ∀ w R m', bfS X P p (m' 88) (m' 87) N i w R → k < w → (∀ j, j < k + 1 → ∀ b, b < N → m' 88 j = nI b → ∀ r, r < N → egB X P b r = true → bt R r = true) → (∀ c, ¬ c = 87 → ¬ c = 88 → m' c = m0 c) → Res (k151 (nI w) R m')) :
    ∀ (d n l w : Nat) (R : Int32) (m : jMem), l + d = N → d < n → k < w → (∀ c, ¬ c = 87 → ¬ c = 88 → m c = m0 c) → bfS X P p (m 88) (m 87) N i w R → m 88 k = nI a → (∀ j, j < k → ∀ b, b < N → m 88 j = nI b → ∀ r, r < N → egB X P b r = true → bt R r = true) → (∀ r, r < l → egB X P a r = true → bt R r = true) → Res (lp_N_putOneBehind_31 X (nI k) k115 k151 n (nI w) R (nI l) m) := by
  intro d
  induction d with
  | zero =>
    intro n l w R m hl hdn hk fr h hka hd hr
    obtain ⟨n, rfl⟩ := ex_succ hdn
    have hNm : m 29 15 = nI N := by rw [fr 29 (by omega) (by omega)]; exact hN
    rw [lp_N_putOneBehind_31]
    simp (disch := omega) only [lits, negs, nI_add, nn1, leT, leF, ltT, ltF, eqF, mF1, mF2, mF3, mF4, mF5, mF6, mTT, eq_self, Nat.reduceEqDiff, ↓reduceIte, jbd_s, jpu_e, tI0, tI1, jgd_tI, jgd_bb, tfF, ftF, jup_at, jup_oc, jup_ok, hNm]
    refine hf w R m h hk (fun j hj b hb e r hrN he => ?_) fr
    by_cases z : j = k
    · rw [z, hka] at e
      rw [← nI_ij (by omega) (by omega) e] at he
      exact hr r (by omega) he
    · exact hd j (by omega) b hb e r hrN he
  | succ d ih =>
    intro n l w R m hl hdn hk fr h hka hd hr
    obtain ⟨n, rfl⟩ := ex_succ hdn
    have hNm : m 29 15 = nI N := by rw [fr 29 (by omega) (by omega)]; exact hN
    have hPm : m 37 = P := by rw [fr 37 (by omega) (by omega)]; exact h37
    have hpm : m 86 = p := by rw [fr 86 (by omega) (by omega)]; exact h86
    have hw := h.lim0 hP hi h30
    have skip : (egB X P a l = true → bt R l = true) → Res (lp_N_putOneBehind_31 X (nI k) k115 k151 n (nI w) R (nI (l + 1)) m) := fun z => ih n (l + 1) w R m (by omega) (by omega) hk fr h hka hd (fun r hrl he => by
      by_cases q : r = l
      · rw [q] at he ⊢; exact z he
      · exact hr r (by omega) he)
    rw [lp_N_putOneBehind_31]
    cases hX : bt X l
    · simp (disch := omega) only [lits, negs, nI_add, nn1, leT, leF, ltT, ltF, eqF, mF1, mF2, mF3, mF4, mF5, mF6, mTT, eq_self, Nat.reduceEqDiff, ↓reduceIte, jbd_s, jpu_e, tI0, tI1, jgd_tI, jgd_bb, tfF, ftF, jup_at, jup_oc, jup_ok, hNm, e_isIn, b_and, hX, Bool.false_and]
      exact skip (fun z => by unfold egB at z; rw [hX, Bool.false_and] at z; exact absurd z Bool.false_ne_true)
    · cases hR : bt R l
      · cases hB : bt (P l) a
        · simp (disch := omega) only [lits, negs, nI_add, nn1, leT, leF, ltT, ltF, eqF, mF1, mF2, mF3, mF4, mF5, mF6, mTT, eq_self, Nat.reduceEqDiff, ↓reduceIte, jbd_s, jpu_e, tI0, tI1, jgd_tI, jgd_bb, tfF, ftF, jup_at, jup_oc, jup_ok, hNm, e_isIn, b_and, b_not, hX, hR, Bool.true_and, Bool.not_false, ld_37, ld_88, hPm, hka, hB]
          exact skip (fun z => by unfold egB at z; rw [hB, Bool.and_false] at z; exact absurd z (by decide))
        · have he : egB X P a l = true := by unfold egB; rw [hX, hB]; rfl
          have m87 : jup m 87 l (nI a) 87 = upd (m 87) l (nI a) := jup_row
          rcases hp.1 l (by omega) with hpl | ⟨u, hu, hXu, heu, hpl⟩
          · simp (disch := omega) only [lits, negs, nI_add, nn1, leT, leF, ltT, ltF, eqF, mF1, mF2, mF3, mF4, mF5, mF6, mTT, eq_self, Nat.reduceEqDiff, ↓reduceIte, jbd_s, jpu_e, tI0, tI1, jgd_tI, jgd_bb, tfF, ftF, jup_at, jup_oc, jup_ok, hNm, e_isIn, b_and, b_not, hX, hR, Bool.true_and, Bool.not_false, ld_37, ld_88, hPm, hka, hB, e_bit, st_87, ld_86, hpm, hpl]
            exact hs w R l _ (by rw [m87, jup_oc (by omega)]; exact h.aside hR) hk (by omega) he jup_at (by rw [jup_oc (by omega)]; exact hka) hpl (fun c h1 h2 => by rw [jup_oc h1]; exact fr c h1 h2)
          · have hw2 := h.lim hP hi h30 (l := l) (by omega) hR ⟨a, he⟩
            have m88 : jup (jup m 87 l (nI a)) 88 w (nI u) 88 = upd (m 88) w (nI u) := by rw [jup_row, jup_oc (by omega)]
            have m87' : jup (jup m 87 l (nI a)) 88 w (nI u) 87 = upd (m 87) l (nI a) := by rw [jup_oc (by omega), jup_row]
            have e := ih n (l + 1) (w + 1) (R ||| sb l) (jup (jup m 87 l (nI a)) 88 w (nI u)) (by omega) (by omega) (by omega) (fun c h1 h2 => by rw [jup_oc h2, jup_oc h1]; exact fr c h1 h2) (by rw [m88, m87']; exact h.push hi h30 hp hk (by omega) hR ha hXa hka he hpl hu) (by rw [m88, up_ne (by omega)]; exact hka) (fun j hj b hb e r hrN her => by
              rw [m88, up_ne (by omega)] at e
              exact (b_new (by omega)).mpr (Or.inl (hd j hj b hb e r hrN her))) (fun r hrl her => by
              by_cases q : r = l
              · exact (b_new (by omega)).mpr (Or.inr q)
              · exact (b_new (by omega)).mpr (Or.inl (hr r (by omega) her)))
            simp (disch := omega) only [lits, negs, nI_add, nn1, leT, leF, ltT, ltF, eqF, mF1, mF2, mF3, mF4, mF5, mF6, mTT, eq_self, Nat.reduceEqDiff, ↓reduceIte, jbd_s, jpu_e, tI0, tI1, jgd_tI, jgd_bb, tfF, ftF, jup_at, jup_oc, jup_ok, hNm, e_isIn, b_and, b_not, hX, hR, Bool.true_and, Bool.not_false, ld_37, ld_88, hPm, hka, hB, e_bit, st_87, ld_86, hpm, hpl, st_88]
            exact e
      · simp (disch := omega) only [lits, negs, nI_add, nn1, leT, leF, ltT, ltF, eqF, mF1, mF2, mF3, mF4, mF5, mF6, mTT, eq_self, Nat.reduceEqDiff, ↓reduceIte, jbd_s, jpu_e, tI0, tI1, jgd_tI, jgd_bb, tfF, ftF, jup_at, jup_oc, jup_ok, hNm, e_isIn, b_and, b_not, hX, hR, Bool.not_true, Bool.and_false]
        exact skip (fun _ => hR)
/-- how one search ends -/
def bfO (X : Int32) (P p : Nat → Int32) (N i : Nat) (m0 : jMem) (o : Option (Int32 × jMem)) : Prop := ∃ b m', o = some (tI b, m') ∧ (∀ c, ¬ c = 85 → ¬ c = 86 → ¬ c = 87 → ¬ c = 88 → m' c = m0 c) ∧ mtC (egB X P) (bt X) N (i + 1) (m' 86) ∧ mvC N (m' 86) (m' 85) ∧ mtN N (m' 86) = mtN N p + (if b = true then 1 else 0)
theorem lp_N15 {m0 : jMem} (h30 : N ≤ 30) (hP : ∀ l, l < N → ∀ j, bt (P l) j = true → j < l) (hN : m0 29 15 = nI N) (h37 : m0 37 = P) (h86 : m0 86 = p) (h85 : m0 85 = x0) (hpC : mtC (egB X P) (bt X) N i p) (hmv : mvC N p x0) (hi : i < N) (hXi : bt X i = true) :
    ∀ (d n k w : Nat) (R : Int32) (m : jMem), k + d = 31 → d < n → k ≤ w → (∀ c, ¬ c = 87 → ¬ c = 88 → m c = m0 c) → bfS X P p (m 88) (m 87) N i w R → (∀ j, j < k → ∀ b, b < N → m 88 j = nI b → ∀ r, r < N → egB X P b r = true → bt R r = true) → bfO X P p N i m0 (lp_N_putOneBehind_15 X (fun w21 m20 => jbd (f_N_moveOver w21 m20) fun u22 m23 => some (nI 1, m23)) (fun m24 => some (nI 0, m24)) n (nI w) R (nI k) m) := by
  have hp := hpC.1
  have hun : x0 i = nM := by
    rcases hmv.2 i hi with z | ⟨r, hr, z⟩
    · exact z
    · have e := (hmv.1 r i hr hi).mpr z
      rcases hp.1 r hr with q | ⟨l, hl, -, -, q⟩
      · exact (nI_no (by omega) e q).elim
      · have := nI_ij (by omega) (by omega) (e.symm.trans q)
        omega
  intro d
  induction d with
  | zero =>
    intro n k w R m hkd hdn hk fr h hd
    have := h.lim0 hP hi h30
    omega
  | succ d ih =>
    intro n k w R m hkd hdn hk fr h hd
    obtain ⟨n, rfl⟩ := ex_succ hdn
    have hw := h.lim0 hP hi h30
    by_cases q : w ≤ k
    · rw [lp_N_putOneBehind_15]
      simp (disch := omega) only [lits, negs, nI_add, nn1, leT, leF, ltT, ltF, eqF, mF1, mF2, mF3, mF4, mF5, mF6, mTT, eq_self, Nat.reduceEqDiff, ↓reduceIte, jbd_s, jpu_e, tI0, tI1, jgd_tI, jgd_bb, tfF, ftF, jup_at, jup_oc, jup_ok]
      have hsr : srF X P p N (nI 0) R i := by
        refine ⟨fun r hr => by rw [b_n0] at hr; exact absurd hr (by decide), fun r hr => (h.b.rq r hr).1, fun r hr he => hd 0 (by have := h.b.wR; omega) i hi h.b.q0 r hr he, fun r hr _ hRr => ?_⟩
        obtain ⟨-, j, j1, j2, j3, -⟩ := h.b.rq r hRr
        rcases hp.1 r hr with z | ⟨l, hl, -, -, z⟩
        · exact absurd z (h.rm r hRr)
        · exact ⟨l, by omega, z, fun s hs he => hd j (by omega) l (by omega) (j3.symm.trans z) s hs he⟩
      refine ⟨false, m, rfl, fun c _ _ h1 h2 => fr c h1 h2, ?_, ?_, ?_⟩
      · rw [fr 86 (by omega) (by omega), h86]; exact mt_lost hXi hi h30 hpC hsr
      · rw [fr 86 (by omega) (by omega), fr 85 (by omega) (by omega), h86, h85]; exact hmv
      · rw [fr 86 (by omega) (by omega), h86]; rfl
    · have hka : ∃ a, a < i + 1 ∧ bt X a = true ∧ m 88 k = nI a := by
        by_cases z : k = 0
        · rw [z]; exact ⟨i, by omega, hXi, h.b.q0⟩
        · obtain ⟨r, r1, r2, r3⟩ := h.b.qr k (by omega) (by omega)
          rcases hp.1 r r1 with z2 | ⟨l, hl, l1, -, l3⟩
          · exact absurd z2 (h.rm r r2)
          · exact ⟨l, by omega, l1, r3.symm.trans l3⟩
      obtain ⟨a, ha, hXa, hka⟩ := hka
      rw [lp_N_putOneBehind_15]
      simp (disch := omega) only [lits, negs, nI_add, nn1, leT, leF, ltT, ltF, eqF, mF1, mF2, mF3, mF4, mF5, mF6, mTT, eq_self, Nat.reduceEqDiff, ↓reduceIte, jbd_s, jpu_e, tI0, tI1, jgd_tI, jgd_bb, tfF, ftF, jup_at, jup_oc, jup_ok]
      refine lp_N31 (m0 := m0) (Res := bfO X P p N i m0) (a := a) h30 hP hN h37 h86 hp hi ha hXa (fun w R r m' b1 b2 b3 b4 b5 b6 b7 b8 => ?_) (fun w R m' b1 b2 b3 b4 => ih n (k + 1) w R m' (by omega) (by omega) (by omega) b4 b1 b3) N 5000 0 w R m (by omega) (by omega) (by omega) fr h hka hd (fun r hr => absurd hr (by omega))
      have hI : mvI X P (m' 88) (m' 87) x0 N i (mtN N p) (m' 86) (m' 85) r k := by
        rw [b8 86 (by omega) (by omega), h86, b8 85 (by omega) (by omega), h85]
        refine ⟨b3, fun s b hs _ hb => hmv.1 s b hs hb, fun b hb e => ?_, fun s hs _ => (hp.1 s hs).imp id (fun ⟨l, hl, z⟩ => ⟨l, by omega, z⟩), hmv.2, by rw [if_pos b7], ⟨a, ha, hXa, b4, b5, b6⟩, fun _ _ _ _ _ => rfl⟩
        exact nI_no (by omega) ((hmv.1 r b b3 hb).mpr e) b7
      have hwl := b1.lim0 hP hi h30
      obtain ⟨m2, e1, e2, e3, e4, e5⟩ := lp_mv (base := mtN N p) hi h30 hXi b1.b hmv hun 31 5000 0 k r m' (by omega) (by omega) (by omega) b2 rfl hI
      refine ⟨true, m2, ?_, fun c h1 h2 h3 h4 => (e2 c h1 h2).trans (b8 c h3 h4), mtC_succ hpC hXi e3 e5, e4, e5⟩
      have e6 : f_N_moveOver (nI r) m' = some ((), m2) := by
        unfold f_N_moveOver
        simp only [lits, negs]
        exact e1
      show jbd (f_N_moveOver (nI r) m') _ = _
      rw [e6, jbd_s]
      rfl
theorem e_putOne {m : jMem} (h30 : N ≤ 30) (hP : ∀ l, l < N → ∀ j, bt (P l) j = true → j < l) (hN : m 29 15 = nI N) (h37 : m 37 = P) (hpC : mtC (egB X P) (bt X) N i (m 86)) (hmv : mvC N (m 86) (m 85)) (hi : i < N) (hXi : bt X i = true) : bfO X P (m 86) N i m (f_N_putOneBehind (nI i) X m) := by
  have m88 : jup m 88 0 (nI i) 88 = upd (m 88) 0 (nI i) := jup_row
  unfold f_N_putOneBehind
  simp only [lits, negs]
  rw [st_88 (by omega)]
  refine lp_N15 (m0 := m) (x0 := m 85) h30 hP hN h37 rfl rfl hpC hmv hi hXi 31 5000 0 1 (nI 0) (jup m 88 0 (nI i)) (by omega) (by omega) (by omega) (fun c h1 h2 => jup_oc h2) ⟨⟨by rw [m88, up_at], fun j h1 h2 => absurd h1 (by omega), fun r hr => ?_, fun r hr => ?_, fun j j' h1 h2 => absurd h1 (by omega), by rw [pcnt_0]⟩, fun r hr => ?_⟩ (fun j hj => absurd hj (by omega))
  all_goals rw [b_n0] at hr; exact absurd hr (by decide)
theorem lp_Nf2 {v1 : Int32} {k : jMem → Option (Int32 × jMem)} : ∀ (d n i : Nat) (m : jMem), i + d = 30 → d < n → (∀ r, r < i → m 85 r = nM ∧ m 86 r = nM) → ∃ m', lp_N_fewest_2 v1 k n (nI i) m = k m' ∧ (∀ c, ¬ c = 85 → ¬ c = 86 → m' c = m c) ∧ ∀ r, r < 30 → m' 85 r = nM ∧ m' 86 r = nM := by
  intro d
  induction d with
  | zero =>
    intro n i m hid hdn h
    obtain ⟨n, rfl⟩ := ex_succ hdn
    refine ⟨m, ?_, fun c _ _ => rfl, fun r hr => h r (by omega)⟩
    rw [lp_N_fewest_2]
    simp (disch := omega) only [lits, negs, nI_add, nn1, leT, leF, ltT, ltF, eqF, mF1, mF2, mF3, mF4, mF5, mF6, mTT, eq_self, Nat.reduceEqDiff, ↓reduceIte, jbd_s, jpu_e, tI0, tI1, jgd_tI, jgd_bb, tfF, ftF, jup_at, jup_oc, jup_ok]
  | succ d ih =>
    intro n i m hid hdn h
    obtain ⟨n, rfl⟩ := ex_succ hdn
    obtain ⟨m', e1, e2, e3⟩ := ih n (i + 1) (jup (jup m 85 i nM) 86 i nM) (by omega) (by omega) (fun r hr => by
      by_cases q : r = i
      · rw [q]; exact ⟨by rw [jup_oc (by omega)]; exact jup_at, jup_at⟩
      · exact ⟨by rw [jup_oc (by omega), jup_ok q]; exact (h r (by omega)).1, by rw [jup_ok q, jup_oc (by omega)]; exact (h r (by omega)).2⟩)
    refine ⟨m', ?_, fun c h1 h2 => (e2 c h1 h2).trans (by rw [jup_oc h2, jup_oc h1]), e3⟩
    rw [lp_N_fewest_2]
    simp (disch := omega) only [lits, negs, nI_add, nn1, leT, leF, ltT, ltF, eqF, mF1, mF2, mF3, mF4, mF5, mF6, mTT, eq_self, Nat.reduceEqDiff, ↓reduceIte, jbd_s, jpu_e, tI0, tI1, jgd_tI, jgd_bb, tfF, ftF, jup_at, jup_oc, jup_ok, st_85, st_86]
    exact e1
theorem lp_Nf35 {m0 : jMem} (h30 : N ≤ 30) (hP : ∀ l, l < N → ∀ j, bt (P l) j = true → j < l) (hN : m0 29 15 = nI N) (h37 : m0 37 = P) : ∀ (d n i s : Nat) (m : jMem), i + d = N → d < n → (∀ c, ¬ c = 85 → ¬ c = 86 → ¬ c = 87 → ¬ c = 88 → m c = m0 c) → s + mtN N (m 86) = pcnt X → mtC (egB X P) (bt X) N i (m 86) → mvC N (m 86) (m 85) → ∃ m' s', lp_N_fewest_35 X (fun w13 m12 => some (w13, m12)) n (nI s) (nI i) m = some (nI s', m') ∧ (∀ c, ¬ c = 85 → ¬ c = 86 → ¬ c = 87 → ¬ c = 88 → m' c = m0 c) ∧ s' + mtN N (m' 86) = pcnt X ∧ mtC (egB X P) (bt X) N N (m' 86) := by
  intro d
  induction d with
  | zero =>
    intro n i s m hid hdn fr hs h hmv
    obtain ⟨n, rfl⟩ := ex_succ hdn
    have hNm : m 29 15 = nI N := by rw [fr 29 (by omega) (by omega) (by omega) (by omega)]; exact hN
    refine ⟨m, s, ?_, fr, hs, by rw [show N = i by omega] at h ⊢; exact h⟩
    rw [lp_N_fewest_35]
    simp (disch := omega) only [lits, negs, nI_add, nn1, leT, leF, ltT, ltF, eqF, mF1, mF2, mF3, mF4, mF5, mF6, mTT, eq_self, Nat.reduceEqDiff, ↓reduceIte, jbd_s, jpu_e, tI0, tI1, jgd_tI, jgd_bb, tfF, ftF, jup_at, jup_oc, jup_ok, hNm]
  | succ d ih =>
    intro n i s m hid hdn fr hs h hmv
    obtain ⟨n, rfl⟩ := ex_succ hdn
    have hNm : m 29 15 = nI N := by rw [fr 29 (by omega) (by omega) (by omega) (by omega)]; exact hN
    have hPm : m 37 = P := by rw [fr 37 (by omega) (by omega) (by omega) (by omega)]; exact h37
    cases q : bt X i
    · obtain ⟨m', s', e1, e2⟩ := ih n (i + 1) s m (by omega) (by omega) fr hs (mtC_skip h q) hmv
      refine ⟨m', s', ?_, e2⟩
      rw [lp_N_fewest_35]
      simp (disch := omega) only [lits, negs, nI_add, nn1, leT, leF, ltT, ltF, eqF, mF1, mF2, mF3, mF4, mF5, mF6, mTT, eq_self, Nat.reduceEqDiff, ↓reduceIte, jbd_s, jpu_e, tI0, tI1, jgd_tI, jgd_bb, tfF, ftF, jup_at, jup_oc, jup_ok, hNm, e_isIn, q]
      exact e1
    · obtain ⟨b, m7, r1, r2, r3, r4, r5⟩ := e_putOne h30 hP hNm hPm h hmv (by omega) q
      have hl := mtN_le (by omega) h30 r3.1
      have e6 : nI s - tI b = nI (s - (if b = true then 1 else 0)) := by
        cases b
        · exact n_sub (a := s) (b := 0) (by omega)
        · rw [if_pos rfl] at r5
          exact n_sub (a := s) (b := 1) (by omega)
      obtain ⟨m', s', e1, e2⟩ := ih n (i + 1) (s - (if b = true then 1 else 0)) m7 (by omega) (by omega) (fun c h1 h2 h3 h4 => (r2 c h1 h2 h3 h4).trans (fr c h1 h2 h3 h4)) (by
        cases b
        · rw [if_neg (by decide)] at r5 ⊢; omega
        · rw [if_pos rfl] at r5 ⊢; omega) r3 r4
      refine ⟨m', s', ?_, e2⟩
      rw [lp_N_fewest_35]
      simp (disch := omega) only [lits, negs, nI_add, nn1, leT, leF, ltT, ltF, eqF, mF1, mF2, mF3, mF4, mF5, mF6, mTT, eq_self, Nat.reduceEqDiff, ↓reduceIte, jbd_s, jpu_e, tI0, tI1, jgd_tI, jgd_bb, tfF, ftF, jup_at, jup_oc, jup_ok, hNm, e_isIn, q, r1, e_truth]
      rw [e6]
      exact e1
theorem e_Nfewest {m : jMem} (h30 : N ≤ 30) (hP : ∀ l, l < N → ∀ j, bt (P l) j = true → j < l) (hN : m 29 15 = nI N) (h37 : m 37 = P) : ∃ m' s', f_N_fewest X m = some (nI s', m') ∧ (∀ c, ¬ c = 85 → ¬ c = 86 → ¬ c = 87 → ¬ c = 88 → m' c = m c) ∧ s' + mtN N (m' 86) = pcnt X ∧ mtC (egB X P) (bt X) N N (m' 86) := by
  obtain ⟨m1, a1, a2, a3⟩ := lp_Nf2 (v1 := X) (k := fun m3 => jbd (f_JI_bitCount X m3) fun x4 m5 => lp_N_fewest_35 X (fun w13 m12 => some (w13, m12)) 5000 x4 (nI 0) m5) 30 5000 0 m (by omega) (by omega) (fun r hr => absurd hr (by omega))
  obtain ⟨z1, z2⟩ := mtC_0 (N := N) (p := m1 86) (E := egB X P) (Y := bt X) (fun r hr => (a3 r (by omega)).2)
  have hmv : mvC N (m1 86) (m1 85) := ⟨fun r a hr ha => by rw [(a3 r (by omega)).2, (a3 a (by omega)).1, mF2 (by omega), mF2 (by omega)], fun a ha => Or.inl (a3 a (by omega)).1⟩
  obtain ⟨m', s', e1, e2, e3⟩ := lp_Nf35 (m0 := m1) h30 hP (by rw [a2 29 (by omega) (by omega)]; exact hN) (by rw [a2 37 (by omega) (by omega)]; exact h37) N 5000 0 (pcnt X) m1 (by omega) (by omega) (fun c _ _ _ _ => rfl) (by omega) z1 hmv
  refine ⟨m', s', ?_, fun c h1 h2 h3 h4 => (e2 c h1 h2 h3 h4).trans (a2 c h1 h2), e3⟩
  unfold f_N_fewest
  simp only [lits, negs]
  rw [a1, e_bitCount, jbd_s]
  exact e1
end BF
theorem q_chains {N C : Nat} {m : jMem} (r : Rel N C m) (X : Int32) : Qst (f_C_chains X) (f_M_chains X) m := by
  have h30 := r.1.1
  have hN := r.1.2.1
  have hM := r.1.2.2.1
  have h128 : m 128 = m 37 := r.1.2.2.2.1.2.2.2.2.2.2.2
  have hP : ∀ l, l < N → ∀ j, bt (m 37 l) j = true → j < l := fun l hl => RL_past r.1 (l + 1) l (by omega) hl
  by_cases hX : isSt N X = true
  · obtain ⟨m1, s1, a1, a2, a3, a4⟩ := e_Nfewest (X := X) h30 hP hN rfl
    obtain ⟨m2, s2, b1, b2, b3⟩ := e_Mchains (X := X) (m := m1) h30 hX hP (by rw [a2 109 (by omega) (by omega) (by omega) (by omega)]; exact hM) (by rw [a2 128 (by omega) (by omega) (by omega) (by omega)]; exact h128)
    have e := mt_same (Nat.le_refl N) h30 a4 b3
    have e2 : s2 = s1 := by omega
    refine ⟨nI s1, m1, m2, ?_, by rw [b1, e2]⟩
    unfold f_C_chains
    simp only [lits, negs]
    rw [e_isSet hN h30, jbd_s, hX, if_neg (by decide), a1, jbd_s]
  · have hX2 := bf_of hX
    refine ⟨nM, m, jup m 109 0 (nI 0), ?_, ?_⟩
    · unfold f_C_chains
      simp only [lits, negs]
      rw [e_isSet hN h30, jbd_s, hX2]
      rfl
    · unfold f_M_chains
      simp only [lits, negs]
      rw [jpu_e, e_MisSet (by rw [jup_ok (by omega)]; exact hM) h30, jbd_s, hX2]
      rfl
