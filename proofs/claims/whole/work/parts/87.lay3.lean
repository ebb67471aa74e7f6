/-! the reference lays a set out -/
theorem lp_plY {S b : Nat} {g : Nat → Nat} {kY : Int32 → jMem → Option (Int32 × jMem)} {kN : jMem → Option (Int32 × jMem)} {M : jMem} (h12 : S ≤ 12) (hS : M 109 67 = nI S) (hg : ∀ b, b < S → M 146 b = nI (g b) ∧ g b < 30) (hb : b < S) (hi : ∀ a b, a < S → b < S → g a = g b → a = b) : ∀ (d n i : Nat), i + d = b → d < n → lp_M_placeOf_2 (nI (g b)) kY kN n (nI i) M = kY (nI b) M := by
  intro d
  induction d with
  | zero =>
    intro n i h hn
    obtain ⟨n, rfl⟩ := ex_succ hn
    have e : i = b := by omega
    subst e
    unfold lp_M_placeOf_2
    simp (disch := omega) only [lits, negs, nI_add, nn1, leT, leF, ltT, ltF, eqF, mF1, mF2, mF3, mF4, mF5, mF6, mTT, eq_self, Nat.reduceEqDiff, ↓reduceIte, jbd_s, jpu_e, tI0, tI1, jgd_tI, jgd_bb, tfF, ftF, jup_at, jup_oc, jup_ok, hS, ld_146, (hg i hb).1]
  | succ d ih =>
    intro n i h hn
    obtain ⟨n, rfl⟩ := ex_succ hn
    have e := ih n (i + 1) (by omega) (by omega)
    have h1 := (hg i (by omega)).2
    have h2 := (hg b hb).2
    have hne : g i ≠ g b := fun z => by have := hi i b (by omega) hb z; omega
    unfold lp_M_placeOf_2
    simp (disch := omega) only [lits, negs, nI_add, nn1, leT, leF, ltT, ltF, eqF, mF1, mF2, mF3, mF4, mF5, mF6, mTT, eq_self, Nat.reduceEqDiff, ↓reduceIte, jbd_s, jpu_e, tI0, tI1, jgd_tI, jgd_bb, tfF, ftF, jup_at, jup_oc, jup_ok, hS, ld_146, (hg i (by omega)).1]
    exact e
theorem lp_plN {S l : Nat} {g : Nat → Nat} {kY : Int32 → jMem → Option (Int32 × jMem)} {kN : jMem → Option (Int32 × jMem)} {M : jMem} (h12 : S ≤ 12) (hS : M 109 67 = nI S) (hl : l < 30) (hg : ∀ b, b < S → M 146 b = nI (g b) ∧ g b < 30) (h : ∀ b, b < S → ¬ g b = l) : ∀ (d n i : Nat), i + d = S → d < n → lp_M_placeOf_2 (nI l) kY kN n (nI i) M = kN M := by
  intro d
  induction d with
  | zero =>
    intro n i h hn
    obtain ⟨n, rfl⟩ := ex_succ hn
    have e : i = S := by omega
    subst e
    unfold lp_M_placeOf_2
    simp (disch := omega) only [lits, negs, nI_add, nn1, leT, leF, ltT, ltF, eqF, mF1, mF2, mF3, mF4, mF5, mF6, mTT, eq_self, Nat.reduceEqDiff, ↓reduceIte, jbd_s, jpu_e, tI0, tI1, jgd_tI, jgd_bb, tfF, ftF, jup_at, jup_oc, jup_ok, hS]
  | succ d ih =>
    intro n i h0 hn
    obtain ⟨n, rfl⟩ := ex_succ hn
    have e := ih n (i + 1) (by omega) (by omega)
    have h1 := (hg i (by omega)).2
    have hne : g i ≠ l := h i (by omega)
    unfold lp_M_placeOf_2
    simp (disch := omega) only [lits, negs, nI_add, nn1, leT, leF, ltT, ltF, eqF, mF1, mF2, mF3, mF4, mF5, mF6, mTT, eq_self, Nat.reduceEqDiff, ↓reduceIte, jbd_s, jpu_e, tI0, tI1, jgd_tI, jgd_bb, tfF, ftF, jup_at, jup_oc, jup_ok, hS, ld_146, (hg i (by omega)).1]
    exact e
theorem e_plY {S b : Nat} {g : Nat → Nat} {M : jMem} (h12 : S ≤ 12) (hS : M 109 67 = nI S) (hg : ∀ b, b < S → M 146 b = nI (g b) ∧ g b < 30) (hb : b < S) (hi : ∀ a b, a < S → b < S → g a = g b → a = b) : f_M_placeOf (nI (g b)) M = some (nI b, M) := by
  unfold f_M_placeOf
  simp only [lits]
  exact lp_plY h12 hS hg hb hi b 5000 0 (by omega) (by omega)
theorem e_plN {S l : Nat} {g : Nat → Nat} {M : jMem} (h12 : S ≤ 12) (hS : M 109 67 = nI S) (hl : l < 30) (hg : ∀ b, b < S → M 146 b = nI (g b) ∧ g b < 30) (h : ∀ b, b < S → ¬ g b = l) : f_M_placeOf (nI l) M = some (nM, M) := by
  unfold f_M_placeOf
  simp only [lits, negs]
  exact lp_plN h12 hS hl hg h S 5000 0 (by omega) (by omega)
theorem lp_Mla90 {S a : Nat} {P : Nat → Int32} {g : Nat → Nat} {k : jMem → Option (Int32 × jMem)} (h12 : S ≤ 12) (ha : a < S) : ∀ (d n i : Nat) (M : jMem), i + d = S → d < n → M 109 67 = nI S → M 128 = P → (∀ b, b < S → M 146 b = nI (g b) ∧ g b < 30) → M 147 a = setS (fun b => bt (P (g a)) (g b)) i → ∃ M', lp_M_lay_90 (nI a) k n (nI i) M = k M' ∧ (∀ c, c ≠ 147 → M' c = M c) ∧ (∀ j, j ≠ a → M' 147 j = M 147 j) ∧ M' 147 a = plS g S (P (g a)) := by
  intro d
  induction d with
  | zero =>
    intro n i M hi hn hS hP hg h
    obtain ⟨n, rfl⟩ := ex_succ hn
    have e : i = S := by omega
    subst e
    refine ⟨M, ?_, fun _ _ => rfl, fun _ _ => rfl, h⟩
    unfold lp_M_lay_90
    simp (disch := omega) only [lits, negs, nI_add, nn1, leT, leF, ltT, ltF, eqF, mF1, mF2, mF3, mF4, mF5, mF6, mTT, eq_self, Nat.reduceEqDiff, ↓reduceIte, jbd_s, jpu_e, tI0, tI1, jgd_tI, jgd_bb, tfF, ftF, jup_at, jup_oc, jup_ok, hS]
  | succ d ih =>
    intro n i M hi hn hS hP hg h
    obtain ⟨n, rfl⟩ := ex_succ hn
    have h1 := (hg i (by omega)).2
    have h2 := (hg a ha).2
    cases q : bt (P (g a)) (g i)
    · obtain ⟨M', e, f1, f2, f3⟩ := ih n (i + 1) M (by omega) (by omega) hS hP hg (by rw [setS_succ, q, if_neg (by decide)]; exact h)
      refine ⟨M', ?_, f1, f2, f3⟩
      rw [← e]
      conv => lhs; unfold lp_M_lay_90
      simp only [lits]
      simp (disch := omega) only [lits, negs, nI_add, nn1, leT, leF, ltT, ltF, eqF, mF1, mF2, mF3, mF4, mF5, mF6, mTT, eq_self, Nat.reduceEqDiff, ↓reduceIte, ↓jbd_s, ↓jpu_e, tI0, tI1, jgd_tI, jgd_bb, tfF, ftF, jup_at, jup_oc, jup_ok, hS, ↓ld_146, (hg i (by omega)).1, (hg a ha).1, ↓jb (e_MisBefore (m := M) (by omega : g i < 32) h2), hP, q]
    · obtain ⟨M', e, f1, f2, f3⟩ := ih n (i + 1) (jup M 147 a (setS (fun b => bt (P (g a)) (g b)) i ||| sb i)) (by omega) (by omega) (by rw [jup_oc (by omega)]; exact hS) (by rw [jup_oc (by omega)]; exact hP) (fun b hb => by rw [jup_oc (by omega)]; exact hg b hb) (by rw [jup_at, setS_succ, q, if_pos rfl])
      refine ⟨M', ?_, fun c hc => by rw [f1 c hc, jup_oc hc], fun j hj => by rw [f2 j hj, jup_ok hj], f3⟩
      rw [← e]
      conv => lhs; unfold lp_M_lay_90
      simp only [lits]
      simp (disch := omega) only [lits, negs, nI_add, nn1, leT, leF, ltT, ltF, eqF, mF1, mF2, mF3, mF4, mF5, mF6, mTT, eq_self, Nat.reduceEqDiff, ↓reduceIte, ↓jbd_s, ↓jpu_e, tI0, tI1, jgd_tI, jgd_bb, tfF, ftF, jup_at, jup_oc, jup_ok, hS, ↓ld_146, (hg i (by omega)).1, (hg a ha).1, ↓jb (e_MisBefore (m := M) (by omega : g i < 32) h2), hP, q, ↓ld_147, h, sb_e, ↓st_147]
theorem lp_Mla137 {S p a : Nat} {P : Nat → Int32} {A B g : Nat → Nat} {k : jMem → Option (Int32 × jMem)} (h12 : S ≤ 12) (ha : a < S) (hp12 : p ≤ 12) (hinj : ∀ a b, a < S → b < S → g a = g b → a = b) (hAB : ∀ k, k < p → A k < 30 ∧ B k < 30) : ∀ (d n i : Nat) (M : jMem), i + d = p → d < n → M 109 67 = nI S → M 109 64 = nI p → (∀ k, k < p → M 144 k = nI (A k) ∧ M 145 k = nI (B k)) → (∀ b, b < S → M 146 b = nI (g b) ∧ g b < 30) → M 147 a = ndS P A B g S a i → ∃ M', lp_M_lay_137 (nI a) k n (nI i) M = k M' ∧ (∀ c, c ≠ 147 → M' c = M c) ∧ (∀ j, j ≠ a → M' 147 j = M 147 j) ∧ M' 147 a = ndS P A B g S a p := by
  intro d
  induction d with
  | zero =>
    intro n i M hi hn hS hp hab hg h
    obtain ⟨n, rfl⟩ := ex_succ hn
    have e : i = p := by omega
    subst e
    refine ⟨M, ?_, fun _ _ => rfl, fun _ _ => rfl, h⟩
    unfold lp_M_lay_137
    simp (disch := omega) only [lits, negs, nI_add, nn1, leT, leF, ltT, ltF, eqF, mF1, mF2, mF3, mF4, mF5, mF6, mTT, eq_self, Nat.reduceEqDiff, ↓reduceIte, jbd_s, jpu_e, tI0, tI1, jgd_tI, jgd_bb, tfF, ftF, jup_at, jup_oc, jup_ok, hp]
  | succ d ih =>
    intro n i M hi hn hS hp hab hg h
    obtain ⟨n, rfl⟩ := ex_succ hn
    obtain ⟨a1, b1⟩ := hAB i (by omega)
    obtain ⟨a2, b2⟩ := hab i (by omega)
    have h2 := (hg a ha).2
    by_cases q : B i = g a
    · by_cases qe : ∃ b, b < S ∧ g b = A i
      · obtain ⟨b, hb, eb⟩ := qe
        have ep : f_M_placeOf (nI (A i)) M = some (nI b, M) := by rw [← eb]; exact e_plY h12 hS hg hb hinj
        obtain ⟨M', e, f1, f2, f3⟩ := ih n (i + 1) (jup M 147 a (ndS P A B g S a i ||| sb b)) (by omega) (by omega) (by rw [jup_oc (by omega)]; exact hS) (by rw [jup_oc (by omega)]; exact hp) (fun k hk => by rw [jup_oc (by omega), jup_oc (by omega)]; exact hab k hk) (fun b hb => by rw [jup_oc (by omega)]; exact hg b hb) (by rw [jup_at, ndS_succ, if_pos q, ← eb, pl_one h12 hb (fun b hb => by have := (hg b hb).2; omega) hinj])
        refine ⟨M', ?_, fun c hc => by rw [f1 c hc, jup_oc hc], fun j hj => by rw [f2 j hj, jup_ok hj], f3⟩
        rw [← e]
        conv => lhs; unfold lp_M_lay_137
        simp only [lits, negs]
        simp (disch := omega) only [lits, negs, nI_add, nn1, leT, leF, ltT, ltF, eqF, mF1, mF2, mF3, mF4, mF5, mF6, mTT, eq_self, Nat.reduceEqDiff, ↓reduceIte, ↓jbd_s, ↓jpu_e, tI0, tI1, jgd_tI, jgd_bb, tfF, ftF, jup_at, jup_oc, jup_ok, hp, ↓ld_145, b2, ↓ld_146, (hg a ha).1, q, ↓ld_144, a2, ↓jb ep, ↓ld_147, h, sb_e, ↓st_147]
      · have ep : f_M_placeOf (nI (A i)) M = some (nM, M) := e_plN h12 hS a1 hg (fun b hb z => qe ⟨b, hb, z⟩)
        obtain ⟨M', e, f1, f2, f3⟩ := ih n (i + 1) M (by omega) (by omega) hS hp hab hg (by rw [h, ndS_succ, if_pos q, pl_none h12 (by omega) (fun b hb => by have := (hg b hb).2; omega) (fun b hb z => qe ⟨b, hb, z⟩), or_n0])
        refine ⟨M', ?_, f1, f2, f3⟩
        rw [← e]
        conv => lhs; unfold lp_M_lay_137
        simp only [lits, negs]
        simp (disch := omega) only [lits, negs, nI_add, nn1, leT, leF, ltT, ltF, eqF, mF1, mF2, mF3, mF4, mF5, mF6, mTT, eq_self, Nat.reduceEqDiff, ↓reduceIte, ↓jbd_s, ↓jpu_e, tI0, tI1, jgd_tI, jgd_bb, tfF, ftF, jup_at, jup_oc, jup_ok, hp, ↓ld_145, b2, ↓ld_146, (hg a ha).1, q, ↓ld_144, a2, ↓jb ep]
    · obtain ⟨M', e, f1, f2, f3⟩ := ih n (i + 1) M (by omega) (by omega) hS hp hab hg (by rw [h, ndS_succ, if_neg q])
      refine ⟨M', ?_, f1, f2, f3⟩
      rw [← e]
      conv => lhs; unfold lp_M_lay_137
      simp only [lits, negs]
      simp (disch := omega) only [lits, negs, nI_add, nn1, leT, leF, ltT, ltF, eqF, mF1, mF2, mF3, mF4, mF5, mF6, mTT, eq_self, Nat.reduceEqDiff, ↓reduceIte, ↓jbd_s, ↓jpu_e, tI0, tI1, jgd_tI, jgd_bb, tfF, ftF, jup_at, jup_oc, jup_ok, hp, ↓ld_145, b2, ↓ld_146, (hg a ha).1, q]
theorem lp_Mla73 {S p : Nat} {P : Nat → Int32} {A B g : Nat → Nat} {k : jMem → Option (Int32 × jMem)} (h12 : S ≤ 12) (hp12 : p ≤ 12) (hinj : ∀ a b, a < S → b < S → g a = g b → a = b) (hAB : ∀ k, k < p → A k < 30 ∧ B k < 30) : ∀ (d n i : Nat) (M : jMem), i + d = S → d < n → M 109 67 = nI S → M 109 64 = nI p → M 128 = P → (∀ k, k < p → M 144 k = nI (A k) ∧ M 145 k = nI (B k)) → (∀ b, b < S → M 146 b = nI (g b) ∧ g b < 30) → (∀ a, a < i → M 147 a = ndS P A B g S a p) → ∃ M', lp_M_lay_73 k n (nI i) M = k M' ∧ (∀ c, c ≠ 147 → M' c = M c) ∧ ∀ a, a < S → M' 147 a = ndS P A B g S a p := by
  intro d
  induction d with
  | zero =>
    intro n i M hi hn hS hp hP hab hg h
    obtain ⟨n, rfl⟩ := ex_succ hn
    have e : i = S := by omega
    subst e
    refine ⟨M, ?_, fun _ _ => rfl, h⟩
    unfold lp_M_lay_73
    simp (disch := omega) only [lits, negs, nI_add, nn1, leT, leF, ltT, ltF, eqF, mF1, mF2, mF3, mF4, mF5, mF6, mTT, eq_self, Nat.reduceEqDiff, ↓reduceIte, jbd_s, jpu_e, tI0, tI1, jgd_tI, jgd_bb, tfF, ftF, jup_at, jup_oc, jup_ok, hS]
  | succ d ih =>
    intro n i M hi hn hS hp hP hab hg h
    obtain ⟨n, rfl⟩ := ex_succ hn
    obtain ⟨M1, e1, f1, f2, f3⟩ := lp_Mla90 (P := P) (k := fun m16 => lp_M_lay_137 (nI i) (fun m27 => lp_M_lay_73 k n (nI (i + 1)) m27) 5000 (nI 0) m16) h12 (by omega : i < S) S 5000 0 (jup M 147 i (nI 0)) (by omega) (by omega) (by rw [jup_oc (by omega)]; exact hS) (by rw [jup_oc (by omega)]; exact hP) (fun b hb => by rw [jup_oc (by omega)]; exact hg b hb) jup_at
    have hc1 : ∀ c, c ≠ 147 → M1 c = M c := fun c hc => by rw [f1 c hc, jup_oc hc]
    obtain ⟨M2, e2, k1, k2, k3⟩ := lp_Mla137 (P := P) (A := A) (B := B) (k := fun m27 => lp_M_lay_73 k n (nI (i + 1)) m27) h12 (by omega : i < S) hp12 hinj hAB p 5000 0 M1 (by omega) (by omega) (by rw [hc1 109 (by omega)]; exact hS) (by rw [hc1 109 (by omega)]; exact hp) (fun k hk => by rw [hc1 144 (by omega), hc1 145 (by omega)]; exact hab k hk) (fun b hb => by rw [hc1 146 (by omega)]; exact hg b hb) f3
    have hc2 : ∀ c, c ≠ 147 → M2 c = M c := fun c hc => by rw [k1 c hc, hc1 c hc]
    obtain ⟨M3, e3, n1, n2⟩ := ih n (i + 1) M2 (by omega) (by omega) (by rw [hc2 109 (by omega)]; exact hS) (by rw [hc2 109 (by omega)]; exact hp) (by rw [hc2 128 (by omega)]; exact hP) (fun k hk => by rw [hc2 144 (by omega), hc2 145 (by omega)]; exact hab k hk) (fun b hb => by rw [hc2 146 (by omega)]; exact hg b hb) (fun a ha => by
      by_cases q : a = i
      · rw [q]; exact k3
      · rw [k2 a q, f2 a q, jup_ok q]; exact h a (by omega))
    refine ⟨M3, ?_, fun c hc => by rw [n1 c hc, hc2 c hc], n2⟩
    rw [← e3, ← e2, ← e1]
    conv => lhs; unfold lp_M_lay_73
    simp only [lits]
    simp (disch := omega) only [lits, negs, nI_add, nn1, leT, leF, ltT, ltF, eqF, mF1, mF2, mF3, mF4, mF5, mF6, mTT, eq_self, Nat.reduceEqDiff, ↓reduceIte, ↓jbd_s, ↓jpu_e, tI0, tI1, jgd_tI, jgd_bb, tfF, ftF, jup_at, jup_oc, jup_ok, hS, ↓st_147]
theorem e_lay {N p : Nat} {X : Int32} {P : Nat → Int32} {A B g : Nat → Nat} {M : jMem} (h30 : N ≤ 30) (hN : M 109 33 = nI N) (hX : isSt N X = true) (h12 : pcnt X ≤ 12) (hn : nthS g X N (pcnt X)) (hP : M 128 = P) (hp12 : p ≤ 12) (hp : M 109 64 = nI p) (hAB : ∀ k, k < p → M 144 k = nI (A k) ∧ M 145 k = nI (B k) ∧ A k < N ∧ B k < N) : ∃ M', f_M_lay X M = some (nI 1, M') ∧ (∀ c, c ≠ 146 → c ≠ 147 → c ≠ 109 → M' c = M c) ∧ (∀ j, j ≠ 67 → M' 109 j = M 109 j) ∧ M' 109 67 = nI (pcnt X) ∧ (∀ b, b < pcnt X → M' 146 b = nI (g b)) ∧ ∀ a, a < pcnt X → M' 147 a = ndS P A B g (pcnt X) a p := by
  have hS := hn.1
  have h31 : bt X 31 = false := by
    cases q : bt X 31
    · rfl
    · have := isSt_iff.mp hX 31 q; omega
  obtain ⟨m1, e1, f1, f2, f3, f4⟩ := lp_Mla26 (X := X) (k := fun m8 => lp_M_lay_73 (fun m28 => some (nI 1, m28)) 5000 (nI 0) m8) h30 (by omega) N 5000 0 (jup M 109 67 (nI 0)) (by omega) (by omega) (by rw [jup_ok (by omega)]; exact hN) jup_at (fun l hl => absurd hl (Nat.not_lt_zero l))
  have g92 : ∀ b, b < pcnt X → m1 146 b = nI (g b) ∧ g b < 30 := fun b hb => by
    obtain ⟨z1, z2, z3⟩ := hn.2 b hb
    have := f4 (g b) z1 z2
    rw [z3] at this
    exact ⟨this, by omega⟩
  rw [← hS] at f3
  have hc1 : ∀ c, c ≠ 146 → c ≠ 109 → m1 c = M c := fun c a b => by rw [f1 c a b, jup_oc b]
  have hk1 : ∀ j, j ≠ 67 → m1 109 j = M 109 j := fun j hj => by rw [f2 j hj, jup_ok hj]
  obtain ⟨m3, e3, n1, n2⟩ := lp_Mla73 (P := P) (A := A) (B := B) (k := fun m28 => some (nI 1, m28)) h12 hp12 (fun a b ha hb e => nthS_inj hn ha hb e) (fun k hk => ⟨by have := (hAB k hk).2.2.1; omega, by have := (hAB k hk).2.2.2; omega⟩) (pcnt X) 5000 0 m1 (by omega) (by omega) f3 (by rw [hk1 64 (by omega)]; exact hp) (by rw [hc1 128 (by omega) (by omega)]; exact hP) (fun k hk => by rw [hc1 144 (by omega) (by omega), hc1 145 (by omega) (by omega)]; exact ⟨(hAB k hk).1, (hAB k hk).2.1⟩) g92 (fun a ha => absurd ha (Nat.not_lt_zero a))
  refine ⟨m3, ?_, fun c a b d => by rw [n1 c b, hc1 c a d], fun j hj => by rw [n1 109 (by omega), hk1 j hj], by rw [n1 109 (by omega)]; exact f3, fun b hb => by rw [n1 146 (by omega)]; exact (g92 b hb).1, n2⟩
  unfold f_M_lay
  simp only [lits]
  rw [e_MisSet hN h30, hX]
  simp (disch := omega) only [lits, negs, nI_add, nn1, leT, leF, ltT, ltF, eqF, mF1, mF2, mF3, mF4, mF5, mF6, mTT, eq_self, Nat.reduceEqDiff, ↓reduceIte, ↓jbd_s, ↓jpu_e, tI0, tI1, jgd_tI, jgd_bb, tfF, ftF, jup_at, jup_oc, jup_ok, ↓jb (e_MbitsP (m := M) h31)]
  rw [e1, e3]
theorem e_lay_no {N : Nat} {X : Int32} {M : jMem} (h30 : N ≤ 30) (hN : M 109 33 = nI N) (h : isSt N X = false ∨ ¬ pcnt X ≤ 12) : f_M_lay X M = some (nI 0, M) := by
  have hp := pcnt_le X
  unfold f_M_lay
  simp only [lits]
  rw [e_MisSet hN h30]
  cases q : isSt N X
  · simp (disch := omega) only [lits, negs, nI_add, nn1, leT, leF, ltT, ltF, eqF, mF1, mF2, mF3, mF4, mF5, mF6, mTT, eq_self, Nat.reduceEqDiff, ↓reduceIte, jbd_s, jpu_e, tI0, tI1, jgd_tI, jgd_bb, tfF, ftF, jup_at, jup_oc, jup_ok]
  · have h2 : ¬ pcnt X ≤ 12 := by
      rcases h with h | h
      · rw [q] at h; exact absurd h (by decide)
      · exact h
    have h31 : bt X 31 = false := by
      cases q2 : bt X 31
      · rfl
      · have := isSt_iff.mp q 31 q2; omega
    simp (disch := omega) only [lits, negs, nI_add, nn1, leT, leF, ltT, ltF, eqF, mF1, mF2, mF3, mF4, mF5, mF6, mTT, eq_self, Nat.reduceEqDiff, ↓reduceIte, ↓jbd_s, ↓jpu_e, tI0, tI1, jgd_tI, jgd_bb, tfF, ftF, jup_at, jup_oc, jup_ok, ↓jb (e_MbitsP (m := M) h31)]
