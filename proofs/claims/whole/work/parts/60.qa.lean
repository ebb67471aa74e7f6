/-! the shortest way: the reference's -/
def stP (D : Nat → Int32) (N b : Nat) (v : Int32) (x : Nat) : Prop := ∃ s, s ≤ 99 ∧ v = nI s ∧ (∀ d, bt (rg D N b d) x = true → s = d) ∧ (s < 99 → bt (rg D N b s) x = true)
theorem lp_Mp1 {N a b x : Nat} {w3 : Int32} {D : Nat → Int32} {k : jMem → Option (Int32 × jMem)} (hb : b < N) (h30 : N ≤ 30) (hDb : ∀ l, l < N → ∀ j, bt (D l) j = true → j < l) (hxb : x < b) : ∀ (d n i : Nat) (m : jMem), i + d = b + 1 → x + 1 ≤ i → d < n → m 127 = D → (∀ y, x < y → y ≤ b → stP D N b (m 139 y) y) → (∃ s, s ≤ 99 ∧ m 139 x = nI s ∧ (∀ y, x < y → y < i → bt (D y) x = true → ∀ e, bt (rg D N b e) y = true → s ≤ e + 1) ∧ (s < 99 → ∃ y e, x < y ∧ y < i ∧ bt (D y) x = true ∧ bt (rg D N b e) y = true ∧ s = e + 1)) → ∃ m', lp_M_path_74 (nI a) (nI b) w3 (nI x) k n (nI i) m = k m' ∧ (∀ c, c ≠ 139 → m' c = m c) ∧ (∀ y, y ≠ x → m' 139 y = m 139 y) ∧ stP D N b (m' 139 x) x := by
  intro d
  induction d with
  | zero =>
    intro n i m h hxi hn hD hY ⟨s, hs, he, h1, h2⟩
    obtain ⟨n, rfl⟩ := ex_succ hn
    have ei : i = b + 1 := by omega
    subst ei
    refine ⟨m, ?_, fun _ _ => rfl, fun _ _ => rfl, s, hs, he, ?_, ?_⟩
    · unfold lp_M_path_74
      simp (disch := omega) only [lits, negs, nI_add, nn1, leT, leF, ltT, ltF, eqF, mF1, mF2, mF3, mF4, mF5, mF6, mTT, eq_self, Nat.reduceEqDiff, ↓reduceIte, jbd_s, jpu_e, tI0, tI1, jgd_tI, jgd_bb, tfF, ftF, jup_at, jup_oc, jup_ok]
    · intro dd hdd
      have hx32 := bt_big hdd
      obtain ⟨d', rfl⟩ : ∃ d', dd = d' + 1 := by
        rcases dd with _ | d'
        · rw [rg_0, b_sb (by omega) hx32, decide_eq_true_iff] at hdd; omega
        · exact ⟨d', rfl⟩
      obtain ⟨⟨y, g1, g2, g3⟩, -⟩ := (b_rg hx32).mp hdd
      have gy := rg_lt (by omega : b < 32) hDb g2
      have gx := hDb y g1 x g3
      have le := h1 y gx (by omega) g3 d' g2
      obtain ⟨y2, e2, q1, q2, q3, q4, q5⟩ := h2 (by omega)
      have hin : bt (sn D N b e2) x = true ∨ bt (rg D N b (e2 + 1)) x = true := by
        cases hsn : bt (sn D N b e2) x
        · exact Or.inr ((b_rg hx32).mpr ⟨⟨y2, by omega, q4, q3⟩, hsn⟩)
        · exact Or.inl rfl
      rcases hin with hin | hin
      · obtain ⟨e3, r1, r2⟩ := b_sn.mp hin
        have := rg_one r2 hdd
        omega
      · rw [q5]; exact rg_one hin hdd
    · intro hs99
      obtain ⟨y2, e2, q1, q2, q3, q4, q5⟩ := h2 hs99
      have hx32 : x < 32 := by omega
      cases hsn : bt (sn D N b e2) x
      · rw [q5]; exact (b_rg hx32).mpr ⟨⟨y2, by omega, q4, q3⟩, hsn⟩
      · exfalso
        obtain ⟨e3, r1, r2⟩ := b_sn.mp hsn
        obtain ⟨e4, rfl⟩ : ∃ d', e3 = d' + 1 := by
          rcases e3 with _ | d'
          · rw [rg_0, b_sb (by omega) hx32, decide_eq_true_iff] at r2; omega
          · exact ⟨d', rfl⟩
        obtain ⟨⟨y, g1, g2, g3⟩, -⟩ := (b_rg hx32).mp r2
        have gy := rg_lt (by omega : b < 32) hDb g2
        have gx := hDb y g1 x g3
        have le := h1 y gx (by omega) g3 e4 g2
        omega
  | succ d ih =>
    intro n i m h hxi hn hD hY ⟨s, hs, he, h1, h2⟩
    obtain ⟨n, rfl⟩ := ex_succ hn
    obtain ⟨u, hu, eu, u1, u2⟩ := hY i (by omega) (by omega)
    cases hp : bt (D i) x
    · obtain ⟨m', e, f, g, z⟩ := ih n (i + 1) m (by omega) (by omega) (by omega) hD hY ⟨s, hs, he, fun y c1 c2 c3 => by
        by_cases q : y = i
        · rw [q, hp] at c3; exact absurd c3 (by decide)
        · exact h1 y c1 (by omega) c3, fun c => by
        obtain ⟨y, e, c1, c2, c3, c4, c5⟩ := h2 c
        exact ⟨y, e, c1, by omega, c3, c4, c5⟩⟩
      refine ⟨m', ?_, f, g, z⟩
      unfold lp_M_path_74
      simp (disch := omega) only [lits, negs, nI_add, nn1, leT, leF, ltT, ltF, eqF, mF1, mF2, mF3, mF4, mF5, mF6, mTT, eq_self, Nat.reduceEqDiff, ↓reduceIte, jbd_s, jpu_e, tI0, tI1, jgd_tI, jgd_bb, tfF, ftF, jup_at, jup_oc, jup_ok, ld_127, hD, bit1, hp]
      exact e
    · have hmin : jmin (nI s) (nI u + nI 1) = nI (min s (u + 1)) := by
        rw [nI_add, jmin_nI (by omega) (by omega)]
      obtain ⟨m', e, f, g, z⟩ := ih n (i + 1) (jup m 139 x (nI (min s (u + 1)))) (by omega) (by omega) (by omega) (by rw [jup_oc (by omega)]; exact hD) (fun y c1 c2 => by rw [jup_ok (by omega)]; exact hY y c1 c2) ⟨min s (u + 1), by omega, jup_at, fun y c1 c2 c3 e c4 => by
        by_cases q : y = i
        · rw [q] at c4
          have := u1 e c4
          omega
        · have := h1 y c1 (by omega) c3 e c4
          omega, fun c => by
        by_cases q : u + 1 ≤ s
        · have q2 : min s (u + 1) = u + 1 := by omega
          have q3 : u < 99 := by omega
          exact ⟨i, u, by omega, by omega, hp, u2 q3, q2⟩
        · obtain ⟨y, e, c1, c2, c3, c4, c5⟩ := h2 (by omega)
          exact ⟨y, e, c1, by omega, c3, c4, by omega⟩⟩
      refine ⟨m', ?_, fun c hc => by rw [f c hc, jup_oc hc], fun y hy => by rw [g y hy, jup_ok hy], z⟩
      have hmin2 : jmin (nI s) (nI (u + 1)) = nI (min s (u + 1)) := jmin_nI (by omega) (by omega)
      unfold lp_M_path_74
      simp (disch := omega) only [lits, negs, nI_add, nn1, leT, leF, ltT, ltF, eqF, mF1, mF2, mF3, mF4, mF5, mF6, mTT, eq_self, Nat.reduceEqDiff, ↓reduceIte, jbd_s, jpu_e, tI0, tI1, jgd_tI, jgd_bb, tfF, ftF, jup_at, jup_oc, jup_ok, ld_127, hD, bit1, hp, ld_139, he, eu, hmin2, st_139]
      exact e
theorem lp_Mp2 {N a b : Nat} {w3 : Int32} {D : Nat → Int32} {k : jMem → Option (Int32 × jMem)} (hb : b < N) (h30 : N ≤ 30) (hDb : ∀ l, l < N → ∀ j, bt (D l) j = true → j < l) : ∀ (d n x : Nat) (m : jMem), x = a + d → x < b + 1 → d + 1 < n → m 127 = D → (∀ y, x ≤ y → y ≤ b → stP D N b (m 139 y) y) → ∃ m', lp_M_path_53 (nI a) (nI b) w3 k n (nI x - nI 1) m = k m' ∧ (∀ c, c ≠ 139 → m' c = m c) ∧ (∀ y, a ≤ y → y ≤ b → stP D N b (m' 139 y) y) := by
  intro d
  induction d with
  | zero =>
    intro n x m h hxb hn hD hY
    obtain ⟨n, rfl⟩ : ∃ n', n = n' + 1 := ⟨n - 1, by omega⟩
    have ex : x = a := by omega
    subst ex
    refine ⟨m, ?_, fun _ _ => rfl, hY⟩
    unfold lp_M_path_53
    have hlt : nI x - nI 1 < nI x := by
      rcases x with _ | x
      · exact (by decide : nI 0 - nI 1 < nI 0)
      · rw [nn1]; exact nI_lt (by omega) (by omega)
    rw [if_pos hlt]
  | succ d ih =>
    intro n x m h hxb hn hD hY
    obtain ⟨n, rfl⟩ : ∃ n', n = n' + 1 := ⟨n - 1, by omega⟩
    obtain ⟨z, rfl⟩ : ∃ z, x = z + 1 := ⟨x - 1, by omega⟩
    obtain ⟨m1, e1, f1, g1, s1⟩ := lp_Mp1 (a := a) (x := z) (w3 := w3) (D := D) (k := fun m14 => lp_M_path_53 (nI a) (nI b) w3 k n (nI z + nM) m14) hb h30 hDb (by omega) (b + 1 - (z + 1)) 5000 (z + 1) (jup m 139 z (nI 99)) (by omega) (by omega) (by omega) (by rw [jup_oc (by omega)]; exact hD) (fun y c1 c2 => by rw [jup_ok (by omega)]; exact hY y (by omega) c2) ⟨99, by omega, jup_at, fun y c1 c2 => by omega, fun c => by omega⟩
    obtain ⟨m', e, f, g⟩ := ih n z m1 (by omega) (by omega) (by omega) (by rw [f1 _ (by omega), jup_oc (by omega)]; exact hD) (fun y c1 c2 => by
      by_cases q : y = z
      · rw [q]; exact s1
      · rw [g1 y q, jup_ok q]; exact hY y (by omega) c2)
    refine ⟨m', ?_, fun c hc => by rw [f c hc, f1 c hc, jup_oc hc], g⟩
    have em : nI z + nM = nI z - nI 1 := by
      rw [Int32.sub_eq_add_neg]; rfl
    unfold lp_M_path_53
    simp (disch := omega) only [lits, negs, nI_add, nn1, leT, leF, ltT, ltF, eqF, mF1, mF2, mF3, mF4, mF5, mF6, mTT, eq_self, Nat.reduceEqDiff, ↓reduceIte, jbd_s, jpu_e, tI0, tI1, jgd_tI, jgd_bb, tfF, ftF, jup_at, jup_oc, jup_ok, st_139]
    rw [e1, em]
    exact e
theorem lp_Mp3 {N b here : Nat} {w3 w5 : Int32} {D : Nat → Int32} {t : Nat} {k : Int32 → jMem → Option (Int32 × jMem)} {m : jMem} (hb : b < N) (h30 : N ≤ 30) (hDb : ∀ l, l < N → ∀ j, bt (D l) j = true → j < l) (hD : m 127 = D) (hh : bt (rg D N b (t + 1)) here = true) (hY : ∀ y, here ≤ y → y ≤ b → stP D N b (m 139 y) y) (hx : exS (fun l => bt (rg D N b t) l && bt (D l) here) N = true) : ∀ (d n i : Nat), i + d = lst (fun l => bt (rg D N b t) l && bt (D l) here) N → here + 1 ≤ i → d < n → lp_M_path_160 (nI b) w3 (nI here) w5 k n (nI i) m = k (nI (lst (fun l => bt (rg D N b t) l && bt (D l) here) N)) m := by
  obtain ⟨o1, o2, o3⟩ := lst_ok hx
  rw [Bool.and_eq_true] at o1
  have hlb := rg_lt (by omega : b < 32) hDb o1.1
  have hhb := rg_lt (by omega : b < 32) hDb hh
  obtain ⟨sh, sh1, sh2, sh3, -⟩ := hY here (Nat.le_refl _) (by omega)
  have shv := sh3 _ hh
  intro d
  induction d with
  | zero =>
    intro n i h hhi hn
    obtain ⟨n, rfl⟩ := ex_succ hn
    have ei : i = lst (fun l => bt (rg D N b t) l && bt (D l) here) N := by omega
    rw [← ei] at o1 hlb ⊢
    obtain ⟨si, si1, si2, si3, -⟩ := hY i (by omega) (by omega)
    have siv := si3 _ o1.1
    have e9 : nI sh - nI 1 = nI si := by rw [shv, siv]; exact nn1 t
    unfold lp_M_path_160
    simp (disch := omega) only [lits, negs, nI_add, nn1, leT, leF, ltT, ltF, eqF, mF1, mF2, mF3, mF4, mF5, mF6, mTT, eq_self, Nat.reduceEqDiff, ↓reduceIte, jbd_s, jpu_e, tI0, tI1, jgd_tI, jgd_bb, tfF, ftF, jup_at, jup_oc, jup_ok, ld_127, hD, bit0, o1.2, ld_139, si2, sh2, e9]
  | succ d ih =>
    intro n i h hhi hn
    obtain ⟨n, rfl⟩ := ex_succ hn
    have e := ih n (i + 1) (by omega) (by omega) (by omega)
    have hno := o3 i (by omega)
    obtain ⟨si, si1, si2, si3, si4⟩ := hY i (by omega) (by omega)
    unfold lp_M_path_160
    cases hp : bt (D i) here
    · simp (disch := omega) only [lits, negs, nI_add, nn1, leT, leF, ltT, ltF, eqF, mF1, mF2, mF3, mF4, mF5, mF6, mTT, eq_self, Nat.reduceEqDiff, ↓reduceIte, jbd_s, jpu_e, tI0, tI1, jgd_tI, jgd_bb, tfF, ftF, jup_at, jup_oc, jup_ok, ld_127, hD, bit0, hp]
      exact e
    · rw [hp, Bool.and_true] at hno
      have hne : si ≠ t := fun q => by
        have := si4 (by omega)
        rw [q, hno] at this; exact absurd this (by decide)
      have e9 : nI sh - nI 1 = nI t := by rw [shv]; exact nn1 t
      simp (disch := omega) only [lits, negs, nI_add, nn1, leT, leF, ltT, ltF, eqF, mF1, mF2, mF3, mF4, mF5, mF6, mTT, eq_self, Nat.reduceEqDiff, ↓reduceIte, jbd_s, jpu_e, tI0, tI1, jgd_tI, jgd_bb, tfF, ftF, jup_at, jup_oc, jup_ok, ld_127, hD, bit0, hp, ld_139, si2, sh2, e9]
      exact e
theorem lp_Mp4 {N a b t : Nat} {x : Int32} {D : Nat → Int32} {kN : jMem → Option (Int32 × jMem)} {kY : Int32 → jMem → Option (Int32 × jMem)} {m : jMem} (hb : b < N) (h30 : N ≤ 30) (hDb : ∀ l, l < N → ∀ j, bt (D l) j = true → j < l) (hD : m 127 = D) (ht : bt (rg D N b t) a = true) (hY : ∀ y, a ≤ y → y ≤ b → stP D N b (m 139 y) y) (hx0 : nI 0 ≤ x) : ∀ (d n i : Nat), i + d = t → d + 1 < n → nI i ≤ x → a ≤ pth D N a b t i → lp_M_path_140 (nI b) x kN kY n (nI (pth D N a b t i)) (nI i) m = if x ≤ nI t then kY (nI (pth D N a b t x.toNatClampNeg)) m else kN m := by
  have hta := rg_lt (by omega : b < 32) hDb ht
  intro d
  induction d with
  | zero =>
    intro n i h hn hix hai
    obtain ⟨n, rfl⟩ : ∃ n', n = n' + 1 := ⟨n - 1, by omega⟩
    have ei : i = t := by omega
    subst ei
    have hin := pth_in ht i (Nat.le_refl _)
    rw [Nat.sub_self, rg_0, b_sb (by omega) (bt_big hin), decide_eq_true_iff] at hin
    unfold lp_M_path_140
    by_cases q : x ≤ nI i
    · have ex : x = nI i := Int32.le_antisymm q hix
      rw [if_pos q, if_pos q, ex, nI_clamp (by omega)]
    · rw [if_neg q, if_neg q, hin, if_pos rfl]
  | succ d ih =>
    intro n i h hn hix hai
    obtain ⟨n, rfl⟩ : ∃ n', n = n' + 1 := ⟨n - 1, by omega⟩
    have hin := pth_in ht i (by omega)
    have hlt := rg_lt (by omega : b < 32) hDb hin
    unfold lp_M_path_140
    by_cases q : x ≤ nI i
    · have ex : x = nI i := Int32.le_antisymm q hix
      rw [if_pos q, if_pos (by rw [ex]; exact nI_le (by omega) (by omega)), ex, nI_clamp (by omega)]
    · have hne : pth D N a b t i ≠ b := by omega
      have hxS := pth_ex (by omega : i < t) hin
      obtain ⟨o1, o2, o3⟩ := lst_ok hxS
      rw [Bool.and_eq_true] at o1
      have hgt : pth D N a b t i < pth D N a b t (i + 1) := hDb _ o2 _ o1.2
      have e3 := lp_Mp3 (t := t - (i + 1)) (here := pth D N a b t i) (w3 := x) (w5 := nI i) (k := fun w20 m19 => lp_M_path_140 (nI b) x kN kY n w20 (nI (i + 1)) m19) (m := m) hb h30 hDb hD (by rw [show t - (i + 1) + 1 = t - i by omega]; exact hin) (fun y c1 c2 => hY y (by omega) c2) hxS (pth D N a b t (i + 1) - (pth D N a b t i + 1)) 5000 (pth D N a b t i + 1) (by rw [← pth_s]; omega) (Nat.le_refl _) (by have := o2; rw [← pth_s] at this; omega)
      have e := ih n (i + 1) (by omega) (by omega) (by
        have q2 := Int32.not_le.mp q
        rw [Int32.lt_iff_toInt_lt, nI_toInt (by omega)] at q2
        rw [Int32.le_iff_toInt_le, nI_toInt (by omega)]
        omega) (by omega)
      rw [← pth_s] at e3
      rw [if_neg q]
      simp (disch := omega) only [lits, negs, nI_add, nn1, leT, leF, ltT, ltF, eqF, mF1, mF2, mF3, mF4, mF5, mF6, mTT, eq_self, Nat.reduceEqDiff, ↓reduceIte, jbd_s, jpu_e, tI0, tI1, jgd_tI, jgd_bb, tfF, ftF, jup_at, jup_oc, jup_ok]
      exact e3.trans e
theorem RL_reach {N : Nat} {m : jMem} (r : RL N m) : ∀ k b, b < k → b < N → ∀ x, bt (m 37 b) x = true → ∃ y, y < N ∧ bt (m 36 y) x = true ∧ (y = b ∨ bt (m 37 b) y = true) := by
  intro k
  induction k with
  | zero => intro b h; exact absurd h (Nat.not_lt_zero b)
  | succ k ih =>
    intro b hk hN x hx
    obtain ⟨-, -, -, -, -, -, -, -, -, hkb, h37, -⟩ := r.2.2.2.2.1 b hN
    have hup : ∀ j, bt (m 36 b) j = true → bt (m 37 b) j = true := fun j hj => by rw [h37, b_or, hj]; rfl
    have hup2 : ∀ z j, bt (m 36 b) z = true → bt (m 37 z) j = true → bt (m 37 b) j = true := fun z j hz hj => by
      rw [h37, b_or, Bool.or_eq_true, b_aO]
      exact Or.inr ⟨z, hkb z hz, hz, hj⟩
    rw [h37, b_or, Bool.or_eq_true, b_aO] at hx
    rcases hx with hx | ⟨z, hz, hz2, hz3⟩
    · exact ⟨b, hN, hx, Or.inl rfl⟩
    · obtain ⟨y, y1, y2, y3⟩ := ih z (by omega) (by omega) x hz3
      refine ⟨y, y1, y2, Or.inr ?_⟩
      rcases y3 with y3 | y3
      · rw [y3]; exact hup z hz2
      · exact hup2 z y hz2 y3
theorem RL_rg {N b : Nat} {m : jMem} (r : RL N m) (hb : b < N) : ∀ k x, b < x + k → (x = b ∨ bt (m 37 b) x = true) → ∃ d, bt (rg (m 36) N b d) x = true := by
  have h30 := r.1
  intro k
  induction k with
  | zero =>
    intro x h hx
    rcases hx with hx | hx
    · omega
    · have := RL_past r (b + 1) b (by omega) hb x hx; omega
  | succ k ih =>
    intro x h hx
    rcases hx with hx | hx
    · exact ⟨0, by rw [rg_0, b_sb (by omega) (by omega), hx]; simp⟩
    · have hx32 := bt_big hx
      obtain ⟨y, y1, y2, y3⟩ := RL_reach r (b + 1) b (by omega) hb x hx
      obtain ⟨-, -, -, -, -, -, -, -, -, hky, -⟩ := r.2.2.2.2.1 y y1
      have hxy := hky x y2
      obtain ⟨d, hd⟩ := ih y (by omega) y3
      cases hsn : bt (sn (m 36) N b d) x
      · exact ⟨d + 1, (b_rg hx32).mpr ⟨⟨y, y1, hd, y2⟩, hsn⟩⟩
      · obtain ⟨e, -, he⟩ := b_sn.mp hsn
        exact ⟨e, he⟩
theorem q_path {N C : Nat} {m : jMem} (r : Rel N C m) (x y z : Int32) : Qst (f_C_path x y z) (f_M_path x y z) m := by
  have rl := r.1
  have h30 := rl.1
  have hN := rl.2.1
  have rl1 := RL_scr (thr_scr m (nI 0)) rl
  have hM := rl1.2.2.1
  have hp : m 128 = m 37 := rl.2.2.2.1.2.2.2.2.2.2.2
  have hdr : m 127 = m 36 := rl.2.2.2.1.2.2.2.2.2.2.1
  rcases ixN x (n := N) (by omega) with hx | ⟨a, ha, rfl⟩
  · refine ⟨nM, m, jup m 109 0 (nI 0), ?_, ?_⟩
    · unfold f_C_path
      simp (disch := omega) only [lits, negs, nI_add, nn1, leT, leF, ltT, ltF, eqF, mF1, mF2, mF3, mF4, mF5, mF6, mTT, eq_self, Nat.reduceEqDiff, ↓reduceIte, jbd_s, jpu_e, tI0, tI1, jgd_tI, jgd_bb, tfF, ftF, jup_at, jup_oc, jup_ok, e_areTwo_no hN h30 (Or.inl hx)]
    · unfold f_M_path
      simp (disch := omega) only [lits, negs, nI_add, nn1, leT, leF, ltT, ltF, eqF, mF1, mF2, mF3, mF4, mF5, mF6, mTT, eq_self, Nat.reduceEqDiff, ↓reduceIte, jbd_s, jpu_e, tI0, tI1, jgd_tI, jgd_bb, tfF, ftF, jup_at, jup_oc, jup_ok, e_MisLetter_no hM hx]
  · rcases ixN y (n := N) (by omega) with hy | ⟨b, hb, rfl⟩
    · refine ⟨nM, m, jup m 109 0 (nI 0), ?_, ?_⟩
      · unfold f_C_path
        simp (disch := omega) only [lits, negs, nI_add, nn1, leT, leF, ltT, ltF, eqF, mF1, mF2, mF3, mF4, mF5, mF6, mTT, eq_self, Nat.reduceEqDiff, ↓reduceIte, jbd_s, jpu_e, tI0, tI1, jgd_tI, jgd_bb, tfF, ftF, jup_at, jup_oc, jup_ok, e_areTwo_no hN h30 (Or.inr hy)]
      · unfold f_M_path
        simp (disch := omega) only [lits, negs, nI_add, nn1, leT, leF, ltT, ltF, eqF, mF1, mF2, mF3, mF4, mF5, mF6, mTT, eq_self, Nat.reduceEqDiff, ↓reduceIte, jbd_s, jpu_e, tI0, tI1, jgd_tI, jgd_bb, tfF, ftF, jup_at, jup_oc, jup_ok, e_MisLetter hM h30, e_MisLetter_no hM hy]
    · by_cases e : a = b
      · subst e
        refine ⟨nM, m, jup m 109 0 (nI 0), ?_, ?_⟩
        · unfold f_C_path
          simp (disch := omega) only [lits, negs, nI_add, nn1, leT, leF, ltT, ltF, eqF, mF1, mF2, mF3, mF4, mF5, mF6, mTT, eq_self, Nat.reduceEqDiff, ↓reduceIte, jbd_s, jpu_e, tI0, tI1, jgd_tI, jgd_bb, tfF, ftF, jup_at, jup_oc, jup_ok, e_areTwo_same hN h30]
        · unfold f_M_path
          simp (disch := omega) only [lits, negs, nI_add, nn1, leT, leF, ltT, ltF, eqF, mF1, mF2, mF3, mF4, mF5, mF6, mTT, eq_self, Nat.reduceEqDiff, ↓reduceIte, jbd_s, jpu_e, tI0, tI1, jgd_tI, jgd_bb, tfF, ftF, jup_at, jup_oc, jup_ok, e_MisLetter hM h30]
      · cases hab : bt (m 37 b) a
        · refine ⟨nM, m, jup m 109 0 (nI 0), ?_, ?_⟩
          · unfold f_C_path
            simp (disch := omega) only [lits, negs, nI_add, nn1, leT, leF, ltT, ltF, eqF, mF1, mF2, mF3, mF4, mF5, mF6, mTT, eq_self, Nat.reduceEqDiff, ↓reduceIte, jbd_s, jpu_e, tI0, tI1, jgd_tI, jgd_bb, tfF, ftF, jup_at, jup_oc, jup_ok, e_areTwo hN h30, ld_37, e_isIn, hab]
          · unfold f_M_path
            simp (disch := omega) only [lits, negs, nI_add, nn1, leT, leF, ltT, ltF, eqF, mF1, mF2, mF3, mF4, mF5, mF6, mTT, eq_self, Nat.reduceEqDiff, ↓reduceIte, jbd_s, jpu_e, tI0, tI1, jgd_tI, jgd_bb, tfF, ftF, jup_at, jup_oc, jup_ok, e_MisLetter hM h30, e_MisBefore, hp, hab]
        · by_cases hz : nI 0 ≤ z
          · have hDb : ∀ l, l < N → ∀ j, bt (m 36 l) j = true → j < l := fun l hl j hj => by
              obtain ⟨-, -, -, -, -, -, -, -, -, hky, -⟩ := rl.2.2.2.2.1 l hl
              exact hky j hj
            obtain ⟨t, ht⟩ := RL_rg rl hb (b + 1) a (by omega) (Or.inr hab)
            have htl := rg_lt (by omega : b < 32) hDb ht
            have ht1 : 1 ≤ t := by
              rcases t with _ | t
              · rw [rg_0, b_sb (by omega) (by omega), decide_eq_true_iff] at ht; exact absurd ht e
              · omega
            obtain ⟨m1, e1, f1⟩ := e_osw (x := z) hN h30 ha hb hDb ht (by omega) ht1 hz
            have hr1 : jfr Wscr m m1 := fun c k hk => by
              by_cases q : c = 44
              · subst q; exact absurd hk (by unfold jfo Wscr; simp)
              · rw [f1 c q]
            have rl2 := RL_scr (thr_scr m1 (nI 0)) (RL_scr hr1 rl)
            have hM2 := rl2.2.2.1
            have hp2 : m1 128 = m 37 := by rw [f1 _ (by omega)]; exact hp
            have hd2 : m1 127 = m 36 := by rw [f1 _ (by omega)]; exact hdr
            obtain ⟨m2, e2, f2, g2⟩ := lp_Mp2 (a := a) (w3 := z) (D := m 36) (k := fun m15 => lp_M_path_140 (nI b) z (fun m21 => some (nM, m21)) (fun w23 m22 => some (w23, m22)) 5000 (nI a) (nI 0) m15) hb h30 hDb (b - a) 5000 b (jup (jup m1 109 0 (nI 0)) 139 b (nI 0)) (by omega) (by omega) (by omega) (by rw [jup_oc (by omega), jup_oc (by omega)]; exact hd2) (fun yy c1 c2 => by
              have q : yy = b := by omega
              subst q
              refine ⟨0, by omega, jup_at, fun d hd => ?_, fun _ => by rw [rg_0, b_sb (by omega) (by omega)]; simp⟩
              have := rg_lt (by omega : yy < 32) hDb hd
              omega)
            have e3 := lp_Mp4 (x := z) (D := m 36) (t := t) (kN := fun m21 => some (nM, m21)) (kY := fun w23 m22 => some (w23, m22)) (m := m2) hb h30 hDb (by rw [f2 _ (by omega), jup_oc (by omega), jup_oc (by omega)]; exact hd2) ht g2 hz t 5000 0 (by omega) (by omega) hz (Nat.le_refl a)
            refine ⟨if z ≤ nI t then nI (pth (m 36) N a b t z.toNatClampNeg) else nM, m1, m2, ?_, ?_⟩
            · unfold f_C_path
              simp (disch := omega) only [lits, negs, nI_add, nn1, leT, leF, ltT, ltF, eqF, mF1, mF2, mF3, mF4, mF5, mF6, mTT, eq_self, Nat.reduceEqDiff, ↓reduceIte, jbd_s, jpu_e, tI0, tI1, jgd_tI, jgd_bb, tfF, ftF, jup_at, jup_oc, jup_ok, e_areTwo hN h30, ld_37, e_isIn, hab, hz, e1]
            · unfold f_M_path
              simp (disch := omega) only [lits, negs, nI_add, nn1, leT, leF, ltT, ltF, eqF, mF1, mF2, mF3, mF4, mF5, mF6, mTT, eq_self, Nat.reduceEqDiff, ↓reduceIte, jbd_s, jpu_e, tI0, tI1, jgd_tI, jgd_bb, tfF, ftF, jup_at, jup_oc, jup_ok, e_MisLetter hM2 h30, e_MisBefore, hp2, hab, hz, st_139]
              rw [e2]
              refine e3.trans ?_
              split <;> rfl
          · refine ⟨nM, m, jup m 109 0 (nI 0), ?_, ?_⟩
            · unfold f_C_path
              simp (disch := omega) only [lits, negs, nI_add, nn1, leT, leF, ltT, ltF, eqF, mF1, mF2, mF3, mF4, mF5, mF6, mTT, eq_self, Nat.reduceEqDiff, ↓reduceIte, jbd_s, jpu_e, tI0, tI1, jgd_tI, jgd_bb, tfF, ftF, jup_at, jup_oc, jup_ok, e_areTwo hN h30, ld_37, e_isIn, hab]
              rw [if_neg hz]
            · unfold f_M_path
              simp (disch := omega) only [lits, negs, nI_add, nn1, leT, leF, ltT, ltF, eqF, mF1, mF2, mF3, mF4, mF5, mF6, mTT, eq_self, Nat.reduceEqDiff, ↓reduceIte, jbd_s, jpu_e, tI0, tI1, jgd_tI, jgd_bb, tfF, ftF, jup_at, jup_oc, jup_ok, e_MisLetter hM h30, e_MisBefore, hp, hab]
              rw [if_neg hz]
