/-! the shortest way -/
def rgP (D : Nat → Int32) (N b : Nat) : Nat → Int32 × Int32
  | 0 => (sb b, sb b)
  | d + 1 => (aO (bt (rgP D N b d).1) D N &&& ((rgP D N b d).2 ^^^ nM), (rgP D N b d).2 ||| (aO (bt (rgP D N b d).1) D N &&& ((rgP D N b d).2 ^^^ nM)))
def rg (D : Nat → Int32) (N b d : Nat) : Int32 := (rgP D N b d).1
def sn (D : Nat → Int32) (N b d : Nat) : Int32 := (rgP D N b d).2
theorem rg_0 (D : Nat → Int32) (N b : Nat) : rg D N b 0 = sb b := rfl
theorem sn_0 (D : Nat → Int32) (N b : Nat) : sn D N b 0 = sb b := rfl
theorem rg_s (D : Nat → Int32) (N b d : Nat) : rg D N b (d + 1) = aO (bt (rg D N b d)) D N &&& (sn D N b d ^^^ nM) := rfl
theorem sn_s (D : Nat → Int32) (N b d : Nat) : sn D N b (d + 1) = sn D N b d ||| rg D N b (d + 1) := rfl
section RG
variable {D : Nat → Int32} {N b : Nat}
theorem b_rg {d x : Nat} (hx : x < 32) : bt (rg D N b (d + 1)) x = true ↔ (∃ y, y < N ∧ bt (rg D N b d) y = true ∧ bt (D y) x = true) ∧ bt (sn D N b d) x = false := by
  rw [rg_s, b_and, b_not hx, Bool.and_eq_true, b_aO]
  simp only [Bool.not_eq_true']
theorem b_sn {x : Nat} : ∀ {d : Nat}, bt (sn D N b d) x = true ↔ ∃ e, e ≤ d ∧ bt (rg D N b e) x = true
  | 0 => by
    rw [sn_0]
    refine ⟨fun h => ⟨0, Nat.le_refl _, h⟩, fun ⟨e, he, h⟩ => ?_⟩
    rw [show e = 0 by omega] at h
    exact h
  | d + 1 => by
    rw [sn_s, b_or, Bool.or_eq_true, b_sn (d := d)]
    refine ⟨fun h => ?_, fun ⟨e, he, h⟩ => ?_⟩
    · rcases h with ⟨e, he, h⟩ | h
      · exact ⟨e, by omega, h⟩
      · exact ⟨d + 1, Nat.le_refl _, h⟩
    · rcases Nat.lt_or_ge d e with q | q
      · rw [show e = d + 1 by omega] at h; exact Or.inr h
      · exact Or.inl ⟨e, q, h⟩
theorem rg_lt (hb : b < 32) (hD : ∀ l, l < N → ∀ j, bt (D l) j = true → j < l) : ∀ {d x : Nat}, bt (rg D N b d) x = true → x + d ≤ b
  | 0, x, h => by
    rw [rg_0, b_sb hb (bt_big h), decide_eq_true_iff] at h
    omega
  | d + 1, x, h => by
    obtain ⟨⟨y, h1, h2, h3⟩, -⟩ := (b_rg (bt_big h)).mp h
    have := rg_lt hb hD h2
    have := hD y h1 x h3
    omega
theorem rg_one' {d e x : Nat} (h : d < e) (h1 : bt (rg D N b d) x = true) (h2 : bt (rg D N b e) x = true) : False := by
  obtain ⟨e, rfl⟩ : ∃ e', e = e' + 1 := ⟨e - 1, by omega⟩
  have h3 := ((b_rg (bt_big h2)).mp h2).2
  rw [b_sn.mpr ⟨d, by omega, h1⟩] at h3
  exact absurd h3 (by decide)
theorem rg_one {d e x : Nat} (h1 : bt (rg D N b d) x = true) (h2 : bt (rg D N b e) x = true) : d = e := by
  rcases Nat.lt_trichotomy d e with q | q | q
  · exact (rg_one' q h1 h2).elim
  · exact q
  · exact (rg_one' q h2 h1).elim
end RG
/-- the least of some -/
def lst (p : Nat → Bool) : Nat → Nat
  | 0 => 0
  | n + 1 => if exS p n then lst p n else n
theorem lst_ok {p : Nat → Bool} : ∀ {n : Nat}, exS p n = true → p (lst p n) = true ∧ lst p n < n ∧ ∀ j, j < lst p n → p j = false
  | 0, h => absurd h (by unfold exS; decide)
  | n + 1, h => by
    unfold lst
    cases hq : exS p n
    · rw [if_neg (by decide)]
      rw [exS_succ, hq, Bool.false_or] at h
      refine ⟨h, by omega, fun j hj => ?_⟩
      cases hp : p j
      · rfl
      · rw [exS_mono hj hp] at hq; exact absurd hq (by decide)
    · rw [if_pos rfl]
      obtain ⟨h1, h2, h3⟩ := lst_ok hq
      exact ⟨h1, by omega, h3⟩
theorem lst_un {p : Nat → Bool} {n i : Nat} (h : exS p n = true) (hi : p i = true) (hl : ∀ j, j < i → p j = false) : lst p n = i := by
  obtain ⟨h1, h2, h3⟩ := lst_ok h
  rcases Nat.lt_trichotomy (lst p n) i with q | q | q
  · rw [hl _ q] at h1; exact absurd h1 (by decide)
  · exact q
  · rw [h3 i q] at hi; exact absurd hi (by decide)
theorem lp_knew {N here : Nat} {set : Int32} {kY : Int32 → jMem → Option (Int32 × jMem)} {kN : jMem → Option (Int32 × jMem)} {m : jMem} (hN : m 29 15 = nI N) (h30 : N ≤ 30) (hh : here < 30) (hx : exS (fun l => bt set l && bt (m 36 l) here) N = true) : ∀ (d n i : Nat), i + d = N → d < n → (∀ j, j < i → (bt set j && bt (m 36 j) here) = false) → lp_L_firstThatKnew_2 (nI here) set kY kN n (nI i) m = kY (nI (lst (fun l => bt set l && bt (m 36 l) here) N)) m := by
  intro d
  induction d with
  | zero =>
    intro n i h hn h0
    obtain ⟨j, hj, e⟩ := exS_iff.mp hx
    have h1 : (bt set j && bt (m 36 j) here) = true := e
    rw [h0 j (by omega)] at h1
    exact absurd h1 (by decide)
  | succ d ih =>
    intro n i h hn h0
    obtain ⟨n, rfl⟩ := ex_succ hn
    unfold lp_L_firstThatKnew_2
    cases h1 : bt set i
    · have e := ih n (i + 1) (by omega) (by omega) (fun j hj => by
        rcases Nat.lt_or_ge j i with q | q
        · exact h0 j q
        · rw [show j = i by omega, h1]; rfl)
      simp (disch := omega) only [lits, negs, nI_add, nn1, leT, leF, ltT, ltF, eqF, mF1, mF2, mF3, mF4, mF5, mF6, mTT, eq_self, Nat.reduceEqDiff, ↓reduceIte, jbd_s, jpu_e, tI0, tI1, jgd_tI, jgd_bb, tfF, ftF, jup_at, jup_oc, jup_ok, hN, e_isIn, h1]
      exact e
    · cases h2 : bt (m 36 i) here
      · have e := ih n (i + 1) (by omega) (by omega) (fun j hj => by
          rcases Nat.lt_or_ge j i with q | q
          · exact h0 j q
          · rw [show j = i by omega, h2, Bool.and_false])
        simp (disch := omega) only [lits, negs, nI_add, nn1, leT, leF, ltT, ltF, eqF, mF1, mF2, mF3, mF4, mF5, mF6, mTT, eq_self, Nat.reduceEqDiff, ↓reduceIte, jbd_s, jpu_e, tI0, tI1, jgd_tI, jgd_bb, tfF, ftF, jup_at, jup_oc, jup_ok, hN, e_isIn, h1, ld_36, h2]
        exact e
      · rw [lst_un hx (i := i) (by show (bt set i && bt (m 36 i) here) = true; rw [h1, h2]; rfl) h0]
        simp (disch := omega) only [lits, negs, nI_add, nn1, leT, leF, ltT, ltF, eqF, mF1, mF2, mF3, mF4, mF5, mF6, mTT, eq_self, Nat.reduceEqDiff, ↓reduceIte, jbd_s, jpu_e, tI0, tI1, jgd_tI, jgd_bb, tfF, ftF, jup_at, jup_oc, jup_ok, hN, e_isIn, h1, ld_36, h2]
theorem e_knew {N here : Nat} {set : Int32} {m : jMem} (hN : m 29 15 = nI N) (h30 : N ≤ 30) (hh : here < 30) (hx : exS (fun l => bt set l && bt (m 36 l) here) N = true) : f_L_firstThatKnew (nI here) set m = some (nI (lst (fun l => bt set l && bt (m 36 l) here) N), m) := by
  unfold f_L_firstThatKnew
  simp only [lits, negs]
  exact lp_knew hN h30 hh hx N 5000 0 (by omega) (by omega) (fun j hj => absurd hj (Nat.not_lt_zero j))
theorem lp_rings {N a b t : Nat} {D : Nat → Int32} {kY : Int32 → jMem → Option (Int32 × jMem)} {kN : jMem → Option (Int32 × jMem)} (h30 : N ≤ 30) (ha : a < 30) (ht : bt (rg D N b t) a = true) (ht30 : t < 30) : ∀ (d n i : Nat) (m : jMem), i + 1 + d = t → d < n → m 29 15 = nI N → m 36 = D → (∀ j, j ≤ i → m 44 j = rg D N b j) → ∃ m', lp_L_ringsRound_15 (nI a) kY kN n (sn D N b i) (nI (i + 1)) m = kY (nI t) m' ∧ (∀ c, c ≠ 44 → m' c = m c) ∧ (∀ j, j ≤ t → m' 44 j = rg D N b j) := by
  intro d
  induction d with
  | zero =>
    intro n i m h hn hN hD hr
    obtain ⟨n, rfl⟩ := ex_succ hn
    have e : t = i + 1 := by omega
    subst e
    refine ⟨jup m 44 (i + 1) (rg D N b (i + 1)), ?_, fun c hc => jup_oc hc, fun j hj => ?_⟩
    · unfold lp_L_ringsRound_15
      have hall := e_allOf (v := rg D N b i) (c := 36) hN h30 rfl
      rw [hD] at hall
      simp (disch := omega) only [lits, negs, nI_add, nn1, leT, leF, ltT, ltF, eqF, mF1, mF2, mF3, mF4, mF5, mF6, mTT, eq_self, Nat.reduceEqDiff, ↓reduceIte, jbd_s, jpu_e, tI0, tI1, jgd_tI, jgd_bb, tfF, ftF, jup_at, jup_oc, jup_ok, ld_44, hr, hall, st_44, ← rg_s, e_isIn, ht]
    · by_cases q : j = i + 1
      · rw [q, jup_at]
      · rw [jup_ok q]; exact hr j (by omega)
  | succ d ih =>
    intro n i m h hn hN hD hr
    obtain ⟨n, rfl⟩ := ex_succ hn
    have hno : bt (rg D N b (i + 1)) a = false := by
      cases q : bt (rg D N b (i + 1)) a
      · rfl
      · have := rg_one ht q; omega
    obtain ⟨m', e, f, g⟩ := ih n (i + 1) (jup m 44 (i + 1) (rg D N b (i + 1))) (by omega) (by omega) (by rw [jup_oc (by omega)]; exact hN) (by rw [jup_oc (by omega)]; exact hD) (fun j hj => by
      by_cases q : j = i + 1
      · rw [q, jup_at]
      · rw [jup_ok q]; exact hr j (by omega))
    refine ⟨m', ?_, fun c hc => by rw [f c hc, jup_oc hc], g⟩
    rw [sn_s] at e
    unfold lp_L_ringsRound_15
    have hall := e_allOf (v := rg D N b i) (c := 36) hN h30 rfl
    rw [hD] at hall
    simp (disch := omega) only [lits, negs, nI_add, nn1, leT, leF, ltT, ltF, eqF, mF1, mF2, mF3, mF4, mF5, mF6, mTT, eq_self, Nat.reduceEqDiff, ↓reduceIte, jbd_s, jpu_e, tI0, tI1, jgd_tI, jgd_bb, tfF, ftF, jup_at, jup_oc, jup_ok, ld_44, hr, hall, st_44, ← rg_s, e_isIn, hno]
    exact e
theorem e_rings {N a b t : Nat} {m : jMem} (hN : m 29 15 = nI N) (h30 : N ≤ 30) (ha : a < 30) (hb : b < N) (ht : bt (rg (m 36) N b t) a = true) (ht30 : t < 30) (ht1 : 1 ≤ t) : ∃ m', f_L_ringsRound (nI b) (nI a) m = some (nI t, m') ∧ (∀ c, c ≠ 44 → m' c = m c) ∧ (∀ j, j ≤ t → m' 44 j = rg (m 36) N b j) := by
  obtain ⟨m', e, f, g⟩ := lp_rings (kY := fun w13 m12 => some (w13, m12)) (kN := fun m14 => some (nM, m14)) (D := m 36) h30 ha ht ht30 (t - 1) 5000 0 (jup m 44 0 (sb b)) (by omega) (by omega) (by rw [jup_oc (by omega)]; exact hN) (by rw [jup_oc (by omega)]) (fun j hj => by rw [show j = 0 by omega, jup_at]; rfl)
  refine ⟨m', ?_, fun c hc => by rw [f c hc, jup_oc hc], g⟩
  unfold f_L_ringsRound
  simp (disch := omega) only [lits, negs, nI_add, nn1, leT, leF, ltT, ltF, eqF, mF1, mF2, mF3, mF4, mF5, mF6, mTT, eq_self, Nat.reduceEqDiff, ↓reduceIte, jbd_s, jpu_e, tI0, tI1, jgd_tI, jgd_bb, tfF, ftF, jup_at, jup_oc, jup_ok, e_bit, st_44]
  exact e
/-- the way's letters -/
def pth (D : Nat → Int32) (N a b t : Nat) : Nat → Nat
  | 0 => a
  | i + 1 => lst (fun l => bt (rg D N b (t - (i + 1))) l && bt (D l) (pth D N a b t i)) N
theorem pth_s (D : Nat → Int32) (N a b t i : Nat) : pth D N a b t (i + 1) = lst (fun l => bt (rg D N b (t - (i + 1))) l && bt (D l) (pth D N a b t i)) N := rfl
theorem pth_ex {D : Nat → Int32} {N a b t i : Nat} (hi : i < t) (h : bt (rg D N b (t - i)) (pth D N a b t i) = true) : exS (fun l => bt (rg D N b (t - (i + 1))) l && bt (D l) (pth D N a b t i)) N = true := by
  have e : t - i = (t - (i + 1)) + 1 := by omega
  rw [e] at h
  obtain ⟨⟨y, h1, h2, h3⟩, -⟩ := (b_rg (bt_big h)).mp h
  exact exS_iff.mpr ⟨y, h1, by rw [h2, h3]; rfl⟩
theorem pth_in {D : Nat → Int32} {N a b t : Nat} (ht : bt (rg D N b t) a = true) : ∀ i, i ≤ t → bt (rg D N b (t - i)) (pth D N a b t i) = true
  | 0, _ => ht
  | i + 1, hi => by
    have ih := pth_in ht i (by omega)
    have h := lst_ok (pth_ex (by omega) ih)
    have h1 := h.1
    rw [Bool.and_eq_true] at h1
    exact h1.1
theorem lp_osw {N a b t kk : Nat} {D : Nat → Int32} {k : Int32 → jMem → Option (Int32 × jMem)} {m : jMem} (hN : m 29 15 = nI N) (h30 : N ≤ 30) (hD : m 36 = D) (hb : b < 30) (hDb : ∀ l, l < N → ∀ j, bt (D l) j = true → j < l) (ht : bt (rg D N b t) a = true) (ht30 : t < 30) (hk : kk ≤ t) (hr : ∀ j, j ≤ t → m 44 j = rg D N b j) : ∀ (d n i : Nat), i + d = kk → d < n → lp_L_onShortestWay_28 (nI kk) (nI t) k n (nI (pth D N a b t i)) (nI (i + 1)) m = k (nI (pth D N a b t kk)) m := by
  intro d
  induction d with
  | zero =>
    intro n i h hn
    obtain ⟨n, rfl⟩ := ex_succ hn
    have e : i = kk := by omega
    subst e
    unfold lp_L_onShortestWay_28
    simp (disch := omega) only [lits, negs, nI_add, nn1, leT, leF, ltT, ltF, eqF, mF1, mF2, mF3, mF4, mF5, mF6, mTT, eq_self, Nat.reduceEqDiff, ↓reduceIte, jbd_s, jpu_e, tI0, tI1, jgd_tI, jgd_bb, tfF, ftF, jup_at, jup_oc, jup_ok]
  | succ d ih =>
    intro n i h hn
    obtain ⟨n, rfl⟩ := ex_succ hn
    have e := ih n (i + 1) (by omega) (by omega)
    have hin := pth_in ht i (by omega)
    have hlt := rg_lt (by omega) hDb hin
    have e1 : nI t - nI (i + 1) = nI (t - (i + 1)) := pk_sub (by omega)
    have e2 := e_knew (here := pth D N a b t i) (set := rg D N b (t - (i + 1))) (m := m) hN h30 (by omega) (by rw [hD]; exact pth_ex (by omega) hin)
    rw [hD] at e2
    unfold lp_L_onShortestWay_28
    simp (disch := omega) only [lits, negs, nI_add, nn1, leT, leF, ltT, ltF, eqF, mF1, mF2, mF3, mF4, mF5, mF6, mTT, eq_self, Nat.reduceEqDiff, ↓reduceIte, jbd_s, jpu_e, tI0, tI1, jgd_tI, jgd_bb, tfF, ftF, jup_at, jup_oc, jup_ok, e1, ld_44, hr, e2, ← pth_s]
    exact e
theorem e_osw {N a b t : Nat} {x : Int32} {m : jMem} (hN : m 29 15 = nI N) (h30 : N ≤ 30) (ha : a < N) (hb : b < N) (hDb : ∀ l, l < N → ∀ j, bt (m 36 l) j = true → j < l) (ht : bt (rg (m 36) N b t) a = true) (ht30 : t < 30) (ht1 : 1 ≤ t) (hx : nI 0 ≤ x) : ∃ m', f_L_onShortestWay (nI a) (nI b) x m = some (if x ≤ nI t then nI (pth (m 36) N a b t x.toNatClampNeg) else nM, m') ∧ (∀ c, c ≠ 44 → m' c = m c) := by
  obtain ⟨m1, e1, f1, g1⟩ := e_rings hN h30 (by omega : a < 30) hb ht ht30 ht1
  refine ⟨m1, ?_, f1⟩
  unfold f_L_onShortestWay
  simp (disch := omega) only [lits, negs, nI_add, nn1, leT, leF, ltT, ltF, eqF, mF1, mF2, mF3, mF4, mF5, mF6, mTT, eq_self, Nat.reduceEqDiff, ↓reduceIte, jbd_s, jpu_e, tI0, tI1, jgd_tI, jgd_bb, tfF, ftF, jup_at, jup_oc, jup_ok, e1]
  by_cases q : x ≤ nI t
  · rw [if_pos q, if_pos q]
    obtain ⟨kk, hk, rfl⟩ := nI_of2 (M := nI t) (n := t) (nI_toInt (by omega)) (Int32.not_lt.mpr hx) q
    rw [nI_clamp (by omega)]
    exact lp_osw (D := m 36) (k := fun w7 m6 => some (w7, m6)) (m := m1) (by rw [f1 29 (by omega)]; exact hN) h30 (f1 36 (by omega)) (by omega) hDb ht ht30 hk g1 kk 5000 0 (by omega) (by omega)
  · rw [if_neg q, if_neg q]
