/-! a letter is read: off the desk -/
def rmF (f : Nat → Int32) (k0 j : Nat) : Int32 := if j < k0 then f j else f (j + 1)
theorem lp_take {w l c k0 : Nat} {v3 : Int32} {f : Nat → Int32} {k : Int32 → jMem → Option (Unit × jMem)} (hw : w < 6) (hc : c ≤ 30) (hk0 : k0 < c) (hf : ∀ j, j < c → (f j = nI l ↔ j = k0)) : ∀ (d n i : Nat) (m : jMem), i + d = c → d < n → m 73 w = nI c → (∀ j, j < (if i ≤ k0 then i else i - 1) → m (67 + w) j = rmF f k0 j) → (∀ j, i ≤ j → j < c → m (67 + w) j = f j) → ∃ m', lp_D_take_16 (nI w) (nI l) v3 k n (nI (if i ≤ k0 then i else i - 1)) (nI i) m = k (nI (c - 1)) m' ∧ (∀ x, x ≠ 67 + w → m' x = m x) ∧ (∀ j, j < c - 1 → m' (67 + w) j = rmF f k0 j) := by
  intro d
  induction d with
  | zero =>
    intro n i m h hn h1 h2 h3
    obtain ⟨n, rfl⟩ := ex_succ hn
    have ei : i = c := by omega
    subst ei
    have e : (if i ≤ k0 then i else i - 1) = i - 1 := if_neg (by omega)
    rw [e] at h2 ⊢
    refine ⟨m, ?_, fun _ _ => rfl, h2⟩
    unfold lp_D_take_16
    simp (disch := omega) only [lits, negs, nI_add, nn1, leT, leF, ltT, ltF, eqF, mF1, mF2, mF3, mF4, mF5, mF6, mTT, eq_self, Nat.reduceEqDiff, ↓reduceIte, jbd_s, jpu_e, tI0, tI1, jgd_tI, jgd_bb, tfF, ftF, jup_at, jup_oc, jup_ok, ld_73, h1]
  | succ d ih =>
    intro n i m h hn h1 h2 h3
    obtain ⟨n, rfl⟩ := ex_succ hn
    have h3i := h3 i (Nat.le_refl _) (by omega)
    by_cases hq : i = k0
    · have hfi : m (67 + w) i = nI l := by rw [h3i]; exact (hf i (by omega)).mpr hq
      have e1 : (if i ≤ k0 then i else i - 1) = i := if_pos (by omega)
      have e2 : (if i + 1 ≤ k0 then i + 1 else i + 1 - 1) = i := by rw [if_neg (by omega)]; omega
      rw [e1] at h2 ⊢
      obtain ⟨m', e, g⟩ := ih n (i + 1) m (by omega) (by omega) h1 (by rw [e2]; exact h2) (fun j a b => h3 j (by omega) b)
      rw [e2] at e
      refine ⟨m', ?_, g⟩
      unfold lp_D_take_16
      simp only [lits, negs]
      simp (disch := omega) only [lits, negs, nI_add, nn1, leT, leF, ltT, ltF, eqF, mF1, mF2, mF3, mF4, mF5, mF6, mTT, eq_self, Nat.reduceEqDiff, ↓reduceIte, ↓jbd_s, ↓jpu_e, tI0, tI1, jgd_tI, jgd_bb, tfF, ftF, jup_at, jup_oc, jup_ok, ↓ld_73, h1, ↓l3_66, ↓ldr_66, hfi]
      exact e
    · have hne : ¬ f i = nI l := fun z => hq ((hf i (by omega)).mp z)
      generalize hκ : (if i ≤ k0 then i else i - 1) = κ at h2 ⊢
      have hκi : κ ≤ i := by rw [← hκ]; split <;> omega
      have e2 : (if i + 1 ≤ k0 then i + 1 else i + 1 - 1) = κ + 1 := by
        rw [← hκ]
        by_cases z : i ≤ k0
        · rw [if_pos (by omega), if_pos z]
        · rw [if_neg (by omega), if_neg z]; omega
      have hfin : rmF f k0 κ = f i := by
        unfold rmF
        rw [← hκ]
        by_cases z : i ≤ k0
        · rw [if_pos z, if_pos (by omega)]
        · rw [if_neg z, if_neg (by omega), show i - 1 + 1 = i by omega]
      obtain ⟨m', e, g1, g2⟩ := ih n (i + 1) (jup m (67 + w) κ (f i)) (by omega) (by omega) (by rw [jup_oc (by omega)]; exact h1) (by
        rw [e2]
        intro j hj
        by_cases z : j = κ
        · rw [z, jup_at, hfin]
        · rw [jup_ok z]; exact h2 j (by omega)) (fun j a b => by rw [jup_ok (by omega)]; exact h3 j (by omega) b)
      rw [e2] at e
      refine ⟨m', ?_, fun x hx => by rw [g1 x hx, jup_oc hx], g2⟩
      unfold lp_D_take_16
      simp only [lits, negs]
      simp (disch := omega) only [lits, negs, nI_add, nn1, leT, leF, ltT, ltF, eqF, mF1, mF2, mF3, mF4, mF5, mF6, mTT, eq_self, Nat.reduceEqDiff, ↓reduceIte, ↓jbd_s, ↓jpu_e, tI0, tI1, jgd_tI, jgd_bb, tfF, ftF, jup_at, jup_oc, jup_ok, ↓ld_73, h1, ↓l3_66, ↓ldr_66, h3i]
      rw [if_neg hne]
      simp (disch := omega) only [lits, negs, nI_add, nn1, leT, leF, ltT, ltF, eqF, mF1, mF2, mF3, mF4, mF5, mF6, mTT, eq_self, Nat.reduceEqDiff, ↓reduceIte, ↓jbd_s, ↓jpu_e, tI0, tI1, jgd_tI, jgd_bb, tfF, ftF, jup_at, jup_oc, jup_ok, ↓l3_66, ↓ldr_66, ↓str_66, h3i]
      exact e
theorem lp_shift {w l c k0 : Nat} {f : Nat → Int32} {k : jMem → Option (Unit × jMem)} (hw : w < 6) (hc : c + 1 ≤ 30) : ∀ (d n i : Nat) (m : jMem), i + d = c → d < n → k0 ≤ i → m 138 w = nI c → (∀ j, j < i → m 137 (30 * w + j) = rmF f k0 j) → (∀ j, i ≤ j → j < c + 1 → m 137 (30 * w + j) = f j) → ∃ m', lp_M_readsNow_20 (nI w) (nI l) k n (nI i) m = k m' ∧ (∀ x, x ≠ 137 → m' x = m x) ∧ (∀ j, j < c → m' 137 (30 * w + j) = rmF f k0 j) ∧ (∀ x, (x < 30 * w ∨ 30 * w + 30 ≤ x) → m' 137 x = m 137 x) := by
  intro d
  induction d with
  | zero =>
    intro n i m h hn hk h1 h2 h3
    obtain ⟨n, rfl⟩ := ex_succ hn
    have ei : i = c := by omega
    subst ei
    refine ⟨m, ?_, fun _ _ => rfl, h2, fun _ _ => rfl⟩
    unfold lp_M_readsNow_20
    simp (disch := omega) only [lits, negs, nI_add, nn1, leT, leF, ltT, ltF, eqF, mF1, mF2, mF3, mF4, mF5, mF6, mTT, eq_self, Nat.reduceEqDiff, ↓reduceIte, jbd_s, jpu_e, tI0, tI1, jgd_tI, jgd_bb, tfF, ftF, jup_at, jup_oc, jup_ok, ld_138, h1]
  | succ d ih =>
    intro n i m h hn hk h1 h2 h3
    obtain ⟨n, rfl⟩ := ex_succ hn
    have e3 := h3 (i + 1) (by omega) (by omega)
    obtain ⟨m', e, g1, g2, g3⟩ := ih n (i + 1) (jup m 137 (30 * w + i) (f (i + 1))) (by omega) (by omega) (by omega) (by rw [jup_oc (by omega)]; exact h1) (fun j hj => by
      by_cases z : j = i
      · rw [z, jup_at]
        unfold rmF
        rw [if_neg (by omega)]
      · rw [jup_ok (by omega)]; exact h2 j (by omega)) (fun j a b => by rw [jup_ok (by omega)]; exact h3 j (by omega) b)
    refine ⟨m', ?_, fun x hx => by rw [g1 x hx, jup_oc hx], g2, fun x hx => by rw [g3 x hx, jup_ok (by omega)]⟩
    rw [show 30 * w + (i + 1) = 30 * w + i + 1 by omega] at e3
    unfold lp_M_readsNow_20
    simp (disch := omega) only [lits, negs, nI_add, nn1, leT, leF, ltT, ltF, eqF, mF1, mF2, mF3, mF4, mF5, mF6, mTT, eq_self, Nat.reduceEqDiff, ↓reduceIte, jbd_s, jpu_e, tI0, tI1, jgd_tI, jgd_bb, tfF, ftF, jup_at, jup_oc, jup_ok, ld_138, h1, pk_mul, ld_137, e3, st_137]
    exact e
theorem rmF_mem {f : Nat → Int32} {k0 c : Nat} {v : Int32} (hk : k0 < c) : (∃ j, j < c - 1 ∧ rmF f k0 j = v) ↔ ∃ j, j < c ∧ j ≠ k0 ∧ f j = v := by
  unfold rmF
  constructor
  · rintro ⟨j, hj, e⟩
    split at e
    · exact ⟨j, by omega, by omega, e⟩
    · exact ⟨j + 1, by omega, by omega, e⟩
  · rintro ⟨j, hj, hne, e⟩
    by_cases z : j < k0
    · exact ⟨j, by omega, by rw [if_pos z]; exact e⟩
    · exact ⟨j - 1, by omega, by rw [if_neg (by omega), show j - 1 + 1 = j by omega]; exact e⟩
theorem pcnt_new {x : Int32} {l : Nat} (hl : l < 32) (h : bt x l = false) : pcnt (x ||| sb l) = pcnt x + 1 := pcnt_add hl h
/-- .. side by side -/
theorem sim_take {N C w l : Nat} {m M : jMem} (r : Rel2 N C m M) (hw : w < 6) (hl : bt (m 74 w) l = true) : ∃ m1 M1, f_D_take (nI w) (nI l) (m 1 6) m = some ((), m1) ∧ f_M_readsNow (nI w) (nI l) M = lp_M_readsNow_103 (nI w) (nI l) (fun m19 => some ((), m19)) 5000 (nI 0) M1 ∧ Rel2 N C m1 M1 ∧ bt (m1 75 w) l = true ∧ (∃ c, m 73 w = nI (c + 1) ∧ m1 73 w = nI c) ∧ m1 1 = m 1 ∧ (∀ c, c < 67 → m1 c = m c) ∧ (∀ x, x ≠ w → x < 6 → m1 73 x = m 73 x) := by
  obtain ⟨rl, rb, rt, rd, rw_, rs, rc, rk, rh, rp, rx⟩ := r
  have h30 := rl.1
  obtain ⟨d, hd, t1, t2⟩ := rd
  obtain ⟨c, hc, c1, c2, c3, c4, c5⟩ := rh w hw
  have hl32 := bt_big hl
  obtain ⟨k0, hk0, ek0⟩ := (c5 l hl32).mp hl
  obtain ⟨g1, l', hl', el', hrd, hwr⟩ := c3 k0 hk0
  have hll : l' = l := by
    rw [ek0] at el'
    exact ((nI_eq (by omega) (by omega)).mp el').symm
  subst hll
  have hlN := hl'
  have huniq : ∀ j, j < c → (m (67 + w) j = nI l' ↔ j = k0) := fun j hj => by
    constructor
    · intro e
      rcases Nat.lt_trichotomy j k0 with q | q | q
      · exact (c4 j k0 q hk0 (e.trans ek0.symm)).elim
      · exact q
      · exact (c4 k0 j q hj (ek0.trans e.symm)).elim
    · intro e; rw [e]; exact ek0
  obtain ⟨cc, rfl⟩ : ∃ cc, c = cc + 1 := ⟨c - 1, by omega⟩
  -- the class
  obtain ⟨ma, ea, fa1, fa2⟩ := lp_take (w := w) (l := l') (c := cc + 1) (k0 := k0) (v3 := nI d) (f := m (67 + w)) (k := fun w11 m10 => jst 1 m10 73 (nI w) w11 fun m12 => jld 1 m12 74 (nI w) fun x13 => jbd (f_C_bit (nI l') m12) fun x14 m15 => jst 1 m15 74 (nI w) (x13 &&& (x14 ^^^ nM)) fun m16 => jld 1 m16 75 (nI w) fun x17 => jbd (f_C_bit (nI l') m16) fun x18 m19 => jst 1 m19 75 (nI w) (x17 ||| x18) fun m20 => jl3 76 (nI w) fun q21 => jst 1 m20 q21 (nI l') (nI d) fun m22 => some ((), m22)) hw (by omega) hk0 huniq (cc + 1) 5000 0 m (by omega) (by omega) c1 (fun j hj => by rw [if_pos (Nat.zero_le _)] at hj; omega) (fun j _ _ => rfl)
  rw [if_pos (Nat.zero_le _)] at ea
  have hma : ∀ x, (x < 67 ∨ 72 < x) → ma x = m x := fun x hx => fa1 x (by omega)
  let m1 : jMem := jup (jup (jup (jup ma 73 w (nI cc)) 74 w (m 74 w &&& (sb l' ^^^ nM))) 75 w (m 75 w ||| sb l')) (77 + w) l' (nI d)
  have eC : f_D_take (nI w) (nI l') (m 1 6) m = some ((), m1) := by
    unfold f_D_take
    simp only [lits, negs]
    rw [e_holds hw (by omega), hl]
    simp only [jbd_s]
    rw [if_neg (by decide), t1, ea, show cc + 1 - 1 = cc by omega]
    simp (disch := omega) only [lits, negs, nI_add, nn1, leT, leF, ltT, ltF, eqF, mF1, mF2, mF3, mF4, mF5, mF6, mTT, eq_self, Nat.reduceEqDiff, ↓reduceIte, ↓jbd_s, ↓jpu_e, tI0, tI1, jgd_tI, jgd_bb, tfF, ftF, jup_at, jup_oc, jup_ok, ↓st_73, ↓ld_74, e_bit, ↓st_74, ↓ld_75, ↓st_75, ↓l3_76, ↓str_76, hma 74, hma 75]
    rfl
  have hm1 : ∀ x, (x < 67 ∨ 82 < x) → m1 x = m x := fun x hx => by
    show jup _ _ _ _ x = m x
    rw [jup_oc (by omega), jup_oc (by omega), jup_oc (by omega), jup_oc (by omega)]
    exact hma x (by omega)
  have hm1r : ∀ v, v < 6 → v ≠ w → m1 (67 + v) = m (67 + v) := fun v hv hvw => by
    show jup _ _ _ _ (67 + v) = _
    rw [jup_oc (by omega), jup_oc (by omega), jup_oc (by omega), jup_oc (by omega)]
    exact fa1 _ (by omega)
  have hm1w : ∀ j, j < cc → m1 (67 + w) j = rmF (m (67 + w)) k0 j := fun j hj => by
    show jup _ _ _ _ (67 + w) j = _
    rw [jup_oc (by omega), jup_oc (by omega), jup_oc (by omega), jup_oc (by omega)]
    exact fa2 j (by omega)
  have h73 : m1 73 = upd (m 73) w (nI cc) := by
    show jup _ _ _ _ 73 = _
    rw [jup_oc (by omega), jup_oc (by omega), jup_oc (by omega), jup_row, hma 73 (by omega)]
  have h74 : m1 74 = upd (m 74) w (m 74 w &&& (sb l' ^^^ nM)) := by
    show jup _ _ _ _ 74 = _
    rw [jup_oc (by omega), jup_oc (by omega), jup_row, jup_oc (by omega), hma 74 (by omega)]
  have h75 : m1 75 = upd (m 75) w (m 75 w ||| sb l') := by
    show jup _ _ _ _ 75 = _
    rw [jup_oc (by omega), jup_row, jup_oc (by omega), jup_oc (by omega), hma 75 (by omega)]
  have h77 : ∀ v, v < 6 → m1 (77 + v) = if v = w then upd (m (77 + w)) l' (nI d) else m (77 + v) := fun v hv => by
    show jup _ _ _ _ (77 + v) = _
    by_cases q : v = w
    · rw [if_pos q, q, jup_row, jup_oc (by omega), jup_oc (by omega), jup_oc (by omega), hma (77 + w) (by omega)]
    · rw [if_neg q, jup_oc (by omega), jup_oc (by omega), jup_oc (by omega), jup_oc (by omega), hma (77 + v) (by omega)]
  -- the reference
  have hdp : f_M_deskPlace (nI w) (nI l') M = some (nI k0, M) := e_dpY hw (by omega) c2 hk0 (by rw [(c3 k0 hk0).1, ek0]) (fun j hj e => by
    rw [(c3 j (by omega)).1] at e
    have := (huniq j (by omega)).mp e
    omega)
  obtain ⟨Ma, eb, fb1, fb2, fb3⟩ := lp_shift (w := w) (l := l') (c := cc) (k0 := k0) (f := m (67 + w)) (k := fun m8 => jld 1 m8 135 (nI w) fun x9 => jst 1 m8 135 (nI w) (x9 ||| (nI 1 <<< (nI l' &&& nI 31))) fun m10 => jst 1 m10 136 ((nI 30 * nI w) + nI l') (m10 109 31) fun m11 => jpu m11 109 57 ((m11 109 57) + nI 1) fun m12 => lp_M_readsNow_103 (nI w) (nI l') (fun m19 => some ((), m19)) 5000 (nI 0) m12) hw (by omega) (cc - k0) 5000 k0 (jup M 138 w (nI cc)) (by omega) (by omega) (Nat.le_refl _) jup_at (fun j hj => by
    rw [jup_oc (by omega), (c3 j (by omega)).1]
    unfold rmF
    rw [if_pos hj]) (fun j a b => by rw [jup_oc (by omega)]; exact (c3 j b).1)
  have k57 := rk.2
  let M1 : jMem := jup (jup (jup Ma 135 w (M 135 w ||| sb l')) 136 (30 * w + l') (nI d)) 109 57 (nI (fb_sm (fun w => pcnt (m 75 w)) 6 + 1))
  have hMa : ∀ x, x ≠ 137 → x ≠ 138 → Ma x = M x := fun x hx hx2 => by rw [fb1 x hx, jup_oc hx2]
  have eM : f_M_readsNow (nI w) (nI l') M = lp_M_readsNow_103 (nI w) (nI l') (fun m19 => some ((), m19)) 5000 (nI 0) M1 := by
    have x1 : jup Ma 135 w (M 135 w ||| sb l') 109 31 = nI d := by rw [jup_oc (by omega), hMa 109 (by omega) (by omega)]; exact t2
    have x2 : jup (jup Ma 135 w (M 135 w ||| sb l')) 136 (30 * w + l') (nI d) 109 57 = nI (fb_sm (fun w => pcnt (m 75 w)) 6) := by
      rw [jup_oc (by omega), jup_oc (by omega), hMa 109 (by omega) (by omega)]; exact k57
    unfold f_M_readsNow
    simp only [lits, negs]
    rw [hdp]
    simp only [jbd_s]
    rw [ld_138 hw, c2, nn1, st_138 hw, eb, ld_135 hw, hMa 135 (by omega) (by omega), sb_e, st_135 hw, x1, pk_mul, nI_add, st_136 (by omega), jpu_e, x2, nI_add]
  have hM1 : ∀ x k, (x < 135 ∨ 138 < x) → ¬ (x = 109 ∧ k = 57) → M1 x k = M x k := fun x k hx hk => by
    show jup _ _ _ _ x k = M x k
    rw [show ∀ (X : jMem) (y : Int32), jup X 109 57 y x k = X x k from fun X y => if_neg hk, jup_oc (by omega), jup_oc (by omega), hMa x (by omega) (by omega)]
  have hM1r : ∀ x, (x < 135 ∨ 138 < x) → x ≠ 109 → M1 x = M x := fun x hx h9 => by funext k; exact hM1 x k hx (fun q => h9 q.1)
  have hnew : bt (m 75 w) l' = false := hrd
  have g135 : M1 135 = upd (M 135) w (M 135 w ||| sb l') := by
    show jup _ _ _ _ 135 = _
    rw [jup_oc (by omega), jup_oc (by omega), jup_row, hMa 135 (by omega) (by omega)]
  have g136 : M1 136 = upd (M 136) (30 * w + l') (nI d) := by
    show jup _ _ _ _ 136 = _
    rw [jup_oc (by omega), jup_row, jup_oc (by omega), hMa 136 (by omega) (by omega)]
  have g137 : M1 137 = Ma 137 := by
    show jup _ _ _ _ 137 = _
    rw [jup_oc (by omega), jup_oc (by omega), jup_oc (by omega)]
  have g138 : M1 138 = upd (M 138) w (nI cc) := by
    show jup _ _ _ _ 138 = _
    rw [jup_oc (by omega), jup_oc (by omega), jup_oc (by omega), fb1 138 (by omega), jup_row]
  have g57 : M1 109 57 = nI (fb_sm (fun w => pcnt (m 75 w)) 6 + 1) := jup_at
  refine ⟨m1, M1, eC, eM, ⟨?_, ?_, ?_, ?_, ?_, ?_, ?_, ?_, ?_, ?_, ?_⟩, ?_, ⟨cc, c1, by rw [h73, up_at]⟩, hm1 1 (by omega), fun x hx => hm1 x (by omega), fun x hx _ => by rw [h73, up_ne hx]⟩
  · obtain ⟨a1, a2, a3, a4, a5, a6, a7⟩ := rl
    refine ⟨a1, by rw [hm1 29 (by omega)]; exact a2, by rw [hM1 109 33 (by omega) (by omega)]; exact a3, ?_, fun j hj => RLl_cong (fun x x1 x2 => hm1 x (by omega)) (a5 j hj), ?_, ?_⟩
    · rw [hM1r 121 (by omega) (by omega), hM1r 122 (by omega) (by omega), hM1r 123 (by omega) (by omega), hM1r 124 (by omega) (by omega), hM1r 125 (by omega) (by omega), hM1r 126 (by omega) (by omega), hM1r 127 (by omega) (by omega), hM1r 128 (by omega) (by omega), hm1 30 (by omega), hm1 31 (by omega), hm1 32 (by omega), hm1 33 (by omega), hm1 34 (by omega), hm1 35 (by omega), hm1 36 (by omega), hm1 37 (by omega)]
      exact a4
    · rw [hm1 42 (by omega), hm1 30 (by omega)]; exact a6
    · rw [hm1 43 (by omega), hm1 33 (by omega)]; exact a7
  · unfold RB2
    rw [hm1 29 (by omega), hM1 109 43 (by omega) (by omega), hM1r 129 (by omega) (by omega)]
    exact rb
  · unfold RT2
    rw [hm1 1 (by omega), hm1 2 (by omega), hM1 109 2 (by omega) (by omega), hM1r 110 (by omega) (by omega)]
    exact rt
  · exact ⟨d, hd, by rw [hm1 1 (by omega)]; exact t1, by rw [hM1 109 31 (by omega) (by omega)]; exact t2⟩
  · obtain ⟨W, w1, w2⟩ := rw_
    refine ⟨W, fun a ha b hb => ?_, w2⟩
    rw [hM1r 120 (by omega) (by omega), hm1 (47 + a) (by omega), hm1 (54 + a) (by omega)]
    exact w1 a ha b hb
  · unfold RS2
    rw [hm1 45 (by omega), hM1 109 50 (by omega) (by omega), hM1 109 51 (by omega) (by omega), hM1 109 52 (by omega) (by omega)]
    exact rs
  · unfold RC2
    rw [hm1 45 (by omega), hM1 109 44 (by omega) (by omega), hM1r 130 (by omega) (by omega), hM1r 131 (by omega) (by omega), hM1r 132 (by omega) (by omega), hM1r 133 (by omega) (by omega), hM1r 134 (by omega) (by omega), hm1 60 (by omega), hm1 61 (by omega), hm1 62 (by omega), hm1 63 (by omega), hm1 64 (by omega)]
    exact rc
  · obtain ⟨k1, k2⟩ := rk
    refine ⟨fun v hv => ?_, ?_⟩
    · obtain ⟨a1, a2, a3⟩ := k1 v hv
      unfold RKw2
      rw [hm1 42 (by omega), hm1 30 (by omega), hm1 31 (by omega), g135, g136, h75, h77 v hv]
      by_cases q : v = w
      · subst q
        rw [up_at, up_at, if_pos rfl]
        refine ⟨by rw [a1, or_as], fun j hj => ?_, fun j hj => ?_⟩
        · rw [b_or, Bool.or_eq_true] at hj
          rcases hj with hj | hj
          · exact a2 j hj
          · rw [b_sb hl32 (bt_big hj), decide_eq_true_iff] at hj
            rw [hj]; exact ⟨hlN, hwr⟩
        · rw [b_or, b_sb hl32 (by omega)]
          by_cases z : j = l'
          · rw [z, up_at, up_at, if_neg hwr, decide_eq_true rfl, Bool.or_true, if_pos rfl]
            exact ⟨rfl, fun _ => ⟨d, hd, rfl⟩⟩
          · rw [up_ne (by omega), up_ne z, decide_eq_false z, Bool.or_false]
            exact a3 j hj
      · rw [up_ne q, up_ne q, if_neg q]
        refine ⟨a1, a2, fun j hj => ?_⟩
        rw [up_ne (by omega)]
        exact a3 j hj
    · rw [g57, h75]
      have hs := fb_sm_upd (fun w => pcnt (m 75 w)) (pcnt (m 75 w) + 1) (i := w) (n := 6) hw
      have he : fb_sm (fun v => pcnt (upd (m 75) w (m 75 w ||| sb l') v)) 6 = fb_sm (fun k => if k = w then pcnt (m 75 w) + 1 else pcnt (m 75 k)) 6 := fb_sm_cong (fun v _ => by
        by_cases q : v = w
        · rw [if_pos q, q, up_at, pcnt_new hl32 hnew]
        · rw [if_neg q, up_ne q])
      rw [he]
      congr 1
      omega
  · intro v hv
    by_cases q : v = w
    · subst q
      refine ⟨cc, by omega, by rw [h73, up_at], by rw [g138, up_at], fun j hj => ?_, fun i j hij hj => ?_, fun j hj => ?_⟩
      · rw [g137, fb2 j (by omega), hm1w j hj]
        refine ⟨rfl, ?_⟩
        have hx : ∃ j', j' < cc + 1 ∧ j' ≠ k0 ∧ m (67 + v) j' = rmF (m (67 + v)) k0 j := (rmF_mem hk0).mp ⟨j, by omega, rfl⟩
        obtain ⟨j', x1, x2, x3⟩ := hx
        obtain ⟨-, y, y1, y2, y3, y4⟩ := c3 j' x1
        refine ⟨y, y1, by rw [← x3]; exact y2, ?_, by rw [hm1 30 (by omega)]; exact y4⟩
        rw [h75, up_at, b_or, y3, b_sb hl32 (by omega), Bool.false_or]
        refine decide_eq_false (fun z => x2 ((huniq j' x1).mp (by rw [y2, z])))
      · rw [hm1w i (by omega), hm1w j hj]
        unfold rmF
        split
        · split
          · exact c4 i j hij (by omega)
          · exact c4 i (j + 1) (by omega) (by omega)
        · rw [if_neg (by omega)]
          exact c4 (i + 1) (j + 1) (by omega) (by omega)
      · rw [h74, up_at, b_and, b_not hj, b_sb hl32 hj, Bool.and_eq_true, c5 j hj]
        have hx : (∃ k, k < cc ∧ m1 (67 + v) k = nI j) ↔ ∃ k, k < cc + 1 ∧ k ≠ k0 ∧ m (67 + v) k = nI j := by
          rw [← rmF_mem hk0]
          constructor
          · rintro ⟨k, z1, z2⟩
            exact ⟨k, by omega, by rw [← hm1w k z1]; exact z2⟩
          · rintro ⟨k, z1, z2⟩
            exact ⟨k, by omega, by rw [hm1w k (by omega)]; exact z2⟩
        rw [hx]
        constructor
        · rintro ⟨⟨k, z1, z2⟩, z3⟩
          refine ⟨k, z1, fun z => ?_, z2⟩
          rw [z, ek0] at z2
          have := (nI_eq (by omega) (by omega)).mp z2
          rw [this] at z3
          simp at z3
        · rintro ⟨k, z1, z2, z3⟩
          refine ⟨⟨k, z1, z3⟩, ?_⟩
          have : j ≠ l' := fun z => z2 ((huniq k z1).mp (by rw [z3, z]))
          simp [this]
    · obtain ⟨c', a1, a2, a3, a4, a5, a6⟩ := rh v hv
      refine ⟨c', a1, by rw [h73, up_ne q]; exact a2, by rw [g138, up_ne q]; exact a3, fun j hj => ?_, by rw [hm1r v hv q]; exact a5, by rw [hm1r v hv q, h74, up_ne q]; exact a6⟩
      rw [g137, fb3 _ (by omega), jup_oc (by omega), hm1r v hv q, h75, up_ne q, hm1 30 (by omega)]
      exact a4 j hj
  · unfold RP2
    rw [hm1 89 (by omega), hm1 90 (by omega), hm1 91 (by omega), hM1 109 64 (by omega) (by omega), hM1r 144 (by omega) (by omega), hM1r 145 (by omega) (by omega)]
    exact rp
  · exact RX2_fr ⟨by rw [hm1 1 (by omega)], by rw [hm1 1 (by omega)], by rw [hm1 21 (by omega)], by rw [hm1 21 (by omega)], fun c a b _ => hm1 c (by omega)⟩ ⟨hM1 109 23 (by omega) (by omega), hM1 109 24 (by omega) (by omega), hM1 109 6 (by omega) (by omega), hM1 109 11 (by omega) (by omega), fun c a b => hM1r c (by omega) (by omega)⟩ rx
  · rw [h75, up_at, b_or, b_sb hl32 hl32]
    simp
