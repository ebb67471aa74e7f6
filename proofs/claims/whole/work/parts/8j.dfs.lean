/-! the reference's search -/
theorem b_new {W : Int32} {x j : Nat} (hx : x < 32) : bt (W ||| sb x) j = true ↔ bt W j = true ∨ j = x := by
  rw [b_or, Bool.or_eq_true]
  refine ⟨fun h => h.imp id (fun h => ?_), fun h => h.imp id (fun h => ?_)⟩
  · rw [b_sb hx (bt_big h), decide_eq_true_iff] at h; exact h
  · rw [h, b_sb hx hx]; exact decide_eq_true rfl
theorem bf_of {b : Bool} (h : ¬ b = true) : b = false := by cases b; rfl; exact absurd rfl h
theorem bt_no {b : Bool} (h : b = false) (h2 : b = true) : False := by rw [h] at h2; exact absurd h2 (by decide)
theorem nI_no {a : Nat} {x : Int32} (ha : a < 2147483648) (h : x = nI a) (h2 : x = nM) : False := by rw [h, mF1 ha] at h2; exact h2
theorem nI_ij {a b : Nat} (ha : a < 2147483648) (hb : b < 2147483648) (h : nI a = nI b) : a = b := (nI_eq ha hb).mp h
theorem jup_no {M : jMem} {c k c' k' : Nat} {v : Int32} (h : ¬ (c' = c ∧ k' = k)) : jup M c k v c' k' = M c' k' := if_neg h
def egB (X : Int32) (P : Nat → Int32) (l r : Nat) : Bool := bt X r && bt (P r) l
/-- what is known of a search from v that came to an end -/
def srF (X : Int32) (P p : Nat → Int32) (N : Nat) (W W' : Int32) (v : Nat) : Prop := (∀ r, bt W r = true → bt W' r = true) ∧ (∀ r, bt W' r = true → r < N) ∧ (∀ r, r < N → egB X P v r = true → bt W' r = true) ∧ ∀ r, r < N → bt W r = false → bt W' r = true → ∃ l, l < N ∧ p r = nI l ∧ ∀ s, s < N → egB X P l s = true → bt W' s = true
/-- what is known of a search from v that moved others over -/
def srT (X : Int32) (P p p' : Nat → Int32) (N : Nat) (W : Int32) (v : Nat) : Prop := (∀ r, r < N → bt W r = true → p' r = p r) ∧ (∀ r, r < N → p' r = p r ∨ ∃ l, l < N ∧ (l = v ∨ ∃ r', r' < N ∧ bt W r' = false ∧ p r' = nI l) ∧ egB X P l r = true ∧ p' r = nI l) ∧ (∀ a b, a < N → b < N → p' a = p' b → ¬ p' a = nM → a = b ∨ (p' a = nI v ∧ (bt W a = true ∨ bt W b = true))) ∧ mtN N p' = mtN N p + 1
theorem mtN_set {N r : Nat} {p : Nat → Int32} {v : Nat} (hr : r < N) (hv : v < 30) : mtN N (upd p r (nI v)) = mtN N p + (if p r = nM then 1 else 0) := by
  unfold mtN
  have e := fb_ct_upd (fun r => !decide (p r = nM)) true hr
  rw [if_pos rfl] at e
  have e2 : fb_ct (fun k => !decide (upd p r (nI v) k = nM)) N = fb_ct (fun k => if k = r then true else !decide (p k = nM)) N := fb_ct_cong fun k hk => by
    by_cases q : k = r
    · subst q
      rw [up_at, if_pos rfl, decide_eq_false (fun z => by rw [mF1 (by omega)] at z; exact z)]
      rfl
    · rw [up_ne q, if_neg q]
  rw [e2]
  by_cases q : p r = nM
  · have h1 : (!decide (p r = nM)) = false := by rw [decide_eq_true q]; rfl
    rw [h1, if_neg (by decide)] at e
    rw [if_pos q]
    omega
  · have h1 : (!decide (p r = nM)) = true := by rw [decide_eq_false q]; rfl
    rw [h1, if_pos rfl] at e
    rw [if_neg q]
    omega
section SR
variable {X W : Int32} {P p : Nat → Int32} {N v x : Nat}
theorem srT_base (h30 : N ≤ 30) (hv : v < N) (hx : x < N) (he : egB X P v x = true) (hW : bt W x = false) (hp : p x = nM) (hinj : ∀ r r', r < N → r' < N → p r = p r' → ¬ p r = nM → r = r') (hvW : ∀ r, r < N → p r = nI v → bt W r = true) : srT X P p (upd p x (nI v)) N W v := by
  refine ⟨fun r hr h => ?_, fun r hr => ?_, fun a b ha hb e hn => ?_, ?_⟩
  · exact up_ne (fun q => bt_no hW (q ▸ h))
  · by_cases q : r = x
    · subst q; exact Or.inr ⟨v, hv, Or.inl rfl, he, up_at⟩
    · exact Or.inl (up_ne q)
  · by_cases qa : a = x
    · by_cases qb : b = x
      · exact Or.inl (qa.trans qb.symm)
      · subst qa
        rw [up_at, up_ne qb] at e
        exact Or.inr ⟨up_at, Or.inr (hvW b hb e.symm)⟩
    · by_cases qb : b = x
      · subst qb
        rw [up_at, up_ne qa] at e
        exact Or.inr ⟨(up_ne qa).trans e, Or.inl (hvW a ha e)⟩
      · rw [up_ne qa, up_ne qb] at e
        rw [up_ne qa] at hn
        exact Or.inl (hinj a b ha hb e hn)
  · rw [mtN_set hx (by omega), if_pos hp]
theorem srT_rec {W1 : Int32} {u : Nat} {p2 : Nat → Int32} (h30 : N ≤ 30) (hv : v < N) (hu : u < N) (hx : x < N) (he : egB X P v x = true) (hW : bt W x = false) (hp : p x = nI u) (hinj : ∀ r r', r < N → r' < N → p r = p r' → ¬ p r = nM → r = r') (hvW : ∀ r, r < N → p r = nI v → bt W r = true) (hW1 : ∀ r, bt W r = true → bt W1 r = true) (hW1x : bt W1 x = true) (s : srT X P p p2 N W1 u) : srT X P p (upd p2 x (nI v)) N W v := by
  obtain ⟨s1, s2, s3, s4⟩ := s
  have key : ∀ c, c < N → p2 c = nI v → bt W c = true := fun c hc e => by
    rcases s2 c hc with q | ⟨l, hl, q, -, q2⟩
    · exact hvW c hc (q ▸ e)
    · have hlv : l = v := nI_ij (by omega) (by omega) (q2.symm.trans e)
      rcases q with q | ⟨r', hr', q3, q4⟩
      · exact (bt_no hW (hvW x hx (by rw [hp, ← q, hlv]))).elim
      · exact (bt_no q3 (hW1 r' (hvW r' hr' (by rw [q4, hlv])))).elim
  refine ⟨fun r hr h => ?_, fun r hr => ?_, fun a b ha hb e hn => ?_, ?_⟩
  · rw [up_ne (fun q : r = x => bt_no hW (q ▸ h))]
    exact s1 r hr (hW1 r h)
  · by_cases q : r = x
    · subst q; exact Or.inr ⟨v, hv, Or.inl rfl, he, up_at⟩
    · rw [up_ne q]
      refine (s2 r hr).imp id (fun ⟨l, hl, q1, q2, q3⟩ => ⟨l, hl, Or.inr ?_, q2, q3⟩)
      rcases q1 with q1 | ⟨r', hr', q4, q5⟩
      · exact ⟨x, hx, hW, by rw [hp, q1]⟩
      · exact ⟨r', hr', bf_of (fun z => bt_no q4 (hW1 r' z)), q5⟩
  · by_cases qa : a = x
    · by_cases qb : b = x
      · exact Or.inl (qa.trans qb.symm)
      · subst qa
        rw [up_at, up_ne qb] at e
        exact Or.inr ⟨up_at, Or.inr (key b hb e.symm)⟩
    · by_cases qb : b = x
      · subst qb
        rw [up_at, up_ne qa] at e
        exact Or.inr ⟨(up_ne qa).trans e, Or.inl (key a ha e)⟩
      · rw [up_ne qa, up_ne qb] at e
        rw [up_ne qa] at hn
        rcases s3 a b ha hb e hn with z | ⟨z, z2 | z2⟩
        · exact Or.inl z
        · refine absurd (hinj a x ha hx ?_ ?_) qa
          · rw [hp, ← s1 a ha z2, z]
          · rw [← s1 a ha z2]; exact hn
        · refine absurd (hinj b x hb hx ?_ ?_) qb
          · rw [hp, ← s1 b hb z2, ← e, z]
          · rw [← s1 b hb z2, ← e]; exact hn
  · rw [mtN_set hx (by omega), s1 x hx hW1x, if_neg (fun q => nI_no (by omega) hp q), s4]
end SR
def jsP (X : Int32) (P p : Nat → Int32) (N : Nat) (o : Option (Int32 × jMem)) (W : Int32) (v : Nat) : Prop := ∃ m', (o = some (nI 1, m') ∧ srT X P p (m' 142) N W v) ∨ (o = some (nI 0, m') ∧ m' 142 = p ∧ srF X P p N W (m' 109 62) v)
theorem lp_jo {X W : Int32} {P p : Nat → Int32} {N v dd : Nat} (h30 : N ≤ 30) (hv : v < N) (hP : ∀ l, l < N → ∀ j, bt (P l) j = true → j < l) (hp : ∀ r, r < N → p r = nM ∨ ∃ l, l < N ∧ p r = nI l) (hinj : ∀ r r', r < N → r' < N → p r = p r' → ¬ p r = nM → r = r') (hvW : ∀ r, r < N → p r = nI v → bt W r = true) (hdd : N ≤ dd + pcnt W) (ihd : ∀ (W1 : Int32) (u : Nat) (m : jMem), u < N → (∀ r, r < N → p r = nI u → bt W1 r = true) → (∀ j, bt W1 j = true → j < N) → N + 1 ≤ dd + pcnt W1 → m 109 33 = nI N → m 128 = P → m 142 = p → m 109 62 = W1 → jsP X P p N (f_M_joins dd (nI u) X m) W1 u) : ∀ (d n x : Nat) (Wc : Int32) (m : jMem), x + d = N → d < n → m 109 33 = nI N → m 128 = P → m 142 = p → m 109 62 = Wc → (∀ r, bt W r = true → bt Wc r = true) → (∀ r, bt Wc r = true → r < N) → (∀ r, r < x → egB X P v r = true → bt Wc r = true) → (∀ r, r < N → bt W r = false → bt Wc r = true → ∃ l, l < N ∧ p r = nI l ∧ ∀ s, s < N → egB X P l s = true → bt Wc s = true) → jsP X P p N (lp_M_joins_4 (f_M_joins dd) (nI v) X (fun w9 m8 => jst 1 m8 142 w9 (nI v) fun m10 => some (nI 1, m10)) (fun m11 => some (nI 0, m11)) n (nI x) m) W v := by
  intro d
  induction d with
  | zero =>
    intro n x Wc m hx hn hN h128 h142 hWc h1 h2 h3 h4
    obtain ⟨n, rfl⟩ := ex_succ hn
    unfold lp_M_joins_4
    refine ⟨m, Or.inr ⟨?_, h142, ?_⟩⟩
    · simp (disch := omega) only [lits, negs, nI_add, nn1, leT, leF, ltT, ltF, eqF, mF1, mF2, mF3, mF4, mF5, mF6, mTT, eq_self, Nat.reduceEqDiff, ↓reduceIte, jbd_s, jpu_e, tI0, tI1, jgd_tI, jgd_bb, tfF, ftF, jup_at, jup_oc, jup_ok, hN]
    · rw [hWc]
      exact ⟨h1, h2, fun r hr => h3 r (by omega), h4⟩
  | succ d ih =>
    intro n x Wc m hx hn hN h128 h142 hWc h1 h2 h3 h4
    obtain ⟨n, rfl⟩ := ex_succ hn
    have ih2 := ih n (x + 1) Wc m (by omega) (by omega) hN h128 h142 hWc h1 h2
    unfold lp_M_joins_4
    cases hX : bt X x
    · have e := ih2 (fun r hr he => by
        rcases Nat.lt_or_ge r x with q | q
        · exact h3 r q he
        · rw [show r = x by omega] at he; unfold egB at he; rw [hX, Bool.false_and] at he; exact absurd he Bool.false_ne_true) h4
      simp (disch := omega) only [lits, negs, nI_add, nn1, leT, leF, ltT, ltF, eqF, mF1, mF2, mF3, mF4, mF5, mF6, mTT, eq_self, Nat.reduceEqDiff, ↓reduceIte, jbd_s, jpu_e, tI0, tI1, jgd_tI, jgd_bb, tfF, ftF, jup_at, jup_oc, jup_ok, hN, bit0, hX]
      exact e
    · cases hB : bt (P x) v
      · have e := ih2 (fun r hr he => by
          rcases Nat.lt_or_ge r x with q | q
          · exact h3 r q he
          · rw [show r = x by omega] at he; unfold egB at he; rw [hB, Bool.and_false] at he; exact absurd he (by decide)) h4
        simp (disch := omega) only [lits, negs, nI_add, nn1, leT, leF, ltT, ltF, eqF, mF1, mF2, mF3, mF4, mF5, mF6, mTT, eq_self, Nat.reduceEqDiff, ↓reduceIte, jbd_s, jpu_e, tI0, tI1, jgd_tI, jgd_bb, tfF, ftF, jup_at, jup_oc, jup_ok, hN, bit0, hX, e_MisBefore, h128, hB]
        exact e
      · have he : egB X P v x = true := by unfold egB; rw [hX, hB]; rfl
        cases hS : bt Wc x
        · have hWx : bt W x = false := bf_of (fun z => bt_no hS (h1 x z))
          rcases hp x (by omega) with hpx | ⟨u, hu, hpx⟩
          · refine ⟨jup (jup m 109 62 (Wc ||| sb x)) 142 x (nI v), Or.inl ⟨?_, ?_⟩⟩
            · simp (disch := omega) only [lits, negs, nI_add, nn1, leT, leF, ltT, ltF, eqF, mF1, mF2, mF3, mF4, mF5, mF6, mTT, eq_self, Nat.reduceEqDiff, ↓reduceIte, jbd_s, jpu_e, tI0, tI1, jgd_tI, jgd_bb, tfF, ftF, jup_at, jup_oc, jup_ok, hN, bit0, hX, e_MisBefore, h128, hB, hWc, bit1, hS, sb_e, ld_142, h142, hpx, st_142]
            · rw [show jup (jup m 109 62 (Wc ||| sb x)) 142 x (nI v) 142 = upd p x (nI v) by rw [jup_row, jup_oc (by omega), h142]]
              exact srT_base h30 hv (by omega) he hWx hpx hinj hvW
          · have hsub : pcnt W ≤ pcnt Wc := fb_ct_sub (fun k _ z => h1 k z)
            have hadd := pcnt_add (x := Wc) (l := x) (by omega) hS
            obtain ⟨m7, r⟩ := ihd (Wc ||| sb x) u (jup m 109 62 (Wc ||| sb x)) hu (fun r hr e => by
              rw [b_new (by omega)]
              exact Or.inr (hinj r x hr (by omega) (e.trans hpx.symm) (fun q => nI_no (by omega) e q))) (fun j hj => by
              rw [b_new (by omega)] at hj
              rcases hj with hj | hj
              · exact h2 j hj
              · omega) (by omega) (by rw [jup_ok (by omega)]; exact hN) (by rw [jup_oc (by omega)]; exact h128) (by rw [jup_oc (by omega)]; exact h142) jup_at
            rcases r with ⟨r1, r2⟩ | ⟨r1, r2, r3⟩
            · refine ⟨jup m7 142 x (nI v), Or.inl ⟨?_, ?_⟩⟩
              · simp (disch := omega) only [lits, negs, nI_add, nn1, leT, leF, ltT, ltF, eqF, mF1, mF2, mF3, mF4, mF5, mF6, mTT, eq_self, Nat.reduceEqDiff, ↓reduceIte, jbd_s, jpu_e, tI0, tI1, jgd_tI, jgd_bb, tfF, ftF, jup_at, jup_oc, jup_ok, hN, bit0, hX, e_MisBefore, h128, hB, hWc, bit1, hS, sb_e, ld_142, h142, hpx, st_142, r1]
              · rw [show jup m7 142 x (nI v) 142 = upd (m7 142) x (nI v) by rw [jup_row]]
                exact srT_rec h30 hv hu (by omega) he hWx hpx hinj hvW (fun r hr => (b_new (by omega)).mpr (Or.inl (h1 r hr))) ((b_new (by omega)).mpr (Or.inr rfl)) r2
            · have fr : jfr W_M_joins (jup m 109 62 (Wc ||| sb x)) m7 := fr_M_joins dd r1
              obtain ⟨t1, t2, t3, t4⟩ := r3
              have hsb : ∀ r, bt Wc r = true → bt (m7 109 62) r = true := fun r hr => t1 r ((b_new (by omega)).mpr (Or.inl hr))
              have e := ih n (x + 1) (m7 109 62) m7 (by omega) (by omega) (by rw [fr 109 33 rfl, jup_ok (by omega)]; exact hN) (by
                  funext k
                  rw [fr 128 k rfl, jup_oc (by omega), h128]) r2 rfl (fun r hr => hsb r (h1 r hr)) t2 (fun r hr he2 => by
                rcases Nat.lt_or_ge r x with q | q
                · exact hsb r (h3 r q he2)
                · rw [show r = x by omega]; exact t1 x ((b_new (by omega)).mpr (Or.inr rfl))) (fun r hr hrW hr7 => by
                cases q : bt (Wc ||| sb x) r
                · exact t4 r hr q hr7
                · rcases (b_new (by omega)).mp q with q | q
                  · obtain ⟨l, hl, l1, l2⟩ := h4 r hr hrW q
                    exact ⟨l, hl, l1, fun s hs hes => hsb s (l2 s hs hes)⟩
                  · rw [q]
                    exact ⟨u, hu, hpx, t3⟩)
              simp (disch := omega) only [lits, negs, nI_add, nn1, leT, leF, ltT, ltF, eqF, mF1, mF2, mF3, mF4, mF5, mF6, mTT, eq_self, Nat.reduceEqDiff, ↓reduceIte, jbd_s, jpu_e, tI0, tI1, jgd_tI, jgd_bb, tfF, ftF, jup_at, jup_oc, jup_ok, hN, bit0, hX, e_MisBefore, h128, hB, hWc, bit1, hS, sb_e, ld_142, h142, hpx, st_142, r1]
              exact e
        · have e := ih2 (fun r hr he2 => by
            rcases Nat.lt_or_ge r x with q | q
            · exact h3 r q he2
            · rw [show r = x by omega]; exact hS) h4
          simp (disch := omega) only [lits, negs, nI_add, nn1, leT, leF, ltT, ltF, eqF, mF1, mF2, mF3, mF4, mF5, mF6, mTT, eq_self, Nat.reduceEqDiff, ↓reduceIte, jbd_s, jpu_e, tI0, tI1, jgd_tI, jgd_bb, tfF, ftF, jup_at, jup_oc, jup_ok, hN, bit0, hX, e_MisBefore, h128, hB, hWc, bit1, hS]
          exact e
theorem e_joins {X : Int32} {P p : Nat → Int32} {N : Nat} (h30 : N ≤ 30) (hP : ∀ l, l < N → ∀ j, bt (P l) j = true → j < l) (hp : ∀ r, r < N → p r = nM ∨ ∃ l, l < N ∧ p r = nI l) (hinj : ∀ r r', r < N → r' < N → p r = p r' → ¬ p r = nM → r = r') : ∀ (dd : Nat) (W : Int32) (v : Nat) (m : jMem), v < N → (∀ r, r < N → p r = nI v → bt W r = true) → (∀ j, bt W j = true → j < N) → N + 1 ≤ dd + pcnt W → m 109 33 = nI N → m 128 = P → m 142 = p → m 109 62 = W → jsP X P p N (f_M_joins dd (nI v) X m) W v := by
  intro dd
  induction dd with
  | zero =>
    intro W v m hv hvW hW hdd
    have := pcnt_lim hW (by omega)
    omega
  | succ dd ih =>
    intro W v m hv hvW hW hdd hN h128 h142 h62
    have e := lp_jo h30 hv hP hp hinj hvW (by omega) (fun W1 u m hu a b c => ih W1 u m hu a b c) (N - (v + 1)) 5000 (v + 1) W m (by omega) (by omega) hN h128 h142 h62 (fun r h => h) hW (fun r hr he => by
      unfold egB at he
      rw [Bool.and_eq_true] at he
      have := hP r (by omega) v he.2
      omega) (fun r hr a b => (bt_no a b).elim)
    unfold f_M_joins
    simp only [lits, negs, nI_add]
    exact e
