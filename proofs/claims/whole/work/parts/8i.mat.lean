/-! matchings and what shows them greatest -/
theorem ct_inj {p : Nat → Bool} {f : Nat → Nat} {M : Nat} : ∀ {N : Nat} {q : Nat → Bool}, (∀ r, r < N → p r = true → f r < M ∧ q (f r) = true) → (∀ r r', r < N → r' < N → p r = true → p r' = true → f r = f r' → r = r') → fb_ct p N ≤ fb_ct q M
  | 0, _, _, _ => Nat.zero_le _
  | N + 1, q, h1, h2 => by
    rw [fb_ct_succ]
    cases hp : p N
    · rw [if_neg (by decide), Nat.add_zero]
      exact ct_inj (fun r hr => h1 r (by omega)) (fun r r' hr hr' => h2 r r' (by omega) (by omega))
    · rw [if_pos rfl]
      obtain ⟨a1, a2⟩ := h1 N (by omega) hp
      have e := fb_ct_upd q false a1
      rw [a2, if_pos rfl, if_neg (by decide), Nat.add_zero] at e
      have := ct_inj (N := N) (q := fun k => if k = f N then false else q k) (fun r hr hr2 => by
        obtain ⟨b1, b2⟩ := h1 r (by omega) hr2
        refine ⟨b1, ?_⟩
        show (if f r = f N then false else q (f r)) = true
        rw [if_neg (fun z => by have := h2 r N (by omega) (by omega) hr2 hp z; omega)]
        exact b2) (fun r r' hr hr' => h2 r r' (by omega) (by omega))
      omega
/-- p matches rights with lefts of X below i -/
def mtOK (E : Nat → Nat → Bool) (X : Nat → Bool) (N i : Nat) (p : Nat → Int32) : Prop := (∀ r, r < N → p r = nM ∨ ∃ l, l < i ∧ X l = true ∧ E l r = true ∧ p r = nI l) ∧ ∀ r r', r < N → r' < N → p r = p r' → ¬ p r = nM → r = r'
def mtN (N : Nat) (p : Nat → Int32) : Nat := fb_ct (fun r => !decide (p r = nM)) N
theorem ct_two {p q s : Nat → Bool} : ∀ {N : Nat}, (∀ k, k < N → p k = true → q k = true ∨ s k = true) → fb_ct p N ≤ fb_ct q N + fb_ct s N
  | 0, _ => Nat.zero_le _
  | N + 1, h => by
    have ih := ct_two (N := N) (fun k hk => h k (by omega))
    rw [fb_ct_succ, fb_ct_succ, fb_ct_succ]
    cases hp : p N
    · rw [if_neg (by decide)]; omega
    · rw [if_pos rfl]
      rcases h N (by omega) hp with z | z <;> rw [z, if_pos rfl] <;> omega
/-- no matching is greater than a cover allows -/
theorem mt_dual {E : Nat → Nat → Bool} {X A R : Nat → Bool} {N i : Nat} {p : Nat → Int32} (hi : i ≤ N) (h30 : N ≤ 30) (h : mtOK E X N i p) (hR : ∀ l r, l < i → r < N → A l = true → E l r = true → R r = true) : mtN N p ≤ fb_ct R N + fb_ct (fun l => X l && !A l) i := by
  have h1 : mtN N p ≤ fb_ct R N + fb_ct (fun r => !decide (p r = nM) && !R r) N := ct_two (fun k hk hp => by
    cases z : R k
    · exact Or.inr (by show (!decide (p k = nM) && !false) = true; rw [Bool.not_false, Bool.and_true]; exact hp)
    · exact Or.inl rfl)
  have h2 : fb_ct (fun r => !decide (p r = nM) && !R r) N ≤ fb_ct (fun l => X l && !A l) i := by
    refine ct_inj (f := fun r => (p r).toNatClampNeg) (fun r hr hp => ?_) (fun r r' hr hr' hp hp' e => ?_)
    · have hp2 : (!decide (p r = nM) && !R r) = true := hp
      rw [Bool.and_eq_true] at hp2
      rcases h.1 r hr with z | ⟨l, hl, hx, he, z⟩
      · rw [z, decide_eq_true rfl] at hp2; exact absurd hp2.1 (by decide)
      · rw [z, nI_clamp (by omega)]
        refine ⟨hl, ?_⟩
        show (X l && !A l) = true
        rw [hx, Bool.true_and]
        cases z2 : A l
        · rfl
        · rw [hR l r hl hr z2 he] at hp2; exact absurd hp2.2 (by decide)
    · have hp2 : (!decide (p r = nM) && !R r) = true := hp
      have hp3 : (!decide (p r' = nM) && !R r') = true := hp'
      rw [Bool.and_eq_true] at hp2 hp3
      rcases h.1 r hr with z | ⟨l, hl, hx, he, z⟩
      · rw [z, decide_eq_true rfl] at hp2; exact absurd hp2.1 (by decide)
      · rcases h.1 r' hr' with z' | ⟨l', hl', hx', he', z'⟩
        · rw [z', decide_eq_true rfl] at hp3; exact absurd hp3.1 (by decide)
        · have e' : (p r).toNatClampNeg = (p r').toNatClampNeg := e
          rw [z, z', nI_clamp (by omega), nI_clamp (by omega)] at e'
          subst e'
          exact h.2 r r' hr hr' (z.trans z'.symm) (fun q => by rw [z, mF1 (by omega)] at q; exact q)
  omega
/-- a matching with a cover as great -/
def mtC (E : Nat → Nat → Bool) (X : Nat → Bool) (N i : Nat) (p : Nat → Int32) : Prop := mtOK E X N i p ∧ ∃ A R : Nat → Bool, (∀ l, A l = true → l < i ∧ X l = true) ∧ (∀ l r, l < i → r < N → A l = true → E l r = true → R r = true) ∧ mtN N p = fb_ct R N + fb_ct (fun l => X l && !A l) i
theorem mt_same {E : Nat → Nat → Bool} {X : Nat → Bool} {N i : Nat} {p p' : Nat → Int32} (hi : i ≤ N) (h30 : N ≤ 30) (h : mtC E X N i p) (h' : mtC E X N i p') : mtN N p = mtN N p' := by
  obtain ⟨a, A, R, b1, b2, b3⟩ := h
  obtain ⟨a', A', R', b1', b2', b3'⟩ := h'
  have := mt_dual hi h30 a b2'
  have := mt_dual hi h30 a' b2
  omega
theorem mtC_skip {E : Nat → Nat → Bool} {X : Nat → Bool} {N i : Nat} {p : Nat → Int32} (h : mtC E X N i p) (hX : X i = false) : mtC E X N (i + 1) p := by
  obtain ⟨a, A, R, b1, b2, b3⟩ := h
  refine ⟨⟨fun r hr => (a.1 r hr).imp id (fun ⟨l, hl, z⟩ => ⟨l, by omega, z⟩), a.2⟩, A, R, fun l hl => ⟨by have := (b1 l hl).1; omega, (b1 l hl).2⟩, fun l r hl hr hA => b2 l r (b1 l hA).1 hr hA, ?_⟩
  rw [fb_ct_succ, hX, Bool.false_and, if_neg (by decide), Nat.add_zero]
  exact b3
theorem mtC_succ {E : Nat → Nat → Bool} {X : Nat → Bool} {N i : Nat} {p p' : Nat → Int32} (h : mtC E X N i p) (hX : X i = true) (h' : mtOK E X N (i + 1) p') (hn : mtN N p' = mtN N p + 1) : mtC E X N (i + 1) p' := by
  obtain ⟨a, A, R, b1, b2, b3⟩ := h
  refine ⟨h', A, R, fun l hl => ⟨by have := (b1 l hl).1; omega, (b1 l hl).2⟩, fun l r hl hr hA => b2 l r (b1 l hA).1 hr hA, ?_⟩
  have hA : A i = false := by
    cases z : A i
    · rfl
    · have := (b1 i z).1; omega
  rw [fb_ct_succ, hX, hA, show (true && !false) = true from rfl, if_pos rfl]
  omega
theorem mtC_fail {E : Nat → Nat → Bool} {X V Z : Nat → Bool} {N i : Nat} {p : Nat → Int32} (hi : i < N) (h30 : N ≤ 30) (h : mtC E X N i p) (hX : X i = true) (hZi : Z i = true) (hZ : ∀ l, Z l = true → l < i + 1 ∧ X l = true) (hV : ∀ l r, r < N → Z l = true → E l r = true → V r = true) (hm : ∀ r, r < N → V r = true → ∃ l, l < i ∧ Z l = true ∧ E l r = true ∧ p r = nI l) : mtC E X N (i + 1) p := by
  obtain ⟨a, A, R, b1, b2, b3⟩ := h
  have hOK : mtOK E X N (i + 1) p := ⟨fun r hr => (a.1 r hr).imp id (fun ⟨l, hl, z⟩ => ⟨l, by omega, z⟩), a.2⟩
  have hcov : ∀ l r, l < i + 1 → r < N → (A l || Z l) = true → E l r = true → (R r || V r) = true := fun l r hl hr hA he => by
    rw [Bool.or_eq_true] at hA ⊢
    rcases hA with hA | hA
    · exact Or.inl (b2 l r (b1 l hA).1 hr hA he)
    · exact Or.inr (hV l r hr hA he)
  have hd := mt_dual (A := fun l => A l || Z l) (R := fun r => R r || V r) (by omega : i + 1 ≤ N) h30 hOK hcov
  refine ⟨hOK, fun l => A l || Z l, fun r => R r || V r, fun l hl => ?_, hcov, ?_⟩
  · have hl' : (A l || Z l) = true := hl
    rw [Bool.or_eq_true] at hl'
    rcases hl' with z | z
    · exact ⟨by have := (b1 l z).1; omega, (b1 l z).2⟩
    · exact hZ l z
  · have h1 : fb_ct (fun r => R r || V r) N ≤ fb_ct R N + fb_ct (fun r => V r && !R r) N := ct_two (fun k hk hp => by
      have hp' : (R k || V k) = true := hp
      cases z : R k
      · rw [z, Bool.false_or] at hp'
        exact Or.inr (by show (V k && !false) = true; rw [hp']; rfl)
      · exact Or.inl rfl)
    have h2 : fb_ct (fun r => V r && !R r) N ≤ fb_ct (fun l => Z l && !A l) i := by
      refine ct_inj (f := fun r => (p r).toNatClampNeg) (fun r hr hp => ?_) (fun r r' hr hr' hp hp' e => ?_)
      · have hp2 : (V r && !R r) = true := hp
        rw [Bool.and_eq_true] at hp2
        obtain ⟨l, hl, hz, he, z⟩ := hm r hr hp2.1
        rw [z, nI_clamp (by omega)]
        refine ⟨hl, ?_⟩
        show (Z l && !A l) = true
        rw [hz, Bool.true_and]
        cases z2 : A l
        · rfl
        · rw [b2 l r hl hr z2 he] at hp2; exact absurd hp2.2 (by decide)
      · have hp2 : (V r && !R r) = true := hp
        have hp3 : (V r' && !R r') = true := hp'
        rw [Bool.and_eq_true] at hp2 hp3
        obtain ⟨l, hl, -, -, z⟩ := hm r hr hp2.1
        obtain ⟨l', hl', -, -, z'⟩ := hm r' hr' hp3.1
        have e' : (p r).toNatClampNeg = (p r').toNatClampNeg := e
        rw [z, z', nI_clamp (by omega), nI_clamp (by omega)] at e'
        subst e'
        exact a.2 r r' hr hr' (z.trans z'.symm) (fun q => by rw [z, mF1 (by omega)] at q; exact q)
    have h3 : fb_ct (fun l => X l && !(A l || Z l)) (i + 1) = fb_ct (fun l => X l && !(A l || Z l)) i := by
      rw [fb_ct_succ, hZi, Bool.or_true, Bool.not_true, Bool.and_false, if_neg (by decide), Nat.add_zero]
    have h4 : fb_ct (fun l => (X l && !(A l || Z l)) || (Z l && !A l)) i = fb_ct (fun l => X l && !(A l || Z l)) i + fb_ct (fun l => Z l && !A l) i := fb_ct_or (fun k hk z => by
      have z1 := z.1
      have z2 := z.2
      rw [Bool.and_eq_true] at z1 z2
      rw [z2.1, Bool.or_true] at z1
      exact absurd z1.2 (by decide))
    have h5 : fb_ct (fun l => (X l && !(A l || Z l)) || (Z l && !A l)) i = fb_ct (fun l => X l && !A l) i := fb_ct_cong (fun k hk => by
      show ((X k && !(A k || Z k)) || (Z k && !A k)) = (X k && !A k)
      cases z : Z k
      · rw [Bool.or_false, Bool.false_and, Bool.or_false]
      · rw [(hZ k z).2, Bool.or_true, Bool.not_true, Bool.and_false, Bool.false_or])
    have hd' : mtN N p ≤ fb_ct (fun r => R r || V r) N + fb_ct (fun l => X l && !(A l || Z l)) (i + 1) := hd
    show mtN N p = fb_ct (fun r => R r || V r) N + fb_ct (fun l => X l && !(A l || Z l)) (i + 1)
    omega
