/-! the copies of a day -/
theorem Rel2_put {N C : Nat} {m m' M M' : jMem} (e : ∀ c, c ≠ 1 → c ≠ 64 → (c < 67 ∨ 74 < c) → m' c = m c) (e11 : m' 1 1 = m 1 1) (e12 : m' 1 2 = m 1 2) (e13 : m' 1 3 = m 1 3) (g : ∀ c, c ≠ 109 → c ≠ 134 → c ≠ 137 → c ≠ 138 → M' c = M c) (g9 : ∀ k, k ≠ 0 → k ≠ 31 → M' 109 k = M 109 k) (rd : RD2 m' M') (rc : RC2 N C m' M') (rh : RH2 N m' M') (r : Rel2 N C m M) : Rel2 N C m' M' := by
  obtain ⟨r1, r2, r3, -, r5, r6, -, r8, -, r10, r11⟩ := r
  refine ⟨?_, ?_, ?_, rd, ?_, ?_, rc, ?_, rh, ?_, ?_⟩
  · obtain ⟨a1, a2, a3, a4, a5, a6, a7⟩ := r1
    refine ⟨a1, by rw [e 29 (by omega) (by omega) (by omega)]; exact a2, by rw [g9 33 (by omega) (by omega)]; exact a3, ?_, fun l hl => RLl_cong (fun c _ _ => e c (by omega) (by omega) (by omega)) (a5 l hl), ?_, ?_⟩
    · rw [e 30 (by omega) (by omega) (by omega), e 31 (by omega) (by omega) (by omega), e 32 (by omega) (by omega) (by omega), e 33 (by omega) (by omega) (by omega), e 34 (by omega) (by omega) (by omega), e 35 (by omega) (by omega) (by omega), e 36 (by omega) (by omega) (by omega), e 37 (by omega) (by omega) (by omega), g 121 (by omega) (by omega) (by omega) (by omega), g 122 (by omega) (by omega) (by omega) (by omega), g 123 (by omega) (by omega) (by omega) (by omega), g 124 (by omega) (by omega) (by omega) (by omega), g 125 (by omega) (by omega) (by omega) (by omega), g 126 (by omega) (by omega) (by omega) (by omega), g 127 (by omega) (by omega) (by omega) (by omega), g 128 (by omega) (by omega) (by omega) (by omega)]
      exact a4
    · rw [e 42 (by omega) (by omega) (by omega), e 30 (by omega) (by omega) (by omega)]; exact a6
    · rw [e 43 (by omega) (by omega) (by omega), e 33 (by omega) (by omega) (by omega)]; exact a7
  · unfold RB2
    rw [e 29 (by omega) (by omega) (by omega), g9 43 (by omega) (by omega), g 129 (by omega) (by omega) (by omega) (by omega)]
    exact r2
  · unfold RT2
    rw [e11, e 2 (by omega) (by omega) (by omega), g9 2 (by omega) (by omega), g 110 (by omega) (by omega) (by omega) (by omega)]
    exact r3
  · obtain ⟨W, w1, w2⟩ := r5
    refine ⟨W, fun a ha b hb => ?_, w2⟩
    rw [e (47 + a) (by omega) (by omega) (by omega), e (54 + a) (by omega) (by omega) (by omega), g 120 (by omega) (by omega) (by omega) (by omega)]
    exact w1 a ha b hb
  · unfold RS2
    rw [e 45 (by omega) (by omega) (by omega), g9 50 (by omega) (by omega), g9 51 (by omega) (by omega), g9 52 (by omega) (by omega)]
    exact r6
  · obtain ⟨k1, k2⟩ := r8
    refine ⟨fun w hw => ?_, by rw [e 75 (by omega) (by omega) (by omega), g9 57 (by omega) (by omega)]; exact k2⟩
    unfold RKw2
    rw [e 42 (by omega) (by omega) (by omega), e 75 (by omega) (by omega) (by omega), e 30 (by omega) (by omega) (by omega), e 31 (by omega) (by omega) (by omega), e (77 + w) (by omega) (by omega) (by omega), g 135 (by omega) (by omega) (by omega) (by omega), g 136 (by omega) (by omega) (by omega) (by omega)]
    exact k1 w hw
  · unfold RP2
    rw [e 89 (by omega) (by omega) (by omega), e 90 (by omega) (by omega) (by omega), e 91 (by omega) (by omega) (by omega), g9 64 (by omega) (by omega), g 144 (by omega) (by omega) (by omega) (by omega), g 145 (by omega) (by omega) (by omega) (by omega)]
    exact r10
  · exact RX2_fr ⟨e12, e13, by rw [e 21 (by omega) (by omega) (by omega)], by rw [e 21 (by omega) (by omega) (by omega)], fun c _ _ _ => e c (by omega) (by omega) (by omega)⟩ ⟨g9 23 (by omega) (by omega), g9 24 (by omega) (by omega), g9 6 (by omega) (by omega), g9 11 (by omega) (by omega), fun c _ _ => g c (by omega) (by omega) (by omega) (by omega)⟩ r11
/-- a copy has come -/
theorem RC2_come {N C i : Nat} {m M : jMem} (rc : RC2 N C m M) : RC2 N C (jup m 64 i (nI 1)) (jup M 134 i (nI 1)) := by
  obtain ⟨c1, c2, c3, ⟨c4, c5, c6, c7, c8⟩, c9⟩ := rc
  have e : ∀ c, c ≠ 64 → jup m 64 i (nI 1) c = m c := fun c h => jup_oc h
  have g : ∀ c, c ≠ 134 → jup M 134 i (nI 1) c = M c := fun c h => jup_oc h
  refine ⟨c1, by rw [e 45 (by omega)]; exact c2, by rw [g 109 (by omega)]; exact c3, ⟨by rw [e 60 (by omega), g 130 (by omega)]; exact c4, by rw [e 61 (by omega), g 131 (by omega)]; exact c5, by rw [e 62 (by omega), g 132 (by omega)]; exact c6, by rw [e 63 (by omega), g 133 (by omega)]; exact c7, ?_⟩, fun c hc => ?_⟩
  · rw [jup_row, jup_row, c8]
  · obtain ⟨d1, d2, d3, d4, d5⟩ := c9 c hc
    rw [e 60 (by omega), e 61 (by omega), e 62 (by omega), e 63 (by omega)]
    refine ⟨d1, d2, d3, d4, ?_⟩
    by_cases q : c = i
    · rw [q, jup_at]; exact ⟨1, by omega, rfl⟩
    · rw [jup_ok q]; exact d5
theorem Rel2_come {N C i : Nat} {m M : jMem} (r : Rel2 N C m M) : Rel2 N C (jup m 64 i (nI 1)) (jup M 134 i (nI 1)) := by
  have e : ∀ c, c ≠ 64 → jup m 64 i (nI 1) c = m c := fun c h => jup_oc h
  have g : ∀ c, c ≠ 134 → jup M 134 i (nI 1) c = M c := fun c h => jup_oc h
  refine Rel2_put (fun c _ h _ => e c h) (by rw [e 1 (by omega)]) (by rw [e 1 (by omega)]) (by rw [e 1 (by omega)]) (fun c _ h _ _ => g c h) (fun k _ _ => by rw [g 109 (by omega)]) ?_ (RC2_come r.2.2.2.2.2.2.1) ?_ r
  · unfold RD2
    rw [e 1 (by omega), g 109 (by omega)]
    exact r.2.2.2.1
  · intro w hw
    have := r.2.2.2.2.2.2.2.2.1 w hw
    unfold RHw2 at this ⊢
    rw [e 73 (by omega), e 74 (by omega), e 75 (by omega), e 30 (by omega), e (67 + w) (by omega), g 137 (by omega), g 138 (by omega)]
    exact this
/-- a letter is put on a desk -/
def putC (m : jMem) (t c l : Nat) : jMem := jup (jup (jup m (67 + t) c (nI l)) 73 t (nI (c + 1))) 74 t (m 74 t ||| sb l)
def putM (M : jMem) (t c l : Nat) : jMem := jup (jup M 137 (30 * t + c) (nI l)) 138 t (nI (c + 1))
theorem RH_less {N w l c : Nat} {m M : jMem} (h30 : N ≤ 30) (rh : RHw2 N m M w) (hl : l < N) (hb : bt (m 74 w) l = false) (hc : m 73 w = nI c) (hcn : c ≤ 30) : c + 1 ≤ N := by
  obtain ⟨c', hc', c0, c1, c2, c3, c4⟩ := rh
  have ec : c' = c := (nI_eq (by omega) (by omega)).mp (c0.symm.trans hc)
  subst ec
  have hcl : ∀ k, k < c' → (m (67 + w) k).toNatClampNeg < N ∧ m (67 + w) k = nI ((m (67 + w) k).toNatClampNeg) := fun k hk => by
    obtain ⟨-, l, hl, el, -⟩ := c2 k hk
    rw [el, nI_clamp (by omega)]
    exact ⟨hl, rfl⟩
  refine pig (c' + 1) N (fun k => if k = c' then l else (m (67 + w) k).toNatClampNeg) (fun k hk => ?_) (fun i j hi hj e => ?_)
  · show (if k = c' then l else _) < N
    by_cases q : k = c'
    · rw [if_pos q]; exact hl
    · rw [if_neg q]; exact (hcl k (by omega)).1
  · have e' : (if i = c' then l else (m (67 + w) i).toNatClampNeg) = (if j = c' then l else (m (67 + w) j).toNatClampNeg) := e
    rw [if_neg (by omega)] at e'
    by_cases q : j = c'
    · rw [if_pos q] at e'
      have := (c4 l (by omega)).mpr ⟨i, by omega, by rw [(hcl i (by omega)).2, e']⟩
      rw [hb] at this
      exact absurd this (by decide)
    · rw [if_neg q] at e'
      exact c3 i j hi (by omega) (by rw [(hcl i (by omega)).2, (hcl j (by omega)).2, e'])
theorem RH2_put {N t l c : Nat} {m M : jMem} (h30 : N ≤ 30) (rh : RH2 N m M) (ht : t < 6) (hl : l < N) (hc : m 73 t = nI c) (hcn : c + 1 ≤ N) (hb : bt (m 74 t) l = false) (h75 : bt (m 75 t) l = false) (h3 : ¬ m 30 l = nI t) : RH2 N (putC m t c l) (putM M t c l) := by
  have e73 : ∀ w, putC m t c l 73 w = if w = t then nI (c + 1) else m 73 w := fun w => by
    show jup _ _ _ _ 73 w = _
    rw [jup_oc (by omega)]
    by_cases q : w = t
    · rw [q, jup_at, if_pos rfl]
    · rw [jup_ok q, jup_oc (by omega), if_neg q]
  have e74 : ∀ w, putC m t c l 74 w = if w = t then m 74 t ||| sb l else m 74 w := fun w => by
    show jup _ _ _ _ 74 w = _
    by_cases q : w = t
    · rw [q, jup_at, if_pos rfl]
    · rw [jup_ok q, jup_oc (by omega), jup_oc (by omega), if_neg q]
  have eo : ∀ x, x ≠ 73 → x ≠ 74 → x ≠ 67 + t → putC m t c l x = m x := fun x a b d => by
    show jup _ _ _ _ x = _
    rw [jup_oc b, jup_oc a, jup_oc d]
  have er : ∀ w k, w < 6 → putC m t c l (67 + w) k = if w = t ∧ k = c then nI l else m (67 + w) k := fun w k hw => by
    show jup _ _ _ _ (67 + w) k = _
    rw [jup_oc (by omega), jup_oc (by omega)]
    by_cases q : w = t
    · subst q
      by_cases q2 : k = c
      · rw [q2, jup_at, if_pos ⟨rfl, rfl⟩]
      · rw [jup_ok q2, if_neg (fun z => q2 z.2)]
    · rw [jup_oc (by omega), if_neg (fun z => q z.1)]
  have g8 : ∀ w, putM M t c l 138 w = if w = t then nI (c + 1) else M 138 w := fun w => by
    show jup _ _ _ _ 138 w = _
    by_cases q : w = t
    · rw [q, jup_at, if_pos rfl]
    · rw [jup_ok q, jup_oc (by omega), if_neg q]
  have g7 : ∀ k, putM M t c l 137 k = if k = 30 * t + c then nI l else M 137 k := fun k => by
    show jup _ _ _ _ 137 k = _
    rw [jup_oc (by omega)]
    by_cases q : k = 30 * t + c
    · rw [q, jup_at, if_pos rfl]
    · rw [jup_ok q, if_neg q]
  intro w hw
  obtain ⟨c', hc', c0, c1, c2, c3, c4⟩ := rh w hw
  by_cases q : w = t
  · subst q
    have ec : c' = c := (nI_eq (by omega) (by omega)).mp (c0.symm.trans hc)
    subst ec
    refine ⟨c' + 1, hcn, by rw [e73, if_pos rfl], by rw [g8, if_pos rfl], fun k hk => ?_, fun i j hi hj e => ?_, fun j hj => ?_⟩
    · rw [er w k hw, g7, eo 75 (by omega) (by omega) (by omega), eo 30 (by omega) (by omega) (by omega)]
      by_cases q2 : k = c'
      · rw [if_pos (by omega : 30 * w + k = 30 * w + c'), if_pos ⟨rfl, q2⟩]
        exact ⟨rfl, l, hl, rfl, h75, h3⟩
      · rw [if_neg (by omega : ¬ 30 * w + k = 30 * w + c'), if_neg (fun z => q2 z.2)]
        exact c2 k (by omega)
    · rw [er w i hw, er w j hw, if_neg (fun z => by omega)] at e
      by_cases q2 : j = c'
      · rw [if_pos ⟨rfl, q2⟩] at e
        have := (c4 l (by omega)).mpr ⟨i, by omega, e⟩
        rw [hb] at this
        exact absurd this (by decide)
      · rw [if_neg (fun z => q2 z.2)] at e
        exact c3 i j hi (by omega) e
    · rw [e74, if_pos rfl, b_or, b_sb (by omega) hj, Bool.or_eq_true, decide_eq_true_iff, c4 j hj]
      constructor
      · rintro (⟨k, hk, ek⟩ | h)
        · exact ⟨k, by omega, by rw [er w k hw, if_neg (fun z => by omega)]; exact ek⟩
        · exact ⟨c', by omega, by rw [er w c' hw, if_pos ⟨rfl, rfl⟩, h]⟩
      · rintro ⟨k, hk, ek⟩
        rw [er w k hw] at ek
        by_cases q2 : k = c'
        · rw [if_pos ⟨rfl, q2⟩] at ek
          exact Or.inr ((nI_eq (by omega) (by omega)).mp ek).symm
        · rw [if_neg (fun z => q2 z.2)] at ek
          exact Or.inl ⟨k, by omega, ek⟩
  · refine ⟨c', hc', by rw [e73, if_neg q]; exact c0, by rw [g8, if_neg q]; exact c1, fun k hk => ?_, fun i j hi hj e => ?_, fun j hj => ?_⟩
    · rw [er w k hw, if_neg (fun z => q z.1), g7, if_neg (by omega), eo 75 (by omega) (by omega) (by omega), eo 30 (by omega) (by omega) (by omega)]
      exact c2 k hk
    · rw [er w i hw, er w j hw, if_neg (fun z => q z.1), if_neg (fun z => q z.1)] at e
      exact c3 i j hi hj e
    · rw [e74, if_neg q, c4 j hj]
      constructor
      · rintro ⟨k, hk, ek⟩
        exact ⟨k, hk, by rw [er w k hw, if_neg (fun z => q z.1)]; exact ek⟩
      · rintro ⟨k, hk, ek⟩
        rw [er w k hw, if_neg (fun z => q z.1)] at ek
        exact ⟨k, hk, ek⟩
theorem Rel2_putd {N C t l c : Nat} {m M : jMem} (r : Rel2 N C m M) (ht : t < 6) (hl : l < N) (hc : m 73 t = nI c) (hcn : c + 1 ≤ N) (hb : bt (m 74 t) l = false) (h75 : bt (m 75 t) l = false) (h3 : ¬ m 30 l = nI t) : Rel2 N C (putC m t c l) (putM M t c l) := by
  have e : ∀ x, x ≠ 73 → x ≠ 74 → x ≠ 67 + t → putC m t c l x = m x := fun x a b d => by
    show jup _ _ _ _ x = _
    rw [jup_oc b, jup_oc a, jup_oc d]
  have g : ∀ x, x ≠ 137 → x ≠ 138 → putM M t c l x = M x := fun x a b => by
    show jup _ _ _ _ x = _
    rw [jup_oc b, jup_oc a]
  refine Rel2_put (fun c _ _ h => e c (by omega) (by omega) (by omega)) (by rw [e 1 (by omega) (by omega) (by omega)]) (by rw [e 1 (by omega) (by omega) (by omega)]) (by rw [e 1 (by omega) (by omega) (by omega)]) (fun c _ _ h1 h2 => g c h1 h2) (fun k _ _ => by rw [g 109 (by omega) (by omega)]) ?_ ?_ (RH2_put r.1.1 r.2.2.2.2.2.2.2.2.1 ht hl hc hcn hb h75 h3) r
  · unfold RD2
    rw [e 1 (by omega) (by omega) (by omega), g 109 (by omega) (by omega)]
    exact r.2.2.2.1
  · unfold RC2
    rw [e 45 (by omega) (by omega) (by omega), e 60 (by omega) (by omega) (by omega), e 61 (by omega) (by omega) (by omega), e 62 (by omega) (by omega) (by omega), e 63 (by omega) (by omega) (by omega), e 64 (by omega) (by omega) (by omega), g 109 (by omega) (by omega), g 130 (by omega) (by omega), g 131 (by omega) (by omega), g 132 (by omega) (by omega), g 133 (by omega) (by omega), g 134 (by omega) (by omega)]
    exact r.2.2.2.2.2.2.1
