/-! the class's search: the path is turned -/
section MV
variable {X : Int32} {P q : Nat → Int32} {N i : Nat}
/-- rights and lefts tell each other alike -/
def mvC (N : Nat) (p x : Nat → Int32) : Prop := (∀ r a, r < N → a < N → (p r = nI a ↔ x a = nI r)) ∧ ∀ a, a < N → x a = nM ∨ ∃ r, r < N ∧ x a = nI r
/-- halfway along the path: right c stands open -/
def mvI (X : Int32) (P q f x0 : Nat → Int32) (N i base : Nat) (p x : Nat → Int32) (c j : Nat) : Prop := (c < N) ∧ (∀ r a, r < N → ¬ r = c → a < N → (p r = nI a ↔ x a = nI r)) ∧ (∀ a, a < N → ¬ x a = nI c) ∧ (∀ r, r < N → ¬ r = c → p r = nM ∨ ∃ a, a < i + 1 ∧ bt X a = true ∧ egB X P a r = true ∧ p r = nI a) ∧ (∀ a, a < N → x a = nM ∨ ∃ r, r < N ∧ x a = nI r) ∧ (mtN N p + (if p c = nM then 1 else 0) = base + 1) ∧ (∃ a, a < i + 1 ∧ bt X a = true ∧ egB X P a c = true ∧ f c = nI a ∧ q j = nI a) ∧ (∀ j', j' ≤ j → ∀ a, a < N → q j' = nI a → x a = x0 a)
theorem mvI.cN {X : Int32} {P q f x0 : Nat → Int32} {N i base : Nat} {p x : Nat → Int32} {c j : Nat} (h : mvI X P q f x0 N i base p x c j) : c < N := h.1
theorem mvI.at1 {X : Int32} {P q f x0 : Nat → Int32} {N i base : Nat} {p x : Nat → Int32} {c j : Nat} (h : mvI X P q f x0 N i base p x c j) : ∀ r a, r < N → ¬ r = c → a < N → (p r = nI a ↔ x a = nI r) := h.2.1
theorem mvI.at2 {X : Int32} {P q f x0 : Nat → Int32} {N i base : Nat} {p x : Nat → Int32} {c j : Nat} (h : mvI X P q f x0 N i base p x c j) : ∀ a, a < N → ¬ x a = nI c := h.2.2.1
theorem mvI.at3 {X : Int32} {P q f x0 : Nat → Int32} {N i base : Nat} {p x : Nat → Int32} {c j : Nat} (h : mvI X P q f x0 N i base p x c j) : ∀ r, r < N → ¬ r = c → p r = nM ∨ ∃ a, a < i + 1 ∧ bt X a = true ∧ egB X P a r = true ∧ p r = nI a := h.2.2.2.1
theorem mvI.at4 {X : Int32} {P q f x0 : Nat → Int32} {N i base : Nat} {p x : Nat → Int32} {c j : Nat} (h : mvI X P q f x0 N i base p x c j) : ∀ a, a < N → x a = nM ∨ ∃ r, r < N ∧ x a = nI r := h.2.2.2.2.1
theorem mvI.at5 {X : Int32} {P q f x0 : Nat → Int32} {N i base : Nat} {p x : Nat → Int32} {c j : Nat} (h : mvI X P q f x0 N i base p x c j) : mtN N p + (if p c = nM then 1 else 0) = base + 1 := h.2.2.2.2.2.1
theorem mvI.at6 {X : Int32} {P q f x0 : Nat → Int32} {N i base : Nat} {p x : Nat → Int32} {c j : Nat} (h : mvI X P q f x0 N i base p x c j) : ∃ a, a < i + 1 ∧ bt X a = true ∧ egB X P a c = true ∧ f c = nI a ∧ q j = nI a := h.2.2.2.2.2.2.1
theorem mvI.at7 {X : Int32} {P q f x0 : Nat → Int32} {N i base : Nat} {p x : Nat → Int32} {c j : Nat} (h : mvI X P q f x0 N i base p x c j) : ∀ j', j' ≤ j → ∀ a, a < N → q j' = nI a → x a = x0 a := h.2.2.2.2.2.2.2
/-- what the search found on its way: the queue q, w of them, for each reached right whence -/
def bfQ (X : Int32) (P p q f : Nat → Int32) (N i w : Nat) (R : Int32) : Prop := (q 0 = nI i) ∧ (∀ j, 0 < j → j < w → ∃ r, r < N ∧ bt R r = true ∧ p r = q j) ∧ (∀ r, bt R r = true → r < N ∧ ∃ j, 0 < j ∧ j < w ∧ p r = q j ∧ ∃ j', j' < j ∧ f r = q j') ∧ (∀ r, bt R r = true → ∃ a, a < i + 1 ∧ bt X a = true ∧ f r = nI a ∧ egB X P a r = true) ∧ (∀ j j', j < j' → j' < w → ¬ q j = q j') ∧ (w = 1 + pcnt R)
theorem bfQ.q0 {X : Int32} {P p q f : Nat → Int32} {N i w : Nat} {R : Int32} (h : bfQ X P p q f N i w R) : q 0 = nI i := h.1
theorem bfQ.qr {X : Int32} {P p q f : Nat → Int32} {N i w : Nat} {R : Int32} (h : bfQ X P p q f N i w R) : ∀ j, 0 < j → j < w → ∃ r, r < N ∧ bt R r = true ∧ p r = q j := h.2.1
theorem bfQ.rq {X : Int32} {P p q f : Nat → Int32} {N i w : Nat} {R : Int32} (h : bfQ X P p q f N i w R) : ∀ r, bt R r = true → r < N ∧ ∃ j, 0 < j ∧ j < w ∧ p r = q j ∧ ∃ j', j' < j ∧ f r = q j' := h.2.2.1
theorem bfQ.re {X : Int32} {P p q f : Nat → Int32} {N i w : Nat} {R : Int32} (h : bfQ X P p q f N i w R) : ∀ r, bt R r = true → ∃ a, a < i + 1 ∧ bt X a = true ∧ f r = nI a ∧ egB X P a r = true := h.2.2.2.1
theorem bfQ.qi {X : Int32} {P p q f : Nat → Int32} {N i w : Nat} {R : Int32} (h : bfQ X P p q f N i w R) : ∀ j j', j < j' → j' < w → ¬ q j = q j' := h.2.2.2.2.1
theorem bfQ.wR {X : Int32} {P p q f : Nat → Int32} {N i w : Nat} {R : Int32} (h : bfQ X P p q f N i w R) : w = 1 + pcnt R := h.2.2.2.2.2
theorem bfQ.inj {p f : Nat → Int32} {w : Nat} {R : Int32} (h : bfQ X P p q f N i w R) {j j' : Nat} (hj : j < w) (hj' : j' < w) (e : q j = q j') : j = j' := by
  rcases Nat.lt_trichotomy j j' with z | z | z
  · exact absurd e (h.qi j j' z hj')
  · exact z
  · exact absurd e.symm (h.qi j' j z hj)
theorem mv_step {p0 f x0 p x : Nat → Int32} {w base c j : Nat} {R : Int32} (hi : i < N) (h30 : N ≤ 30) (hX : bt X i = true) (hb : bfQ X P p0 q f N i w R) (hp0 : mvC N p0 x0) (hun : x0 i = nM) (hj : j < w) (h : mvI X P q f x0 N i base p x c j) : ∃ a, a < i + 1 ∧ f c = nI a ∧ ((x a = nM ∧ mtOK (egB X P) (bt X) N (i + 1) (upd p c (nI a)) ∧ mvC N (upd p c (nI a)) (upd x a (nI c)) ∧ mtN N (upd p c (nI a)) = base + 1) ∨ ∃ r j', x a = nI r ∧ j' < j ∧ mvI X P q f x0 N i base (upd p c (nI a)) (upd x a (nI c)) r j') := by
  obtain ⟨cN, at1, at2, at3, at4, at5, ⟨a, a1, a2, a3, a4, a5⟩, at7⟩ := h
  have hn : mtN N (upd p c (nI a)) = base + 1 := by rw [mtN_set cN (by omega)]; exact at5
  have hrg : ∀ r, r < N → upd p c (nI a) r = nM ∨ ∃ b, b < i + 1 ∧ bt X b = true ∧ egB X P b r = true ∧ upd p c (nI a) r = nI b := fun r hr => by
    by_cases z : r = c
    · subst z; exact Or.inr ⟨a, a1, a2, a3, up_at⟩
    · rw [up_ne z]; exact at3 r hr z
  have hx4 : ∀ b, b < N → upd x a (nI c) b = nM ∨ ∃ r, r < N ∧ upd x a (nI c) b = nI r := fun b hb => by
    by_cases z : b = a
    · subst z; exact Or.inr ⟨c, cN, up_at⟩
    · rw [up_ne z]; exact at4 b hb
  have hc : ∀ b, b < N → (upd p c (nI a) c = nI b ↔ upd x a (nI c) b = nI c) := fun b hb => by
    rw [up_at]
    by_cases z : b = a
    · subst z; rw [up_at]; exact ⟨fun _ => rfl, fun _ => rfl⟩
    · rw [up_ne z]
      exact ⟨fun e => absurd (nI_ij (by omega) (by omega) e).symm z, fun e => absurd e (at2 b hb)⟩
  refine ⟨a, a1, a4, ?_⟩
  rcases at4 a (by omega) with hx | ⟨r, hr, hx⟩
  · left
    have hcon : mvC N (upd p c (nI a)) (upd x a (nI c)) := by
      refine ⟨fun r b hr hb => ?_, hx4⟩
      by_cases z : r = c
      · subst z; exact hc b hb
      · rw [up_ne z]
        by_cases z2 : b = a
        · subst z2
          rw [up_at, at1 r b hr z hb, hx]
          exact ⟨fun e => (nI_no (by omega) e rfl).elim, fun e => absurd (nI_ij (by omega) (by omega) e).symm z⟩
        · rw [up_ne z2]; exact at1 r b hr z hb
    refine ⟨hx, ⟨hrg, fun r r' hr hr' e hne => ?_⟩, hcon, hn⟩
    rcases hrg r hr with z | ⟨b, hb, -, -, z⟩
    · exact absurd z hne
    · have e1 := (hcon.1 r b hr (by omega)).mp z
      have e2 := (hcon.1 r' b hr' (by omega)).mp (e.symm.trans z)
      exact nI_ij (by omega) (by omega) (e1.symm.trans e2)
  · right
    have hrc : ¬ r = c := fun z => at2 a (by omega) (by rw [hx, z])
    have hpr : p r = nI a := (at1 r a hr hrc (by omega)).mpr hx
    have hx0 : x0 a = nI r := (at7 j (Nat.le_refl j) a (by omega) a5).symm.trans hx
    have hai : ¬ a = i := fun z => by rw [z, hun, mF2 (by omega)] at hx0; exact hx0
    have hj0 : 0 < j := Nat.pos_of_ne_zero (fun z => by
      rw [z, hb.q0] at a5
      exact hai (nI_ij (by omega) (by omega) a5).symm)
    have hpr0 : p0 r = nI a := (hp0.1 r a hr (by omega)).mpr hx0
    obtain ⟨r1, b1, b2, b3⟩ := hb.qr j hj0 hj
    have hr1 : r1 = r := by
      have e := (hp0.1 r1 a b1 (by omega)).mp (b3.trans a5)
      exact nI_ij (by omega) (by omega) (e.symm.trans hx0)
    subst hr1
    obtain ⟨-, j1, c1, c2, c3, j', c4, c5⟩ := hb.rq r1 b2
    have hj1 : j1 = j := hb.inj c2 hj (c3.symm.trans b3)
    obtain ⟨a', d1, d2, d3, d4⟩ := hb.re r1 b2
    refine ⟨r1, j', hx, by omega, hr, fun s b hs hsr hb2 => ?_, fun b hb2 e => ?_, fun s hs _ => hrg s hs, hx4, ?_, ⟨a', d1, d2, d4, d3, c5.symm.trans d3⟩, fun j2 hj2 b hb2 e => ?_⟩
    · by_cases z : s = c
      · subst z; exact hc b hb2
      · rw [up_ne z]
        by_cases z2 : b = a
        · subst z2
          rw [up_at, at1 s b hs z hb2, hx]
          exact ⟨fun e => absurd (nI_ij (by omega) (by omega) e).symm hsr, fun e => absurd (nI_ij (by omega) (by omega) e).symm z⟩
        · rw [up_ne z2]; exact at1 s b hs z hb2
    · by_cases z2 : b = a
      · subst z2
        rw [up_at] at e
        exact hrc (nI_ij (by omega) (by omega) e).symm
      · rw [up_ne z2] at e
        exact z2 (nI_ij (by omega) (by omega) (((at1 r1 b hr hrc hb2).mpr e).symm.trans hpr))
    · rw [hn, up_ne hrc, hpr, if_neg (fun z => nI_no (by omega) rfl z)]
    · have z2 : ¬ b = a := fun z => by
        rw [z] at e
        have := hb.inj (by omega) hj (e.trans a5.symm)
        omega
      rw [up_ne z2]
      exact at7 j2 (by omega) b hb2 e
theorem lp_mv {p0 f x0 : Nat → Int32} {w base : Nat} {R : Int32} (hi : i < N) (h30 : N ≤ 30) (hX : bt X i = true) (hb : bfQ X P p0 q f N i w R) (hp0 : mvC N p0 x0) (hun : x0 i = nM) : ∀ (d n t j c : Nat) (m : jMem), j < d → t + j < 30 → d < n → j < w → m 87 = f → mvI X P q f x0 N i base (m 86) (m 85) c j → ∃ m', lp_N_moveOver_4 (fun m5 => some ((), m5)) n (nI c) (nI t) m = some ((), m') ∧ (∀ c, ¬ c = 85 → ¬ c = 86 → m' c = m c) ∧ mtOK (egB X P) (bt X) N (i + 1) (m' 86) ∧ mvC N (m' 86) (m' 85) ∧ mtN N (m' 86) = base + 1 := by
  intro d
  induction d with
  | zero => intro n t j c m hj; exact absurd hj (by omega)
  | succ d ih =>
    intro n t j c m hjd htj hdn hj h87 h
    obtain ⟨n, rfl⟩ := ex_succ hdn
    have hc := h.cN
    obtain ⟨a, a1, a2, r⟩ := mv_step hi h30 hX hb hp0 hun hj h
    have m86 : jup (jup m 85 a (nI c)) 86 c (nI a) 86 = upd (m 86) c (nI a) := by rw [jup_row, jup_oc (by omega)]
    have m85 : jup (jup m 85 a (nI c)) 86 c (nI a) 85 = upd (m 85) a (nI c) := by rw [jup_oc (by omega), jup_row]
    have e0 : lp_N_moveOver_4 (fun m5 => some ((), m5)) (n + 1) (nI c) (nI t) m = lp_N_moveOver_4 (fun m5 => some ((), m5)) n (m 85 a) (nI (t + 1)) (jup (jup m 85 a (nI c)) 86 c (nI a)) := by
      rw [lp_N_moveOver_4]
      simp (disch := omega) only [lits, negs, nI_add, nn1, leT, leF, ltT, ltF, eqF, mF1, mF2, mF3, mF4, mF5, mF6, mTT, eq_self, Nat.reduceEqDiff, ↓reduceIte, jbd_s, jpu_e, tI0, tI1, jgd_tI, jgd_bb, tfF, ftF, jup_at, jup_oc, jup_ok, ld_87, h87, a2, ld_85, st_85, st_86]
    rcases r with ⟨r1, r2, r3, r4⟩ | ⟨r, j', r1, r2, r3⟩
    · refine ⟨jup (jup m 85 a (nI c)) 86 c (nI a), ?_, fun c h1 h2 => by rw [jup_oc h2, jup_oc h1], by rw [m86]; exact r2, by rw [m86, m85]; exact r3, by rw [m86]; exact r4⟩
      rw [e0, r1]
      obtain ⟨n, rfl⟩ := ex_succ (by omega : 0 < n)
      rw [lp_N_moveOver_4]
      by_cases q : 30 ≤ t + 1
      · simp (disch := omega) only [lits, negs, nI_add, nn1, leT, leF, ltT, ltF, eqF, mF1, mF2, mF3, mF4, mF5, mF6, mTT, eq_self, Nat.reduceEqDiff, ↓reduceIte, jbd_s, jpu_e, tI0, tI1, jgd_tI, jgd_bb, tfF, ftF, jup_at, jup_oc, jup_ok]
      · simp (disch := omega) only [lits, negs, nI_add, nn1, leT, leF, ltT, ltF, eqF, mF1, mF2, mF3, mF4, mF5, mF6, mTT, eq_self, Nat.reduceEqDiff, ↓reduceIte, jbd_s, jpu_e, tI0, tI1, jgd_tI, jgd_bb, tfF, ftF, jup_at, jup_oc, jup_ok]
    · obtain ⟨m', e1, e2, e3⟩ := ih n (t + 1) j' r (jup (jup m 85 a (nI c)) 86 c (nI a)) (by omega) (by omega) (by omega) (by omega) (by rw [jup_oc (by omega), jup_oc (by omega)]; exact h87) (by rw [m86, m85]; exact r3)
      refine ⟨m', ?_, fun c h1 h2 => by rw [e2 c h1 h2, jup_oc h2, jup_oc h1], e3⟩
      rw [e0, r1]
      exact e1
end MV
