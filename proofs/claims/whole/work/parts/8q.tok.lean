/-! a token on both sides -/
def soT (t : Nat) : Nat := if t = 1001 then 3 else if t = 1002 then 4 else if t = 1003 then 1 else if t ≤ 1006 then 2 else if t ≤ 1025 then 0 else 2
def vlL : List Nat := [0, 0, 0, 59, 40, 41, 0, 1, 2, 3, 4, 5, 6, 7, 8, 12, 13, 14, 15, 16, 17, 18, 9, 10, 11, 60, 256, 61, 257, 258, 62, 43, 45]
def vlT (t : Nat) : Nat := vlL.getD (t - 1001) 0
def tkR (t w s v : Int32) : Prop := ∃ τ, 1001 ≤ τ ∧ τ ≤ 1033 ∧ t = nI τ ∧ s = nI (soT τ) ∧ (τ = 1003 → ∃ x, x < 10000 ∧ v = nI x ∧ w = nI (min 1000 x)) ∧ (1004 ≤ τ → v = nI (vlT τ)) ∧ (¬ τ = 1003 → w = nI 0)
theorem tk_1 : ∀ i, i < 33 → ∀ i', i' < 33 → i = i' ∨ ¬ jstN.getD (jtkS (1001 + i) - 2001) 0 = jstN.getD (jtkS (1001 + i') - 2001) 0 ∨ jstN.getD (jtkS (1001 + i) - 2001) 0 = 0 ∨ ∃ j, j < jstN.getD (jtkS (1001 + i) - 2001) 0 ∧ ¬ jsc (jtkS (1001 + i)) (nI j) = jsc (jtkS (1001 + i')) (nI j) := by decide +kernel
theorem sp_one {B : Nat → Nat} {f L i i' : Nat} (hi : i < 33) (hi' : i' < 33) (hL : 1 ≤ L) (h : spM (jtkS (1001 + i)) B f L = true) (h' : spM (jtkS (1001 + i')) B f L = true) : i = i' := by
  obtain ⟨a1, a2⟩ := spM_iff.mp h
  obtain ⟨b1, b2⟩ := spM_iff.mp h'
  rcases tk_1 i hi i' hi' with q | q | q | ⟨j, j1, j2⟩
  · exact q
  · exact absurd (a1.trans b1.symm) q
  · omega
  · exact absurd ((a2 j (by omega)).trans (b2 j (by omega)).symm) j2
theorem tk_2 : ∀ i, i < 33 → (∃ k, k < 19 ∧ wI.getD k 0 = i) ∨ jstN.getD (jtkS (1001 + i) - 2001) 0 = 0 ∨ ∃ c, c < 128 ∧ jsc (jtkS (1001 + i)) (nI 0) = nI c ∧ cL c = false := by decide +kernel
theorem tk_3 : ∀ i, i < 33 → ¬ jstN.getD (jtkS (1001 + i) - 2001) 0 = 1 ∨ ∃ c, c < 128 ∧ jsc (jtkS (1001 + i)) (nI 0) = nI c ∧ (c = 59 ∨ c = 45 ∨ c = 43 ∨ c = 40 ∨ c = 41 ∨ c = 60 ∨ c = 61 ∨ c = 62) := by decide +kernel
theorem tk_4 : ∀ k, k < 19 → wI.getD k 0 < 33 ∧ soT (1001 + wI.getD k 0) = 0 ∧ vlT (1001 + wI.getD k 0) = k ∧ 1004 ≤ 1001 + wI.getD k 0 := by decide +kernel
theorem tk_5 : (jstN.getD (jtkS (1001 + 3) - 2001) 0 = 1 ∧ jsc (jtkS (1001 + 3)) (nI 0) = nI 59) ∧ (jstN.getD (jtkS (1001 + 4) - 2001) 0 = 1 ∧ jsc (jtkS (1001 + 4)) (nI 0) = nI 40) ∧ (jstN.getD (jtkS (1001 + 5) - 2001) 0 = 1 ∧ jsc (jtkS (1001 + 5)) (nI 0) = nI 41) ∧ (jstN.getD (jtkS (1001 + 25) - 2001) 0 = 1 ∧ jsc (jtkS (1001 + 25)) (nI 0) = nI 60) ∧ (jstN.getD (jtkS (1001 + 27) - 2001) 0 = 1 ∧ jsc (jtkS (1001 + 27)) (nI 0) = nI 61) ∧ (jstN.getD (jtkS (1001 + 30) - 2001) 0 = 1 ∧ jsc (jtkS (1001 + 30)) (nI 0) = nI 62) ∧ (jstN.getD (jtkS (1001 + 31) - 2001) 0 = 1 ∧ jsc (jtkS (1001 + 31)) (nI 0) = nI 43) ∧ (jstN.getD (jtkS (1001 + 32) - 2001) 0 = 1 ∧ jsc (jtkS (1001 + 32)) (nI 0) = nI 45) := by decide +kernel
theorem tk_6 : (jstN.getD (jtkS (1001 + 26) - 2001) 0 = 2 ∧ jsc (jtkS (1001 + 26)) (nI 0) = nI 60 ∧ jsc (jtkS (1001 + 26)) (nI 1) = nI 61) ∧ (jstN.getD (jtkS (1001 + 28) - 2001) 0 = 2 ∧ jsc (jtkS (1001 + 28)) (nI 0) = nI 60 ∧ jsc (jtkS (1001 + 28)) (nI 1) = nI 62) ∧ (jstN.getD (jtkS (1001 + 29) - 2001) 0 = 2 ∧ jsc (jtkS (1001 + 29)) (nI 0) = nI 62 ∧ jsc (jtkS (1001 + 29)) (nI 1) = nI 61) := by decide +kernel
theorem sp_1 {B : Nat → Nat} {p w c : Nat} (h : jstN.getD (w - 2001) 0 = 1 ∧ jsc w (nI 0) = nI c) (hb : B p = c) : spM w B p 1 = true := by
  rw [spM_iff]
  refine ⟨h.1, fun i hi => ?_⟩
  rw [show i = 0 by omega, h.2, Nat.add_zero, hb]
theorem sp_2 {B : Nat → Nat} {p w c d : Nat} (h : jstN.getD (w - 2001) 0 = 2 ∧ jsc w (nI 0) = nI c ∧ jsc w (nI 1) = nI d) (hb : B p = c) (hd : B (p + 1) = d) : spM w B p 2 = true := by
  rw [spM_iff]
  refine ⟨h.1, fun i hi => ?_⟩
  rcases (by omega : i = 0 ∨ i = 1) with q | q
  · rw [q, h.2.1, Nat.add_zero, hb]
  · rw [q, h.2.2, hd]
theorem tk_end {v : Int32} : tkR (nI 1001) (nI 0) (nI 3) v := ⟨1001, by omega, by omega, rfl, rfl, fun h => absurd h (by omega), fun h => absurd h (by omega), fun _ => rfl⟩
theorem tk_both {B : Nat → Nat} {n p : Nat} {t w s v : Int32} (hp : p < n) (hB : ∀ i, B i < 256) (hA : tkA B n p t w) (hM : tkM B n p s v) : tkR t w s v ∧ ¬ t = nI 1001 := by
  have hend := endF_le (B := B) hp
  have hno : ∀ τ, 1002 ≤ τ → τ < 5000 → ¬ nI τ = nI 1001 := fun τ h1 h2 z => by
    have := nI_ij (by omega) (by omega) z; omega
  have hb := hB p
  rcases hA with ⟨a1, a2, a3⟩ | ⟨a1, a2, a3⟩
  · have hr := cD_rg a1
    have hL : cL (B p) = false := by
      unfold cL
      rw [decide_eq_false (by omega : ¬ 97 ≤ B p)]; rfl
    rcases hM with ⟨z, -⟩ | ⟨-, -, z1, z2⟩ | ⟨-, z, -⟩
    · exact (bt_no hL z).elim
    · refine ⟨⟨1003, by omega, by omega, a2, z1, fun _ => ⟨refN B (n - p) p 0, refN_lt _ _ _ (by omega), z2, ?_⟩, fun h => ?_, fun h => absurd rfl h⟩, a2 ▸ hno 1003 (by omega) (by omega)⟩
      · rw [a3, ← cls_ref, Nat.min_eq_right (Nat.zero_le 1000)]
      · exact absurd h (by omega)
    · exact (bt_no z a1).elim
  · -- the same token on both sides, if the class finds it
    have fin : ∀ i, i < 33 → 3 ≤ i → spM (jtkS (1001 + i)) B p (endF B n p - p) = true → s = nI (soT (1001 + i)) → v = nI (vlT (1001 + i)) → tkR t w s v ∧ ¬ t = nI 1001 := fun i hi h3 hs h1 h2 => by
      rcases a3 with ⟨i', b1, b2, b3⟩ | ⟨b1, b2⟩
      · have e := sp_one hi b1 (by omega) hs b3
        rw [← e] at b2
        exact ⟨⟨1001 + i, by omega, by omega, b2, h1, fun h => absurd h (by omega), fun _ => h2, fun _ => a2⟩, b2 ▸ hno (1001 + i) (by omega) (by omega)⟩
      · exact (bt_no (b2 i hi) hs).elim
    have bad : (∀ i, i < 33 → spM (jtkS (1001 + i)) B p (endF B n p - p) = false) → s = nI 4 → tkR t w s v ∧ ¬ t = nI 1001 := fun h hs => by
      rcases a3 with ⟨i', b1, b2, b3⟩ | ⟨b1, b2⟩
      · exact (bt_no (h i' b1) b3).elim
      · exact ⟨⟨1002, by omega, by omega, b1, hs, fun h => absurd h (by omega), fun h => absurd h (by omega), fun _ => a2⟩, b1 ▸ hno 1002 (by omega) (by omega)⟩
    rcases hM with ⟨hL, ⟨k, k1, k2, k3, k4⟩ | ⟨k1, k2⟩⟩ | ⟨-, z, -⟩ | ⟨hL, -, ⟨c1, c2', c3, c4⟩ | ⟨c1, c2', c3⟩⟩
    · obtain ⟨d1, d2, d3, d4⟩ := tk_4 k k1
      exact fin _ d1 (by omega) k2 (by rw [d2]; exact k3) (by rw [d3]; exact k4)
    · refine bad (fun i hi => bf_of fun z => ?_) k2
      rcases tk_2 i hi with ⟨k, q1, q2⟩ | q | ⟨c, q1, q2, q3⟩
      · have := k1 k q1
        unfold wT at this
        rw [q2] at this
        exact bt_no this z
      · have := (spM_iff.mp z).1; omega
      · have e := (spM_iff.mp z).2 0 (by omega)
        rw [q2, Nat.add_zero] at e
        rw [nI_ij (by omega) (by omega) e] at q3
        exact bt_no q3 hL
    · exact (bt_no a1 z).elim
    · have hE : endF B n p - p = 2 := by
        unfold endF
        rw [hL, a1, if_neg Bool.false_ne_true, if_neg Bool.false_ne_true, if_pos ⟨c1, c2'⟩]
        omega
      rw [hE] at fin
      have hcc := c2'
      unfold c2 at hcc
      rw [Bool.or_eq_true, Bool.and_eq_true, Bool.or_eq_true, Bool.and_eq_true, decide_eq_true_iff, decide_eq_true_iff, decide_eq_true_iff, decide_eq_true_iff] at hcc
      rcases hcc with ⟨q1, q2 | q2⟩ | ⟨q1, q2⟩
      · exact fin 26 (by omega) (by omega) (sp_2 tk_6.1 q1 q2) c3 (by rw [c4, if_neg (by omega), if_pos q2]; rfl)
      · exact fin 28 (by omega) (by omega) (sp_2 tk_6.2.1 q1 q2) c3 (by rw [c4, if_neg (by omega), if_neg (by omega)]; rfl)
      · exact fin 29 (by omega) (by omega) (sp_2 tk_6.2.2 q1 q2) c3 (by rw [c4, if_pos q1]; rfl)
    · have hE : endF B n p - p = 1 := by
        unfold endF
        rw [hL, a1, if_neg Bool.false_ne_true, if_neg Bool.false_ne_true, if_neg c1]
        omega
      rw [hE] at fin bad
      obtain ⟨t1, t2, t3, t4, t5, t6, t7, t8⟩ := tk_5
      by_cases q : B p = 59 ∨ B p = 45 ∨ B p = 43 ∨ B p = 40 ∨ B p = 41 ∨ B p = 60 ∨ B p = 61 ∨ B p = 62
      · rw [if_pos q] at c3
        rcases q with q | q | q | q | q | q | q | q
        · exact fin 3 (by omega) (by omega) (sp_1 t1 q) c3 (by rw [c2', q]; rfl)
        · exact fin 32 (by omega) (by omega) (sp_1 t8 q) c3 (by rw [c2', q]; rfl)
        · exact fin 31 (by omega) (by omega) (sp_1 t7 q) c3 (by rw [c2', q]; rfl)
        · exact fin 4 (by omega) (by omega) (sp_1 t2 q) c3 (by rw [c2', q]; rfl)
        · exact fin 5 (by omega) (by omega) (sp_1 t3 q) c3 (by rw [c2', q]; rfl)
        · exact fin 25 (by omega) (by omega) (sp_1 t4 q) c3 (by rw [c2', q]; rfl)
        · exact fin 27 (by omega) (by omega) (sp_1 t5 q) c3 (by rw [c2', q]; rfl)
        · exact fin 30 (by omega) (by omega) (sp_1 t6 q) c3 (by rw [c2', q]; rfl)
      · rw [if_neg q] at c3
        refine bad (fun i hi => bf_of fun z => ?_) c3
        rcases tk_3 i hi with q0 | ⟨c, q1, q2, q3⟩
        · exact q0 (spM_iff.mp z).1
        have e := (spM_iff.mp z).2 0 (by omega)
        rw [q2, Nat.add_zero] at e
        rw [nI_ij (by omega) (by omega) e] at q3
        exact q q3
/-- the whole text, cut by the class -/
def TS (B : Nat → Nat) (n K : Nat) (T Pl W : Nat → Int32) : Prop := (n ≤ 400) ∧ (K ≤ n) ∧ (stF B n K = n) ∧ (∀ j, j < K → stF B n j < n ∧ Pl j = nI (stF B n j) ∧ tkA B n (stF B n j) (T j) (W j)) ∧ (T K = nI 1001) ∧ (Pl K = nI n) ∧ (W K = nI 0)
theorem TS.n4 {B : Nat → Nat} {n K : Nat} {T Pl W : Nat → Int32} (h : TS B n K T Pl W) : n ≤ 400 := h.1
theorem TS.Kn {B : Nat → Nat} {n K : Nat} {T Pl W : Nat → Int32} (h : TS B n K T Pl W) : K ≤ n := h.2.1
theorem TS.sK {B : Nat → Nat} {n K : Nat} {T Pl W : Nat → Int32} (h : TS B n K T Pl W) : stF B n K = n := h.2.2.1
theorem TS.tk {B : Nat → Nat} {n K : Nat} {T Pl W : Nat → Int32} (h : TS B n K T Pl W) : ∀ j, j < K → stF B n j < n ∧ Pl j = nI (stF B n j) ∧ tkA B n (stF B n j) (T j) (W j) := h.2.2.2.1
theorem TS.tK {B : Nat → Nat} {n K : Nat} {T Pl W : Nat → Int32} (h : TS B n K T Pl W) : T K = nI 1001 := h.2.2.2.2.1
theorem TS.pK {B : Nat → Nat} {n K : Nat} {T Pl W : Nat → Int32} (h : TS B n K T Pl W) : Pl K = nI n := h.2.2.2.2.2.1
theorem TS.wK {B : Nat → Nat} {n K : Nat} {T Pl W : Nat → Int32} (h : TS B n K T Pl W) : W K = nI 0 := h.2.2.2.2.2.2
def enF (B : Nat → Nat) (n K j : Nat) : Nat := if j < K then endF B n (stF B n j) else n
/-- both stand at token j -/
def TX (B : Nat → Nat) (n K : Nat) (T Pl W : Nat → Int32) (m M : jMem) (j : Nat) : Prop := (j ≤ K) ∧ (m 24 5 = nI (K + 1)) ∧ (m 25 = T) ∧ (m 26 = Pl) ∧ (m 27 = W) ∧ (m 21 1 = nI j) ∧ (m 21 2 = T j) ∧ (m 21 3 = W j) ∧ (M 109 16 = nI n) ∧ (∀ i, M 110 i = nI (B i) ∧ B i < 256) ∧ (M 109 17 = nI (enF B n K j)) ∧ (M 109 18 = Pl j) ∧ (tkR (T j) (W j) (M 109 19) (M 109 20)) ∧ (m 21 5 = nM) ∧ (M 109 22 = nM)
theorem TX.jK {B : Nat → Nat} {n K : Nat} {T Pl W : Nat → Int32} {m M : jMem} {j : Nat} (h : TX B n K T Pl W m M j) : j ≤ K := h.1
theorem TX.cn {B : Nat → Nat} {n K : Nat} {T Pl W : Nat → Int32} {m M : jMem} {j : Nat} (h : TX B n K T Pl W m M j) : m 24 5 = nI (K + 1) := h.2.1
theorem TX.r25 {B : Nat → Nat} {n K : Nat} {T Pl W : Nat → Int32} {m M : jMem} {j : Nat} (h : TX B n K T Pl W m M j) : m 25 = T := h.2.2.1
theorem TX.r26 {B : Nat → Nat} {n K : Nat} {T Pl W : Nat → Int32} {m M : jMem} {j : Nat} (h : TX B n K T Pl W m M j) : m 26 = Pl := h.2.2.2.1
theorem TX.r27 {B : Nat → Nat} {n K : Nat} {T Pl W : Nat → Int32} {m M : jMem} {j : Nat} (h : TX B n K T Pl W m M j) : m 27 = W := h.2.2.2.2.1
theorem TX.at {B : Nat → Nat} {n K : Nat} {T Pl W : Nat → Int32} {m M : jMem} {j : Nat} (h : TX B n K T Pl W m M j) : m 21 1 = nI j := h.2.2.2.2.2.1
theorem TX.tok {B : Nat → Nat} {n K : Nat} {T Pl W : Nat → Int32} {m M : jMem} {j : Nat} (h : TX B n K T Pl W m M j) : m 21 2 = T j := h.2.2.2.2.2.2.1
theorem TX.wo {B : Nat → Nat} {n K : Nat} {T Pl W : Nat → Int32} {m M : jMem} {j : Nat} (h : TX B n K T Pl W m M j) : m 21 3 = W j := h.2.2.2.2.2.2.2.1
theorem TX.sz {B : Nat → Nat} {n K : Nat} {T Pl W : Nat → Int32} {m M : jMem} {j : Nat} (h : TX B n K T Pl W m M j) : M 109 16 = nI n := h.2.2.2.2.2.2.2.2.1
theorem TX.tp {B : Nat → Nat} {n K : Nat} {T Pl W : Nat → Int32} {m M : jMem} {j : Nat} (h : TX B n K T Pl W m M j) : ∀ i, M 110 i = nI (B i) ∧ B i < 256 := h.2.2.2.2.2.2.2.2.2.1
theorem TX.en {B : Nat → Nat} {n K : Nat} {T Pl W : Nat → Int32} {m M : jMem} {j : Nat} (h : TX B n K T Pl W m M j) : M 109 17 = nI (enF B n K j) := h.2.2.2.2.2.2.2.2.2.2.1
theorem TX.pl {B : Nat → Nat} {n K : Nat} {T Pl W : Nat → Int32} {m M : jMem} {j : Nat} (h : TX B n K T Pl W m M j) : M 109 18 = Pl j := h.2.2.2.2.2.2.2.2.2.2.2.1
theorem TX.tk {B : Nat → Nat} {n K : Nat} {T Pl W : Nat → Int32} {m M : jMem} {j : Nat} (h : TX B n K T Pl W m M j) : tkR (T j) (W j) (M 109 19) (M 109 20) := h.2.2.2.2.2.2.2.2.2.2.2.2.1
theorem TX.p5 {B : Nat → Nat} {n K : Nat} {T Pl W : Nat → Int32} {m M : jMem} {j : Nat} (h : TX B n K T Pl W m M j) : m 21 5 = nM := h.2.2.2.2.2.2.2.2.2.2.2.2.2.1
theorem TX.p22 {B : Nat → Nat} {n K : Nat} {T Pl W : Nat → Int32} {m M : jMem} {j : Nat} (h : TX B n K T Pl W m M j) : M 109 22 = nM := h.2.2.2.2.2.2.2.2.2.2.2.2.2.2
section TX
variable {B : Nat → Nat} {n K j : Nat} {T Pl W : Nat → Int32} {m M : jMem}
theorem TX.cong {m' M' : jMem} (h : TX B n K T Pl W m M j) (hc : ∀ q k, (q = 21 ∧ ((1 ≤ k ∧ k ≤ 3) ∨ k = 5)) ∨ (24 ≤ q ∧ q ≤ 27) → m' q k = m q k) (hM : ∀ q k, (q = 109 ∧ ((16 ≤ k ∧ k ≤ 20) ∨ k = 22)) ∨ q = 110 → M' q k = M q k) : TX B n K T Pl W m' M' j := by
  obtain ⟨h1, h2, h3, h4, h5, h6, h7, h8, h9, h10, h11, h12, h13, h14, h15⟩ := h
  have r : ∀ q, 24 ≤ q → q ≤ 27 → m' q = m q := fun q a b => funext fun k => hc q k (Or.inr ⟨a, b⟩)
  refine ⟨h1, by rw [r 24 (by omega) (by omega)]; exact h2, by rw [r 25 (by omega) (by omega)]; exact h3, by rw [r 26 (by omega) (by omega)]; exact h4, by rw [r 27 (by omega) (by omega)]; exact h5, by rw [hc 21 1 (by omega)]; exact h6, by rw [hc 21 2 (by omega)]; exact h7, by rw [hc 21 3 (by omega)]; exact h8, by rw [hM 109 16 (by omega)]; exact h9, fun i => by rw [hM 110 i (by omega)]; exact h10 i, by rw [hM 109 17 (by omega)]; exact h11, by rw [hM 109 18 (by omega)]; exact h12, by rw [hM 109 19 (by omega), hM 109 20 (by omega)]; exact h13, by rw [hc 21 5 (by omega)]; exact h14, by rw [hM 109 22 (by omega)]; exact h15⟩
def cst (T W : Nat → Int32) (m : jMem) (j : Nat) : jMem := jup (jup (jup m 21 1 (nI (j + 1))) 21 2 (T (j + 1))) 21 3 (W (j + 1))
theorem cst_ne {q k : Nat} (h : ¬ (q = 21 ∧ 1 ≤ k ∧ k ≤ 3)) : cst T W m j q k = m q k := by
  unfold cst
  rw [jup_no (by omega), jup_no (by omega), jup_no (by omega)]
theorem cst_r {q : Nat} (h : ¬ q = 21) : cst T W m j q = m q := funext fun k => cst_ne (by omega)
theorem tk_nxt (ts : TS B n K T Pl W) (hB : ∀ i, B i < 256) (hj : j < K) {s v : Int32} (h : (skF B n (endF B n (stF B n j)) = n ∧ s = nI 3) ∨ (skF B n (endF B n (stF B n j)) < n ∧ tkM B n (skF B n (endF B n (stF B n j))) s v)) : tkR (T (j + 1)) (W (j + 1)) s v ∧ Pl (j + 1) = nI (skF B n (endF B n (stF B n j))) ∧ ((skF B n (endF B n (stF B n j)) = n ↔ j + 1 = K)) := by
  have e : stF B n (j + 1) = skF B n (endF B n (stF B n j)) := rfl
  rw [← e] at h ⊢
  by_cases q : j + 1 = K
  · rw [q] at h ⊢
    rw [ts.sK] at h ⊢
    rcases h with ⟨-, h⟩ | ⟨h, -⟩
    · rw [ts.tK, ts.wK, h, ts.pK]
      exact ⟨tk_end, rfl, by omega⟩
    · exact absurd h (by omega)
  · obtain ⟨a1, a2, a3⟩ := ts.tk (j + 1) (by omega)
    rcases h with ⟨h, -⟩ | ⟨h, h2⟩
    · exact absurd h (by omega)
    · exact ⟨(tk_both h hB a3 h2).1, a2, by omega⟩
theorem e_stepTo {i : Nat} (hi : i ≤ K) (hK : K ≤ 400) (hcn : m 24 5 = nI (K + 1)) (hT : m 25 = T) (hW : m 27 = W) (hk : ∃ τ, 1001 ≤ τ ∧ τ ≤ 1033 ∧ T i = nI τ) : f_R_stepTo (nI i) m = some ((), jup (jup (jup m 21 1 (nI i)) 21 2 (T i)) 21 3 (W i)) := by
  obtain ⟨τ, t1, t2, t3⟩ := hk
  unfold f_R_stepTo
  simp only [lits]
  rw [if_neg (by rw [ltF (by omega) (by omega)]; exact id), hcn, if_neg (nI_ge (by omega) (by omega)), jpu_e, l4_25 (by omega), jup_oc (by omega), hT, t3, nI_clamp (by omega), if_neg (by omega), jgd_T (by omega), jpu_e, ld_27 (by omega), jup_oc (by omega), jup_oc (by omega), hW, jpu_e]
  rfl
theorem tkR.rg {t w s v : Int32} (h : tkR t w s v) : ∃ τ, 1001 ≤ τ ∧ τ ≤ 1033 ∧ t = nI τ := by
  obtain ⟨τ, h1, h2, h3, -⟩ := h
  exact ⟨τ, h1, h2, h3⟩
/-- both go on to the next token -/
theorem TX.step (ts : TS B n K T Pl W) (h : TX B n K T Pl W m M j) (hj : j < K) : ∃ M', f_R_stepTo (nI (j + 1)) m = some ((), cst T W m j) ∧ f_M_next M = some ((), M') ∧ (∀ c k, ¬ (c = 109 ∧ 17 ≤ k ∧ k ≤ 20) → M' c k = M c k) ∧ TX B n K T Pl W (cst T W m j) M' (j + 1) := by
  have hn4 := ts.n4
  have hKn := ts.Kn
  obtain ⟨s1, s2, s3⟩ := ts.tk j hj
  have hend := endF_le (B := B) s1
  have h17 : M 109 17 = nI (endF B n (stF B n j)) := by
    rw [h.en]; unfold enF; rw [if_pos hj]
  obtain ⟨M', e1, e2, e3, e4⟩ := e_next hn4 hend.2 h.tp h.sz h17
  have hB : ∀ i, B i < 256 := fun i => (h.tp i).2
  obtain ⟨n1, n2, n3⟩ := tk_nxt (s := M' 109 19) (v := M' 109 20) ts hB hj (by
    rcases e4 with ⟨a, -, b⟩ | ⟨a, -, b⟩
    · exact Or.inl ⟨a, b⟩
    · exact Or.inr ⟨a, b⟩)
  refine ⟨M', e_stepTo (by omega) (by omega) h.cn h.r25 h.r27 n1.rg, e1, e2, by omega, by rw [cst_ne (by omega)]; exact h.cn, by rw [cst_r (by omega)]; exact h.r25, by rw [cst_r (by omega)]; exact h.r26, by rw [cst_r (by omega)]; exact h.r27, ?_, ?_, ?_, by rw [e2 109 16 (by omega)]; exact h.sz, fun i => by rw [e2 110 i (by omega)]; exact h.tp i, ?_, by rw [e3, n2], n1, by rw [cst_ne (by omega)]; exact h.p5, by rw [e2 109 22 (by omega)]; exact h.p22⟩
  · unfold cst
    rw [jup_ok (by omega), jup_ok (by omega), jup_at]
  · unfold cst
    rw [jup_ok (by omega), jup_at]
  · unfold cst
    rw [jup_at]
  · unfold enF
    rcases e4 with ⟨a, b, -⟩ | ⟨a, b, -⟩
    · rw [if_neg (by have := n3.mp a; omega), b]
    · have : ¬ j + 1 = K := fun z => by have := n3.mpr z; omega
      rw [if_pos (by omega), b]
      rfl
end TX
