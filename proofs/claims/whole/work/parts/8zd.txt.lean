/-! a text, on both sides -/
theorem Rel2_txt {N C : Nat} {m m' M M' : jMem} (e : ∀ c, 28 ≤ c → m' c = m c) (e1 : m' 1 6 = m 1 6) (g : ∀ c, 118 ≤ c → M' c = M c) (g9 : ∀ k, 28 ≤ k → M' 109 k = M 109 k) (rt : RT2 m' M') (rx : RX2 m' M') (r : Rel2 N C m M) : Rel2 N C m' M' := by
  obtain ⟨r1, r2, -, r4, r5, r6, r7, r8, r9, r10, -⟩ := r
  refine ⟨?_, ?_, rt, ?_, ?_, ?_, ?_, ?_, ?_, ?_, rx⟩
  · obtain ⟨a1, a2, a3, a4, a5, a6, a7⟩ := r1
    refine ⟨a1, by rw [e 29 (by omega)]; exact a2, by rw [g9 33 (by omega)]; exact a3, ?_, fun l hl => RLl_cong (fun c _ _ => e c (by omega)) (a5 l hl), ?_, ?_⟩
    · rw [e 30 (by omega), e 31 (by omega), e 32 (by omega), e 33 (by omega), e 34 (by omega), e 35 (by omega), e 36 (by omega), e 37 (by omega), g 121 (by omega), g 122 (by omega), g 123 (by omega), g 124 (by omega), g 125 (by omega), g 126 (by omega), g 127 (by omega), g 128 (by omega)]
      exact a4
    · rw [e 42 (by omega), e 30 (by omega)]; exact a6
    · rw [e 43 (by omega), e 33 (by omega)]; exact a7
  · unfold RB2
    rw [e 29 (by omega), g9 43 (by omega), g 129 (by omega)]
    exact r2
  · unfold RD2
    rw [e1, g9 31 (by omega)]
    exact r4
  · obtain ⟨W, w1, w2⟩ := r5
    refine ⟨W, fun a ha b hb => ?_, w2⟩
    rw [e (47 + a) (by omega), e (54 + a) (by omega), g 120 (by omega)]
    exact w1 a ha b hb
  · unfold RS2
    rw [e 45 (by omega), g9 50 (by omega), g9 51 (by omega), g9 52 (by omega)]
    exact r6
  · unfold RC2
    rw [e 45 (by omega), e 60 (by omega), e 61 (by omega), e 62 (by omega), e 63 (by omega), e 64 (by omega), g9 44 (by omega), g 130 (by omega), g 131 (by omega), g 132 (by omega), g 133 (by omega), g 134 (by omega)]
    exact r7
  · obtain ⟨k1, k2⟩ := r8
    refine ⟨fun w hw => ?_, by rw [e 75 (by omega), g9 57 (by omega)]; exact k2⟩
    unfold RKw2
    rw [e 42 (by omega), e 75 (by omega), e 30 (by omega), e 31 (by omega), e (77 + w) (by omega), g 135 (by omega), g 136 (by omega)]
    exact k1 w hw
  · intro w hw
    have := r9 w hw
    unfold RHw2 at this ⊢
    rw [e 73 (by omega), e 74 (by omega), e 75 (by omega), e 30 (by omega), e (67 + w) (by omega), g 137 (by omega), g 138 (by omega)]
    exact this
  · unfold RP2
    rw [e 89 (by omega), e 90 (by omega), e 91 (by omega), g9 64 (by omega), g 144 (by omega), g 145 (by omega)]
    exact r10
def kT1 (m : jMem) : Option (Int32 × jMem) := if (m 21 4) = nI 0 then some (nI 1, m) else some (nI 0, m)
def kT5 (m36 : jMem) : Option (Int32 × jMem) := jpu m36 109 11 (m36 109 12) fun m37 => jpu m37 109 6 (m37 109 7) fun m38 => some ((m38 109 15), m38)
def kT4 (m33 : jMem) : Option (Int32 × jMem) := lp_M_text_258 kT5 5000 (nI 0) m33
def kT3 (m26 : jMem) : Option (Int32 × jMem) := lp_M_text_199 kT4 5000 (nI 0) m26
def kT2 (m19 : jMem) : Option (Int32 × jMem) := jpu m19 109 23 (m19 109 21) fun m20 => jpu m20 109 24 (m20 109 22) fun m21 => if (m21 109 21) = nI 0 then lp_M_text_155 kT3 5000 (nI 0) m21 else some (nM, m21)
def clr (hd : Nat) (m : jMem) : jMem := jup (jup (jup (jup (jup m hd 1 (nI 0)) hd 2 (nI 0)) hd 7 (nI 0)) hd 10 (nI 0)) hd 11 (nI 0)
section TE
variable {B : Nat → Nat} {n K : Nat} {T Pl W : Nat → Int32} {hd : Nat} {m M : jMem}
theorem tk_rgA {p : Nat} {t w : Int32} (h : tkA B n p t w) : ∃ τ, 1001 ≤ τ ∧ τ ≤ 1033 ∧ t = nI τ := by
  rcases h with ⟨-, h, -⟩ | ⟨-, -, ⟨i, hi, h, -⟩ | ⟨h, -⟩⟩
  · exact ⟨1003, by omega, by omega, h⟩
  · exact ⟨1001 + i, by omega, by omega, h⟩
  · exact ⟨1002, by omega, by omega, h⟩
theorem e_cutTS (hn4 : n ≤ 400) (hB : ∀ i, m 2 i = nI (B i) ∧ B i < 256) : ∃ m' K, f_S_cut (nI n) m = some ((), m') ∧ TS B n K (m' 25) (m' 26) (m' 27) ∧ m' 24 5 = nI (K + 1) ∧ ∀ q, ¬ q = 24 → ¬ q = 25 → ¬ q = 26 → ¬ q = 27 → m' q = m q := by
  obtain ⟨m', K, e1, e2, e3, e4, e5, e6, e7, e8, e9⟩ := e_cut hn4 hB
  exact ⟨m', K, e1, ⟨hn4, e2, e3, e6, e7, e8, e9⟩, e4, e5⟩
theorem clr_ne {q k : Nat} (h : ¬ (q = hd ∧ (k = 1 ∨ k = 2 ∨ k = 7 ∨ k = 10 ∨ k = 11))) : clr hd m q k = m q k := by
  unfold clr
  rw [jup_no (by omega), jup_no (by omega), jup_no (by omega), jup_no (by omega), jup_no (by omega)]
theorem clr_at : clr hd m hd 1 = nI 0 ∧ clr hd m hd 2 = nI 0 ∧ clr hd m hd 7 = nI 0 ∧ clr hd m hd 10 = nI 0 ∧ clr hd m hd 11 = nI 0 := by
  unfold clr
  refine ⟨?_, ?_, ?_, ?_, jup_at⟩
  · rw [jup_no (by omega), jup_no (by omega), jup_no (by omega), jup_no (by omega)]; exact jup_at
  · rw [jup_no (by omega), jup_no (by omega), jup_no (by omega)]; exact jup_at
  · rw [jup_no (by omega), jup_no (by omega)]; exact jup_at
  · rw [jup_no (by omega)]; exact jup_at
theorem e_takes0 (hh : hd = 3 ∨ hd = 12) (hn4 : n ≤ 400) (hB : ∀ i, m 2 i = nI (B i) ∧ B i < 256) : ∃ m' K, f_R_takes (nI n) hd m = lp_R_takes_37 kT1 5000 (nI 0) m' ∧ TS B n K (m' 25) (m' 26) (m' 27) ∧ m' 24 5 = nI (K + 1) ∧ (m' 21 1 = nI 0 ∧ m' 21 2 = m' 25 0 ∧ m' 21 3 = m' 27 0 ∧ m' 21 4 = nI 0 ∧ m' 21 5 = nM ∧ m' 21 6 = nI hd) ∧ (m' hd 1 = nI 0 ∧ m' hd 2 = nI 0 ∧ m' hd 7 = nI 0 ∧ m' hd 10 = nI 0 ∧ m' hd 11 = nI 0) ∧ ∀ q k, ¬ q = 21 → ¬ (24 ≤ q ∧ q ≤ 27) → ¬ q = hd → m' q k = m q k := by
  obtain ⟨m2, K, e1, ts, e2, e3⟩ := e_cutTS hn4 hB
  obtain ⟨m9, hm9⟩ : ∃ y, y = jup (jup (clr hd (jup m2 21 6 (nI hd))) 21 4 (nI 0)) 21 5 nM := ⟨_, rfl⟩
  have h9 : ∀ q k, ¬ (q = 21 ∧ (k = 4 ∨ k = 5 ∨ k = 6)) → ¬ (q = hd ∧ (k = 1 ∨ k = 2 ∨ k = 7 ∨ k = 10 ∨ k = 11)) → m9 q k = m2 q k := fun q k a b => by rw [hm9, jup_no (by omega), jup_no (by omega), clr_ne b, jup_no (by omega)]
  have r9 : ∀ q, ¬ q = 21 → ¬ q = hd → m9 q = m2 q := fun q a b => funext fun k => h9 q k (by omega) (by omega)
  have Kn := ts.Kn
  have hk : ∃ τ, 1001 ≤ τ ∧ τ ≤ 1033 ∧ m2 25 0 = nI τ := by
    by_cases z : 0 < K
    · exact tk_rgA (ts.tk 0 z).2.2
    · exact ⟨1001, by omega, by omega, by have := ts.tK; rw [show K = 0 by omega] at this; exact this⟩
  have es := e_stepTo (T := m2 25) (W := m2 27) (m := m9) (i := 0) (Nat.zero_le K) (by omega) (by rw [r9 24 (by omega) (by omega)]; exact e2) (r9 25 (by omega) (by omega)) (r9 27 (by omega) (by omega)) hk
  obtain ⟨m', hm'⟩ : ∃ y, y = jup (jup (jup m9 21 1 (nI 0)) 21 2 (m2 25 0)) 21 3 (m2 27 0) := ⟨_, rfl⟩
  have h' : ∀ q k, ¬ (q = 21 ∧ 1 ≤ k ∧ k ≤ 3) → m' q k = m9 q k := fun q k a => by rw [hm', jup_no (by omega), jup_no (by omega), jup_no (by omega)]
  have rr : ∀ q, ¬ q = 21 → ¬ q = hd → m' q = m2 q := fun q a b => funext fun k => by rw [h' q k (by omega), h9 q k (by omega) (by omega)]
  obtain ⟨z1, z2, z3, z4, z5⟩ := clr_at (hd := hd) (m := jup m2 21 6 (nI hd))
  have hcl : f_H_clear hd (jup m2 21 6 (nI hd)) = some ((), clr hd (jup m2 21 6 (nI hd))) := by
    unfold f_H_clear clr
    simp only [lits]
    rw [jpu_e, jpu_e, jpu_e, jpu_e, jpu_e]
  have e0 : Int32.ofNat hd = nI hd := rfl
  refine ⟨m', K, ?_, ?_, ?_, ⟨?_, ?_, ?_, ?_, ?_, ?_⟩, ⟨?_, ?_, ?_, ?_, ?_⟩, fun q k a b d => ?_⟩
  · unfold f_R_takes
    simp only [lits, negs]
    rw [e1, jbd_s, jgd_T (by omega), jpu_e, e0, jup_at, nI_clamp (by omega), jgd_hok hh, hcl, jbd_s, jpu_e, jpu_e, ← hm9, es, jbd_s, ← hm']
    rfl
  · rw [rr 25 (by omega) (by omega), rr 26 (by omega) (by omega), rr 27 (by omega) (by omega)]; exact ts
  · rw [rr 24 (by omega) (by omega)]; exact e2
  · rw [hm', jup_no (by omega), jup_no (by omega)]; exact jup_at
  · rw [rr 25 (by omega) (by omega), hm', jup_no (by omega)]; exact jup_at
  · rw [rr 27 (by omega) (by omega), hm']; exact jup_at
  · rw [h' _ _ (by omega), hm9, jup_no (by omega)]; exact jup_at
  · rw [h' _ _ (by omega), hm9]; exact jup_at
  · rw [h' _ _ (by omega), hm9, jup_no (by omega), jup_no (by omega), clr_ne (by omega)]; exact jup_at
  · rw [h' _ _ (by omega), hm9, jup_no (by omega), jup_no (by omega)]; exact z1
  · rw [h' _ _ (by omega), hm9, jup_no (by omega), jup_no (by omega)]; exact z2
  · rw [h' _ _ (by omega), hm9, jup_no (by omega), jup_no (by omega)]; exact z3
  · rw [h' _ _ (by omega), hm9, jup_no (by omega), jup_no (by omega)]; exact z4
  · rw [h' _ _ (by omega), hm9, jup_no (by omega), jup_no (by omega)]; exact z5
  · rw [rr q a d, e3 q (by omega) (by omega) (by omega) (by omega)]
theorem e_text0 (ts : TS B n K T Pl W) (hB : ∀ i, M 110 i = nI (B i) ∧ B i < 256) (ht : nI n ≤ M 109 2) : ∃ M', f_M_text (nI n) M = lp_M_text_106 kT2 5000 M' ∧ (M' 109 16 = nI n ∧ M' 109 17 = nI (enF B n K 0) ∧ M' 109 18 = Pl 0 ∧ tkR (T 0) (W 0) (M' 109 19) (M' 109 20)) ∧ (M' 109 21 = nI 0 ∧ M' 109 22 = nM ∧ M' 109 7 = nI 0 ∧ M' 109 5 = nI 0 ∧ M' 109 12 = nI 0 ∧ M' 109 14 = nI 0 ∧ M' 109 15 = nI 0 ∧ M' 115 9 = nI 0 ∧ M' 109 2 = nI 0) ∧ (∀ w, w < 6 → M' 116 (6 + w) = nI 1) ∧ ∀ q k, ¬ (q = 109 ∧ (k = 0 ∨ k = 2 ∨ k = 5 ∨ k = 7 ∨ k = 12 ∨ (14 ≤ k ∧ k ≤ 22))) → ¬ (q = 115 ∧ k = 9) → ¬ (q = 116 ∧ 6 ≤ k) → M' q k = M q k := by
  have n4 := ts.n4
  have Kn := ts.Kn
  obtain ⟨M2, hM2⟩ : ∃ y, y = jup (jup (jup (jup (jup (jup (jup (jup (jup (jup (jup (jup M 109 0 (nI 0)) 109 16 (nI n)) 109 2 (nI 0)) 109 17 (nI 0)) 109 21 (nI 0)) 109 22 nM) 109 7 (nI 0)) 109 5 (nI 0)) 109 12 (nI 0)) 109 14 (nI 0)) 109 15 (nI 0)) 115 9 (nI 0) := ⟨_, rfl⟩
  have d2 : ∀ q k, ¬ (q = 109 ∧ (k = 0 ∨ k = 2 ∨ k = 5 ∨ k = 7 ∨ k = 12 ∨ (14 ≤ k ∧ k ≤ 22))) → ¬ (q = 115 ∧ k = 9) → M2 q k = M q k := fun q k a b => by rw [hM2, jup_no (by omega), jup_no (by omega), jup_no (by omega), jup_no (by omega), jup_no (by omega), jup_no (by omega), jup_no (by omega), jup_no (by omega), jup_no (by omega), jup_no (by omega), jup_no (by omega), jup_no (by omega)]
  obtain ⟨M3, g1, g2, g3⟩ := lp_t80 (k102 := fun m14 => jbd (f_M_next m14) fun _ m16 => lp_M_text_106 kT2 5000 m16) 6 5000 0 M2 (by omega) (by omega)
  have h16 : M3 109 16 = nI n := by rw [g2 _ _ (by omega), hM2, jup_no (by omega), jup_no (by omega), jup_no (by omega), jup_no (by omega), jup_no (by omega), jup_no (by omega), jup_no (by omega), jup_no (by omega), jup_no (by omega), jup_no (by omega)]; exact jup_at
  have h17 : M3 109 17 = nI 0 := by rw [g2 _ _ (by omega), hM2, jup_no (by omega), jup_no (by omega), jup_no (by omega), jup_no (by omega), jup_no (by omega), jup_no (by omega), jup_no (by omega), jup_no (by omega)]; exact jup_at
  have hB3 : ∀ i, M3 110 i = nI (B i) ∧ B i < 256 := fun i => by rw [g2 _ _ (by omega), d2 _ _ (by omega) (by omega)]; exact hB i
  obtain ⟨M', e1, e2, e3, e4⟩ := e_next n4 (Nat.zero_le n) hB3 h16 h17
  have hA : f_M_text (nI n) M = lp_M_text_80 (fun m14 => jbd (f_M_next m14) fun _ m16 => lp_M_text_106 kT2 5000 m16) 5000 (nI 0) M2 := by
    unfold f_M_text
    simp only [lits, negs]
    rw [jpu_e, if_neg (nI_nlt (Nat.zero_le n) (by omega)), if_pos (by rw [jup_no (by omega)]; exact ht), jpu_e, jpu_e, jpu_e, jpu_e, jpu_e, jpu_e, jpu_e, jpu_e, jpu_e, jpu_e, st_115 (by omega), hM2]
    rfl
  have a' : ∀ q k, ¬ (q = 109 ∧ 17 ≤ k ∧ k ≤ 20) → ¬ (q = 116 ∧ 6 ≤ k) → M' q k = M2 q k := fun q k a b => by rw [e2 q k a, g2 q k (by omega)]
  have hst : stF B n 0 = skF B n 0 := rfl
  have hK : skF B n 0 = n ↔ K = 0 := by
    rw [← hst]
    constructor
    · intro z
      refine Nat.eq_zero_of_not_pos fun y => ?_
      have := (ts.tk 0 y).1
      omega
    · intro z
      have := ts.sK
      rw [z] at this
      exact this
  refine ⟨M', ?_, ⟨?_, ?_, ?_, ?_⟩, ⟨?_, ?_, ?_, ?_, ?_, ?_, ?_, ?_, ?_⟩, fun w hw => ?_, fun q k a b d => ?_⟩
  · rw [hA, g1, e1, jbd_s]
  · rw [e2 _ _ (by omega)]; exact h16
  · unfold enF
    rcases e4 with ⟨a, b, -⟩ | ⟨a, b, -⟩
    · rw [if_neg (by have := hK.mp a; omega), b]
    · rw [if_pos (Nat.pos_of_ne_zero fun z => by have := hK.mpr z; omega), b, hst]
  · rw [e3]
    by_cases z : K = 0
    · rw [hK.mpr z]
      have := ts.pK
      rw [z] at this
      exact this.symm
    · rw [(ts.tk 0 (by omega)).2.1, hst]
  · rcases e4 with ⟨a, -, b⟩ | ⟨a, -, b⟩
    · have z := hK.mp a
      have h1 := ts.tK
      have h2 := ts.wK
      rw [z] at h1 h2
      rw [h1, h2, b]
      exact tk_end
    · have z : ¬ K = 0 := fun z => by have := hK.mpr z; omega
      exact (tk_both a (fun i => (hB i).2) (ts.tk 0 (by omega)).2.2 b).1
  · rw [a' _ _ (by omega) (by omega), hM2, jup_no (by omega), jup_no (by omega), jup_no (by omega), jup_no (by omega), jup_no (by omega), jup_no (by omega), jup_no (by omega)]; exact jup_at
  · rw [a' _ _ (by omega) (by omega), hM2, jup_no (by omega), jup_no (by omega), jup_no (by omega), jup_no (by omega), jup_no (by omega), jup_no (by omega)]; exact jup_at
  · rw [a' _ _ (by omega) (by omega), hM2, jup_no (by omega), jup_no (by omega), jup_no (by omega), jup_no (by omega), jup_no (by omega)]; exact jup_at
  · rw [a' _ _ (by omega) (by omega), hM2, jup_no (by omega), jup_no (by omega), jup_no (by omega), jup_no (by omega)]; exact jup_at
  · rw [a' _ _ (by omega) (by omega), hM2, jup_no (by omega), jup_no (by omega), jup_no (by omega)]; exact jup_at
  · rw [a' _ _ (by omega) (by omega), hM2, jup_no (by omega), jup_no (by omega)]; exact jup_at
  · rw [a' _ _ (by omega) (by omega), hM2, jup_no (by omega)]; exact jup_at
  · rw [a' _ _ (by omega) (by omega), hM2]; exact jup_at
  · rw [a' _ _ (by omega) (by omega), hM2, jup_no (by omega), jup_no (by omega), jup_no (by omega), jup_no (by omega), jup_no (by omega), jup_no (by omega), jup_no (by omega), jup_no (by omega), jup_no (by omega)]; exact jup_at
  · rw [e2 _ _ (by omega)]; exact g3 w (by omega) hw
  · rw [a' q k (by omega) d, d2 q k a b]
theorem e_textEnd (f : M 109 21 = nI 0) : ∃ M', kT2 M = some (M 109 15, M') ∧ (∀ q k, ¬ (q = 109 ∧ (k = 23 ∨ k = 24 ∨ k = 11 ∨ k = 6)) → ¬ ((q = 111 ∨ q = 112) ∧ k < 64) → ¬ ((113 ≤ q ∧ q ≤ 115) ∧ k < 9) → ¬ (q = 116 ∧ k < 6) → M' q k = M q k) ∧ (M' 109 23 = nI 0 ∧ M' 109 24 = M 109 22 ∧ M' 109 11 = M 109 12 ∧ M' 109 6 = M 109 7) ∧ (∀ k, k < 64 → M' 111 k = M 111 (64 + k) ∧ M' 112 k = M 112 (64 + k)) ∧ (∀ k, k < 9 → M' 113 k = jbz (M 113 (9 + k)) ∧ M' 114 k = M 114 (9 + k) ∧ M' 115 k = M 115 (9 + k)) ∧ ∀ w, w < 6 → M' 116 w = M 116 (6 + w) := by
  obtain ⟨M1, hM1⟩ : ∃ y, y = jup (jup M 109 23 (nI 0)) 109 24 (M 109 22) := ⟨_, rfl⟩
  have d1 : ∀ q k, ¬ (q = 109 ∧ (k = 23 ∨ k = 24)) → M1 q k = M q k := fun q k a => by rw [hM1, jup_no (by omega), jup_no (by omega)]
  obtain ⟨M2, a1, a2, a3⟩ := lp_t155 (k197 := kT3) 64 5000 0 M1 (by omega) (by omega)
  obtain ⟨M3, b1, b2, b3⟩ := lp_t199 (k256 := kT4) 9 5000 0 M2 (by omega) (by omega)
  obtain ⟨M4, c1, c2, c3⟩ := lp_t258 (k285 := kT5) 6 5000 0 M3 (by omega) (by omega)
  have all : ∀ q k, ¬ (q = 109 ∧ (k = 23 ∨ k = 24)) → ¬ ((q = 111 ∨ q = 112) ∧ k < 64) → ¬ ((113 ≤ q ∧ q ≤ 115) ∧ k < 9) → ¬ (q = 116 ∧ k < 6) → M4 q k = M q k := fun q k x y z w => by rw [c2 q k (by omega), b2 q k (by omega), a2 q k (by omega), d1 q k x]
  obtain ⟨M', hM'⟩ : ∃ y, y = jup (jup M4 109 11 (M 109 12)) 109 6 (M 109 7) := ⟨_, rfl⟩
  have d' : ∀ q k, ¬ (q = 109 ∧ (k = 11 ∨ k = 6)) → M' q k = M4 q k := fun q k a => by rw [hM', jup_no (by omega), jup_no (by omega)]
  refine ⟨M', ?_, fun q k x y z w => ?_, ⟨?_, ?_, ?_, ?_⟩, fun k hk => ⟨?_, ?_⟩, fun k hk => ⟨?_, ?_, ?_⟩, fun w hw => ?_⟩
  · unfold kT2
    rw [jpu_e, jpu_e, f, jup_no (by omega), jup_no (by omega), jup_no (by omega), f, if_pos rfl, ← hM1, a1]
    unfold kT3
    rw [b1]
    unfold kT4
    rw [c1]
    unfold kT5
    rw [jpu_e, jpu_e, all 109 12 (by omega) (by omega) (by omega) (by omega), show jup M4 109 11 (M 109 12) 109 7 = M 109 7 by rw [jup_no (by omega)]; exact all 109 7 (by omega) (by omega) (by omega) (by omega), ← hM', d' 109 15 (by omega), all 109 15 (by omega) (by omega) (by omega) (by omega)]
  · rw [d' q k (by omega), all q k (by omega) y z w]
  · rw [d' _ _ (by omega), c2 _ _ (by omega), b2 _ _ (by omega), a2 _ _ (by omega), hM1, jup_no (by omega)]; exact jup_at
  · rw [d' _ _ (by omega), c2 _ _ (by omega), b2 _ _ (by omega), a2 _ _ (by omega), hM1]; exact jup_at
  · rw [hM', jup_no (by omega)]; exact jup_at
  · rw [hM']; exact jup_at
  · rw [d' _ _ (by omega), c2 _ _ (by omega), b2 _ _ (by omega), (a3 k (by omega) hk).1, d1 _ _ (by omega)]
  · rw [d' _ _ (by omega), c2 _ _ (by omega), b2 _ _ (by omega), (a3 k (by omega) hk).2, d1 _ _ (by omega)]
  · rw [d' _ _ (by omega), c2 _ _ (by omega), (b3 k (by omega) hk).1, a2 _ _ (by omega), d1 _ _ (by omega)]
  · rw [d' _ _ (by omega), c2 _ _ (by omega), (b3 k (by omega) hk).2.1, a2 _ _ (by omega), d1 _ _ (by omega)]
  · rw [d' _ _ (by omega), c2 _ _ (by omega), (b3 k (by omega) hk).2.2, a2 _ _ (by omega), d1 _ _ (by omega)]
  · rw [d' _ _ (by omega), c3 w (by omega) hw, b2 _ _ (by omega), a2 _ _ (by omega), d1 _ _ (by omega)]
theorem e_textBad {k : Nat} (f : M 109 21 = nI k) (hk : ¬ nI k = nI 0) : kT2 M = some (nM, jup (jup M 109 23 (nI k)) 109 24 (M 109 22)) := by
  unfold kT2
  rw [jpu_e, jpu_e, f, jup_no (by omega), jup_no (by omega), jup_no (by omega), f, if_neg hk]
end TE
