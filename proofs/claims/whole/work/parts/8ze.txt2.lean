/-! text -/
section TF
variable {N C : Nat} {m : jMem}
theorem kT1_0 {m : jMem} (h : m 21 4 = nI 0) : kT1 m = some (nI 1, m) := by
  unfold kT1
  rw [h, if_pos rfl]
theorem kT1_k {m : jMem} {k : Nat} (h : m 21 4 = nI k) (hk : ¬ nI k = nI 0) : kT1 m = some (nI 0, m) := by
  unfold kT1
  rw [h, if_neg hk]
theorem o_text (r : Rel N C m) (x : Int32) : Ost (f_C_text x) (f_M_text x) m := by
  obtain ⟨t, ht, t1, t2, t3, t4⟩ := id r.2.2.1
  by_cases hx : x < nI 0 ∨ ¬ x ≤ nI t
  · refine Ost.no (v := -(nI 2)) r ?_ ?_
    · unfold f_C_text
      simp only [lits, negs]
      by_cases z : x < nI 0
      · rw [if_pos z]
      · rw [if_neg z, t1, if_neg (hx.resolve_left z)]
    · unfold f_M_text
      simp only [lits, negs]
      rw [jpu_e]
      by_cases z : x < nI 0
      · rw [if_pos z]
      · rw [if_neg z, jup_no (by omega), t2, if_neg (hx.resolve_left z)]
  · obtain ⟨hx1, hx2⟩ := not_or.mp hx
    obtain ⟨n, hn, rfl⟩ := nI_of2 (x := x) (M := nI t) (n := t) (nI_toInt (by omega)) hx1 (Classical.not_not.mp hx2)
    refine Ost.two r (fun M r2 => ?_) fr_C_text fr_M_text rfl rfl
    obtain ⟨hb, hd, hbd, x1, x2, x3, x4, x5, x6, H0, hH0, x7, x8, x9⟩ := id r2.2.2.2.2.2.2.2.2.2.2
    obtain ⟨t', ht', s1, s2, s3, s4⟩ := id r2.2.2.1
    obtain rfl : t' = t := nI_ij (by omega) (by omega) (s1.symm.trans t1)
    have hh : hd = 3 ∨ hd = 12 := by omega
    have hB : ∀ i, m 2 i = nI ((m 2 i).toNatClampNeg) ∧ (m 2 i).toNatClampNeg < 256 := fun i => by
      obtain ⟨b, b1, b2⟩ := s4 i
      rw [b2, nI_clamp (by omega)]
      exact ⟨rfl, b1⟩
    generalize hBd : (fun i => (m 2 i).toNatClampNeg) = B
    have hB : ∀ i, m 2 i = nI (B i) ∧ B i < 256 := fun i => by rw [← hBd]; exact hB i
    obtain ⟨m1, K, a1, ts, a2, ⟨a3, a4, a5, a6, a7, a8⟩, ⟨b1, b2, b3, b4, b5⟩, a9⟩ := e_takes0 (n := n) (m := jup m 1 1 (nI 0)) hh (by omega) (fun i => by rw [jup_no (by omega)]; exact hB i)
    generalize hTd : m1 25 = T at ts a4
    generalize hPd : m1 26 = Pl at ts
    generalize hWd : m1 27 = W at ts a5
    have hBM : ∀ i, M 110 i = nI (B i) ∧ B i < 256 := fun i => by rw [s3]; exact hB i
    obtain ⟨M1, c1, ⟨c2, c3, c4, c5⟩, ⟨c6, c7, c8, c9, c10, c11, c12, c13, c14⟩, c15, c16⟩ := e_text0 ts hBM (by rw [s2]; exact nI_le hn (by omega))
    have tx : TX B n K T Pl W m1 M1 0 := ⟨Nat.zero_le K, a2, hTd, hPd, hWd, a3, a4, a5, c2, fun i => by rw [c16 _ _ (by omega) (by omega) (by omega)]; exact hBM i, c3, c4, c5, a7, c7⟩
    have lx : LX B n K T Pl W hd m1 M1 0 0 0 0 := ⟨tx, a6, c6, a8, b5, c8, by omega, ⟨b4, c9, fun k hk => absurd hk (Nat.not_lt_zero k)⟩, b3, c10, by omega, b2, c12, by rw [b1, c11], fun w hw => ⟨1, by omega, c15 w hw, by rw [b1, b_n0, if_neg Bool.false_ne_true]⟩, fun h hh => absurd hh (Nat.not_lt_zero h), c13⟩
    obtain ⟨m', M', e1, e2, e3, e4, e5⟩ := sim_lns (k120 := kT1) (k128 := kT2) hh ts K 5000 5000 0 m1 M1 0 0 0 0 (by omega) (by have := ts.Kn; omega) (by have := ts.Kn; omega) (Nat.le_refl 0) lx
    have gC : ∀ q k, ¬ (21 ≤ q ∧ q ≤ 27) → ¬ (hd ≤ q ∧ q ≤ hd + 7) → ¬ (q = 1 ∧ k = 1) → m' q k = m q k := fun q k a b d => by rw [e3 q k (by omega) (by omega) b, a9 q k (by omega) (by omega) (by omega), jup_no d]
    have gM : ∀ q k, ¬ (q = 109 ∧ (k = 0 ∨ k = 2 ∨ k = 5 ∨ k = 7 ∨ k = 12 ∨ (14 ≤ k ∧ k ≤ 22) ∨ k = 26 ∨ k = 27)) → ¬ ((q = 111 ∨ q = 112) ∧ 64 ≤ k) → ¬ ((113 ≤ q ∧ q ≤ 115) ∧ 9 ≤ k) → ¬ (q = 116 ∧ 6 ≤ k) → ¬ q = 117 → M' q k = M q k := fun q k a b d e f => by rw [e4 q k (by omega) b d e f, c16 q k (by omega) (by omega) e]
    have m13 : m' 1 3 = nI hd := by rw [gC 1 3 (by omega) (by omega) (by omega)]; exact x2
    have m12 : m' 1 2 = nI hb := by rw [gC 1 2 (by omega) (by omega) (by omega)]; exact x1
    have m11 : m' 1 1 = nI 0 := by rw [e3 1 1 (by omega) (by omega) (by omega), a9 1 1 (by omega) (by omega) (by omega)]; exact jup_at
    have M02 : M' 109 2 = nI 0 := by rw [e4 109 2 (by omega) (by omega) (by omega) (by omega) (by omega)]; exact c14
    have m2r : m' 2 = m 2 := funext fun k => gC 2 k (by omega) (by omega) (by omega)
    have M110 : M' 110 = m 2 := by rw [← s3]; exact funext fun k => gM 110 k (by omega) (by omega) (by omega) (by omega) (by omega)
    have eT : f_R_takes (nI n) hd (jup m 1 1 (nI 0)) = kT1 m' := by rw [a1, e1]
    have eM : f_M_text (nI n) M = kT2 M' := by rw [c1, e2]
    rcases e5 with ⟨j, c, H, L, h⟩ | ff
    · obtain ⟨M2, d1, d2, ⟨d3, d4, d5, d6⟩, d7, d8, d9⟩ := e_textEnd h.f1
      obtain ⟨mf, hmf⟩ : ∃ y, y = jup (jup m' 1 2 (nI hd)) 1 3 (nI hb) := ⟨_, rfl⟩
      have hf : ∀ q k, ¬ (q = 1 ∧ (k = 2 ∨ k = 3)) → mf q k = m' q k := fun q k a => by rw [hmf, jup_no (by omega), jup_no (by omega)]
      have rf : ∀ q, ¬ q = 1 → mf q = m' q := fun q a => funext fun k => hf q k (by omega)
      have eh : Int32.ofNat hd = nI hd := rfl
      have eb : Int32.ofNat hb = nI hb := rfl
      refine ⟨nI L, mf, M2, N, C, ?_, ?_, ?_⟩
      · unfold f_C_text
        simp only [lits, negs]
        rw [if_neg hx1, t1, if_pos (nI_le hn (by omega)), jpu_e, jup_no (by omega), x2, nI_clamp (by omega), eT, kT1_0 h.f0, jbd_s, if_neg (by decide), m13, nI_clamp (by omega), jgd_T (by omega), jpu_e, m12, nI_clamp (by omega), jgd_T (by omega), jpu_e, eh, eb, ← hmf]
        have z : mf 1 2 = nI hd := by rw [hmf, jup_no (by omega)]; exact jup_at
        rw [z, nI_clamp (by omega), jgd_hok hh, hf hd 2 (by omega), h.l1]
      · rw [eM, d1, h.l2]
      · refine Rel2_txt (fun q hq => funext fun k => by rw [hf q k (by omega), gC q k (by omega) (by omega) (by omega)]) (by rw [hf 1 6 (by omega), gC 1 6 (by omega) (by omega) (by omega)]) (fun q hq => funext fun k => by rw [d2 q k (by omega) (by omega) (by omega) (by omega), gM q k (by omega) (by omega) (by omega) (by omega) (by omega)]) (fun k hk => by rw [d2 109 k (by omega) (by omega) (by omega) (by omega), gM 109 k (by omega) (by omega) (by omega) (by omega) (by omega)]) ?_ ?_ r2
        · refine ⟨0, by omega, by rw [hf 1 1 (by omega)]; exact m11, by rw [d2 109 2 (by omega) (by omega) (by omega) (by omega)]; exact M02, ?_, fun i => by rw [hf 2 i (by omega), m2r]; exact s4 i⟩
          rw [rf 2 (by omega), m2r, ← M110]
          exact funext fun k => d2 110 k (by omega) (by omega) (by omega) (by omega)
        · refine ⟨hd, hb, by omega, by rw [hmf, jup_no (by omega)]; exact jup_at, by rw [hmf]; exact jup_at, ?_, ?_, ?_, fun w hw => ?_, H, h.h8, ?_, ?_, fun i hi => ?_⟩
          · rw [d3, hf 21 4 (by omega), h.f0]
          · rw [d4, hf 21 5 (by omega), h.tx.p5, h.tx.p22]
          · rw [d6, hf hd 11 (by omega), h.k1, h.k2]
          · obtain ⟨q, z1, z2, z3⟩ := h.rl w hw
            refine ⟨q, z1, by rw [d9 w hw]; exact z2, ?_⟩
            rw [hf hd 1 (by omega), hf (hd + 1) w (by omega)]
            exact z3
          · rw [hf hd 7 (by omega)]; exact h.h1
          · rw [d5]; exact h.h2
          · have h8 := h.h8
            have c64 := h.c64
            obtain ⟨y1, ⟨z, y2, y3⟩, b, e, y4, y5, y6, y7, y8, y9, y10, y11⟩ := h.hb i hi
            refine ⟨fun w hw => ?_, ⟨z, ?_, ?_⟩, b, e, y4, by omega, ?_, ?_, ?_, ?_, fun k z1 z2 => ?_, ?_, ?_⟩
            · rw [hf _ _ (by omega), (d8 i (by omega)).2.1]; exact y1 w hw
            · rw [hf _ _ (by omega)]; exact y2
            · rw [(d8 i (by omega)).1, y3]; exact jbz01 z
            · rw [hf _ _ (by omega)]; exact y6
            · rw [(d8 i (by omega)).2.2]; exact y7
            · rw [hf _ _ (by omega)]; exact y8
            · rw [(d8 (i + 1) (by omega)).2.2]; exact y9
            · rw [hf _ _ (by omega), hf _ _ (by omega), (d7 k (by omega)).1, (d7 k (by omega)).2]
              exact h.cd.c3 k (by omega)
            · exact dpOK_cong (fun k _ => hf _ _ (by omega)) y10
            · rw [dpS_cong (f := m' (hd + 6)) (fun k _ => hf _ _ (by omega))]; exact y11
    · obtain ⟨⟨k, k1, k2, k3, k4⟩, kp⟩ := ff
      have k0 : ¬ nI k = nI 0 := fun z => by have := nI_ij (by omega) (by omega) z; omega
      obtain ⟨M2, hM2⟩ : ∃ y, y = jup (jup M' 109 23 (nI k)) 109 24 (M' 109 22) := ⟨_, rfl⟩
      have d2 : ∀ q k, ¬ (q = 109 ∧ (k = 23 ∨ k = 24)) → M2 q k = M' q k := fun q k a => by rw [hM2, jup_no (by omega), jup_no (by omega)]
      refine ⟨nM, m', M2, N, C, ?_, ?_, ?_⟩
      · unfold f_C_text
        simp only [lits, negs]
        rw [if_neg hx1, t1, if_pos (nI_le hn (by omega)), jpu_e, jup_no (by omega), x2, nI_clamp (by omega), eT, kT1_k k3 k0, jbd_s, if_pos rfl]
      · rw [eM, e_textBad k4 k0, ← hM2]
      · refine Rel2_txt (fun q hq => funext fun k => gC q k (by omega) (by omega) (by omega)) (gC 1 6 (by omega) (by omega) (by omega)) (fun q hq => funext fun k => by rw [d2 q k (by omega), gM q k (by omega) (by omega) (by omega) (by omega) (by omega)]) (fun k hk => by rw [d2 109 k (by omega), gM 109 k (by omega) (by omega) (by omega) (by omega) (by omega)]) ?_ ?_ r2
        · refine ⟨0, by omega, m11, by rw [d2 109 2 (by omega)]; exact M02, ?_, fun i => by rw [m2r]; exact s4 i⟩
          rw [m2r, ← M110]
          exact funext fun k => d2 110 k (by omega)
        · refine ⟨hb, hd, hbd, m12, m13, ?_, ?_, ?_, fun w hw => ?_, H0, hH0, ?_, ?_, fun i hi => ?_⟩
          · rw [hM2, jup_no (by omega), jup_at, k3]
          · rw [hM2, jup_at, kp]
          · rw [d2 109 6 (by omega), gM 109 6 (by omega) (by omega) (by omega) (by omega) (by omega), gC hb 11 (by omega) (by omega) (by omega)]; exact x5
          · rw [d2 116 w (by omega), gM 116 w (by omega) (by omega) (by omega) (by omega) (by omega), gC hb 1 (by omega) (by omega) (by omega), gC (hb + 1) w (by omega) (by omega) (by omega)]; exact x6 w hw
          · rw [gC hb 7 (by omega) (by omega) (by omega)]; exact x7
          · rw [d2 109 11 (by omega), gM 109 11 (by omega) (by omega) (by omega) (by omega) (by omega)]; exact x8
          · obtain ⟨y1, ⟨z, y2, y3⟩, b, e, y4, y5, y6, y7, y8, y9, y10, y11, y12⟩ := x9 i hi
            have cc : ∀ q k, hb + 2 ≤ q → q ≤ hb + 7 → m' q k = m q k := fun q k a b => gC q k (by omega) (by omega) (by omega)
            refine ⟨fun w hw => ?_, ⟨z, ?_, ?_⟩, b, e, y4, y5, ?_, ?_, ?_, ?_, fun k z1 z2 => ?_, ?_, ?_⟩
            · rw [cc _ _ (by omega) (by omega), d2 _ _ (by omega), gM _ _ (by omega) (by omega) (by omega) (by omega) (by omega)]; exact y1 w hw
            · rw [cc _ _ (by omega) (by omega)]; exact y2
            · rw [d2 _ _ (by omega), gM _ _ (by omega) (by omega) (by omega) (by omega) (by omega)]; exact y3
            · rw [cc _ _ (by omega) (by omega)]; exact y6
            · rw [d2 _ _ (by omega), gM _ _ (by omega) (by omega) (by omega) (by omega) (by omega)]; exact y7
            · rw [cc _ _ (by omega) (by omega)]; exact y8
            · rw [d2 _ _ (by omega), gM _ _ (by omega) (by omega) (by omega) (by omega) (by omega)]; exact y9
            · rw [cc _ _ (by omega) (by omega), cc _ _ (by omega) (by omega), d2 _ _ (by omega), gM _ _ (by omega) (by omega) (by omega) (by omega) (by omega), d2 _ _ (by omega), gM _ _ (by omega) (by omega) (by omega) (by omega) (by omega)]
              exact y10 k z1 z2
            · exact dpOK_cong (fun k _ => cc _ _ (by omega) (by omega)) y11
            · rw [dpS_cong (f := m (hb + 6)) (fun k _ => cc _ _ (by omega) (by omega))]; exact y12
end TF
