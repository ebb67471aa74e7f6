/-! the writers in a row, on both sides -/
def frT (m m' : jMem) : Prop := ∀ q k, ¬ (q = 21 ∧ 1 ≤ k ∧ k ≤ 5) → m' q k = m q k
def frU (M M' : jMem) : Prop := ∀ q k, ¬ (q = 109 ∧ 17 ≤ k ∧ k ≤ 22) → M' q k = M q k
def six (v : Int32) : Prop := ∀ x, 6 ≤ x → bt v x = false
theorem frT.tr {m m' m'' : jMem} (h : frT m m') (h2 : frT m' m'') : frT m m'' := fun q k a => (h2 q k a).trans (h q k a)
theorem frU.tr {m m' m'' : jMem} (h : frU m m') (h2 : frU m' m'') : frU m m'' := fun q k a => (h2 q k a).trans (h q k a)
theorem frT.rf {m : jMem} : frT m m := fun _ _ _ => rfl
theorem frU.rf {m : jMem} : frU m m := fun _ _ _ => rfl
theorem b_sb' {i j : Nat} (hi : i < 32) : bt (sb i) j = decide (j = i) := by
  rcases Nat.lt_or_ge j 32 with h | h
  · exact b_sb hi h
  · rw [b_big h, decide_eq_false (by omega)]
theorem six_0 : six (nI 0) := fun x _ => b_n0 x
theorem six_or {v : Int32} {x : Nat} (h : six v) (hx : x < 6) : six (v ||| sb x) := fun y hy => by rw [b_or, h y hy, b_sb' (by omega), decide_eq_false (by omega)]; rfl
theorem six_ne {v : Int32} {x : Nat} (h : bt v x = true) : ¬ v = nI 0 := fun z => by rw [z, b_n0] at h; exact absurd h (by decide)
theorem ct_or {v : Int32} {x : Nat} (hx : x < 6) (h : bt v x = false) : fb_ct (bt (v ||| sb x)) 6 = fb_ct (bt v) 6 + 1 := by
  have h1 := fb_ct_upd (bt v) true (i := x) (n := 6) hx
  rw [h, if_neg (by decide), if_pos rfl] at h1
  rw [← h1]
  refine fb_ct_cong fun k hk => ?_
  rw [b_or, b_sb' (by omega)]
  by_cases z : k = x
  · rw [if_pos z, decide_eq_true z, Bool.or_true]
  · rw [if_neg z, decide_eq_false z, Bool.or_false]
section WR
variable {B : Nat → Nat} {n K : Nat} {T Pl W : Nat → Int32} {m M : jMem} {j : Nat}
theorem FF.fl {k : Nat} {p : Int32} (h1 : 1 ≤ k) (h3 : k ≤ 3) : FF (flC k p m) (wrM k p M) := by
  refine ⟨⟨k, h1, h3, ?_, wr21⟩, ?_⟩
  · unfold flC
    rw [jup_ok (by omega)]; exact jup_at
  · unfold wrM flC
    rw [jup_at, jup_at]
theorem frT_fl {k : Nat} {p : Int32} : frT m (flC k p m) := fun q k' a => by
  unfold flC
  rw [jup_no (by omega), jup_no (by omega)]
theorem frU_wr {k : Nat} {p : Int32} : frU M (wrM k p M) := fun q k' a => by
  unfold wrM
  rw [jup_no (by omega), jup_no (by omega)]
theorem frT_cst : frT m (cst T W m j) := fun q k a => cst_ne (by omega)
theorem sim_wrs (ts : TS B n K T Pl W) {taken : Int32} {k91 k88 : Int32 → jMem → Option (Int32 × jMem)} {k70 : jMem → Option (Int32 × jMem)} : ∀ (d f f' i : Nat) (v : Int32) (m M : jMem) (j : Nat), j + d = K → d + 2 < f → d + 2 < f' → i ≤ fb_ct (bt v) 6 → six v → TX B n K T Pl W m M j → m 21 4 = nI 0 → M 109 21 = nI 0 → ∃ v' m' M', lp_R_takeWriters_4 taken k91 f v (nI i) m = k91 v' m' ∧ frT m m' ∧ frU M M' ∧ ((∃ j', lp_M_writers_2 taken k70 k88 f' v M = k88 v' M' ∧ j ≤ j' ∧ TX B n K T Pl W m' M' j' ∧ m' 21 4 = nI 0 ∧ M' 109 21 = nI 0 ∧ six v' ∧ ¬ T j' = nI 1003 ∧ (T j = nI 1003 ∨ ¬ v = nI 0 → ¬ v' = nI 0)) ∨ (lp_M_writers_2 taken k70 k88 f' v M = k70 M' ∧ FF m' M')) := by
  intro d
  induction d with
  | zero =>
    intro f f' i v m M j hj hf hf' hi h6 tx f0 f1
    obtain ⟨f, rfl⟩ := ex_succ (by omega : 0 < f)
    obtain ⟨f', rfl⟩ := ex_succ (by omega : 0 < f')
    have hT : T j = nI 1001 := by rw [show j = K by omega]; exact ts.tK
    have htok : m 21 2 = nI 1001 := tx.tok.trans hT
    have hi6 : i ≤ 6 := Nat.le_trans hi (fb_ct_le _ 6)
    obtain ⟨τ, t1, t2, t3, h19, -⟩ := tx.tk
    have hτ : τ = 1001 := nI_ij (by omega) (by omega) (t3.symm.trans hT)
    subst hτ
    refine ⟨v, m, M, ?_, frT.rf, frU.rf, Or.inl ⟨j, ?_, Nat.le_refl j, tx, f0, f1, h6, ?_, ?_⟩⟩
    · rw [lp_R_takeWriters_4]
      simp only [lits]
      rw [if_neg (nI_nlt (by omega) (by omega)), htok, nI_clamp (by omega), jgd_ok (by omega) (by omega), if_neg (by decide)]
    · rw [lp_M_writers_2]
      simp only [lits]
      rw [f1, if_pos rfl, h19, if_neg (by decide)]
    · rw [hT]; decide
    · rw [hT]
      exact fun z => z.resolve_left (by decide)
  | succ d ih =>
    intro f f' i v m M j hj hf hf' hi h6 tx f0 f1
    obtain ⟨f, rfl⟩ := ex_succ (by omega : 0 < f)
    obtain ⟨f', rfl⟩ := ex_succ (by omega : 0 < f')
    have hi6 : i ≤ 6 := Nat.le_trans hi (fb_ct_le _ 6)
    obtain ⟨τ, t1, t2, hT, h19, h3, -, -⟩ := tx.tk
    have htok : m 21 2 = nI τ := tx.tok.trans hT
    by_cases q3 : τ = 1003
    · subst q3
      obtain ⟨x, hx, hv, hw⟩ := h3 rfl
      have hwo : m 21 3 = nI (min 1000 x) := tx.wo.trans hw
      have hb : i = 6 → ∀ y, y < 6 → bt v y = true := fun z => fb_ct_all.mp (Nat.le_antisymm (fb_ct_le _ 6) (by omega))
      -- after a fault both go out
      have outC : ∀ k, 1 ≤ k → k ≤ 3 → lp_R_takeWriters_4 taken k91 f v (nI (i + 1)) (flC k (Pl j) m) = k91 v (flC k (Pl j) m) := fun k a b => by
        obtain ⟨f, rfl⟩ := ex_succ (by omega : 0 < f)
        have e4 : flC k (Pl j) m 21 4 = nI k := by unfold flC; rw [jup_ok (by omega)]; exact jup_at
        have e2 : flC k (Pl j) m 21 2 = nI 1003 := by unfold flC; rw [jup_no (by omega), jup_no (by omega)]; exact htok
        rw [lp_R_takeWriters_4]
        simp only [lits]
        by_cases z : nI 6 < nI (i + 1)
        · rw [if_pos z]
        · rw [if_neg z, e2, nI_clamp (by omega), jgd_ok (by omega) (by omega), if_pos rfl, e4, if_neg (fun y => by have := nI_ij (by omega) (by omega) y; omega)]
      by_cases q6 : x < 6
      · rw [Nat.min_eq_right (by omega)] at hwo
        by_cases qb : bt (taken ||| v) x = true
        · -- twice
          refine ⟨v, flC 3 (Pl j) m, wrM 3 (Pl j) M, ?_, frT_fl, frU_wr, Or.inr ⟨?_, FF.fl (by omega) (by omega)⟩⟩
          · rw [lp_R_takeWriters_4]
            simp only [lits]
            rw [if_neg (nI_nlt (by omega) (by omega)), htok, nI_clamp (by omega), jgd_ok (by omega) (by omega), if_pos rfl, f0, if_pos rfl, hwo, if_pos (nI_lt (by omega) (by omega)), e_isIn (by omega), jbd_s, qb, if_neg (by decide), e_fail ts tx, jbd_s, nI_add]
            exact outC 3 (by omega) (by omega)
          · rw [lp_M_writers_2]
            simp only [lits]
            rw [f1, if_pos rfl, h19, if_pos (by decide), hv, if_pos (nI_lt (by omega) (by omega))]
            by_cases z : bt taken x = true
            · rw [if_pos ((bit1 (by omega)).mpr z), e_wrong tx f1, jbd_s, wr21, if_neg (by decide)]
            · rw [b_or, Bool.or_eq_true] at qb
              rw [if_neg (fun y => z ((bit1 (by omega)).mp y)), if_pos ((bit1 (by omega)).mpr (qb.resolve_left z)), e_wrong tx f1, jbd_s, wr21, if_neg (by decide)]
        · have qb' := bf_of qb
          rw [b_or, Bool.or_eq_false_iff] at qb'
          obtain ⟨z1, z2⟩ := qb'
          have hi7 : ¬ i = 6 := fun z => by rw [hb z x q6] at z2; exact absurd z2 (by decide)
          obtain ⟨M1, g1, g2, g3, g4⟩ := tx.step ts (by omega)
          obtain ⟨v', m', M', w1, w2, w3, w4⟩ := ih f f' (i + 1) (v ||| sb x) (cst T W m j) M1 (j + 1) (by omega) (by omega) (by omega) (by rw [ct_or q6 z2]; omega) (six_or h6 q6) g4 (by rw [cst_ne (by omega)]; exact f0) (by rw [g3 109 21 (by omega)]; exact f1)
          have hne : ¬ v ||| sb x = nI 0 := six_ne (x := x) (by rw [b_or, b_sb' (by omega), decide_eq_true rfl, Bool.or_true])
          have eM : lp_M_writers_2 taken k70 k88 (f' + 1) v M = lp_M_writers_2 taken k70 k88 f' (v ||| sb x) M1 := by
            rw [lp_M_writers_2]
            simp only [lits]
            rw [f1, if_pos rfl, h19, if_pos (by decide), hv, if_pos (nI_lt (by omega) (by omega)), if_neg (fun y => bt_no z1 ((bit1 (by omega)).mp y)), if_neg (fun y => bt_no z2 ((bit1 (by omega)).mp y)), if_pos rfl, g2, jbd_s, sb_e]
          have fu : frU M M1 := fun q k a => g3 q k (by omega)
          refine ⟨v', m', M', ?_, frT_cst.tr w2, fu.tr w3, ?_⟩
          · rw [← w1, lp_R_takeWriters_4]
            simp only [lits]
            rw [if_neg (nI_nlt (by omega) (by omega)), htok, nI_clamp (by omega), jgd_ok (by omega) (by omega), if_pos rfl, f0, if_pos rfl, hwo, if_pos (nI_lt (by omega) (by omega)), e_isIn (by omega), jbd_s, bf_of qb, if_pos tI_f, hwo, e_bit, jbd_s, tx.at, nI_add, g1, jbd_s, nI_add]
          · rw [eM]
            rcases w4 with ⟨j', w5, w6, w7, w8, w9, w10, w11, w12⟩ | w5
            · exact Or.inl ⟨j', w5, by omega, w7, w8, w9, w10, w11, fun _ => w12 (Or.inr hne)⟩
            · exact Or.inr w5
      · -- no such writer
        refine ⟨v, flC 2 (Pl j) m, wrM 2 (Pl j) M, ?_, frT_fl, frU_wr, Or.inr ⟨?_, FF.fl (by omega) (by omega)⟩⟩
        · rw [lp_R_takeWriters_4]
          simp only [lits]
          rw [if_neg (nI_nlt (by omega) (by omega)), htok, nI_clamp (by omega), jgd_ok (by omega) (by omega), if_pos rfl, f0, if_pos rfl, hwo, if_neg (nI_nlt (by omega) (by omega)), e_fail ts tx, jbd_s, nI_add]
          exact outC 2 (by omega) (by omega)
        · rw [lp_M_writers_2]
          simp only [lits]
          rw [f1, if_pos rfl, h19, if_pos (by decide), hv, if_neg (nI_nlt (by omega) (by omega)), e_wrong tx f1, jbd_s, wr21, if_neg (by decide)]
    · have hT3 : ¬ T j = nI 1003 := by rw [hT]; exact fun z => q3 (nI_ij (by omega) (by omega) z)
      refine ⟨v, m, M, ?_, frT.rf, frU.rf, Or.inl ⟨j, ?_, Nat.le_refl j, tx, f0, f1, h6, hT3, fun z => z.resolve_left hT3⟩⟩
      · rw [lp_R_takeWriters_4]
        simp only [lits]
        rw [if_neg (nI_nlt (by omega) (by omega)), htok, nI_clamp (by omega), jgd_ok (by omega) (by omega), if_neg q3]
      · rw [lp_M_writers_2]
        simp only [lits]
        obtain ⟨x, rfl⟩ : ∃ x, τ = 1001 + x := ⟨τ - 1001, by omega⟩
        have u2 := (vl_2 x (by omega)).2.1
        have u5 := (vl_2 x (by omega)).2.2.2.2.1
        rw [f1, if_pos rfl, h19, if_neg (fun z => q3 (by have := u2.mp (nI_ij (by omega) (by omega) z); omega))]
end WR
