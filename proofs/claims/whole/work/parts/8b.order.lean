/-! the letter at a place of an order -/
theorem n_sub {a b : Nat} (h : b ≤ a) : nI a - nI b = nI (a - b) := by
  have e : nI a = nI (a - b) + nI b := by rw [nI_add, Nat.sub_add_cancel h]
  rw [e, Int32.add_sub_cancel]
theorem ex_pick (F : Nat → Nat) {q : Nat} : ∀ {S : Nat}, q < fb_sm F S → ∃ v, v < S ∧ fb_sm F v ≤ q ∧ q < fb_sm F (v + 1)
  | 0, h => absurd h (Nat.not_lt_zero q)
  | S + 1, h => by
    by_cases c : q < fb_sm F S
    · obtain ⟨v, h1, h2⟩ := ex_pick F c
      exact ⟨v, by omega, h2⟩
    · exact ⟨S, by omega, by omega, h⟩
theorem sm_mono (F : Nat → Nat) {a b : Nat} (h : a ≤ b) : fb_sm F a ≤ fb_sm F b := by
  have := fb_sm_mono F a (b - a)
  rw [show a + (b - a) = b by omega] at this
  exact this
theorem fw_bit {nd : Nat → Int32} {s i : Nat} (q : fwB nd s i = true) : s.testBit i = false ∧ nd i &&& (nI s ^^^ nM) = nI 0 := by
  unfold fwB at q
  rw [Bool.and_eq_true, decide_eq_true_iff] at q
  refine ⟨?_, q.2⟩
  cases z : s.testBit i
  · rfl
  · rw [z] at q; exact absurd q.1 (by decide)
theorem lp_wa5 {S s v : Nat} {nd : Nat → Int32} {k : Int32 → jMem → Option (Int32 × jMem)} {m : jMem} (h12 : S ≤ 12) (hv : v ≤ S) (hs : s < 2 ^ S) (hnd : m 93 = nd) (hT : ∀ t, t < 2 ^ S → m 94 t = nI (rsN nd S t)) : ∀ (d n i : Nat), i + d = v → d < n → lp_O_waysAhead_5 (nI s) (nI v) k n (nI (fb_sm (rsF nd S s) i)) (nI i) m = k (nI (fb_sm (rsF nd S s) v)) m := by
  have h4096 : 2 ^ S ≤ 4096 := Nat.pow_le_pow_right (by omega) h12
  intro d
  induction d with
  | zero =>
    intro n i hid hdn
    obtain ⟨n, rfl⟩ := ex_succ hdn
    rw [show i = v by omega]
    unfold lp_O_waysAhead_5
    simp (disch := omega) only [lits, negs, nI_add, nn1, leT, leF, ltT, ltF, eqF, mF1, mF2, mF3, mF4, mF5, mF6, mTT, eq_self, Nat.reduceEqDiff, ↓reduceIte, jbd_s, jpu_e, tI0, tI1, jgd_tI, jgd_bb, tfF, ftF, jup_at, jup_oc, jup_ok]
  | succ d ih =>
    intro n i hid hdn
    obtain ⟨n, rfl⟩ := ex_succ hdn
    have e := ih n (i + 1) (by omega) (by omega)
    unfold lp_O_waysAhead_5
    rw [fb_sm_succ] at e
    simp only [lits]
    have ef := e_mayFollow (s := s) (m := m) h12 (by omega : i < S)
    rw [hnd] at ef
    unfold rsF at e ⊢
    cases q : fwB nd s i
    · rw [q, if_neg (by decide), Nat.add_zero] at e
      rw [q] at ef
      simp (disch := omega) only [lits, negs, nI_add, nn1, leT, leF, ltT, ltF, eqF, mF1, mF2, mF3, mF4, mF5, mF6, mTT, eq_self, Nat.reduceEqDiff, ↓reduceIte, ↓jbd_s, ↓jpu_e, tI0, tI1, jgd_tI, jgd_bb, tfF, ftF, jup_at, jup_oc, jup_ok, ↓jb ef]
      exact e
    · rw [q, if_pos rfl] at e
      rw [q] at ef
      obtain ⟨o1, o2⟩ := or_two hs (by omega : i < S) (fw_bit q).1
      simp (disch := omega) only [lits, negs, nI_add, nn1, leT, leF, ltT, ltF, eqF, mF1, mF2, mF3, mF4, mF5, mF6, mTT, eq_self, Nat.reduceEqDiff, ↓reduceIte, ↓jbd_s, ↓jpu_e, tI0, tI1, jgd_tI, jgd_bb, tfF, ftF, jup_at, jup_oc, jup_ok, ↓jb ef, ↓jb (e_bit (m := m) i)]
      rw [or_sbn (by omega), ld_94 (by omega), hT _ o2, nI_add]
      exact e
theorem e_ways {S s v : Nat} {nd : Nat → Int32} {m : jMem} (h12 : S ≤ 12) (hv : v ≤ S) (hs : s < 2 ^ S) (hnd : m 93 = nd) (hT : ∀ t, t < 2 ^ S → m 94 t = nI (rsN nd S t)) : f_O_waysAhead (nI s) (nI v) m = some (nI (fb_sm (rsF nd S s) v), m) := by
  unfold f_O_waysAhead
  simp only [lits]
  exact lp_wa5 h12 hv hs hnd hT v 5000 0 (by omega) (by omega)
theorem lp_mem {S s q v0 : Nat} {nd : Nat → Int32} {kY : Int32 → jMem → Option (Int32 × jMem)} {kN : jMem → Option (Int32 × jMem)} {m : jMem} (h12 : S ≤ 12) (hS : m 89 6 = nI S) (hs : s < 2 ^ S) (hsf : s ≠ 2 ^ S - 1) (hnd : m 93 = nd) (hT : ∀ t, t < 2 ^ S → m 94 t = nI (rsN nd S t)) (hq : q < rsN nd S s) (hv : v0 < S) (h1 : fb_sm (rsF nd S s) v0 ≤ q) (h2 : q < fb_sm (rsF nd S s) (v0 + 1)) : ∀ (d n i : Nat), i + d = v0 → d < n → lp_O_memberAt_2 (nI s) (nI q) kY kN n (nI i) m = kY (nI v0) m := by
  obtain ⟨p1, p2⟩ := two_lim h12
  have hlim := rs_le (nd := nd) (s := s) h12
  have hall := rs_step (nd := nd) hs hsf
  intro d
  induction d with
  | zero =>
    intro n i h hn
    obtain ⟨n, rfl⟩ := ex_succ hn
    have e : i = v0 := by omega
    subst e
    have ef := e_mayFollow (s := s) (m := m) h12 hv
    rw [hnd] at ef
    have hm := sm_mono (rsF nd S s) (show i + 1 ≤ S by omega)
    rw [fb_sm_succ] at h2 hm
    have hF : fwB nd s i = true := by
      cases z : fwB nd s i
      · unfold rsF at h2
        rw [z, if_neg (by decide)] at h2
        unfold rsF at h1
        omega
      · rfl
    have eF : rsF nd S s i = rsN nd S (s ||| 2 ^ i) := by unfold rsF; rw [hF, if_pos rfl]
    rw [hF] at ef
    obtain ⟨o1, o2⟩ := or_two hs hv (fw_bit hF).1
    unfold lp_O_memberAt_2
    simp only [lits]
    simp (disch := omega) only [lits, negs, nI_add, nn1, leT, leF, ltT, ltF, eqF, mF1, mF2, mF3, mF4, mF5, mF6, mTT, eq_self, Nat.reduceEqDiff, ↓reduceIte, ↓jbd_s, ↓jpu_e, tI0, tI1, jgd_tI, jgd_bb, tfF, ftF, jup_at, jup_oc, jup_ok, hS, ↓jb ef, ↓jb (e_ways (m := m) h12 (by omega : i ≤ S) hs hnd hT), ↓jb (e_bit (m := m) i)]
    rw [or_sbn (by omega), ld_94 (by omega), hT _ o2, nI_add, ← eF, if_neg (nI_ge h2 (by omega))]
  | succ d ih =>
    intro n i h hn
    obtain ⟨n, rfl⟩ := ex_succ hn
    have e := ih n (i + 1) (by omega) (by omega)
    have ef := e_mayFollow (s := s) (m := m) h12 (by omega : i < S)
    rw [hnd] at ef
    unfold lp_O_memberAt_2
    simp only [lits]
    cases z : fwB nd s i
    · rw [z] at ef
      simp (disch := omega) only [lits, negs, nI_add, nn1, leT, leF, ltT, ltF, eqF, mF1, mF2, mF3, mF4, mF5, mF6, mTT, eq_self, Nat.reduceEqDiff, ↓reduceIte, ↓jbd_s, ↓jpu_e, tI0, tI1, jgd_tI, jgd_bb, tfF, ftF, jup_at, jup_oc, jup_ok, hS, ↓jb ef]
      exact e
    · rw [z] at ef
      have eF : rsF nd S s i = rsN nd S (s ||| 2 ^ i) := by unfold rsF; rw [z, if_pos rfl]
      have hm := sm_mono (rsF nd S s) (show i + 1 ≤ v0 by omega)
      rw [fb_sm_succ] at hm
      obtain ⟨o1, o2⟩ := or_two hs (by omega : i < S) (fw_bit z).1
      simp (disch := omega) only [lits, negs, nI_add, nn1, leT, leF, ltT, ltF, eqF, mF1, mF2, mF3, mF4, mF5, mF6, mTT, eq_self, Nat.reduceEqDiff, ↓reduceIte, ↓jbd_s, ↓jpu_e, tI0, tI1, jgd_tI, jgd_bb, tfF, ftF, jup_at, jup_oc, jup_ok, hS, ↓jb ef, ↓jb (e_ways (m := m) h12 (by omega : i ≤ S) hs hnd hT), ↓jb (e_bit (m := m) i)]
      rw [or_sbn (by omega), ld_94 (by omega), hT _ o2, nI_add, ← eF, if_pos (nI_le (by omega) (by omega))]
      exact e
theorem lp_Mo60 {S s q v0 : Nat} {v3 v7 : Int32} {nd : Nat → Int32} {k : Int32 → Int32 → jMem → Option (Int32 × jMem)} {M : jMem} (h12 : S ≤ 12) (hs : s < 2 ^ S) (hsf : s ≠ 2 ^ S - 1) (hnd : ∀ v, v < S → M 147 v = nd v) (hT : ∀ t, t < 2 ^ S → M 148 t = nI (rsN nd S t)) (hq : q < rsN nd S s) (hv : v0 < S) (h1 : fb_sm (rsF nd S s) v0 ≤ q) (h2 : q < fb_sm (rsF nd S s) (v0 + 1)) : ∀ (d n i : Nat), i + d = v0 → d < n → lp_M_order_60 v3 (nI s) v7 k n (nI (q - fb_sm (rsF nd S s) i)) (nI i) M = k (nI (q - fb_sm (rsF nd S s) v0)) (nI v0) M := by
  obtain ⟨p1, p2⟩ := two_lim h12
  have hlim := rs_le (nd := nd) (s := s) h12
  have hall := rs_step (nd := nd) hs hsf
  intro d
  induction d with
  | zero =>
    intro n i h hn
    obtain ⟨n, rfl⟩ := ex_succ hn
    have e : i = v0 := by omega
    subst e
    have hm := sm_mono (rsF nd S s) (show i + 1 ≤ S by omega)
    rw [fb_sm_succ] at h2 hm
    have hF : fwB nd s i = true := by
      cases z : fwB nd s i
      · unfold rsF at h2
        rw [z, if_neg (by decide)] at h2
        unfold rsF at h1
        omega
      · rfl
    have eF : rsF nd S s i = rsN nd S (s ||| 2 ^ i) := by unfold rsF; rw [hF, if_pos rfl]
    obtain ⟨b1, b2⟩ := fw_bit hF
    obtain ⟨o1, o2⟩ := or_two hs hv b1
    unfold lp_M_order_60
    simp only [lits, negs]
    simp (disch := omega) only [lits, negs, nI_add, nn1, leT, leF, ltT, ltF, eqF, mF1, mF2, mF3, mF4, mF5, mF6, mTT, eq_self, Nat.reduceEqDiff, ↓reduceIte, ↓jbd_s, ↓jpu_e, tI0, tI1, jgd_tI, jgd_bb, tfF, ftF, jup_at, jup_oc, jup_ok, bit1, bt_nI, b1, ↓ld_147, hnd i hv, b2, sb_e]
    rw [or_sbn (by omega), ld_148 (by omega), hT _ o2, ← eF, if_pos (nI_lt (by omega) (by omega))]
  | succ d ih =>
    intro n i h hn
    obtain ⟨n, rfl⟩ := ex_succ hn
    have e := ih n (i + 1) (by omega) (by omega)
    rw [fb_sm_succ] at e
    unfold lp_M_order_60
    simp only [lits, negs]
    cases b1 : s.testBit i
    · by_cases b2 : nd i &&& (nI s ^^^ nM) = nI 0
      · have z : fwB nd s i = true := by unfold fwB; rw [b1, decide_eq_true b2]; rfl
        have eF : rsF nd S s i = rsN nd S (s ||| 2 ^ i) := by unfold rsF; rw [z, if_pos rfl]
        have hm := sm_mono (rsF nd S s) (show i + 1 ≤ v0 by omega)
        rw [fb_sm_succ] at hm
        obtain ⟨o1, o2⟩ := or_two hs (by omega : i < S) b1
        simp (disch := omega) only [lits, negs, nI_add, nn1, leT, leF, ltT, ltF, eqF, mF1, mF2, mF3, mF4, mF5, mF6, mTT, eq_self, Nat.reduceEqDiff, ↓reduceIte, ↓jbd_s, ↓jpu_e, tI0, tI1, jgd_tI, jgd_bb, tfF, ftF, jup_at, jup_oc, jup_ok, bit1, bit0, bt_nI, b1, ↓ld_147, hnd i (by omega), b2, sb_e]
        rw [or_sbn (by omega), ld_148 (by omega), ld_148 (by omega), hT _ o2, ← eF, if_neg (nI_nlt (by omega) (by omega)), n_sub (by omega), Nat.sub_sub]
        exact e
      · have z : fwB nd s i = false := by unfold fwB; rw [decide_eq_false b2, Bool.and_false]
        have eF : rsF nd S s i = 0 := by unfold rsF; rw [z, if_neg (by decide)]
        rw [eF, Nat.add_zero] at e
        simp (disch := omega) only [lits, negs, nI_add, nn1, leT, leF, ltT, ltF, eqF, mF1, mF2, mF3, mF4, mF5, mF6, mTT, eq_self, Nat.reduceEqDiff, ↓reduceIte, ↓jbd_s, ↓jpu_e, tI0, tI1, jgd_tI, jgd_bb, tfF, ftF, jup_at, jup_oc, jup_ok, bit1, bit0, bt_nI, b1, ↓ld_147, hnd i (by omega), b2]
        exact e
    · have z : fwB nd s i = false := by unfold fwB; rw [b1]; rfl
      have eF : rsF nd S s i = 0 := by unfold rsF; rw [z, if_neg (by decide)]
      rw [eF, Nat.add_zero] at e
      simp (disch := omega) only [lits, negs, nI_add, nn1, leT, leF, ltT, ltF, eqF, mF1, mF2, mF3, mF4, mF5, mF6, mTT, eq_self, Nat.reduceEqDiff, ↓reduceIte, ↓jbd_s, ↓jpu_e, tI0, tI1, jgd_tI, jgd_bb, tfF, ftF, jup_at, jup_oc, jup_ok, bit1, bit0, bt_nI, b1]
      exact e
