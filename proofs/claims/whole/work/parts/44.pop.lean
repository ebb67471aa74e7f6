/-! how many bits: the library's way and the loop's way -/
theorem pp_and {A M b c : Nat} (hb : b < 256) (hc : c < 256) : (256 * A + b) &&& (256 * M + c) = 256 * (A &&& M) + (b &&& c) := by
  have hbc : b &&& c < 256 := Nat.lt_of_le_of_lt Nat.and_le_left hb
  apply Nat.eq_of_testBit_eq
  intro j
  rw [Nat.testBit_and]
  have h1 := Nat.testBit_two_pow_mul_add A (b := b) (i := 8) hb j
  have h2 := Nat.testBit_two_pow_mul_add M (b := c) (i := 8) hc j
  have h3 := Nat.testBit_two_pow_mul_add (A &&& M) (b := b &&& c) (i := 8) hbc j
  rw [show (2 : Nat) ^ 8 = 256 from rfl] at h1 h2 h3
  rw [h1, h2, h3]
  split
  · rw [Nat.testBit_and]
  · rw [Nat.testBit_and]
theorem pp1 : ∀ b, b < 256 → ∀ t, t < 2 → (128 * t + b / 2) &&& 85 = (b / 2) &&& 85 ∧ (b / 2) &&& 85 ≤ b := by decide +kernel
theorem pp2 : ∀ b, b < 256 → ∀ t, t < 4 → (64 * t + b / 4) &&& 51 = (b / 4) &&& 51 := by decide +kernel
def pb1 (b : Nat) : Nat := b - ((b / 2) &&& 85)
def pb2 (b : Nat) : Nat := (b &&& 51) + ((b / 4) &&& 51)
def pb4 (b : Nat) : Nat := (b + b / 16) &&& 15
theorem pp4 : ∀ b, b < 69 → ∀ t, t < 5 → (b + 16 * t + b / 16) &&& 15 = pb4 b ∧ b + 16 * t + b / 16 < 256 := by decide +kernel
def pbN (b : Nat) : Bool := pb1 b < 256 && pb2 (pb1 b) < 69 && pb2 (pb1 b) % 16 < 5 && pb4 (pb2 (pb1 b)) ≤ 8 && pb4 (pb2 (pb1 b)) == fb_ct b.testBit 8
theorem pbN_all : ∀ b, b < 256 → pbN b = true := by decide +kernel
theorem pbN_at {b : Nat} (h : b < 256) : pb1 b < 256 ∧ pb2 (pb1 b) < 69 ∧ pb2 (pb1 b) % 16 < 5 ∧ pb4 (pb2 (pb1 b)) ≤ 8 ∧ pb4 (pb2 (pb1 b)) = fb_ct b.testBit 8 := by
  have h1 := pbN_all b h
  unfold pbN at h1
  simp only [Bool.and_eq_true, decide_eq_true_eq, beq_iff_eq] at h1
  exact ⟨h1.1.1.1.1, h1.1.1.1.2, h1.1.1.2, h1.1.2, h1.2⟩
theorem ps1 {A b M : Nat} (hb : b < 256) : ((256 * A + b) / 2) &&& (256 * M + 85) = 256 * ((A / 2) &&& M) + ((b / 2) &&& 85) := by
  have e : (256 * A + b) / 2 = 256 * (A / 2) + (128 * (A % 2) + b / 2) := by omega
  rw [e, pp_and (by omega) (by omega), (pp1 b hb (A % 2) (by omega)).1]
theorem ps2 {A b M : Nat} (hb : b < 256) : ((256 * A + b) / 4) &&& (256 * M + 51) = 256 * ((A / 4) &&& M) + ((b / 4) &&& 51) := by
  have e : (256 * A + b) / 4 = 256 * (A / 4) + (64 * (A % 4) + b / 4) := by omega
  rw [e, pp_and (by omega) (by omega), pp2 b hb (A % 4) (by omega)]
/-- four bytes -/
def by4 (f : Nat → Nat) (a b c d : Nat) : Nat := 256 * (256 * (256 * f d + f c) + f b) + f a
theorem pt1 {a b c d : Nat} (ha : a < 256) (hb : b < 256) (hc : c < 256) (hd : d < 256) : ((by4 id a b c d) / 2) &&& 1431655765 = by4 (fun b => (b / 2) &&& 85) a b c d := by
  unfold by4
  show ((256 * (256 * (256 * d + c) + b) + a) / 2) &&& (256 * (256 * (256 * 85 + 85) + 85) + 85) = _
  rw [ps1 ha, ps1 hb, ps1 hc]
theorem pt1s {a b c d : Nat} (ha : a < 256) (hb : b < 256) (hc : c < 256) (hd : d < 256) : by4 id a b c d - by4 (fun b => (b / 2) &&& 85) a b c d = by4 pb1 a b c d ∧ by4 (fun b => (b / 2) &&& 85) a b c d ≤ by4 id a b c d := by
  have h1 := (pp1 a ha 0 (by omega)).2
  have h2 := (pp1 b hb 0 (by omega)).2
  have h3 := (pp1 c hc 0 (by omega)).2
  have h4 := (pp1 d hd 0 (by omega)).2
  unfold by4 pb1
  simp only [id]
  omega
theorem pt2 {a b c d : Nat} (ha : a < 256) (hb : b < 256) (hc : c < 256) (hd : d < 256) : ((by4 id a b c d) &&& 858993459) + (((by4 id a b c d) / 4) &&& 858993459) = by4 pb2 a b c d := by
  unfold by4 pb2
  show ((256 * (256 * (256 * d + c) + b) + a) &&& (256 * (256 * (256 * 51 + 51) + 51) + 51)) + (((256 * (256 * (256 * d + c) + b) + a) / 4) &&& (256 * (256 * (256 * 51 + 51) + 51) + 51)) = _
  rw [ps2 ha, ps2 hb, ps2 hc, pp_and ha (by omega), pp_and hb (by omega), pp_and hc (by omega)]
  omega
theorem pt4 {a b c d : Nat} (ha : a < 69) (hb : b < 69) (hc : c < 69) (hd : d < 69) (hb' : b % 16 < 5) (hc' : c % 16 < 5) (hd' : d % 16 < 5) : ((by4 id a b c d) + (by4 id a b c d) / 16) &&& 252645135 = by4 pb4 a b c d := by
  have h1 := pp4 a ha (b % 16) hb'
  have h2 := pp4 b hb (c % 16) hc'
  have h3 := pp4 c hc (d % 16) hd'
  have h4 := pp4 d hd 0 (by omega)
  unfold by4
  simp only [id]
  have e : (256 * (256 * (256 * d + c) + b) + a) + (256 * (256 * (256 * d + c) + b) + a) / 16 = 256 * (256 * (256 * (d + 16 * 0 + d / 16) + (c + 16 * (d % 16) + c / 16)) + (b + 16 * (c % 16) + b / 16)) + (a + 16 * (b % 16) + a / 16) := by omega
  rw [e]
  show _ &&& (256 * (256 * (256 * 15 + 15) + 15) + 15) = _
  rw [pp_and h1.2 (by omega), pp_and h2.2 (by omega), pp_and h3.2 (by omega), h1.1, h2.1, h3.1, h4.1]
theorem pt8 {a b c d : Nat} (ha : a ≤ 8) (hb : b ≤ 8) (hc : c ≤ 8) (hd : d ≤ 8) : ((by4 id a b c d + by4 id a b c d / 256) + (by4 id a b c d + by4 id a b c d / 256) / 65536) &&& 63 = a + b + c + d := by
  have e : ∀ x, x &&& 63 = x % 64 := fun x => Nat.and_two_pow_sub_one_eq_mod x 6
  rw [e]
  unfold by4
  simp only [id]
  have h1 : (256 * (256 * (256 * d + c) + b) + a) / 256 = 256 * (256 * d + c) + b := by omega
  rw [h1]
  have h2 : (256 * (256 * (256 * d + c) + b) + a + (256 * (256 * d + c) + b)) / 65536 = 256 * d + (c + d) := by omega
  rw [h2]
  omega
theorem pct4 {a b c d : Nat} (ha : a < 256) (hb : b < 256) (hc : c < 256) (hd : d < 256) : fb_ct (by4 id a b c d).testBit 32 = fb_ct a.testBit 8 + fb_ct b.testBit 8 + fb_ct c.testBit 8 + fb_ct d.testBit 8 := by
  have key : ∀ A x : Nat, x < 256 → ∀ n, fb_ct (256 * A + x).testBit (8 + n) = fb_ct x.testBit 8 + fb_ct A.testBit n := by
    intro A x hx n
    have h := Nat.testBit_two_pow_mul_add A (b := x) (i := 8) hx
    rw [show (2 : Nat) ^ 8 = 256 from rfl] at h
    rw [fb_ct_split]
    congr 1
    · exact fb_ct_cong (fun k hk => by rw [h, if_pos hk])
    · exact fb_ct_cong (fun k hk => by rw [h, if_neg (by omega), Nat.add_sub_cancel_left])
  unfold by4
  simp only [id]
  rw [show 32 = 8 + (8 + (8 + 8)) from rfl, key _ _ ha, key _ _ hb, key _ _ hc]
  omega
theorem by4_of {a : Nat} (h : a < 4294967296) : by4 id (a % 256) (a / 256 % 256) (a / 65536 % 256) (a / 16777216) = a := by
  unfold by4
  simp only [id]
  omega
theorem jushr_nI {n : Nat} (hn : n < 4294967296) (k : Nat) {s : Int32} (hs : ((s.toUInt32 &&& Int32.toUInt32 31).toBitVec % 32).toNat = k) : jushr (nI n) s = nI (n / 2 ^ k) := pk_ushrN hn s k hs
theorem nI_and (a b : Nat) : nI a &&& nI b = nI (a &&& b) := by
  apply Int32.toBitVec_inj.1
  show BitVec.ofNat 32 a &&& BitVec.ofNat 32 b = BitVec.ofNat 32 (a &&& b)
  apply BitVec.eq_of_getLsbD_eq
  intro i hi
  simp [hi]
theorem bt_nI {n i : Nat} (hi : i < 32) : bt (nI n) i = n.testBit i := by
  unfold bt
  show (BitVec.ofNat 32 n).getLsbD i = _
  rw [BitVec.getLsbD_ofNat, decide_eq_true hi, Bool.true_and]
theorem nI_of_bits (x : Int32) : x = nI x.toBitVec.toNat ∧ x.toBitVec.toNat < 4294967296 := by
  refine ⟨?_, x.toBitVec.isLt⟩
  apply Int32.toBitVec_inj.1
  show _ = BitVec.ofNat 32 x.toBitVec.toNat
  simp
def pcnt (x : Int32) : Nat := fb_ct (bt x) 32
theorem pcnt_le (x : Int32) : pcnt x ≤ 32 := fb_ct_le _ _
theorem e_bitCount {x : Int32} {m : jMem} : f_JI_bitCount x m = some (nI (pcnt x), m) := by
  obtain ⟨hx, hlt⟩ := nI_of_bits x
  generalize hn : x.toBitVec.toNat = n at hx hlt
  subst hx
  have hp : pcnt (nI n) = fb_ct n.testBit 32 := fb_ct_cong (fun k hk => bt_nI hk)
  rw [hp]
  have e0 := by4_of hlt
  generalize ha : n % 256 = a at e0
  generalize hb : n / 256 % 256 = b at e0
  generalize hc : n / 65536 % 256 = c at e0
  generalize hd : n / 16777216 = d at e0
  have la : a < 256 := by omega
  have lb : b < 256 := by omega
  have lc : c < 256 := by omega
  have ld : d < 256 := by omega
  clear ha hb hc hd hp
  subst e0
  obtain ⟨a1, a2, a3, a4, a5⟩ := pbN_at la
  obtain ⟨b1, b2, b3, b4, b5⟩ := pbN_at lb
  obtain ⟨c1, c2, c3, c4, c5⟩ := pbN_at lc
  obtain ⟨d1, d2, d3, d4, d5⟩ := pbN_at ld
  rw [pct4 la lb lc ld, ← a5, ← b5, ← c5, ← d5]
  unfold f_JI_bitCount
  have g1 : nI (by4 id a b c d) - (jushr (nI (by4 id a b c d)) (1 : Int32) &&& (1431655765 : Int32)) = nI (by4 pb1 a b c d) := by
    rw [jushr_nI hlt 1 (by decide), show (1431655765 : Int32) = nI 1431655765 from rfl, nI_and, show (2 : Nat) ^ 1 = 2 from rfl, pt1 la lb lc ld, pk_sub (pt1s la lb lc ld).2, (pt1s la lb lc ld).1]
  have h1 : by4 pb1 a b c d = by4 id (pb1 a) (pb1 b) (pb1 c) (pb1 d) := rfl
  have l1 : by4 id (pb1 a) (pb1 b) (pb1 c) (pb1 d) < 4294967296 := by unfold by4; simp only [id]; omega
  have g2 : (nI (by4 pb1 a b c d) &&& (858993459 : Int32)) + (jushr (nI (by4 pb1 a b c d)) (2 : Int32) &&& (858993459 : Int32)) = nI (by4 pb2 (pb1 a) (pb1 b) (pb1 c) (pb1 d)) := by
    rw [h1, jushr_nI l1 2 (by decide), show (858993459 : Int32) = nI 858993459 from rfl, nI_and, nI_and, show (2 : Nat) ^ 2 = 4 from rfl, nI_add, pt2 a1 b1 c1 d1]
  have h2 : by4 pb2 (pb1 a) (pb1 b) (pb1 c) (pb1 d) = by4 id (pb2 (pb1 a)) (pb2 (pb1 b)) (pb2 (pb1 c)) (pb2 (pb1 d)) := rfl
  have l2 : by4 id (pb2 (pb1 a)) (pb2 (pb1 b)) (pb2 (pb1 c)) (pb2 (pb1 d)) < 4294967296 := by unfold by4; simp only [id]; omega
  have g3 : (nI (by4 pb2 (pb1 a) (pb1 b) (pb1 c) (pb1 d)) + jushr (nI (by4 pb2 (pb1 a) (pb1 b) (pb1 c) (pb1 d))) (4 : Int32)) &&& (252645135 : Int32) = nI (by4 pb4 (pb2 (pb1 a)) (pb2 (pb1 b)) (pb2 (pb1 c)) (pb2 (pb1 d))) := by
    rw [h2, jushr_nI l2 4 (by decide), show (252645135 : Int32) = nI 252645135 from rfl, show (2 : Nat) ^ 4 = 16 from rfl, nI_add, nI_and, pt4 a2 b2 c2 d2 b3 c3 d3]
  have h3 : by4 pb4 (pb2 (pb1 a)) (pb2 (pb1 b)) (pb2 (pb1 c)) (pb2 (pb1 d)) = by4 id (pb4 (pb2 (pb1 a))) (pb4 (pb2 (pb1 b))) (pb4 (pb2 (pb1 c))) (pb4 (pb2 (pb1 d))) := rfl
  have l3 : by4 id (pb4 (pb2 (pb1 a))) (pb4 (pb2 (pb1 b))) (pb4 (pb2 (pb1 c))) (pb4 (pb2 (pb1 d))) < 4294967296 := by unfold by4; simp only [id]; omega
  rw [g1, g2, g3, h3]
  have l4 : by4 id (pb4 (pb2 (pb1 a))) (pb4 (pb2 (pb1 b))) (pb4 (pb2 (pb1 c))) (pb4 (pb2 (pb1 d))) + by4 id (pb4 (pb2 (pb1 a))) (pb4 (pb2 (pb1 b))) (pb4 (pb2 (pb1 c))) (pb4 (pb2 (pb1 d))) / 256 < 4294967296 := by unfold by4; simp only [id]; omega
  rw [jushr_nI l3 8 (by decide), show (2 : Nat) ^ 8 = 256 from rfl, nI_add, jushr_nI l4 16 (by decide), show (2 : Nat) ^ 16 = 65536 from rfl, nI_add, show (63 : Int32) = nI 63 from rfl, nI_and, pt8 a4 b4 c4 d4]
theorem lp_Mbits {v : Int32} {k : Int32 → jMem → Option (Int32 × jMem)} {m : jMem} : ∀ (d n i : Nat), i + d = 31 → d < n → lp_M_bits_4 v k n (nI (fb_ct (bt v) i)) (nI i) m = k (nI (fb_ct (bt v) 31)) m := by
  intro d
  induction d with
  | zero =>
    intro n i hid hdn
    obtain ⟨n, rfl⟩ := ex_succ hdn
    rw [show i = 31 by omega]
    unfold lp_M_bits_4
    simp (disch := omega) only [lits, negs, nI_add, nn1, leT, leF, ltT, ltF, eqF, mF1, mF2, mF3, mF4, mF5, mF6, mTT, eq_self, Nat.reduceEqDiff, ↓reduceIte, jbd_s, jpu_e, tI0, tI1, jgd_tI, jgd_bb, tfF, ftF, jup_at, jup_oc, jup_ok]
  | succ d ih =>
    intro n i hid hdn
    obtain ⟨n, rfl⟩ := ex_succ hdn
    have e := ih n (i + 1) (by omega) (by omega)
    unfold lp_M_bits_4
    rw [fb_ct_succ] at e
    simp (disch := omega) only [lits, negs, nI_add, nn1, leT, leF, ltT, ltF, eqF, mF1, mF2, mF3, mF4, mF5, mF6, mTT, eq_self, Nat.reduceEqDiff, ↓reduceIte, jbd_s, jpu_e, tI0, tI1, jgd_tI, jgd_bb, tfF, ftF, jup_at, jup_oc, jup_ok, bitv]
    have e9 : nI (fb_ct (bt v) i) + tI (bt v i) = nI (fb_ct (bt v) i + if bt v i = true then 1 else 0) := by
      cases bt v i
      · rw [tI_f, nI_add]; rfl
      · rw [tI_t, nI_add]; rfl
    rw [e9]
    exact e
theorem e_Mbits {v : Int32} {m : jMem} : f_M_bits v m = some (nI (fb_ct (bt v) 31), m) := by
  unfold f_M_bits
  simp only [lits]
  exact lp_Mbits 31 5000 0 (by omega) (by omega)
theorem e_MbitsP {v : Int32} {m : jMem} (h : bt v 31 = false) : f_M_bits v m = some (nI (pcnt v), m) := by
  rw [e_Mbits]
  unfold pcnt
  rw [fb_ct_succ (bt v) 31, h, if_neg (by decide), Nat.add_zero]
