/-! bits: rows of the kit that are given for pasting (BITS, COUNTS) -/
def bt (x : Int32) (i : Nat) : Bool := x.toBitVec.getLsbD i
theorem b_ext {x y : Int32} (h : ∀ i, i < 32 → bt x i = bt y i) : x = y := Int32.toBitVec_inj.mp (BitVec.eq_of_getLsbD_eq (fun i hi => h i hi))
theorem b_or (x y : Int32) (i : Nat) : bt (x ||| y) i = (bt x i || bt y i) := by unfold bt; rw [Int32.toBitVec_or, BitVec.getLsbD_or]
theorem b_and (x y : Int32) (i : Nat) : bt (x &&& y) i = (bt x i && bt y i) := by unfold bt; rw [Int32.toBitVec_and, BitVec.getLsbD_and]
theorem b_xor (x y : Int32) (i : Nat) : bt (x ^^^ y) i = (bt x i ^^ bt y i) := by unfold bt; rw [Int32.toBitVec_xor, BitVec.getLsbD_xor]
theorem b_big {x : Int32} {i : Nat} (h : 32 ≤ i) : bt x i = false := BitVec.getLsbD_of_ge _ _ h
theorem b_255 (i : Nat) : bt 255 i = decide (i < 8) := by
  rcases Nat.lt_or_ge i 32 with h | h
  · exact (by decide +kernel : ∀ i, i < 32 → bt 255 i = decide (i < 8)) i h
  · rw [b_big h, decide_eq_false (by omega)]
theorem b_65535 (i : Nat) : bt 65535 i = decide (i < 16) := by
  rcases Nat.lt_or_ge i 32 with h | h
  · exact (by decide +kernel : ∀ i, i < 32 → bt 65535 i = decide (i < 16)) i h
  · rw [b_big h, decide_eq_false (by omega)]
theorem b_m1 : ∀ i, i < 32 → bt (-1) i = true := by decide +kernel
theorem b_0 (i : Nat) : bt 0 i = false := BitVec.getLsbD_zero
theorem s_l : ∀ n, n < 32 → ((nI n &&& 31).toBitVec.smod 32).toNat = n := by decide +kernel
theorem s_u : ∀ n, n < 32 → (((nI n).toUInt32 &&& Int32.toUInt32 31).toBitVec % 32).toNat = n := by decide +kernel
theorem b_shl (n : Nat) (hn : n < 32) (x : Int32) {i : Nat} (hi : i < 32) : bt (x <<< (nI n &&& 31)) i = (decide (n ≤ i) && bt x (i - n)) := by
  unfold bt
  rw [Int32.toBitVec_shiftLeft]
  show (x.toBitVec <<< ((nI n &&& 31).toBitVec.smod 32).toNat).getLsbD i = _
  rw [s_l n hn, BitVec.getLsbD_shiftLeft]
  rcases Nat.lt_or_ge i n with h | h
  · simp [h, Nat.not_le.mpr h]
  · simp [hi, h, Nat.not_lt.mpr h]
theorem b_ushr (n : Nat) (hn : n < 32) (x : Int32) (i : Nat) : bt ((x.toUInt32 >>> ((nI n).toUInt32 &&& Int32.toUInt32 31)).toInt32) i = bt x (n + i) := by
  show (x.toUInt32 >>> ((nI n).toUInt32 &&& Int32.toUInt32 31)).toBitVec.getLsbD i = x.toUInt32.toBitVec.getLsbD (n + i)
  rw [UInt32.toBitVec_shiftRight]
  show (x.toUInt32.toBitVec >>> (((nI n).toUInt32 &&& Int32.toUInt32 31).toBitVec % 32).toNat).getLsbD i = _
  rw [s_u n hn, BitVec.getLsbD_ushiftRight]
theorem b_sshr (n : Nat) (hn : n < 32) (x : Int32) {i : Nat} (hi : i < 32) : bt (x >>> (nI n &&& 31)) i = if n + i < 32 then bt x (n + i) else bt x 31 := by
  unfold bt
  rw [Int32.toBitVec_shiftRight]
  show (x.toBitVec.sshiftRight ((nI n &&& 31).toBitVec.smod 32).toNat).getLsbD i = _
  rw [s_l n hn, BitVec.getLsbD_sshiftRight, BitVec.msb_eq_getLsbD_last]
  simp [hi]
theorem b_shl8 (x : Int32) {i : Nat} (hi : i < 32) : bt (x <<< ((8 : Int32) &&& 31)) i = (decide (8 ≤ i) && bt x (i - 8)) := b_shl 8 (by omega) x hi
theorem b_shl16 (x : Int32) {i : Nat} (hi : i < 32) : bt (x <<< ((16 : Int32) &&& 31)) i = (decide (16 ≤ i) && bt x (i - 16)) := b_shl 16 (by omega) x hi
theorem b_shl24 (x : Int32) {i : Nat} (hi : i < 32) : bt (x <<< ((24 : Int32) &&& 31)) i = (decide (24 ≤ i) && bt x (i - 24)) := b_shl 24 (by omega) x hi
theorem b_sshr8 (x : Int32) {i : Nat} (hi : i < 32) : bt (x >>> ((8 : Int32) &&& 31)) i = if 8 + i < 32 then bt x (8 + i) else bt x 31 := b_sshr 8 (by omega) x hi
/-! ===== how many places have a property ===== -/
def fb_ct (p : Nat → Bool) : Nat → Nat
  | 0 => 0
  | n + 1 => fb_ct p n + (if p n then 1 else 0)
theorem fb_ct_succ (p : Nat → Bool) (n : Nat) : fb_ct p (n + 1) = fb_ct p n + (if p n then 1 else 0) := rfl
theorem fb_ct_le (p : Nat → Bool) : ∀ n, fb_ct p n ≤ n
  | 0 => Nat.le_refl _
  | n + 1 => by
    have h := fb_ct_le p n
    rw [fb_ct_succ]
    split <;> omega
theorem fb_ct_step (p : Nat → Bool) (m : Nat) : ∀ n, fb_ct p m ≤ fb_ct p (m + n)
  | 0 => Nat.le_refl _
  | n + 1 => by
    have h := fb_ct_step p m n
    show fb_ct p m ≤ fb_ct p (m + n + 1)
    rw [fb_ct_succ]
    omega
theorem fb_ct_mono (p : Nat → Bool) {m n : Nat} (h : m ≤ n) : fb_ct p m ≤ fb_ct p n := by
  have := fb_ct_step p m (n - m)
  rwa [Nat.add_sub_cancel' h] at this
theorem fb_ct_cong {p q : Nat → Bool} : ∀ {n : Nat}, (∀ k, k < n → p k = q k) → fb_ct p n = fb_ct q n
  | 0, _ => rfl
  | n + 1, h => by
    rw [fb_ct_succ, fb_ct_succ, fb_ct_cong (fun k hk => h k (by omega)), h n (by omega)]
/-- one place changed -/
theorem fb_ct_out (p : Nat → Bool) (b : Bool) {i n : Nat} (h : n ≤ i) : fb_ct (fun k => if k = i then b else p k) n = fb_ct p n :=
  fb_ct_cong fun k hk => if_neg (by omega)
theorem fb_ct_upd (p : Nat → Bool) (b : Bool) {i : Nat} : ∀ {n : Nat}, i < n → fb_ct (fun k => if k = i then b else p k) n + (if p i then 1 else 0) = fb_ct p n + (if b then 1 else 0)
  | 0, h => absurd h (Nat.not_lt_zero i)
  | n + 1, h => by
    rw [fb_ct_succ, fb_ct_succ]
    rcases Nat.lt_or_ge i n with q | q
    · have := fb_ct_upd p b q
      have e : (if n = i then b else p n) = p n := if_neg (by omega)
      rw [e]
      omega
    · have e : i = n := by omega
      subst e
      rw [fb_ct_out p b (Nat.le_refl _)]
      simp only [if_true]
      omega
theorem fb_ct_sub {p q : Nat → Bool} : ∀ {n : Nat}, (∀ k, k < n → p k = true → q k = true) → fb_ct p n ≤ fb_ct q n
  | 0, _ => Nat.le_refl _
  | n + 1, h => by
    have h1 := fb_ct_sub (n := n) (p := p) (q := q) (fun k hk => h k (by omega))
    have h2 := h n (by omega)
    rw [fb_ct_succ, fb_ct_succ]
    cases hp : p n <;> cases hq : q n <;> simp_all <;> omega
theorem fb_ct_or {p q : Nat → Bool} : ∀ {n : Nat}, (∀ k, k < n → ¬ (p k = true ∧ q k = true)) → fb_ct (fun k => p k || q k) n = fb_ct p n + fb_ct q n
  | 0, _ => rfl
  | n + 1, h => by
    have h1 := fb_ct_or (n := n) (p := p) (q := q) (fun k hk => h k (by omega))
    have h2 := h n (by omega)
    rw [fb_ct_succ, fb_ct_succ, fb_ct_succ, h1]
    cases hp : p n <;> cases hq : q n <;> simp_all <;> omega
theorem fb_ct_not (p : Nat → Bool) : ∀ n, fb_ct p n + fb_ct (fun k => !p k) n = n
  | 0 => rfl
  | n + 1 => by
    have h := fb_ct_not p n
    rw [fb_ct_succ, fb_ct_succ]
    cases p n <;> simp <;> omega
theorem fb_ct_split (p : Nat → Bool) (m : Nat) : ∀ n, fb_ct p (m + n) = fb_ct p m + fb_ct (fun k => p (m + k)) n
  | 0 => rfl
  | n + 1 => by
    have h := fb_ct_split p m n
    show fb_ct p (m + n + 1) = _
    rw [fb_ct_succ, fb_ct_succ, h, Nat.add_assoc]
theorem fb_ct_zero {p : Nat → Bool} : ∀ {n : Nat}, fb_ct p n = 0 ↔ ∀ k, k < n → p k = false
  | 0 => ⟨fun _ k hk => absurd hk (Nat.not_lt_zero k), fun _ => rfl⟩
  | n + 1 => by
    have h := fb_ct_zero (p := p) (n := n)
    rw [fb_ct_succ]
    constructor
    · intro e k hk
      have e1 : fb_ct p n = 0 := by omega
      rcases Nat.lt_or_ge k n with q | q
      · exact h.mp e1 k q
      · have ek : k = n := by omega
        subst ek
        cases hp : p k
        · rfl
        · simp [hp] at e
    · intro a
      rw [h.mpr (fun k hk => a k (by omega)), a n (by omega)]
      rfl
theorem fb_ct_pos {p : Nat → Bool} {n : Nat} : 0 < fb_ct p n ↔ ∃ k, k < n ∧ p k = true := by
  constructor
  · intro h
    refine Classical.byContradiction fun hx => ?_
    have := fb_ct_zero.mpr (fun k hk => by
      cases hp : p k
      · rfl
      · exact absurd ⟨k, hk, hp⟩ hx : ∀ k, k < n → p k = false)
    omega
  · rintro ⟨k, hk, hp⟩
    rcases Nat.eq_zero_or_pos (fb_ct p n) with e | e
    · have := fb_ct_zero.mp e k hk
      rw [this] at hp
      cases hp
    · exact e
theorem fb_ct_all {p : Nat → Bool} {n : Nat} : fb_ct p n = n ↔ ∀ k, k < n → p k = true := by
  have h := fb_ct_not p n
  constructor
  · intro e k hk
    have z : fb_ct (fun k => !p k) n = 0 := by omega
    have := fb_ct_zero.mp z k hk
    cases hp : p k
    · simp [hp] at this
    · rfl
  · intro a
    have z : fb_ct (fun k => !p k) n = 0 := fb_ct_zero.mpr (fun k hk => by simp [a k hk])
    omega
/-- the k-th place with the property -/
theorem fb_ct_kth {p : Nat → Bool} {k : Nat} : ∀ {n : Nat}, k < fb_ct p n → ∃ i, i < n ∧ p i = true ∧ fb_ct p i = k
  | 0, h => absurd h (Nat.not_lt_zero k)
  | n + 1, h => by
    rcases Nat.lt_or_ge k (fb_ct p n) with q | q
    · obtain ⟨i, h1, h2⟩ := fb_ct_kth q
      exact ⟨i, by omega, h2⟩
    · rw [fb_ct_succ] at h
      cases hp : p n
      · simp [hp] at h; omega
      · simp [hp] at h
        exact ⟨n, by omega, hp, by omega⟩
theorem fb_ct_kth_one {p : Nat → Bool} {i j : Nat} (hi : p i = true) (hj : p j = true) (e : fb_ct p i = fb_ct p j) : i = j := by
  have key : ∀ a b : Nat, a < b → p a = true → fb_ct p a < fb_ct p b := by
    intro a b hab ha
    have h := fb_ct_mono p (show a + 1 ≤ b from hab)
    rw [fb_ct_succ, ha] at h
    simp at h
    omega
  rcases Nat.lt_trichotomy i j with q | q | q
  · have := key i j q hi; omega
  · exact q
  · have := key j i q hj; omega
/-! ===== sums over a range: one place changed, parts, bounds ===== -/
def fb_sm (f : Nat → Nat) : Nat → Nat
  | 0 => 0
  | n + 1 => fb_sm f n + f n
theorem fb_sm_succ (f : Nat → Nat) (n : Nat) : fb_sm f (n + 1) = fb_sm f n + f n := rfl
theorem fb_sm_cong {f g : Nat → Nat} : ∀ {n : Nat}, (∀ k, k < n → f k = g k) → fb_sm f n = fb_sm g n
  | 0, _ => rfl
  | n + 1, h => by rw [fb_sm_succ, fb_sm_succ, fb_sm_cong (fun k hk => h k (by omega)), h n (by omega)]
theorem fb_sm_out (f : Nat → Nat) (v : Nat) {i n : Nat} (h : n ≤ i) : fb_sm (fun k => if k = i then v else f k) n = fb_sm f n :=
  fb_sm_cong fun k hk => if_neg (by omega)
theorem fb_sm_upd (f : Nat → Nat) (v : Nat) {i : Nat} : ∀ {n : Nat}, i < n → fb_sm (fun k => if k = i then v else f k) n + f i = fb_sm f n + v
  | 0, h => absurd h (Nat.not_lt_zero i)
  | n + 1, h => by
    rw [fb_sm_succ, fb_sm_succ]
    rcases Nat.lt_or_ge i n with q | q
    · have := fb_sm_upd f v q
      have e : (if n = i then v else f n) = f n := if_neg (by omega)
      rw [e]
      omega
    · have e : i = n := by omega
      subst e
      rw [fb_sm_out f v (Nat.le_refl _)]
      simp only [if_true]
      omega
theorem fb_sm_add (f g : Nat → Nat) : ∀ n, fb_sm (fun k => f k + g k) n = fb_sm f n + fb_sm g n
  | 0 => rfl
  | n + 1 => by
    have h := fb_sm_add f g n
    rw [fb_sm_succ, fb_sm_succ, fb_sm_succ, h]
    omega
theorem fb_sm_le {f g : Nat → Nat} : ∀ {n : Nat}, (∀ k, k < n → f k ≤ g k) → fb_sm f n ≤ fb_sm g n
  | 0, _ => Nat.le_refl _
  | n + 1, h => by
    have h1 := fb_sm_le (n := n) (f := f) (g := g) (fun k hk => h k (by omega))
    have h2 := h n (by omega)
    rw [fb_sm_succ, fb_sm_succ]
    omega
theorem fb_sm_const (c : Nat) : ∀ n, fb_sm (fun _ => c) n = n * c
  | 0 => by rw [Nat.zero_mul]; rfl
  | n + 1 => by rw [fb_sm_succ, fb_sm_const c n, Nat.succ_mul]
theorem fb_sm_bound {f : Nat → Nat} {c n : Nat} (h : ∀ k, k < n → f k ≤ c) : fb_sm f n ≤ n * c := by
  rw [← fb_sm_const c n]
  exact fb_sm_le h
theorem fb_sm_mono (f : Nat → Nat) (m : Nat) : ∀ n, fb_sm f m ≤ fb_sm f (m + n)
  | 0 => Nat.le_refl _
  | n + 1 => by
    have h := fb_sm_mono f m n
    show fb_sm f m ≤ fb_sm f (m + n + 1)
    rw [fb_sm_succ]
    omega
theorem fb_sm_part (f : Nat → Nat) {i n : Nat} (h : i < n) : fb_sm f i + f i ≤ fb_sm f n := by
  have := fb_sm_mono f (i + 1) (n - (i + 1))
  rw [fb_sm_succ, show i + 1 + (n - (i + 1)) = n by omega] at this
  exact this
theorem fb_sm_split (f : Nat → Nat) (m : Nat) : ∀ n, fb_sm f (m + n) = fb_sm f m + fb_sm (fun k => f (m + k)) n
  | 0 => rfl
  | n + 1 => by
    have h := fb_sm_split f m n
    show fb_sm f (m + n + 1) = _
    rw [fb_sm_succ, fb_sm_succ, h, Nat.add_assoc]
theorem fb_sm_zero {f : Nat → Nat} {n : Nat} (h : fb_sm f n = 0) : ∀ k, k < n → f k = 0 := fun k hk => by
  have := fb_sm_part f hk
  omega
/-- the same over whole numbers -/
def fb_si (f : Nat → Int) : Nat → Int
  | 0 => 0
  | n + 1 => fb_si f n + f n
theorem fb_si_succ (f : Nat → Int) (n : Nat) : fb_si f (n + 1) = fb_si f n + f n := rfl
theorem fb_si_cong {f g : Nat → Int} : ∀ {n : Nat}, (∀ k, k < n → f k = g k) → fb_si f n = fb_si g n
  | 0, _ => rfl
  | n + 1, h => by rw [fb_si_succ, fb_si_succ, fb_si_cong (fun k hk => h k (by omega)), h n (by omega)]
theorem fb_si_out (f : Nat → Int) (v : Int) {i n : Nat} (h : n ≤ i) : fb_si (fun k => if k = i then v else f k) n = fb_si f n :=
  fb_si_cong fun k hk => if_neg (by omega)
theorem fb_si_upd (f : Nat → Int) (v : Int) {i : Nat} : ∀ {n : Nat}, i < n → fb_si (fun k => if k = i then v else f k) n = fb_si f n - f i + v
  | 0, h => absurd h (Nat.not_lt_zero i)
  | n + 1, h => by
    rw [fb_si_succ, fb_si_succ]
    rcases Nat.lt_or_ge i n with q | q
    · have := fb_si_upd f v q
      have e : (if n = i then v else f n) = f n := if_neg (by omega)
      rw [e]
      omega
    · have e : i = n := by omega
      subst e
      rw [fb_si_out f v (Nat.le_refl _)]
      simp only [if_true]
      omega
theorem fb_si_add (f g : Nat → Int) : ∀ n, fb_si (fun k => f k + g k) n = fb_si f n + fb_si g n
  | 0 => rfl
  | n + 1 => by
    have h := fb_si_add f g n
    rw [fb_si_succ, fb_si_succ, fb_si_succ, h]
    omega
theorem fb_si_sub (f g : Nat → Int) : ∀ n, fb_si (fun k => f k - g k) n = fb_si f n - fb_si g n
  | 0 => rfl
  | n + 1 => by
    have h := fb_si_sub f g n
    rw [fb_si_succ, fb_si_succ, fb_si_succ, h]
    omega
theorem fb_si_mul (c : Int) (f : Nat → Int) : ∀ n, fb_si (fun k => c * f k) n = c * fb_si f n
  | 0 => (Int.mul_zero c).symm
  | n + 1 => by
    have h := fb_si_mul c f n
    rw [fb_si_succ, fb_si_succ, h, Int.mul_add]
theorem fb_si_split (f : Nat → Int) (m : Nat) : ∀ n, fb_si f (m + n) = fb_si f m + fb_si (fun k => f (m + k)) n
  | 0 => (Int.add_zero _).symm
  | n + 1 => by
    have h := fb_si_split f m n
    show fb_si f (m + n + 1) = _
    rw [fb_si_succ, fb_si_succ, h, Int.add_assoc]
theorem fb_si_nat (f : Nat → Nat) : ∀ n, fb_si (fun k => (f k : Int)) n = (fb_sm f n : Int)
  | 0 => rfl
  | n + 1 => by
    have h := fb_si_nat f n
    rw [fb_si_succ, fb_sm_succ, h]
    omega
theorem fb_si_bound {f : Nat → Int} {c : Int} (hc : 0 ≤ c) : ∀ {n : Nat}, (∀ k, k < n → -c ≤ f k ∧ f k ≤ c) → -(n * c) ≤ fb_si f n ∧ fb_si f n ≤ n * c
  | 0, _ => by simp [fb_si]
  | n + 1, h => by
    have h1 := fb_si_bound (n := n) (f := f) hc (fun k hk => h k (by omega))
    have h2 := h n (by omega)
    have e : ((n + 1 : Nat) : Int) * c = n * c + c := by rw [Int.natCast_add, Int.add_mul]; simp
    rw [fb_si_succ, e]
    omega
/-! numbers as nI -/
def nM : Int32 := -1
theorem lits : ((0 : Int32) = nI 0) ∧ ((1 : Int32) = nI 1) ∧ ((2 : Int32) = nI 2) ∧ ((3 : Int32) = nI 3) ∧ ((4 : Int32) = nI 4) ∧ ((5 : Int32) = nI 5) ∧ ((6 : Int32) = nI 6) ∧ ((7 : Int32) = nI 7) ∧ ((8 : Int32) = nI 8) ∧ ((9 : Int32) = nI 9) ∧ ((10 : Int32) = nI 10) ∧ ((11 : Int32) = nI 11) ∧ ((12 : Int32) = nI 12) ∧ ((16 : Int32) = nI 16) ∧ ((20 : Int32) = nI 20) ∧ ((24 : Int32) = nI 24) ∧ ((30 : Int32) = nI 30) ∧ ((31 : Int32) = nI 31) ∧ ((32 : Int32) = nI 32) ∧ ((33 : Int32) = nI 33) ∧ ((36 : Int32) = nI 36) ∧ ((40 : Int32) = nI 40) ∧ ((41 : Int32) = nI 41) ∧ ((43 : Int32) = nI 43) ∧ ((45 : Int32) = nI 45) ∧ ((48 : Int32) = nI 48) ∧ ((57 : Int32) = nI 57) ∧ ((59 : Int32) = nI 59) ∧ ((60 : Int32) = nI 60) ∧ ((61 : Int32) = nI 61) ∧ ((62 : Int32) = nI 62) ∧ ((63 : Int32) = nI 63) ∧ ((64 : Int32) = nI 64) ∧ ((72 : Int32) = nI 72) ∧ ((97 : Int32) = nI 97) ∧ ((99 : Int32) = nI 99) ∧ ((122 : Int32) = nI 122) ∧ ((150 : Int32) = nI 150) ∧ ((255 : Int32) = nI 255) ∧ ((256 : Int32) = nI 256) ∧ ((257 : Int32) = nI 257) ∧ ((258 : Int32) = nI 258) ∧ ((260 : Int32) = nI 260) ∧ ((261 : Int32) = nI 261) ∧ ((262 : Int32) = nI 262) ∧ ((380 : Int32) = nI 380) ∧ ((400 : Int32) = nI 400) ∧ ((401 : Int32) = nI 401) ∧ ((998 : Int32) = nI 998) ∧ ((999 : Int32) = nI 999) ∧ ((1000 : Int32) = nI 1000) := by refine ⟨?_, ?_, ?_, ?_, ?_, ?_, ?_, ?_, ?_, ?_, ?_, ?_, ?_, ?_, ?_, ?_, ?_, ?_, ?_, ?_, ?_, ?_, ?_, ?_, ?_, ?_, ?_, ?_, ?_, ?_, ?_, ?_, ?_, ?_, ?_, ?_, ?_, ?_, ?_, ?_, ?_, ?_, ?_, ?_, ?_, ?_, ?_, ?_, ?_, ?_, ?_⟩ <;> rfl
theorem negs : (-(nI 1) = nM) := rfl
theorem nn1 (a : Nat) : nI (a + 1) - nI 1 = nI a := nI_pred a
theorem leT {a b : Nat} (h : a ≤ b) (hb : b < 2147483648) : (nI a ≤ nI b) = True := eq_true (nI_le h hb)
theorem leF {a b : Nat} (h : b < a) (ha : a < 2147483648) : (nI a ≤ nI b) = False := eq_false (nI_ge h ha)
theorem ltT {a b : Nat} (h : a < b) (hb : b < 2147483648) : (nI a < nI b) = True := eq_true (nI_lt h hb)
theorem ltF {a b : Nat} (h : b ≤ a) (ha : a < 2147483648) : (nI a < nI b) = False := eq_false (nI_nlt h ha)
theorem eqF {a b : Nat} (h : a ≠ b) (ha : a < 2147483648) (hb : b < 2147483648) : (nI a = nI b) = False := eq_false fun e => h ((nI_eq ha hb).mp e)
theorem nM_toInt : nM.toInt = -1 := by decide
theorem mF1 {a : Nat} (ha : a < 2147483648) : (nI a = nM) = False := eq_false fun e => by
  have h := congrArg Int32.toInt e
  rw [nI_toInt ha, nM_toInt] at h
  omega
theorem mF2 {a : Nat} (ha : a < 2147483648) : (nM = nI a) = False := eq_false fun e => by
  have h := congrArg Int32.toInt e
  rw [nI_toInt ha, nM_toInt] at h
  omega
theorem mF3 {a : Nat} (ha : a < 2147483648) : (nI a ≤ nM) = False := eq_false fun e => by
  have h := Int32.le_iff_toInt_le.mp e
  rw [nI_toInt ha, nM_toInt] at h
  omega
theorem mF4 {a : Nat} (ha : a < 2147483648) : (nM < nI a) = True := eq_true <| by
  rw [Int32.lt_iff_toInt_lt, nI_toInt ha, nM_toInt]
  omega
theorem mF5 {a : Nat} (ha : a < 2147483648) : (nM ≤ nI a) = True := eq_true <| by
  rw [Int32.le_iff_toInt_le, nI_toInt ha, nM_toInt]
  omega
theorem mF6 {a : Nat} (ha : a < 2147483648) : (nI a < nM) = False := eq_false fun e => by
  have h := Int32.lt_iff_toInt_lt.mp e
  rw [nI_toInt ha, nM_toInt] at h
  omega
theorem tfF : (true = false) = False := eq_false (by decide)
theorem ftF : (false = true) = False := eq_false (by decide)
theorem mTT : (nM = nM) = True := eq_true rfl
theorem jbd_s {α ρ : Type} (a : α) (m : jMem) (K : α → jMem → Option ρ) : jbd (some (a, m)) K = K a m := Eq.trans (Eq.refl (jbd (some (a, m)) K)) rfl
theorem jpu_e {ρ : Type} (M : jMem) (c k : Nat) (v : Int32) (K : jMem → Option ρ) : jpu M c k v K = K (jup M c k v) := Eq.trans (Eq.refl (jpu M c k v K)) rfl
theorem jgd_T {ρ : Type} {p : Prop} [Decidable p] (h : p) (o : Option ρ) : jgd p o = o := if_pos h
/-- truth as a number -/
def tI (b : Bool) : Int32 := if b then nI 1 else nI 0
theorem tI_t : tI true = nI 1 := rfl
theorem tI_f : tI false = nI 0 := rfl
theorem tI0 (b : Bool) : (tI b = nI 0) = (b = false) := by
  cases b
  · exact propext ⟨fun _ => rfl, fun _ => rfl⟩
  · exact propext ⟨fun e => absurd e (by decide), fun e => absurd e (by decide)⟩
theorem tI1 (b : Bool) : (tI b = nI 1) = (b = true) := by
  cases b
  · exact propext ⟨fun e => absurd e (by decide), fun e => absurd e (by decide)⟩
  · exact propext ⟨fun _ => rfl, fun _ => rfl⟩
theorem tIn0 (b : Bool) : (tI b = nI 0 ∨ tI b = nI 1) = True := by cases b <;> exact eq_true (by decide)
theorem jgd_tI {ρ : Type} {b : Bool} (o : Option ρ) : jgd (tI b = nI 0 ∨ tI b = nI 1) o = o := jgd_T (of_eq_true (tIn0 b)) o
theorem jgd_bb {ρ : Type} {b : Bool} (o : Option ρ) : jgd (b = false ∨ b = true) o = o := jgd_T (by cases b; exact Or.inl rfl; exact Or.inr rfl) o
theorem jup_at {M : jMem} {c k : Nat} {v : Int32} : jup M c k v c k = v := if_pos ⟨rfl, rfl⟩
theorem jup_oc {M : jMem} {c k c' : Nat} {v : Int32} (h : c' ≠ c) : jup M c k v c' = M c' := jup_ne h
theorem jup_ok {M : jMem} {c k k' : Nat} {v : Int32} (h : k' ≠ k) : jup M c k v c k' = M c k' := if_neg fun q => h q.2
theorem jld_nI {ρ : Type} {t c N i : Nat} {M : jMem} {K : Int32 → Option ρ} (hN : jlen t c = N) (hb : N < 2147483648) (h : i < N) : jld t M c (nI i) K = K (M c i) := by
  unfold jld
  rw [hN, if_neg (nI_in h hb), nI_clamp (Nat.lt_trans h hb)]
theorem jst_nI {ρ : Type} {t c N i : Nat} {M : jMem} {v : Int32} {K : jMem → Option ρ} (hN : jlen t c = N) (hb : N < 2147483648) (h : i < N) : jst t M c (nI i) v K = K (jup M c i v) := by
  unfold jst
  rw [hN, if_neg (nI_in h hb), nI_clamp (Nat.lt_trans h hb)]
theorem jl3_nI {ρ : Type} {c N b i : Nat} {K : Nat → Option ρ} (hN : jlen 3 c = N) (hb : N < 2147483648) (hr : ∀ j, j < N → jfx c j = b + j) (h : i < N) : jl3 c (nI i) K = K (b + i) := by
  unfold jl3
  rw [hN, if_neg (nI_in h hb), nI_clamp (Nat.lt_trans h hb), hr i h]
theorem jl4_nI {ρ : Type} {c N i : Nat} {M : jMem} {K : Nat → Option ρ} (hN : jlen 4 c = N) (hb : N < 2147483648) (h : i < N) : jl4 M c (nI i) K = K (M c i).toNatClampNeg := by
  unfold jl4
  rw [hN, if_neg (nI_in h hb), nI_clamp (Nat.lt_trans h hb)]
theorem ld_2 {ρ : Type} {i : Nat} {M : jMem} {K : Int32 → Option ρ} (h : i < 400) : jld 1 M 2 (nI i) K = K (M 2 i) := jld_nI rfl (by decide) h
theorem st_2 {ρ : Type} {i : Nat} {M : jMem} {v : Int32} {K : jMem → Option ρ} (h : i < 400) : jst 1 M 2 (nI i) v K = K (jup M 2 i v) := jst_nI rfl (by decide) h
theorem l4_4 {ρ : Type} {i : Nat} {M : jMem} {K : Nat → Option ρ} (h : i < 6) : jl4 M 4 (nI i) K = K (M 4 i).toNatClampNeg := jl4_nI rfl (by decide) h
theorem st_4 {ρ : Type} {i : Nat} {M : jMem} {v : Int32} {K : jMem → Option ρ} (h : i < 6) : jst 4 M 4 (nI i) v K = K (jup M 4 i v) := jst_nI rfl (by decide) h
theorem ld_5 {ρ : Type} {i : Nat} {M : jMem} {K : Int32 → Option ρ} (h : i < 8) : jld 2 M 5 (nI i) K = K (M 5 i) := jld_nI rfl (by decide) h
theorem st_5 {ρ : Type} {i : Nat} {M : jMem} {v : Int32} {K : jMem → Option ρ} (h : i < 8) : jst 2 M 5 (nI i) v K = K (jup M 5 i v) := jst_nI rfl (by decide) h
theorem ld_6 {ρ : Type} {i : Nat} {M : jMem} {K : Int32 → Option ρ} (h : i < 8) : jld 1 M 6 (nI i) K = K (M 6 i) := jld_nI rfl (by decide) h
theorem st_6 {ρ : Type} {i : Nat} {M : jMem} {v : Int32} {K : jMem → Option ρ} (h : i < 8) : jst 1 M 6 (nI i) v K = K (jup M 6 i v) := jst_nI rfl (by decide) h
theorem ld_7 {ρ : Type} {i : Nat} {M : jMem} {K : Int32 → Option ρ} (h : i < 8) : jld 1 M 7 (nI i) K = K (M 7 i) := jld_nI rfl (by decide) h
theorem st_7 {ρ : Type} {i : Nat} {M : jMem} {v : Int32} {K : jMem → Option ρ} (h : i < 8) : jst 1 M 7 (nI i) v K = K (jup M 7 i v) := jst_nI rfl (by decide) h
theorem ld_8 {ρ : Type} {i : Nat} {M : jMem} {K : Int32 → Option ρ} (h : i < 8) : jld 1 M 8 (nI i) K = K (M 8 i) := jld_nI rfl (by decide) h
theorem st_8 {ρ : Type} {i : Nat} {M : jMem} {v : Int32} {K : jMem → Option ρ} (h : i < 8) : jst 1 M 8 (nI i) v K = K (jup M 8 i v) := jst_nI rfl (by decide) h
theorem l4_9 {ρ : Type} {i : Nat} {M : jMem} {K : Nat → Option ρ} (h : i < 64) : jl4 M 9 (nI i) K = K (M 9 i).toNatClampNeg := jl4_nI rfl (by decide) h
theorem st_9 {ρ : Type} {i : Nat} {M : jMem} {v : Int32} {K : jMem → Option ρ} (h : i < 64) : jst 4 M 9 (nI i) v K = K (jup M 9 i v) := jst_nI rfl (by decide) h
theorem ld_10 {ρ : Type} {i : Nat} {M : jMem} {K : Int32 → Option ρ} (h : i < 64) : jld 1 M 10 (nI i) K = K (M 10 i) := jld_nI rfl (by decide) h
theorem st_10 {ρ : Type} {i : Nat} {M : jMem} {v : Int32} {K : jMem → Option ρ} (h : i < 64) : jst 1 M 10 (nI i) v K = K (jup M 10 i v) := jst_nI rfl (by decide) h
theorem ld_11 {ρ : Type} {i : Nat} {M : jMem} {K : Int32 → Option ρ} (h : i < 64) : jld 1 M 11 (nI i) K = K (M 11 i) := jld_nI rfl (by decide) h
theorem st_11 {ρ : Type} {i : Nat} {M : jMem} {v : Int32} {K : jMem → Option ρ} (h : i < 64) : jst 1 M 11 (nI i) v K = K (jup M 11 i v) := jst_nI rfl (by decide) h
theorem l4_13 {ρ : Type} {i : Nat} {M : jMem} {K : Nat → Option ρ} (h : i < 6) : jl4 M 13 (nI i) K = K (M 13 i).toNatClampNeg := jl4_nI rfl (by decide) h
theorem st_13 {ρ : Type} {i : Nat} {M : jMem} {v : Int32} {K : jMem → Option ρ} (h : i < 6) : jst 4 M 13 (nI i) v K = K (jup M 13 i v) := jst_nI rfl (by decide) h
theorem ld_14 {ρ : Type} {i : Nat} {M : jMem} {K : Int32 → Option ρ} (h : i < 8) : jld 2 M 14 (nI i) K = K (M 14 i) := jld_nI rfl (by decide) h
theorem st_14 {ρ : Type} {i : Nat} {M : jMem} {v : Int32} {K : jMem → Option ρ} (h : i < 8) : jst 2 M 14 (nI i) v K = K (jup M 14 i v) := jst_nI rfl (by decide) h
theorem ld_15 {ρ : Type} {i : Nat} {M : jMem} {K : Int32 → Option ρ} (h : i < 8) : jld 1 M 15 (nI i) K = K (M 15 i) := jld_nI rfl (by decide) h
theorem st_15 {ρ : Type} {i : Nat} {M : jMem} {v : Int32} {K : jMem → Option ρ} (h : i < 8) : jst 1 M 15 (nI i) v K = K (jup M 15 i v) := jst_nI rfl (by decide) h
theorem ld_16 {ρ : Type} {i : Nat} {M : jMem} {K : Int32 → Option ρ} (h : i < 8) : jld 1 M 16 (nI i) K = K (M 16 i) := jld_nI rfl (by decide) h
theorem st_16 {ρ : Type} {i : Nat} {M : jMem} {v : Int32} {K : jMem → Option ρ} (h : i < 8) : jst 1 M 16 (nI i) v K = K (jup M 16 i v) := jst_nI rfl (by decide) h
theorem ld_17 {ρ : Type} {i : Nat} {M : jMem} {K : Int32 → Option ρ} (h : i < 8) : jld 1 M 17 (nI i) K = K (M 17 i) := jld_nI rfl (by decide) h
theorem st_17 {ρ : Type} {i : Nat} {M : jMem} {v : Int32} {K : jMem → Option ρ} (h : i < 8) : jst 1 M 17 (nI i) v K = K (jup M 17 i v) := jst_nI rfl (by decide) h
theorem l4_18 {ρ : Type} {i : Nat} {M : jMem} {K : Nat → Option ρ} (h : i < 64) : jl4 M 18 (nI i) K = K (M 18 i).toNatClampNeg := jl4_nI rfl (by decide) h
theorem st_18 {ρ : Type} {i : Nat} {M : jMem} {v : Int32} {K : jMem → Option ρ} (h : i < 64) : jst 4 M 18 (nI i) v K = K (jup M 18 i v) := jst_nI rfl (by decide) h
theorem ld_19 {ρ : Type} {i : Nat} {M : jMem} {K : Int32 → Option ρ} (h : i < 64) : jld 1 M 19 (nI i) K = K (M 19 i) := jld_nI rfl (by decide) h
theorem st_19 {ρ : Type} {i : Nat} {M : jMem} {v : Int32} {K : jMem → Option ρ} (h : i < 64) : jst 1 M 19 (nI i) v K = K (jup M 19 i v) := jst_nI rfl (by decide) h
theorem ld_20 {ρ : Type} {i : Nat} {M : jMem} {K : Int32 → Option ρ} (h : i < 64) : jld 1 M 20 (nI i) K = K (M 20 i) := jld_nI rfl (by decide) h
theorem st_20 {ρ : Type} {i : Nat} {M : jMem} {v : Int32} {K : jMem → Option ρ} (h : i < 64) : jst 1 M 20 (nI i) v K = K (jup M 20 i v) := jst_nI rfl (by decide) h
theorem l4_22 {ρ : Type} {i : Nat} {M : jMem} {K : Nat → Option ρ} (h : i < 72) : jl4 M 22 (nI i) K = K (M 22 i).toNatClampNeg := jl4_nI rfl (by decide) h
theorem st_22 {ρ : Type} {i : Nat} {M : jMem} {v : Int32} {K : jMem → Option ρ} (h : i < 72) : jst 4 M 22 (nI i) v K = K (jup M 22 i v) := jst_nI rfl (by decide) h
theorem ld_23 {ρ : Type} {i : Nat} {M : jMem} {K : Int32 → Option ρ} (h : i < 9) : jld 2 M 23 (nI i) K = K (M 23 i) := jld_nI rfl (by decide) h
theorem st_23 {ρ : Type} {i : Nat} {M : jMem} {v : Int32} {K : jMem → Option ρ} (h : i < 9) : jst 2 M 23 (nI i) v K = K (jup M 23 i v) := jst_nI rfl (by decide) h
theorem l4_25 {ρ : Type} {i : Nat} {M : jMem} {K : Nat → Option ρ} (h : i < 401) : jl4 M 25 (nI i) K = K (M 25 i).toNatClampNeg := jl4_nI rfl (by decide) h
theorem st_25 {ρ : Type} {i : Nat} {M : jMem} {v : Int32} {K : jMem → Option ρ} (h : i < 401) : jst 4 M 25 (nI i) v K = K (jup M 25 i v) := jst_nI rfl (by decide) h
theorem ld_26 {ρ : Type} {i : Nat} {M : jMem} {K : Int32 → Option ρ} (h : i < 401) : jld 1 M 26 (nI i) K = K (M 26 i) := jld_nI rfl (by decide) h
theorem st_26 {ρ : Type} {i : Nat} {M : jMem} {v : Int32} {K : jMem → Option ρ} (h : i < 401) : jst 1 M 26 (nI i) v K = K (jup M 26 i v) := jst_nI rfl (by decide) h
theorem ld_27 {ρ : Type} {i : Nat} {M : jMem} {K : Int32 → Option ρ} (h : i < 401) : jld 1 M 27 (nI i) K = K (M 27 i) := jld_nI rfl (by decide) h
theorem st_27 {ρ : Type} {i : Nat} {M : jMem} {v : Int32} {K : jMem → Option ρ} (h : i < 401) : jst 1 M 27 (nI i) v K = K (jup M 27 i v) := jst_nI rfl (by decide) h
theorem ld_28 {ρ : Type} {i : Nat} {M : jMem} {K : Int32 → Option ρ} (h : i < 7) : jld 1 M 28 (nI i) K = K (M 28 i) := jld_nI rfl (by decide) h
theorem st_28 {ρ : Type} {i : Nat} {M : jMem} {v : Int32} {K : jMem → Option ρ} (h : i < 7) : jst 1 M 28 (nI i) v K = K (jup M 28 i v) := jst_nI rfl (by decide) h
theorem ld_30 {ρ : Type} {i : Nat} {M : jMem} {K : Int32 → Option ρ} (h : i < 30) : jld 1 M 30 (nI i) K = K (M 30 i) := jld_nI rfl (by decide) h
theorem st_30 {ρ : Type} {i : Nat} {M : jMem} {v : Int32} {K : jMem → Option ρ} (h : i < 30) : jst 1 M 30 (nI i) v K = K (jup M 30 i v) := jst_nI rfl (by decide) h
theorem ld_31 {ρ : Type} {i : Nat} {M : jMem} {K : Int32 → Option ρ} (h : i < 30) : jld 1 M 31 (nI i) K = K (M 31 i) := jld_nI rfl (by decide) h
theorem st_31 {ρ : Type} {i : Nat} {M : jMem} {v : Int32} {K : jMem → Option ρ} (h : i < 30) : jst 1 M 31 (nI i) v K = K (jup M 31 i v) := jst_nI rfl (by decide) h
theorem ld_32 {ρ : Type} {i : Nat} {M : jMem} {K : Int32 → Option ρ} (h : i < 30) : jld 1 M 32 (nI i) K = K (M 32 i) := jld_nI rfl (by decide) h
theorem st_32 {ρ : Type} {i : Nat} {M : jMem} {v : Int32} {K : jMem → Option ρ} (h : i < 30) : jst 1 M 32 (nI i) v K = K (jup M 32 i v) := jst_nI rfl (by decide) h
theorem ld_33 {ρ : Type} {i : Nat} {M : jMem} {K : Int32 → Option ρ} (h : i < 30) : jld 1 M 33 (nI i) K = K (M 33 i) := jld_nI rfl (by decide) h
theorem st_33 {ρ : Type} {i : Nat} {M : jMem} {v : Int32} {K : jMem → Option ρ} (h : i < 30) : jst 1 M 33 (nI i) v K = K (jup M 33 i v) := jst_nI rfl (by decide) h
theorem ld_34 {ρ : Type} {i : Nat} {M : jMem} {K : Int32 → Option ρ} (h : i < 30) : jld 1 M 34 (nI i) K = K (M 34 i) := jld_nI rfl (by decide) h
theorem st_34 {ρ : Type} {i : Nat} {M : jMem} {v : Int32} {K : jMem → Option ρ} (h : i < 30) : jst 1 M 34 (nI i) v K = K (jup M 34 i v) := jst_nI rfl (by decide) h
theorem ld_35 {ρ : Type} {i : Nat} {M : jMem} {K : Int32 → Option ρ} (h : i < 30) : jld 1 M 35 (nI i) K = K (M 35 i) := jld_nI rfl (by decide) h
theorem st_35 {ρ : Type} {i : Nat} {M : jMem} {v : Int32} {K : jMem → Option ρ} (h : i < 30) : jst 1 M 35 (nI i) v K = K (jup M 35 i v) := jst_nI rfl (by decide) h
theorem ld_36 {ρ : Type} {i : Nat} {M : jMem} {K : Int32 → Option ρ} (h : i < 30) : jld 1 M 36 (nI i) K = K (M 36 i) := jld_nI rfl (by decide) h
theorem st_36 {ρ : Type} {i : Nat} {M : jMem} {v : Int32} {K : jMem → Option ρ} (h : i < 30) : jst 1 M 36 (nI i) v K = K (jup M 36 i v) := jst_nI rfl (by decide) h
theorem ld_37 {ρ : Type} {i : Nat} {M : jMem} {K : Int32 → Option ρ} (h : i < 30) : jld 1 M 37 (nI i) K = K (M 37 i) := jld_nI rfl (by decide) h
theorem st_37 {ρ : Type} {i : Nat} {M : jMem} {v : Int32} {K : jMem → Option ρ} (h : i < 30) : jst 1 M 37 (nI i) v K = K (jup M 37 i v) := jst_nI rfl (by decide) h
theorem ld_38 {ρ : Type} {i : Nat} {M : jMem} {K : Int32 → Option ρ} (h : i < 30) : jld 1 M 38 (nI i) K = K (M 38 i) := jld_nI rfl (by decide) h
theorem st_38 {ρ : Type} {i : Nat} {M : jMem} {v : Int32} {K : jMem → Option ρ} (h : i < 30) : jst 1 M 38 (nI i) v K = K (jup M 38 i v) := jst_nI rfl (by decide) h
theorem ld_39 {ρ : Type} {i : Nat} {M : jMem} {K : Int32 → Option ρ} (h : i < 30) : jld 1 M 39 (nI i) K = K (M 39 i) := jld_nI rfl (by decide) h
theorem st_39 {ρ : Type} {i : Nat} {M : jMem} {v : Int32} {K : jMem → Option ρ} (h : i < 30) : jst 1 M 39 (nI i) v K = K (jup M 39 i v) := jst_nI rfl (by decide) h
theorem ld_40 {ρ : Type} {i : Nat} {M : jMem} {K : Int32 → Option ρ} (h : i < 30) : jld 1 M 40 (nI i) K = K (M 40 i) := jld_nI rfl (by decide) h
theorem st_40 {ρ : Type} {i : Nat} {M : jMem} {v : Int32} {K : jMem → Option ρ} (h : i < 30) : jst 1 M 40 (nI i) v K = K (jup M 40 i v) := jst_nI rfl (by decide) h
theorem ld_41 {ρ : Type} {i : Nat} {M : jMem} {K : Int32 → Option ρ} (h : i < 30) : jld 1 M 41 (nI i) K = K (M 41 i) := jld_nI rfl (by decide) h
theorem st_41 {ρ : Type} {i : Nat} {M : jMem} {v : Int32} {K : jMem → Option ρ} (h : i < 30) : jst 1 M 41 (nI i) v K = K (jup M 41 i v) := jst_nI rfl (by decide) h
theorem ld_42 {ρ : Type} {i : Nat} {M : jMem} {K : Int32 → Option ρ} (h : i < 6) : jld 1 M 42 (nI i) K = K (M 42 i) := jld_nI rfl (by decide) h
theorem st_42 {ρ : Type} {i : Nat} {M : jMem} {v : Int32} {K : jMem → Option ρ} (h : i < 6) : jst 1 M 42 (nI i) v K = K (jup M 42 i v) := jst_nI rfl (by decide) h
theorem ld_43 {ρ : Type} {i : Nat} {M : jMem} {K : Int32 → Option ρ} (h : i < 6) : jld 1 M 43 (nI i) K = K (M 43 i) := jld_nI rfl (by decide) h
theorem st_43 {ρ : Type} {i : Nat} {M : jMem} {v : Int32} {K : jMem → Option ρ} (h : i < 6) : jst 1 M 43 (nI i) v K = K (jup M 43 i v) := jst_nI rfl (by decide) h
theorem ld_44 {ρ : Type} {i : Nat} {M : jMem} {K : Int32 → Option ρ} (h : i < 30) : jld 1 M 44 (nI i) K = K (M 44 i) := jld_nI rfl (by decide) h
theorem st_44 {ρ : Type} {i : Nat} {M : jMem} {v : Int32} {K : jMem → Option ρ} (h : i < 30) : jst 1 M 44 (nI i) v K = K (jup M 44 i v) := jst_nI rfl (by decide) h
theorem ld_47 {ρ : Type} {i : Nat} {M : jMem} {K : Int32 → Option ρ} (h : i < 6) : jld 1 M 47 (nI i) K = K (M 47 i) := jld_nI rfl (by decide) h
theorem st_47 {ρ : Type} {i : Nat} {M : jMem} {v : Int32} {K : jMem → Option ρ} (h : i < 6) : jst 1 M 47 (nI i) v K = K (jup M 47 i v) := jst_nI rfl (by decide) h
theorem ld_48 {ρ : Type} {i : Nat} {M : jMem} {K : Int32 → Option ρ} (h : i < 6) : jld 1 M 48 (nI i) K = K (M 48 i) := jld_nI rfl (by decide) h
theorem st_48 {ρ : Type} {i : Nat} {M : jMem} {v : Int32} {K : jMem → Option ρ} (h : i < 6) : jst 1 M 48 (nI i) v K = K (jup M 48 i v) := jst_nI rfl (by decide) h
theorem ld_49 {ρ : Type} {i : Nat} {M : jMem} {K : Int32 → Option ρ} (h : i < 6) : jld 1 M 49 (nI i) K = K (M 49 i) := jld_nI rfl (by decide) h
theorem st_49 {ρ : Type} {i : Nat} {M : jMem} {v : Int32} {K : jMem → Option ρ} (h : i < 6) : jst 1 M 49 (nI i) v K = K (jup M 49 i v) := jst_nI rfl (by decide) h
theorem ld_50 {ρ : Type} {i : Nat} {M : jMem} {K : Int32 → Option ρ} (h : i < 6) : jld 1 M 50 (nI i) K = K (M 50 i) := jld_nI rfl (by decide) h
theorem st_50 {ρ : Type} {i : Nat} {M : jMem} {v : Int32} {K : jMem → Option ρ} (h : i < 6) : jst 1 M 50 (nI i) v K = K (jup M 50 i v) := jst_nI rfl (by decide) h
theorem ld_51 {ρ : Type} {i : Nat} {M : jMem} {K : Int32 → Option ρ} (h : i < 6) : jld 1 M 51 (nI i) K = K (M 51 i) := jld_nI rfl (by decide) h
theorem st_51 {ρ : Type} {i : Nat} {M : jMem} {v : Int32} {K : jMem → Option ρ} (h : i < 6) : jst 1 M 51 (nI i) v K = K (jup M 51 i v) := jst_nI rfl (by decide) h
theorem ld_52 {ρ : Type} {i : Nat} {M : jMem} {K : Int32 → Option ρ} (h : i < 6) : jld 1 M 52 (nI i) K = K (M 52 i) := jld_nI rfl (by decide) h
theorem st_52 {ρ : Type} {i : Nat} {M : jMem} {v : Int32} {K : jMem → Option ρ} (h : i < 6) : jst 1 M 52 (nI i) v K = K (jup M 52 i v) := jst_nI rfl (by decide) h
theorem ld_54 {ρ : Type} {i : Nat} {M : jMem} {K : Int32 → Option ρ} (h : i < 6) : jld 1 M 54 (nI i) K = K (M 54 i) := jld_nI rfl (by decide) h
theorem st_54 {ρ : Type} {i : Nat} {M : jMem} {v : Int32} {K : jMem → Option ρ} (h : i < 6) : jst 1 M 54 (nI i) v K = K (jup M 54 i v) := jst_nI rfl (by decide) h
theorem ld_55 {ρ : Type} {i : Nat} {M : jMem} {K : Int32 → Option ρ} (h : i < 6) : jld 1 M 55 (nI i) K = K (M 55 i) := jld_nI rfl (by decide) h
theorem st_55 {ρ : Type} {i : Nat} {M : jMem} {v : Int32} {K : jMem → Option ρ} (h : i < 6) : jst 1 M 55 (nI i) v K = K (jup M 55 i v) := jst_nI rfl (by decide) h
theorem ld_56 {ρ : Type} {i : Nat} {M : jMem} {K : Int32 → Option ρ} (h : i < 6) : jld 1 M 56 (nI i) K = K (M 56 i) := jld_nI rfl (by decide) h
theorem st_56 {ρ : Type} {i : Nat} {M : jMem} {v : Int32} {K : jMem → Option ρ} (h : i < 6) : jst 1 M 56 (nI i) v K = K (jup M 56 i v) := jst_nI rfl (by decide) h
theorem ld_57 {ρ : Type} {i : Nat} {M : jMem} {K : Int32 → Option ρ} (h : i < 6) : jld 1 M 57 (nI i) K = K (M 57 i) := jld_nI rfl (by decide) h
theorem st_57 {ρ : Type} {i : Nat} {M : jMem} {v : Int32} {K : jMem → Option ρ} (h : i < 6) : jst 1 M 57 (nI i) v K = K (jup M 57 i v) := jst_nI rfl (by decide) h
theorem ld_58 {ρ : Type} {i : Nat} {M : jMem} {K : Int32 → Option ρ} (h : i < 6) : jld 1 M 58 (nI i) K = K (M 58 i) := jld_nI rfl (by decide) h
theorem st_58 {ρ : Type} {i : Nat} {M : jMem} {v : Int32} {K : jMem → Option ρ} (h : i < 6) : jst 1 M 58 (nI i) v K = K (jup M 58 i v) := jst_nI rfl (by decide) h
theorem ld_59 {ρ : Type} {i : Nat} {M : jMem} {K : Int32 → Option ρ} (h : i < 6) : jld 1 M 59 (nI i) K = K (M 59 i) := jld_nI rfl (by decide) h
theorem st_59 {ρ : Type} {i : Nat} {M : jMem} {v : Int32} {K : jMem → Option ρ} (h : i < 6) : jst 1 M 59 (nI i) v K = K (jup M 59 i v) := jst_nI rfl (by decide) h
theorem ld_60 {ρ : Type} {i : Nat} {M : jMem} {K : Int32 → Option ρ} (h : i < 150) : jld 1 M 60 (nI i) K = K (M 60 i) := jld_nI rfl (by decide) h
theorem st_60 {ρ : Type} {i : Nat} {M : jMem} {v : Int32} {K : jMem → Option ρ} (h : i < 150) : jst 1 M 60 (nI i) v K = K (jup M 60 i v) := jst_nI rfl (by decide) h
theorem ld_61 {ρ : Type} {i : Nat} {M : jMem} {K : Int32 → Option ρ} (h : i < 150) : jld 1 M 61 (nI i) K = K (M 61 i) := jld_nI rfl (by decide) h
theorem st_61 {ρ : Type} {i : Nat} {M : jMem} {v : Int32} {K : jMem → Option ρ} (h : i < 150) : jst 1 M 61 (nI i) v K = K (jup M 61 i v) := jst_nI rfl (by decide) h
theorem ld_62 {ρ : Type} {i : Nat} {M : jMem} {K : Int32 → Option ρ} (h : i < 150) : jld 1 M 62 (nI i) K = K (M 62 i) := jld_nI rfl (by decide) h
theorem st_62 {ρ : Type} {i : Nat} {M : jMem} {v : Int32} {K : jMem → Option ρ} (h : i < 150) : jst 1 M 62 (nI i) v K = K (jup M 62 i v) := jst_nI rfl (by decide) h
theorem ld_63 {ρ : Type} {i : Nat} {M : jMem} {K : Int32 → Option ρ} (h : i < 150) : jld 1 M 63 (nI i) K = K (M 63 i) := jld_nI rfl (by decide) h
theorem st_63 {ρ : Type} {i : Nat} {M : jMem} {v : Int32} {K : jMem → Option ρ} (h : i < 150) : jst 1 M 63 (nI i) v K = K (jup M 63 i v) := jst_nI rfl (by decide) h
theorem ld_64 {ρ : Type} {i : Nat} {M : jMem} {K : Int32 → Option ρ} (h : i < 150) : jld 1 M 64 (nI i) K = K (M 64 i) := jld_nI rfl (by decide) h
theorem st_64 {ρ : Type} {i : Nat} {M : jMem} {v : Int32} {K : jMem → Option ρ} (h : i < 150) : jst 1 M 64 (nI i) v K = K (jup M 64 i v) := jst_nI rfl (by decide) h
theorem ld_67 {ρ : Type} {i : Nat} {M : jMem} {K : Int32 → Option ρ} (h : i < 30) : jld 1 M 67 (nI i) K = K (M 67 i) := jld_nI rfl (by decide) h
theorem st_67 {ρ : Type} {i : Nat} {M : jMem} {v : Int32} {K : jMem → Option ρ} (h : i < 30) : jst 1 M 67 (nI i) v K = K (jup M 67 i v) := jst_nI rfl (by decide) h
theorem ld_68 {ρ : Type} {i : Nat} {M : jMem} {K : Int32 → Option ρ} (h : i < 30) : jld 1 M 68 (nI i) K = K (M 68 i) := jld_nI rfl (by decide) h
theorem st_68 {ρ : Type} {i : Nat} {M : jMem} {v : Int32} {K : jMem → Option ρ} (h : i < 30) : jst 1 M 68 (nI i) v K = K (jup M 68 i v) := jst_nI rfl (by decide) h
theorem ld_69 {ρ : Type} {i : Nat} {M : jMem} {K : Int32 → Option ρ} (h : i < 30) : jld 1 M 69 (nI i) K = K (M 69 i) := jld_nI rfl (by decide) h
theorem st_69 {ρ : Type} {i : Nat} {M : jMem} {v : Int32} {K : jMem → Option ρ} (h : i < 30) : jst 1 M 69 (nI i) v K = K (jup M 69 i v) := jst_nI rfl (by decide) h
theorem ld_70 {ρ : Type} {i : Nat} {M : jMem} {K : Int32 → Option ρ} (h : i < 30) : jld 1 M 70 (nI i) K = K (M 70 i) := jld_nI rfl (by decide) h
theorem st_70 {ρ : Type} {i : Nat} {M : jMem} {v : Int32} {K : jMem → Option ρ} (h : i < 30) : jst 1 M 70 (nI i) v K = K (jup M 70 i v) := jst_nI rfl (by decide) h
theorem ld_71 {ρ : Type} {i : Nat} {M : jMem} {K : Int32 → Option ρ} (h : i < 30) : jld 1 M 71 (nI i) K = K (M 71 i) := jld_nI rfl (by decide) h
theorem st_71 {ρ : Type} {i : Nat} {M : jMem} {v : Int32} {K : jMem → Option ρ} (h : i < 30) : jst 1 M 71 (nI i) v K = K (jup M 71 i v) := jst_nI rfl (by decide) h
theorem ld_72 {ρ : Type} {i : Nat} {M : jMem} {K : Int32 → Option ρ} (h : i < 30) : jld 1 M 72 (nI i) K = K (M 72 i) := jld_nI rfl (by decide) h
theorem st_72 {ρ : Type} {i : Nat} {M : jMem} {v : Int32} {K : jMem → Option ρ} (h : i < 30) : jst 1 M 72 (nI i) v K = K (jup M 72 i v) := jst_nI rfl (by decide) h
theorem ld_73 {ρ : Type} {i : Nat} {M : jMem} {K : Int32 → Option ρ} (h : i < 6) : jld 1 M 73 (nI i) K = K (M 73 i) := jld_nI rfl (by decide) h
theorem st_73 {ρ : Type} {i : Nat} {M : jMem} {v : Int32} {K : jMem → Option ρ} (h : i < 6) : jst 1 M 73 (nI i) v K = K (jup M 73 i v) := jst_nI rfl (by decide) h
theorem ld_74 {ρ : Type} {i : Nat} {M : jMem} {K : Int32 → Option ρ} (h : i < 6) : jld 1 M 74 (nI i) K = K (M 74 i) := jld_nI rfl (by decide) h
theorem st_74 {ρ : Type} {i : Nat} {M : jMem} {v : Int32} {K : jMem → Option ρ} (h : i < 6) : jst 1 M 74 (nI i) v K = K (jup M 74 i v) := jst_nI rfl (by decide) h
theorem ld_75 {ρ : Type} {i : Nat} {M : jMem} {K : Int32 → Option ρ} (h : i < 6) : jld 1 M 75 (nI i) K = K (M 75 i) := jld_nI rfl (by decide) h
theorem st_75 {ρ : Type} {i : Nat} {M : jMem} {v : Int32} {K : jMem → Option ρ} (h : i < 6) : jst 1 M 75 (nI i) v K = K (jup M 75 i v) := jst_nI rfl (by decide) h
theorem ld_77 {ρ : Type} {i : Nat} {M : jMem} {K : Int32 → Option ρ} (h : i < 30) : jld 1 M 77 (nI i) K = K (M 77 i) := jld_nI rfl (by decide) h
theorem st_77 {ρ : Type} {i : Nat} {M : jMem} {v : Int32} {K : jMem → Option ρ} (h : i < 30) : jst 1 M 77 (nI i) v K = K (jup M 77 i v) := jst_nI rfl (by decide) h
theorem ld_78 {ρ : Type} {i : Nat} {M : jMem} {K : Int32 → Option ρ} (h : i < 30) : jld 1 M 78 (nI i) K = K (M 78 i) := jld_nI rfl (by decide) h
theorem st_78 {ρ : Type} {i : Nat} {M : jMem} {v : Int32} {K : jMem → Option ρ} (h : i < 30) : jst 1 M 78 (nI i) v K = K (jup M 78 i v) := jst_nI rfl (by decide) h
theorem ld_79 {ρ : Type} {i : Nat} {M : jMem} {K : Int32 → Option ρ} (h : i < 30) : jld 1 M 79 (nI i) K = K (M 79 i) := jld_nI rfl (by decide) h
theorem st_79 {ρ : Type} {i : Nat} {M : jMem} {v : Int32} {K : jMem → Option ρ} (h : i < 30) : jst 1 M 79 (nI i) v K = K (jup M 79 i v) := jst_nI rfl (by decide) h
theorem ld_80 {ρ : Type} {i : Nat} {M : jMem} {K : Int32 → Option ρ} (h : i < 30) : jld 1 M 80 (nI i) K = K (M 80 i) := jld_nI rfl (by decide) h
theorem st_80 {ρ : Type} {i : Nat} {M : jMem} {v : Int32} {K : jMem → Option ρ} (h : i < 30) : jst 1 M 80 (nI i) v K = K (jup M 80 i v) := jst_nI rfl (by decide) h
theorem ld_81 {ρ : Type} {i : Nat} {M : jMem} {K : Int32 → Option ρ} (h : i < 30) : jld 1 M 81 (nI i) K = K (M 81 i) := jld_nI rfl (by decide) h
theorem st_81 {ρ : Type} {i : Nat} {M : jMem} {v : Int32} {K : jMem → Option ρ} (h : i < 30) : jst 1 M 81 (nI i) v K = K (jup M 81 i v) := jst_nI rfl (by decide) h
theorem ld_82 {ρ : Type} {i : Nat} {M : jMem} {K : Int32 → Option ρ} (h : i < 30) : jld 1 M 82 (nI i) K = K (M 82 i) := jld_nI rfl (by decide) h
theorem st_82 {ρ : Type} {i : Nat} {M : jMem} {v : Int32} {K : jMem → Option ρ} (h : i < 30) : jst 1 M 82 (nI i) v K = K (jup M 82 i v) := jst_nI rfl (by decide) h
theorem ld_85 {ρ : Type} {i : Nat} {M : jMem} {K : Int32 → Option ρ} (h : i < 30) : jld 1 M 85 (nI i) K = K (M 85 i) := jld_nI rfl (by decide) h
theorem st_85 {ρ : Type} {i : Nat} {M : jMem} {v : Int32} {K : jMem → Option ρ} (h : i < 30) : jst 1 M 85 (nI i) v K = K (jup M 85 i v) := jst_nI rfl (by decide) h
theorem ld_86 {ρ : Type} {i : Nat} {M : jMem} {K : Int32 → Option ρ} (h : i < 30) : jld 1 M 86 (nI i) K = K (M 86 i) := jld_nI rfl (by decide) h
theorem st_86 {ρ : Type} {i : Nat} {M : jMem} {v : Int32} {K : jMem → Option ρ} (h : i < 30) : jst 1 M 86 (nI i) v K = K (jup M 86 i v) := jst_nI rfl (by decide) h
theorem ld_87 {ρ : Type} {i : Nat} {M : jMem} {K : Int32 → Option ρ} (h : i < 30) : jld 1 M 87 (nI i) K = K (M 87 i) := jld_nI rfl (by decide) h
theorem st_87 {ρ : Type} {i : Nat} {M : jMem} {v : Int32} {K : jMem → Option ρ} (h : i < 30) : jst 1 M 87 (nI i) v K = K (jup M 87 i v) := jst_nI rfl (by decide) h
theorem ld_88 {ρ : Type} {i : Nat} {M : jMem} {K : Int32 → Option ρ} (h : i < 30) : jld 1 M 88 (nI i) K = K (M 88 i) := jld_nI rfl (by decide) h
theorem st_88 {ρ : Type} {i : Nat} {M : jMem} {v : Int32} {K : jMem → Option ρ} (h : i < 30) : jst 1 M 88 (nI i) v K = K (jup M 88 i v) := jst_nI rfl (by decide) h
theorem ld_90 {ρ : Type} {i : Nat} {M : jMem} {K : Int32 → Option ρ} (h : i < 12) : jld 1 M 90 (nI i) K = K (M 90 i) := jld_nI rfl (by decide) h
theorem st_90 {ρ : Type} {i : Nat} {M : jMem} {v : Int32} {K : jMem → Option ρ} (h : i < 12) : jst 1 M 90 (nI i) v K = K (jup M 90 i v) := jst_nI rfl (by decide) h
theorem ld_91 {ρ : Type} {i : Nat} {M : jMem} {K : Int32 → Option ρ} (h : i < 12) : jld 1 M 91 (nI i) K = K (M 91 i) := jld_nI rfl (by decide) h
theorem st_91 {ρ : Type} {i : Nat} {M : jMem} {v : Int32} {K : jMem → Option ρ} (h : i < 12) : jst 1 M 91 (nI i) v K = K (jup M 91 i v) := jst_nI rfl (by decide) h
theorem ld_92 {ρ : Type} {i : Nat} {M : jMem} {K : Int32 → Option ρ} (h : i < 12) : jld 1 M 92 (nI i) K = K (M 92 i) := jld_nI rfl (by decide) h
theorem st_92 {ρ : Type} {i : Nat} {M : jMem} {v : Int32} {K : jMem → Option ρ} (h : i < 12) : jst 1 M 92 (nI i) v K = K (jup M 92 i v) := jst_nI rfl (by decide) h
theorem ld_93 {ρ : Type} {i : Nat} {M : jMem} {K : Int32 → Option ρ} (h : i < 12) : jld 1 M 93 (nI i) K = K (M 93 i) := jld_nI rfl (by decide) h
theorem st_93 {ρ : Type} {i : Nat} {M : jMem} {v : Int32} {K : jMem → Option ρ} (h : i < 12) : jst 1 M 93 (nI i) v K = K (jup M 93 i v) := jst_nI rfl (by decide) h
theorem ld_94 {ρ : Type} {i : Nat} {M : jMem} {K : Int32 → Option ρ} (h : i < 4096) : jld 1 M 94 (nI i) K = K (M 94 i) := jld_nI rfl (by decide) h
theorem st_94 {ρ : Type} {i : Nat} {M : jMem} {v : Int32} {K : jMem → Option ρ} (h : i < 4096) : jst 1 M 94 (nI i) v K = K (jup M 94 i v) := jst_nI rfl (by decide) h
theorem ld_95 {ρ : Type} {i : Nat} {M : jMem} {K : Int32 → Option ρ} (h : i < 4096) : jld 1 M 95 (nI i) K = K (M 95 i) := jld_nI rfl (by decide) h
theorem st_95 {ρ : Type} {i : Nat} {M : jMem} {v : Int32} {K : jMem → Option ρ} (h : i < 4096) : jst 1 M 95 (nI i) v K = K (jup M 95 i v) := jst_nI rfl (by decide) h
theorem ld_97 {ρ : Type} {i : Nat} {M : jMem} {K : Int32 → Option ρ} (h : i < 12) : jld 1 M 97 (nI i) K = K (M 97 i) := jld_nI rfl (by decide) h
theorem st_97 {ρ : Type} {i : Nat} {M : jMem} {v : Int32} {K : jMem → Option ρ} (h : i < 12) : jst 1 M 97 (nI i) v K = K (jup M 97 i v) := jst_nI rfl (by decide) h
theorem ld_98 {ρ : Type} {i : Nat} {M : jMem} {K : Int32 → Option ρ} (h : i < 12) : jld 1 M 98 (nI i) K = K (M 98 i) := jld_nI rfl (by decide) h
theorem st_98 {ρ : Type} {i : Nat} {M : jMem} {v : Int32} {K : jMem → Option ρ} (h : i < 12) : jst 1 M 98 (nI i) v K = K (jup M 98 i v) := jst_nI rfl (by decide) h
theorem ld_99 {ρ : Type} {i : Nat} {M : jMem} {K : Int32 → Option ρ} (h : i < 12) : jld 1 M 99 (nI i) K = K (M 99 i) := jld_nI rfl (by decide) h
theorem st_99 {ρ : Type} {i : Nat} {M : jMem} {v : Int32} {K : jMem → Option ρ} (h : i < 12) : jst 1 M 99 (nI i) v K = K (jup M 99 i v) := jst_nI rfl (by decide) h
theorem ld_100 {ρ : Type} {i : Nat} {M : jMem} {K : Int32 → Option ρ} (h : i < 12) : jld 1 M 100 (nI i) K = K (M 100 i) := jld_nI rfl (by decide) h
theorem st_100 {ρ : Type} {i : Nat} {M : jMem} {v : Int32} {K : jMem → Option ρ} (h : i < 12) : jst 1 M 100 (nI i) v K = K (jup M 100 i v) := jst_nI rfl (by decide) h
theorem ld_101 {ρ : Type} {i : Nat} {M : jMem} {K : Int32 → Option ρ} (h : i < 12) : jld 1 M 101 (nI i) K = K (M 101 i) := jld_nI rfl (by decide) h
theorem st_101 {ρ : Type} {i : Nat} {M : jMem} {v : Int32} {K : jMem → Option ρ} (h : i < 12) : jst 1 M 101 (nI i) v K = K (jup M 101 i v) := jst_nI rfl (by decide) h
theorem ld_102 {ρ : Type} {i : Nat} {M : jMem} {K : Int32 → Option ρ} (h : i < 12) : jld 1 M 102 (nI i) K = K (M 102 i) := jld_nI rfl (by decide) h
theorem st_102 {ρ : Type} {i : Nat} {M : jMem} {v : Int32} {K : jMem → Option ρ} (h : i < 12) : jst 1 M 102 (nI i) v K = K (jup M 102 i v) := jst_nI rfl (by decide) h
theorem ld_103 {ρ : Type} {i : Nat} {M : jMem} {K : Int32 → Option ρ} (h : i < 12) : jld 1 M 103 (nI i) K = K (M 103 i) := jld_nI rfl (by decide) h
theorem st_103 {ρ : Type} {i : Nat} {M : jMem} {v : Int32} {K : jMem → Option ρ} (h : i < 12) : jst 1 M 103 (nI i) v K = K (jup M 103 i v) := jst_nI rfl (by decide) h
theorem ld_104 {ρ : Type} {i : Nat} {M : jMem} {K : Int32 → Option ρ} (h : i < 12) : jld 1 M 104 (nI i) K = K (M 104 i) := jld_nI rfl (by decide) h
theorem st_104 {ρ : Type} {i : Nat} {M : jMem} {v : Int32} {K : jMem → Option ρ} (h : i < 12) : jst 1 M 104 (nI i) v K = K (jup M 104 i v) := jst_nI rfl (by decide) h
theorem ld_105 {ρ : Type} {i : Nat} {M : jMem} {K : Int32 → Option ρ} (h : i < 12) : jld 1 M 105 (nI i) K = K (M 105 i) := jld_nI rfl (by decide) h
theorem st_105 {ρ : Type} {i : Nat} {M : jMem} {v : Int32} {K : jMem → Option ρ} (h : i < 12) : jst 1 M 105 (nI i) v K = K (jup M 105 i v) := jst_nI rfl (by decide) h
theorem ld_106 {ρ : Type} {i : Nat} {M : jMem} {K : Int32 → Option ρ} (h : i < 12) : jld 1 M 106 (nI i) K = K (M 106 i) := jld_nI rfl (by decide) h
theorem st_106 {ρ : Type} {i : Nat} {M : jMem} {v : Int32} {K : jMem → Option ρ} (h : i < 12) : jst 1 M 106 (nI i) v K = K (jup M 106 i v) := jst_nI rfl (by decide) h
theorem ld_107 {ρ : Type} {i : Nat} {M : jMem} {K : Int32 → Option ρ} (h : i < 12) : jld 1 M 107 (nI i) K = K (M 107 i) := jld_nI rfl (by decide) h
theorem st_107 {ρ : Type} {i : Nat} {M : jMem} {v : Int32} {K : jMem → Option ρ} (h : i < 12) : jst 1 M 107 (nI i) v K = K (jup M 107 i v) := jst_nI rfl (by decide) h
theorem ld_108 {ρ : Type} {i : Nat} {M : jMem} {K : Int32 → Option ρ} (h : i < 12) : jld 1 M 108 (nI i) K = K (M 108 i) := jld_nI rfl (by decide) h
theorem st_108 {ρ : Type} {i : Nat} {M : jMem} {v : Int32} {K : jMem → Option ρ} (h : i < 12) : jst 1 M 108 (nI i) v K = K (jup M 108 i v) := jst_nI rfl (by decide) h
theorem ld_110 {ρ : Type} {i : Nat} {M : jMem} {K : Int32 → Option ρ} (h : i < 400) : jld 1 M 110 (nI i) K = K (M 110 i) := jld_nI rfl (by decide) h
theorem st_110 {ρ : Type} {i : Nat} {M : jMem} {v : Int32} {K : jMem → Option ρ} (h : i < 400) : jst 1 M 110 (nI i) v K = K (jup M 110 i v) := jst_nI rfl (by decide) h
theorem ld_111 {ρ : Type} {i : Nat} {M : jMem} {K : Int32 → Option ρ} (h : i < 128) : jld 1 M 111 (nI i) K = K (M 111 i) := jld_nI rfl (by decide) h
theorem st_111 {ρ : Type} {i : Nat} {M : jMem} {v : Int32} {K : jMem → Option ρ} (h : i < 128) : jst 1 M 111 (nI i) v K = K (jup M 111 i v) := jst_nI rfl (by decide) h
theorem ld_112 {ρ : Type} {i : Nat} {M : jMem} {K : Int32 → Option ρ} (h : i < 128) : jld 1 M 112 (nI i) K = K (M 112 i) := jld_nI rfl (by decide) h
theorem st_112 {ρ : Type} {i : Nat} {M : jMem} {v : Int32} {K : jMem → Option ρ} (h : i < 128) : jst 1 M 112 (nI i) v K = K (jup M 112 i v) := jst_nI rfl (by decide) h
theorem ld_113 {ρ : Type} {i : Nat} {M : jMem} {K : Int32 → Option ρ} (h : i < 18) : jld 2 M 113 (nI i) K = K (M 113 i) := jld_nI rfl (by decide) h
theorem st_113 {ρ : Type} {i : Nat} {M : jMem} {v : Int32} {K : jMem → Option ρ} (h : i < 18) : jst 2 M 113 (nI i) v K = K (jup M 113 i v) := jst_nI rfl (by decide) h
theorem ld_114 {ρ : Type} {i : Nat} {M : jMem} {K : Int32 → Option ρ} (h : i < 18) : jld 1 M 114 (nI i) K = K (M 114 i) := jld_nI rfl (by decide) h
theorem st_114 {ρ : Type} {i : Nat} {M : jMem} {v : Int32} {K : jMem → Option ρ} (h : i < 18) : jst 1 M 114 (nI i) v K = K (jup M 114 i v) := jst_nI rfl (by decide) h
theorem ld_115 {ρ : Type} {i : Nat} {M : jMem} {K : Int32 → Option ρ} (h : i < 18) : jld 1 M 115 (nI i) K = K (M 115 i) := jld_nI rfl (by decide) h
theorem st_115 {ρ : Type} {i : Nat} {M : jMem} {v : Int32} {K : jMem → Option ρ} (h : i < 18) : jst 1 M 115 (nI i) v K = K (jup M 115 i v) := jst_nI rfl (by decide) h
theorem ld_116 {ρ : Type} {i : Nat} {M : jMem} {K : Int32 → Option ρ} (h : i < 12) : jld 1 M 116 (nI i) K = K (M 116 i) := jld_nI rfl (by decide) h
theorem st_116 {ρ : Type} {i : Nat} {M : jMem} {v : Int32} {K : jMem → Option ρ} (h : i < 12) : jst 1 M 116 (nI i) v K = K (jup M 116 i v) := jst_nI rfl (by decide) h
theorem ld_117 {ρ : Type} {i : Nat} {M : jMem} {K : Int32 → Option ρ} (h : i < 96) : jld 1 M 117 (nI i) K = K (M 117 i) := jld_nI rfl (by decide) h
theorem st_117 {ρ : Type} {i : Nat} {M : jMem} {v : Int32} {K : jMem → Option ρ} (h : i < 96) : jst 1 M 117 (nI i) v K = K (jup M 117 i v) := jst_nI rfl (by decide) h
theorem ld_118 {ρ : Type} {i : Nat} {M : jMem} {K : Int32 → Option ρ} (h : i < 7) : jld 1 M 118 (nI i) K = K (M 118 i) := jld_nI rfl (by decide) h
theorem st_118 {ρ : Type} {i : Nat} {M : jMem} {v : Int32} {K : jMem → Option ρ} (h : i < 7) : jst 1 M 118 (nI i) v K = K (jup M 118 i v) := jst_nI rfl (by decide) h
theorem ld_119 {ρ : Type} {i : Nat} {M : jMem} {K : Int32 → Option ρ} (h : i < 72) : jld 1 M 119 (nI i) K = K (M 119 i) := jld_nI rfl (by decide) h
theorem st_119 {ρ : Type} {i : Nat} {M : jMem} {v : Int32} {K : jMem → Option ρ} (h : i < 72) : jst 1 M 119 (nI i) v K = K (jup M 119 i v) := jst_nI rfl (by decide) h
theorem ld_120 {ρ : Type} {i : Nat} {M : jMem} {K : Int32 → Option ρ} (h : i < 36) : jld 1 M 120 (nI i) K = K (M 120 i) := jld_nI rfl (by decide) h
theorem st_120 {ρ : Type} {i : Nat} {M : jMem} {v : Int32} {K : jMem → Option ρ} (h : i < 36) : jst 1 M 120 (nI i) v K = K (jup M 120 i v) := jst_nI rfl (by decide) h
theorem ld_121 {ρ : Type} {i : Nat} {M : jMem} {K : Int32 → Option ρ} (h : i < 30) : jld 1 M 121 (nI i) K = K (M 121 i) := jld_nI rfl (by decide) h
theorem st_121 {ρ : Type} {i : Nat} {M : jMem} {v : Int32} {K : jMem → Option ρ} (h : i < 30) : jst 1 M 121 (nI i) v K = K (jup M 121 i v) := jst_nI rfl (by decide) h
theorem ld_122 {ρ : Type} {i : Nat} {M : jMem} {K : Int32 → Option ρ} (h : i < 30) : jld 1 M 122 (nI i) K = K (M 122 i) := jld_nI rfl (by decide) h
theorem st_122 {ρ : Type} {i : Nat} {M : jMem} {v : Int32} {K : jMem → Option ρ} (h : i < 30) : jst 1 M 122 (nI i) v K = K (jup M 122 i v) := jst_nI rfl (by decide) h
theorem ld_123 {ρ : Type} {i : Nat} {M : jMem} {K : Int32 → Option ρ} (h : i < 30) : jld 1 M 123 (nI i) K = K (M 123 i) := jld_nI rfl (by decide) h
theorem st_123 {ρ : Type} {i : Nat} {M : jMem} {v : Int32} {K : jMem → Option ρ} (h : i < 30) : jst 1 M 123 (nI i) v K = K (jup M 123 i v) := jst_nI rfl (by decide) h
theorem ld_124 {ρ : Type} {i : Nat} {M : jMem} {K : Int32 → Option ρ} (h : i < 30) : jld 1 M 124 (nI i) K = K (M 124 i) := jld_nI rfl (by decide) h
theorem st_124 {ρ : Type} {i : Nat} {M : jMem} {v : Int32} {K : jMem → Option ρ} (h : i < 30) : jst 1 M 124 (nI i) v K = K (jup M 124 i v) := jst_nI rfl (by decide) h
theorem ld_125 {ρ : Type} {i : Nat} {M : jMem} {K : Int32 → Option ρ} (h : i < 30) : jld 1 M 125 (nI i) K = K (M 125 i) := jld_nI rfl (by decide) h
theorem st_125 {ρ : Type} {i : Nat} {M : jMem} {v : Int32} {K : jMem → Option ρ} (h : i < 30) : jst 1 M 125 (nI i) v K = K (jup M 125 i v) := jst_nI rfl (by decide) h
theorem ld_126 {ρ : Type} {i : Nat} {M : jMem} {K : Int32 → Option ρ} (h : i < 30) : jld 1 M 126 (nI i) K = K (M 126 i) := jld_nI rfl (by decide) h
theorem st_126 {ρ : Type} {i : Nat} {M : jMem} {v : Int32} {K : jMem → Option ρ} (h : i < 30) : jst 1 M 126 (nI i) v K = K (jup M 126 i v) := jst_nI rfl (by decide) h
theorem ld_127 {ρ : Type} {i : Nat} {M : jMem} {K : Int32 → Option ρ} (h : i < 30) : jld 1 M 127 (nI i) K = K (M 127 i) := jld_nI rfl (by decide) h
theorem st_127 {ρ : Type} {i : Nat} {M : jMem} {v : Int32} {K : jMem → Option ρ} (h : i < 30) : jst 1 M 127 (nI i) v K = K (jup M 127 i v) := jst_nI rfl (by decide) h
theorem ld_128 {ρ : Type} {i : Nat} {M : jMem} {K : Int32 → Option ρ} (h : i < 30) : jld 1 M 128 (nI i) K = K (M 128 i) := jld_nI rfl (by decide) h
theorem st_128 {ρ : Type} {i : Nat} {M : jMem} {v : Int32} {K : jMem → Option ρ} (h : i < 30) : jst 1 M 128 (nI i) v K = K (jup M 128 i v) := jst_nI rfl (by decide) h
theorem ld_129 {ρ : Type} {i : Nat} {M : jMem} {K : Int32 → Option ρ} (h : i < 30) : jld 2 M 129 (nI i) K = K (M 129 i) := jld_nI rfl (by decide) h
theorem st_129 {ρ : Type} {i : Nat} {M : jMem} {v : Int32} {K : jMem → Option ρ} (h : i < 30) : jst 2 M 129 (nI i) v K = K (jup M 129 i v) := jst_nI rfl (by decide) h
theorem ld_130 {ρ : Type} {i : Nat} {M : jMem} {K : Int32 → Option ρ} (h : i < 150) : jld 1 M 130 (nI i) K = K (M 130 i) := jld_nI rfl (by decide) h
theorem st_130 {ρ : Type} {i : Nat} {M : jMem} {v : Int32} {K : jMem → Option ρ} (h : i < 150) : jst 1 M 130 (nI i) v K = K (jup M 130 i v) := jst_nI rfl (by decide) h
theorem ld_131 {ρ : Type} {i : Nat} {M : jMem} {K : Int32 → Option ρ} (h : i < 150) : jld 1 M 131 (nI i) K = K (M 131 i) := jld_nI rfl (by decide) h
theorem st_131 {ρ : Type} {i : Nat} {M : jMem} {v : Int32} {K : jMem → Option ρ} (h : i < 150) : jst 1 M 131 (nI i) v K = K (jup M 131 i v) := jst_nI rfl (by decide) h
theorem ld_132 {ρ : Type} {i : Nat} {M : jMem} {K : Int32 → Option ρ} (h : i < 150) : jld 1 M 132 (nI i) K = K (M 132 i) := jld_nI rfl (by decide) h
theorem st_132 {ρ : Type} {i : Nat} {M : jMem} {v : Int32} {K : jMem → Option ρ} (h : i < 150) : jst 1 M 132 (nI i) v K = K (jup M 132 i v) := jst_nI rfl (by decide) h
theorem ld_133 {ρ : Type} {i : Nat} {M : jMem} {K : Int32 → Option ρ} (h : i < 150) : jld 1 M 133 (nI i) K = K (M 133 i) := jld_nI rfl (by decide) h
theorem st_133 {ρ : Type} {i : Nat} {M : jMem} {v : Int32} {K : jMem → Option ρ} (h : i < 150) : jst 1 M 133 (nI i) v K = K (jup M 133 i v) := jst_nI rfl (by decide) h
theorem ld_134 {ρ : Type} {i : Nat} {M : jMem} {K : Int32 → Option ρ} (h : i < 150) : jld 1 M 134 (nI i) K = K (M 134 i) := jld_nI rfl (by decide) h
theorem st_134 {ρ : Type} {i : Nat} {M : jMem} {v : Int32} {K : jMem → Option ρ} (h : i < 150) : jst 1 M 134 (nI i) v K = K (jup M 134 i v) := jst_nI rfl (by decide) h
theorem ld_135 {ρ : Type} {i : Nat} {M : jMem} {K : Int32 → Option ρ} (h : i < 6) : jld 1 M 135 (nI i) K = K (M 135 i) := jld_nI rfl (by decide) h
theorem st_135 {ρ : Type} {i : Nat} {M : jMem} {v : Int32} {K : jMem → Option ρ} (h : i < 6) : jst 1 M 135 (nI i) v K = K (jup M 135 i v) := jst_nI rfl (by decide) h
theorem ld_136 {ρ : Type} {i : Nat} {M : jMem} {K : Int32 → Option ρ} (h : i < 180) : jld 1 M 136 (nI i) K = K (M 136 i) := jld_nI rfl (by decide) h
theorem st_136 {ρ : Type} {i : Nat} {M : jMem} {v : Int32} {K : jMem → Option ρ} (h : i < 180) : jst 1 M 136 (nI i) v K = K (jup M 136 i v) := jst_nI rfl (by decide) h
theorem ld_137 {ρ : Type} {i : Nat} {M : jMem} {K : Int32 → Option ρ} (h : i < 180) : jld 1 M 137 (nI i) K = K (M 137 i) := jld_nI rfl (by decide) h
theorem st_137 {ρ : Type} {i : Nat} {M : jMem} {v : Int32} {K : jMem → Option ρ} (h : i < 180) : jst 1 M 137 (nI i) v K = K (jup M 137 i v) := jst_nI rfl (by decide) h
theorem ld_138 {ρ : Type} {i : Nat} {M : jMem} {K : Int32 → Option ρ} (h : i < 6) : jld 1 M 138 (nI i) K = K (M 138 i) := jld_nI rfl (by decide) h
theorem st_138 {ρ : Type} {i : Nat} {M : jMem} {v : Int32} {K : jMem → Option ρ} (h : i < 6) : jst 1 M 138 (nI i) v K = K (jup M 138 i v) := jst_nI rfl (by decide) h
theorem ld_139 {ρ : Type} {i : Nat} {M : jMem} {K : Int32 → Option ρ} (h : i < 30) : jld 1 M 139 (nI i) K = K (M 139 i) := jld_nI rfl (by decide) h
theorem st_139 {ρ : Type} {i : Nat} {M : jMem} {v : Int32} {K : jMem → Option ρ} (h : i < 30) : jst 1 M 139 (nI i) v K = K (jup M 139 i v) := jst_nI rfl (by decide) h
theorem ld_140 {ρ : Type} {i : Nat} {M : jMem} {K : Int32 → Option ρ} (h : i < 30) : jld 1 M 140 (nI i) K = K (M 140 i) := jld_nI rfl (by decide) h
theorem st_140 {ρ : Type} {i : Nat} {M : jMem} {v : Int32} {K : jMem → Option ρ} (h : i < 30) : jst 1 M 140 (nI i) v K = K (jup M 140 i v) := jst_nI rfl (by decide) h
theorem ld_141 {ρ : Type} {i : Nat} {M : jMem} {K : Int32 → Option ρ} (h : i < 30) : jld 1 M 141 (nI i) K = K (M 141 i) := jld_nI rfl (by decide) h
theorem st_141 {ρ : Type} {i : Nat} {M : jMem} {v : Int32} {K : jMem → Option ρ} (h : i < 30) : jst 1 M 141 (nI i) v K = K (jup M 141 i v) := jst_nI rfl (by decide) h
theorem ld_142 {ρ : Type} {i : Nat} {M : jMem} {K : Int32 → Option ρ} (h : i < 30) : jld 1 M 142 (nI i) K = K (M 142 i) := jld_nI rfl (by decide) h
theorem st_142 {ρ : Type} {i : Nat} {M : jMem} {v : Int32} {K : jMem → Option ρ} (h : i < 30) : jst 1 M 142 (nI i) v K = K (jup M 142 i v) := jst_nI rfl (by decide) h
theorem ld_143 {ρ : Type} {i : Nat} {M : jMem} {K : Int32 → Option ρ} (h : i < 36) : jld 1 M 143 (nI i) K = K (M 143 i) := jld_nI rfl (by decide) h
theorem st_143 {ρ : Type} {i : Nat} {M : jMem} {v : Int32} {K : jMem → Option ρ} (h : i < 36) : jst 1 M 143 (nI i) v K = K (jup M 143 i v) := jst_nI rfl (by decide) h
theorem ld_144 {ρ : Type} {i : Nat} {M : jMem} {K : Int32 → Option ρ} (h : i < 12) : jld 1 M 144 (nI i) K = K (M 144 i) := jld_nI rfl (by decide) h
theorem st_144 {ρ : Type} {i : Nat} {M : jMem} {v : Int32} {K : jMem → Option ρ} (h : i < 12) : jst 1 M 144 (nI i) v K = K (jup M 144 i v) := jst_nI rfl (by decide) h
theorem ld_145 {ρ : Type} {i : Nat} {M : jMem} {K : Int32 → Option ρ} (h : i < 12) : jld 1 M 145 (nI i) K = K (M 145 i) := jld_nI rfl (by decide) h
theorem st_145 {ρ : Type} {i : Nat} {M : jMem} {v : Int32} {K : jMem → Option ρ} (h : i < 12) : jst 1 M 145 (nI i) v K = K (jup M 145 i v) := jst_nI rfl (by decide) h
theorem ld_146 {ρ : Type} {i : Nat} {M : jMem} {K : Int32 → Option ρ} (h : i < 12) : jld 1 M 146 (nI i) K = K (M 146 i) := jld_nI rfl (by decide) h
theorem st_146 {ρ : Type} {i : Nat} {M : jMem} {v : Int32} {K : jMem → Option ρ} (h : i < 12) : jst 1 M 146 (nI i) v K = K (jup M 146 i v) := jst_nI rfl (by decide) h
theorem ld_147 {ρ : Type} {i : Nat} {M : jMem} {K : Int32 → Option ρ} (h : i < 12) : jld 1 M 147 (nI i) K = K (M 147 i) := jld_nI rfl (by decide) h
theorem st_147 {ρ : Type} {i : Nat} {M : jMem} {v : Int32} {K : jMem → Option ρ} (h : i < 12) : jst 1 M 147 (nI i) v K = K (jup M 147 i v) := jst_nI rfl (by decide) h
theorem ld_148 {ρ : Type} {i : Nat} {M : jMem} {K : Int32 → Option ρ} (h : i < 4096) : jld 1 M 148 (nI i) K = K (M 148 i) := jld_nI rfl (by decide) h
theorem st_148 {ρ : Type} {i : Nat} {M : jMem} {v : Int32} {K : jMem → Option ρ} (h : i < 4096) : jst 1 M 148 (nI i) v K = K (jup M 148 i v) := jst_nI rfl (by decide) h
theorem l3_46 {ρ : Type} {i : Nat} {K : Nat → Option ρ} (h : i < 6) : jl3 46 (nI i) K = K (47 + i) := jl3_nI rfl (by decide) (by decide +kernel) h
theorem jlr_46 : ∀ a, a < 6 → jlen 1 (47 + a) = 6 := by decide +kernel
theorem ldr_46 {ρ : Type} {a i : Nat} {M : jMem} {K : Int32 → Option ρ} (ha : a < 6) (h : i < 6) : jld 1 M (47 + a) (nI i) K = K (M (47 + a) i) := jld_nI (jlr_46 a ha) (by decide) h
theorem str_46 {ρ : Type} {a i : Nat} {M : jMem} {v : Int32} {K : jMem → Option ρ} (ha : a < 6) (h : i < 6) : jst 1 M (47 + a) (nI i) v K = K (jup M (47 + a) i v) := jst_nI (jlr_46 a ha) (by decide) h
theorem l3_53 {ρ : Type} {i : Nat} {K : Nat → Option ρ} (h : i < 6) : jl3 53 (nI i) K = K (54 + i) := jl3_nI rfl (by decide) (by decide +kernel) h
theorem jlr_53 : ∀ a, a < 6 → jlen 1 (54 + a) = 6 := by decide +kernel
theorem ldr_53 {ρ : Type} {a i : Nat} {M : jMem} {K : Int32 → Option ρ} (ha : a < 6) (h : i < 6) : jld 1 M (54 + a) (nI i) K = K (M (54 + a) i) := jld_nI (jlr_53 a ha) (by decide) h
theorem str_53 {ρ : Type} {a i : Nat} {M : jMem} {v : Int32} {K : jMem → Option ρ} (ha : a < 6) (h : i < 6) : jst 1 M (54 + a) (nI i) v K = K (jup M (54 + a) i v) := jst_nI (jlr_53 a ha) (by decide) h
theorem l3_66 {ρ : Type} {i : Nat} {K : Nat → Option ρ} (h : i < 6) : jl3 66 (nI i) K = K (67 + i) := jl3_nI rfl (by decide) (by decide +kernel) h
theorem jlr_66 : ∀ a, a < 6 → jlen 1 (67 + a) = 30 := by decide +kernel
theorem ldr_66 {ρ : Type} {a i : Nat} {M : jMem} {K : Int32 → Option ρ} (ha : a < 6) (h : i < 30) : jld 1 M (67 + a) (nI i) K = K (M (67 + a) i) := jld_nI (jlr_66 a ha) (by decide) h
theorem str_66 {ρ : Type} {a i : Nat} {M : jMem} {v : Int32} {K : jMem → Option ρ} (ha : a < 6) (h : i < 30) : jst 1 M (67 + a) (nI i) v K = K (jup M (67 + a) i v) := jst_nI (jlr_66 a ha) (by decide) h
theorem l3_76 {ρ : Type} {i : Nat} {K : Nat → Option ρ} (h : i < 6) : jl3 76 (nI i) K = K (77 + i) := jl3_nI rfl (by decide) (by decide +kernel) h
theorem jlr_76 : ∀ a, a < 6 → jlen 1 (77 + a) = 30 := by decide +kernel
theorem ldr_76 {ρ : Type} {a i : Nat} {M : jMem} {K : Int32 → Option ρ} (ha : a < 6) (h : i < 30) : jld 1 M (77 + a) (nI i) K = K (M (77 + a) i) := jld_nI (jlr_76 a ha) (by decide) h
theorem str_76 {ρ : Type} {a i : Nat} {M : jMem} {v : Int32} {K : jMem → Option ρ} (ha : a < 6) (h : i < 30) : jst 1 M (77 + a) (nI i) v K = K (jup M (77 + a) i v) := jst_nI (jlr_76 a ha) (by decide) h
theorem l3_96 {ρ : Type} {i : Nat} {K : Nat → Option ρ} (h : i < 12) : jl3 96 (nI i) K = K (97 + i) := jl3_nI rfl (by decide) (by decide +kernel) h
theorem jlr_96 : ∀ a, a < 12 → jlen 1 (97 + a) = 12 := by decide +kernel
theorem ldr_96 {ρ : Type} {a i : Nat} {M : jMem} {K : Int32 → Option ρ} (ha : a < 12) (h : i < 12) : jld 1 M (97 + a) (nI i) K = K (M (97 + a) i) := jld_nI (jlr_96 a ha) (by decide) h
theorem str_96 {ρ : Type} {a i : Nat} {M : jMem} {v : Int32} {K : jMem → Option ρ} (ha : a < 12) (h : i < 12) : jst 1 M (97 + a) (nI i) v K = K (jup M (97 + a) i v) := jst_nI (jlr_96 a ha) (by decide) h
/-! one bit -/
theorem bit1 {v : Int32} {i : Nat} (h : i < 32) : (((v >>> (nI i &&& nI 31)) &&& nI 1) = nI 1) = (bt v i = true) := by
  have key : ((v >>> (nI i &&& nI 31)) &&& nI 1) = tI (bt v i) := by
    apply b_ext
    intro j hj
    rw [show nI 31 = (31 : Int32) from rfl, b_and, b_sshr i h v hj]
    have h1 : bt (nI 1) j = decide (j = 0) := (by decide +kernel : ∀ j, j < 32 → bt (nI 1) j = decide (j = 0)) j hj
    rw [h1]
    by_cases e : j = 0
    · subst e
      rw [if_pos (by omega)]
      cases hb : bt v (i + 0)
      · decide
      · decide
    · rw [decide_eq_false e, Bool.and_false]
      cases bt v i
      · exact (b_0 j).symm
      · rw [tI_t, h1, decide_eq_false e]
  rw [key, tI1]
theorem bit0 {v : Int32} {i : Nat} (h : i < 32) : (((v >>> (nI i &&& nI 31)) &&& nI 1) = nI 0) = (bt v i = false) := by
  have key : ((v >>> (nI i &&& nI 31)) &&& nI 1) = tI (bt v i) := by
    have h0 : ∀ x : Int32, x &&& nI 1 = nI 0 ∨ x &&& nI 1 = nI 1 := by
      intro x
      cases hx : bt x 0
      · refine Or.inl (b_ext fun j hj => ?_)
        rw [b_and, (by decide +kernel : ∀ j, j < 32 → bt (nI 1) j = decide (j = 0)) j hj, show bt (nI 0) j = false from b_0 j]
        by_cases e : j = 0
        · subst e; rw [hx]; rfl
        · rw [decide_eq_false e, Bool.and_false]
      · refine Or.inr (b_ext fun j hj => ?_)
        rw [b_and, (by decide +kernel : ∀ j, j < 32 → bt (nI 1) j = decide (j = 0)) j hj]
        by_cases e : j = 0
        · subst e; rw [hx]; rfl
        · rw [decide_eq_false e, Bool.and_false]
    rcases h0 (v >>> (nI i &&& nI 31)) with e | e
    · rw [e]
      cases hb : bt v i
      · rfl
      · rw [← bit1 h, e] at hb; exact absurd hb (by decide)
    · rw [e, (bit1 h).mp e]; rfl
  rw [key, tI0]
theorem bitv {v : Int32} {i : Nat} (h : i < 32) : ((v >>> (nI i &&& nI 31)) &&& nI 1) = tI (bt v i) := by
  cases hb : bt v i
  · exact (bit0 h).mpr hb
  · exact (bit1 h).mpr hb
/-- the number with one bit -/
def sb (i : Nat) : Int32 := nI 1 <<< (nI i &&& nI 31)
theorem sb_e (i : Nat) : (nI 1 <<< (nI i &&& nI 31)) = sb i := rfl
theorem b_sb {i j : Nat} (hi : i < 32) (hj : j < 32) : bt (sb i) j = decide (j = i) := by
  unfold sb
  rw [show nI 31 = 31 from rfl, b_shl i hi _ hj]
  have h1 := (by decide +kernel : ∀ j, j < 32 → bt (nI 1) j = decide (j = 0)) (j - i) (by omega)
  rw [h1]
  by_cases e : j = i
  · subst e; simp
  · rw [decide_eq_false e]
    by_cases q : i ≤ j
    · rw [decide_eq_false (by omega : ¬ j - i = 0), Bool.and_false]
    · rw [decide_eq_false q, Bool.false_and]
theorem b_not {x : Int32} {j : Nat} (hj : j < 32) : bt (x ^^^ nM) j = !bt x j := by
  rw [b_xor, show bt nM j = true from b_m1 j hj, Bool.xor_true]
theorem b_n0 (j : Nat) : bt (nI 0) j = false := b_0 j
theorem ex32 {x : Int32} : (x = nI 0) ↔ ∀ j, j < 32 → bt x j = false := by
  refine ⟨fun e j _ => by rw [e, b_n0], fun h => b_ext fun j hj => by rw [h j hj, b_n0]⟩
theorem bt31 {x : Int32} : (x < nI 0) ↔ bt x 31 = true := by
  rw [Int32.lt_iff_toInt_lt, nI_toInt (by decide)]
  unfold bt
  show x.toBitVec.toInt < _ ↔ _
  have h := BitVec.msb_eq_getLsbD_last x.toBitVec
  have h2 := BitVec.toInt_neg_iff (x := x.toBitVec)
  rw [show ((0 : Nat) : Int) = 0 from rfl, h2]
  have h3 := BitVec.msb_eq_decide x.toBitVec
  rw [h] at h3
  show _ ↔ x.toBitVec.getLsbD (32 - 1) = true
  rw [h3, decide_eq_true_iff]
  omega
