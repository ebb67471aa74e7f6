/-! one of a set before another: its needs grow -/
def upN (nd : Nat → Int32) (a b : Nat) : Nat → Int32 := fun v => if v = b then nd v ||| sb a else nd v
theorem fw_iff {nd : Nat → Int32} {s v : Nat} : fwB nd s v = true ↔ s.testBit v = false ∧ ∀ j, j < 32 → bt (nd v) j = true → s.testBit j = true := by
  have key : nd v &&& (nI s ^^^ nM) = nI 0 ↔ ∀ j, j < 32 → bt (nd v) j = true → s.testBit j = true := by
    rw [ex32]
    constructor
    · intro h j hj hb
      have := h j hj
      rw [b_and, b_not hj, bt_nI hj, hb, Bool.true_and] at this
      cases z : s.testBit j
      · rw [z] at this; exact absurd this (by decide)
      · rfl
    · intro h j hj
      rw [b_and, b_not hj, bt_nI hj]
      cases z : bt (nd v) j
      · rfl
      · rw [h j hj z]; rfl
  constructor
  · intro h
    obtain ⟨h1, h2⟩ := fw_bit h
    exact ⟨h1, key.mp h2⟩
  · rintro ⟨h1, h2⟩
    unfold fwB
    rw [h1, decide_eq_true (key.mpr h2)]
    rfl
theorem fw_in {nd : Nat → Int32} {s a b : Nat} (ha : a < 32) (h : s.testBit a = true) (v : Nat) : fwB (upN nd a b) s v = fwB nd s v := by
  rw [Bool.eq_iff_iff, fw_iff, fw_iff]
  unfold upN
  by_cases q : v = b
  · rw [if_pos q]
    refine and_congr_right fun _ => ⟨fun h2 j hj hb => h2 j hj (by rw [b_or, hb, Bool.true_or]), fun h2 j hj hb => ?_⟩
    rw [b_or, Bool.or_eq_true] at hb
    rcases hb with hb | hb
    · exact h2 j hj hb
    · rw [b_sb ha hj, decide_eq_true_iff] at hb
      rw [hb]; exact h
  · rw [if_neg q]
theorem fw_out {nd : Nat → Int32} {s a b : Nat} (ha : a < 32) (h : s.testBit a = false) : fwB (upN nd a b) s b = false := by
  cases z : fwB (upN nd a b) s b
  · rfl
  · have := (fw_iff.mp z).2 a ha (by unfold upN; rw [if_pos rfl, b_or, b_sb ha ha, decide_eq_true rfl, Bool.or_true])
    rw [h] at this
    exact absurd this (by decide)
theorem fw_ne {nd : Nat → Int32} {s a b v : Nat} (h : v ≠ b) : fwB (upN nd a b) s v = fwB nd s v := by
  unfold fwB upN
  rw [if_neg h]
theorem fcD_in {nd : Nat → Int32} {S a b : Nat} (ha : a < 32) : ∀ d s, s.testBit a = true → fcD (upN nd a b) S d s = fcD nd S d s
  | 0, _, _ => rfl
  | d + 1, s, h => by
    show fb_sm _ S = fb_sm _ S
    refine fb_sm_cong fun v hv => ?_
    rw [fw_in ha h v, fcD_in ha d _ (by rw [Nat.testBit_or, h, Bool.true_or])]
theorem rsN_in {nd : Nat → Int32} {S a b s : Nat} (ha : a < 32) (h : s.testBit a = true) : rsN (upN nd a b) S s = rsN nd S s := fcD_in ha _ s h
/-- what v adds, a not yet there, b neither -/
def asF (nd : Nat → Int32) (S a b s v : Nat) : Nat := if v = b then 0 else if v = a then rsF nd S s a else if fwB nd s v = true then rsN (upN nd a b) S (s ||| 2 ^ v) else 0
theorem rs_ask {nd : Nat → Int32} {S a b s : Nat} (h12 : S ≤ 12) (ha : a < S) (hab : a ≠ b) (hs : s < 2 ^ S) (h1 : s.testBit a = false) : rsN (upN nd a b) S s = fb_sm (asF nd S a b s) S := by
  have hsf : s ≠ 2 ^ S - 1 := fun e => by
    rw [e, Nat.testBit_two_pow_sub_one, decide_eq_true ha] at h1
    exact absurd h1 (by decide)
  rw [rs_step hs hsf]
  refine fb_sm_cong fun v hv => ?_
  unfold asF rsF
  by_cases q : v = b
  · rw [if_pos q, q, fw_out (by omega) h1, if_neg (by decide)]
  · rw [if_neg q, fw_ne q]
    by_cases q2 : v = a
    · rw [if_pos q2, q2]
      rw [rsN_in (by omega) (by rw [Nat.testBit_or, Nat.testBit_two_pow_self, Bool.or_true])]
    · rw [if_neg q2]
/-- sums in the ring -/
def sI (f : Nat → Int32) : Nat → Int32
  | 0 => nI 0
  | n + 1 => sI f n + f n
theorem sI_succ (f : Nat → Int32) (n : Nat) : sI f (n + 1) = sI f n + f n := rfl
theorem sI_cong {f g : Nat → Int32} : ∀ {n : Nat}, (∀ k, k < n → f k = g k) → sI f n = sI g n
  | 0, _ => rfl
  | n + 1, h => by rw [sI_succ, sI_succ, sI_cong (n := n) (fun k hk => h k (by omega)), h n (by omega)]
theorem i_add0 (x : Int32) : x + nI 0 = x := Int32.add_zero x
theorem i_0add (x : Int32) : nI 0 + x = x := Int32.zero_add x
theorem sI_upd {f : Nat → Int32} {i : Nat} {v : Int32} : ∀ {n : Nat}, i < n → sI (fun k => if k = i then f k + v else f k) n = sI f n + v
  | 0, h => absurd h (Nat.not_lt_zero i)
  | n + 1, h => by
    rw [sI_succ, sI_succ]
    by_cases q : i = n
    · subst q
      rw [if_pos rfl, sI_cong (g := f) (fun k hk => if_neg (by omega)), Int32.add_assoc]
    · rw [sI_upd (n := n) (by omega), if_neg (by omega), Int32.add_assoc, Int32.add_assoc, Int32.add_comm v]
theorem sI_sm (f : Nat → Nat) : ∀ n, sI (fun k => nI (f k)) n = nI (fb_sm f n)
  | 0 => rfl
  | n + 1 => by rw [sI_succ, sI_sm f n, fb_sm_succ, nI_add]
theorem sI_zero {f : Nat → Int32} : ∀ {n : Nat}, (∀ k, k < n → f k = nI 0) → sI f n = nI 0
  | 0, _ => rfl
  | n + 1, h => by rw [sI_succ, sI_zero (n := n) (fun k hk => h k (by omega)), h n (by omega)]; rfl
