/-! the memory behind both constructors stands in the relation -/
set_option maxRecDepth 20000
/-- the cells that the constructors write into -/
def msC : List Nat := [1, 21, 47, 48, 49, 50, 51, 52, 54, 55, 56, 57, 58, 59, 109, 116, 120]
theorem ms_ne {c x : Nat} (h : (msC.all fun q => !(q == c)) = true) (hx : x ∈ msC) : c ≠ x := fun e => by
  have h1 := List.all_eq_true.mp h x hx
  rw [e] at h1
  simp at h1
theorem ms_r20 {c : Nat} (h : (msC.all fun q => !(q == c)) = true) : MS_20 c = MS_0 c := (Eq.trans (jup_ne (ms_ne h (by decide : 48 ∈ msC))) (Eq.trans (jup_ne (ms_ne h (by decide : 55 ∈ msC))) (Eq.trans (jup_ne (ms_ne h (by decide : 48 ∈ msC))) (Eq.trans (jup_ne (ms_ne h (by decide : 54 ∈ msC))) (Eq.trans (jup_ne (ms_ne h (by decide : 47 ∈ msC))) (Eq.trans (jup_ne (ms_ne h (by decide : 54 ∈ msC))) (Eq.trans (jup_ne (ms_ne h (by decide : 47 ∈ msC))) (Eq.trans (jup_ne (ms_ne h (by decide : 54 ∈ msC))) (Eq.trans (jup_ne (ms_ne h (by decide : 47 ∈ msC))) (Eq.trans (jup_ne (ms_ne h (by decide : 54 ∈ msC))) (Eq.trans (jup_ne (ms_ne h (by decide : 47 ∈ msC))) (Eq.trans (jup_ne (ms_ne h (by decide : 54 ∈ msC))) (Eq.trans (jup_ne (ms_ne h (by decide : 47 ∈ msC))) (Eq.trans (jup_ne (ms_ne h (by decide : 54 ∈ msC))) (Eq.trans (jup_ne (ms_ne h (by decide : 47 ∈ msC))) (Eq.trans (jup_ne (ms_ne h (by decide : 21 ∈ msC))) (Eq.trans (jup_ne (ms_ne h (by decide : 21 ∈ msC))) (Eq.trans (jup_ne (ms_ne h (by decide : 21 ∈ msC))) (Eq.trans (jup_ne (ms_ne h (by decide : 1 ∈ msC))) (jup_ne (ms_ne h (by decide : 1 ∈ msC))))))))))))))))))))))
theorem ms_r40 {c : Nat} (h : (msC.all fun q => !(q == c)) = true) : MS_40 c = MS_20 c := (Eq.trans (jup_ne (ms_ne h (by decide : 49 ∈ msC))) (Eq.trans (jup_ne (ms_ne h (by decide : 56 ∈ msC))) (Eq.trans (jup_ne (ms_ne h (by decide : 49 ∈ msC))) (Eq.trans (jup_ne (ms_ne h (by decide : 56 ∈ msC))) (Eq.trans (jup_ne (ms_ne h (by decide : 49 ∈ msC))) (Eq.trans (jup_ne (ms_ne h (by decide : 56 ∈ msC))) (Eq.trans (jup_ne (ms_ne h (by decide : 49 ∈ msC))) (Eq.trans (jup_ne (ms_ne h (by decide : 56 ∈ msC))) (Eq.trans (jup_ne (ms_ne h (by decide : 49 ∈ msC))) (Eq.trans (jup_ne (ms_ne h (by decide : 56 ∈ msC))) (Eq.trans (jup_ne (ms_ne h (by decide : 49 ∈ msC))) (Eq.trans (jup_ne (ms_ne h (by decide : 55 ∈ msC))) (Eq.trans (jup_ne (ms_ne h (by decide : 48 ∈ msC))) (Eq.trans (jup_ne (ms_ne h (by decide : 55 ∈ msC))) (Eq.trans (jup_ne (ms_ne h (by decide : 48 ∈ msC))) (Eq.trans (jup_ne (ms_ne h (by decide : 55 ∈ msC))) (Eq.trans (jup_ne (ms_ne h (by decide : 48 ∈ msC))) (Eq.trans (jup_ne (ms_ne h (by decide : 55 ∈ msC))) (Eq.trans (jup_ne (ms_ne h (by decide : 48 ∈ msC))) (jup_ne (ms_ne h (by decide : 55 ∈ msC))))))))))))))))))))))
theorem ms_r60 {c : Nat} (h : (msC.all fun q => !(q == c)) = true) : MS_60 c = MS_40 c := (Eq.trans (jup_ne (ms_ne h (by decide : 51 ∈ msC))) (Eq.trans (jup_ne (ms_ne h (by decide : 58 ∈ msC))) (Eq.trans (jup_ne (ms_ne h (by decide : 51 ∈ msC))) (Eq.trans (jup_ne (ms_ne h (by decide : 58 ∈ msC))) (Eq.trans (jup_ne (ms_ne h (by decide : 51 ∈ msC))) (Eq.trans (jup_ne (ms_ne h (by decide : 58 ∈ msC))) (Eq.trans (jup_ne (ms_ne h (by decide : 51 ∈ msC))) (Eq.trans (jup_ne (ms_ne h (by decide : 57 ∈ msC))) (Eq.trans (jup_ne (ms_ne h (by decide : 50 ∈ msC))) (Eq.trans (jup_ne (ms_ne h (by decide : 57 ∈ msC))) (Eq.trans (jup_ne (ms_ne h (by decide : 50 ∈ msC))) (Eq.trans (jup_ne (ms_ne h (by decide : 57 ∈ msC))) (Eq.trans (jup_ne (ms_ne h (by decide : 50 ∈ msC))) (Eq.trans (jup_ne (ms_ne h (by decide : 57 ∈ msC))) (Eq.trans (jup_ne (ms_ne h (by decide : 50 ∈ msC))) (Eq.trans (jup_ne (ms_ne h (by decide : 57 ∈ msC))) (Eq.trans (jup_ne (ms_ne h (by decide : 50 ∈ msC))) (Eq.trans (jup_ne (ms_ne h (by decide : 57 ∈ msC))) (Eq.trans (jup_ne (ms_ne h (by decide : 50 ∈ msC))) (jup_ne (ms_ne h (by decide : 56 ∈ msC))))))))))))))))))))))
theorem ms_r80 {c : Nat} (h : (msC.all fun q => !(q == c)) = true) : MS_80 c = MS_60 c := (Eq.trans (jup_ne (ms_ne h (by decide : 120 ∈ msC))) (Eq.trans (jup_ne (ms_ne h (by decide : 120 ∈ msC))) (Eq.trans (jup_ne (ms_ne h (by decide : 109 ∈ msC))) (Eq.trans (jup_ne (ms_ne h (by decide : 59 ∈ msC))) (Eq.trans (jup_ne (ms_ne h (by decide : 52 ∈ msC))) (Eq.trans (jup_ne (ms_ne h (by decide : 59 ∈ msC))) (Eq.trans (jup_ne (ms_ne h (by decide : 52 ∈ msC))) (Eq.trans (jup_ne (ms_ne h (by decide : 59 ∈ msC))) (Eq.trans (jup_ne (ms_ne h (by decide : 52 ∈ msC))) (Eq.trans (jup_ne (ms_ne h (by decide : 59 ∈ msC))) (Eq.trans (jup_ne (ms_ne h (by decide : 52 ∈ msC))) (Eq.trans (jup_ne (ms_ne h (by decide : 59 ∈ msC))) (Eq.trans (jup_ne (ms_ne h (by decide : 52 ∈ msC))) (Eq.trans (jup_ne (ms_ne h (by decide : 59 ∈ msC))) (Eq.trans (jup_ne (ms_ne h (by decide : 52 ∈ msC))) (Eq.trans (jup_ne (ms_ne h (by decide : 58 ∈ msC))) (Eq.trans (jup_ne (ms_ne h (by decide : 51 ∈ msC))) (Eq.trans (jup_ne (ms_ne h (by decide : 58 ∈ msC))) (Eq.trans (jup_ne (ms_ne h (by decide : 51 ∈ msC))) (jup_ne (ms_ne h (by decide : 58 ∈ msC))))))))))))))))))))))
theorem ms_r100 {c : Nat} (h : (msC.all fun q => !(q == c)) = true) : MS_100 c = MS_80 c := (Eq.trans (jup_ne (ms_ne h (by decide : 120 ∈ msC))) (Eq.trans (jup_ne (ms_ne h (by decide : 120 ∈ msC))) (Eq.trans (jup_ne (ms_ne h (by decide : 120 ∈ msC))) (Eq.trans (jup_ne (ms_ne h (by decide : 120 ∈ msC))) (Eq.trans (jup_ne (ms_ne h (by decide : 120 ∈ msC))) (Eq.trans (jup_ne (ms_ne h (by decide : 120 ∈ msC))) (Eq.trans (jup_ne (ms_ne h (by decide : 120 ∈ msC))) (Eq.trans (jup_ne (ms_ne h (by decide : 120 ∈ msC))) (Eq.trans (jup_ne (ms_ne h (by decide : 120 ∈ msC))) (Eq.trans (jup_ne (ms_ne h (by decide : 120 ∈ msC))) (Eq.trans (jup_ne (ms_ne h (by decide : 120 ∈ msC))) (Eq.trans (jup_ne (ms_ne h (by decide : 120 ∈ msC))) (Eq.trans (jup_ne (ms_ne h (by decide : 120 ∈ msC))) (Eq.trans (jup_ne (ms_ne h (by decide : 120 ∈ msC))) (Eq.trans (jup_ne (ms_ne h (by decide : 120 ∈ msC))) (Eq.trans (jup_ne (ms_ne h (by decide : 120 ∈ msC))) (Eq.trans (jup_ne (ms_ne h (by decide : 120 ∈ msC))) (Eq.trans (jup_ne (ms_ne h (by decide : 120 ∈ msC))) (Eq.trans (jup_ne (ms_ne h (by decide : 120 ∈ msC))) (jup_ne (ms_ne h (by decide : 120 ∈ msC))))))))))))))))))))))
theorem ms_r120 {c : Nat} (h : (msC.all fun q => !(q == c)) = true) : MS_120 c = MS_100 c := (Eq.trans (jup_ne (ms_ne h (by decide : 116 ∈ msC))) (Eq.trans (jup_ne (ms_ne h (by decide : 116 ∈ msC))) (Eq.trans (jup_ne (ms_ne h (by decide : 116 ∈ msC))) (Eq.trans (jup_ne (ms_ne h (by decide : 116 ∈ msC))) (Eq.trans (jup_ne (ms_ne h (by decide : 116 ∈ msC))) (Eq.trans (jup_ne (ms_ne h (by decide : 116 ∈ msC))) (Eq.trans (jup_ne (ms_ne h (by decide : 120 ∈ msC))) (Eq.trans (jup_ne (ms_ne h (by decide : 120 ∈ msC))) (Eq.trans (jup_ne (ms_ne h (by decide : 120 ∈ msC))) (Eq.trans (jup_ne (ms_ne h (by decide : 120 ∈ msC))) (Eq.trans (jup_ne (ms_ne h (by decide : 120 ∈ msC))) (Eq.trans (jup_ne (ms_ne h (by decide : 120 ∈ msC))) (Eq.trans (jup_ne (ms_ne h (by decide : 120 ∈ msC))) (Eq.trans (jup_ne (ms_ne h (by decide : 120 ∈ msC))) (Eq.trans (jup_ne (ms_ne h (by decide : 120 ∈ msC))) (Eq.trans (jup_ne (ms_ne h (by decide : 120 ∈ msC))) (Eq.trans (jup_ne (ms_ne h (by decide : 120 ∈ msC))) (Eq.trans (jup_ne (ms_ne h (by decide : 120 ∈ msC))) (Eq.trans (jup_ne (ms_ne h (by decide : 120 ∈ msC))) (jup_ne (ms_ne h (by decide : 120 ∈ msC))))))))))))))))))))))
theorem ms_row (c : Nat) (h : (msC.all fun q => !(q == c)) = true) : MS_120 c = fun _ => nI 0 := (ms_r120 h).trans ((ms_r100 h).trans ((ms_r80 h).trans ((ms_r60 h).trans ((ms_r40 h).trans (ms_r20 h)))))
theorem ms_z (c k : Nat) (h : (msC.all fun q => !(q == c)) = true) : MS_120 c k = nI 0 := by rw [ms_row c h]
theorem ms_bt (c k j : Nat) (h : (msC.all fun q => !(q == c)) = true) : bt (MS_120 c k) j = false := by rw [ms_z c k h]; exact b_n0 j
theorem ms_eq (a b : Nat) (ha : (msC.all fun q => !(q == a)) = true) (hb : (msC.all fun q => !(q == b)) = true) : MS_120 a = MS_120 b := (ms_row a ha).trans (ms_row b hb).symm
theorem fl1_id {L : Nat → Nat → Nat} (h : ∀ a b c, L a b ≤ L a c + L c b) (y u : Nat) : ∀ v, fl1 y u L v = L
  | 0 => rfl
  | v + 1 => by
    funext a b
    show (if a = u ∧ b = v then min (fl1 y u L v u v) (fl1 y u L v u y + fl1 y u L v y v) else fl1 y u L v a b) = L a b
    rw [fl1_id h y u v]
    by_cases c : a = u ∧ b = v
    · rw [if_pos c, c.1, c.2]
      exact Nat.min_eq_left (h u v y)
    · rw [if_neg c]
theorem fl2_id {L : Nat → Nat → Nat} (h : ∀ a b c, L a b ≤ L a c + L c b) (y : Nat) : ∀ u, fl2 y L u = L
  | 0 => rfl
  | u + 1 => by
    show fl1 y u (fl2 y L u) 6 = L
    rw [fl2_id h y u]
    exact fl1_id h y u 6
theorem fl3_id {L : Nat → Nat → Nat} (h : ∀ a b c, L a b ≤ L a c + L c b) : ∀ k, fl3 L k = L
  | 0 => rfl
  | k + 1 => by
    show fl2 k (fl3 L k) 6 = L
    rw [fl3_id h k]
    exact fl2_id h k 6
def W5 (a b : Nat) : Nat := if a = b then 0 else 5
theorem W5_tri (a b c : Nat) : W5 a b ≤ W5 a c + W5 c b := by
  unfold W5
  by_cases h : a = b
  · rw [if_pos h]; omega
  · rw [if_neg h]
    by_cases h1 : a = c
    · subst h1
      rw [if_neg h]; omega
    · rw [if_neg h1]; omega
theorem rel_0 : Rel 0 0 MS_120 := by
  refine ⟨⟨Nat.zero_le _, rfl, rfl, ⟨ms_eq _ _ rfl rfl, ms_eq _ _ rfl rfl, ms_eq _ _ rfl rfl, ms_eq _ _ rfl rfl, ms_eq _ _ rfl rfl, ms_eq _ _ rfl rfl, ms_eq _ _ rfl rfl, ms_eq _ _ rfl rfl⟩, fun l hl => absurd hl (Nat.not_lt_zero _), fun w _ j => ?_, fun w _ j => ?_⟩, ⟨0, by decide +kernel, by decide +kernel, fun j h => ?_, fun j hj => absurd hj (Nat.not_lt_zero _)⟩, ⟨0, Nat.zero_le _, by decide +kernel, by decide +kernel, ms_eq _ _ rfl rfl, fun i => ⟨0, by omega, ms_z 2 i rfl⟩⟩, ⟨0, Nat.zero_le _, by decide +kernel, by decide +kernel⟩, ⟨W5, ?_, fun a _ => if_pos rfl⟩, ⟨by decide +kernel, 0, 0, Nat.zero_le _, Nat.zero_le _, by decide +kernel, by decide +kernel, by decide +kernel, by decide +kernel⟩,
    ⟨Nat.zero_le _, by decide +kernel, by decide +kernel, ⟨ms_eq _ _ rfl rfl, ms_eq _ _ rfl rfl, ms_eq _ _ rfl rfl, ms_eq _ _ rfl rfl, ms_eq _ _ rfl rfl⟩, fun c hc => absurd hc (Nat.not_lt_zero _)⟩, ⟨fun w _ => ⟨?_, fun j h => ?_, fun l hl => absurd hl (Nat.not_lt_zero _)⟩, by decide +kernel⟩, fun w _ => ⟨0, Nat.le_refl _, ms_z _ _ rfl, ms_z _ _ rfl, fun k hk => absurd hk (Nat.not_lt_zero _), fun i j _ hj => absurd hj (Nat.not_lt_zero _), fun j _ => ⟨fun h => ?_, fun h => ?_⟩⟩,
    ⟨0, Nat.zero_le _, by decide +kernel, by decide +kernel, ms_eq _ _ rfl rfl, ms_eq _ _ rfl rfl, fun k hk => absurd hk (Nat.not_lt_zero _)⟩, ⟨3, 12, Or.inl ⟨rfl, rfl⟩, by decide +kernel, by decide +kernel, by decide +kernel, by decide +kernel, by decide +kernel, fun w hw => ⟨1, by omega, ?_, ?_⟩, 0, Nat.zero_le _, by decide +kernel, by decide +kernel, fun h hh => absurd hh (Nat.not_lt_zero _)⟩⟩
  · exact ⟨fun h => absurd (h.symm.trans (ms_bt 42 w j rfl)) (by decide), fun h => absurd h.1 (Nat.not_lt_zero _)⟩
  · exact ⟨fun h => absurd (h.symm.trans (ms_bt 43 w j rfl)) (by decide), fun h => absurd h.1 (Nat.not_lt_zero _)⟩
  · exact absurd (h.symm.trans (ms_bt 29 16 j rfl)) (by decide)
  · rw [fl3_id W5_tri]
    decide +kernel
  · rw [ms_z 135 w rfl, ms_z 42 w rfl, ms_z 75 w rfl]
    decide +kernel
  · exact absurd (h.symm.trans (ms_bt 75 w j rfl)) (by decide)
  · exact absurd (h.symm.trans (ms_bt 74 w j rfl)) (by decide)
  · obtain ⟨k, hk, -⟩ := h
    exact absurd hk (Nat.not_lt_zero _)
  · exact (by decide +kernel : ∀ w, w < 6 → MS_120 116 w = nI 1) w hw
  · rw [if_neg (by rw [ms_bt 3 1 w rfl]; decide)]
