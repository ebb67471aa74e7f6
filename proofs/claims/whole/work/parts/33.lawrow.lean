set_option maxRecDepth 20000
/-! rows of the law: the script; the world when both objects stand -/
section LWR
variable {G : jG} {Y : jY} {k0 pc : Nat} {ls : List (Nat × Value)} {st : List Value} {k sl : Nat} {F : Nat → Nat → Nat} {M : jMem} {Q : jQT}
theorem jWd_S {H s0 : Heap} {locs : List Loc} (hg : jGl G) (hW : jWd G M H) (hS : va_S (jA G) s0 H locs) : va_S (jA G) (js0 G).heap H locs :=
  ⟨by rw [← hg.2.2.2.1]; exact hW.2.1, fun q h1 _ => hW.2.2 q (by rw [hg.2.2.2.1]; exact h1), hS.2.2⟩
theorem J.aloadb (q : Nat) {j : Fin 4} {i b : Nat} (hd : decode (jcc Y) pc = .ok (.aload_n j, 1)) (hi : (j : Nat) = i) (h : ls[q]? = some (i, .ref b)) (K : JQ G Y (pc + 1) ls (.ref b :: st) M Q) : JQ G Y pc ls st M Q := by
  intro p e s m args below meth c H locs la rm F hF hW hS hl
  exact lv_aload_n F.1 F.2.1 hd hi (lv_at hl q h) (K p e s m args below meth c H locs la rm F hF hW hS hl)
theorem J.slen {b L : Nat} {xs : Nat → Int32} (hX : va_X b L xs (js0 G) (js0 G).heap) (hb : b < jL G) (hd : decode (jcc Y) pc = .ok (.arraylength, 1)) (K : JQ G Y (pc + 1) ls (.int (Int32.ofNat L) :: st) M Q) : JQ G Y pc ls (.ref b :: st) M Q := by
  intro p e s m args below meth c H locs la rm F hF hW hS hl
  exact va_slen F.1 F.2.1 (hX.moved F.2.2.2.2.2.2.2.1) (by rw [← F.gl.2.2.2.1]; exact hb) (Nat.not_le.mpr hb) (jWd_S F.gl hW hS) hd (K p e s m args below meth c H locs la rm F hF hW hS hl)
theorem J.sld {b L : Nat} {xs : Nat → Int32} {i : Int32} (hX : va_X b L xs (js0 G) (js0 G).heap) (hb : b < jL G) (hin : vp_in i L) (hd : decode (jcc Y) pc = .ok (.iaload, 1)) (K : JQ G Y (pc + 1) ls (.int (xs i.toNatClampNeg) :: st) M Q) : JQ G Y pc ls (.int i :: .ref b :: st) M Q := by
  intro p e s m args below meth c H locs la rm F hF hW hS hl
  exact va_sld F.1 F.2.1 (hX.moved F.2.2.2.2.2.2.2.1) (by rw [← F.gl.2.2.2.1]; exact hb) (Nat.not_le.mpr hb) (jWd_S F.gl hW hS) hin hd (K p e s m args below meth c H locs la rm F hF hW hS hl)
theorem JC.astore_n {j : Fin 4} {i n : Nat} {lv : List (Nat × Value)} (hd : decode (jcc Y) pc = .ok (.astore_n j, 1)) (hi : (j : Nat) = i) (hz : 0 < n) (hn : i < jnL Y) (hl0 : (i, jr G n) :: ls.filter (fun q => !(q.1 == i) && !(q.1 + 1 == i && q.2.category == 2)) = lv) (K : JCQ G Y k0 (pc + 1) lv st k sl F M Q) : JCQ G Y k0 pc ls (jr G n :: st) k sl F M Q := by
  intro p e s m args below meth c H locs la rm X1 hFt X2 X3 X4 X5 X6 hW hS hl
  rw [jr_pos hz] at hl0 ⊢
  exact lv_astore_n X1.1 X1.2.1 hd hi hl hn hl0 (fun la2 hl2 => K p e s m args below meth c H locs la2 rm X1 hFt X2 X3 X4 X5 X6 hW hS hl2)
theorem jent_F {k k' c : Nat} {F F' : Nat → Nat → Nat} (h : jtag c = 0 → ∀ i, i < jnf (jpar c) → F c i = F' c i) (h3 : jtag c = 3 → ∀ i, F c i = F' c i) : jent (jGk G k F) M c = jent (jGk G k' F') M c := by
  unfold jent
  split
  next h0 =>
    congr 2
    refine List.map_congr_left fun i hi => ?_
    have h9 := h h0 i (List.mem_range.mp hi)
    unfold jfv
    split
    · rfl
    · show jr _ (F c i) = jr _ (F' c i)
      rw [h9]
      rfl
    · rfl
  · rfl
  · rfl
  next h0 =>
    have h9 := h3 h0
    refine congrArg (fun f : Nat → Option Nat => (Sum.inl (jcA G 2, jpar c, .inr (.inr (.inr (.inr f)))) : va_E)) (funext fun i => ?_)
    show jro _ (F c i) = jro _ (F' c i)
    rw [h9 i]
    rfl
  · rfl
  · rfl
theorem jT3 : ∀ c, c ≤ 149 → jtag c = 3 → c ∈ [46, 53, 66, 76, 96] := by decide +kernel
theorem jFS0 : ∀ c, c ≤ 149 → jtag c = 0 → ∀ i, i < jnf (jpar c) → FS_118 c i = jfx c i := by decide +kernel
theorem jFS3_46 (i : Nat) : FS_118 46 i = jfx 46 i := by
  show (if i < 6 then 47 + i else 0) = jfx 46 i
  by_cases h : i < 6
  · rw [if_pos h]
    revert i
    decide +kernel
  · rw [if_neg h]
    unfold jfx
    rw [show jfxL.getD 46 [] = [47, 48, 49, 50, 51, 52] from rfl, List.getD_eq_getElem?_getD, List.getElem?_eq_none (Nat.not_lt.mp h)]
    rfl
theorem jFS3_53 (i : Nat) : FS_118 53 i = jfx 53 i := by
  show (if i < 6 then 54 + i else 0) = jfx 53 i
  by_cases h : i < 6
  · rw [if_pos h]
    revert i
    decide +kernel
  · rw [if_neg h]
    unfold jfx
    rw [show jfxL.getD 53 [] = [54, 55, 56, 57, 58, 59] from rfl, List.getD_eq_getElem?_getD, List.getElem?_eq_none (Nat.not_lt.mp h)]
    rfl
theorem jFS3_66 (i : Nat) : FS_118 66 i = jfx 66 i := by
  show (if i < 6 then 67 + i else 0) = jfx 66 i
  by_cases h : i < 6
  · rw [if_pos h]
    revert i
    decide +kernel
  · rw [if_neg h]
    unfold jfx
    rw [show jfxL.getD 66 [] = [67, 68, 69, 70, 71, 72] from rfl, List.getD_eq_getElem?_getD, List.getElem?_eq_none (Nat.not_lt.mp h)]
    rfl
theorem jFS3_76 (i : Nat) : FS_118 76 i = jfx 76 i := by
  show (if i < 6 then 77 + i else 0) = jfx 76 i
  by_cases h : i < 6
  · rw [if_pos h]
    revert i
    decide +kernel
  · rw [if_neg h]
    unfold jfx
    rw [show jfxL.getD 76 [] = [77, 78, 79, 80, 81, 82] from rfl, List.getD_eq_getElem?_getD, List.getElem?_eq_none (Nat.not_lt.mp h)]
    rfl
theorem jFS3_96 (i : Nat) : FS_118 96 i = jfx 96 i := by
  show (if i < 12 then 97 + i else 0) = jfx 96 i
  by_cases h : i < 12
  · rw [if_pos h]
    revert i
    decide +kernel
  · rw [if_neg h]
    unfold jfx
    rw [show jfxL.getD 96 [] = [97, 98, 99, 100, 101, 102, 103, 104, 105, 106, 107, 108] from rfl, List.getD_eq_getElem?_getD, List.getElem?_eq_none (Nat.not_lt.mp h)]
    rfl
theorem jFS3 : ∀ c, c ≤ 149 → jtag c = 3 → ∀ i, FS_118 c i = jfx c i := fun c hc h i => by
  have h1 := jT3 c hc h
  simp only [List.mem_cons, List.not_mem_nil, or_false] at h1
  rcases h1 with rfl | rfl | rfl | rfl | rfl
  · exact jFS3_46 i
  · exact jFS3_53 i
  · exact jFS3_66 i
  · exact jFS3_76 i
  · exact jFS3_96 i
theorem jWd_FS {H : Heap} (hs : jSeq G) : jWd (jGk G jKall FS_118) M H ↔ jWd G M H := by
  have e : jwl (jGk G jKall FS_118) M = jwl (jGk G jKall jfx) M := by
    unfold jwl
    refine List.map_congr_left fun i hi => ?_
    have hi : i < 149 := List.mem_range.mp hi
    show (jad G (i + 1), jent (jGk G jKall FS_118) M (i + 1)) = (jad G (i + 1), jent (jGk G jKall jfx) M (i + 1))
    rw [jent_F (k' := jKall) (F' := jfx) (jFS0 (i + 1) (by omega)) (jFS3 (i + 1) (by omega))]
  have e2 : jWd (jGk G jKall FS_118) M H ↔ jWd (jGk G jKall jfx) M H := by
    unfold jWd
    rw [e]
    exact Iff.rfl
  rw [e2, jGk_self hs]
/-- both objects stand: from here the world is fixed -/
theorem JC.toQ (hk : k = jKall) (h1 : k - k0 = jcs Y) (h2 : sl = jss Y) (h : JQ G Y pc ls st M Q) : JCQ G Y k0 pc ls st k sl FS_118 M Q := by
  intro p e s m args below meth c H locs la rm X1 hFt X2 X3 X4 X5 X6 hW hS hl
  subst hk
  subst h2
  rw [h1]
  exact h p e s m args below meth c H locs la rm X1 hFt ((jWd_FS X2).mp hW) hS hl
end LWR
