section ST
variable {args : Array Value} {s : State}
theorem st_neq {t u : Term} {a b : Nat} (ht : t.eval args s none [] s = some (.ref a)) (hu : u.eval args s none [] s = some (.ref b)) (h : a ≠ b) : (Cond.not (.eq t u)).before args s = true := by
  simp [Cond.before, Cond.holds, Cond.value, ht, hu, h]
theorem jtokO_inj : ∀ i, i < 33 → ∀ j, j < 33 → jtokO.getD i 0 = jtokO.getD j 0 → i = j := by decide +kernel
abbrev TKs (i : Nat) : Term := .static "CitingLetters$Token" (jtokN.getD i "") "LCitingLetters$Token;"
abbrev SXs (i : Nat) : Term := .string (jstL.getD i ("", 0, "")).1 (jstL.getD i ("", 0, "")).2.1
theorem st_tk (hn : ∀ w ∈ nw, w.before args s = true) {i : Nat} (hi : i < 33) : ∃ a, (TKs i).eval args s none [] s = some (.ref a) := by
  obtain ⟨a, c, cell, k, q1, -⟩ := Cond.exactly_spec (hn _ (ne_ex i hi))
  exact ⟨a, q1⟩
theorem st_tkne (hn : ∀ w ∈ nw, w.before args s = true) {i j : Nat} (hi : i < 33) (hj : j < 33) (hij : i ≠ j) : (Cond.not (.eq (TKs i) (TKs j))).before args s = true := by
  obtain ⟨a, ha⟩ := st_tk hn hi
  obtain ⟨b, hb⟩ := st_tk hn hj
  refine st_neq ha hb fun e => ?_
  subst e
  have h1 := va_eqt (hn _ (ne_ord i hi))
  have h2 := va_eqt (hn _ (ne_ord j hj))
  rw [va_fe ha] at h1
  rw [va_fe hb] at h2
  rw [h1] at h2
  exact hij (jtokO_inj i hi j hj (Value.int.inj (Option.some.inj h2)))
theorem st_En (hn : ∀ w ∈ nw, w.before args s = true) (ht : ∀ w ∈ lw_tbl, w.before args s = true) {A : Nat → Prop} (hA : ∀ a : Nat, a < s.heap.size → ¬ A a) : ∃ ad : Nat → Nat, va_En "CitingLetters$Token" "LCitingLetters$Token;" jtokN jtokF ad A s s.heap ∧ ∀ i, i < 33 → (TKs i).eval args s none [] s = some (.ref (ad i)) :=
  va_Enof2 (fun i hi => ht _ (te_lay i hi)) (ht _ (te_ieach 0 Nat.one_pos)) (fun i hi => hn _ (ne_ex i hi)) (fun q hq i hi => by
    have hi : i < 33 := hi
    unfold jtokF at hq
    simp only [List.mem_cons, List.not_mem_nil, or_false] at hq
    rcases hq with rfl | rfl | rfl
    · exact hn _ (ne_ord i hi)
    · exact hn _ (ne_part i hi)
    · exact hn _ (ne_rank i hi)) (fun i j hi hj hij => Or.inl (st_tkne hn hi hj hij)) hA
theorem st_OF {A : Nat → Prop} {t : Term} {o n d : String} {v : Value} {a : Nat} (hA : ∀ a : Nat, a < s.heap.size → ¬ A a) (ht : t.eval args s none [] s = some (.ref a)) (hv : (Term.field t o n d).eval args s none [] s = some v) : va_OF o n d v a A s s.heap := by
  cases hfo : s.fieldFound? o n d with
  | none =>
    rw [va_fe ht] at hv
    simp [State.fieldOf?, State.fieldNamed?, hfo] at hv
  | some x =>
    obtain ⟨cf, k, fi, f⟩ := x
    obtain ⟨g1, cell, g2, g3, -, -, g6⟩ := Term.field_spec hfo ht hv
    exact ⟨cf, k, fi, f, cell, hfo, g1, g2, g3, g6, hA _ (Array.getElem?_eq_some_iff.mp g2).1⟩
theorem jstN_lt : ∀ i, i < 34 → jstN.getD i 0 < 2 ^ 31 := by decide +kernel
theorem st_str (hn : ∀ w ∈ nw, w.before args s = true) {A : Nat → Prop} (hA : ∀ a : Nat, a < s.heap.size → ¬ A a) {i : Nat} (hi : i < 34) : ∃ a b : Nat, (SXs i).eval args s none [] s = some (.ref a) ∧ va_O "java/lang/String" a A s s.heap ∧ va_OF "java/lang/String" "coder" "B" (.int 0) a A s s.heap ∧ va_OF "java/lang/String" "value" "[B" (.ref b) a A s s.heap ∧ va_T .byte b (jstN.getD i 0) (fun j => .int ((jstB.getD i []).getD j 0)) A s s.heap := by
  obtain ⟨a, c, cell, k, q1, -⟩ := Cond.exactly_spec (hn _ (ne_s0 i hi))
  obtain ⟨b, hb, hT⟩ := va_Tof (f := fun j => .int ((jstB.getD i []).getD j 0)) (jstN_lt i hi) (hn _ (ne_s2 i hi)) (va_eqt (hn _ (ne_s3 i hi))) (fun j hj => va_eqt (hn _ (ne_b i hi j hj))) hA
  exact ⟨a, b, q1, va_Oof (hn _ (ne_s0 i hi)) q1 hA, st_OF hA q1 (va_eqt (hn _ (ne_s1 i hi))), st_OF hA q1 hb, hT⟩
theorem va_En_cg {E d : String} {nm : List String} {F : List (String × String × String × List Int32)} {ad ad' : Nat → Nat} {A : Nat → Prop} {U : State} {H : Heap} (h : va_En E d nm F ad A U H) (e : ∀ i, i < nm.length → ad' i = ad i) : va_En E d nm F ad' A U H :=
  ⟨fun i hi => by rw [e i hi]; exact h.1 i hi, fun i j hi hj q => h.2 i j hi hj (by rw [← e i hi, ← e j hj]; exact q)⟩
def st_ad (L : Nat) (adT adS adB : Nat → Nat) (aE aW : Nat) (c : Nat) : Nat :=
  if c ≤ 149 then L + (c - 1) else if c < 2001 then adT (c - 1001) else if c < 3001 then adS (c - 2001) else if c < 4001 then adB (c - 3001) else if c = 4001 then aE else aW
theorem st_arr {ty : FieldType} (h : (Cond.arrayClass ty).before args s = true) (hty : ∀ n, ty ≠ .object n) : ∃ cA : ClassId, ArrOfT s cA ty ∧ va_RA s cA ty := by
  obtain ⟨cA, k, comp, h1, h2, h3⟩ := Cond.arrayClass_spec h
  refine ⟨cA, fun N z => ⟨(fun k h => by cases h), k, h2, comp, h3⟩, ?_⟩
  cases ty with
  | object n => exact absurd rfl (hty n)
  | _ => exact h1
theorem st_arrq {C : String} (h : (Cond.arrayOver (.object C)).before args s = true) : ∃ cA : ClassId, ArrOfT s cA (.object C) ∧ va_RA s cA (.object C) := by
  obtain ⟨comp, c, k, h1, h2, h3, h4, h5⟩ := Cond.arrayOver_spec h
  exact ⟨c, fun N z => ⟨(fun k h => by cases h), k, h3, comp, h4⟩, k, comp, h3, h4, h1, h5⟩
theorem st_arri {t : FieldType} (h : (Cond.arrayOver (.array t)).before args s = true) : ∃ cA : ClassId, ArrOfT s cA (.array t) ∧ va_RA s cA (.array t) := by
  obtain ⟨comp, c, k, h1, h2, h3, h4, h5⟩ := Stand.arrayOver_specB h
  exact ⟨c, fun N z => ⟨(fun k h => by cases h), k, h3, comp, h4⟩, h5⟩
/-- the state at the law's start is a world -/
theorem st_G (l : Launch) (hn : ∀ w ∈ nw, w.before args s = true) (ht : ∀ w ∈ lw_tbl, w.before args s = true) : ∃ G : jG, jl G = l ∧ js0 G = s ∧ jL G = s.heap.size ∧ jGl G ∧ jSeq G ∧ jAO G ∧ jSt G s := by
  have hA : ∀ a : Nat, a < s.heap.size → ¬ (fun q => s.heap.size ≤ q) a := fun a h q => absurd (show s.heap.size ≤ a from q) (Nat.not_le.mpr h)
  obtain ⟨adT, hT, hTe⟩ := st_En hn ht hA
  have hS0 : ∀ i : Nat, ∃ p : Nat × Nat, i < 34 → (SXs i).eval args s none [] s = some (.ref p.1) ∧ va_O "java/lang/String" p.1 (fun q => s.heap.size ≤ q) s s.heap ∧ va_OF "java/lang/String" "coder" "B" (.int 0) p.1 (fun q => s.heap.size ≤ q) s s.heap ∧ va_OF "java/lang/String" "value" "[B" (.ref p.2) p.1 (fun q => s.heap.size ≤ q) s s.heap ∧ va_T .byte p.2 (jstN.getD i 0) (fun j => .int ((jstB.getD i []).getD j 0)) (fun q => s.heap.size ≤ q) s s.heap := fun i => by
    by_cases hi : i < 34
    · obtain ⟨a, b, h⟩ := st_str hn hA hi
      exact ⟨(a, b), fun _ => h⟩
    · exact ⟨(0, 0), fun h => absurd h hi⟩
  obtain ⟨pS, hS⟩ := Classical.axiomOfChoice hS0
  obtain ⟨aE, hE1, hE2⟩ := va_Tof (f := fun j => .ref (adT j)) (N := 33) (by decide) (hn _ (ne_each0 0 Nat.one_pos)) (va_eqt (hn _ (ne_each1 0 Nat.one_pos))) (fun j hj => va_eqv (hn _ (ne_each j hj)) (hTe j hj)) hA
  obtain ⟨aW, hW1, hW2⟩ := va_Tof (f := fun j => .int (jswL.getD j 0)) (N := 33) (by decide) (hn _ (ne_sw0 0 Nat.one_pos)) (va_eqt (hn _ (ne_sw1 0 Nat.one_pos))) (fun j hj => va_eqt (hn _ (ne_sw j hj))) hA
  have hD0 : ∀ c : Nat, ∃ d : ClassId × (Nat → Nat), ∀ q : vw_C, jcl[c]? = some q → u_Kn s q.1 q.2.1 q.2.2 d.1 d.2 := fun c => by
    cases h : jcl[c]? with
    | none => exact ⟨(0, fun _ => 0), fun q hq => by cases hq⟩
    | some q =>
      obtain ⟨⟨n, h1⟩, h2⟩ := te_cl c q h
      obtain ⟨cC, iS, h3⟩ := u_known ht h2 (ht _ h1)
      exact ⟨(cC, iS), fun q' e => by cases e; exact h3⟩
  obtain ⟨dD, hD⟩ := Classical.axiomOfChoice hD0
  obtain ⟨c0, h0⟩ := st_arr (ht _ (te_ai 0 Nat.one_pos)) (fun n h => by cases h)
  obtain ⟨c1, h1⟩ := st_arr (ht _ (te_az 0 Nat.one_pos)) (fun n h => by cases h)
  obtain ⟨c2, h2⟩ := st_arri (ht _ (te_oi 0 Nat.one_pos))
  obtain ⟨c3, h3⟩ := st_arrq (ht _ (te_oq 0 Nat.one_pos))
  obtain ⟨c4, h4⟩ := st_arr (ht _ (te_al 0 Nat.one_pos)) (fun n h => by cases h)
  have eT : ∀ i, i < 33 → st_ad s.heap.size adT (fun i => (pS i).1) (fun i => (pS i).2) aE aW (1001 + i) = adT i := fun i hi => by
    unfold st_ad
    rw [if_neg (by omega), if_pos (by omega), Nat.add_sub_cancel_left]
  have eS : ∀ i, i < 34 → st_ad s.heap.size adT (fun i => (pS i).1) (fun i => (pS i).2) aE aW (2001 + i) = (pS i).1 := fun i hi => by
    unfold st_ad
    rw [if_neg (by omega), if_neg (by omega), if_pos (by omega), Nat.add_sub_cancel_left]
  have eB : ∀ i, i < 34 → st_ad s.heap.size adT (fun i => (pS i).1) (fun i => (pS i).2) aE aW (3001 + i) = (pS i).2 := fun i hi => by
    unfold st_ad
    rw [if_neg (by omega), if_neg (by omega), if_neg (by omega), if_pos (by omega), Nat.add_sub_cancel_left]
  have eC : ∀ i, i < jKall → st_ad s.heap.size adT (fun i => (pS i).1) (fun i => (pS i).2) aE aW (i + 1) = s.heap.size + i := fun i hi => by
    unfold jKall at hi
    unfold st_ad
    rw [if_pos (by omega), Nat.add_sub_cancel]
  have key : ∀ ad : Nat → Nat, (∀ i, i < 33 → ad (1001 + i) = adT i) → (∀ i, i < 34 → ad (2001 + i) = (pS i).1) → (∀ i, i < 34 → ad (3001 + i) = (pS i).2) → ad 4001 = aE → ad 4002 = aW → (∀ i, i < jKall → ad (i + 1) = s.heap.size + i) → ∃ G : jG, jl G = l ∧ js0 G = s ∧ jL G = s.heap.size ∧ jGl G ∧ jSeq G ∧ jAO G ∧ jSt G s := by
    intro ad eT eS eB eE eW eC
    refine ⟨(l, ad, (fun c => (dD c).1, fun c => (dD c).2), fun i => match i with | 0 => c0 | 1 => c1 | 2 => c2 | 3 => c3 | _ => c4, s.heap.size, s, jKall, jfx), rfl, rfl, rfl, ⟨⟨fun c q hq => hD c q hq, fun k q hk => ?_⟩, fun i j hi hj e => ?_, fun i hi => ?_, rfl, ?_⟩, ⟨rfl, rfl, eC⟩, ⟨ht _ (te_oq 0 Nat.one_pos), ht _ (te_oi 0 Nat.one_pos)⟩, ?_⟩
    · match k, hk with
      | 0, hk => cases hk; exact h0
      | 1, hk => cases hk; exact h1
      | 2, hk => cases hk; exact h2
      | 3, hk => cases hk; exact h3
      | 4, hk => cases hk; exact h4
      | _ + 5, hk => cases hk
    · have e : ad (i + 1) = ad (j + 1) := e
      rw [eC i hi, eC j hj] at e
      omega
    · show s.heap.size ≤ ad (i + 1)
      rw [eC i hi]
      omega
    · have hsp : ∀ i, i < 33 → jspL.getD i 0 < 34 := by decide +kernel
      refine ⟨va_En_cg hT (fun i hi => eT i hi), fun i hi => ?_, fun i hi => ?_, ⟨va_Zof (ht _ (te_leach 0 Nat.one_pos)) (ht _ (te_ieach 0 Nat.one_pos)) ?_ hA, ?_⟩, ⟨va_Zof (ht _ (te_lsw 0 Nat.one_pos)) (ht _ (te_isw 0 Nat.one_pos)) ?_ hA, ?_⟩, va_Zof (ht _ (te_lcs 0 Nat.one_pos)) (ht _ (te_ics 0 Nat.one_pos)) (va_eqi (hn _ (ne_cs 0 Nat.one_pos))) hA, va_Zqof (ht _ (te_lsf 0 Nat.one_pos)) (ht _ (te_isf 0 Nat.one_pos)) (hn _ (ne_sf 0 Nat.one_pos)) hA⟩
      · show va_O "java/lang/String" (ad (2001 + i)) _ _ _ ∧ va_OF "java/lang/String" "coder" "B" _ (ad (2001 + i)) _ _ _ ∧ va_OF "java/lang/String" "value" "[B" (.ref (ad (3001 + i))) (ad (2001 + i)) _ _ _ ∧ va_T _ (ad (3001 + i)) _ _ _ _ _
        rw [eS i hi, eB i hi]
        exact (hS i hi).2
      · show va_OF _ _ _ (.ref (ad (2001 + jspL.getD i 0))) (ad (1001 + i)) _ _ _
        rw [eS _ (hsp i hi), eT i hi]
        exact st_OF hA (hTe i hi) (va_eqv (hn _ (ne_sp i hi)) (hS _ (hsp i hi)).1)
      · show _ = some (Value.ref (ad 4001))
        rw [eE]
        exact hE1
      · show va_T _ (ad 4001) _ _ _ _ _
        rw [eE]
        obtain ⟨cell, g1, g2, g3, g4, g5, g6, g7⟩ := hE2
        refine ⟨cell, g1, g2, g3, g4, g5, fun j hj => ?_, g7⟩
        show _ = some (Value.ref (ad (1001 + j)))
        rw [eT j hj]
        exact g6 j hj
      · show _ = some (Value.ref (ad 4002))
        rw [eW]
        exact hW1
      · show va_T _ (ad 4002) _ _ _ _ _
        rw [eW]
        exact hW2
    · refine ⟨fun w hw => ?_, fun i hi => ?_⟩
      · have h1 := List.mem_filter.mp hw
        refine va_Nw.of (A := args) ?_ (ht _ (List.mem_append_right _ h1.1))
        have h9 := h1.2
        cases w <;> first | rfl | exact absurd h9 (by unfold jisN; exact Bool.false_ne_true)
      · show vk_R _ _ _ (ad (2001 + i)) s
        rw [eS i (by omega)]
        exact vk_R.of (A := args) (ht _ (te_sr i hi)) (hS i (by omega)).1
  refine key (st_ad s.heap.size adT (fun i => (pS i).1) (fun i => (pS i).2) aE aW) eT eS eB ?_ ?_ eC
  · unfold st_ad
    rw [if_neg (by decide), if_neg (by decide), if_neg (by decide), if_neg (by decide), if_pos rfl]
  · unfold st_ad
    rw [if_neg (by decide), if_neg (by decide), if_neg (by decide), if_neg (by decide), if_neg (by decide)]
end ST
