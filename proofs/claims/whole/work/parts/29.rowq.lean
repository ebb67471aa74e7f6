/-! the two rows that need an array class over references -/
def jAOI (U : State) : Prop := (Cond.arrayOver (.array .int)).before #[] U = true
theorem jAOI_moved {A : Array Value} {u U : State} (hvm : u.vm.Alike U.vm) (h : jAOI u) : (Cond.arrayOver (.array .int)).before A U = true := Stand.arrayOver_alikeB hvm h
def jAO (G : jG) : Prop := va_AO "CitingLetters$Token" (js0 G) ∧ jAOI (js0 G)
section JCR
variable {G : jG} {Y : jY} {k0 pc : Nat} {ls : List (Nat × Value)} {st : List Value} {k sl : Nat} {F : Nat → Nat → Nat} {M : jMem} {Q : jQT} {R : jRC}
theorem JC.newQ (ha : jAO G) {index : Nat} {n : Int32} (hd : decode (jcc Y) pc = .ok (.anewarray index, 3)) (hw : Cond.classLink (jy Y).cls index "CitingLetters$Token" ∈ jw) (hk : k < jKall) (ht : jtag (k + 1) = 4 ∧ jpar (k + 1) = n.toNatClampNeg) (hM : ∀ i, M (k + 1) i = 0) (hn : ¬ n < 0) (hb : n.toNatClampNeg ≤ 5000) (hc : k - k0 + 1 ≤ jcs Y) (hs : sl + n.toNatClampNeg ≤ jss Y) (K : JCQ G Y k0 (pc + 3) ls (jr G (k + 1) :: st) (k + 1) (sl + n.toNatClampNeg) F M Q) : JCQ G Y k0 pc ls (.int n :: st) k sl F M Q := by
  intro p e s m args below meth c H locs la rm X1 hFt X2 X3 X4 X5 X6 hW hS hl
  refine va_newq X1.1 X1.2.1 X1.2.2.2.1 (X1.2.2.2.2.1 _ hw) (ha.1.moved X1.2.2.2.2.2.2.2.1) (jFx_k X1 X2 X6 F).K hW.1 (jwl_D (jGl_k X1.gl X2 X6 F)) hS (fun q hq => Nat.le_trans X1.2.2.2.2.2.2.2.2.1 hq) hn rfl (by omega) (Nat.le_trans hc hFt.2.1) (Nat.le_trans hs hFt.2.2.1) hd (fun q cA H1 hK hP hD hS1 => ?_)
  refine jW_new fun hz => ?_
  have hcA : cA = jcA G 3 := jK_cls (hK.2 5 _ rfl).2 (hK.2 3 _ rfl).2
  have hen : jent (jGk G (k + 1) F) M (k + 1) = .inl (cA, n.toNatClampNeg, .inr (.inr (.inr (.inr (fun _ => none))))) := by
    have hz0 : M (k + 1) = fun _ => 0 := funext hM
    rw [jent_arr4 ht.1, ht.2, hcA, hz0]
    rfl
  obtain ⟨hq, hP'⟩ := jwl_push X2 hk (H := H) hP hD (by omega) hen
  have K := K p e s m args below meth c H1 locs la rm X1 hFt X2 X3 X4 (by omega) (by omega) (JC.grow X1.2.2.2.2.2.2.2.2.1 hW hS hP' hS1) hS1 hl
  rw [jr_pos (by omega), X2.2.2 k hk, ← hq, show k + 1 - k0 = k - k0 + 1 by omega] at K
  exact K
theorem JC.mnaQ (ha : jAO G) {index N : Nat} {n j : Int32} {F' : Nat → Nat → Nat} (hd : decode (jcc Y) pc = .ok (.multianewarray index 2, 4)) (hw : Cond.classLink (jy Y).cls index ("[" ++ (FieldType.array .int).toString) ∈ jw ∧ Cond.arrayClass .int ∈ jw) (hN : n.toNatClampNeg = N) (hk : k + 1 + N ≤ jKall) (ht : jtag (k + 1) = 3 ∧ jpar (k + 1) = N) (hrow : (List.range N).all (fun i => jtag (k + 2 + i) == 1 && jpar (k + 2 + i) == j.toNatClampNeg) = true) (hM : ∀ i, i < N → ∀ q, M (k + 2 + i) q = 0) (hn : ¬ n < 0) (hj : ¬ j < 0) (hb : N ≤ 5000) (hb2 : j.toNatClampNeg ≤ 5000) (hF : F' = fun c i => if c = k + 1 then (if i < N then k + 2 + i else 0) else F c i)
    (hc : k - k0 + (1 + N) ≤ jcs Y) (hs : sl + (N + N * j.toNatClampNeg) ≤ jss Y) (K : JCQ G Y k0 (pc + 4) ls (jr G (k + 1) :: st) (k + 1 + N) (sl + N + N * j.toNatClampNeg) F' M Q) : JCQ G Y k0 pc ls (.int j :: .int n :: st) k sl F M Q := by
  intro p e s m args below meth c H locs la rm X1 hFt X2 X3 X4 X5 X6 hW hS hl
  have hts := X1.2.2.2.2.1
  subst hN
  intro T hT X
  have hsz : H.size = jL G + k := by
    have h1 := X.heapSize
    rw [hT] at h1
    have h2 := jWd_lo X2 X6 hW
    omega
  obtain ⟨vm₁, cA, comp, -, fA, fC, hO, -, X', step⟩ := X.multianewarray2F X1.1 X1.2.2.2.1 (hts _ hw.1) (jAOI_moved (A := args) X1.2.2.2.2.2.2.2.1 ha.2) (hts _ hw.2) (g := F0 m pc la (.int j :: .int n :: st)) rfl (by rw [X1.2.1]; exact hd) rfl hn hj (by omega) (by show _ * 4 ≤ _; omega) (by omega) rfl rfl (Nat.le_trans hc hFt.2.1) (Nat.le_trans hs hFt.2.2.1)
  have ecA : cA = jcA G 2 := Option.some.inj (Eq.trans (Eq.symm fA) ((jFx_k X1 X2 X6 F).K.2 2 _ rfl).2)
  have ecB : comp = jcA G 0 := Option.some.inj (Eq.trans (Eq.symm fC) ((jFx_k X1 X2 X6 F).K.2 0 _ rfl).2)
  generalize hFl : Jvm.Free.Multi.fill (T.setVm vm₁) cA comp n.toNatClampNeg j.toNatClampNeg (defaultValue .int) n.toNatClampNeg = Fl at X' step
  have hTh : (T.setVm vm₁).heap = H := hT
  obtain ⟨f1, f2, -, -⟩ := Jvm.Free.Multi.fill_facts (T.setVm vm₁) cA comp n.toNatClampNeg j.toNatClampNeg (defaultValue .int) n.toNatClampNeg
  rw [hFl, hTh] at f1 f2
  have hold : ∀ x : Nat, x < H.size → Fl.heap[x]? = H[x]? := fun x hx => by
    have h9 := Jvm.Free.Multi.fill_old (T.setVm vm₁) cA comp n.toNatClampNeg j.toNatClampNeg (defaultValue .int) (a := x) (by rw [hTh]; exact hx) n.toNatClampNeg
    rw [hFl, hTh] at h9
    exact h9
  have hinn : ∀ i : Nat, i < n.toNatClampNeg → Fl.heap[H.size + 1 + i]? = some (vp_cell comp (j.toNatClampNeg, .inl (fun _ => 0))) := fun i hi => by
    have h9 := Jvm.Free.Multi.fill_inner (T.setVm vm₁) cA comp n.toNatClampNeg j.toNatClampNeg (defaultValue .int) n.toNatClampNeg i hi
    rw [hFl, hTh] at h9
    rw [h9]
    congr 1
    show ({ cls := comp, slots := Array.replicate j.toNatClampNeg (.int 0), vm := .none } : Cell) = _
    rw [vp_cell_i, arrV_new]
  have hP' : va_P (jD G) jcl (jwl (jGk G (k + 1 + n.toNatClampNeg) F') M) Fl.heap := by
    intro i q hq
    have hi : i < k + 1 + n.toNatClampNeg := by
      have h9 := (List.getElem?_eq_some_iff.mp hq).1
      simpa [jwl, jGk] using h9
    have hq2 := jwl_at (G := jGk G (k + 1 + n.toNatClampNeg) F') (M := M) (c := i + 1) (by omega) (by show i + 1 ≤ k + 1 + n.toNatClampNeg; omega)
    rw [Nat.add_sub_cancel] at hq2
    rw [hq] at hq2
    cases hq2
    have hadr : jad (jGk G (k + 1 + n.toNatClampNeg) F') (i + 1) = jL G + i := X2.2.2 i (by omega)
    rcases Nat.lt_trichotomy i k with hlt | heq | hgt
    · have hold2 := hW.1 i _ (by have h8 := jwl_at (G := jGk G k F) (M := M) (c := i + 1) (by omega) (by show i + 1 ≤ k; omega); rw [Nat.add_sub_cancel] at h8; exact h8)
      have he : jent (jGk G (k + 1 + n.toNatClampNeg) F') M (i + 1) = jent (jGk G k F) M (i + 1) := by
        have hFe : F' (i + 1) = F (i + 1) := by
          rw [hF]
          funext x
          exact if_neg (by omega)
        unfold jent jfv
        simp only [show jF (jGk G (k + 1 + n.toNatClampNeg) F') (i + 1) = jF (jGk G k F) (i + 1) from hFe]
        rfl
      rw [he]
      exact hold2.kept (hold _ hold2.lt)
    · subst heq
      rw [jent_arr3 ht.1]
      show Fl.heap[jad G (i + 1)]? = some (vp_cell (jcA G 2) (jpar (i + 1), _))
      rw [show jad G (i + 1) = H.size by rw [hsz]; exact hadr, f2, jm_outer, vp_cell_q, ht.2, ecA]
      congr 2
      funext q
      congr 1
      show (if q < n.toNatClampNeg then some (H.size + 1 + q) else none) = jro (jGk G (i + 1 + n.toNatClampNeg) F') (F' (i + 1) q)
      rw [hF]
      unfold jro
      by_cases hql : q < n.toNatClampNeg
      · simp only [if_true, hql]
        rw [if_neg (by omega)]
        have h7 : jad G (i + 2 + q) = jL G + (i + 1 + q) := by
          have h8 := X2.2.2 (i + 1 + q) (by omega)
          rw [show i + 2 + q = i + 1 + q + 1 by omega]
          exact h8
        show some (H.size + 1 + q) = some (jad G (i + 2 + q))
        rw [h7, hsz]
        congr 1
        omega
      · simp only [if_true, hql, if_false]
    · have hr := List.all_eq_true.mp hrow (i - (k + 1)) (List.mem_range.mpr (by omega))
      simp only [Bool.and_eq_true, beq_iff_eq] at hr
      rw [show k + 2 + (i - (k + 1)) = i + 1 by omega] at hr
      have hz0 : M (i + 1) = fun _ => 0 := funext fun q => by
        have h8 := hM (i - (k + 1)) (by omega) q
        rw [show k + 2 + (i - (k + 1)) = i + 1 by omega] at h8
        exact h8
      rw [jent_arr1 hr.1]
      show Fl.heap[jad G (i + 1)]? = some (vp_cell (jcA G 0) (jpar (i + 1), .inl (M (i + 1))))
      have h9 := hinn (i - (k + 1)) (by omega)
      rw [show jad G (i + 1) = H.size + 1 + (i - (k + 1)) by rw [hsz]; have h6 : jad G (i + 1) = jL G + i := hadr; omega, h9, hr.2, hz0, ecB]
  have hS' : va_S (jA G) s.heap Fl.heap locs := ⟨by rw [f1]; have := hS.1; omega, fun x h1 h2 => (hold x (Nat.lt_of_lt_of_le h1 hS.1)).trans (hS.2.1 x h1 h2), hS.2.2⟩
  have K := K p e s m args below meth c Fl.heap locs la rm X1 hFt X2 X3 X4 (by omega) (by omega) (JC.grow X1.2.2.2.2.2.2.2.2.1 hW hS hP' hS') hS' hl
  rw [jr_pos (by omega), X2.2.2 k (by omega), ← hsz, show k + 1 + n.toNatClampNeg - k0 = k - k0 + 1 + n.toNatClampNeg by omega] at K
  obtain ⟨t, a1, b1⟩ := K Fl rfl X'
  refine ⟨t, step t ?_, b1⟩
  have e9 : T.heap.size = H.size := by rw [hT]
  rw [e9]
  exact a1
end JCR
