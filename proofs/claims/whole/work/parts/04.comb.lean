theorem jt_m1 {w : Cond} (i : Nat) (h : tables_1_1[i]? = some w) : w ∈ tables_1 := List.mem_append_left _ (List.mem_of_getElem? h)
theorem jt_1 {w : Cond} (i : Nat) (h : tables_1_1[i]? = some w) (g : goodWord w = true) : w ∈ jw := jw_in (List.mem_append_right _ (jt_m1 i h)) g
theorem jn_1 {w : Cond} (i : Nat) (h : tables_1_1[i]? = some w) (g : jisN w = true) : w ∈ jnest := List.mem_filter.mpr ⟨jt_m1 i h, g⟩
theorem jt_m2 {w : Cond} (i : Nat) (h : tables_1_2[i]? = some w) : w ∈ tables_1 := List.mem_append_right _ (List.mem_append_left _ (List.mem_of_getElem? h))
theorem jt_2 {w : Cond} (i : Nat) (h : tables_1_2[i]? = some w) (g : goodWord w = true) : w ∈ jw := jw_in (List.mem_append_right _ (jt_m2 i h)) g
theorem jn_2 {w : Cond} (i : Nat) (h : tables_1_2[i]? = some w) (g : jisN w = true) : w ∈ jnest := List.mem_filter.mpr ⟨jt_m2 i h, g⟩
theorem jt_m3 {w : Cond} (i : Nat) (h : tables_1_3[i]? = some w) : w ∈ tables_1 := List.mem_append_right _ (List.mem_append_right _ (List.mem_append_left _ (List.mem_of_getElem? h)))
theorem jt_3 {w : Cond} (i : Nat) (h : tables_1_3[i]? = some w) (g : goodWord w = true) : w ∈ jw := jw_in (List.mem_append_right _ (jt_m3 i h)) g
theorem jn_3 {w : Cond} (i : Nat) (h : tables_1_3[i]? = some w) (g : jisN w = true) : w ∈ jnest := List.mem_filter.mpr ⟨jt_m3 i h, g⟩
theorem jt_m4 {w : Cond} (i : Nat) (h : tables_1_4[i]? = some w) : w ∈ tables_1 := List.mem_append_right _ (List.mem_append_right _ (List.mem_append_right _ (List.mem_append_left _ (List.mem_of_getElem? h))))
theorem jt_4 {w : Cond} (i : Nat) (h : tables_1_4[i]? = some w) (g : goodWord w = true) : w ∈ jw := jw_in (List.mem_append_right _ (jt_m4 i h)) g
theorem jn_4 {w : Cond} (i : Nat) (h : tables_1_4[i]? = some w) (g : jisN w = true) : w ∈ jnest := List.mem_filter.mpr ⟨jt_m4 i h, g⟩
theorem jt_m5 {w : Cond} (i : Nat) (h : tables_1_5[i]? = some w) : w ∈ tables_1 := List.mem_append_right _ (List.mem_append_right _ (List.mem_append_right _ (List.mem_append_right _ (List.mem_append_left _ (List.mem_of_getElem? h)))))
theorem jt_5 {w : Cond} (i : Nat) (h : tables_1_5[i]? = some w) (g : goodWord w = true) : w ∈ jw := jw_in (List.mem_append_right _ (jt_m5 i h)) g
theorem jn_5 {w : Cond} (i : Nat) (h : tables_1_5[i]? = some w) (g : jisN w = true) : w ∈ jnest := List.mem_filter.mpr ⟨jt_m5 i h, g⟩
theorem jt_m6 {w : Cond} (i : Nat) (h : tables_1_6[i]? = some w) : w ∈ tables_1 := List.mem_append_right _ (List.mem_append_right _ (List.mem_append_right _ (List.mem_append_right _ (List.mem_append_right _ (List.mem_append_left _ (List.mem_of_getElem? h))))))
theorem jt_6 {w : Cond} (i : Nat) (h : tables_1_6[i]? = some w) (g : goodWord w = true) : w ∈ jw := jw_in (List.mem_append_right _ (jt_m6 i h)) g
theorem jn_6 {w : Cond} (i : Nat) (h : tables_1_6[i]? = some w) (g : jisN w = true) : w ∈ jnest := List.mem_filter.mpr ⟨jt_m6 i h, g⟩
theorem jt_m7 {w : Cond} (i : Nat) (h : tables_1_7[i]? = some w) : w ∈ tables_1 := List.mem_append_right _ (List.mem_append_right _ (List.mem_append_right _ (List.mem_append_right _ (List.mem_append_right _ (List.mem_append_right _ (List.mem_append_left _ (List.mem_of_getElem? h)))))))
theorem jt_7 {w : Cond} (i : Nat) (h : tables_1_7[i]? = some w) (g : goodWord w = true) : w ∈ jw := jw_in (List.mem_append_right _ (jt_m7 i h)) g
theorem jn_7 {w : Cond} (i : Nat) (h : tables_1_7[i]? = some w) (g : jisN w = true) : w ∈ jnest := List.mem_filter.mpr ⟨jt_m7 i h, g⟩
theorem jt_m8 {w : Cond} (i : Nat) (h : tables_1_8[i]? = some w) : w ∈ tables_1 := List.mem_append_right _ (List.mem_append_right _ (List.mem_append_right _ (List.mem_append_right _ (List.mem_append_right _ (List.mem_append_right _ (List.mem_append_right _ (List.mem_append_left _ (List.mem_of_getElem? h))))))))
theorem jt_8 {w : Cond} (i : Nat) (h : tables_1_8[i]? = some w) (g : goodWord w = true) : w ∈ jw := jw_in (List.mem_append_right _ (jt_m8 i h)) g
theorem jn_8 {w : Cond} (i : Nat) (h : tables_1_8[i]? = some w) (g : jisN w = true) : w ∈ jnest := List.mem_filter.mpr ⟨jt_m8 i h, g⟩
theorem jt_m9 {w : Cond} (i : Nat) (h : tables_1_9[i]? = some w) : w ∈ tables_1 := List.mem_append_right _ (List.mem_append_right _ (List.mem_append_right _ (List.mem_append_right _ (List.mem_append_right _ (List.mem_append_right _ (List.mem_append_right _ (List.mem_append_right _ (List.mem_of_getElem? h))))))))
theorem jt_9 {w : Cond} (i : Nat) (h : tables_1_9[i]? = some w) (g : goodWord w = true) : w ∈ jw := jw_in (List.mem_append_right _ (jt_m9 i h)) g
theorem jn_9 {w : Cond} (i : Nat) (h : tables_1_9[i]? = some w) (g : jisN w = true) : w ∈ jnest := List.mem_filter.mpr ⟨jt_m9 i h, g⟩
theorem jw_t {w : Cond} (i : Nat) (h : tables_1[i]? = some w) (g : goodWord w = true) : w ∈ jw := jw_in (List.mem_append_right _ (List.mem_of_getElem? h)) g
theorem jw_p {w : Cond} (i : Nat) (h : (k2_sels lw_privs)[i]? = some w) (g : goodWord w = true) : w ∈ jw := jw_in (List.mem_append_left _ (List.mem_of_getElem? h)) g
/-- all cells stand, and the references that stay are those of the table -/
def jFul (G : jG) : Prop := 148 ≤ jK G ∧ jF G = jfx
theorem jtag_in {c : Nat} (h : jtag c ≠ 9) : 0 < c ∧ c ≤ jKall := by
  refine ⟨Nat.pos_of_ne_zero fun e => ?_, Nat.not_lt.mp fun e => ?_⟩
  · subst e
    exact h rfl
  · apply h
    unfold jtag
    have h1 : jshL.length = jKall + 1 := by decide +kernel
    rw [List.getD_eq_getElem?_getD, List.getElem?_eq_none (by omega)]
    rfl
theorem jtag_148 {c : Nat} (h : jtag c ≠ 9) (h5 : jtag c ≠ 5) : c ≤ 148 := by
  have h1 := (jtag_in h).2
  rcases Nat.lt_or_ge c 149 with q | q
  · omega
  · have h2 : c = 149 := by have h3 : jKall = 149 := rfl; omega
    subst h2
    exact absurd rfl h5
theorem jtag_inG {G : jG} (hG : jFul G) {c : Nat} (h : jtag c ≠ 9) (h5 : jtag c ≠ 5) : 0 < c ∧ c ≤ jK G := ⟨(jtag_in h).1, Nat.le_trans (jtag_148 h h5) hG.1⟩
theorem jlen_in {G : jG} (hG : jFul G) {t c : Nat} (ht : t ≠ 9) (h5 : t ≠ 5) {i : Int32} (h : vp_in i (jlen t c)) : 0 < c ∧ c ≤ jK G := jtag_inG hG (by rw [(jlen_tag h).1]; exact ht) (by rw [(jlen_tag h).1]; exact h5)
/-! the words of the functional text: loads, stores, calls, guards -/
def jld {ρ : Type} (t : Nat) (M : jMem) (c : Nat) (i : Int32) (K : Int32 → Option ρ) : Option ρ := if i < 0 ∨ jlen t c ≤ i.toNatClampNeg then none else K (M c i.toNatClampNeg)
def jst {ρ : Type} (t : Nat) (M : jMem) (c : Nat) (i v : Int32) (K : jMem → Option ρ) : Option ρ := if i < 0 ∨ jlen t c ≤ i.toNatClampNeg then none else K (jup M c i.toNatClampNeg v)
def jl3 {ρ : Type} (c : Nat) (i : Int32) (K : Nat → Option ρ) : Option ρ := if i < 0 ∨ jlen 3 c ≤ i.toNatClampNeg then none else K (jfx c i.toNatClampNeg)
def jl4 {ρ : Type} (M : jMem) (c : Nat) (i : Int32) (K : Nat → Option ρ) : Option ρ := if i < 0 ∨ jlen 4 c ≤ i.toNatClampNeg then none else K (M c i.toNatClampNeg).toNatClampNeg
def jpu {ρ : Type} (M : jMem) (c k : Nat) (v : Int32) (K : jMem → Option ρ) : Option ρ := K (jup M c k v)
def jbd {α ρ : Type} (o : Option (α × jMem)) (K : α → jMem → Option ρ) : Option ρ := match o with
  | some (a, m) => K a m
  | none => none
def jgd {ρ : Type} (p : Prop) [Decidable p] (o : Option ρ) : Option ρ := if p then o else none
theorem jld_some {ρ : Type} {t : Nat} {M : jMem} {c : Nat} {i : Int32} {K : Int32 → Option ρ} {r : ρ} (h : jld t M c i K = some r) : ∃ x, M c i.toNatClampNeg = x ∧ vp_in i (jlen t c) ∧ K x = some r := by
  unfold jld at h
  split at h
  · cases h
  · exact ⟨_, rfl, by assumption, h⟩
theorem jst_some {ρ : Type} {t : Nat} {M : jMem} {c : Nat} {i v : Int32} {K : jMem → Option ρ} {r : ρ} (h : jst t M c i v K = some r) : ∃ m, jup M c i.toNatClampNeg v = m ∧ vp_in i (jlen t c) ∧ K m = some r := by
  unfold jst at h
  split at h
  · cases h
  · exact ⟨_, rfl, by assumption, h⟩
theorem jl3_some {ρ : Type} {c : Nat} {i : Int32} {K : Nat → Option ρ} {r : ρ} (h : jl3 c i K = some r) : ∃ x, jfx c i.toNatClampNeg = x ∧ vp_in i (jlen 3 c) ∧ K x = some r := by
  unfold jl3 at h
  split at h
  · cases h
  · exact ⟨_, rfl, by assumption, h⟩
theorem jl4_some {ρ : Type} {M : jMem} {c : Nat} {i : Int32} {K : Nat → Option ρ} {r : ρ} (h : jl4 M c i K = some r) : ∃ x, (M c i.toNatClampNeg).toNatClampNeg = x ∧ vp_in i (jlen 4 c) ∧ K x = some r := by
  unfold jl4 at h
  split at h
  · cases h
  · exact ⟨_, rfl, by assumption, h⟩
theorem jpu_some {ρ : Type} {M : jMem} {c k : Nat} {v : Int32} {K : jMem → Option ρ} {r : ρ} (h : jpu M c k v K = some r) : ∃ m, jup M c k v = m ∧ K m = some r := ⟨_, rfl, h⟩
theorem jbd_some {α ρ : Type} {o : Option (α × jMem)} {K : α → jMem → Option ρ} {r : ρ} (h : jbd o K = some r) : ∃ a m, o = some (a, m) ∧ K a m = some r := by
  cases o with
  | none => cases h
  | some p => exact ⟨p.1, p.2, rfl, h⟩
theorem jgd_some {ρ : Type} {p : Prop} [Decidable p] {o : Option ρ} {r : ρ} (h : jgd p o = some r) : p ∧ o = some r := by
  unfold jgd at h
  split at h
  · exact ⟨by assumption, h⟩
  · cases h
abbrev jri (r : Int32 × jMem) : jRes := (some (.int r.1), r.2)
abbrev jrv (r : Unit × jMem) : jRes := (none, r.2)
abbrev jrr (G : jG) (r : Nat × jMem) : jRes := (some (jr G r.1), r.2)
theorem jcN : (([] : List Value).map fun v => v.category).sum ≤ 0 := Nat.le_refl _
theorem jcI {x : Int32} {l : List Value} {k : Nat} (h : (l.map fun v => v.category).sum ≤ k) : ((Value.int x :: l).map fun v => v.category).sum ≤ k + 1 := by
  rw [List.map_cons, List.sum_cons]
  show 1 + _ ≤ _
  omega
theorem jcR {G : jG} {n : Nat} {l : List Value} {k : Nat} (h : (l.map fun v => v.category).sum ≤ k) : ((jr G n :: l).map fun v => v.category).sum ≤ k + 1 := by
  rw [List.map_cons, List.sum_cons, jr_cat]
  omega
section JW
variable {G : jG} {Y : jY} {pc : Nat} {ls : List (Nat × Value)} {st : List Value} {M : jMem} {Q : jQT} {R : jRes}
theorem J.sub {ls' : List (Nat × Value)} (ks : List Nat) (h : lv_pick ls ks = ls') (K : JQ G Y pc ls' st M Q) : JQ G Y pc ls st M Q := by
  intro p e s m args below meth c H locs la rm F hF hW hS hl
  exact K p e s m args below meth c H locs la rm F hF hW hS (lv_sub hl ks h)
theorem J.nop {pc' : Nat} (h : pc = pc') (K : JQ G Y pc' ls st M Q) : JQ G Y pc ls st M Q := h ▸ K
theorem J.getI {index ci k c : Nat} (hG : jFul G) (hd : decode (jcc Y) pc = .ok (.getfield index, 3)) (hf : jFl (jy Y).cls index ci k) (hc : jtag c = 0 ∧ jpar c = ci ∧ jkd ci k = 0) (K : JQ G Y (pc + 3) ls (.int (M c k) :: st) M Q) : JQ G Y pc ls (jr G c :: st) M Q :=
  J.getf hd hf ⟨(jtag_inG hG (by rw [hc.1]; decide) (by rw [hc.1]; decide)).1, (jtag_inG hG (by rw [hc.1]; decide) (by rw [hc.1]; decide)).2, hc.1, hc.2.1⟩ (by rw [hc.2.2]; rfl) K
theorem J.getF {index ci k c n : Nat} (hG : jFul G) (hd : decode (jcc Y) pc = .ok (.getfield index, 3)) (hf : jFl (jy Y).cls index ci k) (hc : jtag c = 0 ∧ jpar c = ci ∧ jkd ci k = 1) (hn : jfx c k = n) (K : JQ G Y (pc + 3) ls (jr G n :: st) M Q) : JQ G Y pc ls (jr G c :: st) M Q :=
  J.getf hd hf ⟨(jtag_inG hG (by rw [hc.1]; decide) (by rw [hc.1]; decide)).1, (jtag_inG hG (by rw [hc.1]; decide) (by rw [hc.1]; decide)).2, hc.1, hc.2.1⟩ (by rw [hc.2.2]; show jr G (jF G c k) = _; rw [hG.2, hn]) K
theorem J.getM {index ci k c : Nat} (hG : jFul G) (hd : decode (jcc Y) pc = .ok (.getfield index, 3)) (hf : jFl (jy Y).cls index ci k) (hc : jtag c = 0 ∧ jpar c = ci ∧ jkd ci k = 2) (K : JQ G Y (pc + 3) ls (jr G (M c k).toNatClampNeg :: st) M Q) : JQ G Y pc ls (jr G c :: st) M Q :=
  J.getf hd hf ⟨(jtag_inG hG (by rw [hc.1]; decide) (by rw [hc.1]; decide)).1, (jtag_inG hG (by rw [hc.1]; decide) (by rw [hc.1]; decide)).2, hc.1, hc.2.1⟩ (by rw [hc.2.2]; rfl) K
theorem J.putI {index ci k c : Nat} {x : Int32} {m' : jMem} (hG : jFul G) (hd : decode (jcc Y) pc = .ok (.putfield index, 3)) (hf : jFl (jy Y).cls index ci k) (hp : jFp ci k .int) (hc : jtag c = 0 ∧ jpar c = ci ∧ jkd ci k = 0) (hm : jup M c k x = m') (K : JQ G Y (pc + 3) ls st m' Q) : JQ G Y pc ls (.int x :: jr G c :: st) M Q :=
  J.putf0 hd hf hp ⟨(jtag_inG hG (by rw [hc.1]; decide) (by rw [hc.1]; decide)).1, (jtag_inG hG (by rw [hc.1]; decide) (by rw [hc.1]; decide)).2, hc.1, hc.2.1⟩ hc.2.2 rfl rfl (by rw [hm]; exact K)
theorem J.putZ {index ci k c : Nat} {x : Int32} {m' : jMem} (hG : jFul G) (hd : decode (jcc Y) pc = .ok (.putfield index, 3)) (hf : jFl (jy Y).cls index ci k) (hp : jFp ci k .boolean) (hc : jtag c = 0 ∧ jpar c = ci ∧ jkd ci k = 0) (hx : x = 0 ∨ x = 1) (hm : jup M c k x = m') (K : JQ G Y (pc + 3) ls st m' Q) : JQ G Y pc ls (.int x :: jr G c :: st) M Q :=
  J.putf0 hd hf hp ⟨(jtag_inG hG (by rw [hc.1]; decide) (by rw [hc.1]; decide)).1, (jtag_inG hG (by rw [hc.1]; decide) (by rw [hc.1]; decide)).2, hc.1, hc.2.1⟩ hc.2.2 (by rcases hx with rfl | rfl <;> rfl) (by rcases hx with rfl | rfl <;> rfl) (by rw [hm]; exact K)
theorem jr_nar {n : Nat} {C : String} : narrow (.object C) (jr G n) = jr G n := by
  rcases jr_or G n with h | ⟨a, h⟩ <;> rw [h] <;> rfl
theorem jr_fit {n : Nat} {C : String} : fits (.object C) (jr G n) = true := by
  rcases jr_or G n with h | ⟨a, h⟩ <;> rw [h] <;> rfl
theorem J.putR {index ci k c n : Nat} {C : String} {m' : jMem} (hG : jFul G) (hd : decode (jcc Y) pc = .ok (.putfield index, 3)) (hf : jFl (jy Y).cls index ci k) (hp : jFp ci k (.object C)) (hc : jtag c = 0 ∧ jpar c = ci ∧ jkd ci k = 2) (hn : n < 2 ^ 31) (hm : jup M c k (Int32.ofNat n) = m') (K : JQ G Y (pc + 3) ls st m' Q) : JQ G Y pc ls (jr G n :: jr G c :: st) M Q :=
  J.putf2 hd hf hp ⟨(jtag_inG hG (by rw [hc.1]; decide) (by rw [hc.1]; decide)).1, (jtag_inG hG (by rw [hc.1]; decide) (by rw [hc.1]; decide)).2, hc.1, hc.2.1⟩ hc.2.2 hn jr_nar jr_fit (by rw [hm]; exact K)
theorem J.il {c : Nat} {i x : Int32} (hG : jFul G) (hd : decode (jcc Y) pc = .ok (.iaload, 1)) (hin : vp_in i (jlen 1 c)) (hx : M c i.toNatClampNeg = x) (K : JQ G Y (pc + 1) ls (.int x :: st) M Q) : JQ G Y pc ls (.int i :: jr G c :: st) M Q :=
  J.iald hd (jlen_in hG (by decide) (by decide) hin) hin (by rw [hx]; exact K)
theorem J.zl {c : Nat} {i x : Int32} (hG : jFul G) (hd : decode (jcc Y) pc = .ok (.baload, 1)) (hin : vp_in i (jlen 2 c)) (hx : M c i.toNatClampNeg = x) (K : JQ G Y (pc + 1) ls (.int x :: st) M Q) : JQ G Y pc ls (.int i :: jr G c :: st) M Q :=
  J.zald hd (jlen_in hG (by decide) (by decide) hin) hin (by rw [hx]; exact K)
theorem J.is {c : Nat} {i x : Int32} {m' : jMem} (hG : jFul G) (hd : decode (jcc Y) pc = .ok (.iastore, 1)) (hin : vp_in i (jlen 1 c)) (hm : jup M c i.toNatClampNeg x = m') (K : JQ G Y (pc + 1) ls st m' Q) : JQ G Y pc ls (.int x :: .int i :: jr G c :: st) M Q :=
  J.iast hd (jlen_in hG (by decide) (by decide) hin) hin (by rw [hm]; exact K)
theorem J.zs {c : Nat} {i x : Int32} {m' : jMem} (hG : jFul G) (hd : decode (jcc Y) pc = .ok (.bastore, 1)) (hin : vp_in i (jlen 2 c)) (hm : jup M c i.toNatClampNeg (jbz x) = m') (K : JQ G Y (pc + 1) ls st m' Q) : JQ G Y pc ls (.int x :: .int i :: jr G c :: st) M Q :=
  J.zast hd (jlen_in hG (by decide) (by decide) hin) hin (by rw [hm]; exact K)
theorem J.a3 {c n : Nat} {i : Int32} (hG : jFul G) (hd : decode (jcc Y) pc = .ok (.aaload, 1)) (hin : vp_in i (jlen 3 c)) (hx : jfx c i.toNatClampNeg = n) (K : JQ G Y (pc + 1) ls (jr G n :: st) M Q) : JQ G Y pc ls (.int i :: jr G c :: st) M Q :=
  J.aald3 hd (jlen_in hG (by decide) (by decide) hin) hin (by rw [hG.2]; exact hx) K
theorem J.a4 {c n : Nat} {i : Int32} (hG : jFul G) (hd : decode (jcc Y) pc = .ok (.aaload, 1)) (hin : vp_in i (jlen 4 c)) (hx : (M c i.toNatClampNeg).toNatClampNeg = n) (K : JQ G Y (pc + 1) ls (jr G n :: st) M Q) : JQ G Y pc ls (.int i :: jr G c :: st) M Q :=
  J.aald4 hd (jlen_in hG (by decide) (by decide) hin) hin (by rw [hx]; exact K)
theorem J.s4 {c n : Nat} {i : Int32} {m' : jMem} (hG : jFul G) (hd : decode (jcc Y) pc = .ok (.aastore, 1)) (hin : vp_in i (jlen 4 c)) (hn : jtk n) (hm : jup M c i.toNatClampNeg (Int32.ofNat n) = m') (K : JQ G Y (pc + 1) ls st m' Q) : JQ G Y pc ls (jr G n :: .int i :: jr G c :: st) M Q :=
  J.aast4 hd (jlen_in hG (by decide) (by decide) hin) hin hn (by rw [hm]; exact K)
theorem J.aln {c : Nat} {v : Int32} (hG : jFul G) (hd : decode (jcc Y) pc = .ok (.arraylength, 1)) (ht : jtag c = 1 ∨ jtag c = 2 ∨ jtag c = 4) (hv : Int32.ofNat (jpar c) = v) (K : JQ G Y (pc + 1) ls (.int v :: st) M Q) : JQ G Y pc ls (jr G c :: st) M Q :=
  J.alen (t := 0) (ty := .int) hd (jtag_inG hG (by rcases ht with h | h | h <;> rw [h] <;> decide) (by rcases ht with h | h | h <;> rw [h] <;> decide)) ht hv K
theorem J.cVi (Z : jY) {index c ci : Nat} {As rest : List Value} {r : Int32} {M1 : jMem} (hG : jFul G) (hd : decode (jcc Y) pc = .ok (.invokevirtual index, 3)) (hm : jMi (jy Z) (jcc Z) (jnL Z) (jret Z) As.length) (hv : jMv (jy Z)) (hlk : jLk (jy Y).cls index (jy Z)) (hz : jcs Z = 0 ∧ jss Z = 0 ∧ jd Z + 1 ≤ jd Y)
    (hc : jtag c = 0 ∧ jpar c = ci) (hcc : ∃ T N, jcl[ci]? = some ((jy Z).cls, T, N)) (hct : jCt G Z (jr G c :: As) M (jri (r, M1))) (hst : st = As.reverse ++ jr G c :: rest) (hrs : (rest.map fun v => v.category).sum ≤ 8) (K : JQ G Y (pc + 3) ls (.int r :: rest) M1 Q) : JQ G Y pc ls st M Q :=
  J.callV Z hd hm hv hlk hz ⟨(jtag_inG hG (by rw [hc.1]; decide) (by rw [hc.1]; decide)).1, (jtag_inG hG (by rw [hc.1]; decide) (by rw [hc.1]; decide)).2, hc.1, by rw [hc.2]; exact hcc⟩ hct hst hrs K
theorem J.cVv (Z : jY) {index c ci : Nat} {As rest : List Value} {r : Unit} {M1 : jMem} (hG : jFul G) (hd : decode (jcc Y) pc = .ok (.invokevirtual index, 3)) (hm : jMi (jy Z) (jcc Z) (jnL Z) (jret Z) As.length) (hv : jMv (jy Z)) (hlk : jLk (jy Y).cls index (jy Z)) (hz : jcs Z = 0 ∧ jss Z = 0 ∧ jd Z + 1 ≤ jd Y)
    (hc : jtag c = 0 ∧ jpar c = ci) (hcc : ∃ T N, jcl[ci]? = some ((jy Z).cls, T, N)) (hct : jCt G Z (jr G c :: As) M (jrv (r, M1))) (hst : st = As.reverse ++ jr G c :: rest) (hrs : (rest.map fun v => v.category).sum ≤ 8) (K : JQ G Y (pc + 3) ls rest M1 Q) : JQ G Y pc ls st M Q :=
  J.callV Z hd hm hv hlk hz ⟨(jtag_inG hG (by rw [hc.1]; decide) (by rw [hc.1]; decide)).1, (jtag_inG hG (by rw [hc.1]; decide) (by rw [hc.1]; decide)).2, hc.1, by rw [hc.2]; exact hcc⟩ hct hst hrs K
theorem J.cVr (Z : jY) {index c ci : Nat} {As rest : List Value} {r : Nat} {M1 : jMem} (hG : jFul G) (hd : decode (jcc Y) pc = .ok (.invokevirtual index, 3)) (hm : jMi (jy Z) (jcc Z) (jnL Z) (jret Z) As.length) (hv : jMv (jy Z)) (hlk : jLk (jy Y).cls index (jy Z)) (hz : jcs Z = 0 ∧ jss Z = 0 ∧ jd Z + 1 ≤ jd Y)
    (hc : jtag c = 0 ∧ jpar c = ci) (hcc : ∃ T N, jcl[ci]? = some ((jy Z).cls, T, N)) (hct : jCt G Z (jr G c :: As) M (jrr G (r, M1))) (hst : st = As.reverse ++ jr G c :: rest) (hrs : (rest.map fun v => v.category).sum ≤ 8) (K : JQ G Y (pc + 3) ls (jr G r :: rest) M1 Q) : JQ G Y pc ls st M Q :=
  J.callV Z hd hm hv hlk hz ⟨(jtag_inG hG (by rw [hc.1]; decide) (by rw [hc.1]; decide)).1, (jtag_inG hG (by rw [hc.1]; decide) (by rw [hc.1]; decide)).2, hc.1, by rw [hc.2]; exact hcc⟩ hct hst hrs K
theorem J.cSi (Z : jY) {index : Nat} {As rest : List Value} {r : Int32} {M1 : jMem} (hd : decode (jcc Y) pc = .ok (.invokestatic index, 3)) (hm : jMi (jy Z) (jcc Z) (jnL Z) (jret Z) As.length) (hv : jMs (jy Z)) (hlk : jLk (jy Y).cls index (jy Z)) (hz : jcs Z = 0 ∧ jss Z = 0 ∧ jd Z + 1 ≤ jd Y)
    (hct : jCt G Z As M (jri (r, M1))) (hst : st = As.reverse ++ rest) (hrs : (rest.map fun v => v.category).sum ≤ 8) (K : JQ G Y (pc + 3) ls (.int r :: rest) M1 Q) : JQ G Y pc ls st M Q :=
  J.callS Z hd hm hv hlk hz hct hst hrs K
theorem jnar_z {x : Int32} (h : x = 0 ∨ x = 1) : narrow .boolean (.int x) = .int x := by rcases h with rfl | rfl <;> rfl
theorem jts0 {x : Int32} {n : Nat} (hn : n < 1000) (h : ∀ k, k < n → ¬ x = Int32.ofNat k) : x.toInt < 0 ∨ ((n : Int) - 1) < x.toInt := by
  rcases Int.lt_or_le x.toInt 0 with q | q
  · exact Or.inl q
  · refine Or.inr (Int.not_le.mp fun e => ?_)
    have h1 : x = Int32.ofNat x.toInt.toNat := by
      apply Int32.toInt_inj.mp
      show _ = (nI x.toInt.toNat).toInt
      rw [nI_toInt (by omega)]
      omega
    exact h x.toInt.toNat (by omega) h1
end JW
