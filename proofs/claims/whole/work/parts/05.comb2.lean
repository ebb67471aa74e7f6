theorem jw_l {ws : List Cond} (ps : List Nat) (hp : ws = ps.filterMap (fun i => tables_1[i]?)) (h : ws.all goodWord = true) : ∀ w ∈ ws, w ∈ jw := by
  intro w hw
  have h1 := List.all_eq_true.mp h w hw
  rw [hp] at hw
  obtain ⟨i, -, hi⟩ := List.mem_filterMap.mp hw
  exact jw_t i hi h1
def jmin (x y : Int32) : Int32 := if y < x then y else x
def jmax (x y : Int32) : Int32 := if x < y then y else x
def jushr (x y : Int32) : Int32 := (x.toUInt32 >>> (y.toUInt32 &&& Int32.toUInt32 31)).toInt32
/-- one of the two objects of the class of texts -/
abbrev jhok (n : Nat) : Prop := n = 3 ∨ n = 12
theorem jhok_q {n : Nat} (h : jhok n) : jtag n = 0 ∧ jpar n = 1 := by rcases h with rfl | rfl <;> exact ⟨rfl, rfl⟩
theorem jhok_I {n : Nat} (h : jhok n) (k : Nat) (hk : jkd 1 k = 0) : jtag n = 0 ∧ jpar n = 1 ∧ jkd 1 k = 0 := ⟨(jhok_q h).1, (jhok_q h).2, hk⟩
theorem jhok_F {n : Nat} (h : jhok n) (k : Nat) (hk : jkd 1 k = 1) : jtag n = 0 ∧ jpar n = 1 ∧ jkd 1 k = 1 := ⟨(jhok_q h).1, (jhok_q h).2, hk⟩
theorem jhok_fx {n : Nat} (h : jhok n) (k off : Nat) (h1 : jfx 3 k = 3 + off) (h2 : jfx 12 k = 12 + off) : jfx n k = n + off := by
  rcases h with rfl | rfl
  · exact h1
  · exact h2
/-- a copied piece of a row of numbers -/
def jcpM (M : jMem) (a : Nat) (sp : Int32) (b : Nat) (dp n : Int32) : jMem := fun c' => if c' = b then va_cpy (M a) (M b) sp.toNatClampNeg dp.toNatClampNeg n.toNatClampNeg else M c'
def jcpok (a : Nat) (sp : Int32) (b : Nat) (dp n : Int32) : Prop := ¬ sp < 0 ∧ ¬ dp < 0 ∧ ¬ n < 0 ∧ sp.toNatClampNeg + n.toNatClampNeg ≤ jlen 1 a ∧ dp.toNatClampNeg + n.toNatClampNeg ≤ jlen 1 b ∧ jtag a = 1 ∧ jtag b = 1
def jcp {ρ : Type} (M : jMem) (a : Nat) (sp : Int32) (b : Nat) (dp n : Int32) (K : jMem → Option ρ) : Option ρ := if ¬ sp < 0 ∧ ¬ dp < 0 ∧ ¬ n < 0 ∧ sp.toNatClampNeg + n.toNatClampNeg ≤ jlen 1 a ∧ dp.toNatClampNeg + n.toNatClampNeg ≤ jlen 1 b ∧ jtag a = 1 ∧ jtag b = 1 then K (jcpM M a sp b dp n) else none
theorem jcp_some {ρ : Type} {M : jMem} {a : Nat} {sp : Int32} {b : Nat} {dp n : Int32} {K : jMem → Option ρ} {r : ρ} (h : jcp M a sp b dp n K = some r) : ∃ m, jcpM M a sp b dp n = m ∧ jcpok a sp b dp n ∧ K m = some r := by
  unfold jcp at h
  split at h
  · exact ⟨_, rfl, by assumption, h⟩
  · cases h
theorem jts1 {x : Int32} {n : Nat} (hn : n < 1000) (h : ∀ k, k < n → ¬ x = Int32.ofNat (k + 1)) : x.toInt < 1 ∨ (n : Int) < x.toInt := by
  rcases Int.lt_or_le x.toInt 1 with q | q
  · exact Or.inl q
  · refine Or.inr (Int.not_le.mp fun e => ?_)
    have h1 : x = Int32.ofNat (x.toInt.toNat - 1 + 1) := by
      apply Int32.toInt_inj.mp
      show _ = (nI (x.toInt.toNat - 1 + 1)).toInt
      rw [nI_toInt (by omega)]
      omega
    exact h (x.toInt.toNat - 1) (by omega) h1
section JW2
variable {G : jG} {Y : jY} {pc : Nat} {ls : List (Nat × Value)} {st : List Value} {M : jMem} {Q : jQT} {R : jRes}
theorem J.mn {x y : Int32} {index : Nat} (hd : decode (jcc Y) pc = .ok (.invokestatic index, 3)) (hlk : Cond.methodLink (jy Y).cls index Lib.Math.min.name ∈ jw) (hs : Cond.static Lib.Math.min.name ∈ jw) (hi : Cond.initialized "java/lang/Math" ∈ jw) (hc : Cond.code Lib.Math.min.name Lib.Math.min.code 2 (some .int) ∈ jw) (hrs : (st.map fun v => v.category).sum ≤ 8) (K : JQ G Y (pc + 3) ls (.int (jmin x y) :: st) M Q) : JQ G Y pc ls (.int y :: .int x :: st) M Q := J.mmin hd hlk hs hi hc hrs K
theorem J.mx {x y : Int32} {index : Nat} (hd : decode (jcc Y) pc = .ok (.invokestatic index, 3)) (hlk : Cond.methodLink (jy Y).cls index Lib.Math.max.name ∈ jw) (hs : Cond.static Lib.Math.max.name ∈ jw) (hi : Cond.initialized "java/lang/Math" ∈ jw) (hc : Cond.code Lib.Math.max.name Lib.Math.max.code 2 (some .int) ∈ jw) (hrs : (st.map fun v => v.category).sum ≤ 8) (K : JQ G Y (pc + 3) ls (.int (jmax x y) :: st) M Q) : JQ G Y pc ls (.int y :: .int x :: st) M Q := J.mmax hd hlk hs hi hc hrs K
theorem J.ushr {x y : Int32} (hd : decode (jcc Y) pc = .ok (.iushr, 1)) (K : JQ G Y (pc + 1) ls (.int (jushr x y) :: st) M Q) : JQ G Y pc ls (.int y :: .int x :: st) M Q := J.iushr hd K
theorem J.ldcwi {index : Nat} {v : Int32} (hd : decode (jcc Y) pc = .ok (.ldc_w index, 3)) (hc : Cond.constant (jy Y).cls index v ∈ jw) (K : JQ G Y (pc + 3) ls (.int v :: st) M Q) : JQ G Y pc ls st M Q := by
  intro p e s m args below meth c H locs la rm F hF hW hS hl
  exact lv_ldcw F.1 F.2.1 F.2.2.2.1 (F.2.2.2.2.1 _ hc) hd (K p e s m args below meth c H locs la rm F hF hW hS hl)
def jAcp (own : String) (index : Nat) : Prop := Cond.methodLink own index arraycopyName ∈ jw ∧ Cond.native arraycopyName ∈ jw ∧ Cond.static arraycopyName ∈ jw ∧ Cond.initialized "java/lang/System" ∈ jw
theorem J.acp {index a b : Nat} {sp dp n : Int32} {m' : jMem} (hG : jFul G) (hd : decode (jcc Y) pc = .ok (.invokestatic index, 3)) (hl0 : jAcp (jy Y).cls index) (hk : jcpok a sp b dp n) (hm : jcpM M a sp b dp n = m') (hrs : (st.map fun v => v.category).sum ≤ 8) (K : JQ G Y (pc + 3) ls st m' Q) : JQ G Y pc ls (.int n :: .int dp :: jr G b :: .int sp :: jr G a :: st) M Q := by
  intro p e s m args below meth c H locs la rm F hF hW hS hl
  obtain ⟨h1, h2, h3, h4, h5, h6, h7⟩ := hk
  obtain ⟨w1, w2, w3, w4⟩ := hl0
  have ia := jtag_inG hG (c := a) (by rw [h6]; decide) (by rw [h6]; decide)
  have ib := jtag_inG hG (c := b) (by rw [h7]; decide) (by rw [h7]; decide)
  rw [jr_pos ia.1, jr_pos ib.1]
  have ea := jwl_at (M := M) ia.1 ia.2
  have eb := jwl_at (M := M) ib.1 ib.2
  rw [jent_arr1 h6] at ea
  rw [jent_arr1 h7] at eb
  unfold jlen at h4 h5
  rw [if_pos h6] at h4
  rw [if_pos h7] at h5
  have hts := F.2.2.2.2.1
  refine va_copyi F.1 F.2.1 (F.2.2.1.trans hl.1.symm) F.2.2.2.1 (hts _ w1) (hts _ w2) (hts _ w3) (hts _ w4) F.K hW.1 (jwl_D F.gl) hS (a - 1) (b - 1) 0 0 ea eb rfl rfl rfl h1 h2 h3 h4 h5 (fun i _ => rfl) (by have := hF.1; omega) ?_ hd (fun H1 locs1 a1 a2 a3 => ?_)
  · have h9 : nativeFrameWords "java/lang/System" "arraycopy" 5 ≤ 40 := by decide
    have := hF.2.2.2
    omega
  · rw [jwl_set (M' := m') ib.1 ?_ (fun c' hc' => jent_ne ?_)] at a1
    · exact K p e s m args below meth c H1 locs1 la rm F hF (hW.upd F.2.2.2.2.2.2.2.2.1 hS a1 a3) a3 hl
    · rw [jent_arr1 h7, ← hm]
      unfold jcpM
      rw [if_pos rfl]
    · rw [← hm]
      unfold jcpM
      rw [if_neg hc']
end JW2
theorem jlso {ps : List (Int × Int)} {dflt : Int} {x : Int32} (ks : List Int32) (hk : ps.map (fun q => q.1) = ks.map (fun k => k.toInt)) (h : x ∉ ks) : Op.lookupswitch.offset ps dflt x.toInt = dflt := by
  induction ps generalizing ks with
  | nil => rfl
  | cons p r ih =>
    cases ks with
    | nil => cases hk
    | cons k ks =>
      obtain ⟨a, b⟩ := p
      rw [List.map_cons, List.map_cons] at hk
      have h1 : a = k.toInt := (List.cons.inj hk).1
      have hne : ¬ a = x.toInt := fun e => h (by rw [show x = k from Int32.toInt_inj.mp (by rw [← e, h1])]; exact List.mem_cons_self)
      rw [Op.lookupswitch.offset_cons, if_neg hne]
      exact ih ks (List.cons.inj hk).2 (fun q => h (List.mem_cons_of_mem _ q))
/-- a call's arguments as the method's first locals -/
def jAv (i : Nat) (av : List Value) (ls : List (Nat × Value)) : Prop := lv_args i av = ls ∧ (lg_sl av).length = ls.length
theorem jAvN {i : Nat} : jAv i [] [] := ⟨rfl, rfl⟩
theorem jAvI {i : Nat} {x : Int32} {av : List Value} {ls : List (Nat × Value)} (h : jAv (i + 1) av ls) : jAv i (.int x :: av) ((i, .int x) :: ls) := by
  obtain ⟨h1, h2⟩ := h
  refine ⟨?_, ?_⟩
  · rw [← h1]; rfl
  · rw [List.length_cons, ← h2]; rfl
theorem jAvR {G : jG} {i n : Nat} {av : List Value} {ls : List (Nat × Value)} (h : jAv (i + 1) av ls) : jAv i (jr G n :: av) ((i, jr G n) :: ls) := by
  obtain ⟨h1, h2⟩ := h
  have hc := jr_cat G n
  refine ⟨?_, ?_⟩
  · rw [← h1, lv_args, if_neg (by rw [hc]; decide)]
  · rw [List.length_cons, ← h2]
    unfold lg_sl
    rw [List.flatMap_cons, if_neg (by rw [hc]; decide)]
    simp
theorem jCt.of2 {G : jG} {Y : jY} {M : jMem} {Q : jQT} {R : jRes} {av : List Value} {ls : List (Nat × Value)} {n : Nat} (hm : jMi (jy Y) (jcc Y) (jnL Y) (jret Y) n) (ha : jAv 0 av ls) (hlen : ls.length ≤ jnL Y) (h : J G Y 0 ls [] M R) (hz : jcs Y = 0 ∧ jss Y = 0) : jCt G Y av M R :=
  jCt.of hm (by rw [ha.2]; exact hlen) (by rw [ha.1]; exact h) hz
def jca (ls : List (Nat × Value)) : Prop := ∀ q ∈ ls, q.2.category = 1
theorem jcaN : jca [] := fun q h => by cases h
theorem jcaI {i : Nat} {x : Int32} {ls : List (Nat × Value)} (h : jca ls) : jca ((i, .int x) :: ls) := fun q hq => by
  rcases List.mem_cons.mp hq with rfl | hq
  · rfl
  · exact h q hq
theorem jcaR {G : jG} {i n : Nat} {ls : List (Nat × Value)} (h : jca ls) : jca ((i, jr G n) :: ls) := fun q hq => by
  rcases List.mem_cons.mp hq with rfl | hq
  · exact jr_cat G n
  · exact h q hq
theorem jfil {ls lv : List (Nat × Value)} {i : Nat} {v : Value} (h : (i, v) :: ls.filter (fun q => !(q.1 == i)) = lv) (hc : jca ls) : (i, v) :: ls.filter (fun q => !(q.1 == i) && !(q.1 + 1 == i && q.2.category == 2)) = lv := by
  rw [← h]
  congr 1
  apply List.filter_congr
  intro q hq
  rw [hc q hq]
  simp
