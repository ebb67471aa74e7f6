/-! how the two objects stand to each other -/
def RLl (m : jMem) (l : Nat) : Prop :=
  (∃ w, w < 6 ∧ m 30 l = nI w) ∧ (∃ d, d ≤ 999 ∧ m 31 l = nI d) ∧ (∃ k, k ≤ 2 ∧ m 32 l = nI k) ∧
  (∀ w, w < 6 → m 30 l = nI w → bt (m 33 l) w = false) ∧
  oI (m 34 l) l ∧ oI (m 35 l) l ∧ (m 34 l = nM → m 35 l = nM) ∧ (m 35 l ≠ nM → m 35 l ≠ m 34 l) ∧ (m 32 l = nI 2 → m 34 l ≠ nM) ∧
  (∀ j, bt (m 36 l) j = true → j < l) ∧
  m 37 l = m 36 l ||| aO (bt (m 36 l)) (m 37) l ∧
  m 38 l = ansS (m 34 l) (m 35 l) ||| aO (bt (ansS (m 34 l) (m 35 l))) (m 38) l ∧
  m 39 l = m 37 l &&& (aO (bt (m 37 l)) (m 37) l ^^^ nM) ∧
  m 40 l = m 39 l ||| aO (bt (m 39 l)) (m 40) l ∧
  (∃ s, s ≤ l + 1 ∧ m 41 l = nI s ∧ s = 1 + mxS (bt (m 37 l)) (fun x => (m 41 x).toNatClampNeg) l)
def RL2 (N : Nat) (m M : jMem) : Prop :=
  N ≤ 30 ∧ m 29 15 = nI N ∧ M 109 33 = nI N ∧
  (M 121 = m 30 ∧ M 122 = m 31 ∧ M 123 = m 32 ∧ M 124 = m 33 ∧ M 125 = m 34 ∧ M 126 = m 35 ∧ M 127 = m 36 ∧ M 128 = m 37) ∧
  (∀ l, l < N → RLl m l) ∧
  (∀ w, w < 6 → ∀ j, bt (m 42 w) j = true ↔ j < N ∧ m 30 j = nI w) ∧
  (∀ w, w < 6 → ∀ j, bt (m 43 w) j = true ↔ j < N ∧ bt (m 33 j) w = true)
def RL (N : Nat) (m : jMem) : Prop := RL2 N m m
def RB2 (N : Nat) (m M : jMem) : Prop :=
  ∃ b, M 109 43 = nI b ∧ b + pcnt (m 29 16) = N ∧ (∀ j, bt (m 29 16) j = true → j < N) ∧ ∀ j, j < N → M 129 j = tI (!bt (m 29 16) j)
def RB (N : Nat) (m : jMem) : Prop := RB2 N m m
def RT2 (m M : jMem) : Prop := ∃ t, t ≤ 400 ∧ m 1 1 = nI t ∧ M 109 2 = nI t ∧ M 110 = m 2 ∧ ∀ i, ∃ b, b < 256 ∧ m 2 i = nI b
def RT (m : jMem) : Prop := RT2 m m
def RD2 (m M : jMem) : Prop := ∃ d, d ≤ 999 ∧ m 1 6 = nI d ∧ M 109 31 = nI d
def RD (m : jMem) : Prop := RD2 m m
/-- the least sums of ways, in place -/
def fl1 (by_ u : Nat) (L : Nat → Nat → Nat) : Nat → Nat → Nat → Nat
  | 0 => L
  | v + 1 => fun a b => if a = u ∧ b = v then min (fl1 by_ u L v u v) (fl1 by_ u L v u by_ + fl1 by_ u L v by_ v) else fl1 by_ u L v a b
def fl2 (by_ : Nat) (L : Nat → Nat → Nat) : Nat → Nat → Nat → Nat
  | 0 => L
  | u + 1 => fl1 by_ u (fl2 by_ L u) 6
def fl3 (L : Nat → Nat → Nat) : Nat → Nat → Nat → Nat
  | 0 => L
  | k + 1 => fl2 k (fl3 L k) 6
def RW2 (m M : jMem) : Prop :=
  ∃ W : Nat → Nat → Nat, (∀ a, a < 6 → ∀ b, b < 6 → W a b ≤ 30 ∧ M 120 (6 * a + b) = nI (W a b) ∧ m (47 + a) b = nI (W a b) ∧ m (54 + a) b = nI (fl3 W 6 a b)) ∧ ∀ a, a < 6 → W a a = 0
def RW (m : jMem) : Prop := RW2 m m
def RS2 (m M : jMem) : Prop := M 109 50 = m 45 2 ∧ ∃ a b, a ≤ 998 ∧ b ≤ 998 ∧ m 45 3 = nI a ∧ M 109 51 = nI a ∧ m 45 4 = nI b ∧ M 109 52 = nI b
def RS (m : jMem) : Prop := RS2 m m
def RC2 (N C : Nat) (m M : jMem) : Prop :=
  C ≤ 150 ∧ m 45 10 = nI C ∧ M 109 44 = nI C ∧ (M 130 = m 60 ∧ M 131 = m 61 ∧ M 132 = m 62 ∧ M 133 = m 63 ∧ M 134 = m 64) ∧
  ∀ c, c < C → (∃ l, l < N ∧ m 60 c = nI l) ∧ (∃ w, w < 6 ∧ m 61 c = nI w) ∧ (∃ w, w < 6 ∧ m 62 c = nI w) ∧ (∃ d, d ≤ 1100 ∧ m 63 c = nI d) ∧ (∃ s, s ≤ 2 ∧ m 64 c = nI s)
def RC (N C : Nat) (m : jMem) : Prop := RC2 N C m m
def RKw2 (N : Nat) (m M : jMem) (w : Nat) : Prop :=
  M 135 w = m 42 w ||| m 75 w ∧ (∀ j, bt (m 75 w) j = true → j < N ∧ ¬ m 30 j = nI w) ∧
  ∀ l, l < N → M 136 (30 * w + l) = (if m 30 l = nI w then m 31 l else if bt (m 75 w) l then m (77 + w) l else nM) ∧ (bt (m 75 w) l = true → ∃ d, d ≤ 999 ∧ m (77 + w) l = nI d)
def RK2 (N : Nat) (m M : jMem) : Prop := (∀ w, w < 6 → RKw2 N m M w) ∧ M 109 57 = nI (fb_sm (fun w => pcnt (m 75 w)) 6)
def RK (N : Nat) (m : jMem) : Prop := RK2 N m m
def RHw2 (N : Nat) (m M : jMem) (w : Nat) : Prop :=
  ∃ c, c ≤ N ∧ m 73 w = nI c ∧ M 138 w = nI c ∧ (∀ k, k < c → M 137 (30 * w + k) = m (67 + w) k ∧ ∃ l, l < N ∧ m (67 + w) k = nI l ∧ bt (m 75 w) l = false ∧ ¬ m 30 l = nI w) ∧
    (∀ i j, i < j → j < c → ¬ m (67 + w) i = m (67 + w) j) ∧ (∀ j, j < 32 → (bt (m 74 w) j = true ↔ ∃ k, k < c ∧ m (67 + w) k = nI j))
def RH2 (N : Nat) (m M : jMem) : Prop := ∀ w, w < 6 → RHw2 N m M w
def RH (N : Nat) (m : jMem) : Prop := RH2 N m m
def RP2 (N : Nat) (m M : jMem) : Prop :=
  ∃ p, p ≤ 12 ∧ m 89 3 = nI p ∧ M 109 64 = nI p ∧ M 144 = m 90 ∧ M 145 = m 91 ∧ ∀ k, k < p → (∃ a, a < N ∧ m 90 k = nI a) ∧ (∃ b, b < N ∧ m 91 k = nI b)
def RP (N : Nat) (m : jMem) : Prop := RP2 N m m
/-- a knot as the class has it, and as the reference -/
def sgnV (t : Nat) : Nat := if t = 1023 then 262 else if t = 1024 then 261 else if t = 1025 then 260 else if t = 1026 then 60 else if t = 1027 then 256 else if t = 1028 then 61 else if t = 1029 then 257 else if t = 1030 then 258 else if t = 1031 then 62 else if t = 1032 then 43 else 45
def knR (tok worth sort val : Int32) : Prop :=
  (∃ v, v ≤ 999 ∧ tok = nI 1003 ∧ worth = nI v ∧ sort = nI 0 ∧ val = nI v) ∨ (∃ i, i < 7 ∧ tok = nI (1016 + i) ∧ sort = nI 1 ∧ val = nI i) ∨ (∃ t, 1023 ≤ t ∧ t ≤ 1033 ∧ tok = nI t ∧ sort = nI 2 ∧ val = nI (sgnV t))
/-- how many values stand after the knots from b on -/
def dpS (f : Nat → Int32) (b : Nat) : Nat → Nat
  | 0 => 0
  | k + 1 => if f (b + k) = nI 1025 then dpS f b k else if nI 1023 ≤ f (b + k) then dpS f b k - 1 else dpS f b k + 1
/-- no knot finds too few values -/
def dpOK (f : Nat → Int32) (b k : Nat) : Prop := ∀ i, i < k → (f (b + i) = nI 1025 → 1 ≤ dpS f b i) ∧ (¬ f (b + i) = nI 1025 → nI 1023 ≤ f (b + i) → 2 ≤ dpS f b i)
def RXh2 (m M : jMem) (hb h : Nat) : Prop :=
  (∀ w, w < 6 → (bt (m (hb + 3) h) w = true ↔ M 114 h = nI 0 ∨ bt (M 114 h) w = true)) ∧ (∃ z, m (hb + 2) h = tI z ∧ M 113 h = tI z) ∧
  ∃ b e, b ≤ e ∧ e ≤ 64 ∧ m (hb + 4) h = nI b ∧ M 115 h = nI b ∧ m (hb + 5) h = nI e ∧ M 115 (h + 1) = nI e ∧
    (∀ k, b ≤ k → k < e → knR (m (hb + 6) k) (m (hb + 7) k) (M 111 k) (M 112 k)) ∧ dpOK (m (hb + 6)) b (e - b) ∧ dpS (m (hb + 6)) b (e - b) = 1
def RX2 (m M : jMem) : Prop :=
  ∃ hb hd, ((hb = 3 ∧ hd = 12) ∨ (hb = 12 ∧ hd = 3)) ∧ m 1 2 = nI hb ∧ m 1 3 = nI hd ∧ M 109 23 = m 21 4 ∧ M 109 24 = m 21 5 ∧ M 109 6 = m hb 11 ∧
    (∀ w, w < 6 → ∃ r, r ≤ 4 ∧ M 116 w = nI r ∧ (if bt (m hb 1) w = true then m (hb + 1) w = nI (1011 + r) else r = 1)) ∧
    ∃ H, H ≤ 8 ∧ m hb 7 = nI H ∧ M 109 11 = nI H ∧ ∀ h, h < H → RXh2 m M hb h
def RX (m : jMem) : Prop := RX2 m m
/-- all of it -/
def Rel (N C : Nat) (m : jMem) : Prop := RL N m ∧ RB N m ∧ RT m ∧ RD m ∧ RW m ∧ RS m ∧ RC N C m ∧ RK N m ∧ RH N m ∧ RP N m ∧ RX m
/-- what the relation looks at -/
def Wscr : List (Nat × Nat) := [(44, 0), (85, 0), (86, 0), (87, 0), (88, 0), (89, 7), (92, 0), (93, 0), (94, 0), (95, 0), (97, 0), (98, 0), (99, 0), (100, 0), (101, 0), (102, 0), (103, 0), (104, 0), (105, 0), (106, 0), (107, 0), (108, 0), (109, 1), (109, 63), (109, 68), (139, 0), (140, 0), (141, 0), (142, 0), (143, 0), (146, 0), (147, 0), (148, 0)]
theorem scr_row {m m' : jMem} (h : jfr Wscr m m') {c : Nat} (hc : (Wscr.all fun q => !(q.1 == c)) = true) : m' c = m c := by
  funext k
  refine h c k ?_
  unfold jfo
  rw [List.all_eq_true] at hc ⊢
  intro q hq
  have h1 := hc q hq
  cases h2 : (q.1 == c)
  · rfl
  · rw [h2] at h1; exact absurd h1 (by decide)
theorem scr_at {m m' : jMem} (h : jfr Wscr m m') {c k : Nat} (hc : jfo Wscr c k = true) : m' c k = m c k := h c k hc
theorem RLl_cong {m m' : jMem} {l : Nat} (h : ∀ c, 30 ≤ c → c ≤ 41 → m' c = m c) (r : RLl m l) : RLl m' l := by
  unfold RLl
  rw [h 30 (by omega) (by omega), h 31 (by omega) (by omega), h 32 (by omega) (by omega), h 33 (by omega) (by omega), h 34 (by omega) (by omega), h 35 (by omega) (by omega), h 36 (by omega) (by omega), h 37 (by omega) (by omega), h 38 (by omega) (by omega), h 39 (by omega) (by omega), h 40 (by omega) (by omega), h 41 (by omega) (by omega)]
  exact r
theorem RL_cong {N : Nat} {m m' : jMem} (h0 : m' 29 15 = m 29 15) (h1 : m' 109 33 = m 109 33) (h : ∀ c, 30 ≤ c → c ≤ 43 → m' c = m c) (h2 : ∀ c, 121 ≤ c → c ≤ 128 → m' c = m c) (r : RL N m) : RL N m' := by
  obtain ⟨r1, r2, r3, ⟨r4, r5, r6, r7, r8, r9, r10, r11⟩, r12, r13, r14⟩ := r
  refine ⟨r1, h0.trans r2, h1.trans r3, ⟨?_, ?_, ?_, ?_, ?_, ?_, ?_, ?_⟩, fun l hl => RLl_cong (fun c a b => h c a (by omega)) (r12 l hl), fun w hw j => ?_, fun w hw j => ?_⟩
  · rw [h2 121 (by omega) (by omega), h 30 (by omega) (by omega)]; exact r4
  · rw [h2 122 (by omega) (by omega), h 31 (by omega) (by omega)]; exact r5
  · rw [h2 123 (by omega) (by omega), h 32 (by omega) (by omega)]; exact r6
  · rw [h2 124 (by omega) (by omega), h 33 (by omega) (by omega)]; exact r7
  · rw [h2 125 (by omega) (by omega), h 34 (by omega) (by omega)]; exact r8
  · rw [h2 126 (by omega) (by omega), h 35 (by omega) (by omega)]; exact r9
  · rw [h2 127 (by omega) (by omega), h 36 (by omega) (by omega)]; exact r10
  · rw [h2 128 (by omega) (by omega), h 37 (by omega) (by omega)]; exact r11
  · rw [h 42 (by omega) (by omega), h 30 (by omega) (by omega)]; exact r13 w hw j
  · rw [h 43 (by omega) (by omega), h 33 (by omega) (by omega)]; exact r14 w hw j
theorem RB_cong {N : Nat} {m m' : jMem} (h0 : m' 29 16 = m 29 16) (h1 : m' 109 43 = m 109 43) (h2 : m' 129 = m 129) (r : RB N m) : RB N m' := by
  unfold RB RB2
  rw [h0, h1, h2]
  exact r
theorem RT_cong {m m' : jMem} (h0 : m' 1 1 = m 1 1) (h1 : m' 109 2 = m 109 2) (h2 : m' 2 = m 2) (h3 : m' 110 = m 110) (r : RT m) : RT m' := by
  unfold RT RT2
  rw [h0, h1, h2, h3]
  exact r
theorem RD_cong {m m' : jMem} (h0 : m' 1 6 = m 1 6) (h1 : m' 109 31 = m 109 31) (r : RD m) : RD m' := by
  unfold RD RD2
  rw [h0, h1]
  exact r
theorem RW_cong {m m' : jMem} (h0 : m' 120 = m 120) (h1 : ∀ c, 47 ≤ c → c ≤ 59 → m' c = m c) (r : RW m) : RW m' := by
  obtain ⟨W, r1, r2⟩ := r
  refine ⟨W, fun a ha b hb => ?_, r2⟩
  rw [h0, h1 (47 + a) (by omega) (by omega), h1 (54 + a) (by omega) (by omega)]
  exact r1 a ha b hb
theorem RS_cong {m m' : jMem} (h0 : m' 45 2 = m 45 2) (h1 : m' 45 3 = m 45 3) (h2 : m' 45 4 = m 45 4) (h3 : m' 109 50 = m 109 50) (h4 : m' 109 51 = m 109 51) (h5 : m' 109 52 = m 109 52) (r : RS m) : RS m' := by
  unfold RS RS2
  rw [h0, h1, h2, h3, h4, h5]
  exact r
theorem RC_cong {N C : Nat} {m m' : jMem} (h0 : m' 45 10 = m 45 10) (h1 : m' 109 44 = m 109 44) (h2 : ∀ c, 60 ≤ c → c ≤ 64 → m' c = m c) (h3 : ∀ c, 130 ≤ c → c ≤ 134 → m' c = m c) (r : RC N C m) : RC N C m' := by
  unfold RC RC2
  rw [h0, h1, h2 60 (by omega) (by omega), h2 61 (by omega) (by omega), h2 62 (by omega) (by omega), h2 63 (by omega) (by omega), h2 64 (by omega) (by omega), h3 130 (by omega) (by omega), h3 131 (by omega) (by omega), h3 132 (by omega) (by omega), h3 133 (by omega) (by omega), h3 134 (by omega) (by omega)]
  exact r
theorem RK_cong {N : Nat} {m m' : jMem} (h0 : m' 30 = m 30) (h1 : m' 31 = m 31) (h2 : m' 42 = m 42) (h3 : m' 75 = m 75) (h4 : ∀ c, 77 ≤ c → c ≤ 82 → m' c = m c) (h5 : m' 135 = m 135) (h6 : m' 136 = m 136) (h7 : m' 109 57 = m 109 57) (r : RK N m) : RK N m' := by
  obtain ⟨r1, r2⟩ := r
  refine ⟨fun w hw => ?_, by rw [h7, h3]; exact r2⟩
  unfold RKw2
  rw [h0, h1, h2, h3, h4 (77 + w) (by omega) (by omega), h5, h6]
  exact r1 w hw
theorem RH_cong {N : Nat} {m m' : jMem} (h0 : m' 30 = m 30) (h1 : ∀ c, 67 ≤ c → c ≤ 75 → m' c = m c) (h2 : m' 137 = m 137) (h3 : m' 138 = m 138) (r : RH N m) : RH N m' := by
  intro w hw
  have r1 := r w hw
  unfold RHw2 at r1 ⊢
  rw [h0, h1 73 (by omega) (by omega), h1 74 (by omega) (by omega), h1 75 (by omega) (by omega), h1 (67 + w) (by omega) (by omega), h2, h3]
  exact r1
theorem RP_cong {N : Nat} {m m' : jMem} (h0 : m' 89 3 = m 89 3) (h1 : m' 109 64 = m 109 64) (h2 : m' 90 = m 90) (h3 : m' 91 = m 91) (h4 : m' 144 = m 144) (h5 : m' 145 = m 145) (r : RP N m) : RP N m' := by
  unfold RP RP2
  rw [h0, h1, h2, h3, h4, h5]
  exact r
theorem RX_cong {m m' : jMem} (h0 : m' 1 2 = m 1 2) (h1 : m' 1 3 = m 1 3) (h2 : m' 109 23 = m 109 23) (h3 : m' 21 4 = m 21 4) (h4 : m' 109 24 = m 109 24) (h5 : m' 21 5 = m 21 5) (h6 : m' 109 6 = m 109 6) (h7 : m' 109 11 = m 109 11) (h8 : ∀ c, 3 ≤ c → c ≤ 19 → c ≠ 11 → m' c = m c) (h9 : ∀ c, 111 ≤ c → c ≤ 116 → m' c = m c) (r : RX m) : RX m' := by
  obtain ⟨hb, hd, r0, r1, r2, r3, r4, r5, r6, H, r7, r8, r9, r10⟩ := r
  have hr : ∀ k, k ≤ 7 → m' (hb + k) = m (hb + k) := fun k hk => h8 _ (by omega) (by omega) (by omega)
  refine ⟨hb, hd, r0, h0.trans r1, h1.trans r2, by rw [h2, h3]; exact r3, by rw [h4, h5]; exact r4, by rw [h6, show m' hb = m hb from hr 0 (by omega)]; exact r5, fun w hw => ?_, H, r7, by rw [show m' hb = m hb from hr 0 (by omega)]; exact r8, h7.trans r9, fun h hh => ?_⟩
  · rw [h9 116 (by omega) (by omega), show m' hb = m hb from hr 0 (by omega), hr 1 (by omega)]
    exact r6 w hw
  · have := r10 h hh
    unfold RXh2 at this ⊢
    rw [hr 3 (by omega), hr 2 (by omega), hr 4 (by omega), hr 5 (by omega), hr 6 (by omega), hr 7 (by omega), h9 114 (by omega) (by omega), h9 113 (by omega) (by omega), h9 115 (by omega) (by omega), h9 111 (by omega) (by omega), h9 112 (by omega) (by omega)]
    exact this
theorem Rel_scr {N C : Nat} {m m' : jMem} (h : jfr Wscr m m') (r : Rel N C m) : Rel N C m' := by
  obtain ⟨r1, r2, r3, r4, r5, r6, r7, r8, r9, r10, r11⟩ := r
  have hr : ∀ a b : Nat, ((List.range (b - a + 1)).all fun i => Wscr.all fun q => !(q.1 == a + i)) = true → ∀ c, a ≤ c → c ≤ b → m' c = m c := fun a b hh c h1 h2 => by
    have h3 := List.all_eq_true.mp hh (c - a) (List.mem_range.mpr (by omega))
    rw [show a + (c - a) = c by omega] at h3
    exact scr_row h h3
  refine ⟨RL_cong (h _ _ rfl) (h _ _ rfl) (hr 30 43 rfl) (hr 121 128 rfl) r1, RB_cong (h _ _ rfl) (h _ _ rfl) (scr_row h rfl) r2, RT_cong (h _ _ rfl) (h _ _ rfl) (scr_row h rfl) (scr_row h rfl) r3, RD_cong (h _ _ rfl) (h _ _ rfl) r4, RW_cong (scr_row h rfl) (hr 47 59 rfl) r5, RS_cong (h _ _ rfl) (h _ _ rfl) (h _ _ rfl) (h _ _ rfl) (h _ _ rfl) (h _ _ rfl) r6, RC_cong (h _ _ rfl) (h _ _ rfl) (hr 60 64 rfl) (hr 130 134 rfl) r7, RK_cong (scr_row h rfl) (scr_row h rfl) (scr_row h rfl) (scr_row h rfl) (hr 77 82 rfl) (scr_row h rfl) (scr_row h rfl) (h _ _ rfl) r8, RH_cong (scr_row h rfl) (hr 67 75 rfl) (scr_row h rfl) (scr_row h rfl) r9, RP_cong (h _ _ rfl) (h _ _ rfl) (scr_row h rfl) (scr_row h rfl) (scr_row h rfl) (scr_row h rfl) r10, RX_cong (h _ _ rfl) (h _ _ rfl) (h _ _ rfl) (h _ _ rfl) (h _ _ rfl) (h _ _ rfl) (h _ _ rfl) (h _ _ rfl) (fun c a b _ => hr 3 19 rfl c a b) (hr 111 116 rfl) r11⟩
/-- a question: both answer, and what the relation looks at stays -/
def Qst (fC fM : jMem → Option (Int32 × jMem)) (m : jMem) : Prop := ∃ v M1 M2, fC m = some (v, M1) ∧ fM M1 = some (v, M2)
theorem Qst.rel {N C : Nat} {fC fM : jMem → Option (Int32 × jMem)} {m : jMem} (h : Qst fC fM m) {WC WM : List (Nat × Nat)} (hC : ∀ {m r}, fC m = some r → jfr WC m r.2) (hM : ∀ {m r}, fM m = some r → jfr WM m r.2) (sC : (WC.all fun q => Wscr.contains q) = true) (sM : (WM.all fun q => Wscr.contains q) = true) (r : Rel N C m) : ∃ v M1 M2, fC m = some (v, M1) ∧ fM M1 = some (v, M2) ∧ Rel N C M2 := by
  obtain ⟨v, M1, M2, e1, e2⟩ := h
  exact ⟨v, M1, M2, e1, e2, Rel_scr (jfr_sub sM (hM e2)) (Rel_scr (jfr_sub sC (hC e1)) r)⟩
