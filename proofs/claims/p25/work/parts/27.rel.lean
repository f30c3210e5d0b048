/-! the class and the reference side by side: what holds of their arrays between two calls -/
def zFK (T R : Int32) (f : Nat → Int64) : Nat → Int64 := if T = nI 0 then vp_updL f 0 R.toInt64 else f
theorem zFK_0 {T R : Int32} {f : Nat → Int64} (h : T = nI 0) : zFK T R f = vp_updL f 0 R.toInt64 := if_pos h
theorem zFK_n {T R : Int32} {f : Nat → Int64} (h : ¬ T = nI 0) : zFK T R f = f := if_neg h
def zPos (a b c T : Int32) : Int32 := if T = nI 0 then nI 0 else if T = nI 1 then a else if T = nI 2 then b else c
theorem zPos_0 (a b c : Int32) : zPos a b c (nI 0) = nI 0 := if_pos rfl
theorem zPos_1 (a b c : Int32) : zPos a b c (nI 1) = a := (if_neg (by decide)).trans (if_pos rfl)
theorem zPos_2 (a b c : Int32) : zPos a b c (nI 2) = b := (if_neg (by decide)).trans ((if_neg (by decide)).trans (if_pos rfl))
theorem zPos_3 (a b c : Int32) : zPos a b c (nI 3) = c := (if_neg (by decide)).trans ((if_neg (by decide)).trans (if_neg (by decide)))
theorem kUsedT_r {K : kS} {a b : Int32} : zRng true false false (kUsedT K a b) := zr_seq zr_C (zr_seq zr_P zr0)
abbrev gF : Type := Nat → Int32
def gIn (g5 g6 : gF) (p s : Nat) : Bool := decide (¬ g5 p = (-1)) && mIn (nI s) (g5 p) (g5 p + g6 p - nI 1)
def gHU (g5 g6 : gF) (s : Nat) : Nat → Bool
  | 0 => false
  | i + 1 => gHU g5 g6 s i || gIn g5 g6 i s
def gHeld (g5 g6 : gF) (s : Nat) : Bool := gHU g5 g6 s 8
theorem mHeldUp_g (M : kS) (s : Nat) : ∀ i, mHeldUp M (nI s) i = gHU (M 5) (M 6) s i
  | 0 => rfl
  | i + 1 => by
    rw [mHeldUp, gHU, mHeldUp_g M s i]
    rfl
theorem mHeld_g (M : kS) (s : Nat) : mHeld M (nI s) = gHeld (M 5) (M 6) s := mHeldUp_g M s 8
theorem gHU_iff {g5 g6 : gF} {s : Nat} : ∀ {n : Nat}, gHU g5 g6 s n = true ↔ ∃ p, p < n ∧ gIn g5 g6 p s = true
  | 0 => ⟨fun h => (nomatch h), fun ⟨p, hp, _⟩ => absurd hp (Nat.not_lt_zero p)⟩
  | n + 1 => by
    have ih := gHU_iff (g5 := g5) (g6 := g6) (s := s) (n := n)
    rw [gHU, Bool.or_eq_true, ih]
    refine ⟨fun h => ?_, fun ⟨p, hp, h⟩ => ?_⟩
    · rcases h with ⟨p, hp, h⟩ | h
      · exact ⟨p, by omega, h⟩
      · exact ⟨n, by omega, h⟩
    · rcases Nat.lt_or_ge p n with q | q
      · exact Or.inl ⟨p, q, h⟩
      · have e : p = n := by omega
        rw [e] at h; exact Or.inr h
theorem gHeld_iff {g5 g6 : gF} {s : Nat} : gHeld g5 g6 s = true ↔ ∃ p, p < 8 ∧ gIn g5 g6 p s = true := gHU_iff
def gUsed (g3 g5 g6 g7 : gF) (c p : Nat) : Int32 := g3 (8 * c + p) + (if g5 p = (-1) then nI 0 else if g7 p = nI c then g6 p else nI 0)
def gPrice (g13 g15 : gF) (s : Nat) : Int32 := if g13 s = (-1) then nI 100 - nI (10 * (s / 10)) else g15 s
def gLast (g23 g24 g25 : gF) (x : Int32) : Nat → Int32
  | 0 => -1
  | i + 1 => if x < g23 i then gLast g23 g24 g25 x i else if g23 i + g24 i ≤ x then gLast g23 g24 g25 x i else g25 i
theorem tLast_g (K : kS) (x : Int32) : ∀ t, tLast K x t = gLast (K 23) (K 24) (K 25) x t
  | 0 => rfl
  | t + 1 => by rw [tLast, gLast, tLast_g K x t]
def gQ (g : gF) : Nat := zcnt (fun p => decide (¬ g p = (-1))) 8
def zR1 (now op tk mnow mop mtk : Int32) (k1 m12 : gF) : Prop := now = mnow ∧ op = mop ∧ tk = mtk ∧ (∃ t, t ≤ 10000 ∧ mnow = nI t) ∧ ∀ p, p < 8 → k1 p = m12 p
def zR2 (cnt mcnt : Int32) (k3 k4 k5 m1 m2 m3 m5 m6 m7 : gF) : Prop := (∃ n, n ≤ 10 ∧ cnt = nI n ∧ mcnt = nI n) ∧ (∀ c, c < 10 → k3 c = m1 c) ∧ (∀ c, c < 10 → k4 c = m2 c) ∧ ∀ c, c < 10 → ∀ p, p < 8 → k5 (8 * c + p) = gUsed m3 m5 m6 m7 c p
def zR3 (k7 m4 m5 : gF) : Prop := (∀ p, p < 8 → k7 p = m4 p) ∧ (∀ p, p < 8 → m4 p = (-1) ∨ ∃ t, t ≤ 10000 ∧ m4 p = nI t) ∧ ∀ p, p < 8 → ¬ m4 p = (-1) → m5 p = (-1)
def zHas (k9 k10 k11 k12 k13 k14 k15 m5 m6 m7 m8 m9 m10 m11 : gF) (p f m : Nat) : Prop := k9 p = nI f ∧ k10 p = nI m ∧ m5 p = nI f ∧ m6 p = nI m ∧ (1 ≤ m ∧ m ≤ 4 ∧ f < 60 ∧ f % 10 + m ≤ 10) ∧ k11 p = m7 p ∧ k12 p = m8 p ∧ k13 p = m9 p ∧ k15 p = m11 p ∧ k14 p = m10 p + nI 30 ∧ (m7 p = (-1) ∨ ∃ c, c < 10 ∧ m7 p = nI c)
def zR4 (k9 k10 k11 k12 k13 k14 k15 m5 m6 m7 m8 m9 m10 m11 : gF) : Prop := (∀ p, p < 8 → (k10 p ≤ 0 ∧ m5 p = (-1)) ∨ ∃ f m, zHas k9 k10 k11 k12 k13 k14 k15 m5 m6 m7 m8 m9 m10 m11 p f m) ∧ ∀ p q s, p < 8 → q < 8 → s < 60 → gIn m5 m6 p s = true → gIn m5 m6 q s = true → p = q
def zR5 (B : Nat → Bool) (k17 k18 k19 k20 k21 m13 m14 m15 : gF) : Prop := ∀ s, s < 60 → k17 s = zb (B s) ∧ k18 s = zb (decide (¬ m15 s = (-1))) ∧ k19 s = m13 s ∧ (m13 s = (-1) ∨ ∃ o, o < 8 ∧ m13 s = nI o) ∧ ((m13 s = (-1) ∨ ¬ m15 s = (-1)) → k20 s = gPrice m13 m15 s) ∧ k21 s = m14 s ∧ (B s = true → m13 s = (-1) ∨ ¬ m15 s = (-1))
def zR6 (j : Nat) (n22 : Int32) (k23 k24 k25 m4 m5 m13 : gF) : Prop := ∃ t, n22 = nI t ∧ 3 * t + 2 * gQ m5 + gQ m4 ≤ j ∧ ∀ s, s < 60 → gLast k23 k24 k25 (nI s) t = m13 s
def zRel (K M : kS) (j : Nat) : Prop := zR1 (K 0 0) (K 0 1) (K 0 2) (M 0 1) (M 0 2) (M 0 4) (K 1) (M 12) ∧ zR2 (K 2 0) (M 0 3) (K 3) (K 4) (K 5) (M 1) (M 2) (M 3) (M 5) (M 6) (M 7) ∧ zR3 (K 7) (M 4) (M 5) ∧ zR4 (K 9) (K 10) (K 11) (K 12) (K 13) (K 14) (K 15) (M 5) (M 6) (M 7) (M 8) (M 9) (M 10) (M 11) ∧ zR5 (gHeld (M 5) (M 6)) (K 17) (K 18) (K 19) (K 20) (K 21) (M 13) (M 14) (M 15) ∧ zR6 j (K 22 0) (K 23) (K 24) (K 25) (M 4) (M 5) (M 13)
theorem zRel_goes {K M : kS} {j : Nat} (x : Int32) (h : zRel K M j) : zRel K (mGoes M x) j := h
theorem zR6_up {i j : Nat} {n : Int32} {a b c d e g : gF} (h : zR6 i n a b c d e g) (hij : i ≤ j) : zR6 j n a b c d e g := by
  obtain ⟨t, h1, h2, h3⟩ := h
  exact ⟨t, h1, by omega, h3⟩
theorem zRel_up {K M : kS} {i j : Nat} (h : zRel K M i) (hij : i ≤ j) : zRel K M j := ⟨h.1, h.2.1, h.2.2.1, h.2.2.2.1, h.2.2.2.2.1, zR6_up h.2.2.2.2.2 hij⟩
-- what the calls ask of the states
theorem nI_inj {a b : Nat} (ha : a < 2 ^ 31) (hb : b < 2 ^ 31) (h : nI a = nI b) : a = b := (nI_eq ha hb).mp h
theorem zR4_there {k9 k10 k11 k12 k13 k14 k15 m5 m6 m7 m8 m9 m10 m11 : gF} (h : zR4 k9 k10 k11 k12 k13 k14 k15 m5 m6 m7 m8 m9 m10 m11) {p : Nat} (hp : p < 8) (h2 : ¬ k10 p ≤ 0) : ∃ f m, zHas k9 k10 k11 k12 k13 k14 k15 m5 m6 m7 m8 m9 m10 m11 p f m := by
  rcases h.1 p hp with g | g
  · exact absurd g.1 h2
  · exact g
theorem zR4_there2 {k9 k10 k11 k12 k13 k14 k15 m5 m6 m7 m8 m9 m10 m11 : gF} (h : zR4 k9 k10 k11 k12 k13 k14 k15 m5 m6 m7 m8 m9 m10 m11) {p : Nat} (hp : p < 8) (h2 : ¬ m5 p = (-1)) : ∃ f m, zHas k9 k10 k11 k12 k13 k14 k15 m5 m6 m7 m8 m9 m10 m11 p f m := by
  rcases h.1 p hp with g | g
  · exact absurd g.2 h2
  · exact g
theorem zHas_k10 {k9 k10 k11 k12 k13 k14 k15 m5 m6 m7 m8 m9 m10 m11 : gF} {p f m : Nat} (h : zHas k9 k10 k11 k12 k13 k14 k15 m5 m6 m7 m8 m9 m10 m11 p f m) : ¬ k10 p ≤ 0 := by
  obtain ⟨-, h2, -, -, ⟨h5, h6, -⟩, -⟩ := h
  rw [h2]
  exact nI_nle (by omega) (by omega)
theorem zHas_m5 {k9 k10 k11 k12 k13 k14 k15 m5 m6 m7 m8 m9 m10 m11 : gF} {p f m : Nat} (h : zHas k9 k10 k11 k12 k13 k14 k15 m5 m6 m7 m8 m9 m10 m11 p f m) : ¬ m5 p = (-1) := by
  obtain ⟨-, -, h3, -, ⟨-, -, h7, -⟩, -⟩ := h
  rw [h3]
  exact nI_nm1 (by omega)
theorem zR4_same {k9 k10 k11 k12 k13 k14 k15 m5 m6 m7 m8 m9 m10 m11 : gF} (h : zR4 k9 k10 k11 k12 k13 k14 k15 m5 m6 m7 m8 m9 m10 m11) {p : Nat} (hp : p < 8) : k10 p ≤ 0 ↔ m5 p = (-1) := by
  rcases h.1 p hp with g | ⟨f, m, g⟩
  · exact ⟨fun _ => g.2, fun _ => g.1⟩
  · exact ⟨fun q => absurd q (zHas_k10 g), fun q => absurd q (zHas_m5 g)⟩
theorem zR4_th {k9 k10 k11 k12 k13 k14 k15 m5 m6 m7 m8 m9 m10 m11 : gF} (h : zR4 k9 k10 k11 k12 k13 k14 k15 m5 m6 m7 m8 m9 m10 m11) {p : Nat} (hp : p < 8) : decide (¬ k10 p ≤ 0) = decide (¬ m5 p = (-1)) := by
  simp only [zR4_same h hp]
theorem zRel_hok {K M : kS} {j : Nat} (h : zRel K M j) : kHok K := fun p hp ht => by
  have ht : ¬ K 10 p ≤ 0 := by simpa [hThere] using ht
  obtain ⟨f, m, h1, h2, -, -, ⟨h5, h6, h7, h8⟩, h9, -, -, -, -, h10⟩ := zR4_there h.2.2.2.1 hp ht
  exact ⟨f, m, h1, h2, by omega, by rw [h9]; exact h10⟩
theorem zRel_mhok {K M : kS} {j : Nat} (h : zRel K M j) : mHok M := fun p hp => by
  by_cases g : M 5 p = (-1)
  · exact Or.inl g
  · obtain ⟨f, m, -, -, h1, h2, ⟨h5, h6, h7, h8⟩, -, -, -, -, -, h10⟩ := zR4_there2 h.2.2.2.1 hp g
    exact Or.inr ⟨f, m, h1, h2, by omega, h10⟩
theorem zRel_own {K M : kS} {j : Nat} (h : zRel K M j) : kOwn K := fun q hq => by
  obtain ⟨-, -, h3, h4, -⟩ := h.2.2.2.2.1 q hq
  rw [h3]; exact h4
theorem zRel_mown {K M : kS} {j : Nat} (h : zRel K M j) : mOwn M := fun q hq => (h.2.2.2.2.1 q hq).2.2.2.1
theorem zRel_n {K M : kS} {j : Nat} (h : zRel K M j) : ∃ n, n ≤ 10 ∧ K 2 0 = nI n ∧ M 0 3 = nI n := h.2.1.1
theorem zRel_t {K M : kS} {j : Nat} (h : zRel K M j) : ∃ t, 3 * t ≤ j ∧ K 22 0 = nI t := by
  obtain ⟨t, h1, h2, -⟩ := h.2.2.2.2.2
  exact ⟨t, by omega, h1⟩
-- how the kinds of throw meet
theorem zneed_in {x : Int32} {n : Nat} (hn : n + 1 < 2 ^ 31) : (if x < 0 then nI 1 else if x < nI (n + 1) then nI 0 else nI 1) = (if mIn x (nI 0) (nI n) then nI 0 else nI 1) := by
  by_cases h1 : x < 0
  · have e : mIn x (nI 0) (nI n) = false := by
      simp only [mIn, nI_0, decide_eq_true h1]
      rfl
    rw [if_pos h1, e]
    rfl
  · obtain ⟨i, hi, e⟩ := nI_of h1
    subst e
    rw [if_neg h1]
    by_cases h2 : i < n + 1
    · rw [if_pos ((nI_ltI hi hn).mpr h2), if_pos (mIn_to (Nat.zero_le _) (by omega) (by omega))]
    · rw [if_neg (fun h => h2 ((nI_ltI hi hn).mp h)), if_neg]
      intro h
      obtain ⟨p, hp, e, -⟩ := mIn_of (by omega) h
      have := nI_inj hi (by omega) e
      omega
theorem kNeedP_m (x : Int32) : kNeedP x = if mIsP x then nI 0 else nI 1 := zneed_in (by decide)
theorem kNeedR_m (x : Int32) : kNeedR x = if mIsR x then nI 0 else nI 1 := zneed_in (by decide)
theorem kNeedS_m (x : Int32) : kNeedS x = if mIsS x then nI 0 else nI 1 := zneed_in (by decide)
theorem kNeedC_m {K M : kS} {n : Nat} (hn : n ≤ 10) (h1 : K 2 0 = nI n) (h2 : M 0 3 = nI n) (x : Int32) : kNeedC K x = if mIsC M x then nI 0 else nI 1 := by
  unfold kNeedC
  cases n with
  | zero =>
    have e : mIsC M x = false := by
      cases q : mIsC M x with
      | false => rfl
      | true =>
        obtain ⟨p, hp, -⟩ := mIsC_of h2 (by omega) q
        omega
    rw [h1, e]
    by_cases g : x < 0
    · rw [if_pos g]; rfl
    · rw [if_neg g, if_neg (by rw [nI_0]; exact g)]; rfl
  | succ k =>
    rw [h1]
    unfold mIsC
    rw [h2, show nI (k + 1) - nI 1 = nI k from nI_pred k]
    exact zneed_in (by omega)
/-- a range that the class tests from both ends -/
theorem zrange (x : Int32) (a b : Int32) (u v : Int32) : (if x < a then v else if x ≤ b then u else v) = (if mIn x a b then u else v) := by
  unfold mIn
  by_cases h1 : x < a
  · rw [if_pos h1, decide_eq_true h1]; rfl
  · rw [if_neg h1, decide_eq_false h1]
    by_cases h2 : x ≤ b
    · have h3 : ¬ b < x := fun g => Int32.lt_irrefl (Int32.lt_of_lt_of_le g h2)
      rw [if_pos h2, decide_eq_false h3]; rfl
    · have h3 : b < x := Int32.not_le.mp h2
      rw [if_neg h2, decide_eq_true h3]; rfl
/-- the kind of a throw, and where the reference counts it -/
def zT3 (a b c : Int32) (T U : Int32) : Prop := zPos a b c T = U
theorem zPos_ite (a b c : Int32) {P : Prop} [Decidable P] (T U : Int32) : zPos a b c (if P then T else U) = if P then zPos a b c T else zPos a b c U := by
  split <;> rfl
theorem zPos_seq (a b c : Int32) (T U : Int32) : zPos a b c (zseq T U) = if T = nI 0 then zPos a b c U else zPos a b c T := by
  unfold zseq
  split <;> rfl
