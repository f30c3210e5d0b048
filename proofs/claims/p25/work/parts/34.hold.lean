/-! hold: the kinds of throw -/
theorem zneed_inU {x : Int32} {n : Nat} (hn : n + 1 < 2 ^ 31) (U v : Int32) : (if x < 0 then v else if x < nI (n + 1) then U else v) = (if mIn x (nI 0) (nI n) then U else v) := by
  by_cases h1 : x < 0
  · have e : mIn x (nI 0) (nI n) = false := by
      simp only [mIn, nI_0, decide_eq_true h1]
      rfl
    rw [if_pos h1, e]
    rfl
  · obtain ⟨i, hi, e⟩ := nI_of h1
    subst e
    rw [if_neg h1]
    by_cases h2 : i < n + 1
    · rw [if_pos ((nI_ltI hi hn).mpr h2), if_pos (mIn_to (Nat.zero_le _) (by omega) (by omega))]
    · rw [if_neg (fun h => h2 ((nI_ltI hi hn).mp h)), if_neg]
      intro h
      obtain ⟨p, hp, e, -⟩ := mIn_of (by omega) h
      have := nI_inj hi (by omega) e
      omega
theorem zmany_m {q m : Int32} (U : Int32) : (if m < nI 1 then nI 2 else if nI 4 < m then nI 2 else if q + m ≤ nI 10 then U else nI 2) = if mHRng q m then U else nI 2 := by
  unfold mHRng mIn
  by_cases h1 : m < nI 1
  · rw [if_pos h1, decide_eq_true h1]; rfl
  · rw [if_neg h1, decide_eq_false h1]
    by_cases h2 : nI 4 < m
    · rw [if_pos h2, decide_eq_true h2]; rfl
    · rw [if_neg h2, decide_eq_false h2]
      by_cases h3 : q + m ≤ nI 10
      · have h4 : ¬ nI 10 < q + m := fun z => Int32.lt_irrefl (Int32.lt_of_lt_of_le z h3)
        rw [if_pos h3, decide_eq_true h4]; rfl
      · have h4 : ¬ ¬ nI 10 < q + m := fun z => z (Int32.not_le.mp h3)
        rw [if_neg h3, decide_eq_false h4]; rfl
theorem zAllUp {K M : kS} {j r q : Nat} (h : zRel K M j) (a : Int32) (hr : r < 6) : ∀ k, q + k ≤ 10 → kAllUp K a r q k = mAreUp M a (10 * r + q) k
  | 0, _ => rfl
  | k + 1, hk => by
    have e : 10 * r + (q + k) = 10 * r + q + k := by omega
    rw [kAllUp, mAreUp, zAllUp h a hr k (by omega), zopen h hr (by omega), (h.2.2.2.2.1 (10 * r + (q + k)) (by omega)).2.2.1, e]
theorem mAreUp_op {M : kS} {a : Int32} {f : Nat} : ∀ k, mAreUp M a f k = true → ∀ s, f ≤ s → s < f + k → mOpen M s = true
  | 0, _, s, h1, h2 => absurd h2 (by omega)
  | k + 1, h, s, h1, h2 => by
    simp only [mAreUp, Bool.and_eq_true] at h
    by_cases e : s = f + k
    · rw [e]; exact h.1.2
    · exact mAreUp_op k h.1.1 s h1 (by omega)
theorem gHeld_add {g5 g6 : gF} {p f m s : Nat} (hp : p < 8) (hs : s < 60) (h0 : g5 p = (-1)) (hm : 1 ≤ m) (hm4 : m ≤ 4) (hf : f < 60) : gHeld (upd g5 p (nI f)) (upd g6 p (nI m)) s = (gHeld g5 g6 s || decide (f ≤ s ∧ s < f + m)) := by
  have hin : gIn (upd g5 p (nI f)) (upd g6 p (nI m)) p s = true ↔ f ≤ s ∧ s < f + m := gIn_at upd_eq9 upd_eq9 hm hm4 hf hs
  refine bool_eq ?_
  rw [gHeld_iff, Bool.or_eq_true, gHeld_iff, decide_eq_true_eq]
  refine ⟨fun ⟨q, hq, h⟩ => ?_, fun h => ?_⟩
  · by_cases e : q = p
    · rw [e] at h; exact Or.inr (hin.mp h)
    · rw [gIn_ne e] at h; exact Or.inl ⟨q, hq, h⟩
  · rcases h with ⟨q, hq, h⟩ | h
    · have e : ¬ q = p := fun e => by rw [e, gIn_no h0] at h; exact absurd h (by decide)
      exact ⟨q, hq, by rw [gIn_ne e]; exact h⟩
    · exact ⟨p, hp, hin.mpr h⟩
/-- a seat on trial -/
theorem zopenN {M : kS} {p f m s : Nat} (hp : p < 8) (hs : s < 60) (h0 : M 5 p = (-1)) (hm : 1 ≤ m) (hm4 : m ≤ 4) (hf : f < 60) : mOpen (mTry2 M p f m) s = (mOpen M s && !decide (f ≤ s ∧ s < f + m)) := by
  have e : mHeld (mTry2 M p f m) (nI s) = (mHeld M (nI s) || decide (f ≤ s ∧ s < f + m)) := by
    rw [mHeld_g, mHeld_g]
    exact gHeld_add hp hs h0 hm hm4 hf
  unfold mOpen
  rw [e]
  show (!(mHeld M (nI s) || decide (f ≤ s ∧ s < f + m)) && (decide (M 13 s = (-1)) || decide (¬ M 15 s = (-1)))) = (!mHeld M (nI s) && (decide (M 13 s = (-1)) || decide (¬ M 15 s = (-1))) && !decide (f ≤ s ∧ s < f + m))
  cases mHeld M (nI s) <;> cases decide (f ≤ s ∧ s < f + m) <;> cases decide (M 13 s = (-1)) <;> cases decide (¬ M 15 s = (-1)) <;> rfl
theorem mLvUp_iff {al : Nat → Bool} {w : Nat → Int32} : ∀ n, mLvUp al w n = true ↔ ∃ i, i < n ∧ al i = true ∧ w i = 0
  | 0 => ⟨fun h => (nomatch h), fun ⟨p, hp, _⟩ => absurd hp (Nat.not_lt_zero p)⟩
  | n + 1 => by
    have ih := mLvUp_iff (al := al) (w := w) n
    rw [mLvUp, Bool.or_eq_true, ih, Bool.and_eq_true, decide_eq_true_eq]
    refine ⟨fun h => ?_, fun ⟨p, hp, h⟩ => ?_⟩
    · rcases h with ⟨p, hp, h⟩ | h
      · exact ⟨p, by omega, h⟩
      · exact ⟨n, by omega, h⟩
    · rcases Nat.lt_or_ge p n with q | q
      · exact Or.inl ⟨p, q, h⟩
      · have e : p = n := by omega
        rw [e] at h; exact Or.inr h
theorem mLeaves_iff {M : kS} {p f m : Nat} : mLeaves M p f m = true ↔ ∃ i, i < 60 ∧ mAlone (mTry2 M p f m) i = true ∧ mAlone M i = false := by
  unfold mLeaves
  rw [mLvUp_iff]
  refine ⟨fun ⟨i, hi, h1, h2⟩ => ⟨i, hi, h1, ?_⟩, fun ⟨i, hi, h1, h2⟩ => ⟨i, hi, h1, ?_⟩⟩
  · unfold mWas at h2
    rw [if_pos hi] at h2
    exact zb_f h2
  · unfold mWas
    rw [if_pos hi, h2]
    rfl
theorem mAlone_iff {M : kS} {i : Nat} : mAlone M i = true ↔ mOpen M i = true ∧ (0 < i % 10 → mOpen M (i - 1) = false) ∧ (i % 10 < 9 → mOpen M (i + 1) = false) := by
  unfold mAlone mLeft mRight
  rw [Bool.and_eq_true, Bool.and_eq_true, Bool.not_eq_true', Bool.not_eq_true', Bool.and_eq_false_iff, Bool.and_eq_false_iff, decide_eq_false_iff_not, decide_eq_false_iff_not]
  constructor
  · rintro ⟨⟨h1, h2⟩, h3⟩
    refine ⟨h1, fun g => ?_, fun g => ?_⟩
    · rcases h2 with h2 | h2
      · exact absurd (by omega) h2
      · exact h2
    · rcases h3 with h3 | h3
      · exact absurd (by omega) h3
      · exact h3
  · rintro ⟨h1, h2, h3⟩
    refine ⟨⟨h1, ?_⟩, ?_⟩
    · rcases Nat.lt_or_ge 0 (i % 10) with g | g
      · exact Or.inr (h2 g)
      · exact Or.inl (by omega)
    · rcases Nat.lt_or_ge (i % 10) 9 with g | g
      · exact Or.inr (h3 g)
      · exact Or.inl (by omega)
theorem zsub1 {K M : kS} {j r q : Nat} (h : zRel K M j) (hr : r < 6) (hq : q < 10) : sOpen K r (nI q - nI 1) = true ↔ 0 < q ∧ mOpen M (10 * r + q - 1) = true := by
  cases q with
  | zero =>
    have e : (nI 0 - nI 1 : Int32) < 0 := by decide
    unfold sOpen
    rw [if_pos e]
    exact ⟨fun h => (nomatch h), fun h => absurd h.1 (by decide)⟩
  | succ k =>
    rw [show nI (k + 1) - nI 1 = nI k from nI_pred k, zopen h hr (by omega)]
    exact ⟨fun g => ⟨by omega, g⟩, fun g => g.2⟩
theorem zsub2 {K M : kS} {j r q : Nat} (h : zRel K M j) (hr : r < 6) (hq : q < 10) : sOpen K r (nI q - nI 2) = true ↔ 1 < q ∧ mOpen M (10 * r + q - 2) = true := by
  match q, hq with
  | 0, _ =>
    have e : (nI 0 - nI 2 : Int32) < 0 := by decide
    unfold sOpen
    rw [if_pos e]
    exact ⟨fun h => (nomatch h), fun h => absurd h.1 (by decide)⟩
  | 1, _ =>
    have e : (nI 1 - nI 2 : Int32) < 0 := by decide
    unfold sOpen
    rw [if_pos e]
    exact ⟨fun h => (nomatch h), fun h => absurd h.1 (by decide)⟩
  | k + 2, hq =>
    rw [pk_sub (show 2 ≤ k + 2 by omega), show k + 2 - 2 = k from rfl, zopen h hr (by omega)]
    have e : 10 * r + (k + 2) - 2 = 10 * r + k := by omega
    rw [e]
    exact ⟨fun g => ⟨by omega, g⟩, fun g => g.2⟩
theorem zsup {K M : kS} {j r i : Nat} (h : zRel K M j) (hr : r < 6) (hi : i < 100) : sOpen K r (nI i) = true ↔ i < 10 ∧ mOpen M (10 * r + i) = true := by
  rcases Nat.lt_or_ge i 10 with g | g
  · rw [zopen h hr g]
    exact ⟨fun z => ⟨g, z⟩, fun z => z.2⟩
  · unfold sOpen
    rw [if_neg (nI_pos (by omega)), if_neg (fun z => by have := (nI_ltI (show i < 2 ^ 31 by omega) (by decide)).mp z; omega)]
    exact ⟨fun h => (nomatch h), fun z => by omega⟩
theorem zLeaves {K M : kS} {j p r q m : Nat} (h : zRel K M j) (hp : p < 8) (h0 : M 5 p = (-1)) (hr : r < 6) (hm : 1 ≤ m) (hm4 : m ≤ 4) (hqm : q + m ≤ 10) (hop : ∀ s, 10 * r + q ≤ s → s < 10 * r + q + m → mOpen M s = true) : sLeaves K r q m = mLeaves M p (10 * r + q) m := by
  have hN : ∀ s, s < 60 → mOpen (mTry2 M p (10 * r + q) m) s = (mOpen M s && !decide (10 * r + q ≤ s ∧ s < 10 * r + q + m)) := fun s hs => zopenN hp hs h0 hm hm4 (by omega)
  have hNi : ∀ s, s < 60 → (10 * r + q ≤ s ∧ s < 10 * r + q + m) → mOpen (mTry2 M p (10 * r + q) m) s = false := fun s hs g => by
    rw [hN s hs, decide_eq_true g]; exact Bool.and_false _
  have hNo : ∀ s, s < 60 → ¬ (10 * r + q ≤ s ∧ s < 10 * r + q + m) → mOpen (mTry2 M p (10 * r + q) m) s = mOpen M s := fun s hs g => by
    rw [hN s hs, decide_eq_false g]; exact Bool.and_true _
  refine bool_eq ?_
  rw [mLeaves_iff]
  unfold sLeaves
  rw [Bool.or_eq_true, Bool.and_eq_true, Bool.and_eq_true, Bool.not_eq_true', Bool.not_eq_true', zsub1 h hr (by omega), zsup h hr (by omega)]
  constructor
  · rintro (⟨⟨g1, g2⟩, g3⟩ | ⟨⟨g1, g2⟩, g3⟩)
    · have g4 : 1 < q → mOpen M (10 * r + q - 2) = false := fun z => by
        cases e : mOpen M (10 * r + q - 2) with
        | false => rfl
        | true => rw [(zsub2 h hr (by omega)).mpr ⟨z, e⟩] at g3; exact absurd g3 (by decide)
      refine ⟨10 * r + q - 1, by omega, mAlone_iff.mpr ⟨?_, fun z => ?_, fun z => ?_⟩, ?_⟩
      · rw [hNo _ (by omega) (by omega)]; exact g2
      · rw [show 10 * r + q - 1 - 1 = 10 * r + q - 2 by omega, hNo _ (by omega) (by omega)]; exact g4 (by omega)
      · exact hNi _ (by omega) (by omega)
      · cases e : mAlone M (10 * r + q - 1) with
        | false => rfl
        | true =>
          have e2 := (mAlone_iff.mp e).2.2 (by omega)
          rw [show 10 * r + q - 1 + 1 = 10 * r + q by omega, hop _ (by omega) (by omega)] at e2
          exact absurd e2 (by decide)
    · have g4 : q + m + 1 < 10 → mOpen M (10 * r + (q + m + 1)) = false := fun z => by
        cases e : mOpen M (10 * r + (q + m + 1)) with
        | false => rfl
        | true => rw [(zsup h hr (by omega)).mpr ⟨z, e⟩] at g3; exact absurd g3 (by decide)
      refine ⟨10 * r + (q + m), by omega, mAlone_iff.mpr ⟨?_, fun z => ?_, fun z => ?_⟩, ?_⟩
      · rw [hNo _ (by omega) (by omega)]; exact g2
      · exact hNi _ (by omega) (by omega)
      · rw [hNo _ (by omega) (by omega)]; exact g4 (by omega)
      · cases e : mAlone M (10 * r + (q + m)) with
        | false => rfl
        | true =>
          have e2 := (mAlone_iff.mp e).2.1 (by omega)
          rw [hop _ (by omega) (by omega)] at e2
          exact absurd e2 (by decide)
  · rintro ⟨i, hi, h1, h2⟩
    obtain ⟨a1, a2, a3⟩ := mAlone_iff.mp h1
    have hni : ¬ (10 * r + q ≤ i ∧ i < 10 * r + q + m) := fun z => by
      rw [hNi i hi z] at a1; exact absurd a1 (by decide)
    have hoi : mOpen M i = true := by rw [← hNo i hi hni]; exact a1
    have hsome : (0 < i % 10 ∧ mOpen M (i - 1) = true) ∨ (i % 10 < 9 ∧ mOpen M (i + 1) = true) := by
      refine Classical.byContradiction fun z => ?_
      have : mAlone M i = true := mAlone_iff.mpr ⟨hoi, fun g => ?_, fun g => ?_⟩
      · rw [h2] at this; exact absurd this (by decide)
      · cases e : mOpen M (i - 1) with
        | false => rfl
        | true => exact absurd (Or.inl ⟨g, e⟩) z
      · cases e : mOpen M (i + 1) with
        | false => rfl
        | true => exact absurd (Or.inr ⟨g, e⟩) z
    rcases hsome with ⟨b1, b2⟩ | ⟨b1, b2⟩
    · have b3 : 10 * r + q ≤ i - 1 ∧ i - 1 < 10 * r + q + m := Classical.byContradiction fun z => by
        have := a2 b1
        rw [hNo _ (by omega) z, b2] at this
        exact absurd this (by decide)
      have e : i = 10 * r + (q + m) := by omega
      have hqm2 : q + m < 10 := by omega
      refine Or.inr ⟨⟨hqm2, by rw [← e]; exact hoi⟩, ?_⟩
      cases g : sOpen K r (nI (q + m + 1)) with
      | false => rfl
      | true =>
        obtain ⟨g1, g2⟩ := (zsup h hr (by omega)).mp g
        have := a3 (by omega)
        rw [e, show 10 * r + (q + m) + 1 = 10 * r + (q + m + 1) by omega, hNo _ (by omega) (by omega), g2] at this
        exact absurd this (by decide)
    · have b3 : 10 * r + q ≤ i + 1 ∧ i + 1 < 10 * r + q + m := Classical.byContradiction fun z => by
        have := a3 b1
        rw [hNo _ (by omega) z, b2] at this
        exact absurd this (by decide)
      have e : i + 1 = 10 * r + q := by omega
      have hq1 : 0 < q := by omega
      refine Or.inl ⟨⟨hq1, by rw [show 10 * r + q - 1 = i by omega]; exact hoi⟩, ?_⟩
      cases g : sOpen K r (nI q - nI 2) with
      | false => rfl
      | true =>
        obtain ⟨g1, g2⟩ := (zsub2 h hr (by omega)).mp g
        have := a2 (by omega)
        rw [show i - 1 = 10 * r + q - 2 by omega, hNo _ (by omega) (by omega), g2] at this
        exact absurd this (by decide)
