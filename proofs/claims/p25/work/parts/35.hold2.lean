/-! hold: what it leaves -/
theorem upd_upd {g : gF} {p : Nat} {a b : Int32} : upd (upd g p a) p b = upd g p b := by
  funext q
  by_cases e : q = p
  · rw [e, upd_eq9, upd_eq9]
  · rw [upd_ne9 e, upd_ne9 e, upd_ne9 e]
theorem upd_same9 {g : gF} {p : Nat} {a : Int32} (h : g p = a) : upd g p a = g := by
  funext q
  by_cases e : q = p
  · rw [e, upd_eq9, h]
  · rw [upd_ne9 e]
theorem zsm_cong {b d : Nat → Int32} : ∀ n, (∀ i, i < n → b i = d i) → zsm b n = zsm d n
  | 0, _ => rfl
  | n + 1, h => by rw [zsm, zsm, zsm_cong n (fun i hi => h i (by omega)), h n (by omega)]
theorem mTry_5 {M : kS} {p f m : Nat} (h0 : M 5 p = (-1)) : mTry M p f m 5 = M 5 := by
  show upd (upd (M 5) p (nI f)) p (-1) = M 5
  rw [upd_upd, upd_same9 h0]
/-- how many seats a person without a hold had is nobody's business -/
theorem zR4_m6 {k9 k10 k11 k12 k13 k14 k15 m5 m6 m7 m8 m9 m10 m11 : gF} {p : Nat} {v : Int32} (h : zR4 k9 k10 k11 k12 k13 k14 k15 m5 m6 m7 m8 m9 m10 m11) (h0 : m5 p = (-1)) : zR4 k9 k10 k11 k12 k13 k14 k15 m5 (upd m6 p v) m7 m8 m9 m10 m11 := by
  obtain ⟨d1, d2⟩ := h
  have e : ∀ q s, gIn m5 (upd m6 p v) q s = gIn m5 m6 q s := fun q s => by
    by_cases g : q = p
    · rw [g, gIn_no h0, gIn_no h0]
    · unfold gIn; rw [upd_ne9 g]
  refine ⟨fun q hq => ?_, fun q r s hq hr hs g1 g2 => ?_⟩
  · rcases d1 q hq with g | ⟨f', m', z1, z2, z3, z4, z5⟩
    · exact Or.inl g
    · have g : ¬ q = p := fun e => by rw [e, h0] at z3; exact nI_nm1 (by omega) z3.symm
      exact Or.inr ⟨f', m', z1, z2, z3, by rw [upd_ne9 g]; exact z4, z5⟩
  · rw [e] at g1 g2
    exact d2 q r s hq hr hs g1 g2
theorem gHU_m6 {m5 m6 : gF} {p s : Nat} {v : Int32} (h0 : m5 p = (-1)) : ∀ n, gHU m5 (upd m6 p v) s n = gHU m5 m6 s n
  | 0 => rfl
  | n + 1 => by
    rw [gHU, gHU, gHU_m6 h0 n]
    by_cases g : n = p
    · rw [g, gIn_no h0, gIn_no h0]
    · unfold gIn; rw [upd_ne9 g]
theorem zR2_m6 {a b : Int32} {k3 k4 k5 m1 m2 m3 m5 m6 m7 : gF} {p : Nat} {v : Int32} (h : zR2 a b k3 k4 k5 m1 m2 m3 m5 m6 m7) (h0 : m5 p = (-1)) : zR2 a b k3 k4 k5 m1 m2 m3 m5 (upd m6 p v) m7 := by
  obtain ⟨b1, b2, b3, b4⟩ := h
  refine ⟨b1, b2, b3, fun c hc q hq => ?_⟩
  have b5 := b4 c hc q hq
  unfold gUsed at b5 ⊢
  by_cases g : q = p
  · rw [g, if_pos h0]
    rw [g, if_pos h0] at b5
    exact b5
  · rw [upd_ne9 g]; exact b5
theorem zs_try {K M : kS} {j p f m : Nat} (h : zRel K M j) (h0 : M 5 p = (-1)) : zRel K (mTry M p f m) j := by
  obtain ⟨h1, h2, h3, h4, h5, h6⟩ := h
  have e5 := mTry_5 (f := f) (m := m) h0
  refine ⟨h1, ?_, ?_, ?_, ?_, ?_⟩
  · show zR2 (K 2 0) (M 0 3) (K 3) (K 4) (K 5) (M 1) (M 2) (M 3) (mTry M p f m 5) (upd (M 6) p (nI m)) (M 7)
    rw [e5]; exact zR2_m6 h2 h0
  · show zR3 (K 7) (M 4) (mTry M p f m 5)
    rw [e5]; exact h3
  · show zR4 (K 9) (K 10) (K 11) (K 12) (K 13) (K 14) (K 15) (mTry M p f m 5) (upd (M 6) p (nI m)) (M 7) (M 8) (M 9) (M 10) (M 11)
    rw [e5]; exact zR4_m6 h4 h0
  · show zR5 (gHeld (mTry M p f m 5) (upd (M 6) p (nI m))) (K 17) (K 18) (K 19) (K 20) (K 21) (M 13) (M 14) (M 15)
    rw [e5]; exact zR5_cong h5 (fun s _ => (gHU_m6 h0 8).symm)
  · show zR6 j (K 22 0) (K 23) (K 24) (K 25) (M 4) (mTry M p f m 5) (M 13)
    rw [e5]; exact h6
theorem zs_made {K M : kS} {j p f m : Nat} {c : Int32} (h : zRel K M j) (hp : p < 8) (h0 : M 5 p = (-1)) (h4 : ¬ M 4 p = (-1)) (hm : 1 ≤ m) (hm4 : m ≤ 4) (hf : f < 60) (hfm : f % 10 + m ≤ 10) (hc : c = (-1) ∨ ∃ n, n < 10 ∧ c = nI n) (hop : ∀ s, f ≤ s → s < f + m → mOpen M s = true) :
    zRel (kHoldE K p f m c) (mHoldE M p f m c) (j + 1) ∧ kHoldR K f m = mHCost (mGoes (mTry M p f m) (nI 0)) f m := by
  obtain ⟨⟨a1, a2, a3, a4, a5⟩, ⟨b1, b2, b3, b4⟩, ⟨c1, c2, c3⟩, ⟨d1, d2⟩, h5, ⟨t, f1, f2, f3⟩⟩ := h
  have hf60 : f + m ≤ 60 := by omega
  have ho : ∀ s, f ≤ s → s < f + m → gHeld (M 5) (M 6) s = false ∧ (M 13 s = (-1) ∨ ¬ M 15 s = (-1)) := fun s g1 g2 => by
    have h9 := hop s g1 g2
    unfold mOpen at h9
    rw [mHeld_g, Bool.and_eq_true, Bool.not_eq_true', Bool.or_eq_true, decide_eq_true_eq, decide_eq_true_eq] at h9
    exact h9
  have eR : kHoldR K f m = mHCost (mGoes (mTry M p f m) (nI 0)) f m := zsm_cong m (fun i hi => by
    obtain ⟨-, -, -, -, y5, -⟩ := h5 (f + i) (by omega)
    exact y5 (ho (f + i) (by omega) (by omega)).2)
  have e5 : upd (mTry M p f m 5) p (nI f) = upd (M 5) p (nI f) := by rw [mTry_5 h0]
  have e6 : upd (mTry M p f m 6) p (nI m) = upd (M 6) p (nI m) := upd_upd (g := M 6) (a := nI m) (b := nI m)
  have hin : ∀ s, s < 60 → (gIn (upd (M 5) p (nI f)) (upd (M 6) p (nI m)) p s = true ↔ f ≤ s ∧ s < f + m) := fun s hs => gIn_at upd_eq9 upd_eq9 hm hm4 hf hs
  have hx : ∀ q s, q < 8 → s < 60 → ¬ q = p → gIn (upd (M 5) p (nI f)) (upd (M 6) p (nI m)) q s = true → ¬ (f ≤ s ∧ s < f + m) := fun q s hq hs hne g z => by
    rw [gIn_ne hne] at g
    have := (ho s z.1 z.2).1
    rw [gHeld_iff.mpr ⟨q, hq, g⟩] at this
    exact absurd this (by decide)
  refine ⟨⟨⟨a1, a2, a3, a4, a5⟩, ?_, ?_, ?_, ?_, ?_⟩, eR⟩
  · show zR2 (K 2 0) (M 0 3) (K 3) (K 4) (if c = (-1) then K 5 else upd (K 5) (8 * c.toNatClampNeg + p) (K 5 (8 * c.toNatClampNeg + p) + nI m)) (M 1) (M 2) (M 3) (upd (mTry M p f m 5) p (nI f)) (upd (mTry M p f m 6) p (nI m)) (upd (M 7) p c)
    rw [e5, e6]
    refine ⟨b1, b2, b3, fun cc hcc q hq => ?_⟩
    have b5 := b4 cc hcc q hq
    unfold gUsed at b5 ⊢
    by_cases hqp : q = p
    · subst hqp
      rw [if_pos h0] at b5
      rw [upd_eq9, upd_eq9, upd_eq9, if_neg (nI_nm1 (by omega))]
      rcases hc with g | ⟨c0, hc0, g⟩
      · rw [if_pos g, if_neg (fun z => nI_nm1 (by omega) (z.symm.trans g))]; exact b5
      · have g3 : ¬ c = (-1) := by rw [g]; exact nI_nm1 (by omega)
        rw [if_neg g3, g, nI_clamp (by omega)]
        by_cases hcc2 : cc = c0
        · subst hcc2
          rw [if_pos rfl, upd_eq9, b5, nI_0, Int32.add_zero]
        · rw [if_neg (fun z => hcc2 (nI_inj (by omega) (by omega) z.symm)), upd_ne9 (by omega)]; exact b5
    · rw [upd_ne9 hqp, upd_ne9 hqp, upd_ne9 hqp]
      rcases hc with g | ⟨c0, hc0, g⟩
      · rw [if_pos g]; exact b5
      · have g3 : ¬ c = (-1) := by rw [g]; exact nI_nm1 (by omega)
        rw [if_neg g3, g, nI_clamp (by omega), upd_ne9 (by omega)]; exact b5
  · show zR3 (upd (K 7) p (-1)) (upd (M 4) p (-1)) (upd (mTry M p f m 5) p (nI f))
    rw [e5]
    refine ⟨fun q hq => ?_, fun q hq => ?_, fun q hq hne => ?_⟩
    · unfold upd
      split
      · rfl
      · exact c1 q hq
    · unfold upd
      split
      · exact Or.inl rfl
      · exact c2 q hq
    · by_cases e : q = p
      · rw [e, upd_eq9] at hne; exact absurd rfl hne
      · rw [upd_ne9 e] at hne ⊢; exact c3 q hq hne
  · show zR4 (upd (K 9) p (nI f)) (upd (K 10) p (nI m)) (upd (K 11) p c) (upd (K 12) p (kHoldR K f m)) (upd (K 13) p (nI 0)) (upd (K 14) p (K 0 0 + nI 30)) (upd (K 15) p (K 0 0 + nI 10)) (upd (mTry M p f m 5) p (nI f)) (upd (mTry M p f m 6) p (nI m)) (upd (M 7) p c) (upd (M 8) p (mHCost (mGoes (mTry M p f m) (nI 0)) f m)) (upd (M 9) p (nI 0)) (upd (M 10) p (M 0 1)) (upd (M 11) p (M 0 1 + nI 10))
    rw [e5, e6, eR, a1]
    refine ⟨fun q hq => ?_, fun q r s hq hr hs g1 g2 => ?_⟩
    · unfold zHas
      by_cases e : q = p
      · subst e
        refine Or.inr ⟨f, m, ?_⟩
        rw [upd_eq9, upd_eq9, upd_eq9, upd_eq9, upd_eq9, upd_eq9, upd_eq9, upd_eq9, upd_eq9, upd_eq9, upd_eq9, upd_eq9, upd_eq9, upd_eq9]
        exact ⟨rfl, rfl, rfl, rfl, ⟨hm, hm4, hf, hfm⟩, rfl, rfl, rfl, rfl, rfl, hc⟩
      · rw [upd_ne9 e, upd_ne9 e, upd_ne9 e, upd_ne9 e, upd_ne9 e, upd_ne9 e, upd_ne9 e, upd_ne9 e, upd_ne9 e, upd_ne9 e, upd_ne9 e, upd_ne9 e, upd_ne9 e, upd_ne9 e]
        exact d1 q hq
    · by_cases n1 : q = p
      · by_cases n2 : r = p
        · rw [n1, n2]
        · rw [n1] at g1
          exact absurd ((hin s hs).mp g1) (hx r s hr hs n2 g2)
      · by_cases n2 : r = p
        · rw [n2] at g2
          exact absurd ((hin s hs).mp g2) (hx q s hq hs n1 g1)
        · rw [gIn_ne n1] at g1
          rw [gIn_ne n2] at g2
          exact d2 q r s hq hr hs g1 g2
  · show zR5 (gHeld (upd (mTry M p f m 5) p (nI f)) (upd (mTry M p f m 6) p (nI m))) (zfill (K 17) f m (nI 1)) (K 18) (K 19) (K 20) (K 21) (M 13) (M 14) (M 15)
    rw [e5, e6]
    intro s hs
    obtain ⟨y1, y2, y3, y4, y5, y6, y7⟩ := h5 s hs
    have eB := gHeld_add (g6 := M 6) hp hs h0 hm hm4 hf
    rw [eB]
    refine ⟨?_, y2, y3, y4, y5, y6, fun z => ?_⟩
    · unfold zfill
      by_cases g : f ≤ s ∧ s < f + m
      · rw [if_pos g, decide_eq_true g, Bool.or_true]; rfl
      · rw [if_neg g, decide_eq_false g, Bool.or_false]; exact y1
    · rw [Bool.or_eq_true, decide_eq_true_eq] at z
      rcases z with z | z
      · exact y7 z
      · exact (ho s z.1 z.2).2
  · show zR6 (j + 1) (K 22 0) (K 23) (K 24) (K 25) (upd (M 4) p (-1)) (upd (mTry M p f m 5) p (nI f)) (M 13)
    rw [e5]
    refine ⟨t, f1, ?_, f3⟩
    have g1 := gQ_in (g := M 5) (v := nI f) hp
    have g2 := gQ_out1 (g := M 4) hp h4
    omega
theorem zPos_id {a b c : Bool} {T : Int32} (h : zRng a b c T) : zPos (nI 1) (nI 2) (nI 3) T = T := by
  rcases h with h | ⟨-, h⟩ | ⟨-, h⟩ | ⟨-, h⟩
  · rw [h, zPos_0]
  · rw [h, zPos_1]
  · rw [h, zPos_2]
  · rw [h, zPos_3]
theorem kHoldT_m {K M : kS} {j n : Nat} (h : zRel K M j) (hn : n ≤ 10) (h1 : K 2 0 = nI n) (h2 : M 0 3 = nI n) (a r q m c : Int32) : kHoldT K a r q m c = mHoldT M a r q m c := by
  have e : kHoldT K a r q m c = if mIsP a then (if mIsR r then (if mIn q (nI 0) (nI 9) then (if (decide (c = (-1)) || mIsC M c) then (if mHRng q m then (if lServ K = a then zseq (kSeatsT K a r.toNatClampNeg q.toNatClampNeg m.toNatClampNeg) (kRightT K a.toNatClampNeg m c) else nI 3) else nI 2) else nI 1) else nI 1) else nI 1) else nI 1 := by
    unfold kHoldT
    rw [kNeedP_m, zseq_if _ _ zn1, kNeedR_m, zseq_if _ _ zn1, zneed_inU (n := 9) (by decide), zmany_m, zseq_z, kNeedC_m hn h1 h2]
    have e2 : ∀ U : Int32, zseq (if c = (-1) then nI 0 else (if mIsC M c then nI 0 else nI 1)) U = if (decide (c = (-1)) || mIsC M c) then U else nI 1 := fun U => by
      by_cases g : c = (-1)
      · rw [if_pos g, zseq_0 rfl, decide_eq_true g]; rfl
      · rw [if_neg g, zseq_if _ _ zn1, decide_eq_false g, Bool.false_or]
    rw [e2]
  rw [e]
  unfold mHoldT
  cases g1 : mIsP a with
  | false => simp [mHAre, g1]
  | true =>
  cases g2 : mIsR r with
  | false => simp [mHAre, g1, g2]
  | true =>
  cases g3 : mIn q (nI 0) (nI 9) with
  | false => simp [mHAre, g1, g2, g3]
  | true =>
  cases g4 : (decide (c = (-1)) || mIsC M c) with
  | false => simp [mHAre, g1, g2, g3, g4]
  | true =>
  have hA : mHAre M a r q c = true := by simp [mHAre, g1, g2, g3, g4]
  cases g5 : mHRng q m with
  | false => simp [hA]
  | true =>
  obtain ⟨p, hp, hp8, hp7⟩ := mIsP_of g1
  obtain ⟨r9, hr, hr8, hr7⟩ := mIsR_of g2
  obtain ⟨q9, hq, hq8, hq7⟩ := mIn_of (by decide) g3
  have hq10 : q9 < 10 := by omega
  rw [hq8] at g5
  obtain ⟨m9, hm1, hm4, hm8, hm7, hqm⟩ := mHRng_of hq10 g5
  rw [← hq8] at g5
  have hF : mHF r q = 10 * r9 + q9 := by unfold mHF; rw [hr7, hq7]
  rw [hA, hp7, hr7, hq7, hm7, zserved h]
  simp only [if_true]
  have hOk : mHOk M a r q m c = (decide (mServed M = a) && mAreUp M a (10 * r9 + q9) m9 && mWithin M c p m && !mLeaves M p (10 * r9 + q9) m9) := by
    unfold mHOk mHTry mHCan
    rw [hA, g5, hF, hm7, hp7]
    simp
  rw [hOk]
  by_cases g6 : mServed M = a
  · rw [if_pos g6, decide_eq_true g6, Bool.true_and]
    have hin : ¬ M 4 p = (-1) := zserved_in h hp (g6.trans hp8)
    have h0 : M 5 p = (-1) := h.2.2.1.2.2 p hp hin
    unfold kSeatsT
    rw [zAllUp h a hr m9 hqm]
    cases g7 : mAreUp M a (10 * r9 + q9) m9 with
    | false => simp [zseq_n zn3]
    | true =>
      rw [zLeaves h hp h0 hr hm1 hm4 hqm (fun s w1 w2 => mAreUp_op m9 g7 s w1 w2)]
      have eW : kRightT K p m c = if mWithin M c p m then nI 0 else nI 3 := by
        unfold kRightT mWithin
        by_cases g8 : c = (-1)
        · rw [if_pos g8, if_pos g8, h.1.1, h.1.2.1]
          by_cases g9 : M 0 2 ≤ M 0 1
          · have g10 : ¬ M 0 1 < M 0 2 := fun z => Int32.lt_irrefl (Int32.lt_of_lt_of_le z g9)
            rw [if_pos g9, decide_eq_true g10]; rfl
          · have g10 : ¬ ¬ M 0 1 < M 0 2 := fun z => z (Int32.not_le.mp g9)
            rw [if_neg g9, decide_eq_false g10]; rfl
        · rw [if_neg g8, if_neg g8]
          rw [decide_eq_false g8, Bool.false_or] at g4
          obtain ⟨c9, hc9, -, hc7⟩ := mIsC_of h2 hn g4
          rw [hc7]
          unfold cRoom cOf
          have u1 : K 5 (8 * c9 + p) = mUsed M c9 p := h.2.1.2.2.2 c9 (by omega) p hp
          have u2 : K 5 (8 * c9 + zmate p) = mUsed M c9 (zmate p) := h.2.1.2.2.2 c9 (by omega) (zmate p) (zmate_lt p hp)
          rw [u1, u2, h.2.1.2.1 c9 (by omega), h.2.1.2.2.1 c9 (by omega)]
      rw [eW]
      cases mLeaves M p (10 * r9 + q9) m9 <;> cases mWithin M c p m <;> rfl
  · rw [if_neg g6, decide_eq_false g6]
    rfl
theorem zs_hold {K M : kS} {j n : Nat} (h : zRel K M j) (hn : n ≤ 10) (h1 : K 2 0 = nI n) (h2 : M 0 3 = nI n) (a r q m c : Int32) : (mPost (mHoldT M a r q m c) (mHK M a r q m c) (mHoldE M a.toNatClampNeg (mHF r q) m.toNatClampNeg c)) 0 0 = zPos (nI 1) (nI 2) (nI 3) (kHoldT K a r q m c) ∧ (∀ f : Nat → Int64, zPos (nI 1) (nI 2) (nI 3) (kHoldT K a r q m c) = nI 0 → zFK (kHoldT K a r q m c) (kHoldR K (mHF r q) m.toNatClampNeg) f 0 = Int32.toInt64 (mRes (mHoldT M a r q m c) (mHCost (mGoes (mTry M a.toNatClampNeg (mHF r q) m.toNatClampNeg) (nI 0)) (mHF r q) m.toNatClampNeg))) ∧ zRel (zEK (kHoldT K a r q m c) (kHoldE K a.toNatClampNeg (mHF r q) m.toNatClampNeg c) K) (mPost (mHoldT M a r q m c) (mHK M a r q m c) (mHoldE M a.toNatClampNeg (mHF r q) m.toNatClampNeg c)) (j + 1) := by
  have key : mHTry M a r q m c = true → ∃ p r9 q9 m9, p < 8 ∧ r9 < 6 ∧ q9 < 10 ∧ 1 ≤ m9 ∧ m9 ≤ 4 ∧ q9 + m9 ≤ 10 ∧ a.toNatClampNeg = p ∧ mHF r q = 10 * r9 + q9 ∧ m.toNatClampNeg = m9 ∧ ¬ M 4 p = (-1) ∧ M 5 p = (-1) ∧ (c = (-1) ∨ ∃ n, n < 10 ∧ c = nI n) ∧ ∀ s, 10 * r9 + q9 ≤ s → s < 10 * r9 + q9 + m9 → mOpen M s = true := fun g => by
    have g1 := mHTry_of g
    obtain ⟨g2, g3⟩ := mHCan_of g1
    obtain ⟨p, r9, q9, hp, hr, hq, hp8, hr8, hq8, hp7, hr7, hq7, hc⟩ := mHAre_of g2
    rw [hq8] at g3
    obtain ⟨m9, hm1, hm4, hm8, hm7, hqm⟩ := mHRng_of hq g3
    have hF : mHF r q = 10 * r9 + q9 := by unfold mHF; rw [hr7, hq7]
    simp only [mHCan, Bool.and_eq_true, decide_eq_true_eq] at g1
    have hin : ¬ M 4 p = (-1) := zserved_in h hp (g1.1.2.trans hp8)
    have g4 := g1.2
    rw [hF, hm7] at g4
    exact ⟨p, r9, q9, m9, hp, hr, hq, hm1, hm4, hqm, hp7, hF, hm7, hin, h.2.2.1.2.2 p hp hin, mHCode_of hn h2 hc, mAreUp_op m9 g4⟩
  have hK : zRel K (mHK M a r q m c) j := by
    unfold mHK
    cases g : mHTry M a r q m c with
    | false => exact h
    | true =>
      obtain ⟨p, r9, q9, m9, hp, hr, hq, hm1, hm4, hqm, hp7, hF, hm7, hin, h0, hc, hop⟩ := key g
      rw [hp7]
      exact zs_try h h0
  refine zstep hK kHoldT_r (fun _ => zn1) (fun _ => zn2) (fun _ => zn3) ?_ (fun g => ?_)
  · rw [zPos_id (kHoldT_r (K := K) (a := a) (r := r) (q := q) (m := m) (c := c)), kHoldT_m h hn h1 h2]
  · rw [kHoldT_m h hn h1 h2] at g
    unfold mHoldT at g
    obtain ⟨-, g⟩ := zif_0 zn1 g
    obtain ⟨-, g⟩ := zif_0 zn2 g
    obtain ⟨g, -⟩ := zif_0 zn3 g
    obtain ⟨p, r9, q9, m9, hp, hr, hq, hm1, hm4, hqm, hp7, hF, hm7, hin, h0, hc, hop⟩ := key (mHOk_of g)
    rw [hp7, hF, hm7]
    obtain ⟨s1, s2⟩ := zs_made h hp h0 hin hm1 hm4 (show 10 * r9 + q9 < 60 by omega) (by omega) hc hop
    exact ⟨rfl, s2, s1⟩
