/-! pay: a part of a hold, or its end by a sale -/
theorem zR4_drop {k9 k10 k11 k12 k13 k14 k15 m5 m6 m7 m8 m9 m10 m11 : gF} {p : Nat} (h : zR4 k9 k10 k11 k12 k13 k14 k15 m5 m6 m7 m8 m9 m10 m11) : zR4 k9 (upd k10 p (nI 0)) k11 k12 k13 k14 k15 (upd m5 p (-1)) m6 m7 m8 m9 m10 m11 := by
  obtain ⟨d1, d2⟩ := h
  refine ⟨fun q hq => ?_, fun q r s hq hr hs g1 g2 => ?_⟩
  · by_cases hqp : q = p
    · refine Or.inl ⟨?_, ?_⟩
      · rw [hqp, upd_eq9]; decide
      · rw [hqp, upd_eq9]
    · rcases d1 q hq with ⟨g1, g2⟩ | ⟨f', m', z1, z2, z3, z4, z5, z6⟩
      · exact Or.inl ⟨by rw [upd_ne9 hqp]; exact g1, by rw [upd_ne9 hqp]; exact g2⟩
      · exact Or.inr ⟨f', m', z1, by rw [upd_ne9 hqp]; exact z2, by rw [upd_ne9 hqp]; exact z3, z4, z5, z6⟩
  · have hnp : gIn (upd m5 p (-1)) m6 p s = false := gIn_no upd_eq9
    have n1 : ¬ q = p := fun e => by rw [e, hnp] at g1; exact absurd g1 (by decide)
    have n2 : ¬ r = p := fun e => by rw [e, hnp] at g2; exact absurd g2 (by decide)
    rw [gIn_ne1 n1] at g1
    rw [gIn_ne1 n2] at g2
    exact d2 q r s hq hr hs g1 g2
theorem zR3_drop {k7 m4 m5 : gF} {p : Nat} (h : zR3 k7 m4 m5) : zR3 k7 m4 (upd m5 p (-1)) := by
  obtain ⟨c1, c2, c3⟩ := h
  refine ⟨c1, c2, fun q hq hne => ?_⟩
  unfold upd
  split
  · rfl
  · exact c3 q hq hne
theorem zpayB {K M : kS} {j p : Nat} (x : Int32) (h : zRel K M j) (hp : p < 8) : zRel (kPayB K p x) (mPayB M p x) j := by
  obtain ⟨⟨a1, a2, a3, a4, a5⟩, h2, h3, ⟨d1, d2⟩, h5, h6⟩ := h
  refine ⟨⟨a1, a2, a3, a4, fun q hq => ?_⟩, h2, h3, ⟨fun q hq => ?_, d2⟩, h5, h6⟩
  · show upd (K 1) p (K 1 p + x) q = upd (M 12) p (M 12 p + x) q
    unfold upd
    split
    · rw [a5 p hp]
    · exact a5 q hq
  · rcases d1 q hq with g | ⟨f, m, e1, e2, e3, e4, e5, e6, e7, e8, e9⟩
    · exact Or.inl g
    · refine Or.inr ⟨f, m, e1, e2, e3, e4, e5, e6, e7, ?_, e9⟩
      show upd (K 13) p (K 13 p + x) q = upd (M 9) p (M 9 p + x) q
      unfold upd
      split
      · rename_i g; rw [← g, e8]
      · exact e8
theorem zprol {K M : kS} {j p : Nat} (h : zRel K M j) (hp : p < 8) (hin : ¬ M 5 p = (-1)) : zRel (kProl K p) (mProl M p) j := by
  obtain ⟨h1, h2, h3, ⟨d1, d2⟩, h5, h6⟩ := h
  refine ⟨h1, h2, h3, ⟨fun q hq => ?_, d2⟩, h5, h6⟩
  rcases d1 q hq with g | ⟨f, m, e1, e2, e3, e4, e5, e6, e7, e8, e9, e10, e11⟩
  · exact Or.inl g
  · refine Or.inr ⟨f, m, e1, e2, e3, e4, e5, e6, e7, e8, ?_, e10, e11⟩
    show upd (K 15) p (if K 14 p < K 15 p + nI 5 then K 14 p else K 15 p + nI 5) q = upd (M 11) p (if M 11 p + nI 5 ≤ M 10 p + nI 30 then M 11 p + nI 5 else M 10 p + nI 30) q
    unfold upd
    split
    · rename_i g
      subst g
      rw [e9, e10]
      by_cases g2 : M 11 q + nI 5 ≤ M 10 q + nI 30
      · rw [if_pos g2, if_neg (fun z => Int32.lt_irrefl (Int32.lt_of_lt_of_le z g2))]
      · rw [if_neg g2, if_pos (Int32.not_le.mp g2)]
    · exact e9
theorem zR5_cong {B B' : Nat → Bool} {k17 k18 k19 k20 k21 m13 m14 m15 : gF} (h : zR5 B k17 k18 k19 k20 k21 m13 m14 m15) (hB : ∀ s, s < 60 → B s = B' s) : zR5 B' k17 k18 k19 k20 k21 m13 m14 m15 := fun s hs => by
  have h1 := h s hs
  rw [hB s hs] at h1
  exact h1
/-- one seat is sold -/
theorem zR5_sell {B : Nat → Bool} {k17 k18 k19 k20 k21 m13 m14 m15 : gF} {p s : Nat} {v : Int32} (h : zR5 B k17 k18 k19 k20 k21 m13 m14 m15) (hp : p < 8) (hs : s < 60) (hv : k20 s = v) : zR5 (fun q => B q && !decide (q = s)) (upd k17 s (nI 0)) (upd k18 s (nI 0)) (upd k19 s (nI p)) k20 (upd k21 s (k20 s)) (upd m13 s (nI p)) (upd m14 s v) (upd m15 s (-1)) := fun q hq => by
  obtain ⟨a1, a2, a3, a4, a5, a6, a7⟩ := h q hq
  by_cases e : q = s
  · subst e
    rw [upd_eq9, upd_eq9, upd_eq9, upd_eq9, upd_eq9, upd_eq9, upd_eq9]
    have hb : (B q && !decide (q = q)) = false := by rw [decide_eq_true rfl]; cases B q <;> rfl
    refine ⟨?_, rfl, rfl, Or.inr ⟨p, hp, rfl⟩, fun z => ?_, hv, fun z => ?_⟩
    · show nI 0 = zb (B q && !decide (q = q))
      rw [hb]; rfl
    · rcases z with z | z
      · exact absurd z (nI_nm1 (by omega))
      · exact absurd rfl z
    · have z : (B q && !decide (q = q)) = true := z
      rw [hb] at z; exact absurd z (by decide)
  · unfold gPrice
    rw [upd_ne9 e, upd_ne9 e, upd_ne9 e, upd_ne9 e, upd_ne9 e, upd_ne9 e, upd_ne9 e]
    have hb : (B q && !decide (q = s)) = B q := by rw [decide_eq_false e]; cases B q <;> rfl
    refine ⟨?_, a2, a3, a4, a5, a6, fun z => a7 ?_⟩
    · show k17 q = zb (B q && !decide (q = s))
      rw [hb]; exact a1
    · have z : (B q && !decide (q = s)) = true := z
      rw [hb] at z; exact z
abbrev zSale (B : Nat → Bool) (S N : kS) : Prop := zR1 (S 0 0) (S 0 1) (S 0 2) (N 0 1) (N 0 2) (N 0 4) (S 1) (N 12) ∧ zR5 B (S 17) (S 18) (S 19) (S 20) (S 21) (N 13) (N 14) (N 15)
theorem zsell1 {B : Nat → Bool} {S N : kS} {p s : Nat} (h : zSale B S N) (hp : p < 8) (hs : s < 60) (hB : B s = true) : zSale (fun q => B q && !decide (q = s)) (kSell1 S p s) (mSell1 N p s) ∧ mSell1 N p s 13 = upd (N 13) s (nI p) ∧ mSell1 N p s 0 0 = N 0 0 ∧ mSell1 N p s 0 3 = N 0 3 := by
  obtain ⟨⟨a1, a2, a3, a4, a5⟩, h5⟩ := h
  obtain ⟨-, -, b3, b4, b5, -, b7⟩ := h5 s hs
  have hv : S 20 s = mPrice N s := b5 (b7 hB)
  have h9 := zR5_sell h5 hp hs hv
  unfold kSell1 mSell1
  by_cases g : N 13 s = (-1)
  · rw [if_pos g, if_pos (b3.trans g)]
    refine ⟨⟨⟨a1, a2, ?_, a4, a5⟩, h9⟩, rfl, rfl, rfl⟩
    show S 0 2 + S 20 s = N 0 4 + mPrice N s
    rw [a3, hv]
  · obtain ⟨o, ho, e⟩ := b4.resolve_left g
    rw [if_neg g, if_neg (fun z => g (b3.symm.trans z)), b3, e, nI_clamp (by omega)]
    refine ⟨⟨⟨a1, a2, a3, a4, fun q hq => ?_⟩, h9⟩, rfl, rfl, rfl⟩
    show upd (S 1) o (S 1 o - S 20 s) q = upd (N 12) o (N 12 o - mPrice N s) q
    unfold upd
    split
    · rw [a5 o ho, hv]
    · exact a5 q hq
theorem zsellS {S N : kS} {B : Nat → Bool} {p f m : Nat} (hp : p < 8) (hf : f + m ≤ 60) (hB : ∀ s, f ≤ s → s < f + m → B s = true) (h : zSale B S N) : ∀ k, k ≤ m → zSale (fun q => B q && !decide (f ≤ q ∧ q < f + k)) (kSellS S p f k) (mSellS N p f k) ∧ (∀ s, mSellS N p f k 13 s = if f ≤ s ∧ s < f + k then nI p else N 13 s) ∧ mSellS N p f k 0 0 = N 0 0 ∧ mSellS N p f k 0 3 = N 0 3
  | 0, _ => by
    refine ⟨⟨h.1, zR5_cong h.2 (fun s _ => ?_)⟩, fun s => ?_, rfl, rfl⟩
    · rw [decide_eq_false (by omega)]
      cases B s <;> rfl
    · rw [if_neg (by omega)]; rfl
  | k + 1, hk => by
    obtain ⟨ih1, ih2, ih3, ih4⟩ := zsellS hp hf hB h k (by omega)
    have hb : (B (f + k) && !decide (f ≤ f + k ∧ f + k < f + k)) = true := by
      rw [hB (f + k) (by omega) (by omega), decide_eq_false (by omega)]; rfl
    obtain ⟨e1, e2, e3, e4⟩ := zsell1 ih1 hp (show f + k < 60 by omega) hb
    rw [kSellS, mSellS]
    refine ⟨⟨e1.1, zR5_cong e1.2 (fun s _ => ?_)⟩, fun s => ?_, e3.trans ih3, e4.trans ih4⟩
    · cases B s with
      | false => rfl
      | true =>
        rw [Bool.true_and, Bool.true_and]
        by_cases g : s = f + k
        · rw [decide_eq_true g, decide_eq_true (show f ≤ s ∧ s < f + (k + 1) by omega)]
          exact Bool.and_false _
        · rw [decide_eq_false g]
          by_cases g2 : f ≤ s ∧ s < f + k
          · rw [decide_eq_true g2, decide_eq_true (show f ≤ s ∧ s < f + (k + 1) by omega)]; rfl
          · rw [decide_eq_false g2, decide_eq_false (show ¬ (f ≤ s ∧ s < f + (k + 1)) by omega)]; rfl
    · rw [e2]
      by_cases g : s = f + k
      · rw [g, upd_eq9, if_pos (by omega)]
      · rw [upd_ne9 g, ih2]
        by_cases g2 : f ≤ s ∧ s < f + k
        · rw [if_pos g2, if_pos (by omega)]
        · rw [if_neg g2, if_neg (by omega)]
theorem gLast_upd {a b c : gF} {t : Nat} {x y z v : Int32} : ∀ n, n ≤ t → gLast (upd a t x) (upd b t y) (upd c t z) v n = gLast a b c v n
  | 0, _ => rfl
  | n + 1, h => by rw [gLast, gLast, gLast_upd n (by omega), upd_ne9 (by omega), upd_ne9 (by omega), upd_ne9 (by omega)]
theorem zs_sold {K M : kS} {j p f m t : Nat} (h : zRel K M j) (hp : p < 8) (hH : zHas (K 9) (K 10) (K 11) (K 12) (K 13) (K 14) (K 15) (M 5) (M 6) (M 7) (M 8) (M 9) (M 10) (M 11) p f m) (ht : K 22 0 = nI t) (ht2 : t < 1000) (hj : j < 512) : zRel (kSold K p f m t) (mSold M p f m) (j + 1) ∧ mSold M p f m 0 0 = M 0 0 := by
  obtain ⟨h1, ⟨b1, b2, b3, b4⟩, h3, h4, h5, ⟨t9, f1, f2, f3⟩⟩ := h
  have hH2 := hH
  obtain ⟨e1, e2, e3, e4, ⟨e5, e6, e7, e8⟩, e9, e10, e11, e12, e13, e14⟩ := hH
  have hm5 := zHas_m5 hH2
  have et : t9 = t := nI_inj (by omega) (by omega) (f1.symm.trans ht)
  subst et
  have hin : ∀ s, s < 60 → (gIn (M 5) (M 6) p s = true ↔ f ≤ s ∧ s < f + m) := fun s hs => gIn_at e3 e4 e5 e6 e7 hs
  have hB : ∀ s, f ≤ s → s < f + m → gHeld (M 5) (M 6) s = true := fun s g1 g2 => gHeld_iff.mpr ⟨p, hp, (hin s (by omega)).mpr ⟨g1, g2⟩⟩
  obtain ⟨⟨l1, l5⟩, l2, l3, l4⟩ := zsellS (N := setA M 5 (upd (M 5) p (-1))) hp (show f + m ≤ 60 by omega) hB ⟨h1, h5⟩ m (Nat.le_refl m)
  have fr := kSellS_fr K p f
  have mr := mSellS_fr (setA M 5 (upd (M 5) p (-1))) p f
  have k2 := fr 2 (by decide) (by decide) (by decide) (by decide) (by decide) (by decide) m
  have k3 := fr 3 (by decide) (by decide) (by decide) (by decide) (by decide) (by decide) m
  have k4 := fr 4 (by decide) (by decide) (by decide) (by decide) (by decide) (by decide) m
  have k5 := fr 5 (by decide) (by decide) (by decide) (by decide) (by decide) (by decide) m
  have k7 := fr 7 (by decide) (by decide) (by decide) (by decide) (by decide) (by decide) m
  have k9 := fr 9 (by decide) (by decide) (by decide) (by decide) (by decide) (by decide) m
  have k10 := fr 10 (by decide) (by decide) (by decide) (by decide) (by decide) (by decide) m
  have k11 := fr 11 (by decide) (by decide) (by decide) (by decide) (by decide) (by decide) m
  have k12 := fr 12 (by decide) (by decide) (by decide) (by decide) (by decide) (by decide) m
  have k13 := fr 13 (by decide) (by decide) (by decide) (by decide) (by decide) (by decide) m
  have k14 := fr 14 (by decide) (by decide) (by decide) (by decide) (by decide) (by decide) m
  have k15 := fr 15 (by decide) (by decide) (by decide) (by decide) (by decide) (by decide) m
  have k23 := fr 23 (by decide) (by decide) (by decide) (by decide) (by decide) (by decide) m
  have k24 := fr 24 (by decide) (by decide) (by decide) (by decide) (by decide) (by decide) m
  have k25 := fr 25 (by decide) (by decide) (by decide) (by decide) (by decide) (by decide) m
  have m1 : mSellS (setA M 5 (upd (M 5) p (-1))) p f m 1 = M 1 := mr 1 (by decide) (by decide) (by decide) (by decide) (by decide) m
  have m2 : mSellS (setA M 5 (upd (M 5) p (-1))) p f m 2 = M 2 := mr 2 (by decide) (by decide) (by decide) (by decide) (by decide) m
  have m4 : mSellS (setA M 5 (upd (M 5) p (-1))) p f m 4 = M 4 := mr 4 (by decide) (by decide) (by decide) (by decide) (by decide) m
  have m5 : mSellS (setA M 5 (upd (M 5) p (-1))) p f m 5 = upd (M 5) p (-1) := mr 5 (by decide) (by decide) (by decide) (by decide) (by decide) m
  have m6 : mSellS (setA M 5 (upd (M 5) p (-1))) p f m 6 = M 6 := mr 6 (by decide) (by decide) (by decide) (by decide) (by decide) m
  have m7 : mSellS (setA M 5 (upd (M 5) p (-1))) p f m 7 = M 7 := mr 7 (by decide) (by decide) (by decide) (by decide) (by decide) m
  have m8 : mSellS (setA M 5 (upd (M 5) p (-1))) p f m 8 = M 8 := mr 8 (by decide) (by decide) (by decide) (by decide) (by decide) m
  have m9 : mSellS (setA M 5 (upd (M 5) p (-1))) p f m 9 = M 9 := mr 9 (by decide) (by decide) (by decide) (by decide) (by decide) m
  have m10 : mSellS (setA M 5 (upd (M 5) p (-1))) p f m 10 = M 10 := mr 10 (by decide) (by decide) (by decide) (by decide) (by decide) m
  have m11 : mSellS (setA M 5 (upd (M 5) p (-1))) p f m 11 = M 11 := mr 11 (by decide) (by decide) (by decide) (by decide) (by decide) m
  refine ⟨⟨l1, ?_, ?_, ?_, ?_, ?_⟩, l3⟩
  · show zR2 (kSellS K p f m 2 0) (mSellS (setA M 5 (upd (M 5) p (-1))) p f m 0 3) (kSellS K p f m 3) (kSellS K p f m 4) (kSellS K p f m 5) (mSellS (setA M 5 (upd (M 5) p (-1))) p f m 1) (mSellS (setA M 5 (upd (M 5) p (-1))) p f m 2) (if M 7 p = (-1) then M 3 else upd (M 3) (8 * (M 7 p).toNatClampNeg + p) (M 3 (8 * (M 7 p).toNatClampNeg + p) + nI m)) (mSellS (setA M 5 (upd (M 5) p (-1))) p f m 5) (mSellS (setA M 5 (upd (M 5) p (-1))) p f m 6) (mSellS (setA M 5 (upd (M 5) p (-1))) p f m 7)
    rw [k2, k3, k4, k5, m1, m2, m5, m6, m7, l4]
    refine ⟨b1, b2, b3, fun c hc q hq => ?_⟩
    have b5 := b4 c hc q hq
    unfold gUsed at b5 ⊢
    by_cases hqp : q = p
    · subst hqp
      rw [upd_eq9, if_pos rfl]
      rw [if_neg hm5, e4] at b5
      rcases e14 with g | ⟨c0, hc0, g⟩
      · have g2 : ¬ M 7 q = nI c := fun z => nI_nm1 (by omega) (z.symm.trans g)
        rw [if_neg g2] at b5
        rw [if_pos g]; exact b5
      · have g3 : ¬ M 7 q = (-1) := by rw [g]; exact nI_nm1 (by omega)
        rw [if_neg g3, g, nI_clamp (by omega)]
        by_cases hcc : c = c0
        · subst hcc
          rw [if_pos g] at b5
          rw [upd_eq9, b5, nI_0, Int32.add_zero]
        · have g2 : ¬ M 7 q = nI c := fun z => hcc (nI_inj (by omega) (by omega) (z.symm.trans g))
          rw [if_neg g2] at b5
          rw [upd_ne9 (by omega)]; exact b5
    · rw [upd_ne9 hqp]
      rcases e14 with g | ⟨c0, hc0, g⟩
      · rw [if_pos g]; exact b5
      · have g3 : ¬ M 7 p = (-1) := by rw [g]; exact nI_nm1 (by omega)
        rw [if_neg g3, g, nI_clamp (by omega), upd_ne9 (by omega)]; exact b5
  · show zR3 (kSellS K p f m 7) (mSellS (setA M 5 (upd (M 5) p (-1))) p f m 4) (mSellS (setA M 5 (upd (M 5) p (-1))) p f m 5)
    rw [k7, m4, m5]
    exact zR3_drop h3
  · show zR4 (kSellS K p f m 9) (upd (kSellS K p f m 10) p (nI 0)) (kSellS K p f m 11) (kSellS K p f m 12) (kSellS K p f m 13) (kSellS K p f m 14) (kSellS K p f m 15) (mSellS (setA M 5 (upd (M 5) p (-1))) p f m 5) (mSellS (setA M 5 (upd (M 5) p (-1))) p f m 6) (mSellS (setA M 5 (upd (M 5) p (-1))) p f m 7) (mSellS (setA M 5 (upd (M 5) p (-1))) p f m 8) (mSellS (setA M 5 (upd (M 5) p (-1))) p f m 9) (mSellS (setA M 5 (upd (M 5) p (-1))) p f m 10) (mSellS (setA M 5 (upd (M 5) p (-1))) p f m 11)
    rw [k9, k10, k11, k12, k13, k14, k15, m5, m6, m7, m8, m9, m10, m11]
    exact zR4_drop h4
  · show zR5 (gHeld (mSellS (setA M 5 (upd (M 5) p (-1))) p f m 5) (mSellS (setA M 5 (upd (M 5) p (-1))) p f m 6)) (kSellS K p f m 17) (kSellS K p f m 18) (kSellS K p f m 19) (kSellS K p f m 20) (kSellS K p f m 21) (mSellS (setA M 5 (upd (M 5) p (-1))) p f m 13) (mSellS (setA M 5 (upd (M 5) p (-1))) p f m 14) (mSellS (setA M 5 (upd (M 5) p (-1))) p f m 15)
    rw [m5, m6]
    exact zR5_cong l5 (fun s hs => (gHeld_drop hp hs (hin s hs) h4.2).symm)
  · refine ⟨t9 + 1, rfl, ?_, fun s hs => ?_⟩
    · show 3 * (t9 + 1) + 2 * gQ (mSellS (setA M 5 (upd (M 5) p (-1))) p f m 5) + gQ (mSellS (setA M 5 (upd (M 5) p (-1))) p f m 4) ≤ j + 1
      rw [m5, m4]
      have := gQ_out1 (g := M 5) hp hm5
      omega
    · show gLast (upd (kSellS K p f m 23) t9 (nI f)) (upd (kSellS K p f m 24) t9 (nI m)) (upd (kSellS K p f m 25) t9 (nI p)) (nI s) (t9 + 1) = mSellS (setA M 5 (upd (M 5) p (-1))) p f m 13 s
      rw [k23, k24, k25, l2, gLast, gLast_upd t9 (Nat.le_refl t9), upd_eq9, upd_eq9, upd_eq9, nI_add, f3 s hs]
      by_cases g1 : s < f
      · rw [if_pos (nI_lt g1 (by omega)), if_neg (by omega)]; rfl
      · rw [if_neg (fun z => g1 ((nI_ltI (by omega) (by omega)).mp z))]
        by_cases g2 : f + m ≤ s
        · rw [if_pos (nI_le g2 (by omega)), if_neg (by omega)]; rfl
        · rw [if_neg (fun z => g2 ((nI_leI (by omega) (by omega)).mp z)), if_pos (by omega)]
theorem kPayT_m {K M : kS} {j : Nat} (h : zRel K M j) (a x : Int32) : kPayT K a x = if mIsP a then (if mIn x (nI 1) (nI 1000) then (if M 5 a.toNatClampNeg = (-1) then nI 3 else (if ¬ M 8 a.toNatClampNeg - M 9 a.toNatClampNeg < x then nI 0 else nI 3)) else nI 2) else nI 1 := by
  unfold kPayT
  rw [kNeedP_m, zseq_if _ _ zn1, zrange]
  by_cases q : mIsP a = true
  · obtain ⟨p, hp, -, hp7⟩ := mIsP_of q
    rw [if_pos q, if_pos q, hp7]
    unfold kNeedH hThere
    rw [zR4_th h.2.2.2.1 hp]
    by_cases q1 : M 5 p = (-1)
    · have hd : ¬ decide (¬ M 5 p = (-1)) = true := fun z => of_decide_eq_true z q1
      rw [if_pos q1, if_neg hd, zseq_n zn3]
    · obtain ⟨f, m, hH⟩ := zR4_there2 h.2.2.2.1 hp q1
      rw [if_neg q1, if_pos (decide_eq_true q1), zseq_0 rfl]
      unfold hLeft
      rw [hH.2.2.2.2.2.2.1, hH.2.2.2.2.2.2.2.1]
      simp only [Int32.not_lt]
  · rw [if_neg q, if_neg q]
theorem zpay_t {K M : kS} {j t : Nat} (h : zRel K M j) (ht : K 22 0 = nI t) (ht2 : 3 * t ≤ j) (hj : j < 512) (a x : Int32) (g : kPayT K a x = nI 0) : t < 170 := by
  rw [kPayT_m h] at g
  obtain ⟨g1, g⟩ := zif_0 zn1 g
  obtain ⟨-, g⟩ := zif_0 zn2 g
  obtain ⟨p, hp, -, hp7⟩ := mIsP_of g1
  rw [hp7] at g
  have hin : ¬ M 5 p = (-1) := fun z => by rw [if_pos z] at g; exact absurd g zn3
  obtain ⟨t9, h1, h2, -⟩ := h.2.2.2.2.2
  have e : t = t9 := nI_inj (by omega) (by omega) (ht.symm.trans h1)
  have h3 := gQ_out1 (g := M 5) hp hin
  omega
theorem zs_pay {K M : kS} {j t : Nat} (h : zRel K M j) (ht : K 22 0 = nI t) (ht2 : 3 * t ≤ j) (hj : j < 512) (a x : Int32) : (mPost (mPayT M a x) M (mPayE M a.toNatClampNeg x)) 0 0 = zPos (nI 1) (nI 2) (nI 3) (kPayT K a x) ∧ (∀ f : Nat → Int64, zPos (nI 1) (nI 2) (nI 3) (kPayT K a x) = nI 0 → zFK (kPayT K a x) (hLeft (kPayB K a.toNatClampNeg x) a.toNatClampNeg) f 0 = Int32.toInt64 (mRes (mPayT M a x) (mPayL M a.toNatClampNeg x))) ∧ zRel (zEK (kPayT K a x) (kPayE K a.toNatClampNeg t x) K) (mPost (mPayT M a x) M (mPayE M a.toNatClampNeg x)) (j + 1) := by
  have e := kPayT_m h a x
  refine zstep h kPayT_r (fun _ => zn1) (fun _ => zn2) (fun _ => zn3) ?_ (fun g => ?_)
  · rw [e]
    unfold mPayT mPayOk
    cases mIsP a
    · rfl
    · cases mIn x (nI 1) (nI 1000)
      · rfl
      · by_cases q1 : M 5 a.toNatClampNeg = (-1)
        · simp [q1, zPos_3]
        · by_cases q3 : M 8 a.toNatClampNeg - M 9 a.toNatClampNeg < x
          · simp [q1, q3, zPos_3]
          · simp [q1, q3, zPos_0]
  · rw [e] at g
    obtain ⟨g1, g⟩ := zif_0 zn1 g
    obtain ⟨g2, g⟩ := zif_0 zn2 g
    obtain ⟨p, hp, -, hp7⟩ := mIsP_of g1
    rw [hp7] at g ⊢
    have hin : ¬ M 5 p = (-1) := fun z => by rw [if_pos z] at g; exact absurd g zn3
    obtain ⟨f, m, hH⟩ := zR4_there2 h.2.2.2.1 hp hin
    have hB := zpayB x h hp
    have eL : hLeft (kPayB K p x) p = mPayL M p x := by
      show K 12 p - upd (K 13) p (K 13 p + x) p = M 8 p - (M 9 p + x)
      rw [upd_eq9, hH.2.2.2.2.2.2.1, hH.2.2.2.2.2.2.2.1]
    obtain ⟨f9, m9, hH9⟩ := zR4_there2 hB.2.2.2.1 hp (show ¬ mPayB M p x 5 p = (-1) from hin)
    have e9 : K 9 p = nI f9 := hH9.1
    have e10 : K 10 p = nI m9 := hH9.2.1
    have e5 : M 5 p = nI f9 := hH9.2.2.1
    have e6 : M 6 p = nI m9 := hH9.2.2.2.1
    have e7 := hH9.2.2.2.2.1
    unfold kPayE mPayE
    rw [eL, e9, e10, e5, e6, nI_clamp (show f9 < 2 ^ 31 by omega), nI_clamp (show m9 < 2 ^ 31 by omega)]
    by_cases q : mPayL M p x = 0
    · rw [if_pos q, if_pos q]
      obtain ⟨s1, s2⟩ := zs_sold hB hp hH9 ht (by omega) hj
      exact ⟨s2, rfl, s1⟩
    · rw [if_neg q, if_neg q]
      exact ⟨rfl, rfl, zRel_up (zprol hB hp hin) (Nat.le_succ j)⟩
