/-! the calls keep it: payments, sales, holds, offers -/
theorem zseq_00 {a b : Int32} (h : zseq a b = nI 0) : a = nI 0 ∧ b = nI 0 := by
  by_cases g : a = nI 0
  · rw [zseq_0 g] at h; exact ⟨g, h⟩
  · rw [zseq_n g] at h; exact absurd h g
/-- what a payment asks -/
theorem wPay_of {K : kS} {a x : Int32} (g : kPayT K a x = nI 0) : ∃ p x9, p < 8 ∧ a.toNatClampNeg = p ∧ 1 ≤ x9 ∧ x9 ≤ 1000 ∧ x = nI x9 ∧ ¬ K 10 p ≤ 0 ∧ x ≤ hLeft K p := by
  unfold kPayT at g
  obtain ⟨g1, g⟩ := zseq_00 g
  obtain ⟨p, hp, -, hp7⟩ := kNeedP_of g1
  rw [zrange] at g
  obtain ⟨g2, g⟩ := zif_0 zn2 g
  obtain ⟨x9, hx1, hx2, hx3, -⟩ := mIn_of1 (by decide) (by decide) g2
  obtain ⟨g3, g⟩ := zseq_00 g
  rw [hp7] at g3 g
  obtain ⟨g4, -⟩ := zif_0 zn3 g
  exact ⟨p, x9, hp, hp7, hx1, hx2, hx3, wThere.mp (kNeedH_of g3), g4⟩
theorem wPayB {K : kS} {j p t x9 : Nat} (h : wAll K j (fun _ => t) t t) (hp : p < 8) (ht : ¬ K 10 p ≤ 0) (hx : x9 ≤ 1000) : wAll (kPayB K p (nI x9)) (j + 1) (fun _ => t) t t := by
  obtain ⟨h1, h0, h2, h3, ⟨q, h4, h5⟩, h6, h7, h8⟩ := h
  refine ⟨h1, h0, h2, h3, ⟨q, by omega, h5⟩, h6, fun r hr g => ?_, ?_⟩
  · obtain ⟨f, m, a, b, c, e1, e2, e3, e4, e5, e6, e7, e8, e9, e10, e11⟩ := h7 r hr g
    by_cases e : r = p
    · subst e
      refine ⟨f, m, a, b, c + x9, e1, e2, e3, e4, e5, e6, e7, e8, e9, ?_, by omega⟩
      show upd (K 13) r (K 13 r + nI x9) r = nI (c + x9)
      rw [upd_eq9, e10, nI_add]
    · exact ⟨f, m, a, b, c, e1, e2, e3, e4, e5, e6, e7, e8, e9, (upd_ne9 e).trans e10, by omega⟩
  · show zsm (upd (K 1) p (K 1 p + nI x9)) 8 = K 0 2 + zsm (wPd (K 10) (upd (K 13) p (K 13 p + nI x9))) 8
    have e : wPd (K 10) (upd (K 13) p (K 13 p + nI x9)) = upd (wPd (K 10) (K 13)) p (wPd (K 10) (K 13) p + nI x9) := by
      funext q
      by_cases e : q = p
      · subst e
        rw [upd_eq9]
        unfold wPd
        rw [if_neg ht, if_neg ht, upd_eq9]
      · rw [upd_ne9 e]
        unfold wPd
        rw [upd_ne9 e]
    rw [e, zsm_add hp, zsm_add hp, ← Int32.add_assoc]
    exact congrArg (fun z => z + nI x9) h8
theorem wProl {K : kS} {j p t : Nat} (h : wAll K j (fun _ => t) t t) (hp : p < 8) (ht : ¬ K 10 p ≤ 0) : wAll (kProl K p) j (fun _ => t) t t := by
  obtain ⟨h1, h0, h2, h3, h4, h6, h7, h8⟩ := h
  refine ⟨h1, h0, h2, h3, h4, h6, fun r hr g => ?_, h8⟩
  obtain ⟨f, m, a, b, c, e1, e2, e3, e4, e5, e6, e7, e8, e9, e10⟩ := h7 r hr g
  by_cases e : r = p
  · subst e
    by_cases z : K 14 r < K 15 r + nI 5
    · refine ⟨f, m, b, b, c, e1, e2, e3, e4, ?_, e6, by omega, Nat.le_refl _, e9, e10⟩
      show upd (K 15) r (if K 14 r < K 15 r + nI 5 then K 14 r else K 15 r + nI 5) r = nI b
      rw [upd_eq9, if_pos z, e6]
    · have z2 := z
      rw [e5, e6, nI_add] at z2
      have z3 : ¬ b < a + 5 := fun y => z2 ((nI_ltI (by omega) (by omega)).mpr y)
      refine ⟨f, m, a + 5, b, c, e1, e2, e3, e4, ?_, e6, by omega, by omega, e9, e10⟩
      show upd (K 15) r (if K 14 r < K 15 r + nI 5 then K 14 r else K 15 r + nI 5) r = nI (a + 5)
      rw [upd_eq9, if_neg z, e5, nI_add]
  · exact ⟨f, m, a, b, c, e1, e2, e3, e4, (upd_ne9 e).trans e5, e6, e7, e8, e9, e10⟩
theorem kSell1_0 (S : kS) (p s i : Nat) (h : ¬ i = 2) : kSell1 S p s 0 i = S 0 i := by
  show (if S 19 s = (-1) then setA S 0 (upd (S 0) 2 (S 0 2 + S 20 s)) else setA S 1 (upd (S 1) (S 19 s).toNatClampNeg (S 1 (S 19 s).toNatClampNeg - S 20 s))) 0 i = S 0 i
  split
  · show upd (S 0) 2 (S 0 2 + S 20 s) i = S 0 i
    exact upd_ne9 h
  · rfl
theorem kSellS_0 (S : kS) (p f i : Nat) (h : ¬ i = 2) : ∀ k, kSellS S p f k 0 i = S 0 i
  | 0 => rfl
  | k + 1 => by rw [kSellS, kSell1_0 _ _ _ _ h, kSellS_0 S p f i h k]
/-- the money of a sale, seat by seat -/
theorem wSell {S : kS} {j p f m : Nat} {C : Int32} (hp : p < 8) (how : kOwn S) (hpr : ∀ x, x < 60 → ∃ c, c ≤ 10000 ∧ S 20 x = nI c) (hm : f + m ≤ 60) (h8 : zsm (S 1) 8 = S 0 2 + C) {q : Nat} (hq : q ≤ 40000 * j) (hq2 : S 0 2 = nI q) : ∀ k, k ≤ m → kOwn (kSellS S p f k) ∧ zsm (kSellS S p f k 1) 8 + zsm (fun i => S 20 (f + i)) k = kSellS S p f k 0 2 + C ∧ ∃ q, q ≤ 40000 * j + 10000 * k ∧ kSellS S p f k 0 2 = nI q
  | 0, _ => ⟨how, by show zsm (S 1) 8 + nI 0 = S 0 2 + C; rw [nI_0, Int32.add_zero]; exact h8, q, by omega, hq2⟩
  | k + 1, hk => by
    obtain ⟨h1, h2, q1, h3, h4⟩ := wSell hp how hpr hm h8 hq hq2 k (by omega)
    obtain ⟨c, hc, ec⟩ := hpr (f + k) (by omega)
    have e20 : kSellS S p f k 20 = S 20 := kSellS_fr S p f 20 (by decide) (by decide) (by decide) (by decide) (by decide) (by decide) k
    refine ⟨kOwn_1 hp h1, ?_, ?_⟩
    · rw [kSellS, zsm]
      show zsm ((if kSellS S p f k 19 (f + k) = (-1) then setA (kSellS S p f k) 0 (upd (kSellS S p f k 0) 2 (kSellS S p f k 0 2 + kSellS S p f k 20 (f + k))) else setA (kSellS S p f k) 1 (upd (kSellS S p f k 1) (kSellS S p f k 19 (f + k)).toNatClampNeg (kSellS S p f k 1 (kSellS S p f k 19 (f + k)).toNatClampNeg - kSellS S p f k 20 (f + k)))) 1) 8 + (zsm (fun i => S 20 (f + i)) k + S 20 (f + k)) = (if kSellS S p f k 19 (f + k) = (-1) then setA (kSellS S p f k) 0 (upd (kSellS S p f k 0) 2 (kSellS S p f k 0 2 + kSellS S p f k 20 (f + k))) else setA (kSellS S p f k) 1 (upd (kSellS S p f k 1) (kSellS S p f k 19 (f + k)).toNatClampNeg (kSellS S p f k 1 (kSellS S p f k 19 (f + k)).toNatClampNeg - kSellS S p f k 20 (f + k)))) 0 2 + C
      rw [e20]
      by_cases g : kSellS S p f k 19 (f + k) = (-1)
      · rw [if_pos g]
        show zsm (kSellS S p f k 1) 8 + (zsm (fun i => S 20 (f + i)) k + S 20 (f + k)) = upd (kSellS S p f k 0) 2 (kSellS S p f k 0 2 + S 20 (f + k)) 2 + C
        rw [upd_eq9, ← Int32.add_assoc, h2, rA]
      · rw [if_neg g]
        obtain ⟨o, ho, eo⟩ := (h1 (f + k) (by omega)).resolve_left g
        show zsm (upd (kSellS S p f k 1) (kSellS S p f k 19 (f + k)).toNatClampNeg (kSellS S p f k 1 (kSellS S p f k 19 (f + k)).toNatClampNeg - S 20 (f + k))) 8 + (zsm (fun i => S 20 (f + i)) k + S 20 (f + k)) = kSellS S p f k 0 2 + C
        rw [eo, nI_clamp (by omega), rB, zsm_sub ho]
        exact h2
    · rw [kSellS]
      show ∃ q, q ≤ 40000 * j + 10000 * (k + 1) ∧ (if kSellS S p f k 19 (f + k) = (-1) then setA (kSellS S p f k) 0 (upd (kSellS S p f k 0) 2 (kSellS S p f k 0 2 + kSellS S p f k 20 (f + k))) else setA (kSellS S p f k) 1 (upd (kSellS S p f k 1) (kSellS S p f k 19 (f + k)).toNatClampNeg (kSellS S p f k 1 (kSellS S p f k 19 (f + k)).toNatClampNeg - kSellS S p f k 20 (f + k)))) 0 2 = nI q
      rw [e20]
      by_cases g : kSellS S p f k 19 (f + k) = (-1)
      · rw [if_pos g]
        refine ⟨q1 + c, by omega, ?_⟩
        show upd (kSellS S p f k 0) 2 (kSellS S p f k 0 2 + S 20 (f + k)) 2 = nI (q1 + c)
        rw [upd_eq9, h4, ec, nI_add]
      · rw [if_neg g]
        exact ⟨q1, by omega, h4⟩
theorem wSold {B : kS} {j p f m t9 t : Nat} (h : wAll B j (fun _ => t) t t) (how : kOwn B) (hp : p < 8) (ht : ¬ B 10 p ≤ 0) (hf : B 9 p = nI f) (hm : B 10 p = nI m) (hf9 : f < 60) (hm9 : m ≤ 4) (hl : hLeft B p = 0) : wAll (kSold B p f m t9) (j + 1) (fun _ => t) t t := by
  obtain ⟨h1, h0, h2, h3, ⟨q, h4, h5⟩, h6, h7, h8⟩ := h
  obtain ⟨f', m', a, b, c, e1, e2, e3, e4, -⟩ := h7 p hp ht
  have ef : f' = f := nI_inj (by omega) (by omega) (e1.symm.trans hf)
  have em : m' = m := nI_inj (by omega) (by omega) (e2.symm.trans hm)
  subst ef
  subst em
  obtain ⟨-, w2, w3⟩ := wSell (j := j) (C := zsm (wPd (B 10) (B 13)) 8) hp how h6 (f := f') (m := m') (by omega) h8 h4 h5 m' (Nat.le_refl _)
  have fr : ∀ i, i ≠ 0 → i ≠ 1 → i ≠ 17 → i ≠ 18 → i ≠ 19 → i ≠ 21 → kSellS B p f' m' i = B i := fun i a1 a2 a3 a4 a5 a6 => kSellS_fr B p f' i a1 a2 a3 a4 a5 a6 m'
  have k9 : kSellS B p f' m' 9 = B 9 := fr 9 (by decide) (by decide) (by decide) (by decide) (by decide) (by decide)
  have k10 : kSellS B p f' m' 10 = B 10 := fr 10 (by decide) (by decide) (by decide) (by decide) (by decide) (by decide)
  have k12 : kSellS B p f' m' 12 = B 12 := fr 12 (by decide) (by decide) (by decide) (by decide) (by decide) (by decide)
  have k13 : kSellS B p f' m' 13 = B 13 := fr 13 (by decide) (by decide) (by decide) (by decide) (by decide) (by decide)
  have k14 : kSellS B p f' m' 14 = B 14 := fr 14 (by decide) (by decide) (by decide) (by decide) (by decide) (by decide)
  have k15 : kSellS B p f' m' 15 = B 15 := fr 15 (by decide) (by decide) (by decide) (by decide) (by decide) (by decide)
  have k20 : kSellS B p f' m' 20 = B 20 := fr 20 (by decide) (by decide) (by decide) (by decide) (by decide) (by decide)
  show wGen (kSellS B p f' m' 0 0) (kSellS B p f' m' 0 1) (kSellS B p f' m' 0 2) (kSellS B p f' m' 1) (kSellS B p f' m' 9) (upd (kSellS B p f' m' 10) p (nI 0)) (kSellS B p f' m' 12) (kSellS B p f' m' 13) (kSellS B p f' m' 14) (kSellS B p f' m' 15) (kSellS B p f' m' 20) (j + 1) (fun _ => t) t t
  rw [k9, k10, k12, k13, k14, k15, k20, kSellS_0 B p f' 0 (by decide), kSellS_0 B p f' 1 (by decide)]
  obtain ⟨q1, w4, w5⟩ := w3
  refine ⟨h1, h0, h2, h3, ⟨q1, by omega, w5⟩, h6, fun r hr g => ?_, ?_⟩
  · by_cases e : r = p
    · subst e; rw [upd_eq9] at g; exact absurd (by decide) g
    · rw [upd_ne9 e] at g
      obtain ⟨f, m, a, b, c, e1, e2, e3⟩ := wHd_up (h7 r hr g) (show 1000 * j ≤ 1000 * (j + 1) by omega) (Nat.le_refl _)
      exact ⟨f, m, a, b, c, e1, (upd_ne9 e).trans e2, e3⟩
  · unfold wMon
    rw [wPd_0]
    have e5 := zsm_0 (g := wPd (B 10) (B 13)) hp
    have e6 : wPd (B 10) (B 13) p = B 13 p := if_neg ht
    have e7 : B 12 p = B 13 p := rD hl
    rw [e6, ← e7, e4] at e5
    refine rC (b := zsm (fun k => B 20 (f' + k)) m') ?_
    rw [w2, Int32.add_assoc, e5]
theorem w_pay {K M : kS} {i j t9 : Nat} {a x : Int32} (hz : zRel K M i) (h : wGood K j) (g : kPayT K a x = nI 0) : wGood (kPayE K a.toNatClampNeg t9 x) (j + 2) := by
  obtain ⟨p, x9, hp, hp7, hx1, hx2, hx3, ht, -⟩ := wPay_of g
  obtain ⟨t, h⟩ := h
  rw [hp7, hx3]
  have hB := wPayB h hp ht hx2
  obtain ⟨f, m, a1, b1, c1, e1, e2, e3, -⟩ := h.2.2.2.2.2.2.1 p hp ht
  unfold kPayE
  rw [e1, e2, nI_clamp (show f < 2 ^ 31 by omega), nI_clamp (show m < 2 ^ 31 by omega)]
  by_cases hl : hLeft (kPayB K p (nI x9)) p = 0
  · rw [if_pos hl]
    have how : kOwn (kPayB K p (nI x9)) := (zRel_own hz : kOwn K)
    exact ⟨t, wSold hB how hp ht e1 e2 (by omega) e3.2.1 hl⟩
  · rw [if_neg hl]
    exact ⟨t, wAll_up (wProl hB hp ht) (by omega)⟩
/-- what is left to be paid is a number, never below nothing -/
theorem wPay_left {K : kS} {j : Nat} {a x : Int32} (h : wGood K j) (hj : j ≤ 1000) (g : kPayT K a x = nI 0) : ∃ C, C < 2 ^ 31 ∧ hLeft (kPayB K a.toNatClampNeg x) a.toNatClampNeg = nI C := by
  obtain ⟨p, x9, hp, hp7, hx1, hx2, hx3, ht, hle⟩ := wPay_of g
  obtain ⟨t, h1, h0, h2, h3, h4, h6, h7, h8⟩ := h
  rw [hp7, hx3]
  obtain ⟨f, m, a1, b1, c1, e1, e2, ⟨e3, e31, e32⟩, e4, e5, e6, e7, e8, e9, e10, e11⟩ := h7 p hp ht
  obtain ⟨C, hC, eC⟩ := zsm_nat (g := fun k => K 20 (f + k)) (B := 10000) m (fun k hk => h6 (f + k) (by omega))
  have hC2 : C ≤ 40000 := Nat.le_trans hC (Nat.mul_le_mul_left 10000 e31)
  have hl : hLeft K p = nI C - nI c1 := by
    unfold hLeft
    rw [e4, eC, e10]
  rw [hl, hx3] at hle
  have hle2 := Int32.le_iff_toInt_le.mp hle
  rw [nI_toInt (by omega), pk_sub_toInt (by omega) (by omega)] at hle2
  refine ⟨C - (c1 + x9), by omega, ?_⟩
  show K 12 p - upd (K 13) p (K 13 p + nI x9) p = nI (C - (c1 + x9))
  rw [upd_eq9, e4, eC, e10, nI_add, pk_sub (by omega)]
theorem wFree {K M : kS} {i s p f m : Nat} (hz : zRel K M i) (hs : s < 60) (hn : ¬ sState K s = nI 1) (hp : p < 8) (ht : ¬ K 10 p ≤ 0) (hf : K 9 p = nI f) (hm : K 10 p = nI m) (hf9 : f < 60) (hm9 : m ≤ 4) : ¬ (f ≤ s ∧ s < f + m) := fun hin => by
  have h17 : K 17 s = 0 := by
    by_cases g : K 17 s = 0
    · exact g
    · exact absurd (show sState K s = nI 1 from if_neg g) hn
  obtain ⟨f', m', e1, e2, e3, e4, ⟨e5, e6, e7, e8⟩, -⟩ := zR4_there hz.2.2.2.1 hp ht
  have ef : f' = f := nI_inj (by omega) (by omega) (e1.symm.trans hf)
  have em : m' = m := nI_inj (by omega) (by omega) (e2.symm.trans hm)
  subst ef
  subst em
  have hg : gHeld (M 5) (M 6) s = true := gHeld_iff.mpr ⟨p, hp, (gIn_at e3 e4 e5 e6 e7 hs).mpr hin⟩
  rw [(hz.2.2.2.2.1 s hs).1, hg] at h17
  exact absurd h17 (by decide)
theorem w_offer {K M : kS} {i j : Nat} {a s x : Int32} (hz : zRel K M i) (h : wGood K j) (g : kOffT K a s x = nI 0) : wGood (kPut K s.toNatClampNeg x) j ∧ ∃ x9, 1 ≤ x9 ∧ x9 ≤ 10000 ∧ nI x9 ≤ sCeil K s.toNatClampNeg := by
  unfold kOffT at g
  obtain ⟨-, g⟩ := zseq_00 g
  obtain ⟨g2, g⟩ := zseq_00 g
  obtain ⟨s9, hs, -, hs7⟩ := kNeedS_of g2
  rw [zrange] at g
  obtain ⟨g3, g⟩ := zif_0 zn2 g
  obtain ⟨x9, hx1, hx2, hx3, -⟩ := mIn_of1 (by decide) (by decide) g3
  obtain ⟨g4, g⟩ := zif_0 zn3 g
  obtain ⟨-, g⟩ := zif_0 zn3 g
  obtain ⟨g6, -⟩ := zif_0 zn3 g
  rw [hs7] at g4 g6 ⊢
  rw [hx3] at g6 ⊢
  obtain ⟨t, h1, h0, h2, h3, h4, h6, h7, h8⟩ := h
  refine ⟨⟨t, h1, h0, h2, h3, h4, fun y hy => ?_, fun p hp ht => ?_, h8⟩, x9, hx1, hx2, g6⟩
  · show ∃ c, c ≤ 10000 ∧ upd (K 20) s9 (nI x9) y = nI c
    by_cases e : y = s9
    · rw [e, upd_eq9]; exact ⟨x9, hx2, rfl⟩
    · rw [upd_ne9 e]; exact h6 y hy
  · obtain ⟨f, m, a, b, c, e1, e2, e3, e4, e5⟩ := h7 p hp ht
    have hne := wFree hz hs (show ¬ sState K s9 = nI 1 by rw [g4]; decide) hp ht e1 e2 (by omega) e3.2.1
    refine ⟨f, m, a, b, c, e1, e2, e3, e4.trans ?_, e5⟩
    exact zsm_eq m (fun k hk => (upd_ne9 (fun e => hne (by omega))).symm)
theorem w_hold {K M : kS} {i j : Nat} {a r q m c : Int32} (hz : zRel K M i) (h : wGood K j) (g : kHoldT K a r q m c = nI 0) : wGood (kHoldE K a.toNatClampNeg (mHF r q) m.toNatClampNeg c) j ∧ ∃ C, C ≤ 40000 ∧ kHoldR K (mHF r q) m.toNatClampNeg = nI C := by
  unfold kHoldT at g
  obtain ⟨g1, g⟩ := zseq_00 g
  obtain ⟨p, hp, hp8, hp7⟩ := kNeedP_of g1
  obtain ⟨g2, g⟩ := zseq_00 g
  obtain ⟨r9, hr, -, hr7⟩ := kNeedR_of g2
  by_cases q1 : q < 0
  · rw [if_pos q1] at g; exact absurd g zn1
  rw [if_neg q1] at g
  by_cases q2 : q < nI 10
  case neg => rw [if_neg q2] at g; exact absurd g zn1
  rw [if_pos q2] at g
  obtain ⟨q9, hq9, hq8, hq7⟩ := zn_of (by decide) q1 q2
  obtain ⟨-, g⟩ := zseq_00 g
  by_cases m1 : m < nI 1
  · rw [if_pos m1] at g; exact absurd g zn2
  rw [if_neg m1] at g
  by_cases m2 : nI 4 < m
  · rw [if_pos m2] at g; exact absurd g zn2
  rw [if_neg m2] at g
  by_cases m3 : q + m ≤ nI 10
  case neg => rw [if_neg m3] at g; exact absurd g zn2
  rw [if_pos m3] at g
  obtain ⟨m9, hm9, hm6, hm8, hm7, hqm⟩ := zmany hq8 hq9 m1 m2 m3
  obtain ⟨g5, -⟩ := zif_0 zn3 g
  have hF : mHF r q = 10 * r9 + q9 := by unfold mHF; rw [hr7, hq7]
  rw [hp7, hF, hm7]
  have hsv : ¬ lServ K = (-1) := by rw [g5, hp8]; exact nI_nm1 (by omega)
  obtain ⟨s1, s2⟩ := lServ_at hsv
  obtain ⟨p', hp', s3, -, s4, -⟩ := lAt_of s2
  have ep : p' = p := nI_inj (by omega) (by omega) (by rw [← s3, ← s1, g5, hp8])
  subst ep
  have h7' : ¬ K 7 p' = (-1) := of_decide_eq_true s4
  have h10 : K 10 p' ≤ 0 := by
    have e7 := hz.2.2.1.1 p' hp
    rw [e7] at h7'
    exact (zR4_same hz.2.2.2.1 hp).mpr (hz.2.2.1.2.2 p' hp h7')
  obtain ⟨t, h1, h0, h2, h3, h4, h6, h7, h8⟩ := h
  obtain ⟨C, hC, eC⟩ := zsm_nat (g := fun k => K 20 (10 * r9 + q9 + k)) (B := 10000) m9 (fun k hk => h6 (10 * r9 + q9 + k) (by omega))
  have hC2 : C ≤ 40000 := Nat.le_trans hC (Nat.mul_le_mul_left 10000 hm6)
  refine ⟨⟨t, ?_⟩, C, hC2, eC⟩
  show wGen (K 0 0) (K 0 1) (K 0 2) (K 1) (upd (K 9) p' (nI (10 * r9 + q9))) (upd (K 10) p' (nI m9)) (upd (K 12) p' (kHoldR K (10 * r9 + q9) m9)) (upd (K 13) p' (nI 0)) (upd (K 14) p' (K 0 0 + nI 30)) (upd (K 15) p' (K 0 0 + nI 10)) (K 20) j (fun _ => t) t t
  refine ⟨h1, h0, h2, h3, h4, h6, fun x hx ht => ?_, ?_⟩
  · by_cases e : x = p'
    · subst e
      refine ⟨10 * r9 + q9, m9, t + 10, t + 30, 0, upd_eq9, upd_eq9, ⟨hm9, hm6, by omega⟩, upd_eq9, ?_, ?_, (show t < t + 10 from by omega), by omega, by omega, upd_eq9, Nat.zero_le _⟩
      · rw [upd_eq9, h2, nI_add]
      · rw [upd_eq9, h2, nI_add]
    · rw [upd_ne9 e] at ht
      obtain ⟨f, m, a, b, c, e1, e2, e3, e4, e5, e6, e7, e8, e9, e10, e11⟩ := h7 x hx ht
      exact ⟨f, m, a, b, c, (upd_ne9 e).trans e1, (upd_ne9 e).trans e2, e3, (upd_ne9 e).trans e4, (upd_ne9 e).trans e5, (upd_ne9 e).trans e6, e7, e8, e9, (upd_ne9 e).trans e10, e11⟩
  · have e : wPd (upd (K 10) p' (nI m9)) (upd (K 13) p' (nI 0)) = wPd (K 10) (K 13) := by
      funext x
      unfold wPd
      by_cases e : x = p'
      · subst e
        rw [upd_eq9, upd_eq9, if_pos h10]
        split <;> rfl
      · rw [upd_ne9 e, upd_ne9 e]
    unfold wMon
    rw [e]; exact h8
theorem w_set {K : kS} {j : Nat} {x : Int32} (h : wGood K j) (g : kSetT x = nI 0) : wGood (kSetE K x) j := by
  unfold kSetT at g
  by_cases g1 : x < 0
  · rw [if_pos g1] at g; exact absurd g zn2
  rw [if_neg g1] at g
  obtain ⟨x9, hx, e⟩ := nI_of g1
  obtain ⟨g2, -⟩ := zif_0 zn2 g
  rw [e] at g2
  have g3 := (nI_leI hx (by decide)).mp g2
  obtain ⟨t, h1, h0, h2, h3, h4, h6, h7, h8⟩ := h
  exact ⟨t, h1, h0, h2, ⟨x9, g3, e⟩, h4, h6, h7, h8⟩
