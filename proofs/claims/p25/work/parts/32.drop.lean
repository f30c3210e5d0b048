/-! holds that end: letGo, pass -/
theorem gIn_at {g5 g6 : gF} {p f m s : Nat} (h1 : g5 p = nI f) (h2 : g6 p = nI m) (hm : 1 ≤ m) (hm4 : m ≤ 4) (hf : f < 60) (hs : s < 60) : gIn g5 g6 p s = true ↔ f ≤ s ∧ s < f + m := by
  unfold gIn mIn
  obtain ⟨k, hk⟩ : ∃ k, f + m = k + 1 := ⟨f + m - 1, by omega⟩
  have e : nI f + nI m - nI 1 = nI k := by rw [nI_add, hk]; exact nI_pred k
  rw [h1, h2, e, decide_eq_true (nI_nm1 (by omega)), Bool.true_and]
  have e1 : (nI s < nI f) ↔ s < f := nI_ltI (by omega) (by omega)
  have e2 : (nI k < nI s) ↔ k < s := nI_ltI (by omega) (by omega)
  simp only [e1, e2, Bool.and_eq_true, Bool.not_eq_true', decide_eq_false_iff_not]
  omega
theorem gIn_ne {g5 g6 : gF} {p q s : Nat} {v w : Int32} (h : ¬ q = p) : gIn (upd g5 p v) (upd g6 p w) q s = gIn g5 g6 q s := by
  unfold gIn
  rw [upd_ne9 h, upd_ne9 h]
theorem gIn_ne1 {g5 g6 : gF} {p q s : Nat} {v : Int32} (h : ¬ q = p) : gIn (upd g5 p v) g6 q s = gIn g5 g6 q s := by
  unfold gIn
  rw [upd_ne9 h]
theorem gIn_no {g5 g6 : gF} {p s : Nat} (h : g5 p = (-1)) : gIn g5 g6 p s = false := by
  unfold gIn
  rw [decide_eq_false (fun z => z h)]; rfl
theorem bool_eq {a b : Bool} (h : a = true ↔ b = true) : a = b := by
  cases a <;> cases b <;> simp_all
theorem gHeld_drop {g5 g6 : gF} {p f m s : Nat} (hp : p < 8) (hs : s < 60) (hin : gIn g5 g6 p s = true ↔ f ≤ s ∧ s < f + m) (hdis : ∀ p q s, p < 8 → q < 8 → s < 60 → gIn g5 g6 p s = true → gIn g5 g6 q s = true → p = q) : gHeld (upd g5 p (-1)) g6 s = (gHeld g5 g6 s && !decide (f ≤ s ∧ s < f + m)) := by
  refine bool_eq ?_
  rw [gHeld_iff, Bool.and_eq_true, gHeld_iff]
  have hnp : gIn (upd g5 p (-1)) g6 p s = false := gIn_no upd_eq9
  refine ⟨fun ⟨q, hq, h⟩ => ?_, fun ⟨⟨q, hq, h⟩, h2⟩ => ?_⟩
  · have hne : ¬ q = p := fun e => by rw [e, hnp] at h; exact absurd h (by decide)
    rw [gIn_ne1 hne] at h
    refine ⟨⟨q, hq, h⟩, ?_⟩
    rw [Bool.not_eq_true', decide_eq_false_iff_not]
    exact fun z => hne (hdis q p s hq hp hs h (hin.mpr z))
  · rw [Bool.not_eq_true', decide_eq_false_iff_not] at h2
    have hne : ¬ q = p := fun e => by rw [e] at h; exact h2 (hin.mp h)
    exact ⟨q, hq, by rw [gIn_ne1 hne]; exact h⟩
theorem zs_drop {K M : kS} {j p f m : Nat} (h : zRel K M j) (hp : p < 8) (hH : zHas (K 9) (K 10) (K 11) (K 12) (K 13) (K 14) (K 15) (M 5) (M 6) (M 7) (M 8) (M 9) (M 10) (M 11) p f m) : zRel (kBack K p f m) (mDrop M p) j := by
  obtain ⟨⟨a1, a2, a3, a4, a5⟩, ⟨b1, b2, b3, b4⟩, ⟨c1, c2, c3⟩, ⟨d1, d2⟩, h5, ⟨t, f1, f2, f3⟩⟩ := h
  have hH2 := hH
  obtain ⟨e1, e2, e3, e4, ⟨e5, e6, e7, e8⟩, e9, e10, e11, e12, e13, e14⟩ := hH
  have hm5 := zHas_m5 hH2
  have hin : ∀ s, s < 60 → (gIn (M 5) (M 6) p s = true ↔ f ≤ s ∧ s < f + m) := fun s hs => gIn_at e3 e4 e5 e6 e7 hs
  refine ⟨⟨a1, a2, a3, a4, fun q hq => ?_⟩, ⟨b1, b2, b3, fun c hc q hq => ?_⟩, ⟨c1, c2, fun q hq hne => ?_⟩, ⟨fun q hq => ?_, fun q r s hq hr hs g1 g2 => ?_⟩, fun s hs => ?_, ⟨t, f1, ?_, f3⟩⟩
  · show upd (K 1) p (K 1 p - K 13 p) q = upd (M 12) p (M 12 p - M 9 p) q
    unfold upd
    split
    · rw [a5 p hp, e11]
    · exact a5 q hq
  · show (if K 11 p = (-1) then K 5 else upd (K 5) (8 * (K 11 p).toNatClampNeg + p) (K 5 (8 * (K 11 p).toNatClampNeg + p) + -(nI m))) (8 * c + q) = gUsed (M 3) (upd (M 5) p (-1)) (M 6) (M 7) c q
    have b5 := b4 c hc q hq
    unfold gUsed at b5 ⊢
    rw [e9]
    by_cases hqp : q = p
    · subst hqp
      rw [upd_eq9, if_pos rfl]
      rw [if_neg hm5, e4] at b5
      rcases e14 with g | ⟨c0, hc0, g⟩
      · have g2 : ¬ M 7 q = nI c := fun z => nI_nm1 (by omega) (z.symm.trans g)
        rw [if_neg g2] at b5
        rw [if_pos g]; exact b5
      · have g3 : ¬ M 7 q = (-1) := by rw [g]; exact nI_nm1 (by omega)
        rw [if_neg g3, g, nI_clamp (by omega)]
        by_cases hcc : c = c0
        · subst hcc
          rw [if_pos g] at b5
          rw [upd_eq9, b5, ← Int32.sub_eq_add_neg, Int32.add_sub_cancel, nI_0, Int32.add_zero]
        · have g2 : ¬ M 7 q = nI c := fun z => hcc (nI_inj (by omega) (by omega) (z.symm.trans g))
          rw [if_neg g2] at b5
          rw [upd_ne9 (by omega)]; exact b5
    · rw [upd_ne9 hqp]
      rcases e14 with g | ⟨c0, hc0, g⟩
      · rw [if_pos g]; exact b5
      · have g3 : ¬ M 7 p = (-1) := by rw [g]; exact nI_nm1 (by omega)
        rw [if_neg g3, g, nI_clamp (by omega), upd_ne9 (by omega)]; exact b5
  · show upd (M 5) p (-1) q = (-1)
    unfold upd
    split
    · rfl
    · exact c3 q hq hne
  · by_cases hqp : q = p
    · refine Or.inl ⟨?_, ?_⟩
      · show upd (K 10) p (nI 0) q ≤ 0
        rw [hqp, upd_eq9]; decide
      · show upd (M 5) p (-1) q = (-1)
        rw [hqp, upd_eq9]
    · rcases d1 q hq with ⟨g1, g2⟩ | ⟨f', m', z1, z2, z3, z4, z5, z6⟩
      · refine Or.inl ⟨?_, ?_⟩
        · show upd (K 10) p (nI 0) q ≤ 0
          rw [upd_ne9 hqp]; exact g1
        · show upd (M 5) p (-1) q = (-1)
          rw [upd_ne9 hqp]; exact g2
      · refine Or.inr ⟨f', m', z1, ?_, ?_, z4, z5, z6⟩
        · show upd (K 10) p (nI 0) q = nI m'
          rw [upd_ne9 hqp]; exact z2
        · show upd (M 5) p (-1) q = nI f'
          rw [upd_ne9 hqp]; exact z3
  · have g1 : gIn (upd (M 5) p (-1)) (M 6) q s = true := g1
    have g2 : gIn (upd (M 5) p (-1)) (M 6) r s = true := g2
    have hnp : gIn (upd (M 5) p (-1)) (M 6) p s = false := gIn_no upd_eq9
    have n1 : ¬ q = p := fun e => by rw [e, hnp] at g1; exact absurd g1 (by decide)
    have n2 : ¬ r = p := fun e => by rw [e, hnp] at g2; exact absurd g2 (by decide)
    rw [gIn_ne1 n1] at g1
    rw [gIn_ne1 n2] at g2
    exact d2 q r s hq hr hs g1 g2
  · obtain ⟨y1, y2, y3, y4, y5, y6, y7⟩ := h5 s hs
    have eB : gHeld (upd (M 5) p (-1)) (M 6) s = (gHeld (M 5) (M 6) s && !decide (f ≤ s ∧ s < f + m)) := gHeld_drop hp hs (hin s hs) d2
    refine ⟨?_, y2, y3, y4, y5, y6, fun z => y7 ?_⟩
    · show zfill (K 17) f m (nI 0) s = zb (gHeld (upd (M 5) p (-1)) (M 6) s)
      rw [eB]
      unfold zfill
      by_cases g : f ≤ s ∧ s < f + m
      · rw [if_pos g, decide_eq_true g]
        cases gHeld (M 5) (M 6) s <;> rfl
      · rw [if_neg g, decide_eq_false g, y1]
        cases gHeld (M 5) (M 6) s <;> rfl
    · have z : gHeld (upd (M 5) p (-1)) (M 6) s = true := z
      rw [eB, Bool.and_eq_true] at z
      exact z.1
  · show 3 * t + 2 * gQ (upd (M 5) p (-1)) + gQ (M 4) ≤ j
    have := gQ_out (g := M 5) hp
    omega
theorem zs_dropAt {K M : kS} {j p : Nat} (h : zRel K M j) (hp : p < 8) (hin : ¬ M 5 p = (-1)) : zRel (kBackAt K p) (mDrop M p) j := by
  obtain ⟨f, m, hH⟩ := zR4_there2 h.2.2.2.1 hp hin
  have e1 : K 9 p = nI f := hH.1
  have e2 : K 10 p = nI m := hH.2.1
  have e3 := hH.2.2.2.2.1
  unfold kBackAt
  rw [e1, e2, nI_clamp (by omega), nI_clamp (by omega)]
  exact zs_drop h hp hH
theorem zs_letGo {K M : kS} {j : Nat} (h : zRel K M j) (x : Int32) : (mPost (mGoT M x) M (mDrop (mGoes M (nI 0)) x.toNatClampNeg)) 0 0 = zPos (nI 1) (nI 0) (nI 2) (kGoT K x) ∧ (∀ f : Nat → Int64, zPos (nI 1) (nI 0) (nI 2) (kGoT K x) = nI 0 → zFK (kGoT K x) (K 13 x.toNatClampNeg) f 0 = Int32.toInt64 (mRes (mGoT M x) (M 9 x.toNatClampNeg))) ∧ zRel (zEK (kGoT K x) (kBackAt K x.toNatClampNeg) K) (mPost (mGoT M x) M (mDrop (mGoes M (nI 0)) x.toNatClampNeg)) (j + 1) := by
  have e : kGoT K x = if mIsP x then (if M 5 x.toNatClampNeg = (-1) then nI 3 else nI 0) else nI 1 := by
    unfold kGoT
    rw [zseq_z, kNeedP_m, zseq_if _ _ zn1]
    by_cases q : mIsP x = true
    · obtain ⟨p, hp, -, hp7⟩ := mIsP_of q
      rw [if_pos q, if_pos q, hp7]
      unfold kNeedH hThere
      rw [zR4_th h.2.2.2.1 hp]
      by_cases q1 : M 5 p = (-1)
      · simp [q1]
      · simp [q1]
    · rw [if_neg q, if_neg q]
  refine zstep h kGoT_r (fun _ => zn1) (fun q => nomatch q) (fun _ => zn2) ?_ (fun g => ?_)
  · rw [e, zPos_ite, zPos_ite, zPos_0, zPos_1, zPos_3]; rfl
  · rw [e] at g
    obtain ⟨g1, g⟩ := zif_0 zn1 g
    obtain ⟨p, hp, -, hp7⟩ := mIsP_of g1
    rw [hp7] at g ⊢
    have hin : ¬ M 5 p = (-1) := fun z => by rw [if_pos z] at g; exact absurd g zn3
    obtain ⟨f, m, hH⟩ := zR4_there2 h.2.2.2.1 hp hin
    exact ⟨rfl, hH.2.2.2.2.2.2.2.1, zs_dropAt (M := mGoes M (nI 0)) (zRel_goes (nI 0) (zRel_up h (Nat.le_succ j))) hp hin⟩
theorem zpassS {K M : kS} {j : Nat} (h : zRel K M j) : ∀ i, i ≤ 8 → zRel (kPassS K i) (mPassS M i) j ∧ kPassN K i = mPassN M i ∧ mPassS M i 0 = M 0
  | 0, _ => ⟨h, rfl, rfl⟩
  | i + 1, hi => by
    obtain ⟨ih, ihn, ih0⟩ := zpassS h i (by omega)
    have hp : i < 8 := by omega
    rw [kPassS, mPassS, kPassN, mPassN]
    unfold hThere
    rw [zR4_th ih.2.2.2.1 hp]
    by_cases g : mPassS M i 5 i = (-1)
    · have hd : ¬ decide (¬ mPassS M i 5 i = (-1)) = true := fun z => of_decide_eq_true z g
      rw [if_neg hd, if_pos g, if_neg hd, if_pos g]
      exact ⟨ih, ihn, ih0⟩
    · obtain ⟨f, m, hH⟩ := zR4_there2 ih.2.2.2.1 hp g
      have hd : decide (¬ mPassS M i 5 i = (-1)) = true := decide_eq_true g
      rw [if_pos hd, if_neg g, if_pos hd, if_neg g, hH.2.2.2.2.2.2.2.2.1, ih.1.1]
      by_cases g2 : mPassS M i 0 1 < mPassS M i 11 i
      · rw [if_pos g2, if_pos g2, if_pos g2, if_pos g2]
        exact ⟨ih, ihn, ih0⟩
      · rw [if_neg g2, if_neg g2, if_neg g2, if_neg g2, ihn]
        exact ⟨zs_dropAt ih hp g, rfl, ih0⟩
theorem zs_pass {K M : kS} {j : Nat} (h : zRel K M j) (x : Int32) : (mPost (mPassT M x) M (mPassE M x)) 0 0 = zPos (nI 0) (nI 1) (nI 2) (kPassT K x) ∧ (∀ f : Nat → Int64, zPos (nI 0) (nI 1) (nI 2) (kPassT K x) = nI 0 → zFK (kPassT K x) (nI (kPassN (kPassB K x) 8)) f 0 = Int32.toInt64 (mRes (mPassT M x) (nI (mPassN (mPassB M x) 8)))) ∧ zRel (zEK (kPassT K x) (kPassS (kPassB K x) 8) K) (mPost (mPassT M x) M (mPassE M x)) (j + 1) := by
  have e : kPassT K x = if mIn x (nI 1) (nI 500) then (if M 0 1 + x ≤ nI 10000 then nI 0 else nI 3) else nI 2 := by
    unfold kPassT
    rw [zrange, h.1.1]
  refine zstep h kPassT_r (fun q => nomatch q) (fun _ => zn1) (fun _ => zn2) ?_ (fun g => ?_)
  · rw [e, zPos_ite, zPos_ite, zPos_0, zPos_2, zPos_3]; rfl
  · rw [e] at g
    obtain ⟨g1, g⟩ := zif_0 zn2 g
    obtain ⟨g2, -⟩ := zif_0 zn3 g
    obtain ⟨x9, hx1, hx2, hx3, -⟩ := mIn_of1 (by decide) (by decide) g1
    obtain ⟨⟨a1, a2, a3, ⟨t, ht, a4⟩, a5⟩, hr⟩ := zRel_up h (Nat.le_succ j)
    have hB : zRel (kPassB K x) (mPassB M x) (j + 1) := by
      refine ⟨⟨?_, a2, a3, ⟨t + x9, ?_, ?_⟩, a5⟩, hr⟩
      · show K 0 0 + x = M 0 1 + x
        rw [a1]
      · rw [a4, hx3, nI_add] at g2
        exact (nI_leI (by omega) (by decide)).mp g2
      · show M 0 1 + x = nI (t + x9)
        rw [a4, hx3, nI_add]
    obtain ⟨h1, h2, h3⟩ := zpassS hB 8 (Nat.le_refl 8)
    refine ⟨?_, congrArg nI h2, h1⟩
    show mPassS (mPassB M x) 8 0 0 = nI 0
    rw [h3]; rfl
