/-! what the checks ask, out of it -/
theorem sState_cs (K : kS) (s : Nat) : sState K s = nI 0 ∨ sState K s = nI 1 ∨ sState K s = nI 2 ∨ sState K s = nI 3 := by
  unfold sState
  split
  · split
    · exact Or.inl rfl
    · split
      · exact Or.inr (Or.inr (Or.inl rfl))
      · exact Or.inr (Or.inr (Or.inr rfl))
  · exact Or.inr (Or.inl rfl)
theorem gOp_d (K : kS) (s : Nat) : gOp K s = (decide (sState K s = 0) || decide (sState K s = nI 3)) := by
  unfold gOp
  rcases sState_cs K s with h | h | h | h <;> rw [h] <;> decide +kernel
theorem sOpen_at {K : kS} {r q : Nat} (hq : q < 10) : sOpen K r (nI q) = gOp K (10 * r + q) := by
  unfold sOpen
  rw [if_neg (Int32.not_lt.mpr (nI_pos' (by omega))), if_pos ((nI_ltI (by omega) (by omega)).mpr hq), nI_clamp (by omega), gOp_d]
theorem kSin_g {K : kS} {s : Nat} (hs : s < 60) : kSinR K s = gSi K s := by
  have h1 : sOpen K (s / 10) (nI (s % 10)) = gOp K s := by rw [sOpen_at (by omega), show 10 * (s / 10) + s % 10 = s by omega]
  have h2 : sOpen K (s / 10) (nI (s % 10) - nI 1) = gLf K s := by
    unfold gLf
    by_cases g : s % 10 ≤ 0
    · have e : s % 10 = 0 := by omega
      rw [decide_eq_false (fun h => h g), Bool.false_and, e]
      unfold sOpen
      rw [if_pos (by decide)]
    · rw [pk_sub (by omega), sOpen_at (by omega), decide_eq_true g, Bool.true_and, show 10 * (s / 10) + (s % 10 - 1) = s - 1 by omega]
  have h3 : sOpen K (s / 10) (nI (s % 10 + 1)) = gRt K s := by
    unfold gRt
    by_cases g : 9 ≤ s % 10
    · have e : s % 10 = 9 := by omega
      rw [decide_eq_false (fun h => h g), Bool.false_and, e]
      unfold sOpen
      rw [if_neg (by decide), if_neg (by decide)]
    · rw [sOpen_at (by omega), decide_eq_true g, Bool.true_and, show 10 * (s / 10) + (s % 10 + 1) = s + 1 by omega]
  unfold kSinR gSi
  rw [h1, h2, h3]
theorem c_seats {K M : kS} {i t9 : Nat} (hz : zRel K M i) (hi : i ≤ 1000) (ht9 : K 22 0 = nI t9) (h9 : t9 ≤ 1000) : bSeats K t9 := fun s hs => by
  obtain ⟨e17, -, e19, -⟩ := hz.2.2.2.2.1 s hs
  refine ⟨?_, ?_, ?_, kSin_g hs⟩
  · obtain ⟨t, h1, h2, h3⟩ := hz.2.2.2.2.2
    have e : t9 = t := nI_inj (by omega) (by omega) (ht9.symm.trans h1)
    rw [tLast_g, e, h3 s hs]; exact e19
  · intro h
    unfold sState at h
    by_cases g : K 17 s = 0
    · rw [if_pos g] at h
      by_cases g2 : K 19 s = (-1)
      · exact g2
      · rw [if_neg g2] at h
        by_cases g3 : K 18 s = 0
        · rw [if_pos g3] at h; exact absurd h (by decide)
        · rw [if_neg g3] at h; exact absurd h (by decide)
    · rw [if_neg g] at h; exact absurd h (by decide)
  · intro h hn
    rcases zRel_own hz s hs with g | ⟨o, ho, g⟩
    · apply h
      unfold sState
      by_cases g1 : K 17 s = 0
      · rw [if_pos g1, if_pos g]; decide
      · rw [if_neg g1]; decide
    · rw [g] at hn
      exact absurd (nI_pos' (n := o) (by omega)) (Int32.not_le.mpr hn)
theorem kLap_no {K : kS} {p : Nat} (h : K 10 p ≤ 0) : kLapR K p = (-1) := by
  unfold kLapR
  rw [if_neg (fun z => wThere.mp z h)]
theorem kLap_yes {K : kS} {p : Nat} (h : ¬ K 10 p ≤ 0) : kLapR K p = K 15 p := by
  unfold kLapR
  rw [if_pos (wThere.mpr h)]
theorem c_holds {K : kS} {j : Nat} (h : wGood K j) : bHolds K := fun p hp => by
  by_cases g : K 10 p ≤ 0
  · left; rw [kLap_no g]; decide
  · right
    obtain ⟨t, h1, h0, h2, h3, h4, h6, h7, h8⟩ := h
    obtain ⟨f, m, a, b, c, e1, e2, e3, e4, e5, e6, e7, e8, e9, -⟩ := h7 p hp g
    rw [kLap_yes g, e5, h2, nI_add]
    exact ⟨(nI_ltI (by omega) (by omega)).mpr e7, (nI_leI (by omega) (by omega)).mpr (by omega)⟩
theorem c_queue {K M : kS} {i : Nat} (hz : zRel K M i) : bQueue K := fun p hp h => by
  have h7 : ¬ K 7 p = (-1) := of_decide_eq_true h
  rw [hz.2.2.1.1 p hp] at h7
  rw [kLap_no ((zR4_same hz.2.2.2.1 hp).mpr (hz.2.2.1.2.2 p hp h7))]; decide
theorem c_money {K : kS} {j : Nat} (h : wGood K j) (hj : j ≤ 1000) : ¬ zsm (K 1) 8 < K 0 2 := by
  obtain ⟨t, h1, h0, h2, h3, ⟨q, h4, h5⟩, h6, h7, h8⟩ := h
  obtain ⟨C, hC, eC⟩ := zsm_nat (g := wPd (K 10) (K 13)) (B := 1000 * j) 8 (fun p hp => by
    unfold wPd
    by_cases g : K 10 p ≤ 0
    · rw [if_pos g]; exact ⟨0, Nat.zero_le _, rfl⟩
    · rw [if_neg g]
      obtain ⟨f, m, a, b, c, e1, e2, e3, e4, e5, e6, e7, e8, e9, e10, e11⟩ := h7 p hp g
      exact ⟨c, e11, e10⟩)
  have e : zsm (K 1) 8 = K 0 2 + zsm (wPd (K 10) (K 13)) 8 := h8
  rw [e, eC, h5, nI_add]
  exact nI_nlt (by omega) (by omega)
theorem gRun {K : kS} {r : Nat} : ∀ i, i ≤ 10 → ∃ n, n ≤ i ∧ kFirL K r i = nI n ∧ (∀ k, k < n → gOp K (10 * r + (i - n) + k) = true) ∧ (n < i → gOp K (10 * r + (i - n) - 1) = false)
  | 0, _ => ⟨0, Nat.le_refl 0, rfl, fun k hk => absurd hk (Nat.not_lt_zero k), fun h => absurd h (Nat.lt_irrefl 0)⟩
  | i + 1, hi => by
    obtain ⟨n, h1, h2, h3, h4⟩ := gRun (K := K) (r := r) i (by omega)
    rw [kFirL, sOpen_at (by omega)]
    cases g : gOp K (10 * r + i) with
    | true =>
      refine ⟨n + 1, by omega, ?_, fun k hk => ?_, fun h => ?_⟩
      · rw [if_pos rfl, h2, nI_add]
      · by_cases e : k = n
        · rw [show 10 * r + (i + 1 - (n + 1)) + k = 10 * r + i by omega]; exact g
        · rw [show 10 * r + (i + 1 - (n + 1)) + k = 10 * r + (i - n) + k by omega]; exact h3 k (by omega)
      · rw [show i + 1 - (n + 1) = i - n by omega]; exact h4 (by omega)
    | false =>
      refine ⟨0, Nat.zero_le _, ?_, fun k hk => absurd hk (Nat.not_lt_zero k), fun _ => ?_⟩
      · rw [if_neg (by decide)]
      · rw [show 10 * r + (i + 1 - 0) - 1 = 10 * r + i by omega]; exact g
theorem c_first {K : kS} {m : Nat} (hm1 : 1 ≤ m) (hm2 : m ≤ 10) : bFirst K m := fun r hr => by
  unfold kFirR
  by_cases g : kFirI K r (nI m) = (-1)
  · left; rw [if_pos g]
  · right
    obtain ⟨i, hi, h1, h2, -⟩ := zfind_ex (b := fun i => decide (kFirL K r (i + 1) = nI m)) (n := 10) g
    have h3 : kFirI K r (nI m) = nI i := h2
    have h1' : kFirL K r (i + 1) = nI m := of_decide_eq_true h1
    obtain ⟨n, n1, n2, n3, n4⟩ := gRun (K := K) (r := r) (i + 1) (by omega)
    have e : n = m := nI_inj (by omega) (by omega) (n2.symm.trans h1')
    subst e
    rw [if_neg g, h3, rE, nI_add, pk_sub (by omega)]
    exact ⟨i + 1 - n, rfl, by omega, fun k hk => n3 k hk, fun h => n4 (by omega)⟩
theorem zcnt_no {b : Nat → Bool} : ∀ n, (∀ s, s < n → b s = false) → zcnt b n = 0
  | 0, _ => rfl
  | n + 1, h => by
    rw [zcnt, h n (by omega), if_neg (by decide)]
    exact zcnt_no n (fun s hs => h s (by omega))
theorem zcnt_or {a b : Nat → Bool} : ∀ n, (∀ s, s < n → a s = true → b s = true → False) → zcnt (fun s => a s || b s) n = zcnt a n + zcnt b n
  | 0, _ => rfl
  | n + 1, h => by
    have ih := zcnt_or (a := a) (b := b) n (fun s hs => h s (by omega))
    have hn := h n (by omega)
    rw [zcnt, zcnt, zcnt, ih]
    cases ha : a n with
    | true =>
      cases hb : b n with
      | true => exact (hn ha hb).elim
      | false => rw [if_pos (by rfl), if_pos rfl, if_neg (by decide)]; omega
    | false =>
      cases hb : b n with
      | true => rw [if_pos (by rfl), if_neg (by decide), if_pos rfl]; omega
      | false => rw [if_neg (by decide), if_neg (by decide), if_neg (by decide)]
theorem zcnt_int {f m : Nat} : ∀ n, zcnt (fun s => decide (f ≤ s ∧ s < f + m)) n = min n (f + m) - min n f
  | 0 => by show 0 = min 0 (f + m) - min 0 f; omega
  | n + 1 => by
    rw [zcnt, zcnt_int n]
    by_cases h : f ≤ n ∧ n < f + m
    · rw [if_pos (decide_eq_true h)]; omega
    · rw [if_neg (fun z => h (of_decide_eq_true z))]; omega
theorem c_cnt {K M : kS} {i : Nat} (hz : zRel K M i) : ∀ P, P ≤ 8 → zcnt (fun p => decide (¬ K 10 p ≤ 0)) P ≤ zcnt (fun s => gHU (M 5) (M 6) s P) 60 ∧ zcnt (fun s => gHU (M 5) (M 6) s P) 60 ≤ 4 * zcnt (fun p => decide (¬ K 10 p ≤ 0)) P
  | 0, _ => by
    have e : zcnt (fun s => gHU (M 5) (M 6) s 0) 60 = 0 := zcnt_no 60 (fun s _ => rfl)
    rw [e]; exact ⟨Nat.le_refl _, Nat.zero_le _⟩
  | P + 1, hP => by
    obtain ⟨h1, h2⟩ := c_cnt hz P (by omega)
    have hP8 : P < 8 := by omega
    have e : zcnt (fun s => gHU (M 5) (M 6) s (P + 1)) 60 = zcnt (fun s => gHU (M 5) (M 6) s P) 60 + zcnt (fun s => gIn (M 5) (M 6) P s) 60 := zcnt_or (a := fun s => gHU (M 5) (M 6) s P) (b := fun s => gIn (M 5) (M 6) P s) 60 (fun s hs a b => by
      obtain ⟨q, hq, g⟩ := gHU_iff.mp a
      have z := hz.2.2.2.1.2 q P s (by omega) hP8 hs g b
      omega)
    rw [e, zcnt]
    by_cases g : K 10 P ≤ 0
    · have e5 := (zR4_same hz.2.2.2.1 hP8).mp g
      rw [if_neg (fun z => (of_decide_eq_true z) g), zcnt_no (b := fun s => gIn (M 5) (M 6) P s) 60 (fun s hs => gIn_no e5)]
      exact ⟨h1, h2⟩
    · obtain ⟨f, m, e1, e2, e3, e4, ⟨e5, e6, e7, e8⟩, -⟩ := zR4_there hz.2.2.2.1 hP8 g
      have ec : zcnt (fun s => gIn (M 5) (M 6) P s) 60 = m := by
        rw [zcnt_cong (b := fun s => gIn (M 5) (M 6) P s) (d := fun s => decide (f ≤ s ∧ s < f + m)) (fun s hs => bool_eq (by rw [gIn_at e3 e4 e5 e6 e7 hs, decide_eq_true_eq])), zcnt_int]
        omega
      rw [if_pos (decide_eq_true g), ec]
      exact ⟨by omega, by omega⟩
theorem c_count {K M : kS} {i j : Nat} (hz : zRel K M i) (h : wGood K j) : bCount K := by
  have h1 := c_cnt hz 8 (Nat.le_refl 8)
  have e1 : gHc K 60 = zcnt (fun s => gHU (M 5) (M 6) s 8) 60 := zcnt_cong (fun s hs => by
    have e17 := (hz.2.2.2.2.1 s hs).1
    show decide (sState K s = nI 1) = gHeld (M 5) (M 6) s
    cases g : gHeld (M 5) (M 6) s with
    | true =>
      rw [g] at e17
      exact decide_eq_true (show sState K s = nI 1 from if_neg (by rw [e17]; decide))
    | false =>
      rw [g] at e17
      apply decide_eq_false
      unfold sState
      rw [if_pos (by rw [e17]; decide)]
      split
      · decide
      · split <;> decide)
  have e2 : gHo K 8 = zcnt (fun p => decide (¬ K 10 p ≤ 0)) 8 := zcnt_cong (fun p hp => by
    show decide (¬ kLapR K p < 0) = decide (¬ K 10 p ≤ 0)
    by_cases g : K 10 p ≤ 0
    · rw [kLap_no g, decide_eq_false (p := ¬ K 10 p ≤ 0) (fun z => z g)]; decide
    · obtain ⟨t, h1, h0, h2, h3, h4, h6, h7, h8⟩ := h
      obtain ⟨f, m, a, b, c, d1, d2, d3, d4, d5, d6, d7, d8, d9, -⟩ := h7 p hp g
      rw [kLap_yes g, d5, decide_eq_true g]
      exact decide_eq_true (Int32.not_lt.mpr (nI_pos' (by omega))))
  unfold bCount
  rw [e1, e2]; exact h1
theorem c_end {K : kS} {j : Nat} (h : wGood K j) (g : K 0 0 ≤ nI 9900) : kPassT K (nI 31) = nI 0 ∧ zsm (kPassS (kPassB K (nI 31)) 8 1) 8 = kPassS (kPassB K (nI 31)) 8 0 2 := by
  obtain ⟨t, h⟩ := h
  have hnow := h.2.2.1
  have ht := h.1
  rw [hnow] at g
  have ht2 := (nI_leI (by omega) (by decide)).mp g
  have hT : kPassT K (nI 31) = nI 0 := by
    unfold kPassT
    rw [if_neg (by decide), if_pos (by decide), hnow, nI_add, if_pos ((nI_leI (by omega) (by decide)).mpr (by omega))]
  refine ⟨hT, ?_⟩
  obtain ⟨x9, hx1, hx3, g3, hB⟩ := wPassB h hT
  have hall := (wPass_all (K := kPassB K (nI 31)) (fun p hp hq => by
    obtain ⟨f, m, a, b, c, d1, d2, d3, d4, d5, d6, d7, d8, d9, -⟩ := h.2.2.2.2.2.2.1 p hp hq
    show ¬ K 0 0 + nI 31 < K 15 p
    rw [hnow, nI_add, d5]
    exact nI_nlt (by omega) (by omega)) 8 (Nat.le_refl 8)).1
  obtain ⟨-, -, -, -, -, -, -, h8⟩ := wPassS hB 8 (Nat.le_refl 8)
  have e : zsm (kPassS (kPassB K (nI 31)) 8 1) 8 = kPassS (kPassB K (nI 31)) 8 0 2 + zsm (wPd (kPassS (kPassB K (nI 31)) 8 10) (kPassS (kPassB K (nI 31)) 8 13)) 8 := h8
  have e0 : zsm (wPd (kPassS (kPassB K (nI 31)) 8 10) (kPassS (kPassB K (nI 31)) 8 13)) 8 = zsm (fun _ => nI 0) 8 := zsm_eq 8 (fun p hp => if_pos (hall p hp))
  rw [e, e0, show zsm (fun _ => nI 0) 8 = 0 by decide +kernel, Int32.add_zero]
theorem w_init : wGood kInit 0 := by
  refine ⟨0, by omega, by omega, rfl, ⟨100, by omega, rfl⟩, ⟨0, by omega, rfl⟩, fun x hx => ⟨100 - 10 * (x / 10), by omega, ?_⟩, fun p hp g => absurd (show kInit 10 p ≤ 0 from (by decide : (nI 0 : Int32) ≤ 0)) g, ?_⟩
  · show zini (fun s => nI 100 - nI (10 * (s / 10))) 60 x = nI (100 - 10 * (x / 10))
    unfold zini
    rw [if_pos hx]
    exact pk_sub (by omega)
  · show zsm (kInit 1) 8 = kInit 0 2 + zsm (wPd (kInit 10) (kInit 13)) 8
    decide +kernel
/-! one step of the law -/
theorem wMk {K E M' : kS} {T R : Int32} {i j : Nat} (hz : zRel (zEK T E K) M' i) (h : wGood K j) (e : T = nI 0 → wGood E (j + 2) ∧ ¬ R = (-99999)) : (∃ M, zRel (aMk T R E K).2 M i) ∧ wGood (aMk T R E K).2 (j + 2) ∧ ((aMk T R E K).1 = (-99999) → (aMk T R E K).2 = K) := by
  rw [aMk_1, aMk_2]
  refine ⟨⟨M', hz⟩, ?_, fun g => ?_⟩
  · by_cases q : T = nI 0
    · rw [zEK_0 q]; exact (e q).1
    · rw [zEK_n q]; exact wGood_up h (by omega)
  · by_cases q : T = nI 0
    · rw [zAn_0 q] at g; exact absurd g (e q).2
    · exact zEK_n q
theorem lLen_le (K : kS) : lLen K ≤ 8 := zcnt_le _ 8
theorem wStep {K M : kS} {i j n9 t9 : Nat} (hz : zRel K M i) (h : wGood K j) (hi : i < 512) (hj : j ≤ 1000) (hn : n9 ≤ 10) (h1 : K 2 0 = nI n9) (ht : K 22 0 = nI t9) (ht2 : 3 * t9 ≤ i) (v : Int32) : (∃ M, zRel (aOut K v n9 t9).2 M (i + 1)) ∧ wGood (aOut K v n9 t9).2 (j + 2) ∧ ((aOut K v n9 t9).1 = (-99999) → (aOut K v n9 t9).2 = K) := by
  obtain ⟨n', hn', hn1, hn2⟩ := zRel_n hz
  have en : n' = n9 := nI_inj (by omega) (by omega) (hn1.symm.trans h1)
  subst en
  have hup : wGood K (j + 2) := wGood_up h (by omega)
  have hh := h
  obtain ⟨t, b1, b0, b2, ⟨a9, ha9, b3⟩, b4, b6, b7, b8⟩ := hh
  rcases aKd_cs v with h21 | h21 | h21 | h21 | h21 | h21 | h21 | h21 | h21 | h21
  · rw [aOut_0 h21]
    exact wMk (zs_setOpening hz (a0 v)).2.2 h (fun g => ⟨wGood_up (w_set h g) (by omega), by rw [b3]; exact nI_big (by omega)⟩)
  · rw [aOut_1 h21]
    exact wMk (zs_code hz hn' hn1 hn2 (a1 v) (a2 v)).2.2 h (fun g => ⟨hup, nI_big (by omega)⟩)
  · rw [aOut_2 h21]
    exact wMk (zs_quit hz (aPer v)).2.2 h (fun g => ⟨hup, nI_big (by have z := lLen_le (kLeave K (aPer v).toNatClampNeg); omega)⟩)
  · rw [aOut_3 h21]
    refine wMk (zs_letGo hz (aPer v)).2.2 h (fun g => ?_)
    unfold kGoT at g
    obtain ⟨g1, g⟩ := zseq_00 g
    obtain ⟨p, hp, -, hp7⟩ := kNeedP_of g1
    obtain ⟨g2, -⟩ := zseq_00 g
    rw [hp7] at g2 ⊢
    have hT := wThere.mp (kNeedH_of g2)
    obtain ⟨f, m, a, b, c, d1, d2, d3, d4, d5, d6, d7, d8, d9, d10, d11⟩ := b7 p hp hT
    refine ⟨?_, by rw [d10]; exact nI_big (by omega)⟩
    obtain ⟨t', h'⟩ := h
    exact ⟨t', wAll_up (wDrop h' hp hT (fun _ _ => rfl)) (by omega)⟩
  · rw [aOut_4 h21]
    exact wMk (zs_join hz (aPer v)).2.2 h (fun g => ⟨hup, nI_big (by have z := lLen_le (kEnter K (aPer v).toNatClampNeg (K 0 0)); omega)⟩)
  · rw [aOut_5 h21]
    exact wMk (zs_pass hz (a7 v)).2.2 h (fun g => ⟨wGood_up (w_pass h g) (by omega), nI_big (by have z := kPassN_le (K := kPassB K (a7 v)) 8; omega)⟩)
  · rw [aOut_6 h21]
    refine wMk (zs_pay hz ht ht2 hi (aPer v) (a11 v)).2.2 h (fun g => ⟨w_pay hz h g, ?_⟩)
    obtain ⟨C, hC, eC⟩ := wPay_left h hj g
    rw [eC]; exact nI_big hC
  · rw [aOut_7 h21]
    refine wMk (zs_offer hz (aOwn K v) (aSea v) (a14 v)).2.2 h (fun g => ?_)
    obtain ⟨w1, x9, x1, x2, x3⟩ := w_offer hz h g
    refine ⟨wGood_up w1 (by omega), fun e => ?_⟩
    rw [e] at x3
    exact absurd (Int32.le_trans ((nI_leI (by decide) (by omega)).mpr x1) x3) (by decide)
  · rw [aOut_8 h21]
    refine wMk (zs_retract hz (aSea v)).2.2 h (fun g => ⟨hup, ?_⟩)
    unfold kRetT at g
    obtain ⟨g1, -⟩ := zseq_00 g
    obtain ⟨s9, hs, -, hs7⟩ := kNeedS_of g1
    rw [hs7]
    obtain ⟨c, hc, ec⟩ := b6 s9 hs
    rw [ec]; exact nI_big (by omega)
  · rw [aOut_9 h21]
    refine wMk (zs_hold hz hn' hn1 hn2 (aHol K v) (aRow v) (aPlc v) (a17 v) (a18 v)).2.2 h (fun g => ?_)
    obtain ⟨w1, C, hC, eC⟩ := w_hold hz h g
    refine ⟨wGood_up w1 (by omega), ?_⟩
    rw [eC]; exact nI_big (by omega)
