/-! the queue: the class ranks, the reference counts who is ahead -/
theorem zcnt_mono {b d : Nat → Bool} : ∀ {n : Nat}, (∀ q, q < n → b q = true → d q = true) → zcnt b n ≤ zcnt d n
  | 0, _ => Nat.le_refl 0
  | n + 1, h => by
    have ih := zcnt_mono (n := n) (fun q hq => h q (by omega))
    have h9 := h n (by omega)
    rw [zcnt, zcnt]
    split <;> split <;> simp_all <;> omega
theorem zcnt_lt {b d : Nat → Bool} {p : Nat} : ∀ {n : Nat}, (∀ q, q < n → b q = true → d q = true) → p < n → b p = false → d p = true → zcnt b n < zcnt d n
  | 0, _, hp, _, _ => absurd hp (Nat.not_lt_zero p)
  | n + 1, h, hp, h1, h2 => by
    rw [zcnt, zcnt]
    by_cases e : p = n
    · subst e
      have ih := zcnt_mono (b := b) (d := d) (n := p) (fun q hq => h q (by omega))
      rw [h1, h2]
      simp
      omega
    · have ih := zcnt_lt (n := n) (fun q hq => h q (by omega)) (by omega) h1 h2
      have h9 := h n (by omega)
      split <;> split <;> simp_all <;> omega
theorem zcnt_all : ∀ n, zcnt (fun _ => true) n = n
  | 0 => rfl
  | n + 1 => by rw [zcnt, zcnt_all n]; rfl
/-- a person's key: those in the queue by their rank, the others behind them -/
def qk (g4 : gF) (p : Nat) : Nat := if g4 p = (-1) then 100000 + p else 8 * (g4 p).toNatClampNeg + (5 * p + 3 * (g4 p).toNatClampNeg) % 8
def qpl (g4 : gF) (p : Nat) : Nat := zcnt (fun q => decide (qk g4 q < qk g4 p)) 8
theorem qk_in {g4 : gF} {p t : Nat} (h : g4 p = nI t) (ht : t ≤ 10000) : qk g4 p = 8 * t + (5 * p + 3 * t) % 8 := by
  unfold qk
  rw [if_neg (by rw [h]; exact nI_nm1 (by omega)), h, nI_clamp (by omega)]
theorem qk_out {g4 : gF} {p : Nat} (h : g4 p = (-1)) : qk g4 p = 100000 + p := if_pos h
section QQ
variable {g4 : gF} (hg : ∀ p, p < 8 → g4 p = (-1) ∨ ∃ t, t ≤ 10000 ∧ g4 p = nI t)
theorem qk_inj {p q : Nat} (hp : p < 8) (hq : q < 8) (h : qk g4 p = qk g4 q) (hg : ∀ p, p < 8 → g4 p = (-1) ∨ ∃ t, t ≤ 10000 ∧ g4 p = nI t) : p = q := by
  rcases hg p hp with h1 | ⟨t, ht, h1⟩
  · rcases hg q hq with h2 | ⟨u, hu, h2⟩
    · rw [qk_out h1, qk_out h2] at h; omega
    · rw [qk_out h1, qk_in h2 hu] at h; omega
  · rcases hg q hq with h2 | ⟨u, hu, h2⟩
    · rw [qk_in h1 ht, qk_out h2] at h; omega
    · rw [qk_in h1 ht, qk_in h2 hu] at h
      have m1 : (5 * p + 3 * t) % 8 < 8 := Nat.mod_lt _ (by decide)
      have m2 : (5 * q + 3 * u) % 8 < 8 := Nat.mod_lt _ (by decide)
      have e1 : t = u := by omega
      subst e1
      have e2 : (5 * p + 3 * t) % 8 = (5 * q + 3 * t) % 8 := by omega
      clear m1 m2 h h1 h2
      omega
theorem qpl_lt8 (p : Nat) (hp : p < 8) : qpl g4 p < 8 := by
  have h := zcnt_lt (b := fun q => decide (qk g4 q < qk g4 p)) (d := fun _ => true) (p := p) (n := 8) (fun _ _ _ => rfl) hp (decide_eq_false (Nat.lt_irrefl _)) rfl
  rw [zcnt_all] at h
  exact h
theorem qpl_lt {p q : Nat} (hp : p < 8) (h : qk g4 p < qk g4 q) : qpl g4 p < qpl g4 q :=
  zcnt_lt (p := p) (fun r _ hr => decide_eq_true (Nat.lt_trans (of_decide_eq_true hr) h)) hp (decide_eq_false (Nat.lt_irrefl _)) (decide_eq_true h)
theorem qpl_inj {p q : Nat} (hp : p < 8) (hq : q < 8) (h : qpl g4 p = qpl g4 q) (hg : ∀ p, p < 8 → g4 p = (-1) ∨ ∃ t, t ≤ 10000 ∧ g4 p = nI t) : p = q := by
  rcases Nat.lt_trichotomy (qk g4 p) (qk g4 q) with g | g | g
  · have := qpl_lt hp g; omega
  · exact qk_inj hp hq g hg
  · have := qpl_lt hq g; omega
theorem qpl_on {y : Nat} (hy : y < 8) (hg : ∀ p, p < 8 → g4 p = (-1) ∨ ∃ t, t ≤ 10000 ∧ g4 p = nI t) : ∃ p, p < 8 ∧ qpl g4 p = y :=
  fb_onto (n := 8) (f := qpl g4) (fun i hi => qpl_lt8 i hi) (fun i j hij hj e => by have := qpl_inj (by omega) hj e hg; omega) hy
theorem qpl_out {p : Nat} (h : g4 p = (-1)) (hg : ∀ p, p < 8 → g4 p = (-1) ∨ ∃ t, t ≤ 10000 ∧ g4 p = nI t) : gQ g4 ≤ qpl g4 p :=
  zcnt_mono (fun q hq hb => by
    have hb : ¬ g4 q = (-1) := of_decide_eq_true hb
    obtain ⟨t, ht, h1⟩ := (hg q hq).resolve_left hb
    rw [qk_out h, qk_in h1 ht]
    exact decide_eq_true (by omega))
theorem qpl_in {p : Nat} (hp : p < 8) (h : ¬ g4 p = (-1)) (hg : ∀ p, p < 8 → g4 p = (-1) ∨ ∃ t, t ≤ 10000 ∧ g4 p = nI t) : qpl g4 p < gQ g4 :=
  zcnt_lt (p := p) (fun q hq hb => by
    have hb : qk g4 q < qk g4 p := of_decide_eq_true hb
    refine decide_eq_true (fun e => ?_)
    obtain ⟨t, ht, h1⟩ := (hg p hp).resolve_left h
    rw [qk_out e, qk_in h1 ht] at hb
    omega) hp (decide_eq_false (Nat.lt_irrefl _)) (decide_eq_true h)
end QQ
theorem zdraw {M : kS} {p t : Nat} (hp : p < 8) (h : M 4 p = nI t) (ht : t ≤ 10000) : mDraw M p = nI ((5 * p + 3 * t) % 8) := by
  unfold mDraw
  rw [h, pk_mul, nI_add, pk_rem (by omega) (by decide) (by decide)]
theorem zrank {K M : kS} {p t : Nat} (hp : p < 8) (hK : K 7 p = M 4 p) (h : M 4 p = nI t) (ht : t ≤ 10000) : lRank K p = nI (qk (M 4) p) := by
  unfold lRank
  rw [hK, h, pk_mul, pk_mul, nI_add, pk_rem (by omega) (by decide) (by decide), nI_add, qk_in h ht]
theorem zahead {M : kS} {p q t u : Nat} (hp : p < 8) (hq : q < 8) (h : M 4 p = nI t) (ht : t ≤ 10000) (h2 : M 4 q = nI u) (hu : u ≤ 10000) : mAhead M q p = decide (qk (M 4) q < qk (M 4) p) := by
  unfold mAhead
  rw [zdraw hp h ht, zdraw hq h2 hu, h, h2, qk_in h ht, qk_in h2 hu]
  have e1 : (nI u < nI t) ↔ u < t := nI_ltI (by omega) (by omega)
  have e2 : (nI u = nI t) ↔ u = t := nI_eq (by omega) (by omega)
  have e3 : (nI ((5 * p + 3 * t) % 8) ≤ nI ((5 * q + 3 * u) % 8)) ↔ (5 * p + 3 * t) % 8 ≤ (5 * q + 3 * u) % 8 := nI_leI (by omega) (by omega)
  simp only [e1, e2, e3]
  by_cases g1 : u < t
  · rw [decide_eq_true g1, Bool.true_or]
    exact (decide_eq_true (by omega)).symm
  · rw [decide_eq_false g1, Bool.false_or]
    by_cases g2 : u = t
    · subst g2
      rw [decide_eq_true rfl, Bool.true_and]
      by_cases g3 : (5 * p + 3 * u) % 8 ≤ (5 * q + 3 * u) % 8
      · rw [decide_eq_false (fun z => z g3), decide_eq_false (by omega)]
      · rw [decide_eq_true g3, decide_eq_true (by omega)]
    · rw [decide_eq_false g2, Bool.false_and, decide_eq_false (by omega)]
theorem zlPlace {K M : kS} (h : zR3 (K 7) (M 4) (M 5)) {p : Nat} (hp : p < 8) (hin : ¬ M 4 p = (-1)) : lPlace K p = qpl (M 4) p := by
  obtain ⟨h1, h2, -⟩ := h
  obtain ⟨t, ht, e1⟩ := (h2 p hp).resolve_left hin
  refine zcnt_cong (fun q hq => ?_)
  unfold lIsIn
  rw [h1 q hq]
  rcases h2 q hq with g | ⟨u, hu, g⟩
  · rw [decide_eq_false (fun z => z g), Bool.false_and, qk_out g, qk_in e1 ht, decide_eq_false (by omega)]
  · rw [decide_eq_true (by rw [g]; exact nI_nm1 (by omega)), Bool.true_and, zrank hp (h1 p hp) e1 ht, zrank hq (h1 q hq) g hu]
    have e3 : (nI (qk (M 4) p) ≤ nI (qk (M 4) q)) ↔ qk (M 4) p ≤ qk (M 4) q := nI_leI (by rw [qk_in e1 ht]; omega) (by rw [qk_in g hu]; omega)
    simp only [e3, Nat.not_le]
theorem zmPlace {K M : kS} (h : zR3 (K 7) (M 4) (M 5)) {p : Nat} (hp : p < 8) (hin : ¬ M 4 p = (-1)) : mPlace M p = qpl (M 4) p := by
  obtain ⟨h1, h2, -⟩ := h
  obtain ⟨t, ht, e1⟩ := (h2 p hp).resolve_left hin
  refine zcnt_cong (fun q hq => ?_)
  rcases h2 q hq with g | ⟨u, hu, g⟩
  · rw [decide_eq_false (fun z => z g), Bool.false_and, qk_out g, qk_in e1 ht, decide_eq_false (by omega)]
  · rw [decide_eq_true (by rw [g]; exact nI_nm1 (by omega)), Bool.true_and, zahead hp hq e1 ht g hu]
theorem zAt {K M : kS} (h : zR3 (K 7) (M 4) (M 5)) (x : Int32) : lAt K x = mAt M x := by
  refine zfind_cong (fun q hq => ?_)
  unfold lIsIn
  rw [h.1 q hq]
  by_cases g : M 4 q = (-1)
  · rw [decide_eq_false (fun z => z g), Bool.false_and, Bool.false_and]
  · rw [zlPlace h hq g, zmPlace h hq g]
theorem zAt_ex {K M : kS} (h : zR3 (K 7) (M 4) (M 5)) {x : Int32} (hx : ¬ mAt M x = (-1)) : ∃ p, p < 8 ∧ ¬ M 4 p = (-1) ∧ mAt M x = nI p ∧ x = nI (qpl (M 4) p) := by
  obtain ⟨p, hp, hb, e, -⟩ := zfind_ex hx
  rw [Bool.and_eq_true] at hb
  have h1 : ¬ M 4 p = (-1) := of_decide_eq_true hb.1
  refine ⟨p, hp, h1, e, ?_⟩
  have h2 : nI (mPlace M p) = x := of_decide_eq_true hb.2
  rw [← h2, zmPlace h hp h1]
theorem zAt_no {K M : kS} (h : zR3 (K 7) (M 4) (M 5)) {x : Int32} (hx : mAt M x = (-1)) {p : Nat} (hp : p < 8) (hin : ¬ M 4 p = (-1)) : ¬ nI (qpl (M 4) p) = x := fun e => by
  have key : ∀ n, n ≤ 8 → (∀ i, i < n → (decide (¬ M 4 i = (-1)) && decide (nI (mPlace M i) = x)) = false) ∨ ¬ mAt M x = (-1) := by
    intro n
    induction n with
    | zero => intro _; exact Or.inl (fun i hi => absurd hi (Nat.not_lt_zero i))
    | succ n ih =>
      intro hn
      rcases ih (by omega) with g | g
      · cases hb : (decide (¬ M 4 n = (-1)) && decide (nI (mPlace M n) = x)) with
        | false => exact Or.inl (lt_succ_all g hb)
        | true =>
          refine Or.inr ?_
          have e9 : mAt M x = nI n := zfind_at (by omega) g hb
          rw [e9]
          exact nI_nm1 (by omega)
      · exact Or.inr g
  rcases key 8 (Nat.le_refl 8) with g | g
  · have h9 := g p hp
    rw [zmPlace h hp hin, decide_eq_true hin, decide_eq_true e] at h9
    exact absurd h9 (by decide)
  · exact g hx
theorem zs_queueAt {K M : kS} {j : Nat} (h : zRel K M j) (x : Int32) : (mPost (mQueT M x) M (mGoes M (nI 0))) 0 0 = zPos (nI 1) (nI 0) (nI 0) (kQueT K x) ∧ (∀ f : Nat → Int64, zPos (nI 1) (nI 0) (nI 0) (kQueT K x) = nI 0 → zFK (kQueT K x) (lAt K x) f 0 = Int32.toInt64 (mRes (mQueT M x) (mAt M x))) ∧ zRel (zEK (kQueT K x) K K) (mPost (mQueT M x) M (mGoes M (nI 0))) (j + 1) := by
  have h3 := h.2.2.1
  have hgq : mCount M ≤ 8 := zcnt_le _ 8
  refine zstep h kQueT_r (fun _ => zn1) (fun q => nomatch q) (fun q => nomatch q) ?_ (fun g => ⟨rfl, zAt h3 x, zRel_goes _ (zRel_up h (Nat.le_succ j))⟩)
  unfold kQueT mQueT
  rw [zAt h3 x]
  by_cases g : mAt M x = (-1)
  · rw [if_pos g, zPos_1, if_neg]
    intro q
    have hn : ∃ k, mCount M = k + 1 := by
      cases e : mCount M with
      | zero =>
        rw [e] at q
        simp only [mIn, Bool.and_eq_true, Bool.not_eq_true', decide_eq_false_iff_not] at q
        obtain ⟨i, hi, e⟩ := nI_of (x := x) q.1
        subst e
        have e1 : (nI 0 - nI 1 : Int32) < 0 := by decide
        exact absurd (Int32.lt_of_lt_of_le e1 (nI_pos' hi)) q.2
      | succ k => exact ⟨k, rfl⟩
    obtain ⟨k, hk⟩ := hn
    rw [hk, show nI (k + 1) - nI 1 = nI k from nI_pred k] at q
    obtain ⟨y, hy, e, -⟩ := mIn_of (by omega) q
    obtain ⟨p, hp, hp2⟩ := qpl_on (g4 := M 4) (y := y) (by omega) h3.2.1
    have hin : ¬ M 4 p = (-1) := fun z => by
      have h9 : mCount M ≤ qpl (M 4) p := qpl_out z h3.2.1
      omega
    exact zAt_no h3 g hp hin (by rw [hp2, e])
  · obtain ⟨p, hp, hin, -, e⟩ := zAt_ex h3 g
    have h9 : qpl (M 4) p < mCount M := qpl_in hp hin h3.2.1
    rw [if_neg g, zPos_0, if_pos]
    obtain ⟨k, hk⟩ : ∃ k, mCount M = k + 1 := ⟨mCount M - 1, by omega⟩
    rw [hk, show nI (k + 1) - nI 1 = nI k from nI_pred k, e]
    exact mIn_to (Nat.zero_le _) (by omega) (by omega)
theorem zserved {K M : kS} {j : Nat} (h : zRel K M j) : lServ K = mServed M := by
  have h3 := h.2.2.1
  unfold lServ mServed
  rw [zAt h3 (nI 0)]
  by_cases g : mAt M (nI 0) = (-1)
  · rw [if_pos g, if_pos g]
  · obtain ⟨p, hp, -, e, -⟩ := zAt_ex h3 g
    rw [if_neg g, if_neg g, e, nI_clamp (by omega), h3.1 p hp, h.1.1]
    by_cases q : M 0 1 ≤ M 4 p
    · rw [if_pos q, if_neg (fun z => Int32.lt_irrefl (Int32.lt_of_lt_of_le z q))]
    · rw [if_neg q, if_pos (Int32.not_le.mp q)]
/-- who is served is in the queue -/
theorem zserved_in {K M : kS} {j p : Nat} (h : zRel K M j) (hp : p < 8) (e : mServed M = nI p) : ¬ M 4 p = (-1) := by
  have hne : ¬ (nI p : Int32) = (-1) := nI_nm1 (by omega)
  unfold mServed at e
  by_cases g : mAt M (nI 0) = (-1)
  · rw [if_pos g] at e; exact absurd e.symm hne
  · obtain ⟨q, hq, hin, e9, -⟩ := zAt_ex h.2.2.1 g
    rw [if_neg g] at e
    split at e
    · exact absurd e.symm hne
    · rw [e9] at e
      have := nI_inj (by omega) (by omega) e
      rw [← this]; exact hin
