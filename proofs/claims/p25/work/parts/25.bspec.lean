/-! what the law's checks ask of one object's state, in pure words -/
def gRem (x : Int32) (n : Nat) : Int32 := x - x / nI n * nI n
def gOp (K : kS) (s : Nat) : Bool := decide (gRem (sState K s) 3 = 0)
def gLf (K : kS) (s : Nat) : Bool := decide (¬ s % 10 ≤ 0) && gOp K (s - 1)
def gRt (K : kS) (s : Nat) : Bool := decide (¬ 9 ≤ s % 10) && gOp K (s + 1)
def gSi (K : kS) (s : Nat) : Bool := gOp K s && !gLf K s && !gRt K s
def gHc (K : kS) : Nat → Nat := zcnt (fun s => decide (sState K s = nI 1))
def gHo (K : kS) : Nat → Nat := zcnt (fun p => decide (¬ kLapR K p < 0))
/-- the bits of those who were met in the queue's first places -/
def gB (K : kS) : Nat → Nat
  | 0 => 0
  | i + 1 => gB K i ||| 2 ^ (lAt K (nI i)).toNatClampNeg
theorem gB_or : ∀ b, b < 256 → ∀ q, q < 8 → nI b ||| (nI 1 <<< (nI q &&& 31)) = nI (b ||| 2 ^ q) ∧ b ||| 2 ^ q < 256 := by decide +kernel
theorem gB_at : ∀ b, b < 256 → ∀ q, q < 8 → (nI b >>> (nI q &&& 31)) &&& nI 1 = nI (if b.testBit q then 1 else 0) := by decide +kernel
theorem lAt_of {K : kS} {x : Int32} (h : ¬ lAt K x = (-1)) : ∃ q, q < 8 ∧ lAt K x = nI q ∧ (lAt K x).toNatClampNeg = q ∧ lIsIn K q = true ∧ nI (lPlace K q) = x := by
  obtain ⟨q, hq, h1, h2, -⟩ := zfind_ex (b := fun j => lIsIn K j && decide (nI (lPlace K j) = x)) (n := 8) h
  have h3 : lAt K x = nI q := h2
  rw [Bool.and_eq_true, decide_eq_true_eq] at h1
  exact ⟨q, hq, h3, by rw [h3]; exact nI_clamp (by omega), h1.1, h1.2⟩
theorem lAt_neg {K : kS} {x : Int32} : lAt K x < 0 ↔ lAt K x = (-1) := by
  constructor
  · intro h
    by_cases g : lAt K x = (-1)
    · exact g
    · obtain ⟨q, hq, e, -⟩ := lAt_of g
      rw [e] at h
      exact absurd (show (0 : Int32) ≤ nI q from nI_pos' (by omega)) (Int32.not_le.mpr h)
  · intro h; rw [h]; decide
theorem gB_lt {K : kS} : ∀ i, (∀ j, j < i → ¬ lAt K (nI j) = (-1)) → gB K i < 256
  | 0, _ => (by decide : (0 : Nat) < 256)
  | i + 1, h => by
    obtain ⟨q, hq, -, e, -⟩ := lAt_of (h i (by omega))
    rw [gB, e]
    exact (gB_or _ (gB_lt i (fun j hj => h j (by omega))) q hq).2
theorem gB_in {K : kS} : ∀ i, (∀ j, j < i → ¬ lAt K (nI j) = (-1)) → ∀ p, (gB K i).testBit p = true → lIsIn K p = true
  | 0, _, p, h => by simp [gB] at h
  | i + 1, hh, p, h => by
    obtain ⟨q, hq, -, e, hin, -⟩ := lAt_of (hh i (by omega))
    rw [gB, e, Nat.testBit_or, Bool.or_eq_true] at h
    rcases h with h | h
    · exact gB_in i (fun j hj => hh j (by omega)) p h
    · rw [Nat.testBit_two_pow] at h
      have e2 : q = p := by simpa using h
      rw [← e2]; exact hin
theorem lPlace_lt {K : kS} {p : Nat} (hp : p < 8) : lPlace K p < 8 := by
  unfold lPlace
  have key : ∀ n, p < n → zcnt (fun j => lIsIn K j && decide (¬ lRank K p ≤ lRank K j)) n < n := by
    intro n hn
    induction n with
    | zero => exact absurd hn (Nat.not_lt_zero _)
    | succ n ih =>
      have hle := zcnt_le (fun j => lIsIn K j && decide (¬ lRank K p ≤ lRank K j)) n
      by_cases e : p = n
      · rw [zcnt, if_neg (by subst e; simp [Int32.le_refl])]
        omega
      · have h2 := ih (by omega)
        rw [zcnt]; split <;> omega
  exact key 8 hp
theorem lAt_8 {K : kS} : lAt K (nI 8) = (-1) := by
  by_cases h : lAt K (nI 8) = (-1)
  · exact h
  · obtain ⟨q, hq, -, -, -, e⟩ := lAt_of h
    have h2 := lPlace_lt (K := K) hq
    have h3 := (nI_eq (by omega) (by decide)).mp e
    omega
def bSeats (K : kS) (t9 : Nat) : Prop := ∀ s, s < 60 → K 19 s = tLast K (nI s) t9 ∧ (sState K s = 0 → K 19 s = (-1)) ∧ (¬ sState K s < nI 2 → ¬ K 19 s < 0) ∧ kSinR K s = gSi K s
def bHolds (K : kS) : Prop := ∀ p, p < 8 → kLapR K p < 0 ∨ (K 0 0 < kLapR K p ∧ kLapR K p ≤ K 0 0 + nI 30)
def bFirst (K : kS) (m : Nat) : Prop := ∀ r, r < 6 → kFirR K r (nI m) = (-1) ∨ ∃ f, kFirR K r (nI m) = nI f ∧ f + m ≤ 10 ∧ (∀ k, k < m → gOp K (10 * r + f + k) = true) ∧ (0 < f → gOp K (10 * r + f - 1) = false)
def bCount (K : kS) : Prop := gHo K 8 ≤ gHc K 60 ∧ gHc K 60 ≤ 4 * gHo K 8
def bQueue (K : kS) : Prop := ∀ p, p < 8 → lIsIn K p = true → kLapR K p < 0
theorem gHc_1 {K : kS} {i : Nat} (h : sState K i = nI 1) : gHc K (i + 1) = gHc K i + 1 := by
  show zcnt _ (i + 1) = _
  rw [zcnt, if_pos (by rw [h]; exact decide_eq_true rfl)]; rfl
theorem gHc_0 {K : kS} {i : Nat} (h : ¬ sState K i = nI 1) : gHc K (i + 1) = gHc K i := by
  show zcnt _ (i + 1) = _
  rw [zcnt, if_neg (fun z => h (of_decide_eq_true z))]; rfl
theorem gHo_s (K : kS) (p : Nat) : gHo K (p + 1) = gHo K p + (if kLapR K p < 0 then 0 else 1) := by
  show zcnt _ (p + 1) = zcnt _ p + _
  rw [zcnt]
  by_cases h : kLapR K p < 0
  · rw [if_pos h, if_neg (fun z => (of_decide_eq_true z) h)]; rfl
  · rw [if_neg h, if_pos (decide_eq_true h)]
theorem gB_st {K : kS} {i : Nat} (h : ∀ j, j < i + 1 → ¬ lAt K (nI j) = (-1)) : nI (gB K i) ||| (nI 1 <<< (lAt K (nI i) &&& 31)) = nI (gB K (i + 1)) := by
  obtain ⟨q, hq, e1, e2, -⟩ := lAt_of (h i (by omega))
  rw [gB, e2, e1]
  exact (gB_or _ (gB_lt i (fun j hj => h j (by omega))) q hq).1
def gT (K : kS) (i p : Nat) : Nat := if (gB K i).testBit p then 1 else 0
theorem gT_at {K : kS} {i p : Nat} (h : ∀ j, j < i → ¬ lAt K (nI j) = (-1)) (hp : p < 8) : (nI (gB K i) >>> (nI p &&& 31)) &&& nI 1 = nI (gT K i p) := gB_at _ (gB_lt i h) p hp
theorem gT_of {K : kS} {i p : Nat} (h : nI (gT K i p) = nI 1) : (gB K i).testBit p = true := by
  unfold gT at h
  cases e : (gB K i).testBit p with
  | true => rfl
  | false => rw [e] at h; exact absurd h (by decide)
theorem lServ_at {K : kS} (h : ¬ lServ K = (-1)) : lServ K = lAt K (nI 0) ∧ ¬ lAt K (nI 0) = (-1) := by
  unfold lServ at h ⊢
  by_cases g : lAt K (nI 0) = (-1)
  · rw [if_pos g] at h; exact absurd rfl h
  · refine ⟨?_, g⟩
    rw [if_neg g] at h ⊢
    by_cases g2 : K 7 (lAt K (nI 0)).toNatClampNeg < K 0 0
    · rw [if_pos g2]
    · rw [if_neg g2] at h; exact absurd rfl h
