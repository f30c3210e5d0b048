/-! more of the reference -/
theorem mSellS_3 (S : kS) (p f k : Nat) : mSellS S p f k 3 = S 3 := mSellS_fr S p f 3 (by decide) (by decide) (by decide) (by decide) (by decide) k
theorem mSellS_5 (S : kS) (p f k : Nat) : mSellS S p f k 5 = S 5 := mSellS_fr S p f 5 (by decide) (by decide) (by decide) (by decide) (by decide) k
theorem mSellS_6 (S : kS) (p f k : Nat) : mSellS S p f k 6 = S 6 := mSellS_fr S p f 6 (by decide) (by decide) (by decide) (by decide) (by decide) k
theorem mSellS_7 (S : kS) (p f k : Nat) : mSellS S p f k 7 = S 7 := mSellS_fr S p f 7 (by decide) (by decide) (by decide) (by decide) (by decide) k
theorem mSellS_8 (S : kS) (p f k : Nat) : mSellS S p f k 8 = S 8 := mSellS_fr S p f 8 (by decide) (by decide) (by decide) (by decide) (by decide) k
theorem mSellS_9 (S : kS) (p f k : Nat) : mSellS S p f k 9 = S 9 := mSellS_fr S p f 9 (by decide) (by decide) (by decide) (by decide) (by decide) k
theorem mSellS_10 (S : kS) (p f k : Nat) : mSellS S p f k 10 = S 10 := mSellS_fr S p f 10 (by decide) (by decide) (by decide) (by decide) (by decide) k
theorem mSellS_11 (S : kS) (p f k : Nat) : mSellS S p f k 11 = S 11 := mSellS_fr S p f 11 (by decide) (by decide) (by decide) (by decide) (by decide) k
theorem nI_nm1 {i : Nat} (h : i < 2 ^ 31) : ¬ nI i = (-1) := fun e => by
  have h1 := congrArg Int32.toInt e
  rw [nI_toInt h] at h1
  have h2 : (-1 : Int32).toInt = -1 := by decide
  omega
theorem mSold_a {M : kS} {p f m : Nat} (h : M 7 p = (-1)) : mSold M p f m = mSellS (setA M 5 (upd (M 5) p (-1))) p f m := by
  have e : M 3 = mSellS (setA M 5 (upd (M 5) p (-1))) p f m 3 := (mSellS_3 (setA M 5 (upd (M 5) p (-1))) p f m).symm
  unfold mSold
  rw [if_pos h, e, setA_same]
theorem mSold_b {M : kS} {p f m c : Nat} (h : ¬ M 7 p = (-1)) (hc : M 7 p = nI c) (hc2 : c < 10) : mSold M p f m = setA (mSellS (setA M 5 (upd (M 5) p (-1))) p f m) 3 (upd (mSellS (setA M 5 (upd (M 5) p (-1))) p f m 3) (8 * c + p) (mSellS (setA M 5 (upd (M 5) p (-1))) p f m 3 (8 * c + p) + nI m)) := by
  have e : mSellS (setA M 5 (upd (M 5) p (-1))) p f m 3 = M 3 := mSellS_3 (setA M 5 (upd (M 5) p (-1))) p f m
  unfold mSold
  rw [if_neg h, e, hc, nI_clamp (by omega)]
def mHok (M : kS) : Prop := ∀ p, p < 8 → M 5 p = (-1) ∨ ∃ f m, M 5 p = nI f ∧ M 6 p = nI m ∧ f + m ≤ 60 ∧ (M 7 p = (-1) ∨ ∃ c, c < 10 ∧ M 7 p = nI c)
theorem mHAre_of {M : kS} {a r q c : Int32} (h : mHAre M a r q c = true) : ∃ p r9 q9, p < 8 ∧ r9 < 6 ∧ q9 < 10 ∧ a = nI p ∧ r = nI r9 ∧ q = nI q9 ∧ a.toNatClampNeg = p ∧ r.toNatClampNeg = r9 ∧ q.toNatClampNeg = q9 ∧ (c = (-1) ∨ mIsC M c = true) := by
  simp only [mHAre, Bool.and_eq_true, Bool.or_eq_true, decide_eq_true_eq] at h
  obtain ⟨p, h1, h2, h3⟩ := mIsP_of h.1.1.1
  obtain ⟨r9, h4, h5, h6⟩ := mIsR_of h.1.1.2
  obtain ⟨q9, h7, h8, h9⟩ := mIn_of (by decide) h.1.2
  exact ⟨p, r9, q9, h1, h4, by omega, h2, h5, h8, h3, h6, h9, h.2⟩
theorem mHRng_of {q9 : Nat} {m : Int32} (hq : q9 < 10) (h : mHRng (nI q9) m = true) : ∃ m9, 1 ≤ m9 ∧ m9 ≤ 4 ∧ m = nI m9 ∧ m.toNatClampNeg = m9 ∧ q9 + m9 ≤ 10 := by
  simp only [mHRng, Bool.and_eq_true, decide_eq_true_eq] at h
  obtain ⟨m9, h1, h2, h3, h4⟩ := mIn_of1 (by decide) (by decide) h.1
  refine ⟨m9, h1, h2, h3, h4, ?_⟩
  have h5 := h.2
  rw [h3, nI_add] at h5
  rcases Nat.lt_or_ge 10 (q9 + m9) with g | g
  · exact absurd ((nI_ltI (by decide) (by omega)).mpr g) h5
  · exact g
theorem mHCan_of {M : kS} {a r q m c : Int32} (h : mHCan M a r q m c = true) : mHAre M a r q c = true ∧ mHRng q m = true := by
  simp only [mHCan, Bool.and_eq_true] at h
  exact ⟨h.1.1.1, h.1.1.2⟩
theorem mHCode_of {M : kS} {c : Int32} {n : Nat} (hn : n ≤ 10) (hc : M 0 3 = nI n) (h : c = (-1) ∨ mIsC M c = true) : c = (-1) ∨ ∃ n, n < 10 ∧ c = nI n := by
  rcases h with h | h
  · exact Or.inl h
  · obtain ⟨p, h1, h2, -⟩ := mIsC_of hc hn h
    exact Or.inr ⟨p, by omega, h2⟩
theorem mHFst_at {M : kS} {a r q c : Int32} {r9 q9 : Nat} (h : mHAre M a r q c = true) (hr : r = nI r9) (hq : q = nI q9) : mHFst M a r q c = nI (10 * r9 + q9) := by
  unfold mHFst
  rw [if_pos h, hr, hq, pk_mul, nI_add]
theorem mHOk_of {M : kS} {a r q m c : Int32} (h : mHOk M a r q m c = true) : mHTry M a r q m c = true := by
  simp only [mHOk, Bool.and_eq_true] at h
  exact h.1
theorem mHTry_of {M : kS} {a r q m c : Int32} (h : mHTry M a r q m c = true) : mHCan M a r q m c = true := by
  simp only [mHTry, Bool.and_eq_true] at h
  exact h.1
