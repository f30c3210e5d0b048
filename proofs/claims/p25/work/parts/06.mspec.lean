/-! the reference in pure words: M holds all its arrays by their cells; cell 0: thrown, time, opening, codes, takings -/
section MC
variable (ad : Nat → Nat) (cI cZ : ClassId) (K : kS)
abbrev mc0 : Nat × va_E := (ad 0, .inr (6, [.int (K 0 0), .int (K 0 1), .int (K 0 2), .int (K 0 3), .ref (ad 1), .ref (ad 2), .ref (ad 3), .ref (ad 4), .ref (ad 5), .ref (ad 6), .ref (ad 7), .ref (ad 8), .ref (ad 9), .ref (ad 10), .ref (ad 11), .ref (ad 12), .ref (ad 13), .ref (ad 14), .ref (ad 15), .ref (ad 16), .int (K 0 4)]))
abbrev mc1 : Nat × va_E := (ad 1, .inl (cI, 10, .inl (K 1)))
abbrev mc2 : Nat × va_E := (ad 2, .inl (cI, 10, .inl (K 2)))
abbrev mc3 : Nat × va_E := (ad 3, .inl (cI, 80, .inl (K 3)))
abbrev mc4 : Nat × va_E := (ad 4, .inl (cI, 8, .inl (K 4)))
abbrev mc5 : Nat × va_E := (ad 5, .inl (cI, 8, .inl (K 5)))
abbrev mc6 : Nat × va_E := (ad 6, .inl (cI, 8, .inl (K 6)))
abbrev mc7 : Nat × va_E := (ad 7, .inl (cI, 8, .inl (K 7)))
abbrev mc8 : Nat × va_E := (ad 8, .inl (cI, 8, .inl (K 8)))
abbrev mc9 : Nat × va_E := (ad 9, .inl (cI, 8, .inl (K 9)))
abbrev mc10 : Nat × va_E := (ad 10, .inl (cI, 8, .inl (K 10)))
abbrev mc11 : Nat × va_E := (ad 11, .inl (cI, 8, .inl (K 11)))
abbrev mc12 : Nat × va_E := (ad 12, .inl (cI, 8, .inl (K 12)))
abbrev mc13 : Nat × va_E := (ad 13, .inl (cI, 60, .inl (K 13)))
abbrev mc14 : Nat × va_E := (ad 14, .inl (cI, 60, .inl (K 14)))
abbrev mc15 : Nat × va_E := (ad 15, .inl (cI, 60, .inl (K 15)))
abbrev mc16 : Nat × va_E := (ad 16, .inl (cZ, 60, .inl (K 16)))
abbrev mwA : va_W := [mc0 ad K, mc1 ad cI K, mc2 ad cI K, mc3 ad cI K, mc4 ad cI K, mc5 ad cI K, mc6 ad cI K, mc7 ad cI K, mc8 ad cI K, mc9 ad cI K, mc10 ad cI K, mc11 ad cI K, mc12 ad cI K, mc13 ad cI K, mc14 ad cI K, mc15 ad cI K, mc16 ad cZ K]
end MC
theorem zfind_ex {b : Nat → Bool} {n : Nat} (h : ¬ zfind b n = (-1)) : ∃ q, q < n ∧ b q = true ∧ zfind b n = nI q ∧ ∀ j, j < q → b j = false := by
  have key : ∀ k, k ≤ n → (∀ j, j < k → b j = false) ∨ ∃ q, q < k ∧ b q = true ∧ ∀ j, j < q → b j = false := by
    intro k
    induction k with
    | zero => intro _; exact Or.inl (fun j hj => absurd hj (Nat.not_lt_zero j))
    | succ k ih =>
      intro hk
      rcases ih (by omega) with h1 | ⟨q, h1, h2, h3⟩
      · cases hb : b k with
        | false => exact Or.inl (lt_succ_all h1 hb)
        | true => exact Or.inr ⟨k, by omega, hb, h1⟩
      · exact Or.inr ⟨q, by omega, h2, h3⟩
  rcases key n (Nat.le_refl n) with h1 | ⟨q, h1, h2, h3⟩
  · exact absurd (zfind_no h1) h
  · exact ⟨q, h1, h2, zfind_at h1 h3 h2, h3⟩
def mIn (x a b : Int32) : Bool := !decide (x < a) && !decide (b < x)
theorem mIn_of {x : Int32} {n : Nat} (hn : n < 2 ^ 31) (h : mIn x (nI 0) (nI n) = true) : ∃ p, p ≤ n ∧ x = nI p ∧ x.toNatClampNeg = p := by
  simp only [mIn, Bool.and_eq_true, Bool.not_eq_true', decide_eq_false_iff_not] at h
  obtain ⟨j, hj, e⟩ := nI_of (x := x) h.1
  subst e
  refine ⟨j, ?_, rfl, nI_clamp hj⟩
  rcases Nat.lt_or_ge n j with q | q
  · exact absurd ((nI_ltI hn hj).mpr q) h.2
  · exact q
theorem mIn_to {a b p : Nat} (ha : a ≤ p) (hb : p ≤ b) (h : b < 2 ^ 31) : mIn (nI p) (nI a) (nI b) = true := by
  simp only [mIn, Bool.and_eq_true, Bool.not_eq_true', decide_eq_false_iff_not]
  exact ⟨nI_nlt ha (by omega), nI_nlt hb h⟩
theorem mIn_of1 {x : Int32} {a n : Nat} (ha : a < 2 ^ 31) (hn : n < 2 ^ 31) (h : mIn x (nI a) (nI n) = true) : ∃ p, a ≤ p ∧ p ≤ n ∧ x = nI p ∧ x.toNatClampNeg = p := by
  simp only [mIn, Bool.and_eq_true, Bool.not_eq_true', decide_eq_false_iff_not] at h
  have h0 : ¬ x < 0 := fun q => by
    have h1 := fun r => h.1 r
    apply h1
    have e1 : x.toInt < 0 := by
      have := Int32.lt_iff_toInt_lt.mp q
      simpa using this
    exact Int32.lt_iff_toInt_lt.mpr (by rw [nI_toInt ha]; omega)
  obtain ⟨j, hj, e⟩ := nI_of (x := x) h0
  subst e
  refine ⟨j, ?_, ?_, rfl, nI_clamp hj⟩
  · rcases Nat.lt_or_ge j a with q | q
    · exact absurd ((nI_ltI hj ha).mpr q) h.1
    · exact q
  · rcases Nat.lt_or_ge n j with q | q
    · exact absurd ((nI_ltI hn hj).mpr q) h.2
    · exact q
def mIsP (x : Int32) : Bool := mIn x (nI 0) (nI 7)
def mIsS (x : Int32) : Bool := mIn x (nI 0) (nI 59)
def mIsR (x : Int32) : Bool := mIn x (nI 0) (nI 5)
def mIsC (M : kS) (x : Int32) : Bool := mIn x (nI 0) (M 0 3 - nI 1)
theorem mIsP_of {x : Int32} (h : mIsP x = true) : ∃ p, p < 8 ∧ x = nI p ∧ x.toNatClampNeg = p := by
  obtain ⟨p, h1, h2, h3⟩ := mIn_of (by decide) h
  exact ⟨p, by omega, h2, h3⟩
theorem mIsS_of {x : Int32} (h : mIsS x = true) : ∃ p, p < 60 ∧ x = nI p ∧ x.toNatClampNeg = p := by
  obtain ⟨p, h1, h2, h3⟩ := mIn_of (by decide) h
  exact ⟨p, by omega, h2, h3⟩
theorem mIsR_of {x : Int32} (h : mIsR x = true) : ∃ p, p < 6 ∧ x = nI p ∧ x.toNatClampNeg = p := by
  obtain ⟨p, h1, h2, h3⟩ := mIn_of (by decide) h
  exact ⟨p, by omega, h2, h3⟩
theorem mIsC_of {M : kS} {x : Int32} {n : Nat} (hc : M 0 3 = nI n) (hn : n ≤ 10) (h : mIsC M x = true) : ∃ p, p < n ∧ x = nI p ∧ x.toNatClampNeg = p := by
  unfold mIsC at h
  rw [hc] at h
  cases n with
  | zero =>
    exfalso
    simp only [mIn, Bool.and_eq_true, Bool.not_eq_true', decide_eq_false_iff_not] at h
    obtain ⟨j, hj, e⟩ := nI_of (x := x) h.1
    subst e
    have e1 : (nI 0 - nI 1 : Int32) < 0 := by decide
    have e2 : (0 : Int32) ≤ nI j := nI_pos' hj
    exact h.2 (Int32.lt_of_lt_of_le e1 e2)
  | succ k =>
    rw [show nI (k + 1) - nI 1 = nI k from nI_pred k] at h
    obtain ⟨p, h1, h2, h3⟩ := mIn_of (by omega) h
    exact ⟨p, by omega, h2, h3⟩
def mGoes (M : kS) (x : Int32) : kS := setA M 0 (upd (M 0) 0 x)
def mPost (T : Int32) (M E : kS) : kS := if T = nI 0 then E else mGoes M T
theorem mPost_0 (M E : kS) : mPost (nI 0) M E = E := if_pos rfl
theorem mPost_1 (M E : kS) : mPost (nI 1) M E = mGoes M (nI 1) := if_neg (by decide)
theorem mPost_2 (M E : kS) : mPost (nI 2) M E = mGoes M (nI 2) := if_neg (by decide)
theorem mPost_3 (M E : kS) : mPost (nI 3) M E = mGoes M (nI 3) := if_neg (by decide)
def mRes (T r : Int32) : Int32 := if T = nI 0 then r else nI 0
theorem mRes_0 (r : Int32) : mRes (nI 0) r = r := if_pos rfl
theorem mRes_1 (r : Int32) : mRes (nI 1) r = nI 0 := if_neg (by decide)
theorem mRes_2 (r : Int32) : mRes (nI 2) r = nI 0 := if_neg (by decide)
theorem mRes_3 (r : Int32) : mRes (nI 3) r = nI 0 := if_neg (by decide)
-- readers
def mHeldUp (M : kS) (x : Int32) : Nat → Bool
  | 0 => false
  | i + 1 => mHeldUp M x i || (decide (¬ M 5 i = (-1)) && mIn x (M 5 i) (M 5 i + M 6 i - nI 1))
def mHeld (M : kS) (x : Int32) : Bool := mHeldUp M x 8
def mState (M : kS) (s : Nat) : Int32 := if mHeld M (nI s) then nI 1 else if M 13 s = (-1) then nI 0 else if M 15 s = (-1) then nI 2 else nI 3
def mOpen (M : kS) (s : Nat) : Bool := !mHeld M (nI s) && (decide (M 13 s = (-1)) || decide (¬ M 15 s = (-1)))
def mLeft (M : kS) (s : Nat) : Bool := decide (¬ s % 10 ≤ 0) && mOpen M (s - 1)
def mRight (M : kS) (s : Nat) : Bool := decide (¬ 9 ≤ s % 10) && mOpen M (s + 1)
def mAlone (M : kS) (s : Nat) : Bool := mOpen M s && !mLeft M s && !mRight M s
def mPrice (M : kS) (s : Nat) : Int32 := if M 13 s = (-1) then nI 100 - nI (10 * (s / 10)) else M 15 s
def mUsed (M : kS) (c p : Nat) : Int32 := M 3 (8 * c + p) + (if M 5 p = (-1) then nI 0 else if M 7 p = nI c then M 6 p else nI 0)
def mCount (M : kS) : Nat := zcnt (fun j => decide (¬ M 4 j = (-1))) 8
def mDraw (M : kS) (p : Nat) : Int32 := (nI (5 * p)) + (nI 3 * M 4 p) - ((nI (5 * p)) + (nI 3 * M 4 p)) / nI 8 * nI 8
def mAhead (M : kS) (p o : Nat) : Bool := decide (M 4 p < M 4 o) || (decide (M 4 p = M 4 o) && decide (¬ mDraw M o ≤ mDraw M p))
def mPlace (M : kS) (p : Nat) : Nat := zcnt (fun q => decide (¬ M 4 q = (-1)) && mAhead M q p) 8
def mAt (M : kS) (x : Int32) : Int32 := zfind (fun q => decide (¬ M 4 q = (-1)) && decide (nI (mPlace M q) = x)) 8
def mServed (M : kS) : Int32 := if mAt M (nI 0) = (-1) then -1 else if M 0 1 ≤ M 4 (mAt M (nI 0)).toNatClampNeg then -1 else mAt M (nI 0)
def mAreUp (M : kS) (a : Int32) (f : Nat) : Nat → Bool
  | 0 => true
  | k + 1 => mAreUp M a f k && mOpen M (f + k) && decide (¬ M 13 (f + k) = a)
def mWithin (M : kS) (c : Int32) (p : Nat) (m : Int32) : Bool := if c = (-1) then decide (¬ M 0 1 < M 0 2) else decide (¬ M 1 c.toNatClampNeg < mUsed M c.toNatClampNeg p + m) && decide (¬ M 2 c.toNatClampNeg < mUsed M c.toNatClampNeg p + m + mUsed M c.toNatClampNeg (zmate p))
def mWas (M : kS) (i : Nat) : Nat → Int32 := fun j => if j < i then zb (mAlone M j) else M 16 j
theorem mWas_s (M : kS) (i : Nat) : upd (mWas M i) i (zb (mAlone M i)) = mWas M (i + 1) := by
  funext j
  simp only [upd, mWas]
  by_cases h : j = i
  · rw [if_pos h, if_pos (by omega), h]
  · rw [if_neg h]
    by_cases h2 : j < i
    · rw [if_pos h2, if_pos (by omega)]
    · rw [if_neg h2, if_neg (by omega)]
theorem mWas_0 (M : kS) : mWas M 0 = M 16 := by
  funext j
  simp only [mWas]
  rw [if_neg (by omega)]
def mLvUp (al : Nat → Bool) (w : Nat → Int32) : Nat → Bool
  | 0 => false
  | i + 1 => mLvUp al w i || (al i && decide (w i = 0))
def mTry2 (M : kS) (p f m : Nat) : kS := setA (setA (setA M 16 (mWas M 60)) 5 (upd (M 5) p (nI f))) 6 (upd (M 6) p (nI m))
def mTry (M : kS) (p f m : Nat) : kS := setA (setA (setA M 16 (mWas M 60)) 5 (upd (upd (M 5) p (nI f)) p (-1))) 6 (upd (M 6) p (nI m))
def mLeaves (M : kS) (p f m : Nat) : Bool := mLvUp (fun q => mAlone (mTry2 M p f m) q) (mWas M 60) 60
-- writers
def mDrop (M : kS) (p : Nat) : kS := setA (setA M 5 (upd (M 5) p (-1))) 12 (upd (M 12) p (M 12 p - M 9 p))
def mPassS (M : kS) : Nat → kS
  | 0 => M
  | i + 1 => if mPassS M i 5 i = (-1) then mPassS M i else if mPassS M i 0 1 < mPassS M i 11 i then mPassS M i else mDrop (mPassS M i) i
def mPassN (M : kS) : Nat → Nat
  | 0 => 0
  | i + 1 => if mPassS M i 5 i = (-1) then mPassN M i else if mPassS M i 0 1 < mPassS M i 11 i then mPassN M i else mPassN M i + 1
def mSell1 (S : kS) (p s : Nat) : kS := setA (setA (setA (if S 13 s = (-1) then setA S 0 (upd (S 0) 4 (S 0 4 + mPrice S s)) else setA S 12 (upd (S 12) (S 13 s).toNatClampNeg (S 12 (S 13 s).toNatClampNeg - mPrice S s))) 13 (upd (S 13) s (nI p))) 14 (upd (S 14) s (mPrice S s))) 15 (upd (S 15) s (-1))
def mSellS (S : kS) (p f : Nat) : Nat → kS
  | 0 => S
  | k + 1 => mSell1 (mSellS S p f k) p (f + k)
theorem mSell1_fr (S : kS) (p s i : Nat) (h : i ≠ 0) (h2 : i ≠ 12) (h3 : i ≠ 13) (h4 : i ≠ 14) (h5 : i ≠ 15) : mSell1 S p s i = S i := by
  unfold mSell1
  rw [setA_ne _ _ h5, setA_ne _ _ h4, setA_ne _ _ h3]
  split
  · rw [setA_ne _ _ h]
  · rw [setA_ne _ _ h2]
theorem mSellS_fr (S : kS) (p f i : Nat) (h : i ≠ 0) (h2 : i ≠ 12) (h3 : i ≠ 13) (h4 : i ≠ 14) (h5 : i ≠ 15) : ∀ k, mSellS S p f k i = S i
  | 0 => rfl
  | k + 1 => by rw [mSellS, mSell1_fr _ _ _ _ h h2 h3 h4 h5, mSellS_fr S p f i h h2 h3 h4 h5 k]
def mOwn (S : kS) : Prop := ∀ q, q < 60 → S 13 q = (-1) ∨ ∃ o, o < 8 ∧ S 13 q = nI o
theorem mOwn_1 {S : kS} {p s : Nat} (hp : p < 8) (h : mOwn S) : mOwn (mSell1 S p s) := by
  intro q hq
  have e : mSell1 S p s 13 = upd (S 13) s (nI p) := by
    unfold mSell1
    rw [setA_ne _ _ (by decide), setA_ne _ _ (by decide), setA_eq]
  rw [e]
  unfold upd
  by_cases hs : q = s
  · rw [if_pos hs]; exact Or.inr ⟨p, hp, rfl⟩
  · rw [if_neg hs]; exact h q hq
def mSold (M : kS) (p f m : Nat) : kS := setA (mSellS (setA M 5 (upd (M 5) p (-1))) p f m) 3 (if M 7 p = (-1) then M 3 else upd (M 3) (8 * (M 7 p).toNatClampNeg + p) (M 3 (8 * (M 7 p).toNatClampNeg + p) + nI m))
def mProl (M : kS) (p : Nat) : kS := setA M 11 (upd (M 11) p (if M 11 p + nI 5 ≤ M 10 p + nI 30 then M 11 p + nI 5 else M 10 p + nI 30))
-- the calls: T: what is thrown (0: nothing), E: the state behind it if nothing, R: the answer
def mPassT (M : kS) (x : Int32) : Int32 := if mIn x (nI 1) (nI 500) then (if M 0 1 + x ≤ nI 10000 then nI 0 else nI 2) else nI 1
def mPassB (M : kS) (x : Int32) : kS := setA (mGoes M (nI 0)) 0 (upd (upd (M 0) 0 (nI 0)) 1 (M 0 1 + x))
def mPassE (M : kS) (x : Int32) : kS := mPassS (mPassB M x) 8
def mSetT (x : Int32) : Int32 := if mIn x (nI 0) (nI 10000) then nI 0 else nI 1
def mSetE (M : kS) (x : Int32) : kS := setA (mGoes M (nI 0)) 0 (upd (upd (M 0) 0 (nI 0)) 2 x)
def mCodeT (M : kS) (a b : Int32) : Int32 := if mIn a (nI 1) (nI 10) && mIn b (nI 1) (nI 20) then (if M 0 3 = nI 10 then nI 2 else nI 0) else nI 1
def mCodeE (M : kS) (n : Nat) (a b : Int32) : kS := setA (setA (setA (mGoes M (nI 0)) 1 (upd (M 1) n a)) 2 (upd (M 2) n b)) 0 (upd (upd (M 0) 0 (nI 0)) 3 (nI (n + 1)))
def mUsedT (M : kS) (c x : Int32) : Int32 := if mIsC M c && mIsP x then nI 0 else nI 1
def mJoinT (M : kS) (x : Int32) : Int32 := if mIsP x then (if M 4 x.toNatClampNeg = (-1) then (if M 5 x.toNatClampNeg = (-1) then nI 0 else nI 2) else nI 2) else nI 1
def mJoinE (M : kS) (p : Nat) : kS := setA (mGoes M (nI 0)) 4 (upd (M 4) p (M 0 1))
def mQuitT (M : kS) (x : Int32) : Int32 := if mIsP x then (if M 4 x.toNatClampNeg = (-1) then nI 2 else nI 0) else nI 1
def mQuitE (M : kS) (p : Nat) : kS := setA (mGoes M (nI 0)) 4 (upd (M 4) p (-1))
def mQueT (M : kS) (x : Int32) : Int32 := if mIn x (nI 0) (nI (mCount M) - nI 1) then nI 0 else nI 1
def mHAre (M : kS) (a r q c : Int32) : Bool := mIsP a && mIsR r && mIn q (nI 0) (nI 9) && (decide (c = (-1)) || mIsC M c)
def mHRng (q m : Int32) : Bool := mIn m (nI 1) (nI 4) && decide (¬ nI 10 < q + m)
def mHFst (M : kS) (a r q c : Int32) : Int32 := if mHAre M a r q c then nI 10 * r + q else nI 0
def mHF (r q : Int32) : Nat := 10 * r.toNatClampNeg + q.toNatClampNeg
def mHCan (M : kS) (a r q m c : Int32) : Bool := mHAre M a r q c && mHRng q m && decide (mServed M = a) && mAreUp M a (mHF r q) m.toNatClampNeg
def mHTry (M : kS) (a r q m c : Int32) : Bool := mHCan M a r q m c && mWithin M c a.toNatClampNeg m
def mHK (M : kS) (a r q m c : Int32) : kS := if mHTry M a r q m c then mTry M a.toNatClampNeg (mHF r q) m.toNatClampNeg else M
def mHOk (M : kS) (a r q m c : Int32) : Bool := mHTry M a r q m c && !mLeaves M a.toNatClampNeg (mHF r q) m.toNatClampNeg
def mHoldT (M : kS) (a r q m c : Int32) : Int32 := if mHAre M a r q c then (if mHRng q m then (if mHOk M a r q m c then nI 0 else nI 3) else nI 2) else nI 1
def mHCost (M : kS) (f k : Nat) : Int32 := zsm (fun j => mPrice M (f + j)) k
def mHoldE (M : kS) (p f m : Nat) (c : Int32) : kS := setA (setA (setA (setA (setA (setA (setA (setA (mGoes (mTry M p f m) (nI 0)) 4 (upd (M 4) p (-1))) 5 (upd (mTry M p f m 5) p (nI f))) 6 (upd (mTry M p f m 6) p (nI m))) 7 (upd (M 7) p c)) 8 (upd (M 8) p (mHCost (mGoes (mTry M p f m) (nI 0)) f m))) 9 (upd (M 9) p (nI 0))) 10 (upd (M 10) p (M 0 1))) 11 (upd (M 11) p (M 0 1 + nI 10))
def mPayOk (M : kS) (a x : Int32) : Bool := mIsP a && mIn x (nI 1) (nI 1000) && decide (¬ M 5 a.toNatClampNeg = (-1)) && decide (¬ M 8 a.toNatClampNeg - M 9 a.toNatClampNeg < x)
def mPayT (M : kS) (a x : Int32) : Int32 := if mIsP a then (if mIn x (nI 1) (nI 1000) then (if mPayOk M a x then nI 0 else nI 3) else nI 2) else nI 1
def mPayB (M : kS) (p : Nat) (x : Int32) : kS := setA (setA (mGoes M (nI 0)) 9 (upd (M 9) p (M 9 p + x))) 12 (upd (M 12) p (M 12 p + x))
def mPayL (M : kS) (p : Nat) (x : Int32) : Int32 := M 8 p - (M 9 p + x)
def mPayE (M : kS) (p : Nat) (x : Int32) : kS := if mPayL M p x = 0 then mSold (mPayB M p x) p (M 5 p).toNatClampNeg (M 6 p).toNatClampNeg else mProl (mPayB M p x) p
def mGoT (M : kS) (x : Int32) : Int32 := if mIsP x then (if M 5 x.toNatClampNeg = (-1) then nI 2 else nI 0) else nI 1
def mLapT (x : Int32) : Int32 := if mIsP x then nI 0 else nI 1
def mLapR (M : kS) (p : Nat) : Int32 := if M 5 p = (-1) then -1 else M 11 p
def mSeaT (x : Int32) : Int32 := if mIsS x then nI 0 else nI 1
def mFirT (r m : Int32) : Int32 := if mIsR r then (if mIn m (nI 1) (nI 10) then nI 0 else nI 2) else nI 1
def mFirL (M : kS) (r : Nat) : Nat → Int32
  | 0 => nI 0
  | i + 1 => if mOpen M (10 * r + i) then mFirL M r i + nI 1 else nI 0
def mFirI (M : kS) (r : Nat) (m : Int32) : Int32 := zfind (fun i => decide (mFirL M r (i + 1) = m)) 10
def mFirR (M : kS) (r : Nat) (m : Int32) : Int32 := if mFirI M r m = (-1) then -1 else mFirI M r m - m + nI 1
def mOffA (a s : Int32) : Bool := mIsP a && mIsS s
def mOffC (M : kS) (a s : Int32) : Int32 := if mOffA a s then M 14 s.toNatClampNeg * nI 11 / nI 10 else nI 0
def mOffOk (M : kS) (a s x : Int32) : Bool := mOffA a s && mIn x (nI 1) (nI 10000) && decide (mState M s.toNatClampNeg = nI 2) && decide (M 13 s.toNatClampNeg = a) && decide (¬ mOffC M a s < x)
def mOffT (M : kS) (a s x : Int32) : Int32 := if mOffA a s then (if mIn x (nI 1) (nI 10000) then (if mOffOk M a s x then nI 0 else nI 3) else nI 2) else nI 1
def mOffE (M : kS) (s : Nat) (x : Int32) : kS := setA (mGoes M (nI 0)) 15 (upd (M 15) s x)
def mRetT (M : kS) (s : Int32) : Int32 := if mIsS s then (if mState M s.toNatClampNeg = nI 3 then nI 0 else nI 2) else nI 1
