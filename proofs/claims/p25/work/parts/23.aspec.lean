/-! what a step of the law does, in pure words -/
def aS (v : Int32) (k : Nat) : Int32 := v >>> (nI k &&& 31)
def aOdd (v : Int32) : Bool := decide (aLow (aS v 24) (nI 9) = 0)
def aPer (v : Int32) : Int32 := bif aOdd v then aLow (aS v 4) (nI 10) - nI 1 else aLow (aS v 4) (nI 8)
def aHol (K : kS) (v : Int32) : Int32 := bif aOdd v then aPer v else if lServ K < 0 then aPer v else lServ K
def aRow (v : Int32) : Int32 := bif aOdd v then aLow (aS v 7) (nI 8) - nI 1 else aLow (aS v 7) (nI 2)
def aPlc (v : Int32) : Int32 := bif aOdd v then aLow (aS v 10) (nI 12) - nI 1 else aLow (aS v 10) (nI 10)
def aSea (v : Int32) : Int32 := bif aOdd v then aLow (aS v 7) (nI 62) - nI 1 else nI 10 * aRow v + aPlc v
def aSn (v : Int32) : Nat := 10 * (aLow (aS v 7) (nI 2)).toNatClampNeg + (aLow (aS v 10) (nI 10)).toNatClampNeg
def aOwn (K : kS) (v : Int32) : Int32 := bif aOdd v then aPer v else if K 19 (aSn v) < 0 then aPer v else K 19 (aSn v)
def aKd (v : Int32) : Nat := (aLow v (nI 24)).toNatClampNeg
def a0 (v : Int32) : Int32 := bif aOdd v then aLow (aS v 4) (nI 10003) - nI 1 else aLow (aS v 4) (nI 60)
def a1 (v : Int32) : Int32 := bif aOdd v then aLow (aS v 4) (nI 13) else nI 2 + aLow (aS v 4) (nI 4)
def a2 (v : Int32) : Int32 := bif aOdd v then aLow (aS v 9) (nI 23) else nI 3 + aLow (aS v 9) (nI 5)
def a7 (v : Int32) : Int32 := bif aOdd v then aLow (aS v 4) (nI 503) else nI 1 + aLow (aS v 4) (nI 4)
def a11 (v : Int32) : Int32 := bif aOdd v then aLow (aS v 7) (nI 1003) else nI 10 * (nI 1 + aLow (aS v 7) (nI 20))
def a14 (v : Int32) : Int32 := bif aOdd v then aLow (aS v 13) (nI 10003) else nI 50 + aLow (aS v 13) (nI 65)
def a17 (v : Int32) : Int32 := bif aOdd v then aLow (aS v 14) (nI 7) else nI 1 + aLow (aS v 14) (nI 4)
def a19 (v : Int32) : Int32 := bif aOdd v then nI 12 else nI 2
def a18 (v : Int32) : Int32 := if aLow (aS v 17) (nI 3) = 0 then (-1) else aLow (aS v 17) (a19 v)
theorem a19_n (v : Int32) : ¬ a19 v = 0 := by
  unfold a19
  cases aOdd v <;> decide
theorem aSn_eq (v : Int32) : nI 10 * aLow (aS v 7) (nI 2) + aLow (aS v 10) (nI 10) = nI (aSn v) := by
  obtain ⟨q, hq, e1, e2⟩ := aLow_of (aS v 7) (k := 2) (by decide) (by decide)
  obtain ⟨r, hr, e3, e4⟩ := aLow_of (aS v 10) (k := 10) (by decide) (by decide)
  unfold aSn
  rw [e2, e4, e1, e3, pk_mul, nI_add]
theorem aSn_lt (v : Int32) : aSn v < 60 := by
  obtain ⟨q, hq, e1, e2⟩ := aLow_of (aS v 7) (k := 2) (by decide) (by decide)
  obtain ⟨r, hr, e3, e4⟩ := aLow_of (aS v 10) (k := 10) (by decide) (by decide)
  unfold aSn
  rw [e2, e4]; omega
theorem aKd_eq (v : Int32) : aLow v (nI 24) = nI (aKd v) := by
  obtain ⟨q, hq, e1, e2⟩ := aLow_of v (k := 24) (by decide) (by decide)
  unfold aKd
  rw [e2, e1]
theorem aKd_lt (v : Int32) : aKd v < 24 := by
  obtain ⟨q, hq, e1, e2⟩ := aLow_of v (k := 24) (by decide) (by decide)
  unfold aKd
  rw [e2]; exact hq
theorem aKd_cs (v : Int32) : aKd v = 0 ∨ aKd v = 1 ∨ aKd v = 2 ∨ aKd v = 3 ∨ (aKd v = 4 ∨ aKd v = 5 ∨ aKd v = 6) ∨ (aKd v = 7 ∨ aKd v = 8 ∨ aKd v = 9 ∨ aKd v = 10) ∨ (aKd v = 11 ∨ aKd v = 12 ∨ aKd v = 13) ∨ (aKd v = 14 ∨ aKd v = 15) ∨ aKd v = 16 ∨ 17 ≤ aKd v := by omega
def aMk (T R : Int32) (E K : kS) : Int32 × kS := (zAn T R, zEK T E K)
theorem aMk_1 (T R : Int32) (E K : kS) : (aMk T R E K).1 = zAn T R := rfl
theorem aMk_2 (T R : Int32) (E K : kS) : (aMk T R E K).2 = zEK T E K := rfl
/-- the answer of a step, and the class's state behind it -/
def aOut (K : kS) (v : Int32) (n9 t9 : Nat) : Int32 × kS :=
  if aKd v = 0 then aMk (kSetT (a0 v)) (K 0 1) (kSetE K (a0 v)) K
  else if aKd v = 1 then aMk (kCodeT K (a1 v) (a2 v)) (nI n9) (kCode K n9 (a1 v) (a2 v)) K
  else if aKd v = 2 then aMk (kQuitT K (aPer v)) (nI (lLen (kLeave K (aPer v).toNatClampNeg))) (kLeave K (aPer v).toNatClampNeg) K
  else if aKd v = 3 then aMk (kGoT K (aPer v)) (K 13 (aPer v).toNatClampNeg) (kBackAt K (aPer v).toNatClampNeg) K
  else if aKd v < 7 then aMk (kJoinT K (aPer v)) (nI (lLen (kEnter K (aPer v).toNatClampNeg (K 0 0)))) (kEnter K (aPer v).toNatClampNeg (K 0 0)) K
  else if aKd v < 11 then aMk (kPassT K (a7 v)) (nI (kPassN (kPassB K (a7 v)) 8)) (kPassS (kPassB K (a7 v)) 8) K
  else if aKd v < 14 then aMk (kPayT K (aPer v) (a11 v)) (hLeft (kPayB K (aPer v).toNatClampNeg (a11 v)) (aPer v).toNatClampNeg) (kPayE K (aPer v).toNatClampNeg t9 (a11 v)) K
  else if aKd v < 16 then aMk (kOffT K (aOwn K v) (aSea v) (a14 v)) (sCeil K (aSea v).toNatClampNeg) (kPut K (aSea v).toNatClampNeg (a14 v)) K
  else if aKd v = 16 then aMk (kRetT K (aSea v)) (K 20 (aSea v).toNatClampNeg) (kRetE K (aSea v).toNatClampNeg) K
  else aMk (kHoldT K (aHol K v) (aRow v) (aPlc v) (a17 v) (a18 v)) (kHoldR K (mHF (aRow v) (aPlc v)) (a17 v).toNatClampNeg) (kHoldE K (aHol K v).toNatClampNeg (mHF (aRow v) (aPlc v)) (a17 v).toNatClampNeg (a18 v)) K
theorem aOut_0 {K : kS} {v : Int32} {n9 t9 : Nat} (h : aKd v = 0) : aOut K v n9 t9 = aMk (kSetT (a0 v)) (K 0 1) (kSetE K (a0 v)) K := if_pos h
theorem aOut_1 {K : kS} {v : Int32} {n9 t9 : Nat} (h : aKd v = 1) : aOut K v n9 t9 = aMk (kCodeT K (a1 v) (a2 v)) (nI n9) (kCode K n9 (a1 v) (a2 v)) K := by
  unfold aOut
  rw [if_neg (by omega), if_pos h]
theorem aOut_2 {K : kS} {v : Int32} {n9 t9 : Nat} (h : aKd v = 2) : aOut K v n9 t9 = aMk (kQuitT K (aPer v)) (nI (lLen (kLeave K (aPer v).toNatClampNeg))) (kLeave K (aPer v).toNatClampNeg) K := by
  unfold aOut
  rw [if_neg (by omega), if_neg (by omega), if_pos h]
theorem aOut_3 {K : kS} {v : Int32} {n9 t9 : Nat} (h : aKd v = 3) : aOut K v n9 t9 = aMk (kGoT K (aPer v)) (K 13 (aPer v).toNatClampNeg) (kBackAt K (aPer v).toNatClampNeg) K := by
  unfold aOut
  rw [if_neg (by omega), if_neg (by omega), if_neg (by omega), if_pos h]
theorem aOut_4 {K : kS} {v : Int32} {n9 t9 : Nat} (h : aKd v = 4 ∨ aKd v = 5 ∨ aKd v = 6) : aOut K v n9 t9 = aMk (kJoinT K (aPer v)) (nI (lLen (kEnter K (aPer v).toNatClampNeg (K 0 0)))) (kEnter K (aPer v).toNatClampNeg (K 0 0)) K := by
  unfold aOut
  rw [if_neg (by omega), if_neg (by omega), if_neg (by omega), if_neg (by omega), if_pos (by omega)]
theorem aOut_5 {K : kS} {v : Int32} {n9 t9 : Nat} (h : aKd v = 7 ∨ aKd v = 8 ∨ aKd v = 9 ∨ aKd v = 10) : aOut K v n9 t9 = aMk (kPassT K (a7 v)) (nI (kPassN (kPassB K (a7 v)) 8)) (kPassS (kPassB K (a7 v)) 8) K := by
  unfold aOut
  rw [if_neg (by omega), if_neg (by omega), if_neg (by omega), if_neg (by omega), if_neg (by omega), if_pos (by omega)]
theorem aOut_6 {K : kS} {v : Int32} {n9 t9 : Nat} (h : aKd v = 11 ∨ aKd v = 12 ∨ aKd v = 13) : aOut K v n9 t9 = aMk (kPayT K (aPer v) (a11 v)) (hLeft (kPayB K (aPer v).toNatClampNeg (a11 v)) (aPer v).toNatClampNeg) (kPayE K (aPer v).toNatClampNeg t9 (a11 v)) K := by
  unfold aOut
  rw [if_neg (by omega), if_neg (by omega), if_neg (by omega), if_neg (by omega), if_neg (by omega), if_neg (by omega), if_pos (by omega)]
theorem aOut_7 {K : kS} {v : Int32} {n9 t9 : Nat} (h : aKd v = 14 ∨ aKd v = 15) : aOut K v n9 t9 = aMk (kOffT K (aOwn K v) (aSea v) (a14 v)) (sCeil K (aSea v).toNatClampNeg) (kPut K (aSea v).toNatClampNeg (a14 v)) K := by
  unfold aOut
  rw [if_neg (by omega), if_neg (by omega), if_neg (by omega), if_neg (by omega), if_neg (by omega), if_neg (by omega), if_neg (by omega), if_pos (by omega)]
theorem aOut_8 {K : kS} {v : Int32} {n9 t9 : Nat} (h : aKd v = 16) : aOut K v n9 t9 = aMk (kRetT K (aSea v)) (K 20 (aSea v).toNatClampNeg) (kRetE K (aSea v).toNatClampNeg) K := by
  unfold aOut
  rw [if_neg (by omega), if_neg (by omega), if_neg (by omega), if_neg (by omega), if_neg (by omega), if_neg (by omega), if_neg (by omega), if_neg (by omega), if_pos h]
theorem aOut_9 {K : kS} {v : Int32} {n9 t9 : Nat} (h : 17 ≤ aKd v) : aOut K v n9 t9 = aMk (kHoldT K (aHol K v) (aRow v) (aPlc v) (a17 v) (a18 v)) (kHoldR K (mHF (aRow v) (aPlc v)) (a17 v).toNatClampNeg) (kHoldE K (aHol K v).toNatClampNeg (mHF (aRow v) (aPlc v)) (a17 v).toNatClampNeg (a18 v)) K := by
  unfold aOut
  rw [if_neg (by omega), if_neg (by omega), if_neg (by omega), if_neg (by omega), if_neg (by omega), if_neg (by omega), if_neg (by omega), if_neg (by omega), if_neg (by omega)]
