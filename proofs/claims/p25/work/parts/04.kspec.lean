/-! what the small classes do, in pure words: K holds all arrays of the class by their cells -/
def zsm (g : Nat → Int32) : Nat → Int32
  | 0 => nI 0
  | n + 1 => zsm g n + g n
def zfill (g : Nat → Int32) (f k : Nat) (v : Int32) : Nat → Int32 := fun j => if f ≤ j ∧ j < f + k then v else g j
theorem zfill_0 (g : Nat → Int32) (f : Nat) (v : Int32) : zfill g f 0 v = g := by
  funext j
  simp only [zfill]
  rw [if_neg (by omega)]
theorem zfill_s (g : Nat → Int32) (f k : Nat) (v : Int32) : upd (zfill g f k v) (f + k) v = zfill g f (k + 1) v := by
  funext j
  simp only [zfill, upd]
  by_cases h : j = f + k
  · rw [if_pos h, if_pos (by omega)]
  · rw [if_neg h]
    by_cases h2 : f ≤ j ∧ j < f + k
    · rw [if_pos h2, if_pos (by omega)]
    · rw [if_neg h2, if_neg (by omega)]
theorem zn_of {x : Int32} {n : Nat} (hn : n < 2 ^ 31) (h1 : ¬ x < 0) (h2 : x < nI n) : ∃ q, q < n ∧ x = nI q ∧ x.toNatClampNeg = q := by
  obtain ⟨j, hj, e⟩ := nI_of h1
  subst e
  exact ⟨j, (nI_ltI hj hn).mp h2, rfl, nI_clamp hj⟩
def zmate (p : Nat) : Nat := if p % 2 = 0 then p + 1 else p - 1
theorem zmate_x : ∀ p, p < 8 → nI p ^^^ nI 1 = nI (zmate p) := by decide +kernel
theorem zmate_lt : ∀ p, p < 8 → zmate p < 8 := by decide +kernel
-- the queue
def lIsIn (K : kS) (p : Nat) : Bool := decide (¬ K 7 p = (-1))
def zrem (x y : Int32) : Int32 := x - x / y * y
def lRank (K : kS) (p : Nat) : Int32 := nI 8 * K 7 p + ((nI (5 * p)) + (nI 3 * K 7 p) - ((nI (5 * p)) + (nI 3 * K 7 p)) / nI 8 * nI 8)
def lPlace (K : kS) (p : Nat) : Nat := zcnt (fun j => lIsIn K j && decide (¬ lRank K p ≤ lRank K j)) 8
def lLen (K : kS) : Nat := zcnt (fun j => lIsIn K j) 8
def lAt (K : kS) (x : Int32) : Int32 := zfind (fun j => lIsIn K j && decide (nI (lPlace K j) = x)) 8
def kEnter (K : kS) (p : Nat) (x : Int32) : kS := setA K 7 (upd (K 7) p x)
def kLeave (K : kS) (p : Nat) : kS := setA K 7 (upd (K 7) p (-1))
-- the holds
def hThere (K : kS) (p : Nat) : Bool := decide (¬ K 10 p ≤ 0)
def hLeft (K : kS) (p : Nat) : Int32 := K 12 p - K 13 p
def kMake (K : kS) (p f m : Nat) (c w n : Int32) : kS := setA (setA (setA (setA (setA (setA (setA K 9 (upd (K 9) p (nI f))) 10 (upd (K 10) p (nI m))) 11 (upd (K 11) p c)) 12 (upd (K 12) p w)) 13 (upd (K 13) p (nI 0))) 14 (upd (K 14) p (n + nI 30))) 15 (upd (K 15) p (n + nI 10))
def kProl (K : kS) (p : Nat) : kS := setA K 15 (upd (K 15) p (if K 14 p < K 15 p + nI 5 then K 14 p else K 15 p + nI 5))
def kEnd (K : kS) (p : Nat) : kS := setA K 10 (upd (K 10) p (nI 0))
-- the codes
def kCode (K : kS) (n : Nat) (a b : Int32) : kS := setA (setA (setA K 3 (upd (K 3) n a)) 4 (upd (K 4) n b)) 2 (upd (K 2) 0 (nI (n + 1)))
def cOf (K : kS) (c p : Nat) : Int32 := K 5 (8 * c + p)
def cRoom (K : kS) (c p : Nat) (m : Int32) : Bool := decide (¬ K 3 c < cOf K c p + m) && decide (¬ K 4 c < cOf K c p + m + cOf K c (zmate p))
def kTally (K : kS) (c : Int32) (p : Nat) (m : Int32) : kS := setA K 5 (if c = (-1) then K 5 else upd (K 5) (8 * c.toNatClampNeg + p) (K 5 (8 * c.toNatClampNeg + p) + m))
-- the sales
def kSale (K : kS) (n : Nat) (a b c : Int32) : kS := setA (setA (setA (setA K 23 (upd (K 23) n a)) 24 (upd (K 24) n b)) 25 (upd (K 25) n c)) 22 (upd (K 22) 0 (nI (n + 1)))
def tLast (K : kS) (x : Int32) : Nat → Int32
  | 0 => -1
  | i + 1 => if x < K 23 i then tLast K x i else if K 23 i + K 24 i ≤ x then tLast K x i else K 25 i
-- the seats
def sState (K : kS) (s : Nat) : Int32 := if K 17 s = 0 then (if K 19 s = (-1) then nI 0 else if K 18 s = 0 then nI 2 else nI 3) else nI 1
def sOpen (K : kS) (r : Nat) (x : Int32) : Bool := if x < 0 then false else if x < nI 10 then decide (sState K (10 * r + x.toNatClampNeg) = 0) || decide (sState K (10 * r + x.toNatClampNeg) = nI 3) else false
def sLeaves (K : kS) (r q m : Nat) : Bool := (sOpen K r (nI q - nI 1) && !sOpen K r (nI q - nI 2)) || (sOpen K r (nI (q + m)) && !sOpen K r (nI (q + m + 1)))
def kLock (K : kS) (f m : Nat) : kS := setA K 17 (zfill (K 17) f m (nI 1))
def kUnlock (K : kS) (f m : Nat) : kS := setA K 17 (zfill (K 17) f m (nI 0))
def kGive (K : kS) (s : Nat) (p : Int32) : kS := setA (setA (setA (setA K 17 (upd (K 17) s (nI 0))) 18 (upd (K 18) s (nI 0))) 19 (upd (K 19) s p)) 21 (upd (K 21) s (K 20 s))
def sCeil (K : kS) (s : Nat) : Int32 := K 21 s * nI 11 / nI 10
def kPut (K : kS) (s : Nat) (x : Int32) : kS := setA (setA K 18 (upd (K 18) s (nI 1))) 20 (upd (K 20) s x)
