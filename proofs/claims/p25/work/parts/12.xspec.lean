/-! the class's own methods in pure words -/
theorem zN_1 : zN (nI 1) = "java/lang/IndexOutOfBoundsException" := if_pos rfl
theorem zN_2 : zN (nI 2) = "java/lang/IllegalArgumentException" := (if_neg (by decide)).trans (if_pos rfl)
theorem zN_3 : zN (nI 3) = "java/lang/IllegalStateException" := (if_neg (by decide)).trans (if_neg (by decide))
def kNeedP (x : Int32) : Int32 := if x < 0 then nI 1 else if x < nI 8 then nI 0 else nI 1
def kNeedR (x : Int32) : Int32 := if x < 0 then nI 1 else if x < nI 6 then nI 0 else nI 1
def kNeedS (x : Int32) : Int32 := if x < 0 then nI 1 else if x < nI 60 then nI 0 else nI 1
def kNeedC (K : kS) (x : Int32) : Int32 := if x < 0 then nI 1 else if x < K 2 0 then nI 0 else nI 1
def kNeedH (K : kS) (p : Nat) : Int32 := if hThere K p then nI 0 else nI 3
theorem zneed {x : Int32} {n : Nat} (hn : n < 2 ^ 31) (h : (if x < 0 then nI 1 else if x < nI n then nI 0 else nI 1) = nI 0) : ∃ p, p < n ∧ x = nI p ∧ x.toNatClampNeg = p := by
  by_cases h1 : x < 0
  · rw [if_pos h1] at h; exact absurd h (by decide)
  · rw [if_neg h1] at h
    by_cases h2 : x < nI n
    · exact zn_of hn h1 h2
    · rw [if_neg h2] at h; exact absurd h (by decide)
theorem kNeedP_of {x : Int32} (h : kNeedP x = nI 0) : ∃ p, p < 8 ∧ x = nI p ∧ x.toNatClampNeg = p := zneed (by decide) h
theorem kNeedR_of {x : Int32} (h : kNeedR x = nI 0) : ∃ p, p < 6 ∧ x = nI p ∧ x.toNatClampNeg = p := zneed (by decide) h
theorem kNeedS_of {x : Int32} (h : kNeedS x = nI 0) : ∃ p, p < 60 ∧ x = nI p ∧ x.toNatClampNeg = p := zneed (by decide) h
theorem kNeedC_of {K : kS} {x : Int32} {n : Nat} (hc : K 2 0 = nI n) (hn : n ≤ 10) (h : kNeedC K x = nI 0) : ∃ p, p < n ∧ x = nI p ∧ x.toNatClampNeg = p := by
  unfold kNeedC at h
  rw [hc] at h
  exact zneed (by omega) h
theorem kNeedH_of {K : kS} {p : Nat} (h : kNeedH K p = nI 0) : hThere K p = true := by
  unfold kNeedH at h
  cases e : hThere K p with
  | true => rfl
  | false => rw [e] at h; exact absurd h (by decide)
def kAllUp (K : kS) (a : Int32) (r q : Nat) : Nat → Bool
  | 0 => true
  | k + 1 => kAllUp K a r q k && sOpen K r (nI (q + k)) && decide (¬ K 19 (10 * r + (q + k)) = a)
theorem kAll_f {K : kS} {a : Int32} {r q k : Nat} (h : kAllUp K a r q k = false) : ∀ m, k ≤ m → kAllUp K a r q m = false
  | 0, hm => by
    have e : k = 0 := by omega
    rw [← e]; exact h
  | m + 1, hm => by
    rcases Nat.lt_or_ge m k with g | g
    · have e : k = m + 1 := by omega
      rw [← e]; exact h
    · simp only [kAllUp, kAll_f h m g, Bool.false_and]
def kSeatsT (K : kS) (a : Int32) (r q m : Nat) : Int32 := if kAllUp K a r q m && !sLeaves K r q m then nI 0 else nI 3
def kRightT (K : kS) (p : Nat) (m c : Int32) : Int32 := if c = (-1) then (if K 0 1 ≤ K 0 0 then nI 0 else nI 3) else if cRoom K c.toNatClampNeg p m then nI 0 else nI 3
def kBack (K : kS) (p f m : Nat) : kS := kEnd (kUnlock (kTally (setA K 1 (upd (K 1) p (K 1 p - K 13 p))) (K 11 p) p (-(nI m))) f m) p
def kSell1 (S : kS) (p s : Nat) : kS := kGive (if S 19 s = (-1) then setA S 0 (upd (S 0) 2 (S 0 2 + S 20 s)) else setA S 1 (upd (S 1) (S 19 s).toNatClampNeg (S 1 (S 19 s).toNatClampNeg - S 20 s))) s (nI p)
def kSellS (S : kS) (p f : Nat) : Nat → kS
  | 0 => S
  | k + 1 => kSell1 (kSellS S p f k) p (f + k)
theorem kGive_fr (S : kS) (s i : Nat) (p : Int32) (h1 : i ≠ 17) (h2 : i ≠ 18) (h3 : i ≠ 19) (h4 : i ≠ 21) : kGive S s p i = S i := by
  unfold kGive
  rw [setA_ne _ _ h4, setA_ne _ _ h3, setA_ne _ _ h2, setA_ne _ _ h1]
theorem kSell1_fr (S : kS) (p s i : Nat) (h0 : i ≠ 0) (h5 : i ≠ 1) (h1 : i ≠ 17) (h2 : i ≠ 18) (h3 : i ≠ 19) (h4 : i ≠ 21) : kSell1 S p s i = S i := by
  unfold kSell1
  rw [kGive_fr _ _ _ _ h1 h2 h3 h4]
  split
  · rw [setA_ne _ _ h0]
  · rw [setA_ne _ _ h5]
theorem kSellS_fr (S : kS) (p f i : Nat) (h0 : i ≠ 0) (h5 : i ≠ 1) (h1 : i ≠ 17) (h2 : i ≠ 18) (h3 : i ≠ 19) (h4 : i ≠ 21) : ∀ k, kSellS S p f k i = S i
  | 0 => rfl
  | k + 1 => by rw [kSellS, kSell1_fr _ _ _ _ h0 h5 h1 h2 h3 h4, kSellS_fr S p f i h0 h5 h1 h2 h3 h4 k]
theorem kSellS_22 (S : kS) (p f k : Nat) : kSellS S p f k 22 = S 22 := kSellS_fr S p f 22 (by decide) (by decide) (by decide) (by decide) (by decide) (by decide) k
def kOwn (S : kS) : Prop := ∀ q, q < 60 → S 19 q = (-1) ∨ ∃ o, o < 8 ∧ S 19 q = nI o
theorem kSell1_19 (S : kS) (p s : Nat) : kSell1 S p s 19 = upd (S 19) s (nI p) := by
  unfold kSell1 kGive
  rw [setA_ne _ _ (by decide), setA_eq]
  split <;> rfl
theorem kOwn_1 {S : kS} {p s : Nat} (hp : p < 8) (h : kOwn S) : kOwn (kSell1 S p s) := by
  intro q hq
  rw [kSell1_19]
  unfold upd
  by_cases hs : q = s
  · rw [if_pos hs]; exact Or.inr ⟨p, hp, rfl⟩
  · rw [if_neg hs]; exact h q hq
def kSold (K : kS) (p f m t : Nat) : kS := kEnd (kSale (kSellS K p f m) t (nI f) (nI m) (nI p)) p
def kHok (K : kS) : Prop := ∀ p, p < 8 → hThere K p = true → ∃ f m, K 9 p = nI f ∧ K 10 p = nI m ∧ f + m ≤ 60 ∧ (K 11 p = (-1) ∨ ∃ c, c < 10 ∧ K 11 p = nI c)
def lServ (K : kS) : Int32 := if lAt K (nI 0) = (-1) then -1 else if K 7 (lAt K (nI 0)).toNatClampNeg < K 0 0 then lAt K (nI 0) else -1
def kPassT (K : kS) (x : Int32) : Int32 := if x < nI 1 then nI 2 else if x ≤ nI 500 then (if K 0 0 + x ≤ nI 10000 then nI 0 else nI 3) else nI 2
def kPassB (K : kS) (x : Int32) : kS := setA K 0 (upd (K 0) 0 (K 0 0 + x))
def kBackAt (S : kS) (i : Nat) : kS := kBack S i (S 9 i).toNatClampNeg (S 10 i).toNatClampNeg
def kPassS (K : kS) : Nat → kS
  | 0 => K
  | i + 1 => if hThere (kPassS K i) i then (if kPassS K i 0 0 < kPassS K i 15 i then kPassS K i else kBackAt (kPassS K i) i) else kPassS K i
def kPassN (K : kS) : Nat → Nat
  | 0 => 0
  | i + 1 => if hThere (kPassS K i) i then (if kPassS K i 0 0 < kPassS K i 15 i then kPassN K i else kPassN K i + 1) else kPassN K i
theorem kEnd_there (S : kS) (p q : Nat) : hThere (kEnd S p) q = (hThere S q && decide (¬ q = p)) := by
  unfold hThere kEnd
  rw [setA_eq]
  unfold upd
  by_cases h : q = p
  · rw [if_pos h]
    have e : (nI 0 : Int32) ≤ 0 := by decide
    simp [h, e]
  · rw [if_neg h]; simp [h]
theorem kHok_back {S : kS} {p f m : Nat} (h : kHok S) : kHok (kBack S p f m) := by
  intro q hq ht
  unfold kBack at ht
  rw [kEnd_there] at ht
  simp only [Bool.and_eq_true, decide_eq_true_eq] at ht
  obtain ⟨f', m', h1, h2, h3, h4⟩ := h q hq ht.1
  refine ⟨f', m', h1, ?_, h3, h4⟩
  show upd (S 10) p (nI 0) q = nI m'
  unfold upd
  rw [if_neg ht.2]; exact h2
def kSetT (x : Int32) : Int32 := if x < 0 then nI 2 else if x ≤ nI 10000 then nI 0 else nI 2
def kSetE (K : kS) (x : Int32) : kS := setA K 0 (upd (K 0) 1 x)
def kCodeT (K : kS) (a b : Int32) : Int32 := if a < nI 1 then nI 2 else if a ≤ nI 10 then (if b < nI 1 then nI 2 else if b ≤ nI 20 then (if K 2 0 < nI 10 then nI 0 else nI 3) else nI 2) else nI 2
def kUsedT (K : kS) (c x : Int32) : Int32 := zseq (kNeedC K c) (zseq (kNeedP x) (nI 0))
def kJoinT (K : kS) (x : Int32) : Int32 := zseq (kNeedP x) (if lIsIn K x.toNatClampNeg then nI 3 else if hThere K x.toNatClampNeg then nI 3 else nI 0)
def kQuitT (K : kS) (x : Int32) : Int32 := zseq (kNeedP x) (if lIsIn K x.toNatClampNeg then nI 0 else nI 3)
def kQueT (K : kS) (x : Int32) : Int32 := if lAt K x = (-1) then nI 1 else nI 0
def kHoldT (K : kS) (a r q m c : Int32) : Int32 := zseq (kNeedP a) (zseq (kNeedR r) (if q < 0 then nI 1 else if q < nI 10 then zseq (if c = (-1) then nI 0 else kNeedC K c) (if m < nI 1 then nI 2 else if nI 4 < m then nI 2 else if q + m ≤ nI 10 then (if lServ K = a then zseq (kSeatsT K a r.toNatClampNeg q.toNatClampNeg m.toNatClampNeg) (zseq (kRightT K a.toNatClampNeg m c) (nI 0)) else nI 3) else nI 2) else nI 1))
def kHoldB (K : kS) (p f m : Nat) (c : Int32) : kS := kLock (kTally (kLeave K p) c p (nI m)) f m
def kHoldR (K : kS) (f m : Nat) : Int32 := zsm (fun j => K 20 (f + j)) m
def kHoldE (K : kS) (p f m : Nat) (c : Int32) : kS := kMake (kHoldB K p f m c) p f m c (kHoldR K f m) (K 0 0)
def kPayT (K : kS) (a x : Int32) : Int32 := zseq (kNeedP a) (if x < nI 1 then nI 2 else if x ≤ nI 1000 then zseq (kNeedH K a.toNatClampNeg) (if x ≤ hLeft K a.toNatClampNeg then nI 0 else nI 3) else nI 2)
def kPayB (K : kS) (p : Nat) (x : Int32) : kS := setA (setA K 1 (upd (K 1) p (K 1 p + x))) 13 (upd (K 13) p (K 13 p + x))
def kPayE (K : kS) (p t : Nat) (x : Int32) : kS := if hLeft (kPayB K p x) p = 0 then kSold (kPayB K p x) p (K 9 p).toNatClampNeg (K 10 p).toNatClampNeg t else kProl (kPayB K p x) p
def kGoT (K : kS) (a : Int32) : Int32 := zseq (kNeedP a) (zseq (kNeedH K a.toNatClampNeg) (nI 0))
def kLapT (a : Int32) : Int32 := zseq (kNeedP a) (nI 0)
def kLapR (K : kS) (p : Nat) : Int32 := if hThere K p then K 15 p else -1
def kSeaT (a : Int32) : Int32 := zseq (kNeedS a) (nI 0)
def kSinR (K : kS) (s : Nat) : Bool := sOpen K (s / 10) (nI (s % 10)) && !sOpen K (s / 10) (nI (s % 10) - nI 1) && !sOpen K (s / 10) (nI (s % 10 + 1))
def kFirT (r m : Int32) : Int32 := zseq (kNeedR r) (if m < nI 1 then nI 2 else if m ≤ nI 10 then nI 0 else nI 2)
def kFirL (K : kS) (r : Nat) : Nat → Int32
  | 0 => nI 0
  | i + 1 => if sOpen K r (nI i) then kFirL K r i + nI 1 else nI 0
def kFirI (K : kS) (r : Nat) (m : Int32) : Int32 := zfind (fun i => decide (kFirL K r (i + 1) = m)) 10
def kFirR (K : kS) (r : Nat) (m : Int32) : Int32 := if kFirI K r m = (-1) then -1 else kFirI K r m - m + nI 1
def kOffT (K : kS) (a s x : Int32) : Int32 := zseq (kNeedP a) (zseq (kNeedS s) (if x < nI 1 then nI 2 else if x ≤ nI 10000 then (if sState K s.toNatClampNeg = nI 2 then (if K 19 s.toNatClampNeg = a then (if x ≤ sCeil K s.toNatClampNeg then nI 0 else nI 3) else nI 3) else nI 3) else nI 2))
def kRetT (K : kS) (s : Int32) : Int32 := zseq (kNeedS s) (if sState K s.toNatClampNeg = nI 3 then nI 0 else nI 3)
def kRetE (K : kS) (s : Nat) : kS := setA K 18 (upd (K 18) s (nI 0))
theorem zseq_0 {a b : Int32} (h : a = nI 0) : zseq a b = b := if_pos h
theorem zseq_n {a b : Int32} (h : ¬ a = nI 0) : zseq a b = a := if_neg h
