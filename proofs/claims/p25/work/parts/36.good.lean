/-! what holds of the class alone between two calls: minutes, money, holds -/
theorem rA (a b c : Int32) : a + b + c = a + c + b := by rw [Int32.add_assoc, Int32.add_comm b c, ← Int32.add_assoc]
theorem rB (a b c : Int32) : a + (b + c) = a + c + b := by rw [Int32.add_comm b c, ← Int32.add_assoc]
theorem rC {a b c : Int32} (h : a + b = c + b) : a = c := (Int32.add_sub_cancel a b).symm.trans ((congrArg (fun x => x - b) h).trans (Int32.add_sub_cancel c b))
theorem rD {a b : Int32} (h : a - b = 0) : a = b := by
  have e := Int32.sub_add_cancel a b
  rw [h, Int32.zero_add] at e
  exact e.symm
theorem rE (a b c : Int32) : a - b + c = a + c - b := rC (b := b) (by rw [rA, Int32.sub_add_cancel, Int32.sub_add_cancel])
theorem zsm_eq {g h : Nat → Int32} : ∀ n, (∀ i, i < n → g i = h i) → zsm g n = zsm h n
  | 0, _ => rfl
  | n + 1, e => by rw [zsm, zsm, zsm_eq n (fun i hi => e i (by omega)), e n (by omega)]
theorem zsm_upd {g : gF} {p : Nat} {v : Int32} : ∀ n, p < n → zsm (upd g p v) n + g p = zsm g n + v
  | 0, h => absurd h (Nat.not_lt_zero _)
  | n + 1, h => by
    rw [zsm, zsm]
    by_cases e : p = n
    · subst e
      rw [upd_eq9, zsm_eq (g := upd g p v) (h := g) p (fun i hi => upd_ne9 (by omega))]
      exact rA _ _ _
    · rw [upd_ne9 (fun z => e z.symm), rA, zsm_upd n (by omega), rA]
theorem zsm_sub {g : gF} {p : Nat} {c : Int32} {n : Nat} (h : p < n) : zsm (upd g p (g p - c)) n + c = zsm g n := by
  have e := zsm_upd (g := g) (v := g p - c) n h
  refine rC (b := g p) ?_
  rw [rA, e, Int32.add_assoc, Int32.sub_add_cancel]
theorem zsm_add {g : gF} {p : Nat} {c : Int32} {n : Nat} (h : p < n) : zsm (upd g p (g p + c)) n = zsm g n + c := by
  have e := zsm_upd (g := g) (v := g p + c) n h
  refine rC (b := g p) ?_
  rw [e, Int32.add_comm (g p) c, ← Int32.add_assoc]
theorem zsm_0 {g : gF} {p : Nat} {n : Nat} (h : p < n) : zsm (upd g p (nI 0)) n + g p = zsm g n := by
  rw [zsm_upd n h, nI_0, Int32.add_zero]
theorem zsm_nat {g : gF} {B : Nat} : ∀ n, (∀ i, i < n → ∃ c, c ≤ B ∧ g i = nI c) → ∃ C, C ≤ B * n ∧ zsm g n = nI C
  | 0, _ => ⟨0, Nat.zero_le _, rfl⟩
  | n + 1, h => by
    obtain ⟨C, h1, h2⟩ := zsm_nat n (fun i hi => h i (by omega))
    obtain ⟨c, h3, h4⟩ := h n (by omega)
    refine ⟨C + c, ?_, ?_⟩
    · rw [Nat.mul_succ]; omega
    · rw [zsm, h2, h4, nI_add]
theorem nI_big {c : Nat} (h : c < 2 ^ 31) : ¬ nI c = (-99999) := fun e => by
  have h1 := congrArg Int32.toInt e
  rw [nI_toInt h] at h1
  have h2 : (-99999 : Int32).toInt = -99999 := by decide
  omega
def wHd (k9 k10 k12 k13 k14 k15 k20 : gF) (c9 p s u : Nat) : Prop := ∃ f m a b c, k9 p = nI f ∧ k10 p = nI m ∧ (1 ≤ m ∧ m ≤ 4 ∧ f + m ≤ 60) ∧ k12 p = zsm (fun k => k20 (f + k)) m ∧ k15 p = nI a ∧ k14 p = nI b ∧ s < a ∧ a ≤ b ∧ b ≤ u + 30 ∧ k13 p = nI c ∧ c ≤ c9
def wPd (k10 k13 : gF) (p : Nat) : Int32 := if k10 p ≤ 0 then nI 0 else k13 p
def wMon (tk : Int32) (k1 k10 k13 : gF) : Prop := zsm k1 8 = tk + zsm (wPd k10 k13) 8
def wGen (now op tk : Int32) (k1 k9 k10 k12 k13 k14 k15 k20 : gF) (j : Nat) (s : Nat → Nat) (u t : Nat) : Prop := t ≤ 10000 ∧ u ≤ 10000 ∧ now = nI t ∧ (∃ a, a ≤ 10000 ∧ op = nI a) ∧ (∃ q, q ≤ 40000 * j ∧ tk = nI q) ∧ (∀ x, x < 60 → ∃ c, c ≤ 10000 ∧ k20 x = nI c) ∧ (∀ p, p < 8 → ¬ k10 p ≤ 0 → wHd k9 k10 k12 k13 k14 k15 k20 (1000 * j) p (s p) u) ∧ wMon tk k1 k10 k13
abbrev wAll (K : kS) (j : Nat) (s : Nat → Nat) (u t : Nat) : Prop := wGen (K 0 0) (K 0 1) (K 0 2) (K 1) (K 9) (K 10) (K 12) (K 13) (K 14) (K 15) (K 20) j s u t
def wGood (K : kS) (j : Nat) : Prop := ∃ t, wAll K j (fun _ => t) t t
theorem wHd_up {k9 k10 k12 k13 k14 k15 k20 : gF} {c9 d9 p s u v : Nat} (h : wHd k9 k10 k12 k13 k14 k15 k20 c9 p s u) (h1 : c9 ≤ d9) (h2 : u ≤ v) : wHd k9 k10 k12 k13 k14 k15 k20 d9 p s v := by
  obtain ⟨f, m, a, b, c, e1, e2, e3, e4, e5, e6, e7, e8, e9, e10, e11⟩ := h
  exact ⟨f, m, a, b, c, e1, e2, e3, e4, e5, e6, e7, e8, by omega, e10, by omega⟩
theorem wAll_up {K : kS} {i j u t : Nat} {s : Nat → Nat} (h : wAll K i s u t) (hij : i ≤ j) : wAll K j s u t := by
  obtain ⟨h1, h0, h2, h3, ⟨q, h4, h5⟩, h6, h7, h8⟩ := h
  exact ⟨h1, h0, h2, h3, ⟨q, by omega, h5⟩, h6, fun p hp g => wHd_up (h7 p hp g) (by omega) (Nat.le_refl _), h8⟩
theorem wGood_up {K : kS} {i j : Nat} (h : wGood K i) (hij : i ≤ j) : wGood K j := by
  obtain ⟨t, h⟩ := h
  exact ⟨t, wAll_up h hij⟩
theorem wPd_0 {k10 k13 : gF} {p : Nat} : wPd (upd k10 p (nI 0)) k13 = upd (wPd k10 k13) p (nI 0) := by
  funext q
  by_cases e : q = p
  · subst e
    rw [upd_eq9]
    unfold wPd
    rw [upd_eq9, if_pos (by decide)]
  · rw [upd_ne9 e]
    unfold wPd
    rw [upd_ne9 e]
/-- a hold is given back -/
theorem wDrop {S : kS} {j p f m u t : Nat} {s s' : Nat → Nat} (h : wAll S j s u t) (hp : p < 8) (ht : ¬ S 10 p ≤ 0) (hs : ∀ q, ¬ q = p → s' q = s q) : wAll (kBack S p f m) j s' u t := by
  obtain ⟨h1, h0, h2, h3, h4, h6, h7, h8⟩ := h
  refine ⟨h1, h0, h2, h3, h4, h6, fun q hq g => ?_, ?_⟩
  · have g : ¬ upd (S 10) p (nI 0) q ≤ 0 := g
    by_cases e : q = p
    · subst e; rw [upd_eq9] at g; exact absurd (by decide) g
    · rw [upd_ne9 e] at g
      obtain ⟨f, m, a, b, c, e1, e2, e3⟩ := h7 q hq g
      rw [hs q e]
      exact ⟨f, m, a, b, c, e1, (upd_ne9 e).trans e2, e3⟩
  · show zsm (upd (S 1) p (S 1 p - S 13 p)) 8 = S 0 2 + zsm (wPd (upd (S 10) p (nI 0)) (S 13)) 8
    rw [wPd_0]
    have e1 := zsm_sub (g := S 1) (c := S 13 p) hp
    have e2 := zsm_0 (g := wPd (S 10) (S 13)) hp
    have e3 : wPd (S 10) (S 13) p = S 13 p := if_neg ht
    rw [e3] at e2
    refine rC (b := S 13 p) ?_
    rw [e1, Int32.add_assoc, e2]
    exact h8
theorem wThere {K : kS} {p : Nat} : hThere K p = true ↔ ¬ K 10 p ≤ 0 := by
  unfold hThere
  exact decide_eq_true_iff
theorem wPassS {K : kS} {j u t : Nat} {s : Nat} (h : wAll K j (fun _ => s) u t) : ∀ i, i ≤ 8 → wAll (kPassS K i) j (fun q => if q < i then t else s) u t
  | 0, _ => by
    obtain ⟨h1, h0, h2, h3, h4, h6, h7, h8⟩ := h
    exact ⟨h1, h0, h2, h3, h4, h6, fun q hq g => by dsimp only; rw [if_neg (Nat.not_lt_zero q)]; exact h7 q hq g, h8⟩
  | i + 1, hi => by
    have ih := wPassS h i (by omega)
    rw [kPassS]
    have hs : ∀ q, ¬ q = i → (if q < i + 1 then t else s) = (if q < i then t else s) := fun q e => by
      by_cases g : q < i
      · rw [if_pos g, if_pos (by omega)]
      · rw [if_neg g, if_neg (by omega)]
    have keep : (¬ kPassS K i 10 i ≤ 0 → kPassS K i 0 0 < kPassS K i 15 i) → wAll (kPassS K i) j (fun q => if q < i + 1 then t else s) u t := fun hk => by
      obtain ⟨h1, h0, h2, h3, h4, h6, h7, h8⟩ := ih
      refine ⟨h1, h0, h2, h3, h4, h6, fun q hq g => ?_, h8⟩
      by_cases e : q = i
      · subst e
        obtain ⟨f, m, a, b, c, e1, e2, e3, e4, e5, e6, e7, e8, e9, e10⟩ := h7 q hq g
        have hk := hk g
        rw [h2, e5] at hk
        exact ⟨f, m, a, b, c, e1, e2, e3, e4, e5, e6, by dsimp only; rw [if_pos (by omega)]; exact (nI_ltI (by omega) (by omega)).mp hk, e8, e9, e10⟩
      · dsimp only; rw [hs q e]; exact h7 q hq g
    by_cases g : hThere (kPassS K i) i = true
    · rw [if_pos g]
      by_cases g2 : kPassS K i 0 0 < kPassS K i 15 i
      · rw [if_pos g2]; exact keep (fun _ => g2)
      · rw [if_neg g2]; exact wDrop ih (by omega) (wThere.mp g) hs
    · rw [if_neg g]; exact keep (fun z => absurd (wThere.mpr z) g)
theorem wPass_now {K : kS} : ∀ i, kPassS K i 0 = K 0
  | 0 => rfl
  | i + 1 => by
    rw [kPassS]
    split
    · split
      · exact wPass_now i
      · exact wPass_now i
    · exact wPass_now i
/-- where each hold's minutes are over, none is left -/
theorem wPass_all {K : kS} (h : ∀ p, p < 8 → ¬ K 10 p ≤ 0 → ¬ K 0 0 < K 15 p) : ∀ i, i ≤ 8 → (∀ q, q < i → kPassS K i 10 q ≤ 0) ∧ (∀ q, kPassS K i 15 q = K 15 q) ∧ ∀ q, i ≤ q → kPassS K i 10 q = K 10 q
  | 0, _ => ⟨fun q hq => absurd hq (Nat.not_lt_zero q), fun _ => rfl, fun _ _ => rfl⟩
  | i + 1, hi => by
    obtain ⟨h1, h2, h3⟩ := wPass_all h i (by omega)
    rw [kPassS]
    by_cases g : hThere (kPassS K i) i = true
    · have g1 : ¬ K 10 i ≤ 0 := by have z := wThere.mp g; rw [h3 i (Nat.le_refl i)] at z; exact z
      have g2 : ¬ kPassS K i 0 0 < kPassS K i 15 i := by rw [wPass_now, h2 i]; exact h i (by omega) g1
      rw [if_pos g, if_neg g2]
      refine ⟨fun q hq => ?_, h2, fun q hq => ?_⟩
      · show upd (kPassS K i 10) i (nI 0) q ≤ 0
        by_cases e : q = i
        · rw [e, upd_eq9]; decide
        · rw [upd_ne9 e]; exact h1 q (by omega)
      · show upd (kPassS K i 10) i (nI 0) q = K 10 q
        rw [upd_ne9 (by omega)]; exact h3 q (by omega)
    · rw [if_neg g]
      have g1 : kPassS K i 10 i ≤ 0 := by
        by_cases z : kPassS K i 10 i ≤ 0
        · exact z
        · exact absurd (wThere.mpr z) g
      refine ⟨fun q hq => ?_, h2, fun q hq => h3 q (by omega)⟩
      by_cases e : q = i
      · rw [e]; exact g1
      · exact h1 q (by omega)
theorem wPass_of {K : kS} {x : Int32} (g : kPassT K x = nI 0) : ∃ x9, 1 ≤ x9 ∧ x9 ≤ 500 ∧ x = nI x9 ∧ K 0 0 + x ≤ nI 10000 := by
  unfold kPassT at g
  rw [zrange] at g
  obtain ⟨g1, g⟩ := zif_0 zn2 g
  obtain ⟨g2, -⟩ := zif_0 zn3 g
  obtain ⟨x9, hx1, hx2, hx3, -⟩ := mIn_of1 (by decide) (by decide) g1
  exact ⟨x9, hx1, hx2, hx3, g2⟩
theorem wPassB {K : kS} {j t : Nat} {x : Int32} (h : wAll K j (fun _ => t) t t) (g : kPassT K x = nI 0) : ∃ x9, 1 ≤ x9 ∧ x = nI x9 ∧ t + x9 ≤ 10000 ∧ wAll (kPassB K x) j (fun _ => t) t (t + x9) := by
  obtain ⟨x9, hx1, hx2, hx3, g2⟩ := wPass_of g
  obtain ⟨h1, h0, h2, h3, h4, h6, h7, h8⟩ := h
  rw [h2, hx3, nI_add] at g2
  have g3 := (nI_leI (by omega) (by decide)).mp g2
  refine ⟨x9, hx1, hx3, g3, g3, h0, ?_, h3, h4, h6, h7, h8⟩
  show K 0 0 + x = nI (t + x9)
  rw [h2, hx3, nI_add]
theorem w_pass {K : kS} {j : Nat} {x : Int32} (h : wGood K j) (g : kPassT K x = nI 0) : wGood (kPassS (kPassB K x) 8) j := by
  obtain ⟨t, h⟩ := h
  obtain ⟨x9, hx1, hx3, g3, hB⟩ := wPassB h g
  obtain ⟨h1, h0, h2, h3, h4, h6, h7, h8⟩ := wPassS hB 8 (Nat.le_refl 8)
  refine ⟨t + x9, h1, h1, h2, h3, h4, h6, fun p hp z => ?_, h8⟩
  have e := h7 p hp z
  dsimp only at e
  rw [if_pos hp] at e
  exact wHd_up e (Nat.le_refl _) (by omega)
theorem kPassN_le {K : kS} : ∀ i, kPassN K i ≤ i
  | 0 => Nat.le_refl 0
  | i + 1 => by
    have h := kPassN_le (K := K) i
    rw [kPassN]
    split
    · split <;> omega
    · omega
