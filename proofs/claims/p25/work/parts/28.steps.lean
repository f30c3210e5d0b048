/-! each call: the same kind of throw, the same answer, and the states stay side by side -/
theorem zstep {a b c : Int32} {x y z : Bool} {K M E E' : kS} {T U R R' : Int32} {j : Nat} (h : zRel K M j) (hr : zRng x y z T) (ha : x = true → a ≠ nI 0) (hb : y = true → b ≠ nI 0) (hc : z = true → c ≠ nI 0) (hT : U = zPos a b c T) (h0 : T = nI 0 → E' 0 0 = nI 0 ∧ R = R' ∧ zRel E E' (j + 1)) :
    (mPost U M E') 0 0 = zPos a b c T ∧ (∀ f : Nat → Int64, zPos a b c T = nI 0 → zFK T R f 0 = Int32.toInt64 (mRes U R')) ∧ zRel (zEK T E K) (mPost U M E') (j + 1) := by
  by_cases g : T = nI 0
  · obtain ⟨h1, h2, h3⟩ := h0 g
    have e : U = nI 0 := by rw [hT, g, zPos_0]
    refine ⟨?_, fun f _ => ?_, ?_⟩
    · rw [e, mPost_0, h1, g, zPos_0]
    · rw [zFK_0 g, e, mRes_0, h2]; exact pk_uLs
    · rw [zEK_0 g, e, mPost_0]; exact h3
  · have hne : zPos a b c T ≠ nI 0 := by
      rcases hr with h1 | ⟨h1, h2⟩ | ⟨h1, h2⟩ | ⟨h1, h2⟩
      · exact absurd h1 g
      · rw [h2, zPos_1]; exact ha h1
      · rw [h2, zPos_2]; exact hb h1
      · rw [h2, zPos_3]; exact hc h1
    have e : mPost U M E' = mGoes M U := if_neg (by rw [hT]; exact hne)
    refine ⟨?_, fun f h1 => absurd h1 hne, ?_⟩
    · rw [e, ← hT]; rfl
    · rw [zEK_n g, e]; exact zRel_goes U (zRel_up h (Nat.le_succ j))
theorem zseq_if {P : Prop} [Decidable P] (U v : Int32) (hv : ¬ v = nI 0) : zseq (if P then nI 0 else v) U = if P then U else v := by
  by_cases h : P
  · rw [if_pos h, if_pos h, zseq_0 rfl]
  · rw [if_neg h, if_neg h, zseq_n hv]
theorem zseq_z (T : Int32) : zseq T (nI 0) = T := by
  by_cases h : T = nI 0
  · rw [h, zseq_0 rfl]
  · rw [zseq_n h]
theorem zn1 : ¬ (nI 1 : Int32) = nI 0 := by decide
theorem zn2 : ¬ (nI 2 : Int32) = nI 0 := by decide
theorem zn3 : ¬ (nI 3 : Int32) = nI 0 := by decide
theorem kLapT_m (x : Int32) : kLapT x = if mIsP x then nI 0 else nI 1 := by unfold kLapT; rw [zseq_z, kNeedP_m]
theorem kSeaT_m (x : Int32) : kSeaT x = if mIsS x then nI 0 else nI 1 := by unfold kSeaT; rw [zseq_z, kNeedS_m]
theorem zif_0 {P : Prop} [Decidable P] {U v : Int32} (hv : ¬ v = nI 0) (h : (if P then U else v) = nI 0) : P ∧ U = nI 0 := by
  by_cases q : P
  · rw [if_pos q] at h; exact ⟨q, h⟩
  · rw [if_neg q] at h; exact absurd h hv
-- setOpening
theorem zs_setOpening {K M : kS} {j : Nat} (h : zRel K M j) (x : Int32) : (mPost (mSetT x) M (mSetE M x)) 0 0 = zPos (nI 0) (nI 1) (nI 0) (kSetT x) ∧ (∀ f : Nat → Int64, zPos (nI 0) (nI 1) (nI 0) (kSetT x) = nI 0 → zFK (kSetT x) (K 0 1) f 0 = Int32.toInt64 (mRes (mSetT x) (M 0 2))) ∧ zRel (zEK (kSetT x) (kSetE K x) K) (mPost (mSetT x) M (mSetE M x)) (j + 1) := by
  refine zstep h kSetT_r (fun q => nomatch q) (fun _ => zn1) (fun q => nomatch q) ?_ (fun _ => ⟨rfl, h.1.2.1, ?_⟩)
  · unfold kSetT mSetT
    rw [show (0 : Int32) = nI 0 from rfl, zrange, zPos_ite, zPos_0, zPos_2]
  · obtain ⟨⟨h1, h2, h3, h4, h5⟩, h6⟩ := zRel_up h (Nat.le_succ j)
    exact ⟨⟨h1, rfl, h3, h4, h5⟩, h6⟩
-- readers
theorem zs_lapses {K M : kS} {j : Nat} (h : zRel K M j) (x : Int32) : (mPost (mLapT x) M (mGoes M (nI 0))) 0 0 = zPos (nI 1) (nI 0) (nI 0) (kLapT x) ∧ (∀ f : Nat → Int64, zPos (nI 1) (nI 0) (nI 0) (kLapT x) = nI 0 → zFK (kLapT x) (kLapR K x.toNatClampNeg) f 0 = Int32.toInt64 (mRes (mLapT x) (mLapR M x.toNatClampNeg))) ∧ zRel (zEK (kLapT x) K K) (mPost (mLapT x) M (mGoes M (nI 0))) (j + 1) := by
  refine zstep h kLapT_r (fun _ => zn1) (fun q => nomatch q) (fun q => nomatch q) ?_ (fun g => ⟨rfl, ?_, zRel_goes _ (zRel_up h (Nat.le_succ j))⟩)
  · rw [kLapT_m, zPos_ite, zPos_0, zPos_1]; rfl
  · rw [kLapT_m] at g
    obtain ⟨p, hp, -, hp7⟩ := mIsP_of (zif_0 zn1 g).1
    rw [hp7]
    unfold kLapR mLapR hThere
    rw [zR4_th h.2.2.2.1 hp]
    by_cases q : M 5 p = (-1)
    · rw [if_neg (by simp [q]), if_pos q]
    · rw [if_pos (by simp [q]), if_neg q]
      obtain ⟨f, m, -, -, -, -, -, -, -, -, h1, -⟩ := zR4_there2 h.2.2.2.1 hp q
      exact h1
theorem zs_spent {K M : kS} {j : Nat} (h : zRel K M j) (x : Int32) : (mPost (mLapT x) M (mGoes M (nI 0))) 0 0 = zPos (nI 1) (nI 0) (nI 0) (kLapT x) ∧ (∀ f : Nat → Int64, zPos (nI 1) (nI 0) (nI 0) (kLapT x) = nI 0 → zFK (kLapT x) (K 1 x.toNatClampNeg) f 0 = Int32.toInt64 (mRes (mLapT x) (M 12 x.toNatClampNeg))) ∧ zRel (zEK (kLapT x) K K) (mPost (mLapT x) M (mGoes M (nI 0))) (j + 1) := by
  refine zstep h kLapT_r (fun _ => zn1) (fun q => nomatch q) (fun q => nomatch q) ?_ (fun g => ⟨rfl, ?_, zRel_goes _ (zRel_up h (Nat.le_succ j))⟩)
  · rw [kLapT_m, zPos_ite, zPos_0, zPos_1]; rfl
  · rw [kLapT_m] at g
    obtain ⟨p, hp, -, hp7⟩ := mIsP_of (zif_0 zn1 g).1
    rw [hp7]
    exact h.1.2.2.2.2 p hp
-- what a seat shows
theorem zstate {K M : kS} {j s : Nat} (h : zRel K M j) (hs : s < 60) : sState K s = mState M s := by
  obtain ⟨h1, h2, h3, -⟩ := h.2.2.2.2.1 s hs
  unfold sState mState
  rw [h1, h2, h3, mHeld_g]
  cases gHeld (M 5) (M 6) s with
  | true => rfl
  | false =>
    by_cases q : M 13 s = (-1)
    · simp [zb, q, nI_0]
    · by_cases q2 : M 15 s = (-1)
      · simp [zb, q, q2, nI_0]
      · have e : ¬ (nI 1 : Int32) = 0 := by decide
        simp [zb, q, q2, nI_0, e]
theorem mOpen_st {M : kS} {s : Nat} : mOpen M s = (decide (mState M s = nI 0) || decide (mState M s = nI 3)) := by
  unfold mOpen mState
  cases mHeld M (nI s) with
  | true => rfl
  | false =>
    by_cases q : M 13 s = (-1)
    · simp [q]
    · by_cases q2 : M 15 s = (-1)
      · have e1 : ¬ (nI 2 : Int32) = nI 0 := by decide
        have e2 : ¬ (nI 2 : Int32) = nI 3 := by decide
        simp [q, q2, e1, e2]
      · simp [q, q2]
theorem zopen {K M : kS} {j r i : Nat} (h : zRel K M j) (hr : r < 6) (hi : i < 10) : sOpen K r (nI i) = mOpen M (10 * r + i) := by
  unfold sOpen
  rw [if_neg (nI_pos (by omega)), if_pos (nI_lt hi (by omega)), nI_clamp (by omega), zstate h (by omega), mOpen_st]
  rfl
theorem zs_state {K M : kS} {j : Nat} (h : zRel K M j) (x : Int32) : (mPost (mSeaT x) M (mGoes M (nI 0))) 0 0 = zPos (nI 1) (nI 0) (nI 0) (kSeaT x) ∧ (∀ f : Nat → Int64, zPos (nI 1) (nI 0) (nI 0) (kSeaT x) = nI 0 → zFK (kSeaT x) (sState K x.toNatClampNeg) f 0 = Int32.toInt64 (mRes (mSeaT x) (mState M x.toNatClampNeg))) ∧ zRel (zEK (kSeaT x) K K) (mPost (mSeaT x) M (mGoes M (nI 0))) (j + 1) := by
  refine zstep h kSeaT_r (fun _ => zn1) (fun q => nomatch q) (fun q => nomatch q) ?_ (fun g => ⟨rfl, ?_, zRel_goes _ (zRel_up h (Nat.le_succ j))⟩)
  · rw [kSeaT_m, zPos_ite, zPos_0, zPos_1]; rfl
  · rw [kSeaT_m] at g
    obtain ⟨p, hp, -, hp7⟩ := mIsS_of (zif_0 zn1 g).1
    rw [hp7]
    exact zstate h hp
theorem zs_owner {K M : kS} {j : Nat} (h : zRel K M j) (x : Int32) : (mPost (mSeaT x) M (mGoes M (nI 0))) 0 0 = zPos (nI 1) (nI 0) (nI 0) (kSeaT x) ∧ (∀ f : Nat → Int64, zPos (nI 1) (nI 0) (nI 0) (kSeaT x) = nI 0 → zFK (kSeaT x) (K 19 x.toNatClampNeg) f 0 = Int32.toInt64 (mRes (mSeaT x) (M 13 x.toNatClampNeg))) ∧ zRel (zEK (kSeaT x) K K) (mPost (mSeaT x) M (mGoes M (nI 0))) (j + 1) := by
  refine zstep h kSeaT_r (fun _ => zn1) (fun q => nomatch q) (fun q => nomatch q) ?_ (fun g => ⟨rfl, ?_, zRel_goes _ (zRel_up h (Nat.le_succ j))⟩)
  · rw [kSeaT_m, zPos_ite, zPos_0, zPos_1]; rfl
  · rw [kSeaT_m] at g
    obtain ⟨p, hp, -, hp7⟩ := mIsS_of (zif_0 zn1 g).1
    rw [hp7]
    exact (h.2.2.2.2.1 p hp).2.2.1
theorem zs_ownerBySales {K M : kS} {j t : Nat} (h : zRel K M j) (ht : 3 * t ≤ j) (hj : j < 512) (h22 : K 22 0 = nI t) (x : Int32) : (mPost (mSeaT x) M (mGoes M (nI 0))) 0 0 = zPos (nI 1) (nI 0) (nI 0) (kSeaT x) ∧ (∀ f : Nat → Int64, zPos (nI 1) (nI 0) (nI 0) (kSeaT x) = nI 0 → zFK (kSeaT x) (tLast K x t) f 0 = Int32.toInt64 (mRes (mSeaT x) (M 13 x.toNatClampNeg))) ∧ zRel (zEK (kSeaT x) K K) (mPost (mSeaT x) M (mGoes M (nI 0))) (j + 1) := by
  refine zstep h kSeaT_r (fun _ => zn1) (fun q => nomatch q) (fun q => nomatch q) ?_ (fun g => ⟨rfl, ?_, zRel_goes _ (zRel_up h (Nat.le_succ j))⟩)
  · rw [kSeaT_m, zPos_ite, zPos_0, zPos_1]; rfl
  · rw [kSeaT_m] at g
    obtain ⟨p, hp, hp8, hp7⟩ := mIsS_of (zif_0 zn1 g).1
    obtain ⟨t9, h1, h2, h3⟩ := h.2.2.2.2.2
    have e : t = t9 := nI_inj (by omega) (by omega) (h22.symm.trans h1)
    rw [hp7, hp8, tLast_g, e]
    exact h3 p hp
theorem zs_isSingle {K M : kS} {j : Nat} (h : zRel K M j) (x : Int32) : (mPost (mSeaT x) M (mGoes M (nI 0))) 0 0 = zPos (nI 1) (nI 0) (nI 0) (kSeaT x) ∧ (∀ f : Nat → Int64, zPos (nI 1) (nI 0) (nI 0) (kSeaT x) = nI 0 → zFK (kSeaT x) (zb (kSinR K x.toNatClampNeg)) f 0 = Int32.toInt64 (mRes (mSeaT x) (zb (mAlone M x.toNatClampNeg)))) ∧ zRel (zEK (kSeaT x) K K) (mPost (mSeaT x) M (mGoes M (nI 0))) (j + 1) := by
  refine zstep h kSeaT_r (fun _ => zn1) (fun q => nomatch q) (fun q => nomatch q) ?_ (fun g => ⟨rfl, ?_, zRel_goes _ (zRel_up h (Nat.le_succ j))⟩)
  · rw [kSeaT_m, zPos_ite, zPos_0, zPos_1]; rfl
  · rw [kSeaT_m] at g
    obtain ⟨p, hp, -, hp7⟩ := mIsS_of (zif_0 zn1 g).1
    rw [hp7]
    have hq : p % 10 < 10 := Nat.mod_lt _ (by decide)
    have hr : p / 10 < 6 := by omega
    have e0 : 10 * (p / 10) + p % 10 = p := Nat.div_add_mod p 10
    have e1 : sOpen K (p / 10) (nI (p % 10)) = mOpen M p := by rw [zopen h hr hq, e0]
    have e2 : sOpen K (p / 10) (nI (p % 10) - nI 1) = mLeft M p := by
      unfold mLeft
      by_cases q : p % 10 = 0
      · rw [q]
        have e : (nI 0 - nI 1 : Int32) < 0 := by decide
        unfold sOpen
        rw [if_pos e]
        rfl
      · obtain ⟨k, hk⟩ : ∃ k, p % 10 = k + 1 := ⟨p % 10 - 1, by omega⟩
        rw [hk, show nI (k + 1) - nI 1 = nI k from nI_pred k, zopen h hr (by omega)]
        have e5 : 10 * (p / 10) + k = p - 1 := by omega
        have e6 : ¬ k + 1 ≤ 0 := by omega
        rw [e5]
        simp
    have e3 : sOpen K (p / 10) (nI (p % 10 + 1)) = mRight M p := by
      unfold mRight
      by_cases q : 9 ≤ p % 10
      · have e : p % 10 = 9 := by omega
        rw [e]
        unfold sOpen
        rw [if_neg (by decide), if_neg (by decide)]
        rfl
      · rw [zopen h hr (by omega)]
        have e5 : 10 * (p / 10) + (p % 10 + 1) = p + 1 := by omega
        rw [e5]
        simp [q]
    unfold kSinR mAlone
    rw [e1, e2, e3]
