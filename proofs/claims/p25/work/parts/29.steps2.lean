/-! more calls: codes, queue, offers, free seats -/
theorem zcnt_cong {b d : Nat → Bool} : ∀ {n : Nat}, (∀ q, q < n → b q = d q) → zcnt b n = zcnt d n
  | 0, _ => rfl
  | n + 1, h => by rw [zcnt, zcnt, zcnt_cong (n := n) (fun q hq => h q (by omega)), h n (by omega)]
theorem zcnt_upd {b d : Nat → Bool} {p : Nat} (h : ∀ q, ¬ q = p → b q = d q) : ∀ {n : Nat}, p < n → zcnt b n + (if d p then 1 else 0) = zcnt d n + (if b p then 1 else 0)
  | 0, hp => absurd hp (Nat.not_lt_zero p)
  | n + 1, hp => by
    rw [zcnt, zcnt]
    by_cases e : n = p
    · subst e
      rw [zcnt_cong (n := n) (fun q hq => h q (by omega))]
      split <;> split <;> omega
    · have ih := zcnt_upd h (n := n) (by omega)
      rw [h n e]
      split <;> split <;> split <;> simp_all <;> omega
theorem upd_eq9 {f : gF} {k : Nat} {x : Int32} : upd f k x k = x := by unfold upd; rw [if_pos rfl]
theorem upd_ne9 {f : gF} {k q : Nat} {x : Int32} (h : ¬ q = k) : upd f k x q = f q := by unfold upd; rw [if_neg h]
theorem gQ_upd {g : gF} {p : Nat} {v : Int32} (hp : p < 8) : gQ (upd g p v) + (if decide (¬ g p = (-1)) then 1 else 0) = gQ g + (if decide (¬ v = (-1)) then 1 else 0) := by
  have h := zcnt_upd (b := fun q => decide (¬ upd g p v q = (-1))) (d := fun q => decide (¬ g q = (-1))) (p := p) (fun q hq => by simp only [upd_ne9 hq]) (n := 8) hp
  simp only [upd_eq9] at h
  exact h
theorem gQ_in {g : gF} {p : Nat} {v : Int32} (hp : p < 8) : gQ (upd g p v) ≤ gQ g + 1 := by
  have h := gQ_upd (g := g) (v := v) hp
  split at h <;> split at h <;> omega
theorem gQ_out {g : gF} {p : Nat} (hp : p < 8) : gQ (upd g p (-1)) ≤ gQ g := by
  have h := gQ_upd (g := g) (v := -1) hp
  rw [show (decide (¬ (-1 : Int32) = (-1))) = false from by decide] at h
  split at h <;> simp at h <;> omega
theorem gQ_out1 {g : gF} {p : Nat} (hp : p < 8) (h1 : ¬ g p = (-1)) : gQ (upd g p (-1)) + 1 = gQ g := by
  have h := gQ_upd (g := g) (v := -1) hp
  rw [show (decide (¬ (-1 : Int32) = (-1))) = false from by decide, show decide (¬ g p = (-1)) = true from decide_eq_true h1] at h
  simpa using h
-- used
theorem zs_used {K M : kS} {j n : Nat} (h : zRel K M j) (hn : n ≤ 10) (h1 : K 2 0 = nI n) (h2 : M 0 3 = nI n) (c x : Int32) : (mPost (mUsedT M c x) M (mGoes M (nI 0))) 0 0 = zPos (nI 1) (nI 0) (nI 0) (kUsedT K c x) ∧ (∀ f : Nat → Int64, zPos (nI 1) (nI 0) (nI 0) (kUsedT K c x) = nI 0 → zFK (kUsedT K c x) (cOf K c.toNatClampNeg x.toNatClampNeg) f 0 = Int32.toInt64 (mRes (mUsedT M c x) (mUsed M c.toNatClampNeg x.toNatClampNeg))) ∧ zRel (zEK (kUsedT K c x) K K) (mPost (mUsedT M c x) M (mGoes M (nI 0))) (j + 1) := by
  have e : kUsedT K c x = if mIsC M c then (if mIsP x then nI 0 else nI 1) else nI 1 := by
    unfold kUsedT
    rw [zseq_z, kNeedC_m hn h1 h2, kNeedP_m, zseq_if _ _ zn1]
  refine zstep h kUsedT_r (fun _ => zn1) (fun q => nomatch q) (fun q => nomatch q) ?_ (fun g => ⟨rfl, ?_, zRel_goes _ (zRel_up h (Nat.le_succ j))⟩)
  · rw [e]
    unfold mUsedT
    cases mIsC M c <;> cases mIsP x <;> rfl
  · rw [e] at g
    obtain ⟨g1, g2⟩ := zif_0 zn1 g
    obtain ⟨c9, hc, -, hc7⟩ := mIsC_of h2 hn g1
    obtain ⟨p, hp, -, hp7⟩ := mIsP_of (zif_0 zn1 g2).1
    rw [hc7, hp7]
    exact h.2.1.2.2.2 c9 (by omega) p hp
theorem zs_code {K M : kS} {j n : Nat} (h : zRel K M j) (hn : n ≤ 10) (h1 : K 2 0 = nI n) (h2 : M 0 3 = nI n) (a b : Int32) : (mPost (mCodeT M a b) M (mCodeE M n a b)) 0 0 = zPos (nI 0) (nI 1) (nI 2) (kCodeT K a b) ∧ (∀ f : Nat → Int64, zPos (nI 0) (nI 1) (nI 2) (kCodeT K a b) = nI 0 → zFK (kCodeT K a b) (nI n) f 0 = Int32.toInt64 (mRes (mCodeT M a b) (nI n))) ∧ zRel (zEK (kCodeT K a b) (kCode K n a b) K) (mPost (mCodeT M a b) M (mCodeE M n a b)) (j + 1) := by
  have e : kCodeT K a b = if mIn a (nI 1) (nI 10) then (if mIn b (nI 1) (nI 20) then (if nI n < nI 10 then nI 0 else nI 3) else nI 2) else nI 2 := by
    unfold kCodeT
    rw [zrange, zrange, h1]
  refine zstep h kCodeT_r (fun q => nomatch q) (fun _ => zn1) (fun _ => zn2) ?_ (fun g => ⟨rfl, rfl, ?_⟩)
  · rw [e]
    unfold mCodeT
    rw [h2]
    cases mIn a (nI 1) (nI 10) <;> cases mIn b (nI 1) (nI 20)
    · rfl
    · rfl
    · rfl
    · by_cases q : n < 10
      · have e1 : nI n < nI 10 := nI_lt q (by decide)
        have e2 : ¬ nI n = nI 10 := fun g => by have := nI_inj (by omega) (by decide) g; omega
        simp only [if_pos e1, if_neg e2]
        rfl
      · have e3 : n = 10 := by omega
        subst e3
        rfl
  · rw [e] at g
    obtain ⟨-, g⟩ := zif_0 zn2 g
    obtain ⟨-, g⟩ := zif_0 zn2 g
    have hn10 : n < 10 := (nI_ltI (by omega) (by decide)).mp (zif_0 zn3 g).1
    obtain ⟨hA, ⟨-, hc, hd, he⟩, hB⟩ := zRel_up h (Nat.le_succ j)
    refine ⟨hA, ⟨⟨n + 1, by omega, rfl, rfl⟩, fun c hc9 => ?_, fun c hc9 => ?_, he⟩, hB⟩
    · show upd (K 3) n a c = upd (M 1) n a c
      unfold upd
      split
      · rfl
      · exact hc c hc9
    · show upd (K 4) n b c = upd (M 2) n b c
      unfold upd
      split
      · rfl
      · exact hd c hc9
-- the queue
theorem zlen {K M : kS} (h : ∀ p, p < 8 → K 7 p = M 4 p) : lLen K = mCount M := zcnt_cong (fun q hq => by unfold lIsIn; rw [h q hq])
theorem zs_join {K M : kS} {j : Nat} (h : zRel K M j) (x : Int32) : (mPost (mJoinT M x) M (mJoinE M x.toNatClampNeg)) 0 0 = zPos (nI 1) (nI 0) (nI 2) (kJoinT K x) ∧ (∀ f : Nat → Int64, zPos (nI 1) (nI 0) (nI 2) (kJoinT K x) = nI 0 → zFK (kJoinT K x) (nI (lLen (kEnter K x.toNatClampNeg (K 0 0)))) f 0 = Int32.toInt64 (mRes (mJoinT M x) (nI (mCount (mJoinE M x.toNatClampNeg))))) ∧ zRel (zEK (kJoinT K x) (kEnter K x.toNatClampNeg (K 0 0)) K) (mPost (mJoinT M x) M (mJoinE M x.toNatClampNeg)) (j + 1) := by
  have e : kJoinT K x = if mIsP x then (if M 4 x.toNatClampNeg = (-1) then (if M 5 x.toNatClampNeg = (-1) then nI 0 else nI 3) else nI 3) else nI 1 := by
    unfold kJoinT
    rw [kNeedP_m, zseq_if _ _ zn1]
    by_cases q : mIsP x = true
    · obtain ⟨p, hp, -, hp7⟩ := mIsP_of q
      rw [if_pos q, if_pos q, hp7]
      unfold lIsIn hThere
      rw [h.2.2.1.1 p hp, zR4_th h.2.2.2.1 hp]
      by_cases q1 : M 4 p = (-1)
      · by_cases q2 : M 5 p = (-1)
        · simp [q1, q2]
        · simp [q1, q2]
      · simp [q1]
    · rw [if_neg q, if_neg q]
  refine zstep h kJoinT_r (fun _ => zn1) (fun q => nomatch q) (fun _ => zn2) ?_ (fun g => ?_)
  · rw [e, zPos_ite, zPos_ite, zPos_ite, zPos_0, zPos_1, zPos_3]; rfl
  · rw [e] at g
    obtain ⟨g1, g⟩ := zif_0 zn1 g
    obtain ⟨g2, g⟩ := zif_0 zn3 g
    obtain ⟨g3, -⟩ := zif_0 zn3 g
    obtain ⟨p, hp, -, hp7⟩ := mIsP_of g1
    rw [hp7] at g2 g3 ⊢
    obtain ⟨h1, h2, ⟨h3a, h3b, h3c⟩, h4, h5, ⟨t, h6a, h6b, h6c⟩⟩ := h
    have hq : ∀ q, q < 8 → upd (K 7) p (K 0 0) q = upd (M 4) p (M 0 1) q := fun q hq => by
      unfold upd
      split
      · exact h1.1
      · exact h3a q hq
    refine ⟨rfl, congrArg nI (zlen hq), h1, h2, ⟨hq, fun q hq9 => ?_, fun q hq9 hne => ?_⟩, h4, h5, ⟨t, h6a, ?_, h6c⟩⟩
    · show upd (M 4) p (M 0 1) q = (-1) ∨ ∃ t, t ≤ 10000 ∧ upd (M 4) p (M 0 1) q = nI t
      unfold upd
      split
      · exact Or.inr h1.2.2.2.1
      · exact h3b q hq9
    · by_cases e9 : q = p
      · rw [e9]; exact g3
      · exact h3c q hq9 (fun z => hne (by show upd (M 4) p (M 0 1) q = (-1); rw [upd_ne9 e9]; exact z))
    · have := gQ_in (g := M 4) (v := M 0 1) hp
      show 3 * t + 2 * gQ (M 5) + gQ (upd (M 4) p (M 0 1)) ≤ j + 1
      omega
theorem zs_quit {K M : kS} {j : Nat} (h : zRel K M j) (x : Int32) : (mPost (mQuitT M x) M (mQuitE M x.toNatClampNeg)) 0 0 = zPos (nI 1) (nI 0) (nI 2) (kQuitT K x) ∧ (∀ f : Nat → Int64, zPos (nI 1) (nI 0) (nI 2) (kQuitT K x) = nI 0 → zFK (kQuitT K x) (nI (lLen (kLeave K x.toNatClampNeg))) f 0 = Int32.toInt64 (mRes (mQuitT M x) (nI (mCount (mQuitE M x.toNatClampNeg))))) ∧ zRel (zEK (kQuitT K x) (kLeave K x.toNatClampNeg) K) (mPost (mQuitT M x) M (mQuitE M x.toNatClampNeg)) (j + 1) := by
  have e : kQuitT K x = if mIsP x then (if M 4 x.toNatClampNeg = (-1) then nI 3 else nI 0) else nI 1 := by
    unfold kQuitT
    rw [kNeedP_m, zseq_if _ _ zn1]
    by_cases q : mIsP x = true
    · obtain ⟨p, hp, -, hp7⟩ := mIsP_of q
      rw [if_pos q, if_pos q, hp7]
      unfold lIsIn
      rw [h.2.2.1.1 p hp]
      by_cases q1 : M 4 p = (-1)
      · simp [q1]
      · simp [q1]
    · rw [if_neg q, if_neg q]
  refine zstep h kQuitT_r (fun _ => zn1) (fun q => nomatch q) (fun _ => zn2) ?_ (fun g => ?_)
  · rw [e, zPos_ite, zPos_ite, zPos_0, zPos_1, zPos_3]; rfl
  · rw [e] at g
    obtain ⟨g1, g⟩ := zif_0 zn1 g
    obtain ⟨p, hp, -, hp7⟩ := mIsP_of g1
    rw [hp7]
    obtain ⟨h1, h2, ⟨h3a, h3b, h3c⟩, h4, h5, ⟨t, h6a, h6b, h6c⟩⟩ := h
    have hq : ∀ q, q < 8 → upd (K 7) p (-1) q = upd (M 4) p (-1) q := fun q hq => by
      unfold upd
      split
      · rfl
      · exact h3a q hq
    refine ⟨rfl, congrArg nI (zlen hq), h1, h2, ⟨hq, fun q hq9 => ?_, fun q hq9 hne => ?_⟩, h4, h5, ⟨t, h6a, ?_, h6c⟩⟩
    · show upd (M 4) p (-1) q = (-1) ∨ ∃ t, t ≤ 10000 ∧ upd (M 4) p (-1) q = nI t
      unfold upd
      split
      · exact Or.inl rfl
      · exact h3b q hq9
    · have hne : ¬ upd (M 4) p (-1) q = (-1) := hne
      by_cases e9 : q = p
      · rw [e9, upd_eq9] at hne; exact absurd rfl hne
      · rw [upd_ne9 e9] at hne; exact h3c q hq9 hne
    · have := gQ_out (g := M 4) hp
      show 3 * t + 2 * gQ (M 5) + gQ (upd (M 4) p (-1)) ≤ j + 1
      omega
-- free seats
theorem zFirL {K M : kS} {j r : Nat} (h : zRel K M j) (hr : r < 6) : ∀ i, i ≤ 10 → kFirL K r i = mFirL M r i
  | 0, _ => rfl
  | i + 1, hi => by rw [kFirL, mFirL, zopen h hr (by omega), zFirL h hr i (by omega)]
theorem zs_firstOpen {K M : kS} {j : Nat} (h : zRel K M j) (r m : Int32) : (mPost (mFirT r m) M (mGoes M (nI 0))) 0 0 = zPos (nI 1) (nI 2) (nI 0) (kFirT r m) ∧ (∀ f : Nat → Int64, zPos (nI 1) (nI 2) (nI 0) (kFirT r m) = nI 0 → zFK (kFirT r m) (kFirR K r.toNatClampNeg m) f 0 = Int32.toInt64 (mRes (mFirT r m) (mFirR M r.toNatClampNeg m))) ∧ zRel (zEK (kFirT r m) K K) (mPost (mFirT r m) M (mGoes M (nI 0))) (j + 1) := by
  have e : kFirT r m = if mIsR r then (if mIn m (nI 1) (nI 10) then nI 0 else nI 2) else nI 1 := by
    unfold kFirT
    rw [kNeedR_m, zseq_if _ _ zn1, zrange]
  refine zstep h kFirT_r (fun _ => zn1) (fun _ => zn2) (fun q => nomatch q) ?_ (fun g => ⟨rfl, ?_, zRel_goes _ (zRel_up h (Nat.le_succ j))⟩)
  · rw [e, zPos_ite, zPos_ite, zPos_0, zPos_1, zPos_2]; rfl
  · rw [e] at g
    obtain ⟨p, hp, -, hp7⟩ := mIsR_of (zif_0 zn1 g).1
    rw [hp7]
    have e9 : kFirI K p m = mFirI M p m := zfind_cong (fun i hi => by rw [zFirL h hp (i + 1) (by omega)])
    unfold kFirR mFirR
    rw [e9]
-- offers
theorem zs_offer {K M : kS} {j : Nat} (h : zRel K M j) (a s x : Int32) : (mPost (mOffT M a s x) M (mOffE M s.toNatClampNeg x)) 0 0 = zPos (nI 1) (nI 2) (nI 3) (kOffT K a s x) ∧ (∀ f : Nat → Int64, zPos (nI 1) (nI 2) (nI 3) (kOffT K a s x) = nI 0 → zFK (kOffT K a s x) (sCeil K s.toNatClampNeg) f 0 = Int32.toInt64 (mRes (mOffT M a s x) (mOffC M a s))) ∧ zRel (zEK (kOffT K a s x) (kPut K s.toNatClampNeg x) K) (mPost (mOffT M a s x) M (mOffE M s.toNatClampNeg x)) (j + 1) := by
  have e : kOffT K a s x = if mIsP a then (if mIsS s then (if mIn x (nI 1) (nI 10000) then (if mState M s.toNatClampNeg = nI 2 then (if M 13 s.toNatClampNeg = a then (if ¬ M 14 s.toNatClampNeg * nI 11 / nI 10 < x then nI 0 else nI 3) else nI 3) else nI 3) else nI 2) else nI 1) else nI 1 := by
    unfold kOffT
    rw [kNeedP_m, zseq_if _ _ zn1, kNeedS_m, zseq_if _ _ zn1, zrange]
    by_cases q : mIsS s = true
    · obtain ⟨p, hp, -, hp7⟩ := mIsS_of q
      rw [hp7, zstate h hp]
      obtain ⟨-, -, h3, -, -, h6, -⟩ := h.2.2.2.2.1 p hp
      unfold sCeil
      rw [h3, h6]
      simp only [Int32.not_lt]
    · simp only [if_neg q]
  refine zstep h kOffT_r (fun _ => zn1) (fun _ => zn2) (fun _ => zn3) ?_ (fun g => ?_)
  · rw [e]
    unfold mOffT mOffOk mOffC mOffA
    cases mIsP a
    · rfl
    · cases mIsS s
      · rfl
      · cases mIn x (nI 1) (nI 10000)
        · rfl
        · by_cases q1 : mState M s.toNatClampNeg = nI 2
          · by_cases q2 : M 13 s.toNatClampNeg = a
            · by_cases q3 : M 14 s.toNatClampNeg * nI 11 / nI 10 < x
              · simp [q1, q2, q3, zPos_3]
              · simp [q1, q2, q3, zPos_0]
            · simp [q1, q2, zPos_3]
          · simp [q1, zPos_3]
  · rw [e] at g
    obtain ⟨g1, g⟩ := zif_0 zn1 g
    obtain ⟨g2, g⟩ := zif_0 zn1 g
    obtain ⟨g3, g⟩ := zif_0 zn2 g
    obtain ⟨g4, g⟩ := zif_0 zn3 g
    obtain ⟨g5, -⟩ := zif_0 zn3 g
    obtain ⟨p, hp, hp8, -⟩ := mIsP_of g1
    obtain ⟨s9, hs, -, hs7⟩ := mIsS_of g2
    obtain ⟨x9, hx1, hx2, hx3, -⟩ := mIn_of1 (by decide) (by decide) g3
    have hx0 : ¬ x = (-1) := by rw [hx3]; exact nI_nm1 (by omega)
    rw [hs7] at g4 g5 ⊢
    obtain ⟨h1, h2, h3, h4, h5, h6⟩ := zRel_up h (Nat.le_succ j)
    refine ⟨rfl, ?_, h1, h2, h3, h4, fun q hq => ?_, h6⟩
    · unfold mOffC mOffA sCeil
      rw [g1, g2, hs7, (h5 s9 hs).2.2.2.2.2.1]
      rfl
    · obtain ⟨a1, a2, a3, a4, a5, a6, a7⟩ := h5 q hq
      by_cases e9 : q = s9
      · subst e9
        have hne : ¬ M 13 q = (-1) := by rw [g5, hp8]; exact nI_nm1 (by omega)
        refine ⟨a1, ?_, a3, a4, fun _ => ?_, a6, fun _ => Or.inr ?_⟩
        · show upd (K 18) q (nI 1) q = zb (decide (¬ upd (M 15) q x q = (-1)))
          rw [upd_eq9, upd_eq9, decide_eq_true hx0]; rfl
        · show upd (K 20) q x q = gPrice (M 13) (upd (M 15) q x) q
          unfold gPrice
          rw [upd_eq9, upd_eq9, if_neg hne]
        · show ¬ upd (M 15) q x q = (-1)
          rw [upd_eq9]; exact hx0
      · refine ⟨a1, ?_, a3, a4, fun z => ?_, a6, fun z => ?_⟩
        · show upd (K 18) s9 (nI 1) q = zb (decide (¬ upd (M 15) s9 x q = (-1)))
          rw [upd_ne9 e9, upd_ne9 e9]; exact a2
        · have z : M 13 q = (-1) ∨ ¬ upd (M 15) s9 x q = (-1) := z
          rw [upd_ne9 e9] at z
          show upd (K 20) s9 x q = gPrice (M 13) (upd (M 15) s9 x) q
          unfold gPrice
          rw [upd_ne9 e9, upd_ne9 e9]
          exact a5 z
        · show M 13 q = (-1) ∨ ¬ upd (M 15) s9 x q = (-1)
          rw [upd_ne9 e9]; exact a7 z
theorem zs_retract {K M : kS} {j : Nat} (h : zRel K M j) (s : Int32) : (mPost (mRetT M s) M (mOffE M s.toNatClampNeg (-1))) 0 0 = zPos (nI 1) (nI 0) (nI 2) (kRetT K s) ∧ (∀ f : Nat → Int64, zPos (nI 1) (nI 0) (nI 2) (kRetT K s) = nI 0 → zFK (kRetT K s) (K 20 s.toNatClampNeg) f 0 = Int32.toInt64 (mRes (mRetT M s) (M 15 s.toNatClampNeg))) ∧ zRel (zEK (kRetT K s) (kRetE K s.toNatClampNeg) K) (mPost (mRetT M s) M (mOffE M s.toNatClampNeg (-1))) (j + 1) := by
  have e : kRetT K s = if mIsS s then (if mState M s.toNatClampNeg = nI 3 then nI 0 else nI 3) else nI 1 := by
    unfold kRetT
    rw [kNeedS_m, zseq_if _ _ zn1]
    by_cases q : mIsS s = true
    · obtain ⟨p, hp, -, hp7⟩ := mIsS_of q
      rw [hp7, zstate h hp]
    · simp only [if_neg q]
  refine zstep h kRetT_r (fun _ => zn1) (fun q => nomatch q) (fun _ => zn2) ?_ (fun g => ?_)
  · rw [e, zPos_ite, zPos_ite, zPos_0, zPos_1, zPos_3]; rfl
  · rw [e] at g
    obtain ⟨g1, g⟩ := zif_0 zn1 g
    obtain ⟨g2, -⟩ := zif_0 zn3 g
    obtain ⟨s9, hs, -, hs7⟩ := mIsS_of g1
    rw [hs7] at g2 ⊢
    have g3 : gHeld (M 5) (M 6) s9 = false ∧ ¬ M 13 s9 = (-1) ∧ ¬ M 15 s9 = (-1) := by
      unfold mState at g2
      rw [mHeld_g] at g2
      cases q : gHeld (M 5) (M 6) s9 with
      | true => rw [q, if_pos rfl] at g2; exact absurd g2 (by decide)
      | false =>
        rw [q, if_neg (by decide)] at g2
        refine ⟨rfl, fun z => ?_, fun z => ?_⟩
        · rw [if_pos z] at g2; exact absurd g2 (by decide)
        · by_cases z2 : M 13 s9 = (-1)
          · rw [if_pos z2] at g2; exact absurd g2 (by decide)
          · rw [if_neg z2, if_pos z] at g2; exact absurd g2 (by decide)
    obtain ⟨g4, g5, g6⟩ := g3
    obtain ⟨h1, h2, h3, h4, h5, h6⟩ := zRel_up h (Nat.le_succ j)
    refine ⟨rfl, ?_, h1, h2, h3, h4, fun q hq => ?_, h6⟩
    · obtain ⟨-, -, -, -, a5, -⟩ := h5 s9 hs
      rw [a5 (Or.inr g6)]
      unfold gPrice
      rw [if_neg g5]
    · obtain ⟨a1, a2, a3, a4, a5, a6, a7⟩ := h5 q hq
      by_cases e9 : q = s9
      · subst e9
        refine ⟨a1, ?_, a3, a4, fun z => ?_, a6, fun z => ?_⟩
        · show upd (K 18) q (nI 0) q = zb (decide (¬ upd (M 15) q (-1) q = (-1)))
          rw [upd_eq9, upd_eq9]; rfl
        · have z : M 13 q = (-1) ∨ ¬ upd (M 15) q (-1) q = (-1) := z
          rw [upd_eq9] at z
          rcases z with z | z
          · exact absurd z g5
          · exact absurd rfl z
        · rw [show gHeld (mOffE M q (-1) 5) (mOffE M q (-1) 6) q = false from g4] at z
          exact absurd z (by decide)
      · refine ⟨a1, ?_, a3, a4, fun z => ?_, a6, fun z => ?_⟩
        · show upd (K 18) s9 (nI 0) q = zb (decide (¬ upd (M 15) s9 (-1) q = (-1)))
          rw [upd_ne9 e9, upd_ne9 e9]; exact a2
        · have z : M 13 q = (-1) ∨ ¬ upd (M 15) s9 (-1) q = (-1) := z
          rw [upd_ne9 e9] at z
          show K 20 q = gPrice (M 13) (upd (M 15) s9 (-1)) q
          unfold gPrice
          rw [upd_ne9 e9]
          exact a5 z
        · show M 13 q = (-1) ∨ ¬ upd (M 15) s9 (-1) q = (-1)
          rw [upd_ne9 e9]; exact a7 z
