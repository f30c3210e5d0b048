/-! the law's loop -/
theorem lw_and31 (x : Int32) : ∃ k, k < 32 ∧ x &&& nI 31 = nI k := by
  refine ⟨x.toBitVec.toNat % 32, Nat.mod_lt _ (by decide), ?_⟩
  apply Int32.toBitVec_inj.1
  apply BitVec.eq_of_toNat_eq
  rw [Int32.toBitVec_and, BitVec.toNat_and, show (nI 31).toBitVec.toNat = 31 from by decide +kernel]
  rw [show (31 : Nat) = 2 ^ 5 - 1 from rfl, Nat.and_two_pow_sub_one_eq_mod]
  show x.toBitVec.toNat % 2 ^ 5 = (BitVec.ofNat 32 (x.toBitVec.toNat % 32)).toNat
  rw [BitVec.toNat_ofNat]
  have h : x.toBitVec.toNat % 32 < 32 := Nat.mod_lt _ (by decide)
  rw [Nat.mod_eq_of_lt (show x.toBitVec.toNat % 32 < 2 ^ 32 by omega)]
theorem lw_low : ∀ L, L < 6 → nI L - nI 6 < nI 0 := by decide +kernel
theorem lw_more {L j : Nat} (hL : L ≤ 3072) (hj : 6 * j ≤ L) (h : ¬ nI L - nI 6 < nI (6 * j)) : 6 * j + 6 ≤ L := by
  rcases Nat.lt_or_ge L 6 with g | g
  · have e : j = 0 := by omega
    subst e
    exact absurd (lw_low L g) h
  · rw [pk_sub g] at h
    have h2 : ¬ L - 6 < 6 * j := fun z => h (nI_lt z (by omega))
    omega
section LL
variable {p : Program} {l : Launch} {e : Env} {s : State} {m : MethodId} {below : List Frame} {meth : Method} {c : Code} {D : va_G} {b : Addr}
set_option maxHeartbeats 4000000 in
set_option maxRecDepth 100000 in
/-- one call of the script, from the switch -/
theorem lw_step {A : Nat → Prop} {args : Array Value} {Q : State → Prop} {H : Heap} {locs : List Loc} {ls : Array Slot} {L : Nat} {xs : Nat → Int32} {cI cZ cJ : ClassId} {ad am : Nat → Nat} {K M : kS} {o j : Nat} {f : Nat → Int64} (C0 : lw_Cx p l s m args c A b L xs D cI cZ cJ) (hL : L ≤ 3072) (hj : 6 * j + 6 ≤ L) (h : zRel K M j) (hP : va_P D vwCl (lwW ad am cI cZ cJ K M o f) H) (hD : va_D A (lwW ad am cI cZ cJ K M o f)) (hS : va_S A s.heap H locs) (hl : lv_has ls 7 (lwl j o am ad b)) {k : Nat} (hk : k < 32)
    (next : ∀ (K M : kS) (f : Nat → Int64) (H : Heap) (locs : List Loc) (ls : Array Slot), zRel K M (j + 1) → va_P D vwCl (lwW ad am cI cZ cJ K M o f) H → va_D A (lwW ad am cI cZ cJ K M o f) → va_S A s.heap H locs → lv_has ls 7 (lwl j o am ad b) → W p l e room_1 s m args below meth c H locs (64 + 8 * (j + 1)) (4000 + 48 * (j + 1)) Q (F0 m 1374 ls [])) :
    W p l e room_1 s m args below meth c H locs (64 + 8 * j) (4000 + 48 * j) Q (F0 m 40 ls [.int (nI k)]) := by
  have hx := C0.1
  have hb := C0.2.1
  have hup := zRel_up h (Nat.le_succ j)
  obtain ⟨n9, hn9, hn1, hn2⟩ := zRel_n h
  obtain ⟨t9, ht9, ht2⟩ := zRel_t h
  have hjj : j < 512 := by omega
  rcases Nat.lt_or_ge k 22 with g | g
  · rcases (show k = 0 ∨ k = 1 ∨ k = 2 ∨ k = 3 ∨ k = 4 ∨ k = 5 ∨ k = 6 ∨ k = 7 ∨ k = 8 ∨ k = 9 ∨ k = 10 ∨ k = 11 ∨ k = 12 ∨ k = 13 ∨ k = 14 ∨ k = 15 ∨ k = 16 ∨ k = 17 ∨ k = 18 ∨ k = 19 ∨ k = 20 ∨ k = 21 by omega) with rfl | rfl | rfl | rfl | rfl | rfl | rfl | rfl | rfl | rfl | rfl | rfl | rfl | rfl | rfl | rfl | rfl | rfl | rfl | rfl | rfl | rfl
    · obtain ⟨e1, e2, e3⟩ := zs_pass h (xs (6 * j + 1))
      exact lv_tableIn (off := 104) (tgt := 144) hx hb dL_law_40 (by decide +kernel) (by decide +kernel) (by decide +kernel) (by decide) (lw_c_pass C0 hL hj (zRel_hok h) hP hD hS hl e1 (e2 f) (fun H locs ls hP hD hS hl => next _ _ _ H locs ls e3 hP hD hS hl))
    · exact lv_tableIn (off := 160) (tgt := 200) hx hb dL_law_40 (by decide +kernel) (by decide +kernel) (by decide +kernel) (by decide) (lw_c_time C0 hL hj hP hD hS hl h.1.1 (fun H locs ls hP hD hS hl => next _ _ _ H locs ls (zRel_goes _ hup) hP hD hS hl))
    · obtain ⟨e1, e2, e3⟩ := zs_setOpening h (xs (6 * j + 1))
      exact lv_tableIn (off := 173) (tgt := 213) hx hb dL_law_40 (by decide +kernel) (by decide +kernel) (by decide +kernel) (by decide) (lw_c_setOpening C0 hL hj hP hD hS hl e1 (e2 f) (fun H locs ls hP hD hS hl => next _ _ _ H locs ls e3 hP hD hS hl))
    · obtain ⟨e1, e2, e3⟩ := zs_code h hn9 hn1 hn2 (xs (6 * j + 1)) (xs (6 * j + 2))
      exact lv_tableIn (off := 229) (tgt := 269) hx hb dL_law_40 (by decide +kernel) (by decide +kernel) (by decide +kernel) (by decide) (lw_c_code C0 hL hj n9 hn9 hn1 n9 hn9 hn2 hP hD hS hl e1 (e2 f) (fun H locs ls hP hD hS hl => next _ _ _ H locs ls e3 hP hD hS hl))
    · obtain ⟨e1, e2, e3⟩ := zs_used h hn9 hn1 hn2 (xs (6 * j + 1)) (xs (6 * j + 2))
      exact lv_tableIn (off := 297) (tgt := 337) hx hb dL_law_40 (by decide +kernel) (by decide +kernel) (by decide +kernel) (by decide) (lw_c_used C0 hL hj n9 hn9 hn1 n9 hn9 hn2 hP hD hS hl e1 (e2 f) (fun H locs ls hP hD hS hl => next _ _ _ H locs ls e3 hP hD hS hl))
    · obtain ⟨e1, e2, e3⟩ := zs_join h (xs (6 * j + 1))
      exact lv_tableIn (off := 365) (tgt := 405) hx hb dL_law_40 (by decide +kernel) (by decide +kernel) (by decide +kernel) (by decide) (lw_c_join C0 hL hj hP hD hS hl e1 (e2 f) (fun H locs ls hP hD hS hl => next _ _ _ H locs ls e3 hP hD hS hl))
    · obtain ⟨e1, e2, e3⟩ := zs_quit h (xs (6 * j + 1))
      exact lv_tableIn (off := 421) (tgt := 461) hx hb dL_law_40 (by decide +kernel) (by decide +kernel) (by decide +kernel) (by decide) (lw_c_quit C0 hL hj hP hD hS hl e1 (e2 f) (fun H locs ls hP hD hS hl => next _ _ _ H locs ls e3 hP hD hS hl))
    · obtain ⟨e1, e2, e3⟩ := zs_queueAt h (xs (6 * j + 1))
      exact lv_tableIn (off := 477) (tgt := 517) hx hb dL_law_40 (by decide +kernel) (by decide +kernel) (by decide +kernel) (by decide) (lw_c_queueAt C0 hL hj hP hD hS hl e1 (e2 f) (fun H locs ls hP hD hS hl => next _ _ _ H locs ls e3 hP hD hS hl))
    · exact lv_tableIn (off := 533) (tgt := 573) hx hb dL_law_40 (by decide +kernel) (by decide +kernel) (by decide +kernel) (by decide) (lw_c_served C0 hL hj hP hD hS hl (zserved h) (fun H locs ls hP hD hS hl => next _ _ _ H locs ls (zRel_goes _ hup) hP hD hS hl))
    · obtain ⟨e1, e2, e3⟩ := zs_hold h hn9 hn1 hn2 (xs (6 * j + 1)) (xs (6 * j + 2)) (xs (6 * j + 3)) (xs (6 * j + 4)) (xs (6 * j + 5))
      exact lv_tableIn (off := 546) (tgt := 586) hx hb dL_law_40 (by decide +kernel) (by decide +kernel) (by decide +kernel) (by decide) (lw_c_hold C0 hL hj n9 hn9 hn1 n9 hn9 hn2 hP hD hS hl e1 (e2 f) (fun H locs ls hP hD hS hl => next _ _ _ H locs ls e3 hP hD hS hl))
    · obtain ⟨e1, e2, e3⟩ := zs_pay h ht2 ht9 hjj (xs (6 * j + 1)) (xs (6 * j + 2))
      exact lv_tableIn (off := 650) (tgt := 690) hx hb dL_law_40 (by decide +kernel) (by decide +kernel) (by decide +kernel) (by decide) (lw_c_pay C0 hL hj t9 (zRel_hok h) (zRel_own h) (zpay_t h ht2 ht9 hjj _ _) ht2 (zRel_mhok h) (zRel_mown h) hP hD hS hl e1 (e2 f) (fun H locs ls hP hD hS hl => next _ _ _ H locs ls e3 hP hD hS hl))
    · obtain ⟨e1, e2, e3⟩ := zs_letGo h (xs (6 * j + 1))
      exact lv_tableIn (off := 718) (tgt := 758) hx hb dL_law_40 (by decide +kernel) (by decide +kernel) (by decide +kernel) (by decide) (lw_c_letGo C0 hL hj (zRel_hok h) hP hD hS hl e1 (e2 f) (fun H locs ls hP hD hS hl => next _ _ _ H locs ls e3 hP hD hS hl))
    · obtain ⟨e1, e2, e3⟩ := zs_lapses h (xs (6 * j + 1))
      exact lv_tableIn (off := 774) (tgt := 814) hx hb dL_law_40 (by decide +kernel) (by decide +kernel) (by decide +kernel) (by decide) (lw_c_lapses C0 hL hj hP hD hS hl e1 (e2 f) (fun H locs ls hP hD hS hl => next _ _ _ H locs ls e3 hP hD hS hl))
    · obtain ⟨e1, e2, e3⟩ := zs_state h (xs (6 * j + 1))
      exact lv_tableIn (off := 830) (tgt := 870) hx hb dL_law_40 (by decide +kernel) (by decide +kernel) (by decide +kernel) (by decide) (lw_c_state C0 hL hj hP hD hS hl e1 (e2 f) (fun H locs ls hP hD hS hl => next _ _ _ H locs ls e3 hP hD hS hl))
    · obtain ⟨e1, e2, e3⟩ := zs_owner h (xs (6 * j + 1))
      exact lv_tableIn (off := 886) (tgt := 926) hx hb dL_law_40 (by decide +kernel) (by decide +kernel) (by decide +kernel) (by decide) (lw_c_owner C0 hL hj hP hD hS hl e1 (e2 f) (fun H locs ls hP hD hS hl => next _ _ _ H locs ls e3 hP hD hS hl))
    · obtain ⟨e1, e2, e3⟩ := zs_ownerBySales h ht9 hjj ht2 (xs (6 * j + 1))
      exact lv_tableIn (off := 942) (tgt := 982) hx hb dL_law_40 (by decide +kernel) (by decide +kernel) (by decide +kernel) (by decide) (lw_c_ownerBySales C0 hL hj t9 (by omega) ht2 hP hD hS hl e1 (e2 f) (fun H locs ls hP hD hS hl => next _ _ _ H locs ls e3 hP hD hS hl))
    · obtain ⟨e1, e2, e3⟩ := zs_isSingle h (xs (6 * j + 1))
      exact lv_tableIn (off := 998) (tgt := 1038) hx hb dL_law_40 (by decide +kernel) (by decide +kernel) (by decide +kernel) (by decide) (lw_c_isSingle C0 hL hj hP hD hS hl e1 (e2 f) (fun H locs ls hP hD hS hl => next _ _ _ H locs ls e3 hP hD hS hl))
    · obtain ⟨e1, e2, e3⟩ := zs_firstOpen h (xs (6 * j + 1)) (xs (6 * j + 2))
      exact lv_tableIn (off := 1061) (tgt := 1101) hx hb dL_law_40 (by decide +kernel) (by decide +kernel) (by decide +kernel) (by decide) (lw_c_firstOpen C0 hL hj hP hD hS hl e1 (e2 f) (fun H locs ls hP hD hS hl => next _ _ _ H locs ls e3 hP hD hS hl))
    · obtain ⟨e1, e2, e3⟩ := zs_offer h (xs (6 * j + 1)) (xs (6 * j + 2)) (xs (6 * j + 3))
      exact lv_tableIn (off := 1129) (tgt := 1169) hx hb dL_law_40 (by decide +kernel) (by decide +kernel) (by decide +kernel) (by decide) (lw_c_offer C0 hL hj hP hD hS hl e1 (e2 f) (fun H locs ls hP hD hS hl => next _ _ _ H locs ls e3 hP hD hS hl))
    · obtain ⟨e1, e2, e3⟩ := zs_retract h (xs (6 * j + 1))
      exact lv_tableIn (off := 1209) (tgt := 1249) hx hb dL_law_40 (by decide +kernel) (by decide +kernel) (by decide +kernel) (by decide) (lw_c_retract C0 hL hj hP hD hS hl e1 (e2 f) (fun H locs ls hP hD hS hl => next _ _ _ H locs ls e3 hP hD hS hl))
    · obtain ⟨e1, e2, e3⟩ := zs_spent h (xs (6 * j + 1))
      exact lv_tableIn (off := 1265) (tgt := 1305) hx hb dL_law_40 (by decide +kernel) (by decide +kernel) (by decide +kernel) (by decide) (lw_c_spent C0 hL hj hP hD hS hl e1 (e2 f) (fun H locs ls hP hD hS hl => next _ _ _ H locs ls e3 hP hD hS hl))
    · exact lv_tableIn (off := 1321) (tgt := 1361) hx hb dL_law_40 (by decide +kernel) (by decide +kernel) (by decide +kernel) (by decide) (lw_c_takings C0 hL hj hP hD hS hl h.1.2.2.1 (fun H locs ls hP hD hS hl => next _ _ _ H locs ls (zRel_goes _ hup) hP hD hS hl))
  · refine lv_tableOut (tgt := 1374) hx hb dL_law_40 (Or.inr ?_) (by decide) ?_
    · rw [nI_toInt (by omega)]; omega
    · refine W.widen (k := 64 + 8 * (j + 1)) (n := 4000 + 48 * (j + 1)) (by omega) (by omega) ?_
      exact next K M f H locs ls hup hP hD hS hl
set_option maxHeartbeats 4000000 in
set_option maxRecDepth 100000 in
theorem law_loop {L : Nat} {xs : Nat → Int32} {cI cZ cJ : ClassId} {ad am : Nat → Nat} {o : Nat} (C0 : lw_Cx p l s m #[.ref b] c (fun q => s.heap.size ≤ q) b L xs D cI cZ cJ) (hr : meth.sig.returnType = ret) (hlocks : meth.locks = false) (hL : L ≤ 3072) :
    ∀ (n j : Nat), 6 * j ≤ L → L + 1 ≤ 6 * j + n → ∀ (K M : kS) (f : Nat → Int64) (H : Heap) (locs : List Loc) (ls : Array Slot), zRel K M j → va_P D vwCl (lwW ad am cI cZ cJ K M o f) H → va_D (fun q => s.heap.size ≤ q) (lwW ad am cI cZ cJ K M o f) → va_S (fun q => s.heap.size ≤ q) s.heap H locs → lv_has ls 7 (lwl j o am ad b) → W p l e room_1 s m #[.ref b] below meth c H locs (64 + 8 * j) (4000 + 48 * j) (lw_Z below #[.ref b] s) (F0 m 23 ls []) := by
  have C1 := C0
  obtain ⟨hx, hb, hml, hown, hts, hX, hbl, hbA, hA, hl9, hK, hE, hN⟩ := C0
  intro n
  induction n with
  | zero => intro j h1 h2; exact absurd h2 (by omega)
  | succ n ih =>
    intro j h1 h2 K M f H locs ls h hP hD hS hl
    refine lv_iload hx hb dL_law_23 (lv_at hl 0 rfl) ?_
    refine lv_aload_n hx hb dL_law_25 rfl (lv_at hl 4 rfl) ?_
    refine va_slen hx hb hX hbl hbA hS dL_law_26 ?_
    refine zz_top (y := nI L) rfl ?_
    refine lv_bipush (v := nI 6) hx hb dL_law_27 (by decide) ?_
    refine lv_isub hx hb dL_law_29 ?_
    refine lv_icmp_gt (tgt := 1380) hx hb dL_law_30 (by decide) (fun c_1 => ?_) (fun c_1 => ?_)
    · refine lv_iconst (v := 1) hx hb dL_law_1380 (by decide) ?_
      refine va_forget (fun q hq => hS.2.2 q hq) ?_
      refine W.widen (k := 601024) (n := 7293034) (by omega) (by omega) ?_
      exact lw_ret hx hb hr hlocks dL_law_1381
    · have hj : 6 * j + 6 ≤ L := lw_more hL h1 c_1
      refine lv_aload_n hx hb dL_law_33 rfl (lv_at hl 4 rfl) ?_
      refine lv_iload hx hb dL_law_34 (lv_at hl 0 rfl) ?_
      refine va_sld hx hb hX hbl hbA hS (vp_in_nI (show 6 * j < L by omega) (by omega)) dL_law_36 ?_
      refine lv_bipush (v := nI 31) hx hb dL_law_37 (by decide) ?_
      refine lv_iand hx hb dL_law_39 ?_
      obtain ⟨k, hk, ek⟩ := lw_and31 (xs (nI (6 * j)).toNatClampNeg)
      refine zz_top ek ?_
      refine lw_step C1 hL hj h hP hD hS hl hk (fun K M f H locs ls h hP hD hS hl => ?_)
      refine lv_iinc (v := nI (6 * (j + 1))) (lv' := lwl (j + 1) o am ad b) hx hb dL_law_1374 hl (k := 0) rfl ((show nI (6 * j) + Int32.ofInt 6 = nI (6 * j) + nI 6 from rfl).trans ((nI_add _ _).trans (congrArg nI (by omega)))) (by decide) rfl (fun ls hl => ?_)
      refine lv_goto (tgt := 23) hx hb dL_law_1377 (by decide) ?_
      exact ih (j + 1) (by omega) (by omega) K M f H locs ls h hP hD hS hl
end LL
