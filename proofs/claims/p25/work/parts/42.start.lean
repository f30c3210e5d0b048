/-! the start: the state of a new object, and the way to the loop -/
theorem zr_init : zRel kInit (mI 60) 0 := by
  have e8 : ∀ p, p < 8 → m8 p = (-1) := by decide +kernel
  have em : ∀ s, s < 60 → mI 60 13 s = (-1) := fun s hs => by
    show zini (fun _ => (-1)) 60 s = (-1)
    unfold zini
    rw [if_pos hs]
  have em5 : ∀ s, s < 60 → mI 60 15 s = (-1) := fun s hs => by
    show zini (fun _ => (-1)) 60 s = (-1)
    unfold zini
    rw [if_pos hs]
  have hno : ∀ p s, p < 8 → gIn (mI 60 5) (mI 60 6) p s = false := fun p s hp => gIn_no (e8 p hp)
  have hg : ∀ s, gHeld (mI 60 5) (mI 60 6) s = false := fun s => by
    cases g : gHeld (mI 60 5) (mI 60 6) s with
    | false => rfl
    | true =>
      obtain ⟨p, hp, h⟩ := gHeld_iff.mp g
      rw [hno p s hp] at h
      exact absurd h (by decide)
  have hq : gQ m8 = 0 := by decide +kernel
  refine ⟨⟨rfl, rfl, rfl, ⟨0, by decide, rfl⟩, fun p hp => rfl⟩, ⟨⟨0, by decide, rfl, rfl⟩, fun c hc => rfl, fun c hc => rfl, fun c hc p hp => ?_⟩, ⟨fun p hp => ?_, fun p hp => Or.inl (e8 p hp), fun p hp _ => e8 p hp⟩, ⟨fun p hp => Or.inl ⟨?_, e8 p hp⟩, fun p q s hp hq hs g1 g2 => ?_⟩, fun s hs => ⟨?_, ?_, ?_, Or.inl (em s hs), fun _ => ?_, rfl, fun z => ?_⟩, ⟨0, rfl, ?_, fun s hs => ?_⟩⟩
  · unfold gUsed
    rw [if_pos (show mI 60 5 p = (-1) from e8 p hp)]
    show nI 0 = nI 0 + nI 0
    decide
  · rw [show mI 60 4 p = (-1) from e8 p hp]
    show zini (fun _ => (-1)) 8 p = (-1)
    unfold zini
    rw [if_pos hp]
  · show (nI 0 : Int32) ≤ 0
    decide
  · rw [hno p s hp] at g1
    exact absurd g1 (by decide)
  · rw [hg]; rfl
  · rw [em5 s hs]; rfl
  · rw [em s hs]
    show zini (fun _ => (-1)) 60 s = (-1)
    unfold zini
    rw [if_pos hs]
  · unfold gPrice
    rw [if_pos (em s hs)]
    show zini (fun s => nI 100 - nI (10 * (s / 10))) 60 s = nI 100 - nI (10 * (s / 10))
    unfold zini
    rw [if_pos hs]
  · rw [hg] at z; exact absurd z (by decide)
  · show 3 * 0 + 2 * gQ m8 + gQ m8 ≤ 0
    rw [hq]; decide
  · rw [em s hs]; rfl
theorem lw_nt (l : Launch) (h : l.flags = flags0) : l.stackTraces = false := by
  unfold Launch.stackTraces
  rw [h]
  decide +kernel
set_option maxRecDepth 100000 in
theorem lw_nw_in : ∀ w ∈ zNW, w ∈ lw_tbl := by decide +kernel
set_option maxRecDepth 100000 in
theorem lw_nw_on : ∀ w ∈ zNW, w.onTables = true := by decide +kernel
set_option maxRecDepth 100000 in
theorem lw_sr_in : ∀ q ∈ zSR, Cond.stringRef RX5 q.1 q.2 ∈ lw_tbl := by decide +kernel
set_option maxRecDepth 100000 in
theorem lw_sr_ex : ∀ q ∈ zSR, Cond.exactly (.string RX5 q.1) "java/lang/String" ∈ flatC (Jvm.Cond.and given_1 narrow_1) := by decide +kernel
set_option maxRecDepth 100000 in
theorem lw_env {s : State} {b : Addr} (hts : ∀ w ∈ lw_tbl, w.before #[Value.ref b] s = true) (hgv : (Jvm.Cond.and given_1 narrow_1).before #[Value.ref b] s = true) : zEnv (fun q => s.heap.size ≤ q) s s.heap ∧ zNc s := by
  have hs := flat_of_before _ hgv
  have hA : ∀ a : Nat, a < s.heap.size → ¬ (fun q : Nat => s.heap.size ≤ q) a := fun a h => Nat.not_le.mpr h
  refine ⟨⟨fun w hw => va_Nw.of (lw_nw_on w hw) (hts w (lw_nw_in w hw)), fun q hq => ?_, ?_, ?_⟩, ?_, ?_, ?_⟩
  · obtain ⟨a, c, cA, kA, q1, -⟩ := Cond.exactly_spec (args := #[Value.ref b]) (first := s) (o := none) (s := s) (idx := []) (t := .string RX5 q.1) (cls := "java/lang/String") (hs _ (lw_sr_ex q hq))
    exact ⟨a, vk_R.of (hts _ (lw_sr_in q hq)) q1⟩
  · exact vx_Zqof (hts (.laysStatic Bundle.tN "UNASSIGNED_STACK" Bundle.steD) (by decide +kernel)) (hts (.initialized Bundle.tN) (by decide +kernel)) (hs (.isRef (.static Bundle.tN "UNASSIGNED_STACK" Bundle.steD)) (by decide +kernel)) hA
  · exact vx_Zqof (hts (.laysStatic Bundle.tN "SUPPRESSED_SENTINEL" Bundle.listD) (by decide +kernel)) (hts (.initialized Bundle.tN) (by decide +kernel)) (hs (.isRef (.static Bundle.tN "SUPPRESSED_SENTINEL" Bundle.listD)) (by decide +kernel)) hA
  · exact va_Nc.of (hs (.not (.castable "java/lang/IllegalStateException" "java/lang/IllegalArgumentException")) (by decide +kernel))
  · exact va_Nc.of (hs (.not (.castable "java/lang/IllegalArgumentException" "java/lang/IndexOutOfBoundsException")) (by decide +kernel))
  · exact va_Nc.of (hs (.not (.castable "java/lang/IllegalStateException" "java/lang/IndexOutOfBoundsException")) (by decide +kernel))
set_option maxHeartbeats 4000000 in
set_option maxRecDepth 100000 in
theorem whole_start {p : Program} {e : Env} {s : State} {m : MethodId} {below : List Frame} {meth : Method} {c : Code} (l : Launch) (hflags : l.flags = flags0) {b L : Nat} {xs : Nat → Int32} (hL : L ≤ 260) (C0 : lw_At p s m meth c b L xs) : W p l e room_1 s m #[Value.ref b] below meth c s.heap [] 0 0 (lw_Z below #[Value.ref b] s) (entryFrame m ([Value.ref b] : List Value).toArray 6) := by
  obtain ⟨hx, hb0, hr, hml, hown0, hts0, hX, hbl, hlocks, hgv⟩ := C0
  have hb : c.code = cL_law := hb0
  have hown : s.vm.findClass RL = some m.cls := hown0
  have hts : ∀ w ∈ wsL_law, w.before #[Value.ref b] s = true := fun w h => hts0 w (wsL_law_in w h)
  obtain ⟨hE, hN⟩ := lw_env hts0 hgv
  have hl9 := lw_nt l hflags
  have hA : ∀ q : Nat, s.heap.size ≤ q → (fun q : Nat => s.heap.size ≤ q) q := fun _ h => h
  have hbA : ¬ (fun q : Nat => s.heap.size ≤ q) b := Nat.not_le.mpr hbl
  have hinX0 : ∀ w ∈ u_ws RX0 TX0 4, w ∈ wsL_law := inlX0
  obtain ⟨c0, iS0, hKn0⟩ := u_known (C := RX0) (T := TX0) (N := 4) (n := 4) hts hinX0 (hts0 (.instantiable RX0 4) (by decide +kernel))
  have hinX1 : ∀ w ∈ u_ws RX1 TX1 7, w ∈ wsL_law := inlX1
  obtain ⟨c1, iS1, hKn1⟩ := u_known (C := RX1) (T := TX1) (N := 7) (n := 7) hts hinX1 (hts0 (.instantiable RX1 7) (by decide +kernel))
  have hinX2 : ∀ w ∈ u_ws RX2 TX2 1, w ∈ wsL_law := inlX2
  obtain ⟨c2, iS2, hKn2⟩ := u_known (C := RX2) (T := TX2) (N := 1) (n := 1) hts hinX2 (hts0 (.instantiable RX2 1) (by decide +kernel))
  have hinX3 : ∀ w ∈ u_ws RX3 TX3 4, w ∈ wsL_law := inlX3
  obtain ⟨c3, iS3, hKn3⟩ := u_known (C := RX3) (T := TX3) (N := 4) (n := 4) hts hinX3 (hts0 (.instantiable RX3 4) (by decide +kernel))
  have hinX4 : ∀ w ∈ u_ws RX4 TX4 5, w ∈ wsL_law := inlX4
  obtain ⟨c4, iS4, hKn4⟩ := u_known (C := RX4) (T := TX4) (N := 5) (n := 5) hts hinX4 (hts0 (.instantiable RX4 5) (by decide +kernel))
  have hinX5 : ∀ w ∈ u_ws RX5 TX5 9, w ∈ wsL_law := inlX5
  obtain ⟨c5, iS5, hKn5⟩ := u_known (C := RX5) (T := TX5) (N := 9) (n := 9) hts hinX5 (hts0 (.instantiable RX5 9) (by decide +kernel))
  obtain ⟨D, hKc⟩ : ∃ D : va_G, ∀ (k : Nat) (q : vw_C), vwCl[k]? = some q → u_Kn s q.1 q.2.1 q.2.2 (D.1 k) (D.2 k) := by
    refine ⟨(fun k => if k = 0 then c0 else if k = 1 then c1 else if k = 2 then c2 else if k = 3 then c3 else if k = 4 then c4 else c5, fun k => if k = 0 then iS0 else if k = 1 then iS1 else if k = 2 then iS2 else if k = 3 then iS3 else if k = 4 then iS4 else iS5), ?_⟩
    intro k q hq
    match k, hq with
    | 0, hq => cases hq; exact hKn0
    | 1, hq => cases hq; exact hKn1
    | 2, hq => cases hq; exact hKn2
    | 3, hq => cases hq; exact hKn3
    | 4, hq => cases hq; exact hKn4
    | 5, hq => cases hq; exact hKn5
    | k + 6, hq => simp [vwCl] at hq
  have hS : va_S (fun q : Nat => s.heap.size ≤ q) s.heap s.heap [] := va_S.rf
  have hK : va_K D vwCl [] s := ⟨hKc, fun k q h => by simp at h⟩
  have hP : va_P D vwCl [] s.heap := fun k q h => by simp at h
  have hD : va_D (fun q : Nat => s.heap.size ≤ q) [] := ⟨fun i j p q h => by simp at h, fun k q h => by simp at h⟩
  have hl := lv_entry ([.ref b]) (n := 6) (Nat.le_of_ble_eq_true rfl)
  rw [lg_entry_eq]
  generalize (lg_sl ([.ref b]) ++ List.replicate (6 - (lg_sl ([.ref b])).length) Slot.unset).toArray = ls at hl ⊢
  have hl : lv_has ls 6 [(0, .ref b)] := hl
  refine va_new (ci := 5) (fs := [.int (nI 0), .int (nI 0), .int (nI 0), .null, .null, .null, .null, .null, .null]) (C := RX5) (T := TX5) (N := 9) hx hb hts hinX5 tyX5 tyX5_ok hown (hts0 (.classLink RL 9 RX5) (by decide +kernel)) (hts0 (.instantiable RX5 9) (by decide +kernel)) (hts0 (.initialized RX5) (by decide +kernel)) hK hP hD hS hA rfl (fun j hj => by rcases (show j = 0 ∨ j = 1 ∨ j = 2 ∨ j = 3 ∨ j = 4 ∨ j = 5 ∨ j = 6 ∨ j = 7 ∨ j = 8 by omega) with rfl | rfl | rfl | rfl | rfl | rfl | rfl | rfl | rfl <;> rfl) (Nat.le_of_ble_eq_true rfl) (Nat.le_of_ble_eq_true rfl) dL_law_0 (fun q0 H hP hD hS => ?_)
  refine W.widen (k := 1) (n := 9) (Nat.le_of_ble_eq_true rfl) (Nat.le_of_ble_eq_true rfl) ?_
  have hP : va_P D vwCl [(q0, .inr (5, [.int (nI 0), .int (nI 0), .int (nI 0), .null, .null, .null, .null, .null, .null]))] H := hP
  have hD : va_D (fun q : Nat => s.heap.size ≤ q) [(q0, .inr (5, [.int (nI 0), .int (nI 0), .int (nI 0), .null, .null, .null, .null, .null, .null]))] := hD
  refine lv_dup hx hb dL_law_3 rfl ?_
  have hFc := va_free (wc := [(q0, .inr (5, [.int (nI 0), .int (nI 0), .int (nI 0), .null, .null, .null, .null, .null, .null]))]) hD hS hA [0] rfl
  refine va_callv (va_runI (As := []) (rest := [.ref q0]) ⟨hx, hb, hml, hown, hts⟩ (kX5_init l D q0 _) (cwI 0 hts gL_law_X5_init rfl rfl rfl (hts0 (.initialized RX5) (by decide +kernel)) (hts0 (.methodLink RL 117 yX5_init) (by decide +kernel)) (hts0 (.instanceMethod yX5_init) (by decide +kernel)) rfl (by decide +kernel) ⟨(Nat.le_of_ble_eq_true rfl), (Nat.le_of_ble_eq_true rfl)⟩) ⟨zPn_blind _ _ _ _ _, fun U hU hW => ⟨rfl, by rw [hU], by rw [hU]; exact hP, va_K.moved hW.alike hK, hD.weaken (fun _ _ _ _ => trivial), zNW_warm hW hE.1⟩⟩ rfl rfl hl.1 rfl (lv_room (Nat.le_of_ble_eq_true rfl)) dL_law_4 ⟨(Nat.le_of_ble_eq_true rfl), (Nat.le_of_ble_eq_true rfl)⟩) hS (fun q _ h => hFc q h) hFc (fun u t H1 locs ht hvm hw hB hz1 hk1 hS => ?_)
  refine W.widen (k := 26) (n := 1012) (Nat.le_of_ble_eq_true rfl) (Nat.le_of_ble_eq_true rfl) ?_
  obtain ⟨ad, cI, cZ⟩ := u
  obtain ⟨hP1, hK1, hD1⟩ := hB
  rw [ht] at hP1
  have hK1 := va_K.moved hvm.symm hK1
  dsimp only at hw hP1 hK1 hD1
  obtain ⟨hP, hD⟩ := va_join (wr := []) (w1 := (kwA ad cI cZ kInit)) hP hD [0] [] rfl rfl (by decide) (by decide) hk1 hFc hP1 hD1
  generalize H1 = H at hP hS ⊢
  have hK := hK.app hK1
  have hK : va_K D vwCl (zTy cI cZ) s := hK
  have hP : va_P D vwCl (kwA ad cI cZ kInit) H := hP
  have hD : va_D (fun q : Nat => s.heap.size ≤ q) (kwA ad cI cZ kInit) := hD
  rw [← hw]
  refine lv_astore_n (lv' := [(1, .ref (ad 0)), (0, .ref b)]) hx hb dL_law_7 rfl hl (by decide) rfl (fun ls hl => ?_)
  refine va_new (ci := 5) (fs := [.int (nI 0), .int (nI 0), .int (nI 0), .null, .null, .null, .null, .null, .null]) (C := RX5) (T := TX5) (N := 9) hx hb hts hinX5 tyX5 tyX5_ok hown (hts0 (.classLink RL 9 RX5) (by decide +kernel)) (hts0 (.instantiable RX5 9) (by decide +kernel)) (hts0 (.initialized RX5) (by decide +kernel)) hK hP hD hS hA rfl (fun j hj => by rcases (show j = 0 ∨ j = 1 ∨ j = 2 ∨ j = 3 ∨ j = 4 ∨ j = 5 ∨ j = 6 ∨ j = 7 ∨ j = 8 by omega) with rfl | rfl | rfl | rfl | rfl | rfl | rfl | rfl | rfl <;> rfl) (Nat.le_of_ble_eq_true rfl) (Nat.le_of_ble_eq_true rfl) dL_law_8 (fun q6 H hP hD hS => ?_)
  refine W.widen (k := 27) (n := 1021) (Nat.le_of_ble_eq_true rfl) (Nat.le_of_ble_eq_true rfl) ?_
  have hP : va_P D vwCl (kwA ad cI cZ kInit ++ [(q6, .inr (5, [.int (nI 0), .int (nI 0), .int (nI 0), .null, .null, .null, .null, .null, .null]))]) H := hP
  have hD : va_D (fun q : Nat => s.heap.size ≤ q) (kwA ad cI cZ kInit ++ [(q6, .inr (5, [.int (nI 0), .int (nI 0), .int (nI 0), .null, .null, .null, .null, .null, .null]))]) := hD
  refine lv_dup hx hb dL_law_11 rfl ?_
  have hPc := hP.sub (ws' := [(q6, .inr (5, [.int (nI 0), .int (nI 0), .int (nI 0), .null, .null, .null, .null, .null, .null]))]) [26] rfl
  have hDc := hD.sub (ws' := [(q6, .inr (5, [.int (nI 0), .int (nI 0), .int (nI 0), .null, .null, .null, .null, .null, .null]))]) [26] rfl rfl
  have hFc := va_free (wc := [(q6, .inr (5, [.int (nI 0), .int (nI 0), .int (nI 0), .null, .null, .null, .null, .null, .null]))]) hD hS hA [26] rfl
  refine va_callv (va_runI (As := []) (rest := [.ref q6]) ⟨hx, hb, hml, hown, hts⟩ (kX5_init l D q6 _) (cwI 0 hts gL_law_X5_init rfl rfl rfl (hts0 (.initialized RX5) (by decide +kernel)) (hts0 (.methodLink RL 117 yX5_init) (by decide +kernel)) (hts0 (.instanceMethod yX5_init) (by decide +kernel)) rfl (by decide +kernel) ⟨(Nat.le_of_ble_eq_true rfl), (Nat.le_of_ble_eq_true rfl)⟩) ⟨zPn_blind _ _ _ _ _, fun U hU hW => ⟨rfl, by rw [hU], by rw [hU]; exact hPc, va_K.moved hW.alike (hK.sub (tys' := []) [] rfl), hDc.weaken (fun _ _ _ _ => trivial), zNW_warm hW hE.1⟩⟩ rfl rfl hl.1 rfl (lv_room (Nat.le_of_ble_eq_true rfl)) dL_law_12 ⟨(Nat.le_of_ble_eq_true rfl), (Nat.le_of_ble_eq_true rfl)⟩) hS (fun q _ h => hFc q h) hFc (fun u t H1 locs ht hvm hw2 hB hz1 hk1 hS => ?_)
  refine W.widen (k := 60 + 23 * 0) (n := 2100 + 138 * 0) (Nat.le_of_ble_eq_true rfl) (Nat.le_of_ble_eq_true rfl) ?_
  obtain ⟨am, cI2, cZ2⟩ := u
  obtain ⟨hP1, hK1, hD1⟩ := hB
  rw [ht] at hP1
  have hK1 := va_K.moved hvm.symm hK1
  dsimp only at hw2 hP1 hK1 hD1
  obtain ⟨hP, hD⟩ := va_join (wr := (kwA ad cI cZ kInit)) (w1 := (kwA am cI2 cZ2 kInit)) hP hD [26] [0, 1, 2, 3, 4, 5, 6, 7, 8, 9, 10, 11, 12, 13, 14, 15, 16, 17, 18, 19, 20, 21, 22, 23, 24, 25] rfl rfl (by decide) (by decide) hk1 hFc hP1 hD1
  generalize H1 = H at hP hS ⊢
  have hK := hK.app hK1
  have hK : va_K D vwCl [(cI, .int), (cZ, .boolean), (cI2, .int), (cZ2, .boolean)] s := hK
  have eI : cI2 = cI := zcI hK (i := 2) (j := 0) rfl rfl
  have eZ : cZ2 = cZ := zcZ hK (i := 3) (j := 1) rfl rfl
  subst cI2
  subst cZ2
  have hK : va_K D vwCl (zTy cI cZ) s := hK.sub [0, 1] rfl
  have hP : va_P D vwCl (lq_W ad am cI cZ kInit kInit) H := hP
  have hD : va_D (fun q : Nat => s.heap.size ≤ q) (lq_W ad am cI cZ kInit kInit) := hD
  rw [← hw2]
  refine lv_astore_n (lv' := [(2, .ref (am 0)), (1, .ref (ad 0)), (0, .ref b)]) hx hb dL_law_15 rfl hl (by decide) rfl (fun ls hl => ?_)
  refine lv_iconst (v := nI 0) hx hb dL_law_16 (by decide) ?_
  refine lv_istore_n (lv' := lq_l 0 ad am b) hx hb dL_law_17 rfl hl (by decide) rfl (fun ls hl => ?_)
  exact law_loop ⟨hx, hb, hml, hown, hts, hX, hbl, hbA, hA, hl9, hK, hE, hN⟩ hr hlocks hL 111 0 (Nat.zero_le _) (by omega) kInit (mI 60) H _ ls zr_init w_init hP hD hS hl
