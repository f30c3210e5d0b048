set_option maxHeartbeats 4000000 in
set_option maxRecDepth 100000 in
theorem kL_pass (l : Launch) (hl9 : l.stackTraces = false) (D : va_G) (cI cZ cJ : ClassId) (ad : Nat → Nat) (K : kS) (o : Nat) (f : Nat → Int64) (sz : Nat) (x : Int32)  (hok : kHok K) : zMh l yL_pass wsL_pass ({ frames := 7, cells := 1, slots := 6, locals := 105 }) [.ref (ad 0), .int x, .ref o] D (zTj cI cZ cJ) (kwO ad cI cZ cJ K o f) (kwO ad cI cZ cJ (zEK (kPassT K x) (kPassS (kPassB K x) 8) K) o (zFK (kPassT K x) (nI (kPassN (kPassB K x) 8)) f)) sz (zPos (nI 0) (nI 1) (nI 2) (kPassT K x)) 1 6 := by
  refine va_MetW (cc := cL_pass) (maxL := 4) (ret := (some .int)) (hh := [(0, 9, 12, 13), (0, 9, 15, 15)]) (by decide) rfl ?_
  intro pP e s m args below meth c s₁ B hml hv
  obtain ⟨rfl, hsz, hP, hK, hD0, hE0, hN⟩ := hv
  have hx := B.exec
  have hb := B.bytes
  have hr := B.returns
  have hts := atoms_spec (ws := wsL_pass) B.pre
  have hTab := vx_table (x := yL_pass) B (hts (.codeWith yL_pass cL_pass 4 (some .int) [(0, 9, 12, 13), (0, 9, 15, 15)]) (List.mem_of_getElem? (i := 0) rfl))
  have hown : s.vm.findClass RL = some m.cls := findClass_of_methodNamed B.named
  subst hsz
  have hD := hD0.self (sz := s.heap.size)
  generalize hAe : va_A (kwO ad cI cZ cJ K o f) s.heap.size = A at hD hE0 ⊢
  have hE := hE0
  have hA : ∀ q : Nat, s.heap.size ≤ q → A q := fun q h => by rw [← hAe]; exact Or.inr h
  have hS : va_S A s.heap s.heap [] := va_S.rf
  have hK2 : va_K D vwCl (zTy cI cZ) s := hK.sub [0, 1] rfl
  have hl := lv_entry ([.ref (ad 0), .int x, .ref o]) (n := 4) (Nat.le_of_ble_eq_true rfl)
  rw [lg_entry_eq]
  generalize (lg_sl ([.ref (ad 0), .int x, .ref o]) ++ List.replicate (4 - (lg_sl ([.ref (ad 0), .int x, .ref o])).length) Slot.unset).toArray = ls at hl ⊢
  have hl : lv_has ls 4 [(0, .ref (ad 0)), (1, .int x), (2, .ref o)] := hl
  refine lv_aload_n hx hb dL_pass_0 rfl (lv_at hl 2 rfl) ?_
  refine lv_iconst (v := nI 0) hx hb dL_pass_1 (by decide) ?_
  refine lv_aload_n hx hb dL_pass_2 rfl (lv_at hl 0 rfl) ?_
  refine lv_iload_n hx hb dL_pass_3 rfl (lv_at hl 1 rfl) ?_
  refine zx_Vi (As := [.int x]) (rest := [.int (nI 0), .ref o]) (wr := [(o, .inl (cJ, 1, .inr (.inl f)))]) ⟨hx, hb, hml, hown, hts⟩ (kX5_pass l hl9 D cI cZ ad K _ x  hok) (cwV 1 hts gL_pass_X5_pass rfl rfl rfl (by decide +kernel) ⟨(Nat.le_of_ble_eq_true rfl), (Nat.le_of_ble_eq_true rfl)⟩) hK2 hP hD hS hA hE [0, 1, 2, 3, 4, 5, 6, 7, 8, 9, 10, 11, 12, 13, 14, 15, 16, 17, 18, 19, 20, 21, 22, 23, 24, 25] [26] rfl rfl rfl rfl rfl (by decide) (ci := 5) (q0 := 0) rfl rfl rfl rfl hl.1 rfl (Nat.le_of_ble_eq_true rfl) dL_pass_4 ⟨(Nat.le_of_ble_eq_true rfl), (Nat.le_of_ble_eq_true rfl)⟩ (fun E ce q9 H locs h0 hE9 hP hD hS hce hcv hcl => ?_) (fun hT H locs hP hD hS => ?_)
  · skip
    have hP := hP.sub (ws' := (kwO ad cI cZ cJ K o f)) [1, 2, 3, 4, 5, 6, 7, 8, 9, 10, 11, 12, 13, 14, 15, 16, 17, 18, 19, 20, 21, 22, 23, 24, 25, 26, 0] rfl
    have hD := hD.sub (ws' := (kwO ad cI cZ cJ K o f)) [1, 2, 3, 4, 5, 6, 7, 8, 9, 10, 11, 12, 13, 14, 15, 16, 17, 18, 19, 20, 21, 22, 23, 24, 25, 26, 0] rfl rfl
    have h0 : ¬ kPassT K x = nI 0 := h0
    have hE9 : E = zN (kPassT K x) := hE9
    have eK9 : zEK (kPassT K x) (kPassS (kPassB K x) 8) K = K := zEK_n h0
    have eF9 : zFK (kPassT K x) (nI (kPassN (kPassB K x) 8)) f = f := zFK_n h0
    have hr9 : zRng false true true (kPassT K x) := kPassT_r
    rcases hr9.resolve_left h0 with ⟨h8, h9⟩ | ⟨h8, h9⟩ | ⟨h8, h9⟩
    · skip
      exact nomatch h8
    · skip
      have hE8 : E = "java/lang/IllegalArgumentException" := by rw [hE9, h9, zN_2]
      subst hE8
      refine vx_catch (own := RL) (name := "java/lang/IllegalArgumentException") hown [] ⟨0, 9, 12, 13⟩ [⟨0, 9, 15, 15⟩] (by rw [hTab]; rfl) (fun _ h => absurd h List.not_mem_nil) (by decide) (by decide) (hts (.classLink RL 13 "java/lang/IllegalArgumentException") (List.mem_of_getElem? (i := 1) rfl)) (va_Nw.use rfl (hE.1 (.castable "java/lang/IllegalArgumentException" "java/lang/IllegalArgumentException") (List.mem_of_getElem? (i := 40) rfl))) hce hcv hcl ?_
      refine lv_astore_n (lv' := [(3, .ref q9), (0, .ref (ad 0)), (1, .int x), (2, .ref o)]) hx hb dL_pass_12 rfl hl (by decide) rfl (fun ls hl => ?_)
      refine lv_iconst (v := nI 1) hx hb dL_pass_13 (by decide) ?_
      have eR9 : nI 1 = zPos (nI 0) (nI 1) (nI 2) (kPassT K x) := by rw [h9, zPos_2]
      have hP9 : va_P D vwCl (kwO ad cI cZ cJ (zEK (kPassT K x) (kPassS (kPassB K x) 8) K) o (zFK (kPassT K x) (nI (kPassN (kPassB K x) 8)) f)) H := by rw [eK9, eF9]; exact hP
      have hD9 : va_D A (kwO ad cI cZ cJ (zEK (kPassT K x) (kPassS (kPassB K x) 8) K) o (zFK (kPassT K x) (nI (kPassN (kPassB K x) 8)) f)) := by rw [eK9, eF9]; exact hD
      refine W.widen (k := 1) (n := 6) (Nat.le_of_ble_eq_true rfl) (Nat.le_of_ble_eq_true rfl) ?_
      exact W.iret (v := nI 1) hx hb hr (fun t ht hW => ⟨⟨nI 1, (), rfl, eR9, by rw [ht]; exact hP9, va_K.moved hW.alike hK, hD9⟩, hS.F ht⟩) hS.2.2 dL_pass_14
    · skip
      have hE8 : E = "java/lang/IllegalStateException" := by rw [hE9, h9, zN_3]
      subst hE8
      refine vx_catch (own := RL) (name := "java/lang/IllegalStateException") hown [⟨0, 9, 12, 13⟩] ⟨0, 9, 15, 15⟩ [] (by rw [hTab]; rfl) (List.forall_mem_cons.mpr ⟨Or.inr ⟨by decide, "java/lang/IllegalArgumentException", (hts (.classLink RL 13 "java/lang/IllegalArgumentException") (List.mem_of_getElem? (i := 1) rfl)), hN.1⟩, (fun _ h => absurd h List.not_mem_nil)⟩) (by decide) (by decide) (hts (.classLink RL 15 "java/lang/IllegalStateException") (List.mem_of_getElem? (i := 2) rfl)) (va_Nw.use rfl (hE.1 (.castable "java/lang/IllegalStateException" "java/lang/IllegalStateException") (List.mem_of_getElem? (i := 41) rfl))) hce hcv hcl ?_
      refine lv_astore_n (lv' := [(3, .ref q9), (0, .ref (ad 0)), (1, .int x), (2, .ref o)]) hx hb dL_pass_15 rfl hl (by decide) rfl (fun ls hl => ?_)
      refine lv_iconst (v := nI 2) hx hb dL_pass_16 (by decide) ?_
      have eR9 : nI 2 = zPos (nI 0) (nI 1) (nI 2) (kPassT K x) := by rw [h9, zPos_3]
      have hP9 : va_P D vwCl (kwO ad cI cZ cJ (zEK (kPassT K x) (kPassS (kPassB K x) 8) K) o (zFK (kPassT K x) (nI (kPassN (kPassB K x) 8)) f)) H := by rw [eK9, eF9]; exact hP
      have hD9 : va_D A (kwO ad cI cZ cJ (zEK (kPassT K x) (kPassS (kPassB K x) 8) K) o (zFK (kPassT K x) (nI (kPassN (kPassB K x) 8)) f)) := by rw [eK9, eF9]; exact hD
      refine W.widen (k := 1) (n := 6) (Nat.le_of_ble_eq_true rfl) (Nat.le_of_ble_eq_true rfl) ?_
      exact W.iret (v := nI 2) hx hb hr (fun t ht hW => ⟨⟨nI 2, (), rfl, eR9, by rw [ht]; exact hP9, va_K.moved hW.alike hK, hD9⟩, hS.F ht⟩) hS.2.2 dL_pass_17
  · skip
    have hP := hP.sub (ws' := (kwO ad cI cZ cJ (kPassS (kPassB K x) 8) o f)) [1, 2, 3, 4, 5, 6, 7, 8, 9, 10, 11, 12, 13, 14, 15, 16, 17, 18, 19, 20, 21, 22, 23, 24, 25, 26, 0] rfl
    have hD := hD.sub (ws' := (kwO ad cI cZ cJ (kPassS (kPassB K x) 8) o f)) [1, 2, 3, 4, 5, 6, 7, 8, 9, 10, 11, 12, 13, 14, 15, 16, 17, 18, 19, 20, 21, 22, 23, 24, 25, 26, 0] rfl rfl
    have hT : kPassT K x = nI 0 := hT
    have eK9 : zEK (kPassT K x) (kPassS (kPassB K x) 8) K = kPassS (kPassB K x) 8 := zEK_0 hT
    have eF9 : zFK (kPassT K x) (nI (kPassN (kPassB K x) 8)) f = vp_updL f 0 (nI (kPassN (kPassB K x) 8)).toInt64 := zFK_0 hT
    have eR9 : nI 0 = zPos (nI 0) (nI 1) (nI 2) (kPassT K x) := by rw [hT, zPos_0]
    refine lv_i2l (v := (nI (kPassN (kPassB K x) 8)).toInt64) hx hb dL_pass_7 rfl ?_
    refine va_last hx hb hK hP hD hS 26 2 rfl rfl (i := nI 0) (vp_in_nI (by decide) (by decide)) dL_pass_8 (fun H locs hP hD hS => ?_)
    have hP : va_P D vwCl (kwO ad cI cZ cJ (zEK (kPassT K x) (kPassS (kPassB K x) 8) K) o (zFK (kPassT K x) (nI (kPassN (kPassB K x) 8)) f)) H := by rw [eK9, eF9]; exact hP
    have hD : va_D A (kwO ad cI cZ cJ (zEK (kPassT K x) (kPassS (kPassB K x) 8) K) o (zFK (kPassT K x) (nI (kPassN (kPassB K x) 8)) f)) := by rw [eK9, eF9]; exact hD
    refine lv_goto (tgt := 18) hx hb dL_pass_9 (by decide) ?_
    refine lv_iconst (v := nI 0) hx hb dL_pass_18 (by decide) ?_
    refine W.widen (k := 1) (n := 6) (Nat.le_of_ble_eq_true rfl) (Nat.le_of_ble_eq_true rfl) ?_
    exact W.iret (v := nI 0) hx hb hr (fun t ht hW => ⟨⟨nI 0, (), rfl, eR9, by rw [ht]; exact hP, va_K.moved hW.alike hK, hD⟩, hS.F ht⟩) hS.2.2 dL_pass_19
set_option maxHeartbeats 4000000 in
set_option maxRecDepth 100000 in
theorem kL_setOpening (l : Launch) (hl9 : l.stackTraces = false) (D : va_G) (cI cZ cJ : ClassId) (ad : Nat → Nat) (K : kS) (o : Nat) (f : Nat → Int64) (sz : Nat) (x : Int32)   : zMh l yL_setOpening wsL_setOpening ({ frames := 7, cells := 1, slots := 6, locals := 104 }) [.ref (ad 0), .int x, .ref o] D (zTj cI cZ cJ) (kwO ad cI cZ cJ K o f) (kwO ad cI cZ cJ (zEK (kSetT x) (kSetE K x) K) o (zFK (kSetT x) (K 0 1) f)) sz (zPos (nI 0) (nI 1) (nI 0) (kSetT x)) 1 6 := by
  refine va_MetW (cc := cL_setOpening) (maxL := 4) (ret := (some .int)) (hh := [(0, 9, 12, 13)]) (by decide) rfl ?_
  intro pP e s m args below meth c s₁ B hml hv
  obtain ⟨rfl, hsz, hP, hK, hD0, hE0, hN⟩ := hv
  have hx := B.exec
  have hb := B.bytes
  have hr := B.returns
  have hts := atoms_spec (ws := wsL_setOpening) B.pre
  have hTab := vx_table (x := yL_setOpening) B (hts (.codeWith yL_setOpening cL_setOpening 4 (some .int) [(0, 9, 12, 13)]) (List.mem_of_getElem? (i := 0) rfl))
  have hown : s.vm.findClass RL = some m.cls := findClass_of_methodNamed B.named
  subst hsz
  have hD := hD0.self (sz := s.heap.size)
  generalize hAe : va_A (kwO ad cI cZ cJ K o f) s.heap.size = A at hD hE0 ⊢
  have hE := hE0
  have hA : ∀ q : Nat, s.heap.size ≤ q → A q := fun q h => by rw [← hAe]; exact Or.inr h
  have hS : va_S A s.heap s.heap [] := va_S.rf
  have hK2 : va_K D vwCl (zTy cI cZ) s := hK.sub [0, 1] rfl
  have hl := lv_entry ([.ref (ad 0), .int x, .ref o]) (n := 4) (Nat.le_of_ble_eq_true rfl)
  rw [lg_entry_eq]
  generalize (lg_sl ([.ref (ad 0), .int x, .ref o]) ++ List.replicate (4 - (lg_sl ([.ref (ad 0), .int x, .ref o])).length) Slot.unset).toArray = ls at hl ⊢
  have hl : lv_has ls 4 [(0, .ref (ad 0)), (1, .int x), (2, .ref o)] := hl
  refine lv_aload_n hx hb dL_setOpening_0 rfl (lv_at hl 2 rfl) ?_
  refine lv_iconst (v := nI 0) hx hb dL_setOpening_1 (by decide) ?_
  refine lv_aload_n hx hb dL_setOpening_2 rfl (lv_at hl 0 rfl) ?_
  refine lv_iload_n hx hb dL_setOpening_3 rfl (lv_at hl 1 rfl) ?_
  refine zx_Vi (As := [.int x]) (rest := [.int (nI 0), .ref o]) (wr := [(o, .inl (cJ, 1, .inr (.inl f)))]) ⟨hx, hb, hml, hown, hts⟩ (kX5_setOpening l hl9 D cI cZ ad K _ x  ) (cwV 1 hts gL_setOpening_X5_setOpening rfl rfl rfl (by decide +kernel) ⟨(Nat.le_of_ble_eq_true rfl), (Nat.le_of_ble_eq_true rfl)⟩) hK2 hP hD hS hA hE [0, 1, 2, 3, 4, 5, 6, 7, 8, 9, 10, 11, 12, 13, 14, 15, 16, 17, 18, 19, 20, 21, 22, 23, 24, 25] [26] rfl rfl rfl rfl rfl (by decide) (ci := 5) (q0 := 0) rfl rfl rfl rfl hl.1 rfl (Nat.le_of_ble_eq_true rfl) dL_setOpening_4 ⟨(Nat.le_of_ble_eq_true rfl), (Nat.le_of_ble_eq_true rfl)⟩ (fun E ce q9 H locs h0 hE9 hP hD hS hce hcv hcl => ?_) (fun hT H locs hP hD hS => ?_)
  · skip
    have hP := hP.sub (ws' := (kwO ad cI cZ cJ K o f)) [1, 2, 3, 4, 5, 6, 7, 8, 9, 10, 11, 12, 13, 14, 15, 16, 17, 18, 19, 20, 21, 22, 23, 24, 25, 26, 0] rfl
    have hD := hD.sub (ws' := (kwO ad cI cZ cJ K o f)) [1, 2, 3, 4, 5, 6, 7, 8, 9, 10, 11, 12, 13, 14, 15, 16, 17, 18, 19, 20, 21, 22, 23, 24, 25, 26, 0] rfl rfl
    have h0 : ¬ kSetT x = nI 0 := h0
    have hE9 : E = zN (kSetT x) := hE9
    have eK9 : zEK (kSetT x) (kSetE K x) K = K := zEK_n h0
    have eF9 : zFK (kSetT x) (K 0 1) f = f := zFK_n h0
    have hr9 : zRng false true false (kSetT x) := kSetT_r
    rcases hr9.resolve_left h0 with ⟨h8, h9⟩ | ⟨h8, h9⟩ | ⟨h8, h9⟩
    · skip
      exact nomatch h8
    · skip
      have hE8 : E = "java/lang/IllegalArgumentException" := by rw [hE9, h9, zN_2]
      subst hE8
      refine vx_catch (own := RL) (name := "java/lang/IllegalArgumentException") hown [] ⟨0, 9, 12, 13⟩ [] (by rw [hTab]; rfl) (fun _ h => absurd h List.not_mem_nil) (by decide) (by decide) (hts (.classLink RL 13 "java/lang/IllegalArgumentException") (List.mem_of_getElem? (i := 1) rfl)) (va_Nw.use rfl (hE.1 (.castable "java/lang/IllegalArgumentException" "java/lang/IllegalArgumentException") (List.mem_of_getElem? (i := 40) rfl))) hce hcv hcl ?_
      refine lv_astore_n (lv' := [(3, .ref q9), (0, .ref (ad 0)), (1, .int x), (2, .ref o)]) hx hb dL_setOpening_12 rfl hl (by decide) rfl (fun ls hl => ?_)
      refine lv_iconst (v := nI 1) hx hb dL_setOpening_13 (by decide) ?_
      have eR9 : nI 1 = zPos (nI 0) (nI 1) (nI 0) (kSetT x) := by rw [h9, zPos_2]
      have hP9 : va_P D vwCl (kwO ad cI cZ cJ (zEK (kSetT x) (kSetE K x) K) o (zFK (kSetT x) (K 0 1) f)) H := by rw [eK9, eF9]; exact hP
      have hD9 : va_D A (kwO ad cI cZ cJ (zEK (kSetT x) (kSetE K x) K) o (zFK (kSetT x) (K 0 1) f)) := by rw [eK9, eF9]; exact hD
      refine W.widen (k := 1) (n := 6) (Nat.le_of_ble_eq_true rfl) (Nat.le_of_ble_eq_true rfl) ?_
      exact W.iret (v := nI 1) hx hb hr (fun t ht hW => ⟨⟨nI 1, (), rfl, eR9, by rw [ht]; exact hP9, va_K.moved hW.alike hK, hD9⟩, hS.F ht⟩) hS.2.2 dL_setOpening_14
    · skip
      exact nomatch h8
  · skip
    have hP := hP.sub (ws' := (kwO ad cI cZ cJ (kSetE K x) o f)) [1, 2, 3, 4, 5, 6, 7, 8, 9, 10, 11, 12, 13, 14, 15, 16, 17, 18, 19, 20, 21, 22, 23, 24, 25, 26, 0] rfl
    have hD := hD.sub (ws' := (kwO ad cI cZ cJ (kSetE K x) o f)) [1, 2, 3, 4, 5, 6, 7, 8, 9, 10, 11, 12, 13, 14, 15, 16, 17, 18, 19, 20, 21, 22, 23, 24, 25, 26, 0] rfl rfl
    have hT : kSetT x = nI 0 := hT
    have eK9 : zEK (kSetT x) (kSetE K x) K = kSetE K x := zEK_0 hT
    have eF9 : zFK (kSetT x) (K 0 1) f = vp_updL f 0 (K 0 1).toInt64 := zFK_0 hT
    have eR9 : nI 0 = zPos (nI 0) (nI 1) (nI 0) (kSetT x) := by rw [hT, zPos_0]
    refine lv_i2l (v := (K 0 1).toInt64) hx hb dL_setOpening_7 rfl ?_
    refine va_last hx hb hK hP hD hS 26 2 rfl rfl (i := nI 0) (vp_in_nI (by decide) (by decide)) dL_setOpening_8 (fun H locs hP hD hS => ?_)
    have hP : va_P D vwCl (kwO ad cI cZ cJ (zEK (kSetT x) (kSetE K x) K) o (zFK (kSetT x) (K 0 1) f)) H := by rw [eK9, eF9]; exact hP
    have hD : va_D A (kwO ad cI cZ cJ (zEK (kSetT x) (kSetE K x) K) o (zFK (kSetT x) (K 0 1) f)) := by rw [eK9, eF9]; exact hD
    refine lv_goto (tgt := 15) hx hb dL_setOpening_9 (by decide) ?_
    refine lv_iconst (v := nI 0) hx hb dL_setOpening_15 (by decide) ?_
    refine W.widen (k := 1) (n := 6) (Nat.le_of_ble_eq_true rfl) (Nat.le_of_ble_eq_true rfl) ?_
    exact W.iret (v := nI 0) hx hb hr (fun t ht hW => ⟨⟨nI 0, (), rfl, eR9, by rw [ht]; exact hP, va_K.moved hW.alike hK, hD⟩, hS.F ht⟩) hS.2.2 dL_setOpening_16
set_option maxHeartbeats 4000000 in
set_option maxRecDepth 100000 in
theorem kL_code (l : Launch) (hl9 : l.stackTraces = false) (D : va_G) (cI cZ cJ : ClassId) (ad : Nat → Nat) (K : kS) (o : Nat) (f : Nat → Int64) (sz : Nat) (a1 : Int32) (b1 : Int32) (n9 : Nat) (hn9 : n9 ≤ 10) (hc8 : K 2 0 = nI n9) : zMh l yL_code wsL_code ({ frames := 7, cells := 1, slots := 6, locals := 104 }) [.ref (ad 0), .int a1, .int b1, .ref o] D (zTj cI cZ cJ) (kwO ad cI cZ cJ K o f) (kwO ad cI cZ cJ (zEK (kCodeT K a1 b1) (kCode K n9 a1 b1) K) o (zFK (kCodeT K a1 b1) (nI n9) f)) sz (zPos (nI 0) (nI 1) (nI 2) (kCodeT K a1 b1)) 1 6 := by
  refine va_MetW (cc := cL_code) (maxL := 5) (ret := (some .int)) (hh := [(0, 10, 13, 13), (0, 10, 17, 15)]) (by decide) rfl ?_
  intro pP e s m args below meth c s₁ B hml hv
  obtain ⟨rfl, hsz, hP, hK, hD0, hE0, hN⟩ := hv
  have hx := B.exec
  have hb := B.bytes
  have hr := B.returns
  have hts := atoms_spec (ws := wsL_code) B.pre
  have hTab := vx_table (x := yL_code) B (hts (.codeWith yL_code cL_code 5 (some .int) [(0, 10, 13, 13), (0, 10, 17, 15)]) (List.mem_of_getElem? (i := 0) rfl))
  have hown : s.vm.findClass RL = some m.cls := findClass_of_methodNamed B.named
  subst hsz
  have hD := hD0.self (sz := s.heap.size)
  generalize hAe : va_A (kwO ad cI cZ cJ K o f) s.heap.size = A at hD hE0 ⊢
  have hE := hE0
  have hA : ∀ q : Nat, s.heap.size ≤ q → A q := fun q h => by rw [← hAe]; exact Or.inr h
  have hS : va_S A s.heap s.heap [] := va_S.rf
  have hK2 : va_K D vwCl (zTy cI cZ) s := hK.sub [0, 1] rfl
  have hl := lv_entry ([.ref (ad 0), .int a1, .int b1, .ref o]) (n := 5) (Nat.le_of_ble_eq_true rfl)
  rw [lg_entry_eq]
  generalize (lg_sl ([.ref (ad 0), .int a1, .int b1, .ref o]) ++ List.replicate (5 - (lg_sl ([.ref (ad 0), .int a1, .int b1, .ref o])).length) Slot.unset).toArray = ls at hl ⊢
  have hl : lv_has ls 5 [(0, .ref (ad 0)), (1, .int a1), (2, .int b1), (3, .ref o)] := hl
  refine lv_aload_n hx hb dL_code_0 rfl (lv_at hl 3 rfl) ?_
  refine lv_iconst (v := nI 0) hx hb dL_code_1 (by decide) ?_
  refine lv_aload_n hx hb dL_code_2 rfl (lv_at hl 0 rfl) ?_
  refine lv_iload_n hx hb dL_code_3 rfl (lv_at hl 1 rfl) ?_
  refine lv_iload_n hx hb dL_code_4 rfl (lv_at hl 2 rfl) ?_
  refine zx_Vi (As := [.int a1, .int b1]) (rest := [.int (nI 0), .ref o]) (wr := [(o, .inl (cJ, 1, .inr (.inl f)))]) ⟨hx, hb, hml, hown, hts⟩ (kX5_code l hl9 D cI cZ ad K _ a1 b1 n9 hn9 hc8) (cwV 2 hts gL_code_X5_code rfl rfl rfl (by decide +kernel) ⟨(Nat.le_of_ble_eq_true rfl), (Nat.le_of_ble_eq_true rfl)⟩) hK2 hP hD hS hA hE [0, 1, 2, 3, 4, 5, 6, 7, 8, 9, 10, 11, 12, 13, 14, 15, 16, 17, 18, 19, 20, 21, 22, 23, 24, 25] [26] rfl rfl rfl rfl rfl (by decide) (ci := 5) (q0 := 0) rfl rfl rfl rfl hl.1 rfl (Nat.le_of_ble_eq_true rfl) dL_code_5 ⟨(Nat.le_of_ble_eq_true rfl), (Nat.le_of_ble_eq_true rfl)⟩ (fun E ce q9 H locs h0 hE9 hP hD hS hce hcv hcl => ?_) (fun hT H locs hP hD hS => ?_)
  · skip
    have hP := hP.sub (ws' := (kwO ad cI cZ cJ K o f)) [1, 2, 3, 4, 5, 6, 7, 8, 9, 10, 11, 12, 13, 14, 15, 16, 17, 18, 19, 20, 21, 22, 23, 24, 25, 26, 0] rfl
    have hD := hD.sub (ws' := (kwO ad cI cZ cJ K o f)) [1, 2, 3, 4, 5, 6, 7, 8, 9, 10, 11, 12, 13, 14, 15, 16, 17, 18, 19, 20, 21, 22, 23, 24, 25, 26, 0] rfl rfl
    have h0 : ¬ kCodeT K a1 b1 = nI 0 := h0
    have hE9 : E = zN (kCodeT K a1 b1) := hE9
    have eK9 : zEK (kCodeT K a1 b1) (kCode K n9 a1 b1) K = K := zEK_n h0
    have eF9 : zFK (kCodeT K a1 b1) (nI n9) f = f := zFK_n h0
    have hr9 : zRng false true true (kCodeT K a1 b1) := kCodeT_r
    rcases hr9.resolve_left h0 with ⟨h8, h9⟩ | ⟨h8, h9⟩ | ⟨h8, h9⟩
    · skip
      exact nomatch h8
    · skip
      have hE8 : E = "java/lang/IllegalArgumentException" := by rw [hE9, h9, zN_2]
      subst hE8
      refine vx_catch (own := RL) (name := "java/lang/IllegalArgumentException") hown [] ⟨0, 10, 13, 13⟩ [⟨0, 10, 17, 15⟩] (by rw [hTab]; rfl) (fun _ h => absurd h List.not_mem_nil) (by decide) (by decide) (hts (.classLink RL 13 "java/lang/IllegalArgumentException") (List.mem_of_getElem? (i := 1) rfl)) (va_Nw.use rfl (hE.1 (.castable "java/lang/IllegalArgumentException" "java/lang/IllegalArgumentException") (List.mem_of_getElem? (i := 40) rfl))) hce hcv hcl ?_
      refine lv_astore (lv' := [(4, .ref q9), (0, .ref (ad 0)), (1, .int a1), (2, .int b1), (3, .ref o)]) hx hb dL_code_13 hl (by decide) rfl (fun ls hl => ?_)
      refine lv_iconst (v := nI 1) hx hb dL_code_15 (by decide) ?_
      have eR9 : nI 1 = zPos (nI 0) (nI 1) (nI 2) (kCodeT K a1 b1) := by rw [h9, zPos_2]
      have hP9 : va_P D vwCl (kwO ad cI cZ cJ (zEK (kCodeT K a1 b1) (kCode K n9 a1 b1) K) o (zFK (kCodeT K a1 b1) (nI n9) f)) H := by rw [eK9, eF9]; exact hP
      have hD9 : va_D A (kwO ad cI cZ cJ (zEK (kCodeT K a1 b1) (kCode K n9 a1 b1) K) o (zFK (kCodeT K a1 b1) (nI n9) f)) := by rw [eK9, eF9]; exact hD
      refine W.widen (k := 1) (n := 6) (Nat.le_of_ble_eq_true rfl) (Nat.le_of_ble_eq_true rfl) ?_
      exact W.iret (v := nI 1) hx hb hr (fun t ht hW => ⟨⟨nI 1, (), rfl, eR9, by rw [ht]; exact hP9, va_K.moved hW.alike hK, hD9⟩, hS.F ht⟩) hS.2.2 dL_code_16
    · skip
      have hE8 : E = "java/lang/IllegalStateException" := by rw [hE9, h9, zN_3]
      subst hE8
      refine vx_catch (own := RL) (name := "java/lang/IllegalStateException") hown [⟨0, 10, 13, 13⟩] ⟨0, 10, 17, 15⟩ [] (by rw [hTab]; rfl) (List.forall_mem_cons.mpr ⟨Or.inr ⟨by decide, "java/lang/IllegalArgumentException", (hts (.classLink RL 13 "java/lang/IllegalArgumentException") (List.mem_of_getElem? (i := 1) rfl)), hN.1⟩, (fun _ h => absurd h List.not_mem_nil)⟩) (by decide) (by decide) (hts (.classLink RL 15 "java/lang/IllegalStateException") (List.mem_of_getElem? (i := 2) rfl)) (va_Nw.use rfl (hE.1 (.castable "java/lang/IllegalStateException" "java/lang/IllegalStateException") (List.mem_of_getElem? (i := 41) rfl))) hce hcv hcl ?_
      refine lv_astore (lv' := [(4, .ref q9), (0, .ref (ad 0)), (1, .int a1), (2, .int b1), (3, .ref o)]) hx hb dL_code_17 hl (by decide) rfl (fun ls hl => ?_)
      refine lv_iconst (v := nI 2) hx hb dL_code_19 (by decide) ?_
      have eR9 : nI 2 = zPos (nI 0) (nI 1) (nI 2) (kCodeT K a1 b1) := by rw [h9, zPos_3]
      have hP9 : va_P D vwCl (kwO ad cI cZ cJ (zEK (kCodeT K a1 b1) (kCode K n9 a1 b1) K) o (zFK (kCodeT K a1 b1) (nI n9) f)) H := by rw [eK9, eF9]; exact hP
      have hD9 : va_D A (kwO ad cI cZ cJ (zEK (kCodeT K a1 b1) (kCode K n9 a1 b1) K) o (zFK (kCodeT K a1 b1) (nI n9) f)) := by rw [eK9, eF9]; exact hD
      refine W.widen (k := 1) (n := 6) (Nat.le_of_ble_eq_true rfl) (Nat.le_of_ble_eq_true rfl) ?_
      exact W.iret (v := nI 2) hx hb hr (fun t ht hW => ⟨⟨nI 2, (), rfl, eR9, by rw [ht]; exact hP9, va_K.moved hW.alike hK, hD9⟩, hS.F ht⟩) hS.2.2 dL_code_20
  · skip
    have hP := hP.sub (ws' := (kwO ad cI cZ cJ (kCode K n9 a1 b1) o f)) [1, 2, 3, 4, 5, 6, 7, 8, 9, 10, 11, 12, 13, 14, 15, 16, 17, 18, 19, 20, 21, 22, 23, 24, 25, 26, 0] rfl
    have hD := hD.sub (ws' := (kwO ad cI cZ cJ (kCode K n9 a1 b1) o f)) [1, 2, 3, 4, 5, 6, 7, 8, 9, 10, 11, 12, 13, 14, 15, 16, 17, 18, 19, 20, 21, 22, 23, 24, 25, 26, 0] rfl rfl
    have hT : kCodeT K a1 b1 = nI 0 := hT
    have eK9 : zEK (kCodeT K a1 b1) (kCode K n9 a1 b1) K = kCode K n9 a1 b1 := zEK_0 hT
    have eF9 : zFK (kCodeT K a1 b1) (nI n9) f = vp_updL f 0 (nI n9).toInt64 := zFK_0 hT
    have eR9 : nI 0 = zPos (nI 0) (nI 1) (nI 2) (kCodeT K a1 b1) := by rw [hT, zPos_0]
    refine lv_i2l (v := (nI n9).toInt64) hx hb dL_code_8 rfl ?_
    refine va_last hx hb hK hP hD hS 26 2 rfl rfl (i := nI 0) (vp_in_nI (by decide) (by decide)) dL_code_9 (fun H locs hP hD hS => ?_)
    have hP : va_P D vwCl (kwO ad cI cZ cJ (zEK (kCodeT K a1 b1) (kCode K n9 a1 b1) K) o (zFK (kCodeT K a1 b1) (nI n9) f)) H := by rw [eK9, eF9]; exact hP
    have hD : va_D A (kwO ad cI cZ cJ (zEK (kCodeT K a1 b1) (kCode K n9 a1 b1) K) o (zFK (kCodeT K a1 b1) (nI n9) f)) := by rw [eK9, eF9]; exact hD
    refine lv_goto (tgt := 21) hx hb dL_code_10 (by decide) ?_
    refine lv_iconst (v := nI 0) hx hb dL_code_21 (by decide) ?_
    refine W.widen (k := 1) (n := 6) (Nat.le_of_ble_eq_true rfl) (Nat.le_of_ble_eq_true rfl) ?_
    exact W.iret (v := nI 0) hx hb hr (fun t ht hW => ⟨⟨nI 0, (), rfl, eR9, by rw [ht]; exact hP, va_K.moved hW.alike hK, hD⟩, hS.F ht⟩) hS.2.2 dL_code_22
set_option maxHeartbeats 4000000 in
set_option maxRecDepth 100000 in
theorem kL_used (l : Launch) (hl9 : l.stackTraces = false) (D : va_G) (cI cZ cJ : ClassId) (ad : Nat → Nat) (K : kS) (o : Nat) (f : Nat → Int64) (sz : Nat) (c1 : Int32) (x : Int32) (n9 : Nat) (hn9 : n9 ≤ 10) (hc8 : K 2 0 = nI n9) : zMh l yL_used wsL_used ({ frames := 8, cells := 2, slots := 12, locals := 125 }) [.ref (ad 0), .int c1, .int x, .ref o] D (zTj cI cZ cJ) (kwO ad cI cZ cJ K o f) (kwO ad cI cZ cJ (zEK (kUsedT K c1 x) (K) K) o (zFK (kUsedT K c1 x) (cOf K c1.toNatClampNeg x.toNatClampNeg) f)) sz (zPos (nI 1) (nI 0) (nI 0) (kUsedT K c1 x)) 2 12 := by
  refine va_MetW (cc := cL_used) (maxL := 5) (ret := (some .int)) (hh := [(0, 10, 13, 27)]) (by decide) rfl ?_
  intro pP e s m args below meth c s₁ B hml hv
  obtain ⟨rfl, hsz, hP, hK, hD0, hE0, hN⟩ := hv
  have hx := B.exec
  have hb := B.bytes
  have hr := B.returns
  have hts := atoms_spec (ws := wsL_used) B.pre
  have hTab := vx_table (x := yL_used) B (hts (.codeWith yL_used cL_used 5 (some .int) [(0, 10, 13, 27)]) (List.mem_of_getElem? (i := 0) rfl))
  have hown : s.vm.findClass RL = some m.cls := findClass_of_methodNamed B.named
  subst hsz
  have hD := hD0.self (sz := s.heap.size)
  generalize hAe : va_A (kwO ad cI cZ cJ K o f) s.heap.size = A at hD hE0 ⊢
  have hE := hE0
  have hA : ∀ q : Nat, s.heap.size ≤ q → A q := fun q h => by rw [← hAe]; exact Or.inr h
  have hS : va_S A s.heap s.heap [] := va_S.rf
  have hK2 : va_K D vwCl (zTy cI cZ) s := hK.sub [0, 1] rfl
  have hl := lv_entry ([.ref (ad 0), .int c1, .int x, .ref o]) (n := 5) (Nat.le_of_ble_eq_true rfl)
  rw [lg_entry_eq]
  generalize (lg_sl ([.ref (ad 0), .int c1, .int x, .ref o]) ++ List.replicate (5 - (lg_sl ([.ref (ad 0), .int c1, .int x, .ref o])).length) Slot.unset).toArray = ls at hl ⊢
  have hl : lv_has ls 5 [(0, .ref (ad 0)), (1, .int c1), (2, .int x), (3, .ref o)] := hl
  refine lv_aload_n hx hb dL_used_0 rfl (lv_at hl 3 rfl) ?_
  refine lv_iconst (v := nI 0) hx hb dL_used_1 (by decide) ?_
  refine lv_aload_n hx hb dL_used_2 rfl (lv_at hl 0 rfl) ?_
  refine lv_iload_n hx hb dL_used_3 rfl (lv_at hl 1 rfl) ?_
  refine lv_iload_n hx hb dL_used_4 rfl (lv_at hl 2 rfl) ?_
  refine zx_Vi (As := [.int c1, .int x]) (rest := [.int (nI 0), .ref o]) (wr := [(o, .inl (cJ, 1, .inr (.inl f)))]) ⟨hx, hb, hml, hown, hts⟩ (kX5_used l hl9 D cI cZ ad K _ c1 x n9 hn9 hc8) (cwV 2 hts gL_used_X5_used rfl rfl rfl (by decide +kernel) ⟨(Nat.le_of_ble_eq_true rfl), (Nat.le_of_ble_eq_true rfl)⟩) hK2 hP hD hS hA hE [0, 1, 2, 3, 4, 5, 6, 7, 8, 9, 10, 11, 12, 13, 14, 15, 16, 17, 18, 19, 20, 21, 22, 23, 24, 25] [26] rfl rfl rfl rfl rfl (by decide) (ci := 5) (q0 := 0) rfl rfl rfl rfl hl.1 rfl (Nat.le_of_ble_eq_true rfl) dL_used_5 ⟨(Nat.le_of_ble_eq_true rfl), (Nat.le_of_ble_eq_true rfl)⟩ (fun E ce q9 H locs h0 hE9 hP hD hS hce hcv hcl => ?_) (fun hT H locs hP hD hS => ?_)
  · skip
    have hP := hP.sub (ws' := (kwO ad cI cZ cJ K o f)) [1, 2, 3, 4, 5, 6, 7, 8, 9, 10, 11, 12, 13, 14, 15, 16, 17, 18, 19, 20, 21, 22, 23, 24, 25, 26, 0] rfl
    have hD := hD.sub (ws' := (kwO ad cI cZ cJ K o f)) [1, 2, 3, 4, 5, 6, 7, 8, 9, 10, 11, 12, 13, 14, 15, 16, 17, 18, 19, 20, 21, 22, 23, 24, 25, 26, 0] rfl rfl
    have h0 : ¬ kUsedT K c1 x = nI 0 := h0
    have hE9 : E = zN (kUsedT K c1 x) := hE9
    have eK9 : zEK (kUsedT K c1 x) (K) K = K := zEK_n h0
    have eF9 : zFK (kUsedT K c1 x) (cOf K c1.toNatClampNeg x.toNatClampNeg) f = f := zFK_n h0
    have hr9 : zRng true false false (kUsedT K c1 x) := kUsedT_r
    rcases hr9.resolve_left h0 with ⟨h8, h9⟩ | ⟨h8, h9⟩ | ⟨h8, h9⟩
    · skip
      have hE8 : E = "java/lang/IndexOutOfBoundsException" := by rw [hE9, h9, zN_1]
      subst hE8
      refine vx_catch (own := RL) (name := "java/lang/IndexOutOfBoundsException") hown [] ⟨0, 10, 13, 27⟩ [] (by rw [hTab]; rfl) (fun _ h => absurd h List.not_mem_nil) (by decide) (by decide) (hts (.classLink RL 27 "java/lang/IndexOutOfBoundsException") (List.mem_of_getElem? (i := 1) rfl)) (va_Nw.use rfl (hE.1 (.castable "java/lang/IndexOutOfBoundsException" "java/lang/IndexOutOfBoundsException") (List.mem_of_getElem? (i := 39) rfl))) hce hcv hcl ?_
      refine lv_astore (lv' := [(4, .ref q9), (0, .ref (ad 0)), (1, .int c1), (2, .int x), (3, .ref o)]) hx hb dL_used_13 hl (by decide) rfl (fun ls hl => ?_)
      refine lv_iconst (v := nI 1) hx hb dL_used_15 (by decide) ?_
      have eR9 : nI 1 = zPos (nI 1) (nI 0) (nI 0) (kUsedT K c1 x) := by rw [h9, zPos_1]
      have hP9 : va_P D vwCl (kwO ad cI cZ cJ (zEK (kUsedT K c1 x) (K) K) o (zFK (kUsedT K c1 x) (cOf K c1.toNatClampNeg x.toNatClampNeg) f)) H := by rw [eK9, eF9]; exact hP
      have hD9 : va_D A (kwO ad cI cZ cJ (zEK (kUsedT K c1 x) (K) K) o (zFK (kUsedT K c1 x) (cOf K c1.toNatClampNeg x.toNatClampNeg) f)) := by rw [eK9, eF9]; exact hD
      refine W.widen (k := 2) (n := 12) (Nat.le_of_ble_eq_true rfl) (Nat.le_of_ble_eq_true rfl) ?_
      exact W.iret (v := nI 1) hx hb hr (fun t ht hW => ⟨⟨nI 1, (), rfl, eR9, by rw [ht]; exact hP9, va_K.moved hW.alike hK, hD9⟩, hS.F ht⟩) hS.2.2 dL_used_16
    · skip
      exact nomatch h8
    · skip
      exact nomatch h8
  · skip
    have hP := hP.sub (ws' := (kwO ad cI cZ cJ (K) o f)) [1, 2, 3, 4, 5, 6, 7, 8, 9, 10, 11, 12, 13, 14, 15, 16, 17, 18, 19, 20, 21, 22, 23, 24, 25, 26, 0] rfl
    have hD := hD.sub (ws' := (kwO ad cI cZ cJ (K) o f)) [1, 2, 3, 4, 5, 6, 7, 8, 9, 10, 11, 12, 13, 14, 15, 16, 17, 18, 19, 20, 21, 22, 23, 24, 25, 26, 0] rfl rfl
    have hT : kUsedT K c1 x = nI 0 := hT
    have eK9 : zEK (kUsedT K c1 x) (K) K = K := zEK_0 hT
    have eF9 : zFK (kUsedT K c1 x) (cOf K c1.toNatClampNeg x.toNatClampNeg) f = vp_updL f 0 (cOf K c1.toNatClampNeg x.toNatClampNeg).toInt64 := zFK_0 hT
    have eR9 : nI 0 = zPos (nI 1) (nI 0) (nI 0) (kUsedT K c1 x) := by rw [hT, zPos_0]
    refine lv_i2l (v := (cOf K c1.toNatClampNeg x.toNatClampNeg).toInt64) hx hb dL_used_8 rfl ?_
    refine va_last hx hb hK hP hD hS 26 2 rfl rfl (i := nI 0) (vp_in_nI (by decide) (by decide)) dL_used_9 (fun H locs hP hD hS => ?_)
    have hP : va_P D vwCl (kwO ad cI cZ cJ (zEK (kUsedT K c1 x) (K) K) o (zFK (kUsedT K c1 x) (cOf K c1.toNatClampNeg x.toNatClampNeg) f)) H := by rw [eK9, eF9]; exact hP
    have hD : va_D A (kwO ad cI cZ cJ (zEK (kUsedT K c1 x) (K) K) o (zFK (kUsedT K c1 x) (cOf K c1.toNatClampNeg x.toNatClampNeg) f)) := by rw [eK9, eF9]; exact hD
    refine lv_goto (tgt := 17) hx hb dL_used_10 (by decide) ?_
    refine lv_iconst (v := nI 0) hx hb dL_used_17 (by decide) ?_
    refine W.widen (k := 2) (n := 12) (Nat.le_of_ble_eq_true rfl) (Nat.le_of_ble_eq_true rfl) ?_
    exact W.iret (v := nI 0) hx hb hr (fun t ht hW => ⟨⟨nI 0, (), rfl, eR9, by rw [ht]; exact hP, va_K.moved hW.alike hK, hD⟩, hS.F ht⟩) hS.2.2 dL_used_18
set_option maxHeartbeats 4000000 in
set_option maxRecDepth 100000 in
theorem kL_join (l : Launch) (hl9 : l.stackTraces = false) (D : va_G) (cI cZ cJ : ClassId) (ad : Nat → Nat) (K : kS) (o : Nat) (f : Nat → Int64) (sz : Nat) (x : Int32)   : zMh l yL_join wsL_join ({ frames := 8, cells := 2, slots := 12, locals := 123 }) [.ref (ad 0), .int x, .ref o] D (zTj cI cZ cJ) (kwO ad cI cZ cJ K o f) (kwO ad cI cZ cJ (zEK (kJoinT K x) (kEnter K x.toNatClampNeg (K 0 0)) K) o (zFK (kJoinT K x) (nI (lLen (kEnter K x.toNatClampNeg (K 0 0)))) f)) sz (zPos (nI 1) (nI 0) (nI 2) (kJoinT K x)) 2 12 := by
  refine va_MetW (cc := cL_join) (maxL := 4) (ret := (some .int)) (hh := [(0, 9, 12, 27), (0, 9, 15, 15)]) (by decide) rfl ?_
  intro pP e s m args below meth c s₁ B hml hv
  obtain ⟨rfl, hsz, hP, hK, hD0, hE0, hN⟩ := hv
  have hx := B.exec
  have hb := B.bytes
  have hr := B.returns
  have hts := atoms_spec (ws := wsL_join) B.pre
  have hTab := vx_table (x := yL_join) B (hts (.codeWith yL_join cL_join 4 (some .int) [(0, 9, 12, 27), (0, 9, 15, 15)]) (List.mem_of_getElem? (i := 0) rfl))
  have hown : s.vm.findClass RL = some m.cls := findClass_of_methodNamed B.named
  subst hsz
  have hD := hD0.self (sz := s.heap.size)
  generalize hAe : va_A (kwO ad cI cZ cJ K o f) s.heap.size = A at hD hE0 ⊢
  have hE := hE0
  have hA : ∀ q : Nat, s.heap.size ≤ q → A q := fun q h => by rw [← hAe]; exact Or.inr h
  have hS : va_S A s.heap s.heap [] := va_S.rf
  have hK2 : va_K D vwCl (zTy cI cZ) s := hK.sub [0, 1] rfl
  have hl := lv_entry ([.ref (ad 0), .int x, .ref o]) (n := 4) (Nat.le_of_ble_eq_true rfl)
  rw [lg_entry_eq]
  generalize (lg_sl ([.ref (ad 0), .int x, .ref o]) ++ List.replicate (4 - (lg_sl ([.ref (ad 0), .int x, .ref o])).length) Slot.unset).toArray = ls at hl ⊢
  have hl : lv_has ls 4 [(0, .ref (ad 0)), (1, .int x), (2, .ref o)] := hl
  refine lv_aload_n hx hb dL_join_0 rfl (lv_at hl 2 rfl) ?_
  refine lv_iconst (v := nI 0) hx hb dL_join_1 (by decide) ?_
  refine lv_aload_n hx hb dL_join_2 rfl (lv_at hl 0 rfl) ?_
  refine lv_iload_n hx hb dL_join_3 rfl (lv_at hl 1 rfl) ?_
  refine zx_Vi (As := [.int x]) (rest := [.int (nI 0), .ref o]) (wr := [(o, .inl (cJ, 1, .inr (.inl f)))]) ⟨hx, hb, hml, hown, hts⟩ (kX5_join l hl9 D cI cZ ad K _ x  ) (cwV 1 hts gL_join_X5_join rfl rfl rfl (by decide +kernel) ⟨(Nat.le_of_ble_eq_true rfl), (Nat.le_of_ble_eq_true rfl)⟩) hK2 hP hD hS hA hE [0, 1, 2, 3, 4, 5, 6, 7, 8, 9, 10, 11, 12, 13, 14, 15, 16, 17, 18, 19, 20, 21, 22, 23, 24, 25] [26] rfl rfl rfl rfl rfl (by decide) (ci := 5) (q0 := 0) rfl rfl rfl rfl hl.1 rfl (Nat.le_of_ble_eq_true rfl) dL_join_4 ⟨(Nat.le_of_ble_eq_true rfl), (Nat.le_of_ble_eq_true rfl)⟩ (fun E ce q9 H locs h0 hE9 hP hD hS hce hcv hcl => ?_) (fun hT H locs hP hD hS => ?_)
  · skip
    have hP := hP.sub (ws' := (kwO ad cI cZ cJ K o f)) [1, 2, 3, 4, 5, 6, 7, 8, 9, 10, 11, 12, 13, 14, 15, 16, 17, 18, 19, 20, 21, 22, 23, 24, 25, 26, 0] rfl
    have hD := hD.sub (ws' := (kwO ad cI cZ cJ K o f)) [1, 2, 3, 4, 5, 6, 7, 8, 9, 10, 11, 12, 13, 14, 15, 16, 17, 18, 19, 20, 21, 22, 23, 24, 25, 26, 0] rfl rfl
    have h0 : ¬ kJoinT K x = nI 0 := h0
    have hE9 : E = zN (kJoinT K x) := hE9
    have eK9 : zEK (kJoinT K x) (kEnter K x.toNatClampNeg (K 0 0)) K = K := zEK_n h0
    have eF9 : zFK (kJoinT K x) (nI (lLen (kEnter K x.toNatClampNeg (K 0 0)))) f = f := zFK_n h0
    have hr9 : zRng true false true (kJoinT K x) := kJoinT_r
    rcases hr9.resolve_left h0 with ⟨h8, h9⟩ | ⟨h8, h9⟩ | ⟨h8, h9⟩
    · skip
      have hE8 : E = "java/lang/IndexOutOfBoundsException" := by rw [hE9, h9, zN_1]
      subst hE8
      refine vx_catch (own := RL) (name := "java/lang/IndexOutOfBoundsException") hown [] ⟨0, 9, 12, 27⟩ [⟨0, 9, 15, 15⟩] (by rw [hTab]; rfl) (fun _ h => absurd h List.not_mem_nil) (by decide) (by decide) (hts (.classLink RL 27 "java/lang/IndexOutOfBoundsException") (List.mem_of_getElem? (i := 1) rfl)) (va_Nw.use rfl (hE.1 (.castable "java/lang/IndexOutOfBoundsException" "java/lang/IndexOutOfBoundsException") (List.mem_of_getElem? (i := 39) rfl))) hce hcv hcl ?_
      refine lv_astore_n (lv' := [(3, .ref q9), (0, .ref (ad 0)), (1, .int x), (2, .ref o)]) hx hb dL_join_12 rfl hl (by decide) rfl (fun ls hl => ?_)
      refine lv_iconst (v := nI 1) hx hb dL_join_13 (by decide) ?_
      have eR9 : nI 1 = zPos (nI 1) (nI 0) (nI 2) (kJoinT K x) := by rw [h9, zPos_1]
      have hP9 : va_P D vwCl (kwO ad cI cZ cJ (zEK (kJoinT K x) (kEnter K x.toNatClampNeg (K 0 0)) K) o (zFK (kJoinT K x) (nI (lLen (kEnter K x.toNatClampNeg (K 0 0)))) f)) H := by rw [eK9, eF9]; exact hP
      have hD9 : va_D A (kwO ad cI cZ cJ (zEK (kJoinT K x) (kEnter K x.toNatClampNeg (K 0 0)) K) o (zFK (kJoinT K x) (nI (lLen (kEnter K x.toNatClampNeg (K 0 0)))) f)) := by rw [eK9, eF9]; exact hD
      refine W.widen (k := 2) (n := 12) (Nat.le_of_ble_eq_true rfl) (Nat.le_of_ble_eq_true rfl) ?_
      exact W.iret (v := nI 1) hx hb hr (fun t ht hW => ⟨⟨nI 1, (), rfl, eR9, by rw [ht]; exact hP9, va_K.moved hW.alike hK, hD9⟩, hS.F ht⟩) hS.2.2 dL_join_14
    · skip
      exact nomatch h8
    · skip
      have hE8 : E = "java/lang/IllegalStateException" := by rw [hE9, h9, zN_3]
      subst hE8
      refine vx_catch (own := RL) (name := "java/lang/IllegalStateException") hown [⟨0, 9, 12, 27⟩] ⟨0, 9, 15, 15⟩ [] (by rw [hTab]; rfl) (List.forall_mem_cons.mpr ⟨Or.inr ⟨by decide, "java/lang/IndexOutOfBoundsException", (hts (.classLink RL 27 "java/lang/IndexOutOfBoundsException") (List.mem_of_getElem? (i := 1) rfl)), hN.2.2⟩, (fun _ h => absurd h List.not_mem_nil)⟩) (by decide) (by decide) (hts (.classLink RL 15 "java/lang/IllegalStateException") (List.mem_of_getElem? (i := 2) rfl)) (va_Nw.use rfl (hE.1 (.castable "java/lang/IllegalStateException" "java/lang/IllegalStateException") (List.mem_of_getElem? (i := 41) rfl))) hce hcv hcl ?_
      refine lv_astore_n (lv' := [(3, .ref q9), (0, .ref (ad 0)), (1, .int x), (2, .ref o)]) hx hb dL_join_15 rfl hl (by decide) rfl (fun ls hl => ?_)
      refine lv_iconst (v := nI 2) hx hb dL_join_16 (by decide) ?_
      have eR9 : nI 2 = zPos (nI 1) (nI 0) (nI 2) (kJoinT K x) := by rw [h9, zPos_3]
      have hP9 : va_P D vwCl (kwO ad cI cZ cJ (zEK (kJoinT K x) (kEnter K x.toNatClampNeg (K 0 0)) K) o (zFK (kJoinT K x) (nI (lLen (kEnter K x.toNatClampNeg (K 0 0)))) f)) H := by rw [eK9, eF9]; exact hP
      have hD9 : va_D A (kwO ad cI cZ cJ (zEK (kJoinT K x) (kEnter K x.toNatClampNeg (K 0 0)) K) o (zFK (kJoinT K x) (nI (lLen (kEnter K x.toNatClampNeg (K 0 0)))) f)) := by rw [eK9, eF9]; exact hD
      refine W.widen (k := 2) (n := 12) (Nat.le_of_ble_eq_true rfl) (Nat.le_of_ble_eq_true rfl) ?_
      exact W.iret (v := nI 2) hx hb hr (fun t ht hW => ⟨⟨nI 2, (), rfl, eR9, by rw [ht]; exact hP9, va_K.moved hW.alike hK, hD9⟩, hS.F ht⟩) hS.2.2 dL_join_17
  · skip
    have hP := hP.sub (ws' := (kwO ad cI cZ cJ (kEnter K x.toNatClampNeg (K 0 0)) o f)) [1, 2, 3, 4, 5, 6, 7, 8, 9, 10, 11, 12, 13, 14, 15, 16, 17, 18, 19, 20, 21, 22, 23, 24, 25, 26, 0] rfl
    have hD := hD.sub (ws' := (kwO ad cI cZ cJ (kEnter K x.toNatClampNeg (K 0 0)) o f)) [1, 2, 3, 4, 5, 6, 7, 8, 9, 10, 11, 12, 13, 14, 15, 16, 17, 18, 19, 20, 21, 22, 23, 24, 25, 26, 0] rfl rfl
    have hT : kJoinT K x = nI 0 := hT
    have eK9 : zEK (kJoinT K x) (kEnter K x.toNatClampNeg (K 0 0)) K = kEnter K x.toNatClampNeg (K 0 0) := zEK_0 hT
    have eF9 : zFK (kJoinT K x) (nI (lLen (kEnter K x.toNatClampNeg (K 0 0)))) f = vp_updL f 0 (nI (lLen (kEnter K x.toNatClampNeg (K 0 0)))).toInt64 := zFK_0 hT
    have eR9 : nI 0 = zPos (nI 1) (nI 0) (nI 2) (kJoinT K x) := by rw [hT, zPos_0]
    refine lv_i2l (v := (nI (lLen (kEnter K x.toNatClampNeg (K 0 0)))).toInt64) hx hb dL_join_7 rfl ?_
    refine va_last hx hb hK hP hD hS 26 2 rfl rfl (i := nI 0) (vp_in_nI (by decide) (by decide)) dL_join_8 (fun H locs hP hD hS => ?_)
    have hP : va_P D vwCl (kwO ad cI cZ cJ (zEK (kJoinT K x) (kEnter K x.toNatClampNeg (K 0 0)) K) o (zFK (kJoinT K x) (nI (lLen (kEnter K x.toNatClampNeg (K 0 0)))) f)) H := by rw [eK9, eF9]; exact hP
    have hD : va_D A (kwO ad cI cZ cJ (zEK (kJoinT K x) (kEnter K x.toNatClampNeg (K 0 0)) K) o (zFK (kJoinT K x) (nI (lLen (kEnter K x.toNatClampNeg (K 0 0)))) f)) := by rw [eK9, eF9]; exact hD
    refine lv_goto (tgt := 18) hx hb dL_join_9 (by decide) ?_
    refine lv_iconst (v := nI 0) hx hb dL_join_18 (by decide) ?_
    refine W.widen (k := 2) (n := 12) (Nat.le_of_ble_eq_true rfl) (Nat.le_of_ble_eq_true rfl) ?_
    exact W.iret (v := nI 0) hx hb hr (fun t ht hW => ⟨⟨nI 0, (), rfl, eR9, by rw [ht]; exact hP, va_K.moved hW.alike hK, hD⟩, hS.F ht⟩) hS.2.2 dL_join_19
set_option maxHeartbeats 4000000 in
set_option maxRecDepth 100000 in
theorem kL_quit (l : Launch) (hl9 : l.stackTraces = false) (D : va_G) (cI cZ cJ : ClassId) (ad : Nat → Nat) (K : kS) (o : Nat) (f : Nat → Int64) (sz : Nat) (x : Int32)   : zMh l yL_quit wsL_quit ({ frames := 8, cells := 2, slots := 12, locals := 123 }) [.ref (ad 0), .int x, .ref o] D (zTj cI cZ cJ) (kwO ad cI cZ cJ K o f) (kwO ad cI cZ cJ (zEK (kQuitT K x) (kLeave K x.toNatClampNeg) K) o (zFK (kQuitT K x) (nI (lLen (kLeave K x.toNatClampNeg))) f)) sz (zPos (nI 1) (nI 0) (nI 2) (kQuitT K x)) 2 12 := by
  refine va_MetW (cc := cL_quit) (maxL := 4) (ret := (some .int)) (hh := [(0, 9, 12, 27), (0, 9, 15, 15)]) (by decide) rfl ?_
  intro pP e s m args below meth c s₁ B hml hv
  obtain ⟨rfl, hsz, hP, hK, hD0, hE0, hN⟩ := hv
  have hx := B.exec
  have hb := B.bytes
  have hr := B.returns
  have hts := atoms_spec (ws := wsL_quit) B.pre
  have hTab := vx_table (x := yL_quit) B (hts (.codeWith yL_quit cL_quit 4 (some .int) [(0, 9, 12, 27), (0, 9, 15, 15)]) (List.mem_of_getElem? (i := 0) rfl))
  have hown : s.vm.findClass RL = some m.cls := findClass_of_methodNamed B.named
  subst hsz
  have hD := hD0.self (sz := s.heap.size)
  generalize hAe : va_A (kwO ad cI cZ cJ K o f) s.heap.size = A at hD hE0 ⊢
  have hE := hE0
  have hA : ∀ q : Nat, s.heap.size ≤ q → A q := fun q h => by rw [← hAe]; exact Or.inr h
  have hS : va_S A s.heap s.heap [] := va_S.rf
  have hK2 : va_K D vwCl (zTy cI cZ) s := hK.sub [0, 1] rfl
  have hl := lv_entry ([.ref (ad 0), .int x, .ref o]) (n := 4) (Nat.le_of_ble_eq_true rfl)
  rw [lg_entry_eq]
  generalize (lg_sl ([.ref (ad 0), .int x, .ref o]) ++ List.replicate (4 - (lg_sl ([.ref (ad 0), .int x, .ref o])).length) Slot.unset).toArray = ls at hl ⊢
  have hl : lv_has ls 4 [(0, .ref (ad 0)), (1, .int x), (2, .ref o)] := hl
  refine lv_aload_n hx hb dL_quit_0 rfl (lv_at hl 2 rfl) ?_
  refine lv_iconst (v := nI 0) hx hb dL_quit_1 (by decide) ?_
  refine lv_aload_n hx hb dL_quit_2 rfl (lv_at hl 0 rfl) ?_
  refine lv_iload_n hx hb dL_quit_3 rfl (lv_at hl 1 rfl) ?_
  refine zx_Vi (As := [.int x]) (rest := [.int (nI 0), .ref o]) (wr := [(o, .inl (cJ, 1, .inr (.inl f)))]) ⟨hx, hb, hml, hown, hts⟩ (kX5_quit l hl9 D cI cZ ad K _ x  ) (cwV 1 hts gL_quit_X5_quit rfl rfl rfl (by decide +kernel) ⟨(Nat.le_of_ble_eq_true rfl), (Nat.le_of_ble_eq_true rfl)⟩) hK2 hP hD hS hA hE [0, 1, 2, 3, 4, 5, 6, 7, 8, 9, 10, 11, 12, 13, 14, 15, 16, 17, 18, 19, 20, 21, 22, 23, 24, 25] [26] rfl rfl rfl rfl rfl (by decide) (ci := 5) (q0 := 0) rfl rfl rfl rfl hl.1 rfl (Nat.le_of_ble_eq_true rfl) dL_quit_4 ⟨(Nat.le_of_ble_eq_true rfl), (Nat.le_of_ble_eq_true rfl)⟩ (fun E ce q9 H locs h0 hE9 hP hD hS hce hcv hcl => ?_) (fun hT H locs hP hD hS => ?_)
  · skip
    have hP := hP.sub (ws' := (kwO ad cI cZ cJ K o f)) [1, 2, 3, 4, 5, 6, 7, 8, 9, 10, 11, 12, 13, 14, 15, 16, 17, 18, 19, 20, 21, 22, 23, 24, 25, 26, 0] rfl
    have hD := hD.sub (ws' := (kwO ad cI cZ cJ K o f)) [1, 2, 3, 4, 5, 6, 7, 8, 9, 10, 11, 12, 13, 14, 15, 16, 17, 18, 19, 20, 21, 22, 23, 24, 25, 26, 0] rfl rfl
    have h0 : ¬ kQuitT K x = nI 0 := h0
    have hE9 : E = zN (kQuitT K x) := hE9
    have eK9 : zEK (kQuitT K x) (kLeave K x.toNatClampNeg) K = K := zEK_n h0
    have eF9 : zFK (kQuitT K x) (nI (lLen (kLeave K x.toNatClampNeg))) f = f := zFK_n h0
    have hr9 : zRng true false true (kQuitT K x) := kQuitT_r
    rcases hr9.resolve_left h0 with ⟨h8, h9⟩ | ⟨h8, h9⟩ | ⟨h8, h9⟩
    · skip
      have hE8 : E = "java/lang/IndexOutOfBoundsException" := by rw [hE9, h9, zN_1]
      subst hE8
      refine vx_catch (own := RL) (name := "java/lang/IndexOutOfBoundsException") hown [] ⟨0, 9, 12, 27⟩ [⟨0, 9, 15, 15⟩] (by rw [hTab]; rfl) (fun _ h => absurd h List.not_mem_nil) (by decide) (by decide) (hts (.classLink RL 27 "java/lang/IndexOutOfBoundsException") (List.mem_of_getElem? (i := 1) rfl)) (va_Nw.use rfl (hE.1 (.castable "java/lang/IndexOutOfBoundsException" "java/lang/IndexOutOfBoundsException") (List.mem_of_getElem? (i := 39) rfl))) hce hcv hcl ?_
      refine lv_astore_n (lv' := [(3, .ref q9), (0, .ref (ad 0)), (1, .int x), (2, .ref o)]) hx hb dL_quit_12 rfl hl (by decide) rfl (fun ls hl => ?_)
      refine lv_iconst (v := nI 1) hx hb dL_quit_13 (by decide) ?_
      have eR9 : nI 1 = zPos (nI 1) (nI 0) (nI 2) (kQuitT K x) := by rw [h9, zPos_1]
      have hP9 : va_P D vwCl (kwO ad cI cZ cJ (zEK (kQuitT K x) (kLeave K x.toNatClampNeg) K) o (zFK (kQuitT K x) (nI (lLen (kLeave K x.toNatClampNeg))) f)) H := by rw [eK9, eF9]; exact hP
      have hD9 : va_D A (kwO ad cI cZ cJ (zEK (kQuitT K x) (kLeave K x.toNatClampNeg) K) o (zFK (kQuitT K x) (nI (lLen (kLeave K x.toNatClampNeg))) f)) := by rw [eK9, eF9]; exact hD
      refine W.widen (k := 2) (n := 12) (Nat.le_of_ble_eq_true rfl) (Nat.le_of_ble_eq_true rfl) ?_
      exact W.iret (v := nI 1) hx hb hr (fun t ht hW => ⟨⟨nI 1, (), rfl, eR9, by rw [ht]; exact hP9, va_K.moved hW.alike hK, hD9⟩, hS.F ht⟩) hS.2.2 dL_quit_14
    · skip
      exact nomatch h8
    · skip
      have hE8 : E = "java/lang/IllegalStateException" := by rw [hE9, h9, zN_3]
      subst hE8
      refine vx_catch (own := RL) (name := "java/lang/IllegalStateException") hown [⟨0, 9, 12, 27⟩] ⟨0, 9, 15, 15⟩ [] (by rw [hTab]; rfl) (List.forall_mem_cons.mpr ⟨Or.inr ⟨by decide, "java/lang/IndexOutOfBoundsException", (hts (.classLink RL 27 "java/lang/IndexOutOfBoundsException") (List.mem_of_getElem? (i := 1) rfl)), hN.2.2⟩, (fun _ h => absurd h List.not_mem_nil)⟩) (by decide) (by decide) (hts (.classLink RL 15 "java/lang/IllegalStateException") (List.mem_of_getElem? (i := 2) rfl)) (va_Nw.use rfl (hE.1 (.castable "java/lang/IllegalStateException" "java/lang/IllegalStateException") (List.mem_of_getElem? (i := 41) rfl))) hce hcv hcl ?_
      refine lv_astore_n (lv' := [(3, .ref q9), (0, .ref (ad 0)), (1, .int x), (2, .ref o)]) hx hb dL_quit_15 rfl hl (by decide) rfl (fun ls hl => ?_)
      refine lv_iconst (v := nI 2) hx hb dL_quit_16 (by decide) ?_
      have eR9 : nI 2 = zPos (nI 1) (nI 0) (nI 2) (kQuitT K x) := by rw [h9, zPos_3]
      have hP9 : va_P D vwCl (kwO ad cI cZ cJ (zEK (kQuitT K x) (kLeave K x.toNatClampNeg) K) o (zFK (kQuitT K x) (nI (lLen (kLeave K x.toNatClampNeg))) f)) H := by rw [eK9, eF9]; exact hP
      have hD9 : va_D A (kwO ad cI cZ cJ (zEK (kQuitT K x) (kLeave K x.toNatClampNeg) K) o (zFK (kQuitT K x) (nI (lLen (kLeave K x.toNatClampNeg))) f)) := by rw [eK9, eF9]; exact hD
      refine W.widen (k := 2) (n := 12) (Nat.le_of_ble_eq_true rfl) (Nat.le_of_ble_eq_true rfl) ?_
      exact W.iret (v := nI 2) hx hb hr (fun t ht hW => ⟨⟨nI 2, (), rfl, eR9, by rw [ht]; exact hP9, va_K.moved hW.alike hK, hD9⟩, hS.F ht⟩) hS.2.2 dL_quit_17
  · skip
    have hP := hP.sub (ws' := (kwO ad cI cZ cJ (kLeave K x.toNatClampNeg) o f)) [1, 2, 3, 4, 5, 6, 7, 8, 9, 10, 11, 12, 13, 14, 15, 16, 17, 18, 19, 20, 21, 22, 23, 24, 25, 26, 0] rfl
    have hD := hD.sub (ws' := (kwO ad cI cZ cJ (kLeave K x.toNatClampNeg) o f)) [1, 2, 3, 4, 5, 6, 7, 8, 9, 10, 11, 12, 13, 14, 15, 16, 17, 18, 19, 20, 21, 22, 23, 24, 25, 26, 0] rfl rfl
    have hT : kQuitT K x = nI 0 := hT
    have eK9 : zEK (kQuitT K x) (kLeave K x.toNatClampNeg) K = kLeave K x.toNatClampNeg := zEK_0 hT
    have eF9 : zFK (kQuitT K x) (nI (lLen (kLeave K x.toNatClampNeg))) f = vp_updL f 0 (nI (lLen (kLeave K x.toNatClampNeg))).toInt64 := zFK_0 hT
    have eR9 : nI 0 = zPos (nI 1) (nI 0) (nI 2) (kQuitT K x) := by rw [hT, zPos_0]
    refine lv_i2l (v := (nI (lLen (kLeave K x.toNatClampNeg))).toInt64) hx hb dL_quit_7 rfl ?_
    refine va_last hx hb hK hP hD hS 26 2 rfl rfl (i := nI 0) (vp_in_nI (by decide) (by decide)) dL_quit_8 (fun H locs hP hD hS => ?_)
    have hP : va_P D vwCl (kwO ad cI cZ cJ (zEK (kQuitT K x) (kLeave K x.toNatClampNeg) K) o (zFK (kQuitT K x) (nI (lLen (kLeave K x.toNatClampNeg))) f)) H := by rw [eK9, eF9]; exact hP
    have hD : va_D A (kwO ad cI cZ cJ (zEK (kQuitT K x) (kLeave K x.toNatClampNeg) K) o (zFK (kQuitT K x) (nI (lLen (kLeave K x.toNatClampNeg))) f)) := by rw [eK9, eF9]; exact hD
    refine lv_goto (tgt := 18) hx hb dL_quit_9 (by decide) ?_
    refine lv_iconst (v := nI 0) hx hb dL_quit_18 (by decide) ?_
    refine W.widen (k := 2) (n := 12) (Nat.le_of_ble_eq_true rfl) (Nat.le_of_ble_eq_true rfl) ?_
    exact W.iret (v := nI 0) hx hb hr (fun t ht hW => ⟨⟨nI 0, (), rfl, eR9, by rw [ht]; exact hP, va_K.moved hW.alike hK, hD⟩, hS.F ht⟩) hS.2.2 dL_quit_19
set_option maxHeartbeats 4000000 in
set_option maxRecDepth 100000 in
theorem kL_queueAt (l : Launch) (hl9 : l.stackTraces = false) (D : va_G) (cI cZ cJ : ClassId) (ad : Nat → Nat) (K : kS) (o : Nat) (f : Nat → Int64) (sz : Nat) (x : Int32)   : zMh l yL_queueAt wsL_queueAt ({ frames := 7, cells := 1, slots := 6, locals := 104 }) [.ref (ad 0), .int x, .ref o] D (zTj cI cZ cJ) (kwO ad cI cZ cJ K o f) (kwO ad cI cZ cJ (zEK (kQueT K x) (K) K) o (zFK (kQueT K x) (lAt K x) f)) sz (zPos (nI 1) (nI 0) (nI 0) (kQueT K x)) 1 6 := by
  refine va_MetW (cc := cL_queueAt) (maxL := 4) (ret := (some .int)) (hh := [(0, 9, 12, 27)]) (by decide) rfl ?_
  intro pP e s m args below meth c s₁ B hml hv
  obtain ⟨rfl, hsz, hP, hK, hD0, hE0, hN⟩ := hv
  have hx := B.exec
  have hb := B.bytes
  have hr := B.returns
  have hts := atoms_spec (ws := wsL_queueAt) B.pre
  have hTab := vx_table (x := yL_queueAt) B (hts (.codeWith yL_queueAt cL_queueAt 4 (some .int) [(0, 9, 12, 27)]) (List.mem_of_getElem? (i := 0) rfl))
  have hown : s.vm.findClass RL = some m.cls := findClass_of_methodNamed B.named
  subst hsz
  have hD := hD0.self (sz := s.heap.size)
  generalize hAe : va_A (kwO ad cI cZ cJ K o f) s.heap.size = A at hD hE0 ⊢
  have hE := hE0
  have hA : ∀ q : Nat, s.heap.size ≤ q → A q := fun q h => by rw [← hAe]; exact Or.inr h
  have hS : va_S A s.heap s.heap [] := va_S.rf
  have hK2 : va_K D vwCl (zTy cI cZ) s := hK.sub [0, 1] rfl
  have hl := lv_entry ([.ref (ad 0), .int x, .ref o]) (n := 4) (Nat.le_of_ble_eq_true rfl)
  rw [lg_entry_eq]
  generalize (lg_sl ([.ref (ad 0), .int x, .ref o]) ++ List.replicate (4 - (lg_sl ([.ref (ad 0), .int x, .ref o])).length) Slot.unset).toArray = ls at hl ⊢
  have hl : lv_has ls 4 [(0, .ref (ad 0)), (1, .int x), (2, .ref o)] := hl
  refine lv_aload_n hx hb dL_queueAt_0 rfl (lv_at hl 2 rfl) ?_
  refine lv_iconst (v := nI 0) hx hb dL_queueAt_1 (by decide) ?_
  refine lv_aload_n hx hb dL_queueAt_2 rfl (lv_at hl 0 rfl) ?_
  refine lv_iload_n hx hb dL_queueAt_3 rfl (lv_at hl 1 rfl) ?_
  refine zx_Vi (As := [.int x]) (rest := [.int (nI 0), .ref o]) (wr := [(o, .inl (cJ, 1, .inr (.inl f)))]) ⟨hx, hb, hml, hown, hts⟩ (kX5_queueAt l hl9 D cI cZ ad K _ x  ) (cwV 1 hts gL_queueAt_X5_queueAt rfl rfl rfl (by decide +kernel) ⟨(Nat.le_of_ble_eq_true rfl), (Nat.le_of_ble_eq_true rfl)⟩) hK2 hP hD hS hA hE [0, 1, 2, 3, 4, 5, 6, 7, 8, 9, 10, 11, 12, 13, 14, 15, 16, 17, 18, 19, 20, 21, 22, 23, 24, 25] [26] rfl rfl rfl rfl rfl (by decide) (ci := 5) (q0 := 0) rfl rfl rfl rfl hl.1 rfl (Nat.le_of_ble_eq_true rfl) dL_queueAt_4 ⟨(Nat.le_of_ble_eq_true rfl), (Nat.le_of_ble_eq_true rfl)⟩ (fun E ce q9 H locs h0 hE9 hP hD hS hce hcv hcl => ?_) (fun hT H locs hP hD hS => ?_)
  · skip
    have hP := hP.sub (ws' := (kwO ad cI cZ cJ K o f)) [1, 2, 3, 4, 5, 6, 7, 8, 9, 10, 11, 12, 13, 14, 15, 16, 17, 18, 19, 20, 21, 22, 23, 24, 25, 26, 0] rfl
    have hD := hD.sub (ws' := (kwO ad cI cZ cJ K o f)) [1, 2, 3, 4, 5, 6, 7, 8, 9, 10, 11, 12, 13, 14, 15, 16, 17, 18, 19, 20, 21, 22, 23, 24, 25, 26, 0] rfl rfl
    have h0 : ¬ kQueT K x = nI 0 := h0
    have hE9 : E = zN (kQueT K x) := hE9
    have eK9 : zEK (kQueT K x) (K) K = K := zEK_n h0
    have eF9 : zFK (kQueT K x) (lAt K x) f = f := zFK_n h0
    have hr9 : zRng true false false (kQueT K x) := kQueT_r
    rcases hr9.resolve_left h0 with ⟨h8, h9⟩ | ⟨h8, h9⟩ | ⟨h8, h9⟩
    · skip
      have hE8 : E = "java/lang/IndexOutOfBoundsException" := by rw [hE9, h9, zN_1]
      subst hE8
      refine vx_catch (own := RL) (name := "java/lang/IndexOutOfBoundsException") hown [] ⟨0, 9, 12, 27⟩ [] (by rw [hTab]; rfl) (fun _ h => absurd h List.not_mem_nil) (by decide) (by decide) (hts (.classLink RL 27 "java/lang/IndexOutOfBoundsException") (List.mem_of_getElem? (i := 1) rfl)) (va_Nw.use rfl (hE.1 (.castable "java/lang/IndexOutOfBoundsException" "java/lang/IndexOutOfBoundsException") (List.mem_of_getElem? (i := 39) rfl))) hce hcv hcl ?_
      refine lv_astore_n (lv' := [(3, .ref q9), (0, .ref (ad 0)), (1, .int x), (2, .ref o)]) hx hb dL_queueAt_12 rfl hl (by decide) rfl (fun ls hl => ?_)
      refine lv_iconst (v := nI 1) hx hb dL_queueAt_13 (by decide) ?_
      have eR9 : nI 1 = zPos (nI 1) (nI 0) (nI 0) (kQueT K x) := by rw [h9, zPos_1]
      have hP9 : va_P D vwCl (kwO ad cI cZ cJ (zEK (kQueT K x) (K) K) o (zFK (kQueT K x) (lAt K x) f)) H := by rw [eK9, eF9]; exact hP
      have hD9 : va_D A (kwO ad cI cZ cJ (zEK (kQueT K x) (K) K) o (zFK (kQueT K x) (lAt K x) f)) := by rw [eK9, eF9]; exact hD
      refine W.widen (k := 1) (n := 6) (Nat.le_of_ble_eq_true rfl) (Nat.le_of_ble_eq_true rfl) ?_
      exact W.iret (v := nI 1) hx hb hr (fun t ht hW => ⟨⟨nI 1, (), rfl, eR9, by rw [ht]; exact hP9, va_K.moved hW.alike hK, hD9⟩, hS.F ht⟩) hS.2.2 dL_queueAt_14
    · skip
      exact nomatch h8
    · skip
      exact nomatch h8
  · skip
    have hP := hP.sub (ws' := (kwO ad cI cZ cJ (K) o f)) [1, 2, 3, 4, 5, 6, 7, 8, 9, 10, 11, 12, 13, 14, 15, 16, 17, 18, 19, 20, 21, 22, 23, 24, 25, 26, 0] rfl
    have hD := hD.sub (ws' := (kwO ad cI cZ cJ (K) o f)) [1, 2, 3, 4, 5, 6, 7, 8, 9, 10, 11, 12, 13, 14, 15, 16, 17, 18, 19, 20, 21, 22, 23, 24, 25, 26, 0] rfl rfl
    have hT : kQueT K x = nI 0 := hT
    have eK9 : zEK (kQueT K x) (K) K = K := zEK_0 hT
    have eF9 : zFK (kQueT K x) (lAt K x) f = vp_updL f 0 (lAt K x).toInt64 := zFK_0 hT
    have eR9 : nI 0 = zPos (nI 1) (nI 0) (nI 0) (kQueT K x) := by rw [hT, zPos_0]
    refine lv_i2l (v := (lAt K x).toInt64) hx hb dL_queueAt_7 rfl ?_
    refine va_last hx hb hK hP hD hS 26 2 rfl rfl (i := nI 0) (vp_in_nI (by decide) (by decide)) dL_queueAt_8 (fun H locs hP hD hS => ?_)
    have hP : va_P D vwCl (kwO ad cI cZ cJ (zEK (kQueT K x) (K) K) o (zFK (kQueT K x) (lAt K x) f)) H := by rw [eK9, eF9]; exact hP
    have hD : va_D A (kwO ad cI cZ cJ (zEK (kQueT K x) (K) K) o (zFK (kQueT K x) (lAt K x) f)) := by rw [eK9, eF9]; exact hD
    refine lv_goto (tgt := 15) hx hb dL_queueAt_9 (by decide) ?_
    refine lv_iconst (v := nI 0) hx hb dL_queueAt_15 (by decide) ?_
    refine W.widen (k := 1) (n := 6) (Nat.le_of_ble_eq_true rfl) (Nat.le_of_ble_eq_true rfl) ?_
    exact W.iret (v := nI 0) hx hb hr (fun t ht hW => ⟨⟨nI 0, (), rfl, eR9, by rw [ht]; exact hP, va_K.moved hW.alike hK, hD⟩, hS.F ht⟩) hS.2.2 dL_queueAt_16
set_option maxHeartbeats 4000000 in
set_option maxRecDepth 100000 in
theorem kL_hold (l : Launch) (hl9 : l.stackTraces = false) (D : va_G) (cI cZ cJ : ClassId) (ad : Nat → Nat) (K : kS) (o : Nat) (f : Nat → Int64) (sz : Nat) (a1 : Int32) (r1 : Int32) (q1 : Int32) (m1 : Int32) (c1 : Int32) (n9 : Nat) (hn9 : n9 ≤ 10) (hc8 : K 2 0 = nI n9) : zMh l yL_hold wsL_hold ({ frames := 8, cells := 5, slots := 30, locals := 134 }) [.ref (ad 0), .int a1, .int r1, .int q1, .int m1, .int c1, .ref o] D (zTj cI cZ cJ) (kwO ad cI cZ cJ K o f) (kwO ad cI cZ cJ (zEK (kHoldT K a1 r1 q1 m1 c1) (kHoldE K a1.toNatClampNeg (mHF r1 q1) m1.toNatClampNeg c1) K) o (zFK (kHoldT K a1 r1 q1 m1 c1) (kHoldR K (mHF r1 q1) m1.toNatClampNeg) f)) sz (zPos (nI 1) (nI 2) (nI 3) (kHoldT K a1 r1 q1 m1 c1)) 5 30 := by
  refine va_MetW (cc := cL_hold) (maxL := 8) (ret := (some .int)) (hh := [(0, 16, 19, 27), (0, 16, 23, 13), (0, 16, 27, 15)]) (by decide) rfl ?_
  intro pP e s m args below meth c s₁ B hml hv
  obtain ⟨rfl, hsz, hP, hK, hD0, hE0, hN⟩ := hv
  have hx := B.exec
  have hb := B.bytes
  have hr := B.returns
  have hts := atoms_spec (ws := wsL_hold) B.pre
  have hTab := vx_table (x := yL_hold) B (hts (.codeWith yL_hold cL_hold 8 (some .int) [(0, 16, 19, 27), (0, 16, 23, 13), (0, 16, 27, 15)]) (List.mem_of_getElem? (i := 0) rfl))
  have hown : s.vm.findClass RL = some m.cls := findClass_of_methodNamed B.named
  subst hsz
  have hD := hD0.self (sz := s.heap.size)
  generalize hAe : va_A (kwO ad cI cZ cJ K o f) s.heap.size = A at hD hE0 ⊢
  have hE := hE0
  have hA : ∀ q : Nat, s.heap.size ≤ q → A q := fun q h => by rw [← hAe]; exact Or.inr h
  have hS : va_S A s.heap s.heap [] := va_S.rf
  have hK2 : va_K D vwCl (zTy cI cZ) s := hK.sub [0, 1] rfl
  have hl := lv_entry ([.ref (ad 0), .int a1, .int r1, .int q1, .int m1, .int c1, .ref o]) (n := 8) (Nat.le_of_ble_eq_true rfl)
  rw [lg_entry_eq]
  generalize (lg_sl ([.ref (ad 0), .int a1, .int r1, .int q1, .int m1, .int c1, .ref o]) ++ List.replicate (8 - (lg_sl ([.ref (ad 0), .int a1, .int r1, .int q1, .int m1, .int c1, .ref o])).length) Slot.unset).toArray = ls at hl ⊢
  have hl : lv_has ls 8 [(0, .ref (ad 0)), (1, .int a1), (2, .int r1), (3, .int q1), (4, .int m1), (5, .int c1), (6, .ref o)] := hl
  refine lv_aload hx hb dL_hold_0 (lv_at hl 6 rfl) ?_
  refine lv_iconst (v := nI 0) hx hb dL_hold_2 (by decide) ?_
  refine lv_aload_n hx hb dL_hold_3 rfl (lv_at hl 0 rfl) ?_
  refine lv_iload_n hx hb dL_hold_4 rfl (lv_at hl 1 rfl) ?_
  refine lv_iload_n hx hb dL_hold_5 rfl (lv_at hl 2 rfl) ?_
  refine lv_iload_n hx hb dL_hold_6 rfl (lv_at hl 3 rfl) ?_
  refine lv_iload hx hb dL_hold_7 (lv_at hl 4 rfl) ?_
  refine lv_iload hx hb dL_hold_9 (lv_at hl 5 rfl) ?_
  refine zx_Vi (As := [.int a1, .int r1, .int q1, .int m1, .int c1]) (rest := [.int (nI 0), .ref o]) (wr := [(o, .inl (cJ, 1, .inr (.inl f)))]) ⟨hx, hb, hml, hown, hts⟩ (kX5_hold l hl9 D cI cZ ad K _ a1 r1 q1 m1 c1 n9 hn9 hc8) (cwV 5 hts gL_hold_X5_hold rfl rfl rfl (by decide +kernel) ⟨(Nat.le_of_ble_eq_true rfl), (Nat.le_of_ble_eq_true rfl)⟩) hK2 hP hD hS hA hE [0, 1, 2, 3, 4, 5, 6, 7, 8, 9, 10, 11, 12, 13, 14, 15, 16, 17, 18, 19, 20, 21, 22, 23, 24, 25] [26] rfl rfl rfl rfl rfl (by decide) (ci := 5) (q0 := 0) rfl rfl rfl rfl hl.1 rfl (Nat.le_of_ble_eq_true rfl) dL_hold_11 ⟨(Nat.le_of_ble_eq_true rfl), (Nat.le_of_ble_eq_true rfl)⟩ (fun E ce q9 H locs h0 hE9 hP hD hS hce hcv hcl => ?_) (fun hT H locs hP hD hS => ?_)
  · skip
    have hP := hP.sub (ws' := (kwO ad cI cZ cJ K o f)) [1, 2, 3, 4, 5, 6, 7, 8, 9, 10, 11, 12, 13, 14, 15, 16, 17, 18, 19, 20, 21, 22, 23, 24, 25, 26, 0] rfl
    have hD := hD.sub (ws' := (kwO ad cI cZ cJ K o f)) [1, 2, 3, 4, 5, 6, 7, 8, 9, 10, 11, 12, 13, 14, 15, 16, 17, 18, 19, 20, 21, 22, 23, 24, 25, 26, 0] rfl rfl
    have h0 : ¬ kHoldT K a1 r1 q1 m1 c1 = nI 0 := h0
    have hE9 : E = zN (kHoldT K a1 r1 q1 m1 c1) := hE9
    have eK9 : zEK (kHoldT K a1 r1 q1 m1 c1) (kHoldE K a1.toNatClampNeg (mHF r1 q1) m1.toNatClampNeg c1) K = K := zEK_n h0
    have eF9 : zFK (kHoldT K a1 r1 q1 m1 c1) (kHoldR K (mHF r1 q1) m1.toNatClampNeg) f = f := zFK_n h0
    have hr9 : zRng true true true (kHoldT K a1 r1 q1 m1 c1) := kHoldT_r
    rcases hr9.resolve_left h0 with ⟨h8, h9⟩ | ⟨h8, h9⟩ | ⟨h8, h9⟩
    · skip
      have hE8 : E = "java/lang/IndexOutOfBoundsException" := by rw [hE9, h9, zN_1]
      subst hE8
      refine vx_catch (own := RL) (name := "java/lang/IndexOutOfBoundsException") hown [] ⟨0, 16, 19, 27⟩ [⟨0, 16, 23, 13⟩, ⟨0, 16, 27, 15⟩] (by rw [hTab]; rfl) (fun _ h => absurd h List.not_mem_nil) (by decide) (by decide) (hts (.classLink RL 27 "java/lang/IndexOutOfBoundsException") (List.mem_of_getElem? (i := 1) rfl)) (va_Nw.use rfl (hE.1 (.castable "java/lang/IndexOutOfBoundsException" "java/lang/IndexOutOfBoundsException") (List.mem_of_getElem? (i := 39) rfl))) hce hcv hcl ?_
      refine lv_astore (lv' := [(7, .ref q9), (0, .ref (ad 0)), (1, .int a1), (2, .int r1), (3, .int q1), (4, .int m1), (5, .int c1), (6, .ref o)]) hx hb dL_hold_19 hl (by decide) rfl (fun ls hl => ?_)
      refine lv_iconst (v := nI 1) hx hb dL_hold_21 (by decide) ?_
      have eR9 : nI 1 = zPos (nI 1) (nI 2) (nI 3) (kHoldT K a1 r1 q1 m1 c1) := by rw [h9, zPos_1]
      have hP9 : va_P D vwCl (kwO ad cI cZ cJ (zEK (kHoldT K a1 r1 q1 m1 c1) (kHoldE K a1.toNatClampNeg (mHF r1 q1) m1.toNatClampNeg c1) K) o (zFK (kHoldT K a1 r1 q1 m1 c1) (kHoldR K (mHF r1 q1) m1.toNatClampNeg) f)) H := by rw [eK9, eF9]; exact hP
      have hD9 : va_D A (kwO ad cI cZ cJ (zEK (kHoldT K a1 r1 q1 m1 c1) (kHoldE K a1.toNatClampNeg (mHF r1 q1) m1.toNatClampNeg c1) K) o (zFK (kHoldT K a1 r1 q1 m1 c1) (kHoldR K (mHF r1 q1) m1.toNatClampNeg) f)) := by rw [eK9, eF9]; exact hD
      refine W.widen (k := 5) (n := 30) (Nat.le_of_ble_eq_true rfl) (Nat.le_of_ble_eq_true rfl) ?_
      exact W.iret (v := nI 1) hx hb hr (fun t ht hW => ⟨⟨nI 1, (), rfl, eR9, by rw [ht]; exact hP9, va_K.moved hW.alike hK, hD9⟩, hS.F ht⟩) hS.2.2 dL_hold_22
    · skip
      have hE8 : E = "java/lang/IllegalArgumentException" := by rw [hE9, h9, zN_2]
      subst hE8
      refine vx_catch (own := RL) (name := "java/lang/IllegalArgumentException") hown [⟨0, 16, 19, 27⟩] ⟨0, 16, 23, 13⟩ [⟨0, 16, 27, 15⟩] (by rw [hTab]; rfl) (List.forall_mem_cons.mpr ⟨Or.inr ⟨by decide, "java/lang/IndexOutOfBoundsException", (hts (.classLink RL 27 "java/lang/IndexOutOfBoundsException") (List.mem_of_getElem? (i := 1) rfl)), hN.2.1⟩, (fun _ h => absurd h List.not_mem_nil)⟩) (by decide) (by decide) (hts (.classLink RL 13 "java/lang/IllegalArgumentException") (List.mem_of_getElem? (i := 2) rfl)) (va_Nw.use rfl (hE.1 (.castable "java/lang/IllegalArgumentException" "java/lang/IllegalArgumentException") (List.mem_of_getElem? (i := 40) rfl))) hce hcv hcl ?_
      refine lv_astore (lv' := [(7, .ref q9), (0, .ref (ad 0)), (1, .int a1), (2, .int r1), (3, .int q1), (4, .int m1), (5, .int c1), (6, .ref o)]) hx hb dL_hold_23 hl (by decide) rfl (fun ls hl => ?_)
      refine lv_iconst (v := nI 2) hx hb dL_hold_25 (by decide) ?_
      have eR9 : nI 2 = zPos (nI 1) (nI 2) (nI 3) (kHoldT K a1 r1 q1 m1 c1) := by rw [h9, zPos_2]
      have hP9 : va_P D vwCl (kwO ad cI cZ cJ (zEK (kHoldT K a1 r1 q1 m1 c1) (kHoldE K a1.toNatClampNeg (mHF r1 q1) m1.toNatClampNeg c1) K) o (zFK (kHoldT K a1 r1 q1 m1 c1) (kHoldR K (mHF r1 q1) m1.toNatClampNeg) f)) H := by rw [eK9, eF9]; exact hP
      have hD9 : va_D A (kwO ad cI cZ cJ (zEK (kHoldT K a1 r1 q1 m1 c1) (kHoldE K a1.toNatClampNeg (mHF r1 q1) m1.toNatClampNeg c1) K) o (zFK (kHoldT K a1 r1 q1 m1 c1) (kHoldR K (mHF r1 q1) m1.toNatClampNeg) f)) := by rw [eK9, eF9]; exact hD
      refine W.widen (k := 5) (n := 30) (Nat.le_of_ble_eq_true rfl) (Nat.le_of_ble_eq_true rfl) ?_
      exact W.iret (v := nI 2) hx hb hr (fun t ht hW => ⟨⟨nI 2, (), rfl, eR9, by rw [ht]; exact hP9, va_K.moved hW.alike hK, hD9⟩, hS.F ht⟩) hS.2.2 dL_hold_26
    · skip
      have hE8 : E = "java/lang/IllegalStateException" := by rw [hE9, h9, zN_3]
      subst hE8
      refine vx_catch (own := RL) (name := "java/lang/IllegalStateException") hown [⟨0, 16, 19, 27⟩, ⟨0, 16, 23, 13⟩] ⟨0, 16, 27, 15⟩ [] (by rw [hTab]; rfl) (List.forall_mem_cons.mpr ⟨Or.inr ⟨by decide, "java/lang/IndexOutOfBoundsException", (hts (.classLink RL 27 "java/lang/IndexOutOfBoundsException") (List.mem_of_getElem? (i := 1) rfl)), hN.2.2⟩, (List.forall_mem_cons.mpr ⟨Or.inr ⟨by decide, "java/lang/IllegalArgumentException", (hts (.classLink RL 13 "java/lang/IllegalArgumentException") (List.mem_of_getElem? (i := 2) rfl)), hN.1⟩, (fun _ h => absurd h List.not_mem_nil)⟩)⟩) (by decide) (by decide) (hts (.classLink RL 15 "java/lang/IllegalStateException") (List.mem_of_getElem? (i := 3) rfl)) (va_Nw.use rfl (hE.1 (.castable "java/lang/IllegalStateException" "java/lang/IllegalStateException") (List.mem_of_getElem? (i := 41) rfl))) hce hcv hcl ?_
      refine lv_astore (lv' := [(7, .ref q9), (0, .ref (ad 0)), (1, .int a1), (2, .int r1), (3, .int q1), (4, .int m1), (5, .int c1), (6, .ref o)]) hx hb dL_hold_27 hl (by decide) rfl (fun ls hl => ?_)
      refine lv_iconst (v := nI 3) hx hb dL_hold_29 (by decide) ?_
      have eR9 : nI 3 = zPos (nI 1) (nI 2) (nI 3) (kHoldT K a1 r1 q1 m1 c1) := by rw [h9, zPos_3]
      have hP9 : va_P D vwCl (kwO ad cI cZ cJ (zEK (kHoldT K a1 r1 q1 m1 c1) (kHoldE K a1.toNatClampNeg (mHF r1 q1) m1.toNatClampNeg c1) K) o (zFK (kHoldT K a1 r1 q1 m1 c1) (kHoldR K (mHF r1 q1) m1.toNatClampNeg) f)) H := by rw [eK9, eF9]; exact hP
      have hD9 : va_D A (kwO ad cI cZ cJ (zEK (kHoldT K a1 r1 q1 m1 c1) (kHoldE K a1.toNatClampNeg (mHF r1 q1) m1.toNatClampNeg c1) K) o (zFK (kHoldT K a1 r1 q1 m1 c1) (kHoldR K (mHF r1 q1) m1.toNatClampNeg) f)) := by rw [eK9, eF9]; exact hD
      refine W.widen (k := 5) (n := 30) (Nat.le_of_ble_eq_true rfl) (Nat.le_of_ble_eq_true rfl) ?_
      exact W.iret (v := nI 3) hx hb hr (fun t ht hW => ⟨⟨nI 3, (), rfl, eR9, by rw [ht]; exact hP9, va_K.moved hW.alike hK, hD9⟩, hS.F ht⟩) hS.2.2 dL_hold_30
  · skip
    have hP := hP.sub (ws' := (kwO ad cI cZ cJ (kHoldE K a1.toNatClampNeg (mHF r1 q1) m1.toNatClampNeg c1) o f)) [1, 2, 3, 4, 5, 6, 7, 8, 9, 10, 11, 12, 13, 14, 15, 16, 17, 18, 19, 20, 21, 22, 23, 24, 25, 26, 0] rfl
    have hD := hD.sub (ws' := (kwO ad cI cZ cJ (kHoldE K a1.toNatClampNeg (mHF r1 q1) m1.toNatClampNeg c1) o f)) [1, 2, 3, 4, 5, 6, 7, 8, 9, 10, 11, 12, 13, 14, 15, 16, 17, 18, 19, 20, 21, 22, 23, 24, 25, 26, 0] rfl rfl
    have hT : kHoldT K a1 r1 q1 m1 c1 = nI 0 := hT
    have eK9 : zEK (kHoldT K a1 r1 q1 m1 c1) (kHoldE K a1.toNatClampNeg (mHF r1 q1) m1.toNatClampNeg c1) K = kHoldE K a1.toNatClampNeg (mHF r1 q1) m1.toNatClampNeg c1 := zEK_0 hT
    have eF9 : zFK (kHoldT K a1 r1 q1 m1 c1) (kHoldR K (mHF r1 q1) m1.toNatClampNeg) f = vp_updL f 0 (kHoldR K (mHF r1 q1) m1.toNatClampNeg).toInt64 := zFK_0 hT
    have eR9 : nI 0 = zPos (nI 1) (nI 2) (nI 3) (kHoldT K a1 r1 q1 m1 c1) := by rw [hT, zPos_0]
    refine lv_i2l (v := (kHoldR K (mHF r1 q1) m1.toNatClampNeg).toInt64) hx hb dL_hold_14 rfl ?_
    refine va_last hx hb hK hP hD hS 26 2 rfl rfl (i := nI 0) (vp_in_nI (by decide) (by decide)) dL_hold_15 (fun H locs hP hD hS => ?_)
    have hP : va_P D vwCl (kwO ad cI cZ cJ (zEK (kHoldT K a1 r1 q1 m1 c1) (kHoldE K a1.toNatClampNeg (mHF r1 q1) m1.toNatClampNeg c1) K) o (zFK (kHoldT K a1 r1 q1 m1 c1) (kHoldR K (mHF r1 q1) m1.toNatClampNeg) f)) H := by rw [eK9, eF9]; exact hP
    have hD : va_D A (kwO ad cI cZ cJ (zEK (kHoldT K a1 r1 q1 m1 c1) (kHoldE K a1.toNatClampNeg (mHF r1 q1) m1.toNatClampNeg c1) K) o (zFK (kHoldT K a1 r1 q1 m1 c1) (kHoldR K (mHF r1 q1) m1.toNatClampNeg) f)) := by rw [eK9, eF9]; exact hD
    refine lv_goto (tgt := 31) hx hb dL_hold_16 (by decide) ?_
    refine lv_iconst (v := nI 0) hx hb dL_hold_31 (by decide) ?_
    refine W.widen (k := 5) (n := 30) (Nat.le_of_ble_eq_true rfl) (Nat.le_of_ble_eq_true rfl) ?_
    exact W.iret (v := nI 0) hx hb hr (fun t ht hW => ⟨⟨nI 0, (), rfl, eR9, by rw [ht]; exact hP, va_K.moved hW.alike hK, hD⟩, hS.F ht⟩) hS.2.2 dL_hold_32
set_option maxHeartbeats 4000000 in
set_option maxRecDepth 100000 in
theorem kL_pay (l : Launch) (hl9 : l.stackTraces = false) (D : va_G) (cI cZ cJ : ClassId) (ad : Nat → Nat) (K : kS) (o : Nat) (f : Nat → Int64) (sz : Nat) (a1 : Int32) (x : Int32) (t9 : Nat) (hok : kHok K) (how : kOwn K) (ht8 : kPayT K a1 x = nI 0 → t9 < 170) (hts9 : K 22 0 = nI t9) : zMh l yL_pay wsL_pay ({ frames := 8, cells := 3, slots := 18, locals := 126 }) [.ref (ad 0), .int a1, .int x, .ref o] D (zTj cI cZ cJ) (kwO ad cI cZ cJ K o f) (kwO ad cI cZ cJ (zEK (kPayT K a1 x) (kPayE K a1.toNatClampNeg t9 x) K) o (zFK (kPayT K a1 x) (hLeft (kPayB K a1.toNatClampNeg x) a1.toNatClampNeg) f)) sz (zPos (nI 1) (nI 2) (nI 3) (kPayT K a1 x)) 3 18 := by
  refine va_MetW (cc := cL_pay) (maxL := 5) (ret := (some .int)) (hh := [(0, 10, 13, 27), (0, 10, 17, 13), (0, 10, 21, 15)]) (by decide) rfl ?_
  intro pP e s m args below meth c s₁ B hml hv
  obtain ⟨rfl, hsz, hP, hK, hD0, hE0, hN⟩ := hv
  have hx := B.exec
  have hb := B.bytes
  have hr := B.returns
  have hts := atoms_spec (ws := wsL_pay) B.pre
  have hTab := vx_table (x := yL_pay) B (hts (.codeWith yL_pay cL_pay 5 (some .int) [(0, 10, 13, 27), (0, 10, 17, 13), (0, 10, 21, 15)]) (List.mem_of_getElem? (i := 0) rfl))
  have hown : s.vm.findClass RL = some m.cls := findClass_of_methodNamed B.named
  subst hsz
  have hD := hD0.self (sz := s.heap.size)
  generalize hAe : va_A (kwO ad cI cZ cJ K o f) s.heap.size = A at hD hE0 ⊢
  have hE := hE0
  have hA : ∀ q : Nat, s.heap.size ≤ q → A q := fun q h => by rw [← hAe]; exact Or.inr h
  have hS : va_S A s.heap s.heap [] := va_S.rf
  have hK2 : va_K D vwCl (zTy cI cZ) s := hK.sub [0, 1] rfl
  have hl := lv_entry ([.ref (ad 0), .int a1, .int x, .ref o]) (n := 5) (Nat.le_of_ble_eq_true rfl)
  rw [lg_entry_eq]
  generalize (lg_sl ([.ref (ad 0), .int a1, .int x, .ref o]) ++ List.replicate (5 - (lg_sl ([.ref (ad 0), .int a1, .int x, .ref o])).length) Slot.unset).toArray = ls at hl ⊢
  have hl : lv_has ls 5 [(0, .ref (ad 0)), (1, .int a1), (2, .int x), (3, .ref o)] := hl
  refine lv_aload_n hx hb dL_pay_0 rfl (lv_at hl 3 rfl) ?_
  refine lv_iconst (v := nI 0) hx hb dL_pay_1 (by decide) ?_
  refine lv_aload_n hx hb dL_pay_2 rfl (lv_at hl 0 rfl) ?_
  refine lv_iload_n hx hb dL_pay_3 rfl (lv_at hl 1 rfl) ?_
  refine lv_iload_n hx hb dL_pay_4 rfl (lv_at hl 2 rfl) ?_
  refine zx_Vi (As := [.int a1, .int x]) (rest := [.int (nI 0), .ref o]) (wr := [(o, .inl (cJ, 1, .inr (.inl f)))]) ⟨hx, hb, hml, hown, hts⟩ (kX5_pay l hl9 D cI cZ ad K _ a1 x t9 hok how ht8 hts9) (cwV 2 hts gL_pay_X5_pay rfl rfl rfl (by decide +kernel) ⟨(Nat.le_of_ble_eq_true rfl), (Nat.le_of_ble_eq_true rfl)⟩) hK2 hP hD hS hA hE [0, 1, 2, 3, 4, 5, 6, 7, 8, 9, 10, 11, 12, 13, 14, 15, 16, 17, 18, 19, 20, 21, 22, 23, 24, 25] [26] rfl rfl rfl rfl rfl (by decide) (ci := 5) (q0 := 0) rfl rfl rfl rfl hl.1 rfl (Nat.le_of_ble_eq_true rfl) dL_pay_5 ⟨(Nat.le_of_ble_eq_true rfl), (Nat.le_of_ble_eq_true rfl)⟩ (fun E ce q9 H locs h0 hE9 hP hD hS hce hcv hcl => ?_) (fun hT H locs hP hD hS => ?_)
  · skip
    have hP := hP.sub (ws' := (kwO ad cI cZ cJ K o f)) [1, 2, 3, 4, 5, 6, 7, 8, 9, 10, 11, 12, 13, 14, 15, 16, 17, 18, 19, 20, 21, 22, 23, 24, 25, 26, 0] rfl
    have hD := hD.sub (ws' := (kwO ad cI cZ cJ K o f)) [1, 2, 3, 4, 5, 6, 7, 8, 9, 10, 11, 12, 13, 14, 15, 16, 17, 18, 19, 20, 21, 22, 23, 24, 25, 26, 0] rfl rfl
    have h0 : ¬ kPayT K a1 x = nI 0 := h0
    have hE9 : E = zN (kPayT K a1 x) := hE9
    have eK9 : zEK (kPayT K a1 x) (kPayE K a1.toNatClampNeg t9 x) K = K := zEK_n h0
    have eF9 : zFK (kPayT K a1 x) (hLeft (kPayB K a1.toNatClampNeg x) a1.toNatClampNeg) f = f := zFK_n h0
    have hr9 : zRng true true true (kPayT K a1 x) := kPayT_r
    rcases hr9.resolve_left h0 with ⟨h8, h9⟩ | ⟨h8, h9⟩ | ⟨h8, h9⟩
    · skip
      have hE8 : E = "java/lang/IndexOutOfBoundsException" := by rw [hE9, h9, zN_1]
      subst hE8
      refine vx_catch (own := RL) (name := "java/lang/IndexOutOfBoundsException") hown [] ⟨0, 10, 13, 27⟩ [⟨0, 10, 17, 13⟩, ⟨0, 10, 21, 15⟩] (by rw [hTab]; rfl) (fun _ h => absurd h List.not_mem_nil) (by decide) (by decide) (hts (.classLink RL 27 "java/lang/IndexOutOfBoundsException") (List.mem_of_getElem? (i := 1) rfl)) (va_Nw.use rfl (hE.1 (.castable "java/lang/IndexOutOfBoundsException" "java/lang/IndexOutOfBoundsException") (List.mem_of_getElem? (i := 39) rfl))) hce hcv hcl ?_
      refine lv_astore (lv' := [(4, .ref q9), (0, .ref (ad 0)), (1, .int a1), (2, .int x), (3, .ref o)]) hx hb dL_pay_13 hl (by decide) rfl (fun ls hl => ?_)
      refine lv_iconst (v := nI 1) hx hb dL_pay_15 (by decide) ?_
      have eR9 : nI 1 = zPos (nI 1) (nI 2) (nI 3) (kPayT K a1 x) := by rw [h9, zPos_1]
      have hP9 : va_P D vwCl (kwO ad cI cZ cJ (zEK (kPayT K a1 x) (kPayE K a1.toNatClampNeg t9 x) K) o (zFK (kPayT K a1 x) (hLeft (kPayB K a1.toNatClampNeg x) a1.toNatClampNeg) f)) H := by rw [eK9, eF9]; exact hP
      have hD9 : va_D A (kwO ad cI cZ cJ (zEK (kPayT K a1 x) (kPayE K a1.toNatClampNeg t9 x) K) o (zFK (kPayT K a1 x) (hLeft (kPayB K a1.toNatClampNeg x) a1.toNatClampNeg) f)) := by rw [eK9, eF9]; exact hD
      refine W.widen (k := 3) (n := 18) (Nat.le_of_ble_eq_true rfl) (Nat.le_of_ble_eq_true rfl) ?_
      exact W.iret (v := nI 1) hx hb hr (fun t ht hW => ⟨⟨nI 1, (), rfl, eR9, by rw [ht]; exact hP9, va_K.moved hW.alike hK, hD9⟩, hS.F ht⟩) hS.2.2 dL_pay_16
    · skip
      have hE8 : E = "java/lang/IllegalArgumentException" := by rw [hE9, h9, zN_2]
      subst hE8
      refine vx_catch (own := RL) (name := "java/lang/IllegalArgumentException") hown [⟨0, 10, 13, 27⟩] ⟨0, 10, 17, 13⟩ [⟨0, 10, 21, 15⟩] (by rw [hTab]; rfl) (List.forall_mem_cons.mpr ⟨Or.inr ⟨by decide, "java/lang/IndexOutOfBoundsException", (hts (.classLink RL 27 "java/lang/IndexOutOfBoundsException") (List.mem_of_getElem? (i := 1) rfl)), hN.2.1⟩, (fun _ h => absurd h List.not_mem_nil)⟩) (by decide) (by decide) (hts (.classLink RL 13 "java/lang/IllegalArgumentException") (List.mem_of_getElem? (i := 2) rfl)) (va_Nw.use rfl (hE.1 (.castable "java/lang/IllegalArgumentException" "java/lang/IllegalArgumentException") (List.mem_of_getElem? (i := 40) rfl))) hce hcv hcl ?_
      refine lv_astore (lv' := [(4, .ref q9), (0, .ref (ad 0)), (1, .int a1), (2, .int x), (3, .ref o)]) hx hb dL_pay_17 hl (by decide) rfl (fun ls hl => ?_)
      refine lv_iconst (v := nI 2) hx hb dL_pay_19 (by decide) ?_
      have eR9 : nI 2 = zPos (nI 1) (nI 2) (nI 3) (kPayT K a1 x) := by rw [h9, zPos_2]
      have hP9 : va_P D vwCl (kwO ad cI cZ cJ (zEK (kPayT K a1 x) (kPayE K a1.toNatClampNeg t9 x) K) o (zFK (kPayT K a1 x) (hLeft (kPayB K a1.toNatClampNeg x) a1.toNatClampNeg) f)) H := by rw [eK9, eF9]; exact hP
      have hD9 : va_D A (kwO ad cI cZ cJ (zEK (kPayT K a1 x) (kPayE K a1.toNatClampNeg t9 x) K) o (zFK (kPayT K a1 x) (hLeft (kPayB K a1.toNatClampNeg x) a1.toNatClampNeg) f)) := by rw [eK9, eF9]; exact hD
      refine W.widen (k := 3) (n := 18) (Nat.le_of_ble_eq_true rfl) (Nat.le_of_ble_eq_true rfl) ?_
      exact W.iret (v := nI 2) hx hb hr (fun t ht hW => ⟨⟨nI 2, (), rfl, eR9, by rw [ht]; exact hP9, va_K.moved hW.alike hK, hD9⟩, hS.F ht⟩) hS.2.2 dL_pay_20
    · skip
      have hE8 : E = "java/lang/IllegalStateException" := by rw [hE9, h9, zN_3]
      subst hE8
      refine vx_catch (own := RL) (name := "java/lang/IllegalStateException") hown [⟨0, 10, 13, 27⟩, ⟨0, 10, 17, 13⟩] ⟨0, 10, 21, 15⟩ [] (by rw [hTab]; rfl) (List.forall_mem_cons.mpr ⟨Or.inr ⟨by decide, "java/lang/IndexOutOfBoundsException", (hts (.classLink RL 27 "java/lang/IndexOutOfBoundsException") (List.mem_of_getElem? (i := 1) rfl)), hN.2.2⟩, (List.forall_mem_cons.mpr ⟨Or.inr ⟨by decide, "java/lang/IllegalArgumentException", (hts (.classLink RL 13 "java/lang/IllegalArgumentException") (List.mem_of_getElem? (i := 2) rfl)), hN.1⟩, (fun _ h => absurd h List.not_mem_nil)⟩)⟩) (by decide) (by decide) (hts (.classLink RL 15 "java/lang/IllegalStateException") (List.mem_of_getElem? (i := 3) rfl)) (va_Nw.use rfl (hE.1 (.castable "java/lang/IllegalStateException" "java/lang/IllegalStateException") (List.mem_of_getElem? (i := 41) rfl))) hce hcv hcl ?_
      refine lv_astore (lv' := [(4, .ref q9), (0, .ref (ad 0)), (1, .int a1), (2, .int x), (3, .ref o)]) hx hb dL_pay_21 hl (by decide) rfl (fun ls hl => ?_)
      refine lv_iconst (v := nI 3) hx hb dL_pay_23 (by decide) ?_
      have eR9 : nI 3 = zPos (nI 1) (nI 2) (nI 3) (kPayT K a1 x) := by rw [h9, zPos_3]
      have hP9 : va_P D vwCl (kwO ad cI cZ cJ (zEK (kPayT K a1 x) (kPayE K a1.toNatClampNeg t9 x) K) o (zFK (kPayT K a1 x) (hLeft (kPayB K a1.toNatClampNeg x) a1.toNatClampNeg) f)) H := by rw [eK9, eF9]; exact hP
      have hD9 : va_D A (kwO ad cI cZ cJ (zEK (kPayT K a1 x) (kPayE K a1.toNatClampNeg t9 x) K) o (zFK (kPayT K a1 x) (hLeft (kPayB K a1.toNatClampNeg x) a1.toNatClampNeg) f)) := by rw [eK9, eF9]; exact hD
      refine W.widen (k := 3) (n := 18) (Nat.le_of_ble_eq_true rfl) (Nat.le_of_ble_eq_true rfl) ?_
      exact W.iret (v := nI 3) hx hb hr (fun t ht hW => ⟨⟨nI 3, (), rfl, eR9, by rw [ht]; exact hP9, va_K.moved hW.alike hK, hD9⟩, hS.F ht⟩) hS.2.2 dL_pay_24
  · skip
    have hP := hP.sub (ws' := (kwO ad cI cZ cJ (kPayE K a1.toNatClampNeg t9 x) o f)) [1, 2, 3, 4, 5, 6, 7, 8, 9, 10, 11, 12, 13, 14, 15, 16, 17, 18, 19, 20, 21, 22, 23, 24, 25, 26, 0] rfl
    have hD := hD.sub (ws' := (kwO ad cI cZ cJ (kPayE K a1.toNatClampNeg t9 x) o f)) [1, 2, 3, 4, 5, 6, 7, 8, 9, 10, 11, 12, 13, 14, 15, 16, 17, 18, 19, 20, 21, 22, 23, 24, 25, 26, 0] rfl rfl
    have hT : kPayT K a1 x = nI 0 := hT
    have eK9 : zEK (kPayT K a1 x) (kPayE K a1.toNatClampNeg t9 x) K = kPayE K a1.toNatClampNeg t9 x := zEK_0 hT
    have eF9 : zFK (kPayT K a1 x) (hLeft (kPayB K a1.toNatClampNeg x) a1.toNatClampNeg) f = vp_updL f 0 (hLeft (kPayB K a1.toNatClampNeg x) a1.toNatClampNeg).toInt64 := zFK_0 hT
    have eR9 : nI 0 = zPos (nI 1) (nI 2) (nI 3) (kPayT K a1 x) := by rw [hT, zPos_0]
    refine lv_i2l (v := (hLeft (kPayB K a1.toNatClampNeg x) a1.toNatClampNeg).toInt64) hx hb dL_pay_8 rfl ?_
    refine va_last hx hb hK hP hD hS 26 2 rfl rfl (i := nI 0) (vp_in_nI (by decide) (by decide)) dL_pay_9 (fun H locs hP hD hS => ?_)
    have hP : va_P D vwCl (kwO ad cI cZ cJ (zEK (kPayT K a1 x) (kPayE K a1.toNatClampNeg t9 x) K) o (zFK (kPayT K a1 x) (hLeft (kPayB K a1.toNatClampNeg x) a1.toNatClampNeg) f)) H := by rw [eK9, eF9]; exact hP
    have hD : va_D A (kwO ad cI cZ cJ (zEK (kPayT K a1 x) (kPayE K a1.toNatClampNeg t9 x) K) o (zFK (kPayT K a1 x) (hLeft (kPayB K a1.toNatClampNeg x) a1.toNatClampNeg) f)) := by rw [eK9, eF9]; exact hD
    refine lv_goto (tgt := 25) hx hb dL_pay_10 (by decide) ?_
    refine lv_iconst (v := nI 0) hx hb dL_pay_25 (by decide) ?_
    refine W.widen (k := 3) (n := 18) (Nat.le_of_ble_eq_true rfl) (Nat.le_of_ble_eq_true rfl) ?_
    exact W.iret (v := nI 0) hx hb hr (fun t ht hW => ⟨⟨nI 0, (), rfl, eR9, by rw [ht]; exact hP, va_K.moved hW.alike hK, hD⟩, hS.F ht⟩) hS.2.2 dL_pay_26
set_option maxHeartbeats 4000000 in
set_option maxRecDepth 100000 in
theorem kL_letGo (l : Launch) (hl9 : l.stackTraces = false) (D : va_G) (cI cZ cJ : ClassId) (ad : Nat → Nat) (K : kS) (o : Nat) (f : Nat → Int64) (sz : Nat) (x : Int32)  (hok : kHok K) : zMh l yL_letGo wsL_letGo ({ frames := 8, cells := 2, slots := 12, locals := 124 }) [.ref (ad 0), .int x, .ref o] D (zTj cI cZ cJ) (kwO ad cI cZ cJ K o f) (kwO ad cI cZ cJ (zEK (kGoT K x) (kBackAt K x.toNatClampNeg) K) o (zFK (kGoT K x) (K 13 x.toNatClampNeg) f)) sz (zPos (nI 1) (nI 0) (nI 2) (kGoT K x)) 2 12 := by
  refine va_MetW (cc := cL_letGo) (maxL := 4) (ret := (some .int)) (hh := [(0, 9, 12, 27), (0, 9, 15, 15)]) (by decide) rfl ?_
  intro pP e s m args below meth c s₁ B hml hv
  obtain ⟨rfl, hsz, hP, hK, hD0, hE0, hN⟩ := hv
  have hx := B.exec
  have hb := B.bytes
  have hr := B.returns
  have hts := atoms_spec (ws := wsL_letGo) B.pre
  have hTab := vx_table (x := yL_letGo) B (hts (.codeWith yL_letGo cL_letGo 4 (some .int) [(0, 9, 12, 27), (0, 9, 15, 15)]) (List.mem_of_getElem? (i := 0) rfl))
  have hown : s.vm.findClass RL = some m.cls := findClass_of_methodNamed B.named
  subst hsz
  have hD := hD0.self (sz := s.heap.size)
  generalize hAe : va_A (kwO ad cI cZ cJ K o f) s.heap.size = A at hD hE0 ⊢
  have hE := hE0
  have hA : ∀ q : Nat, s.heap.size ≤ q → A q := fun q h => by rw [← hAe]; exact Or.inr h
  have hS : va_S A s.heap s.heap [] := va_S.rf
  have hK2 : va_K D vwCl (zTy cI cZ) s := hK.sub [0, 1] rfl
  have hl := lv_entry ([.ref (ad 0), .int x, .ref o]) (n := 4) (Nat.le_of_ble_eq_true rfl)
  rw [lg_entry_eq]
  generalize (lg_sl ([.ref (ad 0), .int x, .ref o]) ++ List.replicate (4 - (lg_sl ([.ref (ad 0), .int x, .ref o])).length) Slot.unset).toArray = ls at hl ⊢
  have hl : lv_has ls 4 [(0, .ref (ad 0)), (1, .int x), (2, .ref o)] := hl
  refine lv_aload_n hx hb dL_letGo_0 rfl (lv_at hl 2 rfl) ?_
  refine lv_iconst (v := nI 0) hx hb dL_letGo_1 (by decide) ?_
  refine lv_aload_n hx hb dL_letGo_2 rfl (lv_at hl 0 rfl) ?_
  refine lv_iload_n hx hb dL_letGo_3 rfl (lv_at hl 1 rfl) ?_
  refine zx_Vi (As := [.int x]) (rest := [.int (nI 0), .ref o]) (wr := [(o, .inl (cJ, 1, .inr (.inl f)))]) ⟨hx, hb, hml, hown, hts⟩ (kX5_letGo l hl9 D cI cZ ad K _ x  hok) (cwV 1 hts gL_letGo_X5_letGo rfl rfl rfl (by decide +kernel) ⟨(Nat.le_of_ble_eq_true rfl), (Nat.le_of_ble_eq_true rfl)⟩) hK2 hP hD hS hA hE [0, 1, 2, 3, 4, 5, 6, 7, 8, 9, 10, 11, 12, 13, 14, 15, 16, 17, 18, 19, 20, 21, 22, 23, 24, 25] [26] rfl rfl rfl rfl rfl (by decide) (ci := 5) (q0 := 0) rfl rfl rfl rfl hl.1 rfl (Nat.le_of_ble_eq_true rfl) dL_letGo_4 ⟨(Nat.le_of_ble_eq_true rfl), (Nat.le_of_ble_eq_true rfl)⟩ (fun E ce q9 H locs h0 hE9 hP hD hS hce hcv hcl => ?_) (fun hT H locs hP hD hS => ?_)
  · skip
    have hP := hP.sub (ws' := (kwO ad cI cZ cJ K o f)) [1, 2, 3, 4, 5, 6, 7, 8, 9, 10, 11, 12, 13, 14, 15, 16, 17, 18, 19, 20, 21, 22, 23, 24, 25, 26, 0] rfl
    have hD := hD.sub (ws' := (kwO ad cI cZ cJ K o f)) [1, 2, 3, 4, 5, 6, 7, 8, 9, 10, 11, 12, 13, 14, 15, 16, 17, 18, 19, 20, 21, 22, 23, 24, 25, 26, 0] rfl rfl
    have h0 : ¬ kGoT K x = nI 0 := h0
    have hE9 : E = zN (kGoT K x) := hE9
    have eK9 : zEK (kGoT K x) (kBackAt K x.toNatClampNeg) K = K := zEK_n h0
    have eF9 : zFK (kGoT K x) (K 13 x.toNatClampNeg) f = f := zFK_n h0
    have hr9 : zRng true false true (kGoT K x) := kGoT_r
    rcases hr9.resolve_left h0 with ⟨h8, h9⟩ | ⟨h8, h9⟩ | ⟨h8, h9⟩
    · skip
      have hE8 : E = "java/lang/IndexOutOfBoundsException" := by rw [hE9, h9, zN_1]
      subst hE8
      refine vx_catch (own := RL) (name := "java/lang/IndexOutOfBoundsException") hown [] ⟨0, 9, 12, 27⟩ [⟨0, 9, 15, 15⟩] (by rw [hTab]; rfl) (fun _ h => absurd h List.not_mem_nil) (by decide) (by decide) (hts (.classLink RL 27 "java/lang/IndexOutOfBoundsException") (List.mem_of_getElem? (i := 1) rfl)) (va_Nw.use rfl (hE.1 (.castable "java/lang/IndexOutOfBoundsException" "java/lang/IndexOutOfBoundsException") (List.mem_of_getElem? (i := 39) rfl))) hce hcv hcl ?_
      refine lv_astore_n (lv' := [(3, .ref q9), (0, .ref (ad 0)), (1, .int x), (2, .ref o)]) hx hb dL_letGo_12 rfl hl (by decide) rfl (fun ls hl => ?_)
      refine lv_iconst (v := nI 1) hx hb dL_letGo_13 (by decide) ?_
      have eR9 : nI 1 = zPos (nI 1) (nI 0) (nI 2) (kGoT K x) := by rw [h9, zPos_1]
      have hP9 : va_P D vwCl (kwO ad cI cZ cJ (zEK (kGoT K x) (kBackAt K x.toNatClampNeg) K) o (zFK (kGoT K x) (K 13 x.toNatClampNeg) f)) H := by rw [eK9, eF9]; exact hP
      have hD9 : va_D A (kwO ad cI cZ cJ (zEK (kGoT K x) (kBackAt K x.toNatClampNeg) K) o (zFK (kGoT K x) (K 13 x.toNatClampNeg) f)) := by rw [eK9, eF9]; exact hD
      refine W.widen (k := 2) (n := 12) (Nat.le_of_ble_eq_true rfl) (Nat.le_of_ble_eq_true rfl) ?_
      exact W.iret (v := nI 1) hx hb hr (fun t ht hW => ⟨⟨nI 1, (), rfl, eR9, by rw [ht]; exact hP9, va_K.moved hW.alike hK, hD9⟩, hS.F ht⟩) hS.2.2 dL_letGo_14
    · skip
      exact nomatch h8
    · skip
      have hE8 : E = "java/lang/IllegalStateException" := by rw [hE9, h9, zN_3]
      subst hE8
      refine vx_catch (own := RL) (name := "java/lang/IllegalStateException") hown [⟨0, 9, 12, 27⟩] ⟨0, 9, 15, 15⟩ [] (by rw [hTab]; rfl) (List.forall_mem_cons.mpr ⟨Or.inr ⟨by decide, "java/lang/IndexOutOfBoundsException", (hts (.classLink RL 27 "java/lang/IndexOutOfBoundsException") (List.mem_of_getElem? (i := 1) rfl)), hN.2.2⟩, (fun _ h => absurd h List.not_mem_nil)⟩) (by decide) (by decide) (hts (.classLink RL 15 "java/lang/IllegalStateException") (List.mem_of_getElem? (i := 2) rfl)) (va_Nw.use rfl (hE.1 (.castable "java/lang/IllegalStateException" "java/lang/IllegalStateException") (List.mem_of_getElem? (i := 41) rfl))) hce hcv hcl ?_
      refine lv_astore_n (lv' := [(3, .ref q9), (0, .ref (ad 0)), (1, .int x), (2, .ref o)]) hx hb dL_letGo_15 rfl hl (by decide) rfl (fun ls hl => ?_)
      refine lv_iconst (v := nI 2) hx hb dL_letGo_16 (by decide) ?_
      have eR9 : nI 2 = zPos (nI 1) (nI 0) (nI 2) (kGoT K x) := by rw [h9, zPos_3]
      have hP9 : va_P D vwCl (kwO ad cI cZ cJ (zEK (kGoT K x) (kBackAt K x.toNatClampNeg) K) o (zFK (kGoT K x) (K 13 x.toNatClampNeg) f)) H := by rw [eK9, eF9]; exact hP
      have hD9 : va_D A (kwO ad cI cZ cJ (zEK (kGoT K x) (kBackAt K x.toNatClampNeg) K) o (zFK (kGoT K x) (K 13 x.toNatClampNeg) f)) := by rw [eK9, eF9]; exact hD
      refine W.widen (k := 2) (n := 12) (Nat.le_of_ble_eq_true rfl) (Nat.le_of_ble_eq_true rfl) ?_
      exact W.iret (v := nI 2) hx hb hr (fun t ht hW => ⟨⟨nI 2, (), rfl, eR9, by rw [ht]; exact hP9, va_K.moved hW.alike hK, hD9⟩, hS.F ht⟩) hS.2.2 dL_letGo_17
  · skip
    have hP := hP.sub (ws' := (kwO ad cI cZ cJ (kBackAt K x.toNatClampNeg) o f)) [1, 2, 3, 4, 5, 6, 7, 8, 9, 10, 11, 12, 13, 14, 15, 16, 17, 18, 19, 20, 21, 22, 23, 24, 25, 26, 0] rfl
    have hD := hD.sub (ws' := (kwO ad cI cZ cJ (kBackAt K x.toNatClampNeg) o f)) [1, 2, 3, 4, 5, 6, 7, 8, 9, 10, 11, 12, 13, 14, 15, 16, 17, 18, 19, 20, 21, 22, 23, 24, 25, 26, 0] rfl rfl
    have hT : kGoT K x = nI 0 := hT
    have eK9 : zEK (kGoT K x) (kBackAt K x.toNatClampNeg) K = kBackAt K x.toNatClampNeg := zEK_0 hT
    have eF9 : zFK (kGoT K x) (K 13 x.toNatClampNeg) f = vp_updL f 0 (K 13 x.toNatClampNeg).toInt64 := zFK_0 hT
    have eR9 : nI 0 = zPos (nI 1) (nI 0) (nI 2) (kGoT K x) := by rw [hT, zPos_0]
    refine lv_i2l (v := (K 13 x.toNatClampNeg).toInt64) hx hb dL_letGo_7 rfl ?_
    refine va_last hx hb hK hP hD hS 26 2 rfl rfl (i := nI 0) (vp_in_nI (by decide) (by decide)) dL_letGo_8 (fun H locs hP hD hS => ?_)
    have hP : va_P D vwCl (kwO ad cI cZ cJ (zEK (kGoT K x) (kBackAt K x.toNatClampNeg) K) o (zFK (kGoT K x) (K 13 x.toNatClampNeg) f)) H := by rw [eK9, eF9]; exact hP
    have hD : va_D A (kwO ad cI cZ cJ (zEK (kGoT K x) (kBackAt K x.toNatClampNeg) K) o (zFK (kGoT K x) (K 13 x.toNatClampNeg) f)) := by rw [eK9, eF9]; exact hD
    refine lv_goto (tgt := 18) hx hb dL_letGo_9 (by decide) ?_
    refine lv_iconst (v := nI 0) hx hb dL_letGo_18 (by decide) ?_
    refine W.widen (k := 2) (n := 12) (Nat.le_of_ble_eq_true rfl) (Nat.le_of_ble_eq_true rfl) ?_
    exact W.iret (v := nI 0) hx hb hr (fun t ht hW => ⟨⟨nI 0, (), rfl, eR9, by rw [ht]; exact hP, va_K.moved hW.alike hK, hD⟩, hS.F ht⟩) hS.2.2 dL_letGo_19
set_option maxHeartbeats 4000000 in
set_option maxRecDepth 100000 in
theorem kL_lapses (l : Launch) (hl9 : l.stackTraces = false) (D : va_G) (cI cZ cJ : ClassId) (ad : Nat → Nat) (K : kS) (o : Nat) (f : Nat → Int64) (sz : Nat) (x : Int32)   : zMh l yL_lapses wsL_lapses ({ frames := 8, cells := 1, slots := 6, locals := 123 }) [.ref (ad 0), .int x, .ref o] D (zTj cI cZ cJ) (kwO ad cI cZ cJ K o f) (kwO ad cI cZ cJ (zEK (kLapT x) (K) K) o (zFK (kLapT x) (kLapR K x.toNatClampNeg) f)) sz (zPos (nI 1) (nI 0) (nI 0) (kLapT x)) 1 6 := by
  refine va_MetW (cc := cL_lapses) (maxL := 4) (ret := (some .int)) (hh := [(0, 9, 12, 27)]) (by decide) rfl ?_
  intro pP e s m args below meth c s₁ B hml hv
  obtain ⟨rfl, hsz, hP, hK, hD0, hE0, hN⟩ := hv
  have hx := B.exec
  have hb := B.bytes
  have hr := B.returns
  have hts := atoms_spec (ws := wsL_lapses) B.pre
  have hTab := vx_table (x := yL_lapses) B (hts (.codeWith yL_lapses cL_lapses 4 (some .int) [(0, 9, 12, 27)]) (List.mem_of_getElem? (i := 0) rfl))
  have hown : s.vm.findClass RL = some m.cls := findClass_of_methodNamed B.named
  subst hsz
  have hD := hD0.self (sz := s.heap.size)
  generalize hAe : va_A (kwO ad cI cZ cJ K o f) s.heap.size = A at hD hE0 ⊢
  have hE := hE0
  have hA : ∀ q : Nat, s.heap.size ≤ q → A q := fun q h => by rw [← hAe]; exact Or.inr h
  have hS : va_S A s.heap s.heap [] := va_S.rf
  have hK2 : va_K D vwCl (zTy cI cZ) s := hK.sub [0, 1] rfl
  have hl := lv_entry ([.ref (ad 0), .int x, .ref o]) (n := 4) (Nat.le_of_ble_eq_true rfl)
  rw [lg_entry_eq]
  generalize (lg_sl ([.ref (ad 0), .int x, .ref o]) ++ List.replicate (4 - (lg_sl ([.ref (ad 0), .int x, .ref o])).length) Slot.unset).toArray = ls at hl ⊢
  have hl : lv_has ls 4 [(0, .ref (ad 0)), (1, .int x), (2, .ref o)] := hl
  refine lv_aload_n hx hb dL_lapses_0 rfl (lv_at hl 2 rfl) ?_
  refine lv_iconst (v := nI 0) hx hb dL_lapses_1 (by decide) ?_
  refine lv_aload_n hx hb dL_lapses_2 rfl (lv_at hl 0 rfl) ?_
  refine lv_iload_n hx hb dL_lapses_3 rfl (lv_at hl 1 rfl) ?_
  refine zx_Vi (As := [.int x]) (rest := [.int (nI 0), .ref o]) (wr := [(o, .inl (cJ, 1, .inr (.inl f)))]) ⟨hx, hb, hml, hown, hts⟩ (kX5_lapses l hl9 D cI cZ ad K _ x  ) (cwV 1 hts gL_lapses_X5_lapses rfl rfl rfl (by decide +kernel) ⟨(Nat.le_of_ble_eq_true rfl), (Nat.le_of_ble_eq_true rfl)⟩) hK2 hP hD hS hA hE [0, 1, 2, 3, 4, 5, 6, 7, 8, 9, 10, 11, 12, 13, 14, 15, 16, 17, 18, 19, 20, 21, 22, 23, 24, 25] [26] rfl rfl rfl rfl rfl (by decide) (ci := 5) (q0 := 0) rfl rfl rfl rfl hl.1 rfl (Nat.le_of_ble_eq_true rfl) dL_lapses_4 ⟨(Nat.le_of_ble_eq_true rfl), (Nat.le_of_ble_eq_true rfl)⟩ (fun E ce q9 H locs h0 hE9 hP hD hS hce hcv hcl => ?_) (fun hT H locs hP hD hS => ?_)
  · skip
    have hP := hP.sub (ws' := (kwO ad cI cZ cJ K o f)) [1, 2, 3, 4, 5, 6, 7, 8, 9, 10, 11, 12, 13, 14, 15, 16, 17, 18, 19, 20, 21, 22, 23, 24, 25, 26, 0] rfl
    have hD := hD.sub (ws' := (kwO ad cI cZ cJ K o f)) [1, 2, 3, 4, 5, 6, 7, 8, 9, 10, 11, 12, 13, 14, 15, 16, 17, 18, 19, 20, 21, 22, 23, 24, 25, 26, 0] rfl rfl
    have h0 : ¬ kLapT x = nI 0 := h0
    have hE9 : E = zN (kLapT x) := hE9
    have eK9 : zEK (kLapT x) (K) K = K := zEK_n h0
    have eF9 : zFK (kLapT x) (kLapR K x.toNatClampNeg) f = f := zFK_n h0
    have hr9 : zRng true false false (kLapT x) := kLapT_r
    rcases hr9.resolve_left h0 with ⟨h8, h9⟩ | ⟨h8, h9⟩ | ⟨h8, h9⟩
    · skip
      have hE8 : E = "java/lang/IndexOutOfBoundsException" := by rw [hE9, h9, zN_1]
      subst hE8
      refine vx_catch (own := RL) (name := "java/lang/IndexOutOfBoundsException") hown [] ⟨0, 9, 12, 27⟩ [] (by rw [hTab]; rfl) (fun _ h => absurd h List.not_mem_nil) (by decide) (by decide) (hts (.classLink RL 27 "java/lang/IndexOutOfBoundsException") (List.mem_of_getElem? (i := 1) rfl)) (va_Nw.use rfl (hE.1 (.castable "java/lang/IndexOutOfBoundsException" "java/lang/IndexOutOfBoundsException") (List.mem_of_getElem? (i := 39) rfl))) hce hcv hcl ?_
      refine lv_astore_n (lv' := [(3, .ref q9), (0, .ref (ad 0)), (1, .int x), (2, .ref o)]) hx hb dL_lapses_12 rfl hl (by decide) rfl (fun ls hl => ?_)
      refine lv_iconst (v := nI 1) hx hb dL_lapses_13 (by decide) ?_
      have eR9 : nI 1 = zPos (nI 1) (nI 0) (nI 0) (kLapT x) := by rw [h9, zPos_1]
      have hP9 : va_P D vwCl (kwO ad cI cZ cJ (zEK (kLapT x) (K) K) o (zFK (kLapT x) (kLapR K x.toNatClampNeg) f)) H := by rw [eK9, eF9]; exact hP
      have hD9 : va_D A (kwO ad cI cZ cJ (zEK (kLapT x) (K) K) o (zFK (kLapT x) (kLapR K x.toNatClampNeg) f)) := by rw [eK9, eF9]; exact hD
      refine W.widen (k := 1) (n := 6) (Nat.le_of_ble_eq_true rfl) (Nat.le_of_ble_eq_true rfl) ?_
      exact W.iret (v := nI 1) hx hb hr (fun t ht hW => ⟨⟨nI 1, (), rfl, eR9, by rw [ht]; exact hP9, va_K.moved hW.alike hK, hD9⟩, hS.F ht⟩) hS.2.2 dL_lapses_14
    · skip
      exact nomatch h8
    · skip
      exact nomatch h8
  · skip
    have hP := hP.sub (ws' := (kwO ad cI cZ cJ (K) o f)) [1, 2, 3, 4, 5, 6, 7, 8, 9, 10, 11, 12, 13, 14, 15, 16, 17, 18, 19, 20, 21, 22, 23, 24, 25, 26, 0] rfl
    have hD := hD.sub (ws' := (kwO ad cI cZ cJ (K) o f)) [1, 2, 3, 4, 5, 6, 7, 8, 9, 10, 11, 12, 13, 14, 15, 16, 17, 18, 19, 20, 21, 22, 23, 24, 25, 26, 0] rfl rfl
    have hT : kLapT x = nI 0 := hT
    have eK9 : zEK (kLapT x) (K) K = K := zEK_0 hT
    have eF9 : zFK (kLapT x) (kLapR K x.toNatClampNeg) f = vp_updL f 0 (kLapR K x.toNatClampNeg).toInt64 := zFK_0 hT
    have eR9 : nI 0 = zPos (nI 1) (nI 0) (nI 0) (kLapT x) := by rw [hT, zPos_0]
    refine lv_i2l (v := (kLapR K x.toNatClampNeg).toInt64) hx hb dL_lapses_7 rfl ?_
    refine va_last hx hb hK hP hD hS 26 2 rfl rfl (i := nI 0) (vp_in_nI (by decide) (by decide)) dL_lapses_8 (fun H locs hP hD hS => ?_)
    have hP : va_P D vwCl (kwO ad cI cZ cJ (zEK (kLapT x) (K) K) o (zFK (kLapT x) (kLapR K x.toNatClampNeg) f)) H := by rw [eK9, eF9]; exact hP
    have hD : va_D A (kwO ad cI cZ cJ (zEK (kLapT x) (K) K) o (zFK (kLapT x) (kLapR K x.toNatClampNeg) f)) := by rw [eK9, eF9]; exact hD
    refine lv_goto (tgt := 15) hx hb dL_lapses_9 (by decide) ?_
    refine lv_iconst (v := nI 0) hx hb dL_lapses_15 (by decide) ?_
    refine W.widen (k := 1) (n := 6) (Nat.le_of_ble_eq_true rfl) (Nat.le_of_ble_eq_true rfl) ?_
    exact W.iret (v := nI 0) hx hb hr (fun t ht hW => ⟨⟨nI 0, (), rfl, eR9, by rw [ht]; exact hP, va_K.moved hW.alike hK, hD⟩, hS.F ht⟩) hS.2.2 dL_lapses_16
set_option maxHeartbeats 4000000 in
set_option maxRecDepth 100000 in
theorem kL_state (l : Launch) (hl9 : l.stackTraces = false) (D : va_G) (cI cZ cJ : ClassId) (ad : Nat → Nat) (K : kS) (o : Nat) (f : Nat → Int64) (sz : Nat) (x : Int32)   : zMh l yL_state wsL_state ({ frames := 8, cells := 1, slots := 6, locals := 123 }) [.ref (ad 0), .int x, .ref o] D (zTj cI cZ cJ) (kwO ad cI cZ cJ K o f) (kwO ad cI cZ cJ (zEK (kSeaT x) (K) K) o (zFK (kSeaT x) (sState K x.toNatClampNeg) f)) sz (zPos (nI 1) (nI 0) (nI 0) (kSeaT x)) 1 6 := by
  refine va_MetW (cc := cL_state) (maxL := 4) (ret := (some .int)) (hh := [(0, 9, 12, 27)]) (by decide) rfl ?_
  intro pP e s m args below meth c s₁ B hml hv
  obtain ⟨rfl, hsz, hP, hK, hD0, hE0, hN⟩ := hv
  have hx := B.exec
  have hb := B.bytes
  have hr := B.returns
  have hts := atoms_spec (ws := wsL_state) B.pre
  have hTab := vx_table (x := yL_state) B (hts (.codeWith yL_state cL_state 4 (some .int) [(0, 9, 12, 27)]) (List.mem_of_getElem? (i := 0) rfl))
  have hown : s.vm.findClass RL = some m.cls := findClass_of_methodNamed B.named
  subst hsz
  have hD := hD0.self (sz := s.heap.size)
  generalize hAe : va_A (kwO ad cI cZ cJ K o f) s.heap.size = A at hD hE0 ⊢
  have hE := hE0
  have hA : ∀ q : Nat, s.heap.size ≤ q → A q := fun q h => by rw [← hAe]; exact Or.inr h
  have hS : va_S A s.heap s.heap [] := va_S.rf
  have hK2 : va_K D vwCl (zTy cI cZ) s := hK.sub [0, 1] rfl
  have hl := lv_entry ([.ref (ad 0), .int x, .ref o]) (n := 4) (Nat.le_of_ble_eq_true rfl)
  rw [lg_entry_eq]
  generalize (lg_sl ([.ref (ad 0), .int x, .ref o]) ++ List.replicate (4 - (lg_sl ([.ref (ad 0), .int x, .ref o])).length) Slot.unset).toArray = ls at hl ⊢
  have hl : lv_has ls 4 [(0, .ref (ad 0)), (1, .int x), (2, .ref o)] := hl
  refine lv_aload_n hx hb dL_state_0 rfl (lv_at hl 2 rfl) ?_
  refine lv_iconst (v := nI 0) hx hb dL_state_1 (by decide) ?_
  refine lv_aload_n hx hb dL_state_2 rfl (lv_at hl 0 rfl) ?_
  refine lv_iload_n hx hb dL_state_3 rfl (lv_at hl 1 rfl) ?_
  refine zx_Vi (As := [.int x]) (rest := [.int (nI 0), .ref o]) (wr := [(o, .inl (cJ, 1, .inr (.inl f)))]) ⟨hx, hb, hml, hown, hts⟩ (kX5_state l hl9 D cI cZ ad K _ x  ) (cwV 1 hts gL_state_X5_state rfl rfl rfl (by decide +kernel) ⟨(Nat.le_of_ble_eq_true rfl), (Nat.le_of_ble_eq_true rfl)⟩) hK2 hP hD hS hA hE [0, 1, 2, 3, 4, 5, 6, 7, 8, 9, 10, 11, 12, 13, 14, 15, 16, 17, 18, 19, 20, 21, 22, 23, 24, 25] [26] rfl rfl rfl rfl rfl (by decide) (ci := 5) (q0 := 0) rfl rfl rfl rfl hl.1 rfl (Nat.le_of_ble_eq_true rfl) dL_state_4 ⟨(Nat.le_of_ble_eq_true rfl), (Nat.le_of_ble_eq_true rfl)⟩ (fun E ce q9 H locs h0 hE9 hP hD hS hce hcv hcl => ?_) (fun hT H locs hP hD hS => ?_)
  · skip
    have hP := hP.sub (ws' := (kwO ad cI cZ cJ K o f)) [1, 2, 3, 4, 5, 6, 7, 8, 9, 10, 11, 12, 13, 14, 15, 16, 17, 18, 19, 20, 21, 22, 23, 24, 25, 26, 0] rfl
    have hD := hD.sub (ws' := (kwO ad cI cZ cJ K o f)) [1, 2, 3, 4, 5, 6, 7, 8, 9, 10, 11, 12, 13, 14, 15, 16, 17, 18, 19, 20, 21, 22, 23, 24, 25, 26, 0] rfl rfl
    have h0 : ¬ kSeaT x = nI 0 := h0
    have hE9 : E = zN (kSeaT x) := hE9
    have eK9 : zEK (kSeaT x) (K) K = K := zEK_n h0
    have eF9 : zFK (kSeaT x) (sState K x.toNatClampNeg) f = f := zFK_n h0
    have hr9 : zRng true false false (kSeaT x) := kSeaT_r
    rcases hr9.resolve_left h0 with ⟨h8, h9⟩ | ⟨h8, h9⟩ | ⟨h8, h9⟩
    · skip
      have hE8 : E = "java/lang/IndexOutOfBoundsException" := by rw [hE9, h9, zN_1]
      subst hE8
      refine vx_catch (own := RL) (name := "java/lang/IndexOutOfBoundsException") hown [] ⟨0, 9, 12, 27⟩ [] (by rw [hTab]; rfl) (fun _ h => absurd h List.not_mem_nil) (by decide) (by decide) (hts (.classLink RL 27 "java/lang/IndexOutOfBoundsException") (List.mem_of_getElem? (i := 1) rfl)) (va_Nw.use rfl (hE.1 (.castable "java/lang/IndexOutOfBoundsException" "java/lang/IndexOutOfBoundsException") (List.mem_of_getElem? (i := 39) rfl))) hce hcv hcl ?_
      refine lv_astore_n (lv' := [(3, .ref q9), (0, .ref (ad 0)), (1, .int x), (2, .ref o)]) hx hb dL_state_12 rfl hl (by decide) rfl (fun ls hl => ?_)
      refine lv_iconst (v := nI 1) hx hb dL_state_13 (by decide) ?_
      have eR9 : nI 1 = zPos (nI 1) (nI 0) (nI 0) (kSeaT x) := by rw [h9, zPos_1]
      have hP9 : va_P D vwCl (kwO ad cI cZ cJ (zEK (kSeaT x) (K) K) o (zFK (kSeaT x) (sState K x.toNatClampNeg) f)) H := by rw [eK9, eF9]; exact hP
      have hD9 : va_D A (kwO ad cI cZ cJ (zEK (kSeaT x) (K) K) o (zFK (kSeaT x) (sState K x.toNatClampNeg) f)) := by rw [eK9, eF9]; exact hD
      refine W.widen (k := 1) (n := 6) (Nat.le_of_ble_eq_true rfl) (Nat.le_of_ble_eq_true rfl) ?_
      exact W.iret (v := nI 1) hx hb hr (fun t ht hW => ⟨⟨nI 1, (), rfl, eR9, by rw [ht]; exact hP9, va_K.moved hW.alike hK, hD9⟩, hS.F ht⟩) hS.2.2 dL_state_14
    · skip
      exact nomatch h8
    · skip
      exact nomatch h8
  · skip
    have hP := hP.sub (ws' := (kwO ad cI cZ cJ (K) o f)) [1, 2, 3, 4, 5, 6, 7, 8, 9, 10, 11, 12, 13, 14, 15, 16, 17, 18, 19, 20, 21, 22, 23, 24, 25, 26, 0] rfl
    have hD := hD.sub (ws' := (kwO ad cI cZ cJ (K) o f)) [1, 2, 3, 4, 5, 6, 7, 8, 9, 10, 11, 12, 13, 14, 15, 16, 17, 18, 19, 20, 21, 22, 23, 24, 25, 26, 0] rfl rfl
    have hT : kSeaT x = nI 0 := hT
    have eK9 : zEK (kSeaT x) (K) K = K := zEK_0 hT
    have eF9 : zFK (kSeaT x) (sState K x.toNatClampNeg) f = vp_updL f 0 (sState K x.toNatClampNeg).toInt64 := zFK_0 hT
    have eR9 : nI 0 = zPos (nI 1) (nI 0) (nI 0) (kSeaT x) := by rw [hT, zPos_0]
    refine lv_i2l (v := (sState K x.toNatClampNeg).toInt64) hx hb dL_state_7 rfl ?_
    refine va_last hx hb hK hP hD hS 26 2 rfl rfl (i := nI 0) (vp_in_nI (by decide) (by decide)) dL_state_8 (fun H locs hP hD hS => ?_)
    have hP : va_P D vwCl (kwO ad cI cZ cJ (zEK (kSeaT x) (K) K) o (zFK (kSeaT x) (sState K x.toNatClampNeg) f)) H := by rw [eK9, eF9]; exact hP
    have hD : va_D A (kwO ad cI cZ cJ (zEK (kSeaT x) (K) K) o (zFK (kSeaT x) (sState K x.toNatClampNeg) f)) := by rw [eK9, eF9]; exact hD
    refine lv_goto (tgt := 15) hx hb dL_state_9 (by decide) ?_
    refine lv_iconst (v := nI 0) hx hb dL_state_15 (by decide) ?_
    refine W.widen (k := 1) (n := 6) (Nat.le_of_ble_eq_true rfl) (Nat.le_of_ble_eq_true rfl) ?_
    exact W.iret (v := nI 0) hx hb hr (fun t ht hW => ⟨⟨nI 0, (), rfl, eR9, by rw [ht]; exact hP, va_K.moved hW.alike hK, hD⟩, hS.F ht⟩) hS.2.2 dL_state_16
set_option maxHeartbeats 4000000 in
set_option maxRecDepth 100000 in
theorem kL_owner (l : Launch) (hl9 : l.stackTraces = false) (D : va_G) (cI cZ cJ : ClassId) (ad : Nat → Nat) (K : kS) (o : Nat) (f : Nat → Int64) (sz : Nat) (x : Int32)   : zMh l yL_owner wsL_owner ({ frames := 8, cells := 1, slots := 6, locals := 123 }) [.ref (ad 0), .int x, .ref o] D (zTj cI cZ cJ) (kwO ad cI cZ cJ K o f) (kwO ad cI cZ cJ (zEK (kSeaT x) (K) K) o (zFK (kSeaT x) (K 19 x.toNatClampNeg) f)) sz (zPos (nI 1) (nI 0) (nI 0) (kSeaT x)) 1 6 := by
  refine va_MetW (cc := cL_owner) (maxL := 4) (ret := (some .int)) (hh := [(0, 9, 12, 27)]) (by decide) rfl ?_
  intro pP e s m args below meth c s₁ B hml hv
  obtain ⟨rfl, hsz, hP, hK, hD0, hE0, hN⟩ := hv
  have hx := B.exec
  have hb := B.bytes
  have hr := B.returns
  have hts := atoms_spec (ws := wsL_owner) B.pre
  have hTab := vx_table (x := yL_owner) B (hts (.codeWith yL_owner cL_owner 4 (some .int) [(0, 9, 12, 27)]) (List.mem_of_getElem? (i := 0) rfl))
  have hown : s.vm.findClass RL = some m.cls := findClass_of_methodNamed B.named
  subst hsz
  have hD := hD0.self (sz := s.heap.size)
  generalize hAe : va_A (kwO ad cI cZ cJ K o f) s.heap.size = A at hD hE0 ⊢
  have hE := hE0
  have hA : ∀ q : Nat, s.heap.size ≤ q → A q := fun q h => by rw [← hAe]; exact Or.inr h
  have hS : va_S A s.heap s.heap [] := va_S.rf
  have hK2 : va_K D vwCl (zTy cI cZ) s := hK.sub [0, 1] rfl
  have hl := lv_entry ([.ref (ad 0), .int x, .ref o]) (n := 4) (Nat.le_of_ble_eq_true rfl)
  rw [lg_entry_eq]
  generalize (lg_sl ([.ref (ad 0), .int x, .ref o]) ++ List.replicate (4 - (lg_sl ([.ref (ad 0), .int x, .ref o])).length) Slot.unset).toArray = ls at hl ⊢
  have hl : lv_has ls 4 [(0, .ref (ad 0)), (1, .int x), (2, .ref o)] := hl
  refine lv_aload_n hx hb dL_owner_0 rfl (lv_at hl 2 rfl) ?_
  refine lv_iconst (v := nI 0) hx hb dL_owner_1 (by decide) ?_
  refine lv_aload_n hx hb dL_owner_2 rfl (lv_at hl 0 rfl) ?_
  refine lv_iload_n hx hb dL_owner_3 rfl (lv_at hl 1 rfl) ?_
  refine zx_Vi (As := [.int x]) (rest := [.int (nI 0), .ref o]) (wr := [(o, .inl (cJ, 1, .inr (.inl f)))]) ⟨hx, hb, hml, hown, hts⟩ (kX5_owner l hl9 D cI cZ ad K _ x  ) (cwV 1 hts gL_owner_X5_owner rfl rfl rfl (by decide +kernel) ⟨(Nat.le_of_ble_eq_true rfl), (Nat.le_of_ble_eq_true rfl)⟩) hK2 hP hD hS hA hE [0, 1, 2, 3, 4, 5, 6, 7, 8, 9, 10, 11, 12, 13, 14, 15, 16, 17, 18, 19, 20, 21, 22, 23, 24, 25] [26] rfl rfl rfl rfl rfl (by decide) (ci := 5) (q0 := 0) rfl rfl rfl rfl hl.1 rfl (Nat.le_of_ble_eq_true rfl) dL_owner_4 ⟨(Nat.le_of_ble_eq_true rfl), (Nat.le_of_ble_eq_true rfl)⟩ (fun E ce q9 H locs h0 hE9 hP hD hS hce hcv hcl => ?_) (fun hT H locs hP hD hS => ?_)
  · skip
    have hP := hP.sub (ws' := (kwO ad cI cZ cJ K o f)) [1, 2, 3, 4, 5, 6, 7, 8, 9, 10, 11, 12, 13, 14, 15, 16, 17, 18, 19, 20, 21, 22, 23, 24, 25, 26, 0] rfl
    have hD := hD.sub (ws' := (kwO ad cI cZ cJ K o f)) [1, 2, 3, 4, 5, 6, 7, 8, 9, 10, 11, 12, 13, 14, 15, 16, 17, 18, 19, 20, 21, 22, 23, 24, 25, 26, 0] rfl rfl
    have h0 : ¬ kSeaT x = nI 0 := h0
    have hE9 : E = zN (kSeaT x) := hE9
    have eK9 : zEK (kSeaT x) (K) K = K := zEK_n h0
    have eF9 : zFK (kSeaT x) (K 19 x.toNatClampNeg) f = f := zFK_n h0
    have hr9 : zRng true false false (kSeaT x) := kSeaT_r
    rcases hr9.resolve_left h0 with ⟨h8, h9⟩ | ⟨h8, h9⟩ | ⟨h8, h9⟩
    · skip
      have hE8 : E = "java/lang/IndexOutOfBoundsException" := by rw [hE9, h9, zN_1]
      subst hE8
      refine vx_catch (own := RL) (name := "java/lang/IndexOutOfBoundsException") hown [] ⟨0, 9, 12, 27⟩ [] (by rw [hTab]; rfl) (fun _ h => absurd h List.not_mem_nil) (by decide) (by decide) (hts (.classLink RL 27 "java/lang/IndexOutOfBoundsException") (List.mem_of_getElem? (i := 1) rfl)) (va_Nw.use rfl (hE.1 (.castable "java/lang/IndexOutOfBoundsException" "java/lang/IndexOutOfBoundsException") (List.mem_of_getElem? (i := 39) rfl))) hce hcv hcl ?_
      refine lv_astore_n (lv' := [(3, .ref q9), (0, .ref (ad 0)), (1, .int x), (2, .ref o)]) hx hb dL_owner_12 rfl hl (by decide) rfl (fun ls hl => ?_)
      refine lv_iconst (v := nI 1) hx hb dL_owner_13 (by decide) ?_
      have eR9 : nI 1 = zPos (nI 1) (nI 0) (nI 0) (kSeaT x) := by rw [h9, zPos_1]
      have hP9 : va_P D vwCl (kwO ad cI cZ cJ (zEK (kSeaT x) (K) K) o (zFK (kSeaT x) (K 19 x.toNatClampNeg) f)) H := by rw [eK9, eF9]; exact hP
      have hD9 : va_D A (kwO ad cI cZ cJ (zEK (kSeaT x) (K) K) o (zFK (kSeaT x) (K 19 x.toNatClampNeg) f)) := by rw [eK9, eF9]; exact hD
      refine W.widen (k := 1) (n := 6) (Nat.le_of_ble_eq_true rfl) (Nat.le_of_ble_eq_true rfl) ?_
      exact W.iret (v := nI 1) hx hb hr (fun t ht hW => ⟨⟨nI 1, (), rfl, eR9, by rw [ht]; exact hP9, va_K.moved hW.alike hK, hD9⟩, hS.F ht⟩) hS.2.2 dL_owner_14
    · skip
      exact nomatch h8
    · skip
      exact nomatch h8
  · skip
    have hP := hP.sub (ws' := (kwO ad cI cZ cJ (K) o f)) [1, 2, 3, 4, 5, 6, 7, 8, 9, 10, 11, 12, 13, 14, 15, 16, 17, 18, 19, 20, 21, 22, 23, 24, 25, 26, 0] rfl
    have hD := hD.sub (ws' := (kwO ad cI cZ cJ (K) o f)) [1, 2, 3, 4, 5, 6, 7, 8, 9, 10, 11, 12, 13, 14, 15, 16, 17, 18, 19, 20, 21, 22, 23, 24, 25, 26, 0] rfl rfl
    have hT : kSeaT x = nI 0 := hT
    have eK9 : zEK (kSeaT x) (K) K = K := zEK_0 hT
    have eF9 : zFK (kSeaT x) (K 19 x.toNatClampNeg) f = vp_updL f 0 (K 19 x.toNatClampNeg).toInt64 := zFK_0 hT
    have eR9 : nI 0 = zPos (nI 1) (nI 0) (nI 0) (kSeaT x) := by rw [hT, zPos_0]
    refine lv_i2l (v := (K 19 x.toNatClampNeg).toInt64) hx hb dL_owner_7 rfl ?_
    refine va_last hx hb hK hP hD hS 26 2 rfl rfl (i := nI 0) (vp_in_nI (by decide) (by decide)) dL_owner_8 (fun H locs hP hD hS => ?_)
    have hP : va_P D vwCl (kwO ad cI cZ cJ (zEK (kSeaT x) (K) K) o (zFK (kSeaT x) (K 19 x.toNatClampNeg) f)) H := by rw [eK9, eF9]; exact hP
    have hD : va_D A (kwO ad cI cZ cJ (zEK (kSeaT x) (K) K) o (zFK (kSeaT x) (K 19 x.toNatClampNeg) f)) := by rw [eK9, eF9]; exact hD
    refine lv_goto (tgt := 15) hx hb dL_owner_9 (by decide) ?_
    refine lv_iconst (v := nI 0) hx hb dL_owner_15 (by decide) ?_
    refine W.widen (k := 1) (n := 6) (Nat.le_of_ble_eq_true rfl) (Nat.le_of_ble_eq_true rfl) ?_
    exact W.iret (v := nI 0) hx hb hr (fun t ht hW => ⟨⟨nI 0, (), rfl, eR9, by rw [ht]; exact hP, va_K.moved hW.alike hK, hD⟩, hS.F ht⟩) hS.2.2 dL_owner_16
set_option maxHeartbeats 4000000 in
set_option maxRecDepth 100000 in
theorem kL_ownerBySales (l : Launch) (hl9 : l.stackTraces = false) (D : va_G) (cI cZ cJ : ClassId) (ad : Nat → Nat) (K : kS) (o : Nat) (f : Nat → Int64) (sz : Nat) (x : Int32) (t9 : Nat) (ht8 : t9 ≤ 170) (hts9 : K 22 0 = nI t9) : zMh l yL_ownerBySales wsL_ownerBySales ({ frames := 8, cells := 1, slots := 6, locals := 123 }) [.ref (ad 0), .int x, .ref o] D (zTj cI cZ cJ) (kwO ad cI cZ cJ K o f) (kwO ad cI cZ cJ (zEK (kSeaT x) (K) K) o (zFK (kSeaT x) (tLast K x t9) f)) sz (zPos (nI 1) (nI 0) (nI 0) (kSeaT x)) 1 6 := by
  refine va_MetW (cc := cL_ownerBySales) (maxL := 4) (ret := (some .int)) (hh := [(0, 9, 12, 27)]) (by decide) rfl ?_
  intro pP e s m args below meth c s₁ B hml hv
  obtain ⟨rfl, hsz, hP, hK, hD0, hE0, hN⟩ := hv
  have hx := B.exec
  have hb := B.bytes
  have hr := B.returns
  have hts := atoms_spec (ws := wsL_ownerBySales) B.pre
  have hTab := vx_table (x := yL_ownerBySales) B (hts (.codeWith yL_ownerBySales cL_ownerBySales 4 (some .int) [(0, 9, 12, 27)]) (List.mem_of_getElem? (i := 0) rfl))
  have hown : s.vm.findClass RL = some m.cls := findClass_of_methodNamed B.named
  subst hsz
  have hD := hD0.self (sz := s.heap.size)
  generalize hAe : va_A (kwO ad cI cZ cJ K o f) s.heap.size = A at hD hE0 ⊢
  have hE := hE0
  have hA : ∀ q : Nat, s.heap.size ≤ q → A q := fun q h => by rw [← hAe]; exact Or.inr h
  have hS : va_S A s.heap s.heap [] := va_S.rf
  have hK2 : va_K D vwCl (zTy cI cZ) s := hK.sub [0, 1] rfl
  have hl := lv_entry ([.ref (ad 0), .int x, .ref o]) (n := 4) (Nat.le_of_ble_eq_true rfl)
  rw [lg_entry_eq]
  generalize (lg_sl ([.ref (ad 0), .int x, .ref o]) ++ List.replicate (4 - (lg_sl ([.ref (ad 0), .int x, .ref o])).length) Slot.unset).toArray = ls at hl ⊢
  have hl : lv_has ls 4 [(0, .ref (ad 0)), (1, .int x), (2, .ref o)] := hl
  refine lv_aload_n hx hb dL_ownerBySales_0 rfl (lv_at hl 2 rfl) ?_
  refine lv_iconst (v := nI 0) hx hb dL_ownerBySales_1 (by decide) ?_
  refine lv_aload_n hx hb dL_ownerBySales_2 rfl (lv_at hl 0 rfl) ?_
  refine lv_iload_n hx hb dL_ownerBySales_3 rfl (lv_at hl 1 rfl) ?_
  refine zx_Vi (As := [.int x]) (rest := [.int (nI 0), .ref o]) (wr := [(o, .inl (cJ, 1, .inr (.inl f)))]) ⟨hx, hb, hml, hown, hts⟩ (kX5_ownerBySales l hl9 D cI cZ ad K _ x t9 ht8 hts9) (cwV 1 hts gL_ownerBySales_X5_ownerBySales rfl rfl rfl (by decide +kernel) ⟨(Nat.le_of_ble_eq_true rfl), (Nat.le_of_ble_eq_true rfl)⟩) hK2 hP hD hS hA hE [0, 1, 2, 3, 4, 5, 6, 7, 8, 9, 10, 11, 12, 13, 14, 15, 16, 17, 18, 19, 20, 21, 22, 23, 24, 25] [26] rfl rfl rfl rfl rfl (by decide) (ci := 5) (q0 := 0) rfl rfl rfl rfl hl.1 rfl (Nat.le_of_ble_eq_true rfl) dL_ownerBySales_4 ⟨(Nat.le_of_ble_eq_true rfl), (Nat.le_of_ble_eq_true rfl)⟩ (fun E ce q9 H locs h0 hE9 hP hD hS hce hcv hcl => ?_) (fun hT H locs hP hD hS => ?_)
  · skip
    have hP := hP.sub (ws' := (kwO ad cI cZ cJ K o f)) [1, 2, 3, 4, 5, 6, 7, 8, 9, 10, 11, 12, 13, 14, 15, 16, 17, 18, 19, 20, 21, 22, 23, 24, 25, 26, 0] rfl
    have hD := hD.sub (ws' := (kwO ad cI cZ cJ K o f)) [1, 2, 3, 4, 5, 6, 7, 8, 9, 10, 11, 12, 13, 14, 15, 16, 17, 18, 19, 20, 21, 22, 23, 24, 25, 26, 0] rfl rfl
    have h0 : ¬ kSeaT x = nI 0 := h0
    have hE9 : E = zN (kSeaT x) := hE9
    have eK9 : zEK (kSeaT x) (K) K = K := zEK_n h0
    have eF9 : zFK (kSeaT x) (tLast K x t9) f = f := zFK_n h0
    have hr9 : zRng true false false (kSeaT x) := kSeaT_r
    rcases hr9.resolve_left h0 with ⟨h8, h9⟩ | ⟨h8, h9⟩ | ⟨h8, h9⟩
    · skip
      have hE8 : E = "java/lang/IndexOutOfBoundsException" := by rw [hE9, h9, zN_1]
      subst hE8
      refine vx_catch (own := RL) (name := "java/lang/IndexOutOfBoundsException") hown [] ⟨0, 9, 12, 27⟩ [] (by rw [hTab]; rfl) (fun _ h => absurd h List.not_mem_nil) (by decide) (by decide) (hts (.classLink RL 27 "java/lang/IndexOutOfBoundsException") (List.mem_of_getElem? (i := 1) rfl)) (va_Nw.use rfl (hE.1 (.castable "java/lang/IndexOutOfBoundsException" "java/lang/IndexOutOfBoundsException") (List.mem_of_getElem? (i := 39) rfl))) hce hcv hcl ?_
      refine lv_astore_n (lv' := [(3, .ref q9), (0, .ref (ad 0)), (1, .int x), (2, .ref o)]) hx hb dL_ownerBySales_12 rfl hl (by decide) rfl (fun ls hl => ?_)
      refine lv_iconst (v := nI 1) hx hb dL_ownerBySales_13 (by decide) ?_
      have eR9 : nI 1 = zPos (nI 1) (nI 0) (nI 0) (kSeaT x) := by rw [h9, zPos_1]
      have hP9 : va_P D vwCl (kwO ad cI cZ cJ (zEK (kSeaT x) (K) K) o (zFK (kSeaT x) (tLast K x t9) f)) H := by rw [eK9, eF9]; exact hP
      have hD9 : va_D A (kwO ad cI cZ cJ (zEK (kSeaT x) (K) K) o (zFK (kSeaT x) (tLast K x t9) f)) := by rw [eK9, eF9]; exact hD
      refine W.widen (k := 1) (n := 6) (Nat.le_of_ble_eq_true rfl) (Nat.le_of_ble_eq_true rfl) ?_
      exact W.iret (v := nI 1) hx hb hr (fun t ht hW => ⟨⟨nI 1, (), rfl, eR9, by rw [ht]; exact hP9, va_K.moved hW.alike hK, hD9⟩, hS.F ht⟩) hS.2.2 dL_ownerBySales_14
    · skip
      exact nomatch h8
    · skip
      exact nomatch h8
  · skip
    have hP := hP.sub (ws' := (kwO ad cI cZ cJ (K) o f)) [1, 2, 3, 4, 5, 6, 7, 8, 9, 10, 11, 12, 13, 14, 15, 16, 17, 18, 19, 20, 21, 22, 23, 24, 25, 26, 0] rfl
    have hD := hD.sub (ws' := (kwO ad cI cZ cJ (K) o f)) [1, 2, 3, 4, 5, 6, 7, 8, 9, 10, 11, 12, 13, 14, 15, 16, 17, 18, 19, 20, 21, 22, 23, 24, 25, 26, 0] rfl rfl
    have hT : kSeaT x = nI 0 := hT
    have eK9 : zEK (kSeaT x) (K) K = K := zEK_0 hT
    have eF9 : zFK (kSeaT x) (tLast K x t9) f = vp_updL f 0 (tLast K x t9).toInt64 := zFK_0 hT
    have eR9 : nI 0 = zPos (nI 1) (nI 0) (nI 0) (kSeaT x) := by rw [hT, zPos_0]
    refine lv_i2l (v := (tLast K x t9).toInt64) hx hb dL_ownerBySales_7 rfl ?_
    refine va_last hx hb hK hP hD hS 26 2 rfl rfl (i := nI 0) (vp_in_nI (by decide) (by decide)) dL_ownerBySales_8 (fun H locs hP hD hS => ?_)
    have hP : va_P D vwCl (kwO ad cI cZ cJ (zEK (kSeaT x) (K) K) o (zFK (kSeaT x) (tLast K x t9) f)) H := by rw [eK9, eF9]; exact hP
    have hD : va_D A (kwO ad cI cZ cJ (zEK (kSeaT x) (K) K) o (zFK (kSeaT x) (tLast K x t9) f)) := by rw [eK9, eF9]; exact hD
    refine lv_goto (tgt := 15) hx hb dL_ownerBySales_9 (by decide) ?_
    refine lv_iconst (v := nI 0) hx hb dL_ownerBySales_15 (by decide) ?_
    refine W.widen (k := 1) (n := 6) (Nat.le_of_ble_eq_true rfl) (Nat.le_of_ble_eq_true rfl) ?_
    exact W.iret (v := nI 0) hx hb hr (fun t ht hW => ⟨⟨nI 0, (), rfl, eR9, by rw [ht]; exact hP, va_K.moved hW.alike hK, hD⟩, hS.F ht⟩) hS.2.2 dL_ownerBySales_16
set_option maxHeartbeats 4000000 in
set_option maxRecDepth 100000 in
theorem kL_isSingle (l : Launch) (hl9 : l.stackTraces = false) (D : va_G) (cI cZ cJ : ClassId) (ad : Nat → Nat) (K : kS) (o : Nat) (f : Nat → Int64) (sz : Nat) (x : Int32)   : zMh l yL_isSingle wsL_isSingle ({ frames := 8, cells := 1, slots := 6, locals := 125 }) [.ref (ad 0), .int x, .ref o] D (zTj cI cZ cJ) (kwO ad cI cZ cJ K o f) (kwO ad cI cZ cJ (zEK (kSeaT x) (K) K) o (zFK (kSeaT x) (zb (kSinR K x.toNatClampNeg)) f)) sz (zPos (nI 1) (nI 0) (nI 0) (kSeaT x)) 1 6 := by
  refine va_MetW (cc := cL_isSingle) (maxL := 4) (ret := (some .int)) (hh := [(0, 16, 19, 27)]) (by decide) rfl ?_
  intro pP e s m args below meth c s₁ B hml hv
  obtain ⟨rfl, hsz, hP, hK, hD0, hE0, hN⟩ := hv
  have hx := B.exec
  have hb := B.bytes
  have hr := B.returns
  have hts := atoms_spec (ws := wsL_isSingle) B.pre
  have hTab := vx_table (x := yL_isSingle) B (hts (.codeWith yL_isSingle cL_isSingle 4 (some .int) [(0, 16, 19, 27)]) (List.mem_of_getElem? (i := 0) rfl))
  have hown : s.vm.findClass RL = some m.cls := findClass_of_methodNamed B.named
  subst hsz
  have hD := hD0.self (sz := s.heap.size)
  generalize hAe : va_A (kwO ad cI cZ cJ K o f) s.heap.size = A at hD hE0 ⊢
  have hE := hE0
  have hA : ∀ q : Nat, s.heap.size ≤ q → A q := fun q h => by rw [← hAe]; exact Or.inr h
  have hS : va_S A s.heap s.heap [] := va_S.rf
  have hK2 : va_K D vwCl (zTy cI cZ) s := hK.sub [0, 1] rfl
  have hl := lv_entry ([.ref (ad 0), .int x, .ref o]) (n := 4) (Nat.le_of_ble_eq_true rfl)
  rw [lg_entry_eq]
  generalize (lg_sl ([.ref (ad 0), .int x, .ref o]) ++ List.replicate (4 - (lg_sl ([.ref (ad 0), .int x, .ref o])).length) Slot.unset).toArray = ls at hl ⊢
  have hl : lv_has ls 4 [(0, .ref (ad 0)), (1, .int x), (2, .ref o)] := hl
  refine lv_aload_n hx hb dL_isSingle_0 rfl (lv_at hl 2 rfl) ?_
  refine lv_iconst (v := nI 0) hx hb dL_isSingle_1 (by decide) ?_
  refine lv_aload_n hx hb dL_isSingle_2 rfl (lv_at hl 0 rfl) ?_
  refine lv_iload_n hx hb dL_isSingle_3 rfl (lv_at hl 1 rfl) ?_
  refine zx_Vi (As := [.int x]) (rest := [.int (nI 0), .ref o]) (wr := [(o, .inl (cJ, 1, .inr (.inl f)))]) ⟨hx, hb, hml, hown, hts⟩ (kX5_isSingle l hl9 D cI cZ ad K _ x  ) (cwV 1 hts gL_isSingle_X5_isSingle rfl rfl rfl (by decide +kernel) ⟨(Nat.le_of_ble_eq_true rfl), (Nat.le_of_ble_eq_true rfl)⟩) hK2 hP hD hS hA hE [0, 1, 2, 3, 4, 5, 6, 7, 8, 9, 10, 11, 12, 13, 14, 15, 16, 17, 18, 19, 20, 21, 22, 23, 24, 25] [26] rfl rfl rfl rfl rfl (by decide) (ci := 5) (q0 := 0) rfl rfl rfl rfl hl.1 rfl (Nat.le_of_ble_eq_true rfl) dL_isSingle_4 ⟨(Nat.le_of_ble_eq_true rfl), (Nat.le_of_ble_eq_true rfl)⟩ (fun E ce q9 H locs h0 hE9 hP hD hS hce hcv hcl => ?_) (fun hT H locs hP hD hS => ?_)
  · skip
    have hP := hP.sub (ws' := (kwO ad cI cZ cJ K o f)) [1, 2, 3, 4, 5, 6, 7, 8, 9, 10, 11, 12, 13, 14, 15, 16, 17, 18, 19, 20, 21, 22, 23, 24, 25, 26, 0] rfl
    have hD := hD.sub (ws' := (kwO ad cI cZ cJ K o f)) [1, 2, 3, 4, 5, 6, 7, 8, 9, 10, 11, 12, 13, 14, 15, 16, 17, 18, 19, 20, 21, 22, 23, 24, 25, 26, 0] rfl rfl
    have h0 : ¬ kSeaT x = nI 0 := h0
    have hE9 : E = zN (kSeaT x) := hE9
    have eK9 : zEK (kSeaT x) (K) K = K := zEK_n h0
    have eF9 : zFK (kSeaT x) (zb (kSinR K x.toNatClampNeg)) f = f := zFK_n h0
    have hr9 : zRng true false false (kSeaT x) := kSeaT_r
    rcases hr9.resolve_left h0 with ⟨h8, h9⟩ | ⟨h8, h9⟩ | ⟨h8, h9⟩
    · skip
      have hE8 : E = "java/lang/IndexOutOfBoundsException" := by rw [hE9, h9, zN_1]
      subst hE8
      refine vx_catch (own := RL) (name := "java/lang/IndexOutOfBoundsException") hown [] ⟨0, 16, 19, 27⟩ [] (by rw [hTab]; rfl) (fun _ h => absurd h List.not_mem_nil) (by decide) (by decide) (hts (.classLink RL 27 "java/lang/IndexOutOfBoundsException") (List.mem_of_getElem? (i := 1) rfl)) (va_Nw.use rfl (hE.1 (.castable "java/lang/IndexOutOfBoundsException" "java/lang/IndexOutOfBoundsException") (List.mem_of_getElem? (i := 39) rfl))) hce hcv hcl ?_
      refine lv_astore_n (lv' := [(3, .ref q9), (0, .ref (ad 0)), (1, .int x), (2, .ref o)]) hx hb dL_isSingle_19 rfl hl (by decide) rfl (fun ls hl => ?_)
      refine lv_iconst (v := nI 1) hx hb dL_isSingle_20 (by decide) ?_
      have eR9 : nI 1 = zPos (nI 1) (nI 0) (nI 0) (kSeaT x) := by rw [h9, zPos_1]
      have hP9 : va_P D vwCl (kwO ad cI cZ cJ (zEK (kSeaT x) (K) K) o (zFK (kSeaT x) (zb (kSinR K x.toNatClampNeg)) f)) H := by rw [eK9, eF9]; exact hP
      have hD9 : va_D A (kwO ad cI cZ cJ (zEK (kSeaT x) (K) K) o (zFK (kSeaT x) (zb (kSinR K x.toNatClampNeg)) f)) := by rw [eK9, eF9]; exact hD
      refine W.widen (k := 1) (n := 6) (Nat.le_of_ble_eq_true rfl) (Nat.le_of_ble_eq_true rfl) ?_
      exact W.iret (v := nI 1) hx hb hr (fun t ht hW => ⟨⟨nI 1, (), rfl, eR9, by rw [ht]; exact hP9, va_K.moved hW.alike hK, hD9⟩, hS.F ht⟩) hS.2.2 dL_isSingle_21
    · skip
      exact nomatch h8
    · skip
      exact nomatch h8
  · skip
    have hP := hP.sub (ws' := (kwO ad cI cZ cJ (K) o f)) [1, 2, 3, 4, 5, 6, 7, 8, 9, 10, 11, 12, 13, 14, 15, 16, 17, 18, 19, 20, 21, 22, 23, 24, 25, 26, 0] rfl
    have hD := hD.sub (ws' := (kwO ad cI cZ cJ (K) o f)) [1, 2, 3, 4, 5, 6, 7, 8, 9, 10, 11, 12, 13, 14, 15, 16, 17, 18, 19, 20, 21, 22, 23, 24, 25, 26, 0] rfl rfl
    have hT : kSeaT x = nI 0 := hT
    have eK9 : zEK (kSeaT x) (K) K = K := zEK_0 hT
    have eF9 : zFK (kSeaT x) (zb (kSinR K x.toNatClampNeg)) f = vp_updL f 0 (zb (kSinR K x.toNatClampNeg)).toInt64 := zFK_0 hT
    have eR9 : nI 0 = zPos (nI 1) (nI 0) (nI 0) (kSeaT x) := by rw [hT, zPos_0]
    refine lv_if_eq (tgt := 14) hx hb dL_isSingle_7 (by decide) (fun c_1 => ?_) (fun c_1 => ?_)
    · skip
      have c_1 := zb_f c_1
      have eB9 : (zb (kSinR K x.toNatClampNeg)).toInt64 = 0 := by rw [c_1]; rfl
      refine lv_lconst (v := (zb (kSinR K x.toNatClampNeg)).toInt64) hx hb dL_isSingle_14 (by rw [eB9]; rfl) ?_
      refine va_last hx hb hK hP hD hS 26 2 rfl rfl (i := nI 0) (vp_in_nI (by decide) (by decide)) dL_isSingle_15 (fun H locs hP hD hS => ?_)
      have hP : va_P D vwCl (kwO ad cI cZ cJ (zEK (kSeaT x) (K) K) o (zFK (kSeaT x) (zb (kSinR K x.toNatClampNeg)) f)) H := by rw [eK9, eF9]; exact hP
      have hD : va_D A (kwO ad cI cZ cJ (zEK (kSeaT x) (K) K) o (zFK (kSeaT x) (zb (kSinR K x.toNatClampNeg)) f)) := by rw [eK9, eF9]; exact hD
      refine lv_goto (tgt := 22) hx hb dL_isSingle_16 (by decide) ?_
      refine lv_iconst (v := nI 0) hx hb dL_isSingle_22 (by decide) ?_
      refine W.widen (k := 1) (n := 6) (Nat.le_of_ble_eq_true rfl) (Nat.le_of_ble_eq_true rfl) ?_
      exact W.iret (v := nI 0) hx hb hr (fun t ht hW => ⟨⟨nI 0, (), rfl, eR9, by rw [ht]; exact hP, va_K.moved hW.alike hK, hD⟩, hS.F ht⟩) hS.2.2 dL_isSingle_23
    · skip
      have c_1 := zb_t c_1
      have eB9 : (zb (kSinR K x.toNatClampNeg)).toInt64 = 1 := by rw [c_1]; rfl
      refine lv_lconst (v := (zb (kSinR K x.toNatClampNeg)).toInt64) hx hb dL_isSingle_10 (by rw [eB9]; rfl) ?_
      refine lv_goto (tgt := 15) hx hb dL_isSingle_11 (by decide) ?_
      refine va_last hx hb hK hP hD hS 26 2 rfl rfl (i := nI 0) (vp_in_nI (by decide) (by decide)) dL_isSingle_15 (fun H locs hP hD hS => ?_)
      have hP : va_P D vwCl (kwO ad cI cZ cJ (zEK (kSeaT x) (K) K) o (zFK (kSeaT x) (zb (kSinR K x.toNatClampNeg)) f)) H := by rw [eK9, eF9]; exact hP
      have hD : va_D A (kwO ad cI cZ cJ (zEK (kSeaT x) (K) K) o (zFK (kSeaT x) (zb (kSinR K x.toNatClampNeg)) f)) := by rw [eK9, eF9]; exact hD
      refine lv_goto (tgt := 22) hx hb dL_isSingle_16 (by decide) ?_
      refine lv_iconst (v := nI 0) hx hb dL_isSingle_22 (by decide) ?_
      refine W.widen (k := 1) (n := 6) (Nat.le_of_ble_eq_true rfl) (Nat.le_of_ble_eq_true rfl) ?_
      exact W.iret (v := nI 0) hx hb hr (fun t ht hW => ⟨⟨nI 0, (), rfl, eR9, by rw [ht]; exact hP, va_K.moved hW.alike hK, hD⟩, hS.F ht⟩) hS.2.2 dL_isSingle_23
set_option maxHeartbeats 4000000 in
set_option maxRecDepth 100000 in
theorem kL_firstOpen (l : Launch) (hl9 : l.stackTraces = false) (D : va_G) (cI cZ cJ : ClassId) (ad : Nat → Nat) (K : kS) (o : Nat) (f : Nat → Int64) (sz : Nat) (r1 : Int32) (m1 : Int32)   : zMh l yL_firstOpen wsL_firstOpen ({ frames := 8, cells := 2, slots := 12, locals := 126 }) [.ref (ad 0), .int r1, .int m1, .ref o] D (zTj cI cZ cJ) (kwO ad cI cZ cJ K o f) (kwO ad cI cZ cJ (zEK (kFirT r1 m1) (K) K) o (zFK (kFirT r1 m1) (kFirR K r1.toNatClampNeg m1) f)) sz (zPos (nI 1) (nI 2) (nI 0) (kFirT r1 m1)) 2 12 := by
  refine va_MetW (cc := cL_firstOpen) (maxL := 5) (ret := (some .int)) (hh := [(0, 10, 13, 27), (0, 10, 17, 13)]) (by decide) rfl ?_
  intro pP e s m args below meth c s₁ B hml hv
  obtain ⟨rfl, hsz, hP, hK, hD0, hE0, hN⟩ := hv
  have hx := B.exec
  have hb := B.bytes
  have hr := B.returns
  have hts := atoms_spec (ws := wsL_firstOpen) B.pre
  have hTab := vx_table (x := yL_firstOpen) B (hts (.codeWith yL_firstOpen cL_firstOpen 5 (some .int) [(0, 10, 13, 27), (0, 10, 17, 13)]) (List.mem_of_getElem? (i := 0) rfl))
  have hown : s.vm.findClass RL = some m.cls := findClass_of_methodNamed B.named
  subst hsz
  have hD := hD0.self (sz := s.heap.size)
  generalize hAe : va_A (kwO ad cI cZ cJ K o f) s.heap.size = A at hD hE0 ⊢
  have hE := hE0
  have hA : ∀ q : Nat, s.heap.size ≤ q → A q := fun q h => by rw [← hAe]; exact Or.inr h
  have hS : va_S A s.heap s.heap [] := va_S.rf
  have hK2 : va_K D vwCl (zTy cI cZ) s := hK.sub [0, 1] rfl
  have hl := lv_entry ([.ref (ad 0), .int r1, .int m1, .ref o]) (n := 5) (Nat.le_of_ble_eq_true rfl)
  rw [lg_entry_eq]
  generalize (lg_sl ([.ref (ad 0), .int r1, .int m1, .ref o]) ++ List.replicate (5 - (lg_sl ([.ref (ad 0), .int r1, .int m1, .ref o])).length) Slot.unset).toArray = ls at hl ⊢
  have hl : lv_has ls 5 [(0, .ref (ad 0)), (1, .int r1), (2, .int m1), (3, .ref o)] := hl
  refine lv_aload_n hx hb dL_firstOpen_0 rfl (lv_at hl 3 rfl) ?_
  refine lv_iconst (v := nI 0) hx hb dL_firstOpen_1 (by decide) ?_
  refine lv_aload_n hx hb dL_firstOpen_2 rfl (lv_at hl 0 rfl) ?_
  refine lv_iload_n hx hb dL_firstOpen_3 rfl (lv_at hl 1 rfl) ?_
  refine lv_iload_n hx hb dL_firstOpen_4 rfl (lv_at hl 2 rfl) ?_
  refine zx_Vi (As := [.int r1, .int m1]) (rest := [.int (nI 0), .ref o]) (wr := [(o, .inl (cJ, 1, .inr (.inl f)))]) ⟨hx, hb, hml, hown, hts⟩ (kX5_firstOpen l hl9 D cI cZ ad K _ r1 m1  ) (cwV 2 hts gL_firstOpen_X5_firstOpen rfl rfl rfl (by decide +kernel) ⟨(Nat.le_of_ble_eq_true rfl), (Nat.le_of_ble_eq_true rfl)⟩) hK2 hP hD hS hA hE [0, 1, 2, 3, 4, 5, 6, 7, 8, 9, 10, 11, 12, 13, 14, 15, 16, 17, 18, 19, 20, 21, 22, 23, 24, 25] [26] rfl rfl rfl rfl rfl (by decide) (ci := 5) (q0 := 0) rfl rfl rfl rfl hl.1 rfl (Nat.le_of_ble_eq_true rfl) dL_firstOpen_5 ⟨(Nat.le_of_ble_eq_true rfl), (Nat.le_of_ble_eq_true rfl)⟩ (fun E ce q9 H locs h0 hE9 hP hD hS hce hcv hcl => ?_) (fun hT H locs hP hD hS => ?_)
  · skip
    have hP := hP.sub (ws' := (kwO ad cI cZ cJ K o f)) [1, 2, 3, 4, 5, 6, 7, 8, 9, 10, 11, 12, 13, 14, 15, 16, 17, 18, 19, 20, 21, 22, 23, 24, 25, 26, 0] rfl
    have hD := hD.sub (ws' := (kwO ad cI cZ cJ K o f)) [1, 2, 3, 4, 5, 6, 7, 8, 9, 10, 11, 12, 13, 14, 15, 16, 17, 18, 19, 20, 21, 22, 23, 24, 25, 26, 0] rfl rfl
    have h0 : ¬ kFirT r1 m1 = nI 0 := h0
    have hE9 : E = zN (kFirT r1 m1) := hE9
    have eK9 : zEK (kFirT r1 m1) (K) K = K := zEK_n h0
    have eF9 : zFK (kFirT r1 m1) (kFirR K r1.toNatClampNeg m1) f = f := zFK_n h0
    have hr9 : zRng true true false (kFirT r1 m1) := kFirT_r
    rcases hr9.resolve_left h0 with ⟨h8, h9⟩ | ⟨h8, h9⟩ | ⟨h8, h9⟩
    · skip
      have hE8 : E = "java/lang/IndexOutOfBoundsException" := by rw [hE9, h9, zN_1]
      subst hE8
      refine vx_catch (own := RL) (name := "java/lang/IndexOutOfBoundsException") hown [] ⟨0, 10, 13, 27⟩ [⟨0, 10, 17, 13⟩] (by rw [hTab]; rfl) (fun _ h => absurd h List.not_mem_nil) (by decide) (by decide) (hts (.classLink RL 27 "java/lang/IndexOutOfBoundsException") (List.mem_of_getElem? (i := 1) rfl)) (va_Nw.use rfl (hE.1 (.castable "java/lang/IndexOutOfBoundsException" "java/lang/IndexOutOfBoundsException") (List.mem_of_getElem? (i := 39) rfl))) hce hcv hcl ?_
      refine lv_astore (lv' := [(4, .ref q9), (0, .ref (ad 0)), (1, .int r1), (2, .int m1), (3, .ref o)]) hx hb dL_firstOpen_13 hl (by decide) rfl (fun ls hl => ?_)
      refine lv_iconst (v := nI 1) hx hb dL_firstOpen_15 (by decide) ?_
      have eR9 : nI 1 = zPos (nI 1) (nI 2) (nI 0) (kFirT r1 m1) := by rw [h9, zPos_1]
      have hP9 : va_P D vwCl (kwO ad cI cZ cJ (zEK (kFirT r1 m1) (K) K) o (zFK (kFirT r1 m1) (kFirR K r1.toNatClampNeg m1) f)) H := by rw [eK9, eF9]; exact hP
      have hD9 : va_D A (kwO ad cI cZ cJ (zEK (kFirT r1 m1) (K) K) o (zFK (kFirT r1 m1) (kFirR K r1.toNatClampNeg m1) f)) := by rw [eK9, eF9]; exact hD
      refine W.widen (k := 2) (n := 12) (Nat.le_of_ble_eq_true rfl) (Nat.le_of_ble_eq_true rfl) ?_
      exact W.iret (v := nI 1) hx hb hr (fun t ht hW => ⟨⟨nI 1, (), rfl, eR9, by rw [ht]; exact hP9, va_K.moved hW.alike hK, hD9⟩, hS.F ht⟩) hS.2.2 dL_firstOpen_16
    · skip
      have hE8 : E = "java/lang/IllegalArgumentException" := by rw [hE9, h9, zN_2]
      subst hE8
      refine vx_catch (own := RL) (name := "java/lang/IllegalArgumentException") hown [⟨0, 10, 13, 27⟩] ⟨0, 10, 17, 13⟩ [] (by rw [hTab]; rfl) (List.forall_mem_cons.mpr ⟨Or.inr ⟨by decide, "java/lang/IndexOutOfBoundsException", (hts (.classLink RL 27 "java/lang/IndexOutOfBoundsException") (List.mem_of_getElem? (i := 1) rfl)), hN.2.1⟩, (fun _ h => absurd h List.not_mem_nil)⟩) (by decide) (by decide) (hts (.classLink RL 13 "java/lang/IllegalArgumentException") (List.mem_of_getElem? (i := 2) rfl)) (va_Nw.use rfl (hE.1 (.castable "java/lang/IllegalArgumentException" "java/lang/IllegalArgumentException") (List.mem_of_getElem? (i := 40) rfl))) hce hcv hcl ?_
      refine lv_astore (lv' := [(4, .ref q9), (0, .ref (ad 0)), (1, .int r1), (2, .int m1), (3, .ref o)]) hx hb dL_firstOpen_17 hl (by decide) rfl (fun ls hl => ?_)
      refine lv_iconst (v := nI 2) hx hb dL_firstOpen_19 (by decide) ?_
      have eR9 : nI 2 = zPos (nI 1) (nI 2) (nI 0) (kFirT r1 m1) := by rw [h9, zPos_2]
      have hP9 : va_P D vwCl (kwO ad cI cZ cJ (zEK (kFirT r1 m1) (K) K) o (zFK (kFirT r1 m1) (kFirR K r1.toNatClampNeg m1) f)) H := by rw [eK9, eF9]; exact hP
      have hD9 : va_D A (kwO ad cI cZ cJ (zEK (kFirT r1 m1) (K) K) o (zFK (kFirT r1 m1) (kFirR K r1.toNatClampNeg m1) f)) := by rw [eK9, eF9]; exact hD
      refine W.widen (k := 2) (n := 12) (Nat.le_of_ble_eq_true rfl) (Nat.le_of_ble_eq_true rfl) ?_
      exact W.iret (v := nI 2) hx hb hr (fun t ht hW => ⟨⟨nI 2, (), rfl, eR9, by rw [ht]; exact hP9, va_K.moved hW.alike hK, hD9⟩, hS.F ht⟩) hS.2.2 dL_firstOpen_20
    · skip
      exact nomatch h8
  · skip
    have hP := hP.sub (ws' := (kwO ad cI cZ cJ (K) o f)) [1, 2, 3, 4, 5, 6, 7, 8, 9, 10, 11, 12, 13, 14, 15, 16, 17, 18, 19, 20, 21, 22, 23, 24, 25, 26, 0] rfl
    have hD := hD.sub (ws' := (kwO ad cI cZ cJ (K) o f)) [1, 2, 3, 4, 5, 6, 7, 8, 9, 10, 11, 12, 13, 14, 15, 16, 17, 18, 19, 20, 21, 22, 23, 24, 25, 26, 0] rfl rfl
    have hT : kFirT r1 m1 = nI 0 := hT
    have eK9 : zEK (kFirT r1 m1) (K) K = K := zEK_0 hT
    have eF9 : zFK (kFirT r1 m1) (kFirR K r1.toNatClampNeg m1) f = vp_updL f 0 (kFirR K r1.toNatClampNeg m1).toInt64 := zFK_0 hT
    have eR9 : nI 0 = zPos (nI 1) (nI 2) (nI 0) (kFirT r1 m1) := by rw [hT, zPos_0]
    refine lv_i2l (v := (kFirR K r1.toNatClampNeg m1).toInt64) hx hb dL_firstOpen_8 rfl ?_
    refine va_last hx hb hK hP hD hS 26 2 rfl rfl (i := nI 0) (vp_in_nI (by decide) (by decide)) dL_firstOpen_9 (fun H locs hP hD hS => ?_)
    have hP : va_P D vwCl (kwO ad cI cZ cJ (zEK (kFirT r1 m1) (K) K) o (zFK (kFirT r1 m1) (kFirR K r1.toNatClampNeg m1) f)) H := by rw [eK9, eF9]; exact hP
    have hD : va_D A (kwO ad cI cZ cJ (zEK (kFirT r1 m1) (K) K) o (zFK (kFirT r1 m1) (kFirR K r1.toNatClampNeg m1) f)) := by rw [eK9, eF9]; exact hD
    refine lv_goto (tgt := 21) hx hb dL_firstOpen_10 (by decide) ?_
    refine lv_iconst (v := nI 0) hx hb dL_firstOpen_21 (by decide) ?_
    refine W.widen (k := 2) (n := 12) (Nat.le_of_ble_eq_true rfl) (Nat.le_of_ble_eq_true rfl) ?_
    exact W.iret (v := nI 0) hx hb hr (fun t ht hW => ⟨⟨nI 0, (), rfl, eR9, by rw [ht]; exact hP, va_K.moved hW.alike hK, hD⟩, hS.F ht⟩) hS.2.2 dL_firstOpen_22
set_option maxHeartbeats 4000000 in
set_option maxRecDepth 100000 in
theorem kL_offer (l : Launch) (hl9 : l.stackTraces = false) (D : va_G) (cI cZ cJ : ClassId) (ad : Nat → Nat) (K : kS) (o : Nat) (f : Nat → Int64) (sz : Nat) (a1 : Int32) (s9 : Int32) (x : Int32)   : zMh l yL_offer wsL_offer ({ frames := 8, cells := 3, slots := 18, locals := 126 }) [.ref (ad 0), .int a1, .int s9, .int x, .ref o] D (zTj cI cZ cJ) (kwO ad cI cZ cJ K o f) (kwO ad cI cZ cJ (zEK (kOffT K a1 s9 x) (kPut K s9.toNatClampNeg x) K) o (zFK (kOffT K a1 s9 x) (sCeil K s9.toNatClampNeg) f)) sz (zPos (nI 1) (nI 2) (nI 3) (kOffT K a1 s9 x)) 3 18 := by
  refine va_MetW (cc := cL_offer) (maxL := 6) (ret := (some .int)) (hh := [(0, 12, 15, 27), (0, 12, 19, 13), (0, 12, 23, 15)]) (by decide) rfl ?_
  intro pP e s m args below meth c s₁ B hml hv
  obtain ⟨rfl, hsz, hP, hK, hD0, hE0, hN⟩ := hv
  have hx := B.exec
  have hb := B.bytes
  have hr := B.returns
  have hts := atoms_spec (ws := wsL_offer) B.pre
  have hTab := vx_table (x := yL_offer) B (hts (.codeWith yL_offer cL_offer 6 (some .int) [(0, 12, 15, 27), (0, 12, 19, 13), (0, 12, 23, 15)]) (List.mem_of_getElem? (i := 0) rfl))
  have hown : s.vm.findClass RL = some m.cls := findClass_of_methodNamed B.named
  subst hsz
  have hD := hD0.self (sz := s.heap.size)
  generalize hAe : va_A (kwO ad cI cZ cJ K o f) s.heap.size = A at hD hE0 ⊢
  have hE := hE0
  have hA : ∀ q : Nat, s.heap.size ≤ q → A q := fun q h => by rw [← hAe]; exact Or.inr h
  have hS : va_S A s.heap s.heap [] := va_S.rf
  have hK2 : va_K D vwCl (zTy cI cZ) s := hK.sub [0, 1] rfl
  have hl := lv_entry ([.ref (ad 0), .int a1, .int s9, .int x, .ref o]) (n := 6) (Nat.le_of_ble_eq_true rfl)
  rw [lg_entry_eq]
  generalize (lg_sl ([.ref (ad 0), .int a1, .int s9, .int x, .ref o]) ++ List.replicate (6 - (lg_sl ([.ref (ad 0), .int a1, .int s9, .int x, .ref o])).length) Slot.unset).toArray = ls at hl ⊢
  have hl : lv_has ls 6 [(0, .ref (ad 0)), (1, .int a1), (2, .int s9), (3, .int x), (4, .ref o)] := hl
  refine lv_aload hx hb dL_offer_0 (lv_at hl 4 rfl) ?_
  refine lv_iconst (v := nI 0) hx hb dL_offer_2 (by decide) ?_
  refine lv_aload_n hx hb dL_offer_3 rfl (lv_at hl 0 rfl) ?_
  refine lv_iload_n hx hb dL_offer_4 rfl (lv_at hl 1 rfl) ?_
  refine lv_iload_n hx hb dL_offer_5 rfl (lv_at hl 2 rfl) ?_
  refine lv_iload_n hx hb dL_offer_6 rfl (lv_at hl 3 rfl) ?_
  refine zx_Vi (As := [.int a1, .int s9, .int x]) (rest := [.int (nI 0), .ref o]) (wr := [(o, .inl (cJ, 1, .inr (.inl f)))]) ⟨hx, hb, hml, hown, hts⟩ (kX5_offer l hl9 D cI cZ ad K _ a1 s9 x  ) (cwV 3 hts gL_offer_X5_offer rfl rfl rfl (by decide +kernel) ⟨(Nat.le_of_ble_eq_true rfl), (Nat.le_of_ble_eq_true rfl)⟩) hK2 hP hD hS hA hE [0, 1, 2, 3, 4, 5, 6, 7, 8, 9, 10, 11, 12, 13, 14, 15, 16, 17, 18, 19, 20, 21, 22, 23, 24, 25] [26] rfl rfl rfl rfl rfl (by decide) (ci := 5) (q0 := 0) rfl rfl rfl rfl hl.1 rfl (Nat.le_of_ble_eq_true rfl) dL_offer_7 ⟨(Nat.le_of_ble_eq_true rfl), (Nat.le_of_ble_eq_true rfl)⟩ (fun E ce q9 H locs h0 hE9 hP hD hS hce hcv hcl => ?_) (fun hT H locs hP hD hS => ?_)
  · skip
    have hP := hP.sub (ws' := (kwO ad cI cZ cJ K o f)) [1, 2, 3, 4, 5, 6, 7, 8, 9, 10, 11, 12, 13, 14, 15, 16, 17, 18, 19, 20, 21, 22, 23, 24, 25, 26, 0] rfl
    have hD := hD.sub (ws' := (kwO ad cI cZ cJ K o f)) [1, 2, 3, 4, 5, 6, 7, 8, 9, 10, 11, 12, 13, 14, 15, 16, 17, 18, 19, 20, 21, 22, 23, 24, 25, 26, 0] rfl rfl
    have h0 : ¬ kOffT K a1 s9 x = nI 0 := h0
    have hE9 : E = zN (kOffT K a1 s9 x) := hE9
    have eK9 : zEK (kOffT K a1 s9 x) (kPut K s9.toNatClampNeg x) K = K := zEK_n h0
    have eF9 : zFK (kOffT K a1 s9 x) (sCeil K s9.toNatClampNeg) f = f := zFK_n h0
    have hr9 : zRng true true true (kOffT K a1 s9 x) := kOffT_r
    rcases hr9.resolve_left h0 with ⟨h8, h9⟩ | ⟨h8, h9⟩ | ⟨h8, h9⟩
    · skip
      have hE8 : E = "java/lang/IndexOutOfBoundsException" := by rw [hE9, h9, zN_1]
      subst hE8
      refine vx_catch (own := RL) (name := "java/lang/IndexOutOfBoundsException") hown [] ⟨0, 12, 15, 27⟩ [⟨0, 12, 19, 13⟩, ⟨0, 12, 23, 15⟩] (by rw [hTab]; rfl) (fun _ h => absurd h List.not_mem_nil) (by decide) (by decide) (hts (.classLink RL 27 "java/lang/IndexOutOfBoundsException") (List.mem_of_getElem? (i := 1) rfl)) (va_Nw.use rfl (hE.1 (.castable "java/lang/IndexOutOfBoundsException" "java/lang/IndexOutOfBoundsException") (List.mem_of_getElem? (i := 39) rfl))) hce hcv hcl ?_
      refine lv_astore (lv' := [(5, .ref q9), (0, .ref (ad 0)), (1, .int a1), (2, .int s9), (3, .int x), (4, .ref o)]) hx hb dL_offer_15 hl (by decide) rfl (fun ls hl => ?_)
      refine lv_iconst (v := nI 1) hx hb dL_offer_17 (by decide) ?_
      have eR9 : nI 1 = zPos (nI 1) (nI 2) (nI 3) (kOffT K a1 s9 x) := by rw [h9, zPos_1]
      have hP9 : va_P D vwCl (kwO ad cI cZ cJ (zEK (kOffT K a1 s9 x) (kPut K s9.toNatClampNeg x) K) o (zFK (kOffT K a1 s9 x) (sCeil K s9.toNatClampNeg) f)) H := by rw [eK9, eF9]; exact hP
      have hD9 : va_D A (kwO ad cI cZ cJ (zEK (kOffT K a1 s9 x) (kPut K s9.toNatClampNeg x) K) o (zFK (kOffT K a1 s9 x) (sCeil K s9.toNatClampNeg) f)) := by rw [eK9, eF9]; exact hD
      refine W.widen (k := 3) (n := 18) (Nat.le_of_ble_eq_true rfl) (Nat.le_of_ble_eq_true rfl) ?_
      exact W.iret (v := nI 1) hx hb hr (fun t ht hW => ⟨⟨nI 1, (), rfl, eR9, by rw [ht]; exact hP9, va_K.moved hW.alike hK, hD9⟩, hS.F ht⟩) hS.2.2 dL_offer_18
    · skip
      have hE8 : E = "java/lang/IllegalArgumentException" := by rw [hE9, h9, zN_2]
      subst hE8
      refine vx_catch (own := RL) (name := "java/lang/IllegalArgumentException") hown [⟨0, 12, 15, 27⟩] ⟨0, 12, 19, 13⟩ [⟨0, 12, 23, 15⟩] (by rw [hTab]; rfl) (List.forall_mem_cons.mpr ⟨Or.inr ⟨by decide, "java/lang/IndexOutOfBoundsException", (hts (.classLink RL 27 "java/lang/IndexOutOfBoundsException") (List.mem_of_getElem? (i := 1) rfl)), hN.2.1⟩, (fun _ h => absurd h List.not_mem_nil)⟩) (by decide) (by decide) (hts (.classLink RL 13 "java/lang/IllegalArgumentException") (List.mem_of_getElem? (i := 2) rfl)) (va_Nw.use rfl (hE.1 (.castable "java/lang/IllegalArgumentException" "java/lang/IllegalArgumentException") (List.mem_of_getElem? (i := 40) rfl))) hce hcv hcl ?_
      refine lv_astore (lv' := [(5, .ref q9), (0, .ref (ad 0)), (1, .int a1), (2, .int s9), (3, .int x), (4, .ref o)]) hx hb dL_offer_19 hl (by decide) rfl (fun ls hl => ?_)
      refine lv_iconst (v := nI 2) hx hb dL_offer_21 (by decide) ?_
      have eR9 : nI 2 = zPos (nI 1) (nI 2) (nI 3) (kOffT K a1 s9 x) := by rw [h9, zPos_2]
      have hP9 : va_P D vwCl (kwO ad cI cZ cJ (zEK (kOffT K a1 s9 x) (kPut K s9.toNatClampNeg x) K) o (zFK (kOffT K a1 s9 x) (sCeil K s9.toNatClampNeg) f)) H := by rw [eK9, eF9]; exact hP
      have hD9 : va_D A (kwO ad cI cZ cJ (zEK (kOffT K a1 s9 x) (kPut K s9.toNatClampNeg x) K) o (zFK (kOffT K a1 s9 x) (sCeil K s9.toNatClampNeg) f)) := by rw [eK9, eF9]; exact hD
      refine W.widen (k := 3) (n := 18) (Nat.le_of_ble_eq_true rfl) (Nat.le_of_ble_eq_true rfl) ?_
      exact W.iret (v := nI 2) hx hb hr (fun t ht hW => ⟨⟨nI 2, (), rfl, eR9, by rw [ht]; exact hP9, va_K.moved hW.alike hK, hD9⟩, hS.F ht⟩) hS.2.2 dL_offer_22
    · skip
      have hE8 : E = "java/lang/IllegalStateException" := by rw [hE9, h9, zN_3]
      subst hE8
      refine vx_catch (own := RL) (name := "java/lang/IllegalStateException") hown [⟨0, 12, 15, 27⟩, ⟨0, 12, 19, 13⟩] ⟨0, 12, 23, 15⟩ [] (by rw [hTab]; rfl) (List.forall_mem_cons.mpr ⟨Or.inr ⟨by decide, "java/lang/IndexOutOfBoundsException", (hts (.classLink RL 27 "java/lang/IndexOutOfBoundsException") (List.mem_of_getElem? (i := 1) rfl)), hN.2.2⟩, (List.forall_mem_cons.mpr ⟨Or.inr ⟨by decide, "java/lang/IllegalArgumentException", (hts (.classLink RL 13 "java/lang/IllegalArgumentException") (List.mem_of_getElem? (i := 2) rfl)), hN.1⟩, (fun _ h => absurd h List.not_mem_nil)⟩)⟩) (by decide) (by decide) (hts (.classLink RL 15 "java/lang/IllegalStateException") (List.mem_of_getElem? (i := 3) rfl)) (va_Nw.use rfl (hE.1 (.castable "java/lang/IllegalStateException" "java/lang/IllegalStateException") (List.mem_of_getElem? (i := 41) rfl))) hce hcv hcl ?_
      refine lv_astore (lv' := [(5, .ref q9), (0, .ref (ad 0)), (1, .int a1), (2, .int s9), (3, .int x), (4, .ref o)]) hx hb dL_offer_23 hl (by decide) rfl (fun ls hl => ?_)
      refine lv_iconst (v := nI 3) hx hb dL_offer_25 (by decide) ?_
      have eR9 : nI 3 = zPos (nI 1) (nI 2) (nI 3) (kOffT K a1 s9 x) := by rw [h9, zPos_3]
      have hP9 : va_P D vwCl (kwO ad cI cZ cJ (zEK (kOffT K a1 s9 x) (kPut K s9.toNatClampNeg x) K) o (zFK (kOffT K a1 s9 x) (sCeil K s9.toNatClampNeg) f)) H := by rw [eK9, eF9]; exact hP
      have hD9 : va_D A (kwO ad cI cZ cJ (zEK (kOffT K a1 s9 x) (kPut K s9.toNatClampNeg x) K) o (zFK (kOffT K a1 s9 x) (sCeil K s9.toNatClampNeg) f)) := by rw [eK9, eF9]; exact hD
      refine W.widen (k := 3) (n := 18) (Nat.le_of_ble_eq_true rfl) (Nat.le_of_ble_eq_true rfl) ?_
      exact W.iret (v := nI 3) hx hb hr (fun t ht hW => ⟨⟨nI 3, (), rfl, eR9, by rw [ht]; exact hP9, va_K.moved hW.alike hK, hD9⟩, hS.F ht⟩) hS.2.2 dL_offer_26
  · skip
    have hP := hP.sub (ws' := (kwO ad cI cZ cJ (kPut K s9.toNatClampNeg x) o f)) [1, 2, 3, 4, 5, 6, 7, 8, 9, 10, 11, 12, 13, 14, 15, 16, 17, 18, 19, 20, 21, 22, 23, 24, 25, 26, 0] rfl
    have hD := hD.sub (ws' := (kwO ad cI cZ cJ (kPut K s9.toNatClampNeg x) o f)) [1, 2, 3, 4, 5, 6, 7, 8, 9, 10, 11, 12, 13, 14, 15, 16, 17, 18, 19, 20, 21, 22, 23, 24, 25, 26, 0] rfl rfl
    have hT : kOffT K a1 s9 x = nI 0 := hT
    have eK9 : zEK (kOffT K a1 s9 x) (kPut K s9.toNatClampNeg x) K = kPut K s9.toNatClampNeg x := zEK_0 hT
    have eF9 : zFK (kOffT K a1 s9 x) (sCeil K s9.toNatClampNeg) f = vp_updL f 0 (sCeil K s9.toNatClampNeg).toInt64 := zFK_0 hT
    have eR9 : nI 0 = zPos (nI 1) (nI 2) (nI 3) (kOffT K a1 s9 x) := by rw [hT, zPos_0]
    refine lv_i2l (v := (sCeil K s9.toNatClampNeg).toInt64) hx hb dL_offer_10 rfl ?_
    refine va_last hx hb hK hP hD hS 26 2 rfl rfl (i := nI 0) (vp_in_nI (by decide) (by decide)) dL_offer_11 (fun H locs hP hD hS => ?_)
    have hP : va_P D vwCl (kwO ad cI cZ cJ (zEK (kOffT K a1 s9 x) (kPut K s9.toNatClampNeg x) K) o (zFK (kOffT K a1 s9 x) (sCeil K s9.toNatClampNeg) f)) H := by rw [eK9, eF9]; exact hP
    have hD : va_D A (kwO ad cI cZ cJ (zEK (kOffT K a1 s9 x) (kPut K s9.toNatClampNeg x) K) o (zFK (kOffT K a1 s9 x) (sCeil K s9.toNatClampNeg) f)) := by rw [eK9, eF9]; exact hD
    refine lv_goto (tgt := 27) hx hb dL_offer_12 (by decide) ?_
    refine lv_iconst (v := nI 0) hx hb dL_offer_27 (by decide) ?_
    refine W.widen (k := 3) (n := 18) (Nat.le_of_ble_eq_true rfl) (Nat.le_of_ble_eq_true rfl) ?_
    exact W.iret (v := nI 0) hx hb hr (fun t ht hW => ⟨⟨nI 0, (), rfl, eR9, by rw [ht]; exact hP, va_K.moved hW.alike hK, hD⟩, hS.F ht⟩) hS.2.2 dL_offer_28
set_option maxHeartbeats 4000000 in
set_option maxRecDepth 100000 in
theorem kL_retract (l : Launch) (hl9 : l.stackTraces = false) (D : va_G) (cI cZ cJ : ClassId) (ad : Nat → Nat) (K : kS) (o : Nat) (f : Nat → Int64) (sz : Nat) (x : Int32)   : zMh l yL_retract wsL_retract ({ frames := 8, cells := 2, slots := 12, locals := 123 }) [.ref (ad 0), .int x, .ref o] D (zTj cI cZ cJ) (kwO ad cI cZ cJ K o f) (kwO ad cI cZ cJ (zEK (kRetT K x) (kRetE K x.toNatClampNeg) K) o (zFK (kRetT K x) (K 20 x.toNatClampNeg) f)) sz (zPos (nI 1) (nI 0) (nI 2) (kRetT K x)) 2 12 := by
  refine va_MetW (cc := cL_retract) (maxL := 4) (ret := (some .int)) (hh := [(0, 9, 12, 27), (0, 9, 15, 15)]) (by decide) rfl ?_
  intro pP e s m args below meth c s₁ B hml hv
  obtain ⟨rfl, hsz, hP, hK, hD0, hE0, hN⟩ := hv
  have hx := B.exec
  have hb := B.bytes
  have hr := B.returns
  have hts := atoms_spec (ws := wsL_retract) B.pre
  have hTab := vx_table (x := yL_retract) B (hts (.codeWith yL_retract cL_retract 4 (some .int) [(0, 9, 12, 27), (0, 9, 15, 15)]) (List.mem_of_getElem? (i := 0) rfl))
  have hown : s.vm.findClass RL = some m.cls := findClass_of_methodNamed B.named
  subst hsz
  have hD := hD0.self (sz := s.heap.size)
  generalize hAe : va_A (kwO ad cI cZ cJ K o f) s.heap.size = A at hD hE0 ⊢
  have hE := hE0
  have hA : ∀ q : Nat, s.heap.size ≤ q → A q := fun q h => by rw [← hAe]; exact Or.inr h
  have hS : va_S A s.heap s.heap [] := va_S.rf
  have hK2 : va_K D vwCl (zTy cI cZ) s := hK.sub [0, 1] rfl
  have hl := lv_entry ([.ref (ad 0), .int x, .ref o]) (n := 4) (Nat.le_of_ble_eq_true rfl)
  rw [lg_entry_eq]
  generalize (lg_sl ([.ref (ad 0), .int x, .ref o]) ++ List.replicate (4 - (lg_sl ([.ref (ad 0), .int x, .ref o])).length) Slot.unset).toArray = ls at hl ⊢
  have hl : lv_has ls 4 [(0, .ref (ad 0)), (1, .int x), (2, .ref o)] := hl
  refine lv_aload_n hx hb dL_retract_0 rfl (lv_at hl 2 rfl) ?_
  refine lv_iconst (v := nI 0) hx hb dL_retract_1 (by decide) ?_
  refine lv_aload_n hx hb dL_retract_2 rfl (lv_at hl 0 rfl) ?_
  refine lv_iload_n hx hb dL_retract_3 rfl (lv_at hl 1 rfl) ?_
  refine zx_Vi (As := [.int x]) (rest := [.int (nI 0), .ref o]) (wr := [(o, .inl (cJ, 1, .inr (.inl f)))]) ⟨hx, hb, hml, hown, hts⟩ (kX5_retract l hl9 D cI cZ ad K _ x  ) (cwV 1 hts gL_retract_X5_retract rfl rfl rfl (by decide +kernel) ⟨(Nat.le_of_ble_eq_true rfl), (Nat.le_of_ble_eq_true rfl)⟩) hK2 hP hD hS hA hE [0, 1, 2, 3, 4, 5, 6, 7, 8, 9, 10, 11, 12, 13, 14, 15, 16, 17, 18, 19, 20, 21, 22, 23, 24, 25] [26] rfl rfl rfl rfl rfl (by decide) (ci := 5) (q0 := 0) rfl rfl rfl rfl hl.1 rfl (Nat.le_of_ble_eq_true rfl) dL_retract_4 ⟨(Nat.le_of_ble_eq_true rfl), (Nat.le_of_ble_eq_true rfl)⟩ (fun E ce q9 H locs h0 hE9 hP hD hS hce hcv hcl => ?_) (fun hT H locs hP hD hS => ?_)
  · skip
    have hP := hP.sub (ws' := (kwO ad cI cZ cJ K o f)) [1, 2, 3, 4, 5, 6, 7, 8, 9, 10, 11, 12, 13, 14, 15, 16, 17, 18, 19, 20, 21, 22, 23, 24, 25, 26, 0] rfl
    have hD := hD.sub (ws' := (kwO ad cI cZ cJ K o f)) [1, 2, 3, 4, 5, 6, 7, 8, 9, 10, 11, 12, 13, 14, 15, 16, 17, 18, 19, 20, 21, 22, 23, 24, 25, 26, 0] rfl rfl
    have h0 : ¬ kRetT K x = nI 0 := h0
    have hE9 : E = zN (kRetT K x) := hE9
    have eK9 : zEK (kRetT K x) (kRetE K x.toNatClampNeg) K = K := zEK_n h0
    have eF9 : zFK (kRetT K x) (K 20 x.toNatClampNeg) f = f := zFK_n h0
    have hr9 : zRng true false true (kRetT K x) := kRetT_r
    rcases hr9.resolve_left h0 with ⟨h8, h9⟩ | ⟨h8, h9⟩ | ⟨h8, h9⟩
    · skip
      have hE8 : E = "java/lang/IndexOutOfBoundsException" := by rw [hE9, h9, zN_1]
      subst hE8
      refine vx_catch (own := RL) (name := "java/lang/IndexOutOfBoundsException") hown [] ⟨0, 9, 12, 27⟩ [⟨0, 9, 15, 15⟩] (by rw [hTab]; rfl) (fun _ h => absurd h List.not_mem_nil) (by decide) (by decide) (hts (.classLink RL 27 "java/lang/IndexOutOfBoundsException") (List.mem_of_getElem? (i := 1) rfl)) (va_Nw.use rfl (hE.1 (.castable "java/lang/IndexOutOfBoundsException" "java/lang/IndexOutOfBoundsException") (List.mem_of_getElem? (i := 39) rfl))) hce hcv hcl ?_
      refine lv_astore_n (lv' := [(3, .ref q9), (0, .ref (ad 0)), (1, .int x), (2, .ref o)]) hx hb dL_retract_12 rfl hl (by decide) rfl (fun ls hl => ?_)
      refine lv_iconst (v := nI 1) hx hb dL_retract_13 (by decide) ?_
      have eR9 : nI 1 = zPos (nI 1) (nI 0) (nI 2) (kRetT K x) := by rw [h9, zPos_1]
      have hP9 : va_P D vwCl (kwO ad cI cZ cJ (zEK (kRetT K x) (kRetE K x.toNatClampNeg) K) o (zFK (kRetT K x) (K 20 x.toNatClampNeg) f)) H := by rw [eK9, eF9]; exact hP
      have hD9 : va_D A (kwO ad cI cZ cJ (zEK (kRetT K x) (kRetE K x.toNatClampNeg) K) o (zFK (kRetT K x) (K 20 x.toNatClampNeg) f)) := by rw [eK9, eF9]; exact hD
      refine W.widen (k := 2) (n := 12) (Nat.le_of_ble_eq_true rfl) (Nat.le_of_ble_eq_true rfl) ?_
      exact W.iret (v := nI 1) hx hb hr (fun t ht hW => ⟨⟨nI 1, (), rfl, eR9, by rw [ht]; exact hP9, va_K.moved hW.alike hK, hD9⟩, hS.F ht⟩) hS.2.2 dL_retract_14
    · skip
      exact nomatch h8
    · skip
      have hE8 : E = "java/lang/IllegalStateException" := by rw [hE9, h9, zN_3]
      subst hE8
      refine vx_catch (own := RL) (name := "java/lang/IllegalStateException") hown [⟨0, 9, 12, 27⟩] ⟨0, 9, 15, 15⟩ [] (by rw [hTab]; rfl) (List.forall_mem_cons.mpr ⟨Or.inr ⟨by decide, "java/lang/IndexOutOfBoundsException", (hts (.classLink RL 27 "java/lang/IndexOutOfBoundsException") (List.mem_of_getElem? (i := 1) rfl)), hN.2.2⟩, (fun _ h => absurd h List.not_mem_nil)⟩) (by decide) (by decide) (hts (.classLink RL 15 "java/lang/IllegalStateException") (List.mem_of_getElem? (i := 2) rfl)) (va_Nw.use rfl (hE.1 (.castable "java/lang/IllegalStateException" "java/lang/IllegalStateException") (List.mem_of_getElem? (i := 41) rfl))) hce hcv hcl ?_
      refine lv_astore_n (lv' := [(3, .ref q9), (0, .ref (ad 0)), (1, .int x), (2, .ref o)]) hx hb dL_retract_15 rfl hl (by decide) rfl (fun ls hl => ?_)
      refine lv_iconst (v := nI 2) hx hb dL_retract_16 (by decide) ?_
      have eR9 : nI 2 = zPos (nI 1) (nI 0) (nI 2) (kRetT K x) := by rw [h9, zPos_3]
      have hP9 : va_P D vwCl (kwO ad cI cZ cJ (zEK (kRetT K x) (kRetE K x.toNatClampNeg) K) o (zFK (kRetT K x) (K 20 x.toNatClampNeg) f)) H := by rw [eK9, eF9]; exact hP
      have hD9 : va_D A (kwO ad cI cZ cJ (zEK (kRetT K x) (kRetE K x.toNatClampNeg) K) o (zFK (kRetT K x) (K 20 x.toNatClampNeg) f)) := by rw [eK9, eF9]; exact hD
      refine W.widen (k := 2) (n := 12) (Nat.le_of_ble_eq_true rfl) (Nat.le_of_ble_eq_true rfl) ?_
      exact W.iret (v := nI 2) hx hb hr (fun t ht hW => ⟨⟨nI 2, (), rfl, eR9, by rw [ht]; exact hP9, va_K.moved hW.alike hK, hD9⟩, hS.F ht⟩) hS.2.2 dL_retract_17
  · skip
    have hP := hP.sub (ws' := (kwO ad cI cZ cJ (kRetE K x.toNatClampNeg) o f)) [1, 2, 3, 4, 5, 6, 7, 8, 9, 10, 11, 12, 13, 14, 15, 16, 17, 18, 19, 20, 21, 22, 23, 24, 25, 26, 0] rfl
    have hD := hD.sub (ws' := (kwO ad cI cZ cJ (kRetE K x.toNatClampNeg) o f)) [1, 2, 3, 4, 5, 6, 7, 8, 9, 10, 11, 12, 13, 14, 15, 16, 17, 18, 19, 20, 21, 22, 23, 24, 25, 26, 0] rfl rfl
    have hT : kRetT K x = nI 0 := hT
    have eK9 : zEK (kRetT K x) (kRetE K x.toNatClampNeg) K = kRetE K x.toNatClampNeg := zEK_0 hT
    have eF9 : zFK (kRetT K x) (K 20 x.toNatClampNeg) f = vp_updL f 0 (K 20 x.toNatClampNeg).toInt64 := zFK_0 hT
    have eR9 : nI 0 = zPos (nI 1) (nI 0) (nI 2) (kRetT K x) := by rw [hT, zPos_0]
    refine lv_i2l (v := (K 20 x.toNatClampNeg).toInt64) hx hb dL_retract_7 rfl ?_
    refine va_last hx hb hK hP hD hS 26 2 rfl rfl (i := nI 0) (vp_in_nI (by decide) (by decide)) dL_retract_8 (fun H locs hP hD hS => ?_)
    have hP : va_P D vwCl (kwO ad cI cZ cJ (zEK (kRetT K x) (kRetE K x.toNatClampNeg) K) o (zFK (kRetT K x) (K 20 x.toNatClampNeg) f)) H := by rw [eK9, eF9]; exact hP
    have hD : va_D A (kwO ad cI cZ cJ (zEK (kRetT K x) (kRetE K x.toNatClampNeg) K) o (zFK (kRetT K x) (K 20 x.toNatClampNeg) f)) := by rw [eK9, eF9]; exact hD
    refine lv_goto (tgt := 18) hx hb dL_retract_9 (by decide) ?_
    refine lv_iconst (v := nI 0) hx hb dL_retract_18 (by decide) ?_
    refine W.widen (k := 2) (n := 12) (Nat.le_of_ble_eq_true rfl) (Nat.le_of_ble_eq_true rfl) ?_
    exact W.iret (v := nI 0) hx hb hr (fun t ht hW => ⟨⟨nI 0, (), rfl, eR9, by rw [ht]; exact hP, va_K.moved hW.alike hK, hD⟩, hS.F ht⟩) hS.2.2 dL_retract_19
set_option maxHeartbeats 4000000 in
set_option maxRecDepth 100000 in
theorem kL_spent (l : Launch) (hl9 : l.stackTraces = false) (D : va_G) (cI cZ cJ : ClassId) (ad : Nat → Nat) (K : kS) (o : Nat) (f : Nat → Int64) (sz : Nat) (x : Int32)   : zMh l yL_spent wsL_spent ({ frames := 8, cells := 1, slots := 6, locals := 123 }) [.ref (ad 0), .int x, .ref o] D (zTj cI cZ cJ) (kwO ad cI cZ cJ K o f) (kwO ad cI cZ cJ (zEK (kLapT x) (K) K) o (zFK (kLapT x) (K 1 x.toNatClampNeg) f)) sz (zPos (nI 1) (nI 0) (nI 0) (kLapT x)) 1 6 := by
  refine va_MetW (cc := cL_spent) (maxL := 4) (ret := (some .int)) (hh := [(0, 9, 12, 27)]) (by decide) rfl ?_
  intro pP e s m args below meth c s₁ B hml hv
  obtain ⟨rfl, hsz, hP, hK, hD0, hE0, hN⟩ := hv
  have hx := B.exec
  have hb := B.bytes
  have hr := B.returns
  have hts := atoms_spec (ws := wsL_spent) B.pre
  have hTab := vx_table (x := yL_spent) B (hts (.codeWith yL_spent cL_spent 4 (some .int) [(0, 9, 12, 27)]) (List.mem_of_getElem? (i := 0) rfl))
  have hown : s.vm.findClass RL = some m.cls := findClass_of_methodNamed B.named
  subst hsz
  have hD := hD0.self (sz := s.heap.size)
  generalize hAe : va_A (kwO ad cI cZ cJ K o f) s.heap.size = A at hD hE0 ⊢
  have hE := hE0
  have hA : ∀ q : Nat, s.heap.size ≤ q → A q := fun q h => by rw [← hAe]; exact Or.inr h
  have hS : va_S A s.heap s.heap [] := va_S.rf
  have hK2 : va_K D vwCl (zTy cI cZ) s := hK.sub [0, 1] rfl
  have hl := lv_entry ([.ref (ad 0), .int x, .ref o]) (n := 4) (Nat.le_of_ble_eq_true rfl)
  rw [lg_entry_eq]
  generalize (lg_sl ([.ref (ad 0), .int x, .ref o]) ++ List.replicate (4 - (lg_sl ([.ref (ad 0), .int x, .ref o])).length) Slot.unset).toArray = ls at hl ⊢
  have hl : lv_has ls 4 [(0, .ref (ad 0)), (1, .int x), (2, .ref o)] := hl
  refine lv_aload_n hx hb dL_spent_0 rfl (lv_at hl 2 rfl) ?_
  refine lv_iconst (v := nI 0) hx hb dL_spent_1 (by decide) ?_
  refine lv_aload_n hx hb dL_spent_2 rfl (lv_at hl 0 rfl) ?_
  refine lv_iload_n hx hb dL_spent_3 rfl (lv_at hl 1 rfl) ?_
  refine zx_Vi (As := [.int x]) (rest := [.int (nI 0), .ref o]) (wr := [(o, .inl (cJ, 1, .inr (.inl f)))]) ⟨hx, hb, hml, hown, hts⟩ (kX5_spent l hl9 D cI cZ ad K _ x  ) (cwV 1 hts gL_spent_X5_spent rfl rfl rfl (by decide +kernel) ⟨(Nat.le_of_ble_eq_true rfl), (Nat.le_of_ble_eq_true rfl)⟩) hK2 hP hD hS hA hE [0, 1, 2, 3, 4, 5, 6, 7, 8, 9, 10, 11, 12, 13, 14, 15, 16, 17, 18, 19, 20, 21, 22, 23, 24, 25] [26] rfl rfl rfl rfl rfl (by decide) (ci := 5) (q0 := 0) rfl rfl rfl rfl hl.1 rfl (Nat.le_of_ble_eq_true rfl) dL_spent_4 ⟨(Nat.le_of_ble_eq_true rfl), (Nat.le_of_ble_eq_true rfl)⟩ (fun E ce q9 H locs h0 hE9 hP hD hS hce hcv hcl => ?_) (fun hT H locs hP hD hS => ?_)
  · skip
    have hP := hP.sub (ws' := (kwO ad cI cZ cJ K o f)) [1, 2, 3, 4, 5, 6, 7, 8, 9, 10, 11, 12, 13, 14, 15, 16, 17, 18, 19, 20, 21, 22, 23, 24, 25, 26, 0] rfl
    have hD := hD.sub (ws' := (kwO ad cI cZ cJ K o f)) [1, 2, 3, 4, 5, 6, 7, 8, 9, 10, 11, 12, 13, 14, 15, 16, 17, 18, 19, 20, 21, 22, 23, 24, 25, 26, 0] rfl rfl
    have h0 : ¬ kLapT x = nI 0 := h0
    have hE9 : E = zN (kLapT x) := hE9
    have eK9 : zEK (kLapT x) (K) K = K := zEK_n h0
    have eF9 : zFK (kLapT x) (K 1 x.toNatClampNeg) f = f := zFK_n h0
    have hr9 : zRng true false false (kLapT x) := kLapT_r
    rcases hr9.resolve_left h0 with ⟨h8, h9⟩ | ⟨h8, h9⟩ | ⟨h8, h9⟩
    · skip
      have hE8 : E = "java/lang/IndexOutOfBoundsException" := by rw [hE9, h9, zN_1]
      subst hE8
      refine vx_catch (own := RL) (name := "java/lang/IndexOutOfBoundsException") hown [] ⟨0, 9, 12, 27⟩ [] (by rw [hTab]; rfl) (fun _ h => absurd h List.not_mem_nil) (by decide) (by decide) (hts (.classLink RL 27 "java/lang/IndexOutOfBoundsException") (List.mem_of_getElem? (i := 1) rfl)) (va_Nw.use rfl (hE.1 (.castable "java/lang/IndexOutOfBoundsException" "java/lang/IndexOutOfBoundsException") (List.mem_of_getElem? (i := 39) rfl))) hce hcv hcl ?_
      refine lv_astore_n (lv' := [(3, .ref q9), (0, .ref (ad 0)), (1, .int x), (2, .ref o)]) hx hb dL_spent_12 rfl hl (by decide) rfl (fun ls hl => ?_)
      refine lv_iconst (v := nI 1) hx hb dL_spent_13 (by decide) ?_
      have eR9 : nI 1 = zPos (nI 1) (nI 0) (nI 0) (kLapT x) := by rw [h9, zPos_1]
      have hP9 : va_P D vwCl (kwO ad cI cZ cJ (zEK (kLapT x) (K) K) o (zFK (kLapT x) (K 1 x.toNatClampNeg) f)) H := by rw [eK9, eF9]; exact hP
      have hD9 : va_D A (kwO ad cI cZ cJ (zEK (kLapT x) (K) K) o (zFK (kLapT x) (K 1 x.toNatClampNeg) f)) := by rw [eK9, eF9]; exact hD
      refine W.widen (k := 1) (n := 6) (Nat.le_of_ble_eq_true rfl) (Nat.le_of_ble_eq_true rfl) ?_
      exact W.iret (v := nI 1) hx hb hr (fun t ht hW => ⟨⟨nI 1, (), rfl, eR9, by rw [ht]; exact hP9, va_K.moved hW.alike hK, hD9⟩, hS.F ht⟩) hS.2.2 dL_spent_14
    · skip
      exact nomatch h8
    · skip
      exact nomatch h8
  · skip
    have hP := hP.sub (ws' := (kwO ad cI cZ cJ (K) o f)) [1, 2, 3, 4, 5, 6, 7, 8, 9, 10, 11, 12, 13, 14, 15, 16, 17, 18, 19, 20, 21, 22, 23, 24, 25, 26, 0] rfl
    have hD := hD.sub (ws' := (kwO ad cI cZ cJ (K) o f)) [1, 2, 3, 4, 5, 6, 7, 8, 9, 10, 11, 12, 13, 14, 15, 16, 17, 18, 19, 20, 21, 22, 23, 24, 25, 26, 0] rfl rfl
    have hT : kLapT x = nI 0 := hT
    have eK9 : zEK (kLapT x) (K) K = K := zEK_0 hT
    have eF9 : zFK (kLapT x) (K 1 x.toNatClampNeg) f = vp_updL f 0 (K 1 x.toNatClampNeg).toInt64 := zFK_0 hT
    have eR9 : nI 0 = zPos (nI 1) (nI 0) (nI 0) (kLapT x) := by rw [hT, zPos_0]
    refine lv_i2l (v := (K 1 x.toNatClampNeg).toInt64) hx hb dL_spent_7 rfl ?_
    refine va_last hx hb hK hP hD hS 26 2 rfl rfl (i := nI 0) (vp_in_nI (by decide) (by decide)) dL_spent_8 (fun H locs hP hD hS => ?_)
    have hP : va_P D vwCl (kwO ad cI cZ cJ (zEK (kLapT x) (K) K) o (zFK (kLapT x) (K 1 x.toNatClampNeg) f)) H := by rw [eK9, eF9]; exact hP
    have hD : va_D A (kwO ad cI cZ cJ (zEK (kLapT x) (K) K) o (zFK (kLapT x) (K 1 x.toNatClampNeg) f)) := by rw [eK9, eF9]; exact hD
    refine lv_goto (tgt := 15) hx hb dL_spent_9 (by decide) ?_
    refine lv_iconst (v := nI 0) hx hb dL_spent_15 (by decide) ?_
    refine W.widen (k := 1) (n := 6) (Nat.le_of_ble_eq_true rfl) (Nat.le_of_ble_eq_true rfl) ?_
    exact W.iret (v := nI 0) hx hb hr (fun t ht hW => ⟨⟨nI 0, (), rfl, eR9, by rw [ht]; exact hP, va_K.moved hW.alike hK, hD⟩, hS.F ht⟩) hS.2.2 dL_spent_16
