set_option maxHeartbeats 4000000 in
set_option maxRecDepth 100000 in
theorem kL_pass (l : Launch) (hl9 : l.stackTraces = false) (D : va_G) (cI cZ : ClassId) (ad : Nat → Nat) (K : kS) (sz : Nat) (x : Int32)  (hok : kHok K) : zMh l yL_pass wsL_pass ({ frames := 7, cells := 1, slots := 6, locals := 105 }) [.ref (ad 0), .int x] D (zTy cI cZ) (kwA ad cI cZ K) (kwA ad cI cZ (zEK (kPassT K x) (kPassS (kPassB K x) 8) K)) sz (zAn (kPassT K x) (nI (kPassN (kPassB K x) 8))) 1 6 := by
  refine va_MetW (cc := cL_pass) (maxL := 3) (ret := (some .int)) (hh := [(0, 5, 6, 14), (0, 5, 10, 17)]) (by decide) rfl ?_
  intro pP e s m args below meth c s₁ B hml hv
  obtain ⟨rfl, hsz, hP, hK, hD0, hE0, hN⟩ := hv
  have hx := B.exec
  have hb := B.bytes
  have hr := B.returns
  have hts := atoms_spec (ws := wsL_pass) B.pre
  have hTab := vx_table (x := yL_pass) B (hts (.codeWith yL_pass cL_pass 3 (some .int) [(0, 5, 6, 14), (0, 5, 10, 17)]) (List.mem_of_getElem? (i := 0) rfl))
  have hown : s.vm.findClass RL = some m.cls := findClass_of_methodNamed B.named
  subst hsz
  have hD := hD0.self (sz := s.heap.size)
  generalize hAe : va_A (kwA ad cI cZ K) s.heap.size = A at hD hE0 ⊢
  have hE := hE0
  have hA : ∀ q : Nat, s.heap.size ≤ q → A q := fun q h => by rw [← hAe]; exact Or.inr h
  have hS : va_S A s.heap s.heap [] := va_S.rf
  have hl := lv_entry ([.ref (ad 0), .int x]) (n := 3) (Nat.le_of_ble_eq_true rfl)
  rw [lg_entry_eq]
  generalize (lg_sl ([.ref (ad 0), .int x]) ++ List.replicate (3 - (lg_sl ([.ref (ad 0), .int x])).length) Slot.unset).toArray = ls at hl ⊢
  have hl : lv_has ls 3 [(0, .ref (ad 0)), (1, .int x)] := hl
  refine lv_aload_n hx hb dL_pass_0 rfl (lv_at hl 0 rfl) ?_
  refine lv_iload_n hx hb dL_pass_1 rfl (lv_at hl 1 rfl) ?_
  refine zx_Vi (As := [.int x]) (rest := []) (wr := []) ⟨hx, hb, hml, hown, hts⟩ (kX5_pass l hl9 D cI cZ ad K _ x  hok) (cwV 1 hts gL_pass_X5_pass rfl rfl rfl (by decide +kernel) ⟨(Nat.le_of_ble_eq_true rfl), (Nat.le_of_ble_eq_true rfl)⟩) hK hP hD hS hA hE [0, 1, 2, 3, 4, 5, 6, 7, 8, 9, 10, 11, 12, 13, 14, 15, 16, 17, 18, 19, 20, 21, 22, 23, 24, 25] [] rfl rfl rfl rfl rfl (by decide) (ci := 5) (q0 := 0) rfl rfl rfl rfl hl.1 rfl (Nat.le_of_ble_eq_true rfl) dL_pass_2 ⟨(Nat.le_of_ble_eq_true rfl), (Nat.le_of_ble_eq_true rfl)⟩ (fun E ce q9 H locs h0 hE9 hP hD hS hce hcv hcl => ?_) (fun hT H locs hP hD hS => ?_)
  · skip
    have hP : va_P D vwCl (kwA ad cI cZ K) H := hP
    have hD : va_D A (kwA ad cI cZ K) := hD
    have h0 : ¬ kPassT K x = nI 0 := h0
    have hE9 : E = zN (kPassT K x) := hE9
    have eK9 : zEK (kPassT K x) (kPassS (kPassB K x) 8) K = K := zEK_n h0
    have hr9 : zRng false true true (kPassT K x) := kPassT_r
    rcases hr9.resolve_left h0 with ⟨h8, h9⟩ | ⟨h8, h9⟩ | ⟨h8, h9⟩
    · skip
      exact nomatch h8
    · skip
      have hE8 : E = "java/lang/IllegalArgumentException" := by rw [hE9, h9, zN_2]
      subst hE8
      refine vx_catch (own := RL) (name := "java/lang/IllegalArgumentException") hown [] ⟨0, 5, 6, 14⟩ [⟨0, 5, 10, 17⟩] (by rw [hTab]; rfl) (fun _ h => absurd h List.not_mem_nil) (by decide) (by decide) (hts (.classLink RL 14 "java/lang/IllegalArgumentException") (List.mem_of_getElem? (i := 1) rfl)) (va_Nw.use rfl (hE.1 (.castable "java/lang/IllegalArgumentException" "java/lang/IllegalArgumentException") (List.mem_of_getElem? (i := 39) rfl))) hce hcv hcl ?_
      refine lv_astore_n (lv' := [(2, .ref q9), (0, .ref (ad 0)), (1, .int x)]) hx hb dL_pass_6 rfl hl (by decide) rfl (fun ls hl => ?_)
      refine lv_ldc (v := (-99999)) hx hb hown (hts (.constant RL 16 (-99999)) (List.mem_of_getElem? (i := 3) rfl)) dL_pass_7 ?_
      have eR9 : (-99999) = zAn (kPassT K x) (nI (kPassN (kPassB K x) 8)) := (zAn_n h0).symm
      have hP9 : va_P D vwCl (kwA ad cI cZ (zEK (kPassT K x) (kPassS (kPassB K x) 8) K)) H := by rw [eK9]; exact hP
      have hD9 : va_D A (kwA ad cI cZ (zEK (kPassT K x) (kPassS (kPassB K x) 8) K)) := by rw [eK9]; exact hD
      exact W.iret (v := (-99999)) hx hb hr (fun t ht hW => ⟨⟨(-99999), (), rfl, eR9, by rw [ht]; exact hP9, va_K.moved hW.alike hK, hD9⟩, hS.F ht⟩) hS.2.2 dL_pass_9
    · skip
      have hE8 : E = "java/lang/IllegalStateException" := by rw [hE9, h9, zN_3]
      subst hE8
      refine vx_catch (own := RL) (name := "java/lang/IllegalStateException") hown [⟨0, 5, 6, 14⟩] ⟨0, 5, 10, 17⟩ [] (by rw [hTab]; rfl) (List.forall_mem_cons.mpr ⟨Or.inr ⟨by decide, "java/lang/IllegalArgumentException", (hts (.classLink RL 14 "java/lang/IllegalArgumentException") (List.mem_of_getElem? (i := 1) rfl)), hN.1⟩, (fun _ h => absurd h List.not_mem_nil)⟩) (by decide) (by decide) (hts (.classLink RL 17 "java/lang/IllegalStateException") (List.mem_of_getElem? (i := 2) rfl)) (va_Nw.use rfl (hE.1 (.castable "java/lang/IllegalStateException" "java/lang/IllegalStateException") (List.mem_of_getElem? (i := 40) rfl))) hce hcv hcl ?_
      refine lv_astore_n (lv' := [(2, .ref q9), (0, .ref (ad 0)), (1, .int x)]) hx hb dL_pass_10 rfl hl (by decide) rfl (fun ls hl => ?_)
      refine lv_ldc (v := (-99999)) hx hb hown (hts (.constant RL 16 (-99999)) (List.mem_of_getElem? (i := 3) rfl)) dL_pass_11 ?_
      have eR9 : (-99999) = zAn (kPassT K x) (nI (kPassN (kPassB K x) 8)) := (zAn_n h0).symm
      have hP9 : va_P D vwCl (kwA ad cI cZ (zEK (kPassT K x) (kPassS (kPassB K x) 8) K)) H := by rw [eK9]; exact hP
      have hD9 : va_D A (kwA ad cI cZ (zEK (kPassT K x) (kPassS (kPassB K x) 8) K)) := by rw [eK9]; exact hD
      exact W.iret (v := (-99999)) hx hb hr (fun t ht hW => ⟨⟨(-99999), (), rfl, eR9, by rw [ht]; exact hP9, va_K.moved hW.alike hK, hD9⟩, hS.F ht⟩) hS.2.2 dL_pass_13
  · skip
    have hP : va_P D vwCl (kwA ad cI cZ (kPassS (kPassB K x) 8)) H := hP
    have hD : va_D A (kwA ad cI cZ (kPassS (kPassB K x) 8)) := hD
    have hT : kPassT K x = nI 0 := hT
    have eK9 : zEK (kPassT K x) (kPassS (kPassB K x) 8) K = kPassS (kPassB K x) 8 := zEK_0 hT
    have eR9 : nI (kPassN (kPassB K x) 8) = zAn (kPassT K x) (nI (kPassN (kPassB K x) 8)) := (zAn_0 hT).symm
    have hP : va_P D vwCl (kwA ad cI cZ (zEK (kPassT K x) (kPassS (kPassB K x) 8) K)) H := by rw [eK9]; exact hP
    have hD : va_D A (kwA ad cI cZ (zEK (kPassT K x) (kPassS (kPassB K x) 8) K)) := by rw [eK9]; exact hD
    exact W.iret (v := nI (kPassN (kPassB K x) 8)) hx hb hr (fun t ht hW => ⟨⟨nI (kPassN (kPassB K x) 8), (), rfl, eR9, by rw [ht]; exact hP, va_K.moved hW.alike hK, hD⟩, hS.F ht⟩) hS.2.2 dL_pass_5
set_option maxHeartbeats 4000000 in
set_option maxRecDepth 100000 in
theorem kL_setOpening (l : Launch) (hl9 : l.stackTraces = false) (D : va_G) (cI cZ : ClassId) (ad : Nat → Nat) (K : kS) (sz : Nat) (x : Int32)   : zMh l yL_setOpening wsL_setOpening ({ frames := 7, cells := 1, slots := 6, locals := 104 }) [.ref (ad 0), .int x] D (zTy cI cZ) (kwA ad cI cZ K) (kwA ad cI cZ (zEK (kSetT x) (kSetE K x) K)) sz (zAn (kSetT x) (K 0 1)) 1 6 := by
  refine va_MetW (cc := cL_setOpening) (maxL := 3) (ret := (some .int)) (hh := [(0, 5, 6, 14)]) (by decide) rfl ?_
  intro pP e s m args below meth c s₁ B hml hv
  obtain ⟨rfl, hsz, hP, hK, hD0, hE0, hN⟩ := hv
  have hx := B.exec
  have hb := B.bytes
  have hr := B.returns
  have hts := atoms_spec (ws := wsL_setOpening) B.pre
  have hTab := vx_table (x := yL_setOpening) B (hts (.codeWith yL_setOpening cL_setOpening 3 (some .int) [(0, 5, 6, 14)]) (List.mem_of_getElem? (i := 0) rfl))
  have hown : s.vm.findClass RL = some m.cls := findClass_of_methodNamed B.named
  subst hsz
  have hD := hD0.self (sz := s.heap.size)
  generalize hAe : va_A (kwA ad cI cZ K) s.heap.size = A at hD hE0 ⊢
  have hE := hE0
  have hA : ∀ q : Nat, s.heap.size ≤ q → A q := fun q h => by rw [← hAe]; exact Or.inr h
  have hS : va_S A s.heap s.heap [] := va_S.rf
  have hl := lv_entry ([.ref (ad 0), .int x]) (n := 3) (Nat.le_of_ble_eq_true rfl)
  rw [lg_entry_eq]
  generalize (lg_sl ([.ref (ad 0), .int x]) ++ List.replicate (3 - (lg_sl ([.ref (ad 0), .int x])).length) Slot.unset).toArray = ls at hl ⊢
  have hl : lv_has ls 3 [(0, .ref (ad 0)), (1, .int x)] := hl
  refine lv_aload_n hx hb dL_setOpening_0 rfl (lv_at hl 0 rfl) ?_
  refine lv_iload_n hx hb dL_setOpening_1 rfl (lv_at hl 1 rfl) ?_
  refine zx_Vi (As := [.int x]) (rest := []) (wr := []) ⟨hx, hb, hml, hown, hts⟩ (kX5_setOpening l hl9 D cI cZ ad K _ x  ) (cwV 1 hts gL_setOpening_X5_setOpening rfl rfl rfl (by decide +kernel) ⟨(Nat.le_of_ble_eq_true rfl), (Nat.le_of_ble_eq_true rfl)⟩) hK hP hD hS hA hE [0, 1, 2, 3, 4, 5, 6, 7, 8, 9, 10, 11, 12, 13, 14, 15, 16, 17, 18, 19, 20, 21, 22, 23, 24, 25] [] rfl rfl rfl rfl rfl (by decide) (ci := 5) (q0 := 0) rfl rfl rfl rfl hl.1 rfl (Nat.le_of_ble_eq_true rfl) dL_setOpening_2 ⟨(Nat.le_of_ble_eq_true rfl), (Nat.le_of_ble_eq_true rfl)⟩ (fun E ce q9 H locs h0 hE9 hP hD hS hce hcv hcl => ?_) (fun hT H locs hP hD hS => ?_)
  · skip
    have hP : va_P D vwCl (kwA ad cI cZ K) H := hP
    have hD : va_D A (kwA ad cI cZ K) := hD
    have h0 : ¬ kSetT x = nI 0 := h0
    have hE9 : E = zN (kSetT x) := hE9
    have eK9 : zEK (kSetT x) (kSetE K x) K = K := zEK_n h0
    have hr9 : zRng false true false (kSetT x) := kSetT_r
    rcases hr9.resolve_left h0 with ⟨h8, h9⟩ | ⟨h8, h9⟩ | ⟨h8, h9⟩
    · skip
      exact nomatch h8
    · skip
      have hE8 : E = "java/lang/IllegalArgumentException" := by rw [hE9, h9, zN_2]
      subst hE8
      refine vx_catch (own := RL) (name := "java/lang/IllegalArgumentException") hown [] ⟨0, 5, 6, 14⟩ [] (by rw [hTab]; rfl) (fun _ h => absurd h List.not_mem_nil) (by decide) (by decide) (hts (.classLink RL 14 "java/lang/IllegalArgumentException") (List.mem_of_getElem? (i := 1) rfl)) (va_Nw.use rfl (hE.1 (.castable "java/lang/IllegalArgumentException" "java/lang/IllegalArgumentException") (List.mem_of_getElem? (i := 39) rfl))) hce hcv hcl ?_
      refine lv_astore_n (lv' := [(2, .ref q9), (0, .ref (ad 0)), (1, .int x)]) hx hb dL_setOpening_6 rfl hl (by decide) rfl (fun ls hl => ?_)
      refine lv_ldc (v := (-99999)) hx hb hown (hts (.constant RL 16 (-99999)) (List.mem_of_getElem? (i := 2) rfl)) dL_setOpening_7 ?_
      have eR9 : (-99999) = zAn (kSetT x) (K 0 1) := (zAn_n h0).symm
      have hP9 : va_P D vwCl (kwA ad cI cZ (zEK (kSetT x) (kSetE K x) K)) H := by rw [eK9]; exact hP
      have hD9 : va_D A (kwA ad cI cZ (zEK (kSetT x) (kSetE K x) K)) := by rw [eK9]; exact hD
      exact W.iret (v := (-99999)) hx hb hr (fun t ht hW => ⟨⟨(-99999), (), rfl, eR9, by rw [ht]; exact hP9, va_K.moved hW.alike hK, hD9⟩, hS.F ht⟩) hS.2.2 dL_setOpening_9
    · skip
      exact nomatch h8
  · skip
    have hP : va_P D vwCl (kwA ad cI cZ (kSetE K x)) H := hP
    have hD : va_D A (kwA ad cI cZ (kSetE K x)) := hD
    have hT : kSetT x = nI 0 := hT
    have eK9 : zEK (kSetT x) (kSetE K x) K = kSetE K x := zEK_0 hT
    have eR9 : K 0 1 = zAn (kSetT x) (K 0 1) := (zAn_0 hT).symm
    have hP : va_P D vwCl (kwA ad cI cZ (zEK (kSetT x) (kSetE K x) K)) H := by rw [eK9]; exact hP
    have hD : va_D A (kwA ad cI cZ (zEK (kSetT x) (kSetE K x) K)) := by rw [eK9]; exact hD
    exact W.iret (v := K 0 1) hx hb hr (fun t ht hW => ⟨⟨K 0 1, (), rfl, eR9, by rw [ht]; exact hP, va_K.moved hW.alike hK, hD⟩, hS.F ht⟩) hS.2.2 dL_setOpening_5
set_option maxHeartbeats 4000000 in
set_option maxRecDepth 100000 in
theorem kL_code (l : Launch) (hl9 : l.stackTraces = false) (D : va_G) (cI cZ : ClassId) (ad : Nat → Nat) (K : kS) (sz : Nat) (a1 : Int32) (b1 : Int32) (n9 : Nat) (hn9 : n9 ≤ 10) (hc8 : K 2 0 = nI n9) : zMh l yL_code wsL_code ({ frames := 7, cells := 1, slots := 6, locals := 104 }) [.ref (ad 0), .int a1, .int b1] D (zTy cI cZ) (kwA ad cI cZ K) (kwA ad cI cZ (zEK (kCodeT K a1 b1) (kCode K n9 a1 b1) K)) sz (zAn (kCodeT K a1 b1) (nI n9)) 1 6 := by
  refine va_MetW (cc := cL_code) (maxL := 4) (ret := (some .int)) (hh := [(0, 6, 7, 14), (0, 6, 11, 17)]) (by decide) rfl ?_
  intro pP e s m args below meth c s₁ B hml hv
  obtain ⟨rfl, hsz, hP, hK, hD0, hE0, hN⟩ := hv
  have hx := B.exec
  have hb := B.bytes
  have hr := B.returns
  have hts := atoms_spec (ws := wsL_code) B.pre
  have hTab := vx_table (x := yL_code) B (hts (.codeWith yL_code cL_code 4 (some .int) [(0, 6, 7, 14), (0, 6, 11, 17)]) (List.mem_of_getElem? (i := 0) rfl))
  have hown : s.vm.findClass RL = some m.cls := findClass_of_methodNamed B.named
  subst hsz
  have hD := hD0.self (sz := s.heap.size)
  generalize hAe : va_A (kwA ad cI cZ K) s.heap.size = A at hD hE0 ⊢
  have hE := hE0
  have hA : ∀ q : Nat, s.heap.size ≤ q → A q := fun q h => by rw [← hAe]; exact Or.inr h
  have hS : va_S A s.heap s.heap [] := va_S.rf
  have hl := lv_entry ([.ref (ad 0), .int a1, .int b1]) (n := 4) (Nat.le_of_ble_eq_true rfl)
  rw [lg_entry_eq]
  generalize (lg_sl ([.ref (ad 0), .int a1, .int b1]) ++ List.replicate (4 - (lg_sl ([.ref (ad 0), .int a1, .int b1])).length) Slot.unset).toArray = ls at hl ⊢
  have hl : lv_has ls 4 [(0, .ref (ad 0)), (1, .int a1), (2, .int b1)] := hl
  refine lv_aload_n hx hb dL_code_0 rfl (lv_at hl 0 rfl) ?_
  refine lv_iload_n hx hb dL_code_1 rfl (lv_at hl 1 rfl) ?_
  refine lv_iload_n hx hb dL_code_2 rfl (lv_at hl 2 rfl) ?_
  refine zx_Vi (As := [.int a1, .int b1]) (rest := []) (wr := []) ⟨hx, hb, hml, hown, hts⟩ (kX5_code l hl9 D cI cZ ad K _ a1 b1 n9 hn9 hc8) (cwV 2 hts gL_code_X5_code rfl rfl rfl (by decide +kernel) ⟨(Nat.le_of_ble_eq_true rfl), (Nat.le_of_ble_eq_true rfl)⟩) hK hP hD hS hA hE [0, 1, 2, 3, 4, 5, 6, 7, 8, 9, 10, 11, 12, 13, 14, 15, 16, 17, 18, 19, 20, 21, 22, 23, 24, 25] [] rfl rfl rfl rfl rfl (by decide) (ci := 5) (q0 := 0) rfl rfl rfl rfl hl.1 rfl (Nat.le_of_ble_eq_true rfl) dL_code_3 ⟨(Nat.le_of_ble_eq_true rfl), (Nat.le_of_ble_eq_true rfl)⟩ (fun E ce q9 H locs h0 hE9 hP hD hS hce hcv hcl => ?_) (fun hT H locs hP hD hS => ?_)
  · skip
    have hP : va_P D vwCl (kwA ad cI cZ K) H := hP
    have hD : va_D A (kwA ad cI cZ K) := hD
    have h0 : ¬ kCodeT K a1 b1 = nI 0 := h0
    have hE9 : E = zN (kCodeT K a1 b1) := hE9
    have eK9 : zEK (kCodeT K a1 b1) (kCode K n9 a1 b1) K = K := zEK_n h0
    have hr9 : zRng false true true (kCodeT K a1 b1) := kCodeT_r
    rcases hr9.resolve_left h0 with ⟨h8, h9⟩ | ⟨h8, h9⟩ | ⟨h8, h9⟩
    · skip
      exact nomatch h8
    · skip
      have hE8 : E = "java/lang/IllegalArgumentException" := by rw [hE9, h9, zN_2]
      subst hE8
      refine vx_catch (own := RL) (name := "java/lang/IllegalArgumentException") hown [] ⟨0, 6, 7, 14⟩ [⟨0, 6, 11, 17⟩] (by rw [hTab]; rfl) (fun _ h => absurd h List.not_mem_nil) (by decide) (by decide) (hts (.classLink RL 14 "java/lang/IllegalArgumentException") (List.mem_of_getElem? (i := 1) rfl)) (va_Nw.use rfl (hE.1 (.castable "java/lang/IllegalArgumentException" "java/lang/IllegalArgumentException") (List.mem_of_getElem? (i := 39) rfl))) hce hcv hcl ?_
      refine lv_astore_n (lv' := [(3, .ref q9), (0, .ref (ad 0)), (1, .int a1), (2, .int b1)]) hx hb dL_code_7 rfl hl (by decide) rfl (fun ls hl => ?_)
      refine lv_ldc (v := (-99999)) hx hb hown (hts (.constant RL 16 (-99999)) (List.mem_of_getElem? (i := 3) rfl)) dL_code_8 ?_
      have eR9 : (-99999) = zAn (kCodeT K a1 b1) (nI n9) := (zAn_n h0).symm
      have hP9 : va_P D vwCl (kwA ad cI cZ (zEK (kCodeT K a1 b1) (kCode K n9 a1 b1) K)) H := by rw [eK9]; exact hP
      have hD9 : va_D A (kwA ad cI cZ (zEK (kCodeT K a1 b1) (kCode K n9 a1 b1) K)) := by rw [eK9]; exact hD
      exact W.iret (v := (-99999)) hx hb hr (fun t ht hW => ⟨⟨(-99999), (), rfl, eR9, by rw [ht]; exact hP9, va_K.moved hW.alike hK, hD9⟩, hS.F ht⟩) hS.2.2 dL_code_10
    · skip
      have hE8 : E = "java/lang/IllegalStateException" := by rw [hE9, h9, zN_3]
      subst hE8
      refine vx_catch (own := RL) (name := "java/lang/IllegalStateException") hown [⟨0, 6, 7, 14⟩] ⟨0, 6, 11, 17⟩ [] (by rw [hTab]; rfl) (List.forall_mem_cons.mpr ⟨Or.inr ⟨by decide, "java/lang/IllegalArgumentException", (hts (.classLink RL 14 "java/lang/IllegalArgumentException") (List.mem_of_getElem? (i := 1) rfl)), hN.1⟩, (fun _ h => absurd h List.not_mem_nil)⟩) (by decide) (by decide) (hts (.classLink RL 17 "java/lang/IllegalStateException") (List.mem_of_getElem? (i := 2) rfl)) (va_Nw.use rfl (hE.1 (.castable "java/lang/IllegalStateException" "java/lang/IllegalStateException") (List.mem_of_getElem? (i := 40) rfl))) hce hcv hcl ?_
      refine lv_astore_n (lv' := [(3, .ref q9), (0, .ref (ad 0)), (1, .int a1), (2, .int b1)]) hx hb dL_code_11 rfl hl (by decide) rfl (fun ls hl => ?_)
      refine lv_ldc (v := (-99999)) hx hb hown (hts (.constant RL 16 (-99999)) (List.mem_of_getElem? (i := 3) rfl)) dL_code_12 ?_
      have eR9 : (-99999) = zAn (kCodeT K a1 b1) (nI n9) := (zAn_n h0).symm
      have hP9 : va_P D vwCl (kwA ad cI cZ (zEK (kCodeT K a1 b1) (kCode K n9 a1 b1) K)) H := by rw [eK9]; exact hP
      have hD9 : va_D A (kwA ad cI cZ (zEK (kCodeT K a1 b1) (kCode K n9 a1 b1) K)) := by rw [eK9]; exact hD
      exact W.iret (v := (-99999)) hx hb hr (fun t ht hW => ⟨⟨(-99999), (), rfl, eR9, by rw [ht]; exact hP9, va_K.moved hW.alike hK, hD9⟩, hS.F ht⟩) hS.2.2 dL_code_14
  · skip
    have hP : va_P D vwCl (kwA ad cI cZ (kCode K n9 a1 b1)) H := hP
    have hD : va_D A (kwA ad cI cZ (kCode K n9 a1 b1)) := hD
    have hT : kCodeT K a1 b1 = nI 0 := hT
    have eK9 : zEK (kCodeT K a1 b1) (kCode K n9 a1 b1) K = kCode K n9 a1 b1 := zEK_0 hT
    have eR9 : nI n9 = zAn (kCodeT K a1 b1) (nI n9) := (zAn_0 hT).symm
    have hP : va_P D vwCl (kwA ad cI cZ (zEK (kCodeT K a1 b1) (kCode K n9 a1 b1) K)) H := by rw [eK9]; exact hP
    have hD : va_D A (kwA ad cI cZ (zEK (kCodeT K a1 b1) (kCode K n9 a1 b1) K)) := by rw [eK9]; exact hD
    exact W.iret (v := nI n9) hx hb hr (fun t ht hW => ⟨⟨nI n9, (), rfl, eR9, by rw [ht]; exact hP, va_K.moved hW.alike hK, hD⟩, hS.F ht⟩) hS.2.2 dL_code_6
set_option maxHeartbeats 4000000 in
set_option maxRecDepth 100000 in
theorem kL_join (l : Launch) (hl9 : l.stackTraces = false) (D : va_G) (cI cZ : ClassId) (ad : Nat → Nat) (K : kS) (sz : Nat) (x : Int32)   : zMh l yL_join wsL_join ({ frames := 8, cells := 2, slots := 12, locals := 123 }) [.ref (ad 0), .int x] D (zTy cI cZ) (kwA ad cI cZ K) (kwA ad cI cZ (zEK (kJoinT K x) (kEnter K x.toNatClampNeg (K 0 0)) K)) sz (zAn (kJoinT K x) (nI (lLen (kEnter K x.toNatClampNeg (K 0 0))))) 2 12 := by
  refine va_MetW (cc := cL_join) (maxL := 3) (ret := (some .int)) (hh := [(0, 5, 6, 29), (0, 5, 10, 17)]) (by decide) rfl ?_
  intro pP e s m args below meth c s₁ B hml hv
  obtain ⟨rfl, hsz, hP, hK, hD0, hE0, hN⟩ := hv
  have hx := B.exec
  have hb := B.bytes
  have hr := B.returns
  have hts := atoms_spec (ws := wsL_join) B.pre
  have hTab := vx_table (x := yL_join) B (hts (.codeWith yL_join cL_join 3 (some .int) [(0, 5, 6, 29), (0, 5, 10, 17)]) (List.mem_of_getElem? (i := 0) rfl))
  have hown : s.vm.findClass RL = some m.cls := findClass_of_methodNamed B.named
  subst hsz
  have hD := hD0.self (sz := s.heap.size)
  generalize hAe : va_A (kwA ad cI cZ K) s.heap.size = A at hD hE0 ⊢
  have hE := hE0
  have hA : ∀ q : Nat, s.heap.size ≤ q → A q := fun q h => by rw [← hAe]; exact Or.inr h
  have hS : va_S A s.heap s.heap [] := va_S.rf
  have hl := lv_entry ([.ref (ad 0), .int x]) (n := 3) (Nat.le_of_ble_eq_true rfl)
  rw [lg_entry_eq]
  generalize (lg_sl ([.ref (ad 0), .int x]) ++ List.replicate (3 - (lg_sl ([.ref (ad 0), .int x])).length) Slot.unset).toArray = ls at hl ⊢
  have hl : lv_has ls 3 [(0, .ref (ad 0)), (1, .int x)] := hl
  refine lv_aload_n hx hb dL_join_0 rfl (lv_at hl 0 rfl) ?_
  refine lv_iload_n hx hb dL_join_1 rfl (lv_at hl 1 rfl) ?_
  refine zx_Vi (As := [.int x]) (rest := []) (wr := []) ⟨hx, hb, hml, hown, hts⟩ (kX5_join l hl9 D cI cZ ad K _ x  ) (cwV 1 hts gL_join_X5_join rfl rfl rfl (by decide +kernel) ⟨(Nat.le_of_ble_eq_true rfl), (Nat.le_of_ble_eq_true rfl)⟩) hK hP hD hS hA hE [0, 1, 2, 3, 4, 5, 6, 7, 8, 9, 10, 11, 12, 13, 14, 15, 16, 17, 18, 19, 20, 21, 22, 23, 24, 25] [] rfl rfl rfl rfl rfl (by decide) (ci := 5) (q0 := 0) rfl rfl rfl rfl hl.1 rfl (Nat.le_of_ble_eq_true rfl) dL_join_2 ⟨(Nat.le_of_ble_eq_true rfl), (Nat.le_of_ble_eq_true rfl)⟩ (fun E ce q9 H locs h0 hE9 hP hD hS hce hcv hcl => ?_) (fun hT H locs hP hD hS => ?_)
  · skip
    have hP : va_P D vwCl (kwA ad cI cZ K) H := hP
    have hD : va_D A (kwA ad cI cZ K) := hD
    have h0 : ¬ kJoinT K x = nI 0 := h0
    have hE9 : E = zN (kJoinT K x) := hE9
    have eK9 : zEK (kJoinT K x) (kEnter K x.toNatClampNeg (K 0 0)) K = K := zEK_n h0
    have hr9 : zRng true false true (kJoinT K x) := kJoinT_r
    rcases hr9.resolve_left h0 with ⟨h8, h9⟩ | ⟨h8, h9⟩ | ⟨h8, h9⟩
    · skip
      have hE8 : E = "java/lang/IndexOutOfBoundsException" := by rw [hE9, h9, zN_1]
      subst hE8
      refine vx_catch (own := RL) (name := "java/lang/IndexOutOfBoundsException") hown [] ⟨0, 5, 6, 29⟩ [⟨0, 5, 10, 17⟩] (by rw [hTab]; rfl) (fun _ h => absurd h List.not_mem_nil) (by decide) (by decide) (hts (.classLink RL 29 "java/lang/IndexOutOfBoundsException") (List.mem_of_getElem? (i := 1) rfl)) (va_Nw.use rfl (hE.1 (.castable "java/lang/IndexOutOfBoundsException" "java/lang/IndexOutOfBoundsException") (List.mem_of_getElem? (i := 38) rfl))) hce hcv hcl ?_
      refine lv_astore_n (lv' := [(2, .ref q9), (0, .ref (ad 0)), (1, .int x)]) hx hb dL_join_6 rfl hl (by decide) rfl (fun ls hl => ?_)
      refine lv_ldc (v := (-99999)) hx hb hown (hts (.constant RL 16 (-99999)) (List.mem_of_getElem? (i := 3) rfl)) dL_join_7 ?_
      have eR9 : (-99999) = zAn (kJoinT K x) (nI (lLen (kEnter K x.toNatClampNeg (K 0 0)))) := (zAn_n h0).symm
      have hP9 : va_P D vwCl (kwA ad cI cZ (zEK (kJoinT K x) (kEnter K x.toNatClampNeg (K 0 0)) K)) H := by rw [eK9]; exact hP
      have hD9 : va_D A (kwA ad cI cZ (zEK (kJoinT K x) (kEnter K x.toNatClampNeg (K 0 0)) K)) := by rw [eK9]; exact hD
      exact W.iret (v := (-99999)) hx hb hr (fun t ht hW => ⟨⟨(-99999), (), rfl, eR9, by rw [ht]; exact hP9, va_K.moved hW.alike hK, hD9⟩, hS.F ht⟩) hS.2.2 dL_join_9
    · skip
      exact nomatch h8
    · skip
      have hE8 : E = "java/lang/IllegalStateException" := by rw [hE9, h9, zN_3]
      subst hE8
      refine vx_catch (own := RL) (name := "java/lang/IllegalStateException") hown [⟨0, 5, 6, 29⟩] ⟨0, 5, 10, 17⟩ [] (by rw [hTab]; rfl) (List.forall_mem_cons.mpr ⟨Or.inr ⟨by decide, "java/lang/IndexOutOfBoundsException", (hts (.classLink RL 29 "java/lang/IndexOutOfBoundsException") (List.mem_of_getElem? (i := 1) rfl)), hN.2.2⟩, (fun _ h => absurd h List.not_mem_nil)⟩) (by decide) (by decide) (hts (.classLink RL 17 "java/lang/IllegalStateException") (List.mem_of_getElem? (i := 2) rfl)) (va_Nw.use rfl (hE.1 (.castable "java/lang/IllegalStateException" "java/lang/IllegalStateException") (List.mem_of_getElem? (i := 40) rfl))) hce hcv hcl ?_
      refine lv_astore_n (lv' := [(2, .ref q9), (0, .ref (ad 0)), (1, .int x)]) hx hb dL_join_10 rfl hl (by decide) rfl (fun ls hl => ?_)
      refine lv_ldc (v := (-99999)) hx hb hown (hts (.constant RL 16 (-99999)) (List.mem_of_getElem? (i := 3) rfl)) dL_join_11 ?_
      have eR9 : (-99999) = zAn (kJoinT K x) (nI (lLen (kEnter K x.toNatClampNeg (K 0 0)))) := (zAn_n h0).symm
      have hP9 : va_P D vwCl (kwA ad cI cZ (zEK (kJoinT K x) (kEnter K x.toNatClampNeg (K 0 0)) K)) H := by rw [eK9]; exact hP
      have hD9 : va_D A (kwA ad cI cZ (zEK (kJoinT K x) (kEnter K x.toNatClampNeg (K 0 0)) K)) := by rw [eK9]; exact hD
      exact W.iret (v := (-99999)) hx hb hr (fun t ht hW => ⟨⟨(-99999), (), rfl, eR9, by rw [ht]; exact hP9, va_K.moved hW.alike hK, hD9⟩, hS.F ht⟩) hS.2.2 dL_join_13
  · skip
    have hP : va_P D vwCl (kwA ad cI cZ (kEnter K x.toNatClampNeg (K 0 0))) H := hP
    have hD : va_D A (kwA ad cI cZ (kEnter K x.toNatClampNeg (K 0 0))) := hD
    have hT : kJoinT K x = nI 0 := hT
    have eK9 : zEK (kJoinT K x) (kEnter K x.toNatClampNeg (K 0 0)) K = kEnter K x.toNatClampNeg (K 0 0) := zEK_0 hT
    have eR9 : nI (lLen (kEnter K x.toNatClampNeg (K 0 0))) = zAn (kJoinT K x) (nI (lLen (kEnter K x.toNatClampNeg (K 0 0)))) := (zAn_0 hT).symm
    have hP : va_P D vwCl (kwA ad cI cZ (zEK (kJoinT K x) (kEnter K x.toNatClampNeg (K 0 0)) K)) H := by rw [eK9]; exact hP
    have hD : va_D A (kwA ad cI cZ (zEK (kJoinT K x) (kEnter K x.toNatClampNeg (K 0 0)) K)) := by rw [eK9]; exact hD
    exact W.iret (v := nI (lLen (kEnter K x.toNatClampNeg (K 0 0)))) hx hb hr (fun t ht hW => ⟨⟨nI (lLen (kEnter K x.toNatClampNeg (K 0 0))), (), rfl, eR9, by rw [ht]; exact hP, va_K.moved hW.alike hK, hD⟩, hS.F ht⟩) hS.2.2 dL_join_5
set_option maxHeartbeats 4000000 in
set_option maxRecDepth 100000 in
theorem kL_quit (l : Launch) (hl9 : l.stackTraces = false) (D : va_G) (cI cZ : ClassId) (ad : Nat → Nat) (K : kS) (sz : Nat) (x : Int32)   : zMh l yL_quit wsL_quit ({ frames := 8, cells := 2, slots := 12, locals := 123 }) [.ref (ad 0), .int x] D (zTy cI cZ) (kwA ad cI cZ K) (kwA ad cI cZ (zEK (kQuitT K x) (kLeave K x.toNatClampNeg) K)) sz (zAn (kQuitT K x) (nI (lLen (kLeave K x.toNatClampNeg)))) 2 12 := by
  refine va_MetW (cc := cL_quit) (maxL := 3) (ret := (some .int)) (hh := [(0, 5, 6, 29), (0, 5, 10, 17)]) (by decide) rfl ?_
  intro pP e s m args below meth c s₁ B hml hv
  obtain ⟨rfl, hsz, hP, hK, hD0, hE0, hN⟩ := hv
  have hx := B.exec
  have hb := B.bytes
  have hr := B.returns
  have hts := atoms_spec (ws := wsL_quit) B.pre
  have hTab := vx_table (x := yL_quit) B (hts (.codeWith yL_quit cL_quit 3 (some .int) [(0, 5, 6, 29), (0, 5, 10, 17)]) (List.mem_of_getElem? (i := 0) rfl))
  have hown : s.vm.findClass RL = some m.cls := findClass_of_methodNamed B.named
  subst hsz
  have hD := hD0.self (sz := s.heap.size)
  generalize hAe : va_A (kwA ad cI cZ K) s.heap.size = A at hD hE0 ⊢
  have hE := hE0
  have hA : ∀ q : Nat, s.heap.size ≤ q → A q := fun q h => by rw [← hAe]; exact Or.inr h
  have hS : va_S A s.heap s.heap [] := va_S.rf
  have hl := lv_entry ([.ref (ad 0), .int x]) (n := 3) (Nat.le_of_ble_eq_true rfl)
  rw [lg_entry_eq]
  generalize (lg_sl ([.ref (ad 0), .int x]) ++ List.replicate (3 - (lg_sl ([.ref (ad 0), .int x])).length) Slot.unset).toArray = ls at hl ⊢
  have hl : lv_has ls 3 [(0, .ref (ad 0)), (1, .int x)] := hl
  refine lv_aload_n hx hb dL_quit_0 rfl (lv_at hl 0 rfl) ?_
  refine lv_iload_n hx hb dL_quit_1 rfl (lv_at hl 1 rfl) ?_
  refine zx_Vi (As := [.int x]) (rest := []) (wr := []) ⟨hx, hb, hml, hown, hts⟩ (kX5_quit l hl9 D cI cZ ad K _ x  ) (cwV 1 hts gL_quit_X5_quit rfl rfl rfl (by decide +kernel) ⟨(Nat.le_of_ble_eq_true rfl), (Nat.le_of_ble_eq_true rfl)⟩) hK hP hD hS hA hE [0, 1, 2, 3, 4, 5, 6, 7, 8, 9, 10, 11, 12, 13, 14, 15, 16, 17, 18, 19, 20, 21, 22, 23, 24, 25] [] rfl rfl rfl rfl rfl (by decide) (ci := 5) (q0 := 0) rfl rfl rfl rfl hl.1 rfl (Nat.le_of_ble_eq_true rfl) dL_quit_2 ⟨(Nat.le_of_ble_eq_true rfl), (Nat.le_of_ble_eq_true rfl)⟩ (fun E ce q9 H locs h0 hE9 hP hD hS hce hcv hcl => ?_) (fun hT H locs hP hD hS => ?_)
  · skip
    have hP : va_P D vwCl (kwA ad cI cZ K) H := hP
    have hD : va_D A (kwA ad cI cZ K) := hD
    have h0 : ¬ kQuitT K x = nI 0 := h0
    have hE9 : E = zN (kQuitT K x) := hE9
    have eK9 : zEK (kQuitT K x) (kLeave K x.toNatClampNeg) K = K := zEK_n h0
    have hr9 : zRng true false true (kQuitT K x) := kQuitT_r
    rcases hr9.resolve_left h0 with ⟨h8, h9⟩ | ⟨h8, h9⟩ | ⟨h8, h9⟩
    · skip
      have hE8 : E = "java/lang/IndexOutOfBoundsException" := by rw [hE9, h9, zN_1]
      subst hE8
      refine vx_catch (own := RL) (name := "java/lang/IndexOutOfBoundsException") hown [] ⟨0, 5, 6, 29⟩ [⟨0, 5, 10, 17⟩] (by rw [hTab]; rfl) (fun _ h => absurd h List.not_mem_nil) (by decide) (by decide) (hts (.classLink RL 29 "java/lang/IndexOutOfBoundsException") (List.mem_of_getElem? (i := 1) rfl)) (va_Nw.use rfl (hE.1 (.castable "java/lang/IndexOutOfBoundsException" "java/lang/IndexOutOfBoundsException") (List.mem_of_getElem? (i := 38) rfl))) hce hcv hcl ?_
      refine lv_astore_n (lv' := [(2, .ref q9), (0, .ref (ad 0)), (1, .int x)]) hx hb dL_quit_6 rfl hl (by decide) rfl (fun ls hl => ?_)
      refine lv_ldc (v := (-99999)) hx hb hown (hts (.constant RL 16 (-99999)) (List.mem_of_getElem? (i := 3) rfl)) dL_quit_7 ?_
      have eR9 : (-99999) = zAn (kQuitT K x) (nI (lLen (kLeave K x.toNatClampNeg))) := (zAn_n h0).symm
      have hP9 : va_P D vwCl (kwA ad cI cZ (zEK (kQuitT K x) (kLeave K x.toNatClampNeg) K)) H := by rw [eK9]; exact hP
      have hD9 : va_D A (kwA ad cI cZ (zEK (kQuitT K x) (kLeave K x.toNatClampNeg) K)) := by rw [eK9]; exact hD
      exact W.iret (v := (-99999)) hx hb hr (fun t ht hW => ⟨⟨(-99999), (), rfl, eR9, by rw [ht]; exact hP9, va_K.moved hW.alike hK, hD9⟩, hS.F ht⟩) hS.2.2 dL_quit_9
    · skip
      exact nomatch h8
    · skip
      have hE8 : E = "java/lang/IllegalStateException" := by rw [hE9, h9, zN_3]
      subst hE8
      refine vx_catch (own := RL) (name := "java/lang/IllegalStateException") hown [⟨0, 5, 6, 29⟩] ⟨0, 5, 10, 17⟩ [] (by rw [hTab]; rfl) (List.forall_mem_cons.mpr ⟨Or.inr ⟨by decide, "java/lang/IndexOutOfBoundsException", (hts (.classLink RL 29 "java/lang/IndexOutOfBoundsException") (List.mem_of_getElem? (i := 1) rfl)), hN.2.2⟩, (fun _ h => absurd h List.not_mem_nil)⟩) (by decide) (by decide) (hts (.classLink RL 17 "java/lang/IllegalStateException") (List.mem_of_getElem? (i := 2) rfl)) (va_Nw.use rfl (hE.1 (.castable "java/lang/IllegalStateException" "java/lang/IllegalStateException") (List.mem_of_getElem? (i := 40) rfl))) hce hcv hcl ?_
      refine lv_astore_n (lv' := [(2, .ref q9), (0, .ref (ad 0)), (1, .int x)]) hx hb dL_quit_10 rfl hl (by decide) rfl (fun ls hl => ?_)
      refine lv_ldc (v := (-99999)) hx hb hown (hts (.constant RL 16 (-99999)) (List.mem_of_getElem? (i := 3) rfl)) dL_quit_11 ?_
      have eR9 : (-99999) = zAn (kQuitT K x) (nI (lLen (kLeave K x.toNatClampNeg))) := (zAn_n h0).symm
      have hP9 : va_P D vwCl (kwA ad cI cZ (zEK (kQuitT K x) (kLeave K x.toNatClampNeg) K)) H := by rw [eK9]; exact hP
      have hD9 : va_D A (kwA ad cI cZ (zEK (kQuitT K x) (kLeave K x.toNatClampNeg) K)) := by rw [eK9]; exact hD
      exact W.iret (v := (-99999)) hx hb hr (fun t ht hW => ⟨⟨(-99999), (), rfl, eR9, by rw [ht]; exact hP9, va_K.moved hW.alike hK, hD9⟩, hS.F ht⟩) hS.2.2 dL_quit_13
  · skip
    have hP : va_P D vwCl (kwA ad cI cZ (kLeave K x.toNatClampNeg)) H := hP
    have hD : va_D A (kwA ad cI cZ (kLeave K x.toNatClampNeg)) := hD
    have hT : kQuitT K x = nI 0 := hT
    have eK9 : zEK (kQuitT K x) (kLeave K x.toNatClampNeg) K = kLeave K x.toNatClampNeg := zEK_0 hT
    have eR9 : nI (lLen (kLeave K x.toNatClampNeg)) = zAn (kQuitT K x) (nI (lLen (kLeave K x.toNatClampNeg))) := (zAn_0 hT).symm
    have hP : va_P D vwCl (kwA ad cI cZ (zEK (kQuitT K x) (kLeave K x.toNatClampNeg) K)) H := by rw [eK9]; exact hP
    have hD : va_D A (kwA ad cI cZ (zEK (kQuitT K x) (kLeave K x.toNatClampNeg) K)) := by rw [eK9]; exact hD
    exact W.iret (v := nI (lLen (kLeave K x.toNatClampNeg))) hx hb hr (fun t ht hW => ⟨⟨nI (lLen (kLeave K x.toNatClampNeg)), (), rfl, eR9, by rw [ht]; exact hP, va_K.moved hW.alike hK, hD⟩, hS.F ht⟩) hS.2.2 dL_quit_5
set_option maxHeartbeats 4000000 in
set_option maxRecDepth 100000 in
theorem kL_queueAt (l : Launch) (hl9 : l.stackTraces = false) (D : va_G) (cI cZ : ClassId) (ad : Nat → Nat) (K : kS) (sz : Nat) (x : Int32)   : zMh l yL_queueAt wsL_queueAt ({ frames := 7, cells := 1, slots := 6, locals := 104 }) [.ref (ad 0), .int x] D (zTy cI cZ) (kwA ad cI cZ K) (kwA ad cI cZ K) sz (lAt K x) 1 6 := by
  refine va_MetW (cc := cL_queueAt) (maxL := 3) (ret := (some .int)) (hh := [(0, 5, 6, 29)]) (by decide) rfl ?_
  intro pP e s m args below meth c s₁ B hml hv
  obtain ⟨rfl, hsz, hP, hK, hD0, hE0, hN⟩ := hv
  have hx := B.exec
  have hb := B.bytes
  have hr := B.returns
  have hts := atoms_spec (ws := wsL_queueAt) B.pre
  have hTab := vx_table (x := yL_queueAt) B (hts (.codeWith yL_queueAt cL_queueAt 3 (some .int) [(0, 5, 6, 29)]) (List.mem_of_getElem? (i := 0) rfl))
  have hown : s.vm.findClass RL = some m.cls := findClass_of_methodNamed B.named
  subst hsz
  have hD := hD0.self (sz := s.heap.size)
  generalize hAe : va_A (kwA ad cI cZ K) s.heap.size = A at hD hE0 ⊢
  have hE := hE0
  have hA : ∀ q : Nat, s.heap.size ≤ q → A q := fun q h => by rw [← hAe]; exact Or.inr h
  have hS : va_S A s.heap s.heap [] := va_S.rf
  have hl := lv_entry ([.ref (ad 0), .int x]) (n := 3) (Nat.le_of_ble_eq_true rfl)
  rw [lg_entry_eq]
  generalize (lg_sl ([.ref (ad 0), .int x]) ++ List.replicate (3 - (lg_sl ([.ref (ad 0), .int x])).length) Slot.unset).toArray = ls at hl ⊢
  have hl : lv_has ls 3 [(0, .ref (ad 0)), (1, .int x)] := hl
  refine lv_aload_n hx hb dL_queueAt_0 rfl (lv_at hl 0 rfl) ?_
  refine lv_iload_n hx hb dL_queueAt_1 rfl (lv_at hl 1 rfl) ?_
  refine zx_Vi (As := [.int x]) (rest := []) (wr := []) ⟨hx, hb, hml, hown, hts⟩ (kX5_queueAt l hl9 D cI cZ ad K _ x  ) (cwV 1 hts gL_queueAt_X5_queueAt rfl rfl rfl (by decide +kernel) ⟨(Nat.le_of_ble_eq_true rfl), (Nat.le_of_ble_eq_true rfl)⟩) hK hP hD hS hA hE [0, 1, 2, 3, 4, 5, 6, 7, 8, 9, 10, 11, 12, 13, 14, 15, 16, 17, 18, 19, 20, 21, 22, 23, 24, 25] [] rfl rfl rfl rfl rfl (by decide) (ci := 5) (q0 := 0) rfl rfl rfl rfl hl.1 rfl (Nat.le_of_ble_eq_true rfl) dL_queueAt_2 ⟨(Nat.le_of_ble_eq_true rfl), (Nat.le_of_ble_eq_true rfl)⟩ (fun E ce q9 H locs h0 hE9 hP hD hS hce hcv hcl => ?_) (fun hT H locs hP hD hS => ?_)
  · skip
    have hP : va_P D vwCl (kwA ad cI cZ K) H := hP
    have hD : va_D A (kwA ad cI cZ K) := hD
    have h0 : ¬ kQueT K x = nI 0 := h0
    have hE9 : E = zN (kQueT K x) := hE9
    have hr9 : zRng true false false (kQueT K x) := kQueT_r
    rcases hr9.resolve_left h0 with ⟨h8, h9⟩ | ⟨h8, h9⟩ | ⟨h8, h9⟩
    · skip
      have hE8 : E = "java/lang/IndexOutOfBoundsException" := by rw [hE9, h9, zN_1]
      subst hE8
      refine vx_catch (own := RL) (name := "java/lang/IndexOutOfBoundsException") hown [] ⟨0, 5, 6, 29⟩ [] (by rw [hTab]; rfl) (fun _ h => absurd h List.not_mem_nil) (by decide) (by decide) (hts (.classLink RL 29 "java/lang/IndexOutOfBoundsException") (List.mem_of_getElem? (i := 1) rfl)) (va_Nw.use rfl (hE.1 (.castable "java/lang/IndexOutOfBoundsException" "java/lang/IndexOutOfBoundsException") (List.mem_of_getElem? (i := 38) rfl))) hce hcv hcl ?_
      refine lv_astore_n (lv' := [(2, .ref q9), (0, .ref (ad 0)), (1, .int x)]) hx hb dL_queueAt_6 rfl hl (by decide) rfl (fun ls hl => ?_)
      refine lv_iconst (v := (-1)) hx hb dL_queueAt_7 (by decide) ?_
      have eR9 : (-1) = lAt K x := by
        by_cases hz : lAt K x = (-1)
        · exact hz.symm
        · exact absurd (show kQueT K x = nI 0 from if_neg hz) h0
      have hP9 : va_P D vwCl (kwA ad cI cZ K) H := hP
      have hD9 : va_D A (kwA ad cI cZ K) := hD
      exact W.iret (v := (-1)) hx hb hr (fun t ht hW => ⟨⟨(-1), (), rfl, eR9, by rw [ht]; exact hP9, va_K.moved hW.alike hK, hD9⟩, hS.F ht⟩) hS.2.2 dL_queueAt_8
    · skip
      exact nomatch h8
    · skip
      exact nomatch h8
  · skip
    have hP : va_P D vwCl (kwA ad cI cZ (K)) H := hP
    have hD : va_D A (kwA ad cI cZ (K)) := hD
    have hT : kQueT K x = nI 0 := hT
    have eR9 : lAt K x = lAt K x := rfl
    exact W.iret (v := lAt K x) hx hb hr (fun t ht hW => ⟨⟨lAt K x, (), rfl, eR9, by rw [ht]; exact hP, va_K.moved hW.alike hK, hD⟩, hS.F ht⟩) hS.2.2 dL_queueAt_5
set_option maxHeartbeats 4000000 in
set_option maxRecDepth 100000 in
theorem kL_hold (l : Launch) (hl9 : l.stackTraces = false) (D : va_G) (cI cZ : ClassId) (ad : Nat → Nat) (K : kS) (sz : Nat) (a1 : Int32) (r1 : Int32) (q1 : Int32) (m1 : Int32) (c1 : Int32) (n9 : Nat) (hn9 : n9 ≤ 10) (hc8 : K 2 0 = nI n9) : zMh l yL_hold wsL_hold ({ frames := 8, cells := 5, slots := 30, locals := 134 }) [.ref (ad 0), .int a1, .int r1, .int q1, .int m1, .int c1] D (zTy cI cZ) (kwA ad cI cZ K) (kwA ad cI cZ (zEK (kHoldT K a1 r1 q1 m1 c1) (kHoldE K a1.toNatClampNeg (mHF r1 q1) m1.toNatClampNeg c1) K)) sz (zAn (kHoldT K a1 r1 q1 m1 c1) (kHoldR K (mHF r1 q1) m1.toNatClampNeg)) 5 30 := by
  refine va_MetW (cc := cL_hold) (maxL := 7) (ret := (some .int)) (hh := [(0, 11, 12, 29), (0, 11, 17, 14), (0, 11, 22, 17)]) (by decide) rfl ?_
  intro pP e s m args below meth c s₁ B hml hv
  obtain ⟨rfl, hsz, hP, hK, hD0, hE0, hN⟩ := hv
  have hx := B.exec
  have hb := B.bytes
  have hr := B.returns
  have hts := atoms_spec (ws := wsL_hold) B.pre
  have hTab := vx_table (x := yL_hold) B (hts (.codeWith yL_hold cL_hold 7 (some .int) [(0, 11, 12, 29), (0, 11, 17, 14), (0, 11, 22, 17)]) (List.mem_of_getElem? (i := 0) rfl))
  have hown : s.vm.findClass RL = some m.cls := findClass_of_methodNamed B.named
  subst hsz
  have hD := hD0.self (sz := s.heap.size)
  generalize hAe : va_A (kwA ad cI cZ K) s.heap.size = A at hD hE0 ⊢
  have hE := hE0
  have hA : ∀ q : Nat, s.heap.size ≤ q → A q := fun q h => by rw [← hAe]; exact Or.inr h
  have hS : va_S A s.heap s.heap [] := va_S.rf
  have hl := lv_entry ([.ref (ad 0), .int a1, .int r1, .int q1, .int m1, .int c1]) (n := 7) (Nat.le_of_ble_eq_true rfl)
  rw [lg_entry_eq]
  generalize (lg_sl ([.ref (ad 0), .int a1, .int r1, .int q1, .int m1, .int c1]) ++ List.replicate (7 - (lg_sl ([.ref (ad 0), .int a1, .int r1, .int q1, .int m1, .int c1])).length) Slot.unset).toArray = ls at hl ⊢
  have hl : lv_has ls 7 [(0, .ref (ad 0)), (1, .int a1), (2, .int r1), (3, .int q1), (4, .int m1), (5, .int c1)] := hl
  refine lv_aload_n hx hb dL_hold_0 rfl (lv_at hl 0 rfl) ?_
  refine lv_iload_n hx hb dL_hold_1 rfl (lv_at hl 1 rfl) ?_
  refine lv_iload_n hx hb dL_hold_2 rfl (lv_at hl 2 rfl) ?_
  refine lv_iload_n hx hb dL_hold_3 rfl (lv_at hl 3 rfl) ?_
  refine lv_iload hx hb dL_hold_4 (lv_at hl 4 rfl) ?_
  refine lv_iload hx hb dL_hold_6 (lv_at hl 5 rfl) ?_
  refine zx_Vi (As := [.int a1, .int r1, .int q1, .int m1, .int c1]) (rest := []) (wr := []) ⟨hx, hb, hml, hown, hts⟩ (kX5_hold l hl9 D cI cZ ad K _ a1 r1 q1 m1 c1 n9 hn9 hc8) (cwV 5 hts gL_hold_X5_hold rfl rfl rfl (by decide +kernel) ⟨(Nat.le_of_ble_eq_true rfl), (Nat.le_of_ble_eq_true rfl)⟩) hK hP hD hS hA hE [0, 1, 2, 3, 4, 5, 6, 7, 8, 9, 10, 11, 12, 13, 14, 15, 16, 17, 18, 19, 20, 21, 22, 23, 24, 25] [] rfl rfl rfl rfl rfl (by decide) (ci := 5) (q0 := 0) rfl rfl rfl rfl hl.1 rfl (Nat.le_of_ble_eq_true rfl) dL_hold_8 ⟨(Nat.le_of_ble_eq_true rfl), (Nat.le_of_ble_eq_true rfl)⟩ (fun E ce q9 H locs h0 hE9 hP hD hS hce hcv hcl => ?_) (fun hT H locs hP hD hS => ?_)
  · skip
    have hP : va_P D vwCl (kwA ad cI cZ K) H := hP
    have hD : va_D A (kwA ad cI cZ K) := hD
    have h0 : ¬ kHoldT K a1 r1 q1 m1 c1 = nI 0 := h0
    have hE9 : E = zN (kHoldT K a1 r1 q1 m1 c1) := hE9
    have eK9 : zEK (kHoldT K a1 r1 q1 m1 c1) (kHoldE K a1.toNatClampNeg (mHF r1 q1) m1.toNatClampNeg c1) K = K := zEK_n h0
    have hr9 : zRng true true true (kHoldT K a1 r1 q1 m1 c1) := kHoldT_r
    rcases hr9.resolve_left h0 with ⟨h8, h9⟩ | ⟨h8, h9⟩ | ⟨h8, h9⟩
    · skip
      have hE8 : E = "java/lang/IndexOutOfBoundsException" := by rw [hE9, h9, zN_1]
      subst hE8
      refine vx_catch (own := RL) (name := "java/lang/IndexOutOfBoundsException") hown [] ⟨0, 11, 12, 29⟩ [⟨0, 11, 17, 14⟩, ⟨0, 11, 22, 17⟩] (by rw [hTab]; rfl) (fun _ h => absurd h List.not_mem_nil) (by decide) (by decide) (hts (.classLink RL 29 "java/lang/IndexOutOfBoundsException") (List.mem_of_getElem? (i := 1) rfl)) (va_Nw.use rfl (hE.1 (.castable "java/lang/IndexOutOfBoundsException" "java/lang/IndexOutOfBoundsException") (List.mem_of_getElem? (i := 38) rfl))) hce hcv hcl ?_
      refine lv_astore (lv' := [(6, .ref q9), (0, .ref (ad 0)), (1, .int a1), (2, .int r1), (3, .int q1), (4, .int m1), (5, .int c1)]) hx hb dL_hold_12 hl (by decide) rfl (fun ls hl => ?_)
      refine lv_ldc (v := (-99999)) hx hb hown (hts (.constant RL 16 (-99999)) (List.mem_of_getElem? (i := 4) rfl)) dL_hold_14 ?_
      have eR9 : (-99999) = zAn (kHoldT K a1 r1 q1 m1 c1) (kHoldR K (mHF r1 q1) m1.toNatClampNeg) := (zAn_n h0).symm
      have hP9 : va_P D vwCl (kwA ad cI cZ (zEK (kHoldT K a1 r1 q1 m1 c1) (kHoldE K a1.toNatClampNeg (mHF r1 q1) m1.toNatClampNeg c1) K)) H := by rw [eK9]; exact hP
      have hD9 : va_D A (kwA ad cI cZ (zEK (kHoldT K a1 r1 q1 m1 c1) (kHoldE K a1.toNatClampNeg (mHF r1 q1) m1.toNatClampNeg c1) K)) := by rw [eK9]; exact hD
      exact W.iret (v := (-99999)) hx hb hr (fun t ht hW => ⟨⟨(-99999), (), rfl, eR9, by rw [ht]; exact hP9, va_K.moved hW.alike hK, hD9⟩, hS.F ht⟩) hS.2.2 dL_hold_16
    · skip
      have hE8 : E = "java/lang/IllegalArgumentException" := by rw [hE9, h9, zN_2]
      subst hE8
      refine vx_catch (own := RL) (name := "java/lang/IllegalArgumentException") hown [⟨0, 11, 12, 29⟩] ⟨0, 11, 17, 14⟩ [⟨0, 11, 22, 17⟩] (by rw [hTab]; rfl) (List.forall_mem_cons.mpr ⟨Or.inr ⟨by decide, "java/lang/IndexOutOfBoundsException", (hts (.classLink RL 29 "java/lang/IndexOutOfBoundsException") (List.mem_of_getElem? (i := 1) rfl)), hN.2.1⟩, (fun _ h => absurd h List.not_mem_nil)⟩) (by decide) (by decide) (hts (.classLink RL 14 "java/lang/IllegalArgumentException") (List.mem_of_getElem? (i := 2) rfl)) (va_Nw.use rfl (hE.1 (.castable "java/lang/IllegalArgumentException" "java/lang/IllegalArgumentException") (List.mem_of_getElem? (i := 39) rfl))) hce hcv hcl ?_
      refine lv_astore (lv' := [(6, .ref q9), (0, .ref (ad 0)), (1, .int a1), (2, .int r1), (3, .int q1), (4, .int m1), (5, .int c1)]) hx hb dL_hold_17 hl (by decide) rfl (fun ls hl => ?_)
      refine lv_ldc (v := (-99999)) hx hb hown (hts (.constant RL 16 (-99999)) (List.mem_of_getElem? (i := 4) rfl)) dL_hold_19 ?_
      have eR9 : (-99999) = zAn (kHoldT K a1 r1 q1 m1 c1) (kHoldR K (mHF r1 q1) m1.toNatClampNeg) := (zAn_n h0).symm
      have hP9 : va_P D vwCl (kwA ad cI cZ (zEK (kHoldT K a1 r1 q1 m1 c1) (kHoldE K a1.toNatClampNeg (mHF r1 q1) m1.toNatClampNeg c1) K)) H := by rw [eK9]; exact hP
      have hD9 : va_D A (kwA ad cI cZ (zEK (kHoldT K a1 r1 q1 m1 c1) (kHoldE K a1.toNatClampNeg (mHF r1 q1) m1.toNatClampNeg c1) K)) := by rw [eK9]; exact hD
      exact W.iret (v := (-99999)) hx hb hr (fun t ht hW => ⟨⟨(-99999), (), rfl, eR9, by rw [ht]; exact hP9, va_K.moved hW.alike hK, hD9⟩, hS.F ht⟩) hS.2.2 dL_hold_21
    · skip
      have hE8 : E = "java/lang/IllegalStateException" := by rw [hE9, h9, zN_3]
      subst hE8
      refine vx_catch (own := RL) (name := "java/lang/IllegalStateException") hown [⟨0, 11, 12, 29⟩, ⟨0, 11, 17, 14⟩] ⟨0, 11, 22, 17⟩ [] (by rw [hTab]; rfl) (List.forall_mem_cons.mpr ⟨Or.inr ⟨by decide, "java/lang/IndexOutOfBoundsException", (hts (.classLink RL 29 "java/lang/IndexOutOfBoundsException") (List.mem_of_getElem? (i := 1) rfl)), hN.2.2⟩, (List.forall_mem_cons.mpr ⟨Or.inr ⟨by decide, "java/lang/IllegalArgumentException", (hts (.classLink RL 14 "java/lang/IllegalArgumentException") (List.mem_of_getElem? (i := 2) rfl)), hN.1⟩, (fun _ h => absurd h List.not_mem_nil)⟩)⟩) (by decide) (by decide) (hts (.classLink RL 17 "java/lang/IllegalStateException") (List.mem_of_getElem? (i := 3) rfl)) (va_Nw.use rfl (hE.1 (.castable "java/lang/IllegalStateException" "java/lang/IllegalStateException") (List.mem_of_getElem? (i := 40) rfl))) hce hcv hcl ?_
      refine lv_astore (lv' := [(6, .ref q9), (0, .ref (ad 0)), (1, .int a1), (2, .int r1), (3, .int q1), (4, .int m1), (5, .int c1)]) hx hb dL_hold_22 hl (by decide) rfl (fun ls hl => ?_)
      refine lv_ldc (v := (-99999)) hx hb hown (hts (.constant RL 16 (-99999)) (List.mem_of_getElem? (i := 4) rfl)) dL_hold_24 ?_
      have eR9 : (-99999) = zAn (kHoldT K a1 r1 q1 m1 c1) (kHoldR K (mHF r1 q1) m1.toNatClampNeg) := (zAn_n h0).symm
      have hP9 : va_P D vwCl (kwA ad cI cZ (zEK (kHoldT K a1 r1 q1 m1 c1) (kHoldE K a1.toNatClampNeg (mHF r1 q1) m1.toNatClampNeg c1) K)) H := by rw [eK9]; exact hP
      have hD9 : va_D A (kwA ad cI cZ (zEK (kHoldT K a1 r1 q1 m1 c1) (kHoldE K a1.toNatClampNeg (mHF r1 q1) m1.toNatClampNeg c1) K)) := by rw [eK9]; exact hD
      exact W.iret (v := (-99999)) hx hb hr (fun t ht hW => ⟨⟨(-99999), (), rfl, eR9, by rw [ht]; exact hP9, va_K.moved hW.alike hK, hD9⟩, hS.F ht⟩) hS.2.2 dL_hold_26
  · skip
    have hP : va_P D vwCl (kwA ad cI cZ (kHoldE K a1.toNatClampNeg (mHF r1 q1) m1.toNatClampNeg c1)) H := hP
    have hD : va_D A (kwA ad cI cZ (kHoldE K a1.toNatClampNeg (mHF r1 q1) m1.toNatClampNeg c1)) := hD
    have hT : kHoldT K a1 r1 q1 m1 c1 = nI 0 := hT
    have eK9 : zEK (kHoldT K a1 r1 q1 m1 c1) (kHoldE K a1.toNatClampNeg (mHF r1 q1) m1.toNatClampNeg c1) K = kHoldE K a1.toNatClampNeg (mHF r1 q1) m1.toNatClampNeg c1 := zEK_0 hT
    have eR9 : kHoldR K (mHF r1 q1) m1.toNatClampNeg = zAn (kHoldT K a1 r1 q1 m1 c1) (kHoldR K (mHF r1 q1) m1.toNatClampNeg) := (zAn_0 hT).symm
    have hP : va_P D vwCl (kwA ad cI cZ (zEK (kHoldT K a1 r1 q1 m1 c1) (kHoldE K a1.toNatClampNeg (mHF r1 q1) m1.toNatClampNeg c1) K)) H := by rw [eK9]; exact hP
    have hD : va_D A (kwA ad cI cZ (zEK (kHoldT K a1 r1 q1 m1 c1) (kHoldE K a1.toNatClampNeg (mHF r1 q1) m1.toNatClampNeg c1) K)) := by rw [eK9]; exact hD
    exact W.iret (v := kHoldR K (mHF r1 q1) m1.toNatClampNeg) hx hb hr (fun t ht hW => ⟨⟨kHoldR K (mHF r1 q1) m1.toNatClampNeg, (), rfl, eR9, by rw [ht]; exact hP, va_K.moved hW.alike hK, hD⟩, hS.F ht⟩) hS.2.2 dL_hold_11
set_option maxHeartbeats 4000000 in
set_option maxRecDepth 100000 in
theorem kL_pay (l : Launch) (hl9 : l.stackTraces = false) (D : va_G) (cI cZ : ClassId) (ad : Nat → Nat) (K : kS) (sz : Nat) (a1 : Int32) (x : Int32) (t9 : Nat) (hok : kHok K) (how : kOwn K) (ht8 : kPayT K a1 x = nI 0 → t9 < 170) (hts9 : K 22 0 = nI t9) : zMh l yL_pay wsL_pay ({ frames := 8, cells := 3, slots := 18, locals := 126 }) [.ref (ad 0), .int a1, .int x] D (zTy cI cZ) (kwA ad cI cZ K) (kwA ad cI cZ (zEK (kPayT K a1 x) (kPayE K a1.toNatClampNeg t9 x) K)) sz (zAn (kPayT K a1 x) (hLeft (kPayB K a1.toNatClampNeg x) a1.toNatClampNeg)) 3 18 := by
  refine va_MetW (cc := cL_pay) (maxL := 4) (ret := (some .int)) (hh := [(0, 6, 7, 29), (0, 6, 11, 14), (0, 6, 15, 17)]) (by decide) rfl ?_
  intro pP e s m args below meth c s₁ B hml hv
  obtain ⟨rfl, hsz, hP, hK, hD0, hE0, hN⟩ := hv
  have hx := B.exec
  have hb := B.bytes
  have hr := B.returns
  have hts := atoms_spec (ws := wsL_pay) B.pre
  have hTab := vx_table (x := yL_pay) B (hts (.codeWith yL_pay cL_pay 4 (some .int) [(0, 6, 7, 29), (0, 6, 11, 14), (0, 6, 15, 17)]) (List.mem_of_getElem? (i := 0) rfl))
  have hown : s.vm.findClass RL = some m.cls := findClass_of_methodNamed B.named
  subst hsz
  have hD := hD0.self (sz := s.heap.size)
  generalize hAe : va_A (kwA ad cI cZ K) s.heap.size = A at hD hE0 ⊢
  have hE := hE0
  have hA : ∀ q : Nat, s.heap.size ≤ q → A q := fun q h => by rw [← hAe]; exact Or.inr h
  have hS : va_S A s.heap s.heap [] := va_S.rf
  have hl := lv_entry ([.ref (ad 0), .int a1, .int x]) (n := 4) (Nat.le_of_ble_eq_true rfl)
  rw [lg_entry_eq]
  generalize (lg_sl ([.ref (ad 0), .int a1, .int x]) ++ List.replicate (4 - (lg_sl ([.ref (ad 0), .int a1, .int x])).length) Slot.unset).toArray = ls at hl ⊢
  have hl : lv_has ls 4 [(0, .ref (ad 0)), (1, .int a1), (2, .int x)] := hl
  refine lv_aload_n hx hb dL_pay_0 rfl (lv_at hl 0 rfl) ?_
  refine lv_iload_n hx hb dL_pay_1 rfl (lv_at hl 1 rfl) ?_
  refine lv_iload_n hx hb dL_pay_2 rfl (lv_at hl 2 rfl) ?_
  refine zx_Vi (As := [.int a1, .int x]) (rest := []) (wr := []) ⟨hx, hb, hml, hown, hts⟩ (kX5_pay l hl9 D cI cZ ad K _ a1 x t9 hok how ht8 hts9) (cwV 2 hts gL_pay_X5_pay rfl rfl rfl (by decide +kernel) ⟨(Nat.le_of_ble_eq_true rfl), (Nat.le_of_ble_eq_true rfl)⟩) hK hP hD hS hA hE [0, 1, 2, 3, 4, 5, 6, 7, 8, 9, 10, 11, 12, 13, 14, 15, 16, 17, 18, 19, 20, 21, 22, 23, 24, 25] [] rfl rfl rfl rfl rfl (by decide) (ci := 5) (q0 := 0) rfl rfl rfl rfl hl.1 rfl (Nat.le_of_ble_eq_true rfl) dL_pay_3 ⟨(Nat.le_of_ble_eq_true rfl), (Nat.le_of_ble_eq_true rfl)⟩ (fun E ce q9 H locs h0 hE9 hP hD hS hce hcv hcl => ?_) (fun hT H locs hP hD hS => ?_)
  · skip
    have hP : va_P D vwCl (kwA ad cI cZ K) H := hP
    have hD : va_D A (kwA ad cI cZ K) := hD
    have h0 : ¬ kPayT K a1 x = nI 0 := h0
    have hE9 : E = zN (kPayT K a1 x) := hE9
    have eK9 : zEK (kPayT K a1 x) (kPayE K a1.toNatClampNeg t9 x) K = K := zEK_n h0
    have hr9 : zRng true true true (kPayT K a1 x) := kPayT_r
    rcases hr9.resolve_left h0 with ⟨h8, h9⟩ | ⟨h8, h9⟩ | ⟨h8, h9⟩
    · skip
      have hE8 : E = "java/lang/IndexOutOfBoundsException" := by rw [hE9, h9, zN_1]
      subst hE8
      refine vx_catch (own := RL) (name := "java/lang/IndexOutOfBoundsException") hown [] ⟨0, 6, 7, 29⟩ [⟨0, 6, 11, 14⟩, ⟨0, 6, 15, 17⟩] (by rw [hTab]; rfl) (fun _ h => absurd h List.not_mem_nil) (by decide) (by decide) (hts (.classLink RL 29 "java/lang/IndexOutOfBoundsException") (List.mem_of_getElem? (i := 1) rfl)) (va_Nw.use rfl (hE.1 (.castable "java/lang/IndexOutOfBoundsException" "java/lang/IndexOutOfBoundsException") (List.mem_of_getElem? (i := 38) rfl))) hce hcv hcl ?_
      refine lv_astore_n (lv' := [(3, .ref q9), (0, .ref (ad 0)), (1, .int a1), (2, .int x)]) hx hb dL_pay_7 rfl hl (by decide) rfl (fun ls hl => ?_)
      refine lv_ldc (v := (-99999)) hx hb hown (hts (.constant RL 16 (-99999)) (List.mem_of_getElem? (i := 4) rfl)) dL_pay_8 ?_
      have eR9 : (-99999) = zAn (kPayT K a1 x) (hLeft (kPayB K a1.toNatClampNeg x) a1.toNatClampNeg) := (zAn_n h0).symm
      have hP9 : va_P D vwCl (kwA ad cI cZ (zEK (kPayT K a1 x) (kPayE K a1.toNatClampNeg t9 x) K)) H := by rw [eK9]; exact hP
      have hD9 : va_D A (kwA ad cI cZ (zEK (kPayT K a1 x) (kPayE K a1.toNatClampNeg t9 x) K)) := by rw [eK9]; exact hD
      exact W.iret (v := (-99999)) hx hb hr (fun t ht hW => ⟨⟨(-99999), (), rfl, eR9, by rw [ht]; exact hP9, va_K.moved hW.alike hK, hD9⟩, hS.F ht⟩) hS.2.2 dL_pay_10
    · skip
      have hE8 : E = "java/lang/IllegalArgumentException" := by rw [hE9, h9, zN_2]
      subst hE8
      refine vx_catch (own := RL) (name := "java/lang/IllegalArgumentException") hown [⟨0, 6, 7, 29⟩] ⟨0, 6, 11, 14⟩ [⟨0, 6, 15, 17⟩] (by rw [hTab]; rfl) (List.forall_mem_cons.mpr ⟨Or.inr ⟨by decide, "java/lang/IndexOutOfBoundsException", (hts (.classLink RL 29 "java/lang/IndexOutOfBoundsException") (List.mem_of_getElem? (i := 1) rfl)), hN.2.1⟩, (fun _ h => absurd h List.not_mem_nil)⟩) (by decide) (by decide) (hts (.classLink RL 14 "java/lang/IllegalArgumentException") (List.mem_of_getElem? (i := 2) rfl)) (va_Nw.use rfl (hE.1 (.castable "java/lang/IllegalArgumentException" "java/lang/IllegalArgumentException") (List.mem_of_getElem? (i := 39) rfl))) hce hcv hcl ?_
      refine lv_astore_n (lv' := [(3, .ref q9), (0, .ref (ad 0)), (1, .int a1), (2, .int x)]) hx hb dL_pay_11 rfl hl (by decide) rfl (fun ls hl => ?_)
      refine lv_ldc (v := (-99999)) hx hb hown (hts (.constant RL 16 (-99999)) (List.mem_of_getElem? (i := 4) rfl)) dL_pay_12 ?_
      have eR9 : (-99999) = zAn (kPayT K a1 x) (hLeft (kPayB K a1.toNatClampNeg x) a1.toNatClampNeg) := (zAn_n h0).symm
      have hP9 : va_P D vwCl (kwA ad cI cZ (zEK (kPayT K a1 x) (kPayE K a1.toNatClampNeg t9 x) K)) H := by rw [eK9]; exact hP
      have hD9 : va_D A (kwA ad cI cZ (zEK (kPayT K a1 x) (kPayE K a1.toNatClampNeg t9 x) K)) := by rw [eK9]; exact hD
      exact W.iret (v := (-99999)) hx hb hr (fun t ht hW => ⟨⟨(-99999), (), rfl, eR9, by rw [ht]; exact hP9, va_K.moved hW.alike hK, hD9⟩, hS.F ht⟩) hS.2.2 dL_pay_14
    · skip
      have hE8 : E = "java/lang/IllegalStateException" := by rw [hE9, h9, zN_3]
      subst hE8
      refine vx_catch (own := RL) (name := "java/lang/IllegalStateException") hown [⟨0, 6, 7, 29⟩, ⟨0, 6, 11, 14⟩] ⟨0, 6, 15, 17⟩ [] (by rw [hTab]; rfl) (List.forall_mem_cons.mpr ⟨Or.inr ⟨by decide, "java/lang/IndexOutOfBoundsException", (hts (.classLink RL 29 "java/lang/IndexOutOfBoundsException") (List.mem_of_getElem? (i := 1) rfl)), hN.2.2⟩, (List.forall_mem_cons.mpr ⟨Or.inr ⟨by decide, "java/lang/IllegalArgumentException", (hts (.classLink RL 14 "java/lang/IllegalArgumentException") (List.mem_of_getElem? (i := 2) rfl)), hN.1⟩, (fun _ h => absurd h List.not_mem_nil)⟩)⟩) (by decide) (by decide) (hts (.classLink RL 17 "java/lang/IllegalStateException") (List.mem_of_getElem? (i := 3) rfl)) (va_Nw.use rfl (hE.1 (.castable "java/lang/IllegalStateException" "java/lang/IllegalStateException") (List.mem_of_getElem? (i := 40) rfl))) hce hcv hcl ?_
      refine lv_astore_n (lv' := [(3, .ref q9), (0, .ref (ad 0)), (1, .int a1), (2, .int x)]) hx hb dL_pay_15 rfl hl (by decide) rfl (fun ls hl => ?_)
      refine lv_ldc (v := (-99999)) hx hb hown (hts (.constant RL 16 (-99999)) (List.mem_of_getElem? (i := 4) rfl)) dL_pay_16 ?_
      have eR9 : (-99999) = zAn (kPayT K a1 x) (hLeft (kPayB K a1.toNatClampNeg x) a1.toNatClampNeg) := (zAn_n h0).symm
      have hP9 : va_P D vwCl (kwA ad cI cZ (zEK (kPayT K a1 x) (kPayE K a1.toNatClampNeg t9 x) K)) H := by rw [eK9]; exact hP
      have hD9 : va_D A (kwA ad cI cZ (zEK (kPayT K a1 x) (kPayE K a1.toNatClampNeg t9 x) K)) := by rw [eK9]; exact hD
      exact W.iret (v := (-99999)) hx hb hr (fun t ht hW => ⟨⟨(-99999), (), rfl, eR9, by rw [ht]; exact hP9, va_K.moved hW.alike hK, hD9⟩, hS.F ht⟩) hS.2.2 dL_pay_18
  · skip
    have hP : va_P D vwCl (kwA ad cI cZ (kPayE K a1.toNatClampNeg t9 x)) H := hP
    have hD : va_D A (kwA ad cI cZ (kPayE K a1.toNatClampNeg t9 x)) := hD
    have hT : kPayT K a1 x = nI 0 := hT
    have eK9 : zEK (kPayT K a1 x) (kPayE K a1.toNatClampNeg t9 x) K = kPayE K a1.toNatClampNeg t9 x := zEK_0 hT
    have eR9 : hLeft (kPayB K a1.toNatClampNeg x) a1.toNatClampNeg = zAn (kPayT K a1 x) (hLeft (kPayB K a1.toNatClampNeg x) a1.toNatClampNeg) := (zAn_0 hT).symm
    have hP : va_P D vwCl (kwA ad cI cZ (zEK (kPayT K a1 x) (kPayE K a1.toNatClampNeg t9 x) K)) H := by rw [eK9]; exact hP
    have hD : va_D A (kwA ad cI cZ (zEK (kPayT K a1 x) (kPayE K a1.toNatClampNeg t9 x) K)) := by rw [eK9]; exact hD
    exact W.iret (v := hLeft (kPayB K a1.toNatClampNeg x) a1.toNatClampNeg) hx hb hr (fun t ht hW => ⟨⟨hLeft (kPayB K a1.toNatClampNeg x) a1.toNatClampNeg, (), rfl, eR9, by rw [ht]; exact hP, va_K.moved hW.alike hK, hD⟩, hS.F ht⟩) hS.2.2 dL_pay_6
set_option maxHeartbeats 4000000 in
set_option maxRecDepth 100000 in
theorem kL_letGo (l : Launch) (hl9 : l.stackTraces = false) (D : va_G) (cI cZ : ClassId) (ad : Nat → Nat) (K : kS) (sz : Nat) (x : Int32)  (hok : kHok K) : zMh l yL_letGo wsL_letGo ({ frames := 8, cells := 2, slots := 12, locals := 124 }) [.ref (ad 0), .int x] D (zTy cI cZ) (kwA ad cI cZ K) (kwA ad cI cZ (zEK (kGoT K x) (kBackAt K x.toNatClampNeg) K)) sz (zAn (kGoT K x) (K 13 x.toNatClampNeg)) 2 12 := by
  refine va_MetW (cc := cL_letGo) (maxL := 3) (ret := (some .int)) (hh := [(0, 5, 6, 29), (0, 5, 10, 17)]) (by decide) rfl ?_
  intro pP e s m args below meth c s₁ B hml hv
  obtain ⟨rfl, hsz, hP, hK, hD0, hE0, hN⟩ := hv
  have hx := B.exec
  have hb := B.bytes
  have hr := B.returns
  have hts := atoms_spec (ws := wsL_letGo) B.pre
  have hTab := vx_table (x := yL_letGo) B (hts (.codeWith yL_letGo cL_letGo 3 (some .int) [(0, 5, 6, 29), (0, 5, 10, 17)]) (List.mem_of_getElem? (i := 0) rfl))
  have hown : s.vm.findClass RL = some m.cls := findClass_of_methodNamed B.named
  subst hsz
  have hD := hD0.self (sz := s.heap.size)
  generalize hAe : va_A (kwA ad cI cZ K) s.heap.size = A at hD hE0 ⊢
  have hE := hE0
  have hA : ∀ q : Nat, s.heap.size ≤ q → A q := fun q h => by rw [← hAe]; exact Or.inr h
  have hS : va_S A s.heap s.heap [] := va_S.rf
  have hl := lv_entry ([.ref (ad 0), .int x]) (n := 3) (Nat.le_of_ble_eq_true rfl)
  rw [lg_entry_eq]
  generalize (lg_sl ([.ref (ad 0), .int x]) ++ List.replicate (3 - (lg_sl ([.ref (ad 0), .int x])).length) Slot.unset).toArray = ls at hl ⊢
  have hl : lv_has ls 3 [(0, .ref (ad 0)), (1, .int x)] := hl
  refine lv_aload_n hx hb dL_letGo_0 rfl (lv_at hl 0 rfl) ?_
  refine lv_iload_n hx hb dL_letGo_1 rfl (lv_at hl 1 rfl) ?_
  refine zx_Vi (As := [.int x]) (rest := []) (wr := []) ⟨hx, hb, hml, hown, hts⟩ (kX5_letGo l hl9 D cI cZ ad K _ x  hok) (cwV 1 hts gL_letGo_X5_letGo rfl rfl rfl (by decide +kernel) ⟨(Nat.le_of_ble_eq_true rfl), (Nat.le_of_ble_eq_true rfl)⟩) hK hP hD hS hA hE [0, 1, 2, 3, 4, 5, 6, 7, 8, 9, 10, 11, 12, 13, 14, 15, 16, 17, 18, 19, 20, 21, 22, 23, 24, 25] [] rfl rfl rfl rfl rfl (by decide) (ci := 5) (q0 := 0) rfl rfl rfl rfl hl.1 rfl (Nat.le_of_ble_eq_true rfl) dL_letGo_2 ⟨(Nat.le_of_ble_eq_true rfl), (Nat.le_of_ble_eq_true rfl)⟩ (fun E ce q9 H locs h0 hE9 hP hD hS hce hcv hcl => ?_) (fun hT H locs hP hD hS => ?_)
  · skip
    have hP : va_P D vwCl (kwA ad cI cZ K) H := hP
    have hD : va_D A (kwA ad cI cZ K) := hD
    have h0 : ¬ kGoT K x = nI 0 := h0
    have hE9 : E = zN (kGoT K x) := hE9
    have eK9 : zEK (kGoT K x) (kBackAt K x.toNatClampNeg) K = K := zEK_n h0
    have hr9 : zRng true false true (kGoT K x) := kGoT_r
    rcases hr9.resolve_left h0 with ⟨h8, h9⟩ | ⟨h8, h9⟩ | ⟨h8, h9⟩
    · skip
      have hE8 : E = "java/lang/IndexOutOfBoundsException" := by rw [hE9, h9, zN_1]
      subst hE8
      refine vx_catch (own := RL) (name := "java/lang/IndexOutOfBoundsException") hown [] ⟨0, 5, 6, 29⟩ [⟨0, 5, 10, 17⟩] (by rw [hTab]; rfl) (fun _ h => absurd h List.not_mem_nil) (by decide) (by decide) (hts (.classLink RL 29 "java/lang/IndexOutOfBoundsException") (List.mem_of_getElem? (i := 1) rfl)) (va_Nw.use rfl (hE.1 (.castable "java/lang/IndexOutOfBoundsException" "java/lang/IndexOutOfBoundsException") (List.mem_of_getElem? (i := 38) rfl))) hce hcv hcl ?_
      refine lv_astore_n (lv' := [(2, .ref q9), (0, .ref (ad 0)), (1, .int x)]) hx hb dL_letGo_6 rfl hl (by decide) rfl (fun ls hl => ?_)
      refine lv_ldc (v := (-99999)) hx hb hown (hts (.constant RL 16 (-99999)) (List.mem_of_getElem? (i := 3) rfl)) dL_letGo_7 ?_
      have eR9 : (-99999) = zAn (kGoT K x) (K 13 x.toNatClampNeg) := (zAn_n h0).symm
      have hP9 : va_P D vwCl (kwA ad cI cZ (zEK (kGoT K x) (kBackAt K x.toNatClampNeg) K)) H := by rw [eK9]; exact hP
      have hD9 : va_D A (kwA ad cI cZ (zEK (kGoT K x) (kBackAt K x.toNatClampNeg) K)) := by rw [eK9]; exact hD
      exact W.iret (v := (-99999)) hx hb hr (fun t ht hW => ⟨⟨(-99999), (), rfl, eR9, by rw [ht]; exact hP9, va_K.moved hW.alike hK, hD9⟩, hS.F ht⟩) hS.2.2 dL_letGo_9
    · skip
      exact nomatch h8
    · skip
      have hE8 : E = "java/lang/IllegalStateException" := by rw [hE9, h9, zN_3]
      subst hE8
      refine vx_catch (own := RL) (name := "java/lang/IllegalStateException") hown [⟨0, 5, 6, 29⟩] ⟨0, 5, 10, 17⟩ [] (by rw [hTab]; rfl) (List.forall_mem_cons.mpr ⟨Or.inr ⟨by decide, "java/lang/IndexOutOfBoundsException", (hts (.classLink RL 29 "java/lang/IndexOutOfBoundsException") (List.mem_of_getElem? (i := 1) rfl)), hN.2.2⟩, (fun _ h => absurd h List.not_mem_nil)⟩) (by decide) (by decide) (hts (.classLink RL 17 "java/lang/IllegalStateException") (List.mem_of_getElem? (i := 2) rfl)) (va_Nw.use rfl (hE.1 (.castable "java/lang/IllegalStateException" "java/lang/IllegalStateException") (List.mem_of_getElem? (i := 40) rfl))) hce hcv hcl ?_
      refine lv_astore_n (lv' := [(2, .ref q9), (0, .ref (ad 0)), (1, .int x)]) hx hb dL_letGo_10 rfl hl (by decide) rfl (fun ls hl => ?_)
      refine lv_ldc (v := (-99999)) hx hb hown (hts (.constant RL 16 (-99999)) (List.mem_of_getElem? (i := 3) rfl)) dL_letGo_11 ?_
      have eR9 : (-99999) = zAn (kGoT K x) (K 13 x.toNatClampNeg) := (zAn_n h0).symm
      have hP9 : va_P D vwCl (kwA ad cI cZ (zEK (kGoT K x) (kBackAt K x.toNatClampNeg) K)) H := by rw [eK9]; exact hP
      have hD9 : va_D A (kwA ad cI cZ (zEK (kGoT K x) (kBackAt K x.toNatClampNeg) K)) := by rw [eK9]; exact hD
      exact W.iret (v := (-99999)) hx hb hr (fun t ht hW => ⟨⟨(-99999), (), rfl, eR9, by rw [ht]; exact hP9, va_K.moved hW.alike hK, hD9⟩, hS.F ht⟩) hS.2.2 dL_letGo_13
  · skip
    have hP : va_P D vwCl (kwA ad cI cZ (kBackAt K x.toNatClampNeg)) H := hP
    have hD : va_D A (kwA ad cI cZ (kBackAt K x.toNatClampNeg)) := hD
    have hT : kGoT K x = nI 0 := hT
    have eK9 : zEK (kGoT K x) (kBackAt K x.toNatClampNeg) K = kBackAt K x.toNatClampNeg := zEK_0 hT
    have eR9 : K 13 x.toNatClampNeg = zAn (kGoT K x) (K 13 x.toNatClampNeg) := (zAn_0 hT).symm
    have hP : va_P D vwCl (kwA ad cI cZ (zEK (kGoT K x) (kBackAt K x.toNatClampNeg) K)) H := by rw [eK9]; exact hP
    have hD : va_D A (kwA ad cI cZ (zEK (kGoT K x) (kBackAt K x.toNatClampNeg) K)) := by rw [eK9]; exact hD
    exact W.iret (v := K 13 x.toNatClampNeg) hx hb hr (fun t ht hW => ⟨⟨K 13 x.toNatClampNeg, (), rfl, eR9, by rw [ht]; exact hP, va_K.moved hW.alike hK, hD⟩, hS.F ht⟩) hS.2.2 dL_letGo_5
set_option maxHeartbeats 4000000 in
set_option maxRecDepth 100000 in
theorem kL_offer (l : Launch) (hl9 : l.stackTraces = false) (D : va_G) (cI cZ : ClassId) (ad : Nat → Nat) (K : kS) (sz : Nat) (a1 : Int32) (s9 : Int32) (x : Int32)   : zMh l yL_offer wsL_offer ({ frames := 8, cells := 3, slots := 18, locals := 126 }) [.ref (ad 0), .int a1, .int s9, .int x] D (zTy cI cZ) (kwA ad cI cZ K) (kwA ad cI cZ (zEK (kOffT K a1 s9 x) (kPut K s9.toNatClampNeg x) K)) sz (zAn (kOffT K a1 s9 x) (sCeil K s9.toNatClampNeg)) 3 18 := by
  refine va_MetW (cc := cL_offer) (maxL := 5) (ret := (some .int)) (hh := [(0, 7, 8, 29), (0, 7, 13, 14), (0, 7, 18, 17)]) (by decide) rfl ?_
  intro pP e s m args below meth c s₁ B hml hv
  obtain ⟨rfl, hsz, hP, hK, hD0, hE0, hN⟩ := hv
  have hx := B.exec
  have hb := B.bytes
  have hr := B.returns
  have hts := atoms_spec (ws := wsL_offer) B.pre
  have hTab := vx_table (x := yL_offer) B (hts (.codeWith yL_offer cL_offer 5 (some .int) [(0, 7, 8, 29), (0, 7, 13, 14), (0, 7, 18, 17)]) (List.mem_of_getElem? (i := 0) rfl))
  have hown : s.vm.findClass RL = some m.cls := findClass_of_methodNamed B.named
  subst hsz
  have hD := hD0.self (sz := s.heap.size)
  generalize hAe : va_A (kwA ad cI cZ K) s.heap.size = A at hD hE0 ⊢
  have hE := hE0
  have hA : ∀ q : Nat, s.heap.size ≤ q → A q := fun q h => by rw [← hAe]; exact Or.inr h
  have hS : va_S A s.heap s.heap [] := va_S.rf
  have hl := lv_entry ([.ref (ad 0), .int a1, .int s9, .int x]) (n := 5) (Nat.le_of_ble_eq_true rfl)
  rw [lg_entry_eq]
  generalize (lg_sl ([.ref (ad 0), .int a1, .int s9, .int x]) ++ List.replicate (5 - (lg_sl ([.ref (ad 0), .int a1, .int s9, .int x])).length) Slot.unset).toArray = ls at hl ⊢
  have hl : lv_has ls 5 [(0, .ref (ad 0)), (1, .int a1), (2, .int s9), (3, .int x)] := hl
  refine lv_aload_n hx hb dL_offer_0 rfl (lv_at hl 0 rfl) ?_
  refine lv_iload_n hx hb dL_offer_1 rfl (lv_at hl 1 rfl) ?_
  refine lv_iload_n hx hb dL_offer_2 rfl (lv_at hl 2 rfl) ?_
  refine lv_iload_n hx hb dL_offer_3 rfl (lv_at hl 3 rfl) ?_
  refine zx_Vi (As := [.int a1, .int s9, .int x]) (rest := []) (wr := []) ⟨hx, hb, hml, hown, hts⟩ (kX5_offer l hl9 D cI cZ ad K _ a1 s9 x  ) (cwV 3 hts gL_offer_X5_offer rfl rfl rfl (by decide +kernel) ⟨(Nat.le_of_ble_eq_true rfl), (Nat.le_of_ble_eq_true rfl)⟩) hK hP hD hS hA hE [0, 1, 2, 3, 4, 5, 6, 7, 8, 9, 10, 11, 12, 13, 14, 15, 16, 17, 18, 19, 20, 21, 22, 23, 24, 25] [] rfl rfl rfl rfl rfl (by decide) (ci := 5) (q0 := 0) rfl rfl rfl rfl hl.1 rfl (Nat.le_of_ble_eq_true rfl) dL_offer_4 ⟨(Nat.le_of_ble_eq_true rfl), (Nat.le_of_ble_eq_true rfl)⟩ (fun E ce q9 H locs h0 hE9 hP hD hS hce hcv hcl => ?_) (fun hT H locs hP hD hS => ?_)
  · skip
    have hP : va_P D vwCl (kwA ad cI cZ K) H := hP
    have hD : va_D A (kwA ad cI cZ K) := hD
    have h0 : ¬ kOffT K a1 s9 x = nI 0 := h0
    have hE9 : E = zN (kOffT K a1 s9 x) := hE9
    have eK9 : zEK (kOffT K a1 s9 x) (kPut K s9.toNatClampNeg x) K = K := zEK_n h0
    have hr9 : zRng true true true (kOffT K a1 s9 x) := kOffT_r
    rcases hr9.resolve_left h0 with ⟨h8, h9⟩ | ⟨h8, h9⟩ | ⟨h8, h9⟩
    · skip
      have hE8 : E = "java/lang/IndexOutOfBoundsException" := by rw [hE9, h9, zN_1]
      subst hE8
      refine vx_catch (own := RL) (name := "java/lang/IndexOutOfBoundsException") hown [] ⟨0, 7, 8, 29⟩ [⟨0, 7, 13, 14⟩, ⟨0, 7, 18, 17⟩] (by rw [hTab]; rfl) (fun _ h => absurd h List.not_mem_nil) (by decide) (by decide) (hts (.classLink RL 29 "java/lang/IndexOutOfBoundsException") (List.mem_of_getElem? (i := 1) rfl)) (va_Nw.use rfl (hE.1 (.castable "java/lang/IndexOutOfBoundsException" "java/lang/IndexOutOfBoundsException") (List.mem_of_getElem? (i := 38) rfl))) hce hcv hcl ?_
      refine lv_astore (lv' := [(4, .ref q9), (0, .ref (ad 0)), (1, .int a1), (2, .int s9), (3, .int x)]) hx hb dL_offer_8 hl (by decide) rfl (fun ls hl => ?_)
      refine lv_ldc (v := (-99999)) hx hb hown (hts (.constant RL 16 (-99999)) (List.mem_of_getElem? (i := 4) rfl)) dL_offer_10 ?_
      have eR9 : (-99999) = zAn (kOffT K a1 s9 x) (sCeil K s9.toNatClampNeg) := (zAn_n h0).symm
      have hP9 : va_P D vwCl (kwA ad cI cZ (zEK (kOffT K a1 s9 x) (kPut K s9.toNatClampNeg x) K)) H := by rw [eK9]; exact hP
      have hD9 : va_D A (kwA ad cI cZ (zEK (kOffT K a1 s9 x) (kPut K s9.toNatClampNeg x) K)) := by rw [eK9]; exact hD
      exact W.iret (v := (-99999)) hx hb hr (fun t ht hW => ⟨⟨(-99999), (), rfl, eR9, by rw [ht]; exact hP9, va_K.moved hW.alike hK, hD9⟩, hS.F ht⟩) hS.2.2 dL_offer_12
    · skip
      have hE8 : E = "java/lang/IllegalArgumentException" := by rw [hE9, h9, zN_2]
      subst hE8
      refine vx_catch (own := RL) (name := "java/lang/IllegalArgumentException") hown [⟨0, 7, 8, 29⟩] ⟨0, 7, 13, 14⟩ [⟨0, 7, 18, 17⟩] (by rw [hTab]; rfl) (List.forall_mem_cons.mpr ⟨Or.inr ⟨by decide, "java/lang/IndexOutOfBoundsException", (hts (.classLink RL 29 "java/lang/IndexOutOfBoundsException") (List.mem_of_getElem? (i := 1) rfl)), hN.2.1⟩, (fun _ h => absurd h List.not_mem_nil)⟩) (by decide) (by decide) (hts (.classLink RL 14 "java/lang/IllegalArgumentException") (List.mem_of_getElem? (i := 2) rfl)) (va_Nw.use rfl (hE.1 (.castable "java/lang/IllegalArgumentException" "java/lang/IllegalArgumentException") (List.mem_of_getElem? (i := 39) rfl))) hce hcv hcl ?_
      refine lv_astore (lv' := [(4, .ref q9), (0, .ref (ad 0)), (1, .int a1), (2, .int s9), (3, .int x)]) hx hb dL_offer_13 hl (by decide) rfl (fun ls hl => ?_)
      refine lv_ldc (v := (-99999)) hx hb hown (hts (.constant RL 16 (-99999)) (List.mem_of_getElem? (i := 4) rfl)) dL_offer_15 ?_
      have eR9 : (-99999) = zAn (kOffT K a1 s9 x) (sCeil K s9.toNatClampNeg) := (zAn_n h0).symm
      have hP9 : va_P D vwCl (kwA ad cI cZ (zEK (kOffT K a1 s9 x) (kPut K s9.toNatClampNeg x) K)) H := by rw [eK9]; exact hP
      have hD9 : va_D A (kwA ad cI cZ (zEK (kOffT K a1 s9 x) (kPut K s9.toNatClampNeg x) K)) := by rw [eK9]; exact hD
      exact W.iret (v := (-99999)) hx hb hr (fun t ht hW => ⟨⟨(-99999), (), rfl, eR9, by rw [ht]; exact hP9, va_K.moved hW.alike hK, hD9⟩, hS.F ht⟩) hS.2.2 dL_offer_17
    · skip
      have hE8 : E = "java/lang/IllegalStateException" := by rw [hE9, h9, zN_3]
      subst hE8
      refine vx_catch (own := RL) (name := "java/lang/IllegalStateException") hown [⟨0, 7, 8, 29⟩, ⟨0, 7, 13, 14⟩] ⟨0, 7, 18, 17⟩ [] (by rw [hTab]; rfl) (List.forall_mem_cons.mpr ⟨Or.inr ⟨by decide, "java/lang/IndexOutOfBoundsException", (hts (.classLink RL 29 "java/lang/IndexOutOfBoundsException") (List.mem_of_getElem? (i := 1) rfl)), hN.2.2⟩, (List.forall_mem_cons.mpr ⟨Or.inr ⟨by decide, "java/lang/IllegalArgumentException", (hts (.classLink RL 14 "java/lang/IllegalArgumentException") (List.mem_of_getElem? (i := 2) rfl)), hN.1⟩, (fun _ h => absurd h List.not_mem_nil)⟩)⟩) (by decide) (by decide) (hts (.classLink RL 17 "java/lang/IllegalStateException") (List.mem_of_getElem? (i := 3) rfl)) (va_Nw.use rfl (hE.1 (.castable "java/lang/IllegalStateException" "java/lang/IllegalStateException") (List.mem_of_getElem? (i := 40) rfl))) hce hcv hcl ?_
      refine lv_astore (lv' := [(4, .ref q9), (0, .ref (ad 0)), (1, .int a1), (2, .int s9), (3, .int x)]) hx hb dL_offer_18 hl (by decide) rfl (fun ls hl => ?_)
      refine lv_ldc (v := (-99999)) hx hb hown (hts (.constant RL 16 (-99999)) (List.mem_of_getElem? (i := 4) rfl)) dL_offer_20 ?_
      have eR9 : (-99999) = zAn (kOffT K a1 s9 x) (sCeil K s9.toNatClampNeg) := (zAn_n h0).symm
      have hP9 : va_P D vwCl (kwA ad cI cZ (zEK (kOffT K a1 s9 x) (kPut K s9.toNatClampNeg x) K)) H := by rw [eK9]; exact hP
      have hD9 : va_D A (kwA ad cI cZ (zEK (kOffT K a1 s9 x) (kPut K s9.toNatClampNeg x) K)) := by rw [eK9]; exact hD
      exact W.iret (v := (-99999)) hx hb hr (fun t ht hW => ⟨⟨(-99999), (), rfl, eR9, by rw [ht]; exact hP9, va_K.moved hW.alike hK, hD9⟩, hS.F ht⟩) hS.2.2 dL_offer_22
  · skip
    have hP : va_P D vwCl (kwA ad cI cZ (kPut K s9.toNatClampNeg x)) H := hP
    have hD : va_D A (kwA ad cI cZ (kPut K s9.toNatClampNeg x)) := hD
    have hT : kOffT K a1 s9 x = nI 0 := hT
    have eK9 : zEK (kOffT K a1 s9 x) (kPut K s9.toNatClampNeg x) K = kPut K s9.toNatClampNeg x := zEK_0 hT
    have eR9 : sCeil K s9.toNatClampNeg = zAn (kOffT K a1 s9 x) (sCeil K s9.toNatClampNeg) := (zAn_0 hT).symm
    have hP : va_P D vwCl (kwA ad cI cZ (zEK (kOffT K a1 s9 x) (kPut K s9.toNatClampNeg x) K)) H := by rw [eK9]; exact hP
    have hD : va_D A (kwA ad cI cZ (zEK (kOffT K a1 s9 x) (kPut K s9.toNatClampNeg x) K)) := by rw [eK9]; exact hD
    exact W.iret (v := sCeil K s9.toNatClampNeg) hx hb hr (fun t ht hW => ⟨⟨sCeil K s9.toNatClampNeg, (), rfl, eR9, by rw [ht]; exact hP, va_K.moved hW.alike hK, hD⟩, hS.F ht⟩) hS.2.2 dL_offer_7
set_option maxHeartbeats 4000000 in
set_option maxRecDepth 100000 in
theorem kL_retract (l : Launch) (hl9 : l.stackTraces = false) (D : va_G) (cI cZ : ClassId) (ad : Nat → Nat) (K : kS) (sz : Nat) (x : Int32)   : zMh l yL_retract wsL_retract ({ frames := 8, cells := 2, slots := 12, locals := 123 }) [.ref (ad 0), .int x] D (zTy cI cZ) (kwA ad cI cZ K) (kwA ad cI cZ (zEK (kRetT K x) (kRetE K x.toNatClampNeg) K)) sz (zAn (kRetT K x) (K 20 x.toNatClampNeg)) 2 12 := by
  refine va_MetW (cc := cL_retract) (maxL := 3) (ret := (some .int)) (hh := [(0, 5, 6, 29), (0, 5, 10, 17)]) (by decide) rfl ?_
  intro pP e s m args below meth c s₁ B hml hv
  obtain ⟨rfl, hsz, hP, hK, hD0, hE0, hN⟩ := hv
  have hx := B.exec
  have hb := B.bytes
  have hr := B.returns
  have hts := atoms_spec (ws := wsL_retract) B.pre
  have hTab := vx_table (x := yL_retract) B (hts (.codeWith yL_retract cL_retract 3 (some .int) [(0, 5, 6, 29), (0, 5, 10, 17)]) (List.mem_of_getElem? (i := 0) rfl))
  have hown : s.vm.findClass RL = some m.cls := findClass_of_methodNamed B.named
  subst hsz
  have hD := hD0.self (sz := s.heap.size)
  generalize hAe : va_A (kwA ad cI cZ K) s.heap.size = A at hD hE0 ⊢
  have hE := hE0
  have hA : ∀ q : Nat, s.heap.size ≤ q → A q := fun q h => by rw [← hAe]; exact Or.inr h
  have hS : va_S A s.heap s.heap [] := va_S.rf
  have hl := lv_entry ([.ref (ad 0), .int x]) (n := 3) (Nat.le_of_ble_eq_true rfl)
  rw [lg_entry_eq]
  generalize (lg_sl ([.ref (ad 0), .int x]) ++ List.replicate (3 - (lg_sl ([.ref (ad 0), .int x])).length) Slot.unset).toArray = ls at hl ⊢
  have hl : lv_has ls 3 [(0, .ref (ad 0)), (1, .int x)] := hl
  refine lv_aload_n hx hb dL_retract_0 rfl (lv_at hl 0 rfl) ?_
  refine lv_iload_n hx hb dL_retract_1 rfl (lv_at hl 1 rfl) ?_
  refine zx_Vi (As := [.int x]) (rest := []) (wr := []) ⟨hx, hb, hml, hown, hts⟩ (kX5_retract l hl9 D cI cZ ad K _ x  ) (cwV 1 hts gL_retract_X5_retract rfl rfl rfl (by decide +kernel) ⟨(Nat.le_of_ble_eq_true rfl), (Nat.le_of_ble_eq_true rfl)⟩) hK hP hD hS hA hE [0, 1, 2, 3, 4, 5, 6, 7, 8, 9, 10, 11, 12, 13, 14, 15, 16, 17, 18, 19, 20, 21, 22, 23, 24, 25] [] rfl rfl rfl rfl rfl (by decide) (ci := 5) (q0 := 0) rfl rfl rfl rfl hl.1 rfl (Nat.le_of_ble_eq_true rfl) dL_retract_2 ⟨(Nat.le_of_ble_eq_true rfl), (Nat.le_of_ble_eq_true rfl)⟩ (fun E ce q9 H locs h0 hE9 hP hD hS hce hcv hcl => ?_) (fun hT H locs hP hD hS => ?_)
  · skip
    have hP : va_P D vwCl (kwA ad cI cZ K) H := hP
    have hD : va_D A (kwA ad cI cZ K) := hD
    have h0 : ¬ kRetT K x = nI 0 := h0
    have hE9 : E = zN (kRetT K x) := hE9
    have eK9 : zEK (kRetT K x) (kRetE K x.toNatClampNeg) K = K := zEK_n h0
    have hr9 : zRng true false true (kRetT K x) := kRetT_r
    rcases hr9.resolve_left h0 with ⟨h8, h9⟩ | ⟨h8, h9⟩ | ⟨h8, h9⟩
    · skip
      have hE8 : E = "java/lang/IndexOutOfBoundsException" := by rw [hE9, h9, zN_1]
      subst hE8
      refine vx_catch (own := RL) (name := "java/lang/IndexOutOfBoundsException") hown [] ⟨0, 5, 6, 29⟩ [⟨0, 5, 10, 17⟩] (by rw [hTab]; rfl) (fun _ h => absurd h List.not_mem_nil) (by decide) (by decide) (hts (.classLink RL 29 "java/lang/IndexOutOfBoundsException") (List.mem_of_getElem? (i := 1) rfl)) (va_Nw.use rfl (hE.1 (.castable "java/lang/IndexOutOfBoundsException" "java/lang/IndexOutOfBoundsException") (List.mem_of_getElem? (i := 38) rfl))) hce hcv hcl ?_
      refine lv_astore_n (lv' := [(2, .ref q9), (0, .ref (ad 0)), (1, .int x)]) hx hb dL_retract_6 rfl hl (by decide) rfl (fun ls hl => ?_)
      refine lv_ldc (v := (-99999)) hx hb hown (hts (.constant RL 16 (-99999)) (List.mem_of_getElem? (i := 3) rfl)) dL_retract_7 ?_
      have eR9 : (-99999) = zAn (kRetT K x) (K 20 x.toNatClampNeg) := (zAn_n h0).symm
      have hP9 : va_P D vwCl (kwA ad cI cZ (zEK (kRetT K x) (kRetE K x.toNatClampNeg) K)) H := by rw [eK9]; exact hP
      have hD9 : va_D A (kwA ad cI cZ (zEK (kRetT K x) (kRetE K x.toNatClampNeg) K)) := by rw [eK9]; exact hD
      exact W.iret (v := (-99999)) hx hb hr (fun t ht hW => ⟨⟨(-99999), (), rfl, eR9, by rw [ht]; exact hP9, va_K.moved hW.alike hK, hD9⟩, hS.F ht⟩) hS.2.2 dL_retract_9
    · skip
      exact nomatch h8
    · skip
      have hE8 : E = "java/lang/IllegalStateException" := by rw [hE9, h9, zN_3]
      subst hE8
      refine vx_catch (own := RL) (name := "java/lang/IllegalStateException") hown [⟨0, 5, 6, 29⟩] ⟨0, 5, 10, 17⟩ [] (by rw [hTab]; rfl) (List.forall_mem_cons.mpr ⟨Or.inr ⟨by decide, "java/lang/IndexOutOfBoundsException", (hts (.classLink RL 29 "java/lang/IndexOutOfBoundsException") (List.mem_of_getElem? (i := 1) rfl)), hN.2.2⟩, (fun _ h => absurd h List.not_mem_nil)⟩) (by decide) (by decide) (hts (.classLink RL 17 "java/lang/IllegalStateException") (List.mem_of_getElem? (i := 2) rfl)) (va_Nw.use rfl (hE.1 (.castable "java/lang/IllegalStateException" "java/lang/IllegalStateException") (List.mem_of_getElem? (i := 40) rfl))) hce hcv hcl ?_
      refine lv_astore_n (lv' := [(2, .ref q9), (0, .ref (ad 0)), (1, .int x)]) hx hb dL_retract_10 rfl hl (by decide) rfl (fun ls hl => ?_)
      refine lv_ldc (v := (-99999)) hx hb hown (hts (.constant RL 16 (-99999)) (List.mem_of_getElem? (i := 3) rfl)) dL_retract_11 ?_
      have eR9 : (-99999) = zAn (kRetT K x) (K 20 x.toNatClampNeg) := (zAn_n h0).symm
      have hP9 : va_P D vwCl (kwA ad cI cZ (zEK (kRetT K x) (kRetE K x.toNatClampNeg) K)) H := by rw [eK9]; exact hP
      have hD9 : va_D A (kwA ad cI cZ (zEK (kRetT K x) (kRetE K x.toNatClampNeg) K)) := by rw [eK9]; exact hD
      exact W.iret (v := (-99999)) hx hb hr (fun t ht hW => ⟨⟨(-99999), (), rfl, eR9, by rw [ht]; exact hP9, va_K.moved hW.alike hK, hD9⟩, hS.F ht⟩) hS.2.2 dL_retract_13
  · skip
    have hP : va_P D vwCl (kwA ad cI cZ (kRetE K x.toNatClampNeg)) H := hP
    have hD : va_D A (kwA ad cI cZ (kRetE K x.toNatClampNeg)) := hD
    have hT : kRetT K x = nI 0 := hT
    have eK9 : zEK (kRetT K x) (kRetE K x.toNatClampNeg) K = kRetE K x.toNatClampNeg := zEK_0 hT
    have eR9 : K 20 x.toNatClampNeg = zAn (kRetT K x) (K 20 x.toNatClampNeg) := (zAn_0 hT).symm
    have hP : va_P D vwCl (kwA ad cI cZ (zEK (kRetT K x) (kRetE K x.toNatClampNeg) K)) H := by rw [eK9]; exact hP
    have hD : va_D A (kwA ad cI cZ (zEK (kRetT K x) (kRetE K x.toNatClampNeg) K)) := by rw [eK9]; exact hD
    exact W.iret (v := K 20 x.toNatClampNeg) hx hb hr (fun t ht hW => ⟨⟨K 20 x.toNatClampNeg, (), rfl, eR9, by rw [ht]; exact hP, va_K.moved hW.alike hK, hD⟩, hS.F ht⟩) hS.2.2 dL_retract_5
