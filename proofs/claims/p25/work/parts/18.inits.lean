set_option maxHeartbeats 4000000 in
set_option maxRecDepth 100000 in
theorem kX0_init (l : Launch) (D : va_G) (h0 sz : Nat) : Met l yX0_init wsX0_init ({ frames := 1, cells := 3, slots := 100, locals := 12 }) (va_Pc [.ref h0] (zPr D [] [(h0, .inr (0, [.int (nI 0), .null, .null, .null]))] sz)) (va_Qv (fun u : (Nat → Nat) × ClassId => u.1 2 = h0) (fun u => zPo D [(u.2, .int)] (va_A [(h0, .inr (0, [.int (nI 0), .null, .null, .null]))] sz) (kwC u.1 u.2 k0)) (va_A [(h0, .inr (0, [.int (nI 0), .null, .null, .null]))] sz)) 3 100 (va_A [(h0, .inr (0, [.int (nI 0), .null, .null, .null]))] sz) := by
  refine Met.ofW (cc := cX0_init) (maxL := 1) (ret := none) (by decide) rfl ?_
  intro pP e s m args below meth c s₁ B hml hv
  obtain ⟨rfl, hsz, hP, hK, hD0⟩ := hv
  have hx := B.exec
  have hb := B.bytes
  have hr := B.returns
  have hts := atoms_spec (ws := wsX0_init) B.pre
  have hown : s.vm.findClass RX0 = some m.cls := findClass_of_methodNamed B.named
  have hlocks := B.notSynchronized
  have hin : meth.name = "<init>" := (name_of_methodNamed B.named B.method).1
  subst hsz
  have hD := hD0.self (sz := s.heap.size)
  generalize hAe : va_A [(h0, .inr (0, [.int (nI 0), .null, .null, .null]))] s.heap.size = A at hD ⊢
  have hA : ∀ q : Nat, s.heap.size ≤ q → A q := fun q h => by rw [← hAe]; exact Or.inr h
  have hS : va_S A s.heap s.heap [] := va_S.rf
  have hinX0 : ∀ w ∈ u_ws RX0 TX0 4, w ∈ wsX0_init := by decide +kernel
  have hl := lv_entry ([.ref h0]) (n := 1) (Nat.le_of_ble_eq_true rfl)
  rw [lg_entry_eq]
  generalize (lg_sl ([.ref h0]) ++ List.replicate (1 - (lg_sl ([.ref h0])).length) Slot.unset).toArray = ls at hl ⊢
  have hl : lv_has ls 1 [(0, .ref h0)] := hl
  refine lv_aload_n hx hb dX0_init_0 rfl (lv_at hl 0 rfl) ?_
  refine W.objInit hx hb hown (hts (.methodLink RX0 3 objectInit) (List.mem_of_getElem? (i := 1) rfl)) (hts (.instanceMethod objectInit) (List.mem_of_getElem? (i := 2) rfl)) (hts (.code objectInit ⟨#[0xb1]⟩ 1 none) (List.mem_of_getElem? (i := 3) rfl)) rfl (by rw [hml]; exact hl.1) rfl dX0_init_1 (Nat.le_of_ble_eq_true rfl) (Nat.le_of_ble_eq_true rfl) ?_
  refine W.eq (g2 := F0 m 4 ls []) rfl ?_
  refine lv_aload_n hx hb dX0_init_4 rfl (lv_at hl 0 rfl) ?_
  refine lv_iconst (v := nI 0) hx hb dX0_init_5 (by decide) ?_
  refine va_put (D := D) (ci := 0) (v := .int (nI 0)) (ty := .int) (C := RX0) (T := TX0) (N := 4) hx hb hts hinX0 tyX0 tyX0_ok nmX0 hown hK hP hD hS 0 rfl rfl 0 (by decide) (hts (.fieldLink RX0 9 "AuditoriumKeys$Codes" "count" "I") (List.mem_of_getElem? (i := 4) rfl)) (fun _ h9 => h9) rfl (by decide +kernel) rfl rfl (Nat.le_of_ble_eq_true rfl) dX0_init_6 (fun H locs hP hD hS => ?_)
  have hP : va_P D vwCl [(h0, .inr (0, [.int (nI 0), .null, .null, .null]))] _ := hP
  have hD : va_D A [(h0, .inr (0, [.int (nI 0), .null, .null, .null]))] := hD
  refine lv_aload_n hx hb dX0_init_9 rfl (lv_at hl 0 rfl) ?_
  refine lv_bipush (v := nI 10) hx hb dX0_init_10 (by decide) ?_
  refine va_newa (atype := .int) (a0 := (10, .inl (fun _ => nI 0))) (N' := 10) hx hb (hts (.arrayClass .int) (List.mem_of_getElem? (i := 5) rfl)) rfl hK hP hD hS hA (fun _ => rfl) (by decide) (nI_clamp (by decide)) (by decide) (Nat.le_of_ble_eq_true rfl) (Nat.le_of_ble_eq_true rfl) dX0_init_12 (fun q1 ca1 H hK hP hD hS => ?_)
  refine W.widen (k := 1) (n := 10) (Nat.le_of_ble_eq_true rfl) (Nat.le_of_ble_eq_true rfl) ?_
  have hK : va_K D vwCl [(ca1, .int)] s := hK
  have hP : va_P D vwCl [(h0, .inr (0, [.int (nI 0), .null, .null, .null])), (q1, .inl (ca1, 10, .inl (fun _ => nI 0)))] _ := hP
  have hD : va_D A [(h0, .inr (0, [.int (nI 0), .null, .null, .null])), (q1, .inl (ca1, 10, .inl (fun _ => nI 0)))] := hD
  refine va_putF (D := D) (ci := 0) (v := .ref q1) (ty := .array .int) (C := RX0) (T := TX0) (N := 4) hx hb hts hinX0 tyX0 tyX0_ok nmX0 hown hK hP hD hS 0 rfl rfl 1 (by decide) (hts (.fieldLink RX0 15 "AuditoriumKeys$Codes" "ofPerson" "[I") (List.mem_of_getElem? (i := 6) rfl)) (fun _ h9 => h9) rfl hin rfl (by decide +kernel) rfl rfl (Nat.le_of_ble_eq_true rfl) dX0_init_14 (fun H locs hP hD hS => ?_)
  have hP : va_P D vwCl [(h0, .inr (0, [.int (nI 0), .ref q1, .null, .null])), (q1, .inl (ca1, 10, .inl (fun _ => nI 0)))] _ := hP
  have hD : va_D A [(h0, .inr (0, [.int (nI 0), .ref q1, .null, .null])), (q1, .inl (ca1, 10, .inl (fun _ => nI 0)))] := hD
  refine lv_aload_n hx hb dX0_init_17 rfl (lv_at hl 0 rfl) ?_
  refine lv_bipush (v := nI 10) hx hb dX0_init_18 (by decide) ?_
  refine va_newa (atype := .int) (a0 := (10, .inl (fun _ => nI 0))) (N' := 10) hx hb (hts (.arrayClass .int) (List.mem_of_getElem? (i := 5) rfl)) rfl hK hP hD hS hA (fun _ => rfl) (by decide) (nI_clamp (by decide)) (by decide) (Nat.le_of_ble_eq_true rfl) (Nat.le_of_ble_eq_true rfl) dX0_init_20 (fun q2 ca2 H hK hP hD hS => ?_)
  refine W.widen (k := 2) (n := 20) (Nat.le_of_ble_eq_true rfl) (Nat.le_of_ble_eq_true rfl) ?_
  have hK : va_K D vwCl [(ca1, .int), (ca2, .int)] s := hK
  have ec : ca2 = ca1 := zcI hK (i := 1) (j := 0) rfl rfl
  subst ca2
  have hK := hK.sub (tys' := [(ca1, .int)]) [0] rfl
  have hP : va_P D vwCl [(h0, .inr (0, [.int (nI 0), .ref q1, .null, .null])), (q1, .inl (ca1, 10, .inl (fun _ => nI 0))), (q2, .inl (ca1, 10, .inl (fun _ => nI 0)))] _ := hP
  have hD : va_D A [(h0, .inr (0, [.int (nI 0), .ref q1, .null, .null])), (q1, .inl (ca1, 10, .inl (fun _ => nI 0))), (q2, .inl (ca1, 10, .inl (fun _ => nI 0)))] := hD
  refine va_putF (D := D) (ci := 0) (v := .ref q2) (ty := .array .int) (C := RX0) (T := TX0) (N := 4) hx hb hts hinX0 tyX0 tyX0_ok nmX0 hown hK hP hD hS 0 rfl rfl 2 (by decide) (hts (.fieldLink RX0 19 "AuditoriumKeys$Codes" "ofHousehold" "[I") (List.mem_of_getElem? (i := 7) rfl)) (fun _ h9 => h9) rfl hin rfl (by decide +kernel) rfl rfl (Nat.le_of_ble_eq_true rfl) dX0_init_22 (fun H locs hP hD hS => ?_)
  have hP : va_P D vwCl [(h0, .inr (0, [.int (nI 0), .ref q1, .ref q2, .null])), (q1, .inl (ca1, 10, .inl (fun _ => nI 0))), (q2, .inl (ca1, 10, .inl (fun _ => nI 0)))] _ := hP
  have hD : va_D A [(h0, .inr (0, [.int (nI 0), .ref q1, .ref q2, .null])), (q1, .inl (ca1, 10, .inl (fun _ => nI 0))), (q2, .inl (ca1, 10, .inl (fun _ => nI 0)))] := hD
  refine lv_aload_n hx hb dX0_init_25 rfl (lv_at hl 0 rfl) ?_
  refine lv_bipush (v := nI 80) hx hb dX0_init_26 (by decide) ?_
  refine va_newa (atype := .int) (a0 := (80, .inl (fun _ => nI 0))) (N' := 80) hx hb (hts (.arrayClass .int) (List.mem_of_getElem? (i := 5) rfl)) rfl hK hP hD hS hA (fun _ => rfl) (by decide) (nI_clamp (by decide)) (by decide) (Nat.le_of_ble_eq_true rfl) (Nat.le_of_ble_eq_true rfl) dX0_init_28 (fun q3 ca3 H hK hP hD hS => ?_)
  refine W.widen (k := 3) (n := 100) (Nat.le_of_ble_eq_true rfl) (Nat.le_of_ble_eq_true rfl) ?_
  have hK : va_K D vwCl [(ca1, .int), (ca3, .int)] s := hK
  have ec : ca3 = ca1 := zcI hK (i := 1) (j := 0) rfl rfl
  subst ca3
  have hK := hK.sub (tys' := [(ca1, .int)]) [0] rfl
  have hP : va_P D vwCl [(h0, .inr (0, [.int (nI 0), .ref q1, .ref q2, .null])), (q1, .inl (ca1, 10, .inl (fun _ => nI 0))), (q2, .inl (ca1, 10, .inl (fun _ => nI 0))), (q3, .inl (ca1, 80, .inl (fun _ => nI 0)))] _ := hP
  have hD : va_D A [(h0, .inr (0, [.int (nI 0), .ref q1, .ref q2, .null])), (q1, .inl (ca1, 10, .inl (fun _ => nI 0))), (q2, .inl (ca1, 10, .inl (fun _ => nI 0))), (q3, .inl (ca1, 80, .inl (fun _ => nI 0)))] := hD
  refine va_putF (D := D) (ci := 0) (v := .ref q3) (ty := .array .int) (C := RX0) (T := TX0) (N := 4) hx hb hts hinX0 tyX0 tyX0_ok nmX0 hown hK hP hD hS 0 rfl rfl 3 (by decide) (hts (.fieldLink RX0 22 "AuditoriumKeys$Codes" "counted" "[I") (List.mem_of_getElem? (i := 8) rfl)) (fun _ h9 => h9) rfl hin rfl (by decide +kernel) rfl rfl (Nat.le_of_ble_eq_true rfl) dX0_init_30 (fun H locs hP hD hS => ?_)
  have hP : va_P D vwCl [(h0, .inr (0, [.int (nI 0), .ref q1, .ref q2, .ref q3])), (q1, .inl (ca1, 10, .inl (fun _ => nI 0))), (q2, .inl (ca1, 10, .inl (fun _ => nI 0))), (q3, .inl (ca1, 80, .inl (fun _ => nI 0)))] _ := hP
  have hD : va_D A [(h0, .inr (0, [.int (nI 0), .ref q1, .ref q2, .ref q3])), (q1, .inl (ca1, 10, .inl (fun _ => nI 0))), (q2, .inl (ca1, 10, .inl (fun _ => nI 0))), (q3, .inl (ca1, 80, .inl (fun _ => nI 0)))] := hD
  have hP9 : va_P D vwCl (kwC (zad [0, 0, h0, q1, q2, q3]) ca1 k0) _ := hP
  have hD9 : va_D A (kwC (zad [0, 0, h0, q1, q2, q3]) ca1 k0) := hD
  have hK9 := hK.sub (tys' := [(ca1, .int)]) [0] rfl
  exact W.vret hx hb hr (fun t ht hW => ⟨⟨((zad [0, 0, h0, q1, q2, q3]), ca1), rfl, rfl, by rw [ht]; exact hP9, va_K.moved hW.alike hK9, hD9⟩, hS.F ht⟩) hS.2.2 dX0_init_33
set_option maxHeartbeats 4000000 in
set_option maxRecDepth 100000 in
theorem kX1_init (l : Launch) (D : va_G) (h0 sz : Nat) : Met l yX1_init wsX1_init ({ frames := 1, cells := 7, slots := 56, locals := 12 }) (va_Pc [.ref h0] (zPr D [] [(h0, .inr (1, [.null, .null, .null, .null, .null, .null, .null]))] sz)) (va_Qv (fun u : (Nat → Nat) × ClassId => u.1 8 = h0) (fun u => zPo D [(u.2, .int)] (va_A [(h0, .inr (1, [.null, .null, .null, .null, .null, .null, .null]))] sz) (kwH u.1 u.2 k0)) (va_A [(h0, .inr (1, [.null, .null, .null, .null, .null, .null, .null]))] sz)) 7 56 (va_A [(h0, .inr (1, [.null, .null, .null, .null, .null, .null, .null]))] sz) := by
  refine Met.ofW (cc := cX1_init) (maxL := 1) (ret := none) (by decide) rfl ?_
  intro pP e s m args below meth c s₁ B hml hv
  obtain ⟨rfl, hsz, hP, hK, hD0⟩ := hv
  have hx := B.exec
  have hb := B.bytes
  have hr := B.returns
  have hts := atoms_spec (ws := wsX1_init) B.pre
  have hown : s.vm.findClass RX1 = some m.cls := findClass_of_methodNamed B.named
  have hlocks := B.notSynchronized
  have hin : meth.name = "<init>" := (name_of_methodNamed B.named B.method).1
  subst hsz
  have hD := hD0.self (sz := s.heap.size)
  generalize hAe : va_A [(h0, .inr (1, [.null, .null, .null, .null, .null, .null, .null]))] s.heap.size = A at hD ⊢
  have hA : ∀ q : Nat, s.heap.size ≤ q → A q := fun q h => by rw [← hAe]; exact Or.inr h
  have hS : va_S A s.heap s.heap [] := va_S.rf
  have hinX1 : ∀ w ∈ u_ws RX1 TX1 7, w ∈ wsX1_init := by decide +kernel
  have hl := lv_entry ([.ref h0]) (n := 1) (Nat.le_of_ble_eq_true rfl)
  rw [lg_entry_eq]
  generalize (lg_sl ([.ref h0]) ++ List.replicate (1 - (lg_sl ([.ref h0])).length) Slot.unset).toArray = ls at hl ⊢
  have hl : lv_has ls 1 [(0, .ref h0)] := hl
  refine lv_aload_n hx hb dX1_init_0 rfl (lv_at hl 0 rfl) ?_
  refine W.objInit hx hb hown (hts (.methodLink RX1 3 objectInit) (List.mem_of_getElem? (i := 1) rfl)) (hts (.instanceMethod objectInit) (List.mem_of_getElem? (i := 2) rfl)) (hts (.code objectInit ⟨#[0xb1]⟩ 1 none) (List.mem_of_getElem? (i := 3) rfl)) rfl (by rw [hml]; exact hl.1) rfl dX1_init_1 (Nat.le_of_ble_eq_true rfl) (Nat.le_of_ble_eq_true rfl) ?_
  refine W.eq (g2 := F0 m 4 ls []) rfl ?_
  refine lv_aload_n hx hb dX1_init_4 rfl (lv_at hl 0 rfl) ?_
  refine lv_bipush (v := nI 8) hx hb dX1_init_5 (by decide) ?_
  refine va_newa (atype := .int) (a0 := (8, .inl (fun _ => nI 0))) (N' := 8) hx hb (hts (.arrayClass .int) (List.mem_of_getElem? (i := 4) rfl)) rfl hK hP hD hS hA (fun _ => rfl) (by decide) (nI_clamp (by decide)) (by decide) (Nat.le_of_ble_eq_true rfl) (Nat.le_of_ble_eq_true rfl) dX1_init_7 (fun q1 ca1 H hK hP hD hS => ?_)
  refine W.widen (k := 1) (n := 8) (Nat.le_of_ble_eq_true rfl) (Nat.le_of_ble_eq_true rfl) ?_
  have hK : va_K D vwCl [(ca1, .int)] s := hK
  have hP : va_P D vwCl [(h0, .inr (1, [.null, .null, .null, .null, .null, .null, .null])), (q1, .inl (ca1, 8, .inl (fun _ => nI 0)))] _ := hP
  have hD : va_D A [(h0, .inr (1, [.null, .null, .null, .null, .null, .null, .null])), (q1, .inl (ca1, 8, .inl (fun _ => nI 0)))] := hD
  refine va_putF (D := D) (ci := 1) (v := .ref q1) (ty := .array .int) (C := RX1) (T := TX1) (N := 7) hx hb hts hinX1 tyX1 tyX1_ok nmX1 hown hK hP hD hS 0 rfl rfl 0 (by decide) (hts (.fieldLink RX1 9 "AuditoriumKeys$Holds" "first" "[I") (List.mem_of_getElem? (i := 5) rfl)) (fun _ h9 => h9) rfl hin rfl (by decide +kernel) rfl rfl (Nat.le_of_ble_eq_true rfl) dX1_init_9 (fun H locs hP hD hS => ?_)
  have hP : va_P D vwCl [(h0, .inr (1, [.ref q1, .null, .null, .null, .null, .null, .null])), (q1, .inl (ca1, 8, .inl (fun _ => nI 0)))] _ := hP
  have hD : va_D A [(h0, .inr (1, [.ref q1, .null, .null, .null, .null, .null, .null])), (q1, .inl (ca1, 8, .inl (fun _ => nI 0)))] := hD
  refine lv_aload_n hx hb dX1_init_12 rfl (lv_at hl 0 rfl) ?_
  refine lv_bipush (v := nI 8) hx hb dX1_init_13 (by decide) ?_
  refine va_newa (atype := .int) (a0 := (8, .inl (fun _ => nI 0))) (N' := 8) hx hb (hts (.arrayClass .int) (List.mem_of_getElem? (i := 4) rfl)) rfl hK hP hD hS hA (fun _ => rfl) (by decide) (nI_clamp (by decide)) (by decide) (Nat.le_of_ble_eq_true rfl) (Nat.le_of_ble_eq_true rfl) dX1_init_15 (fun q2 ca2 H hK hP hD hS => ?_)
  refine W.widen (k := 2) (n := 16) (Nat.le_of_ble_eq_true rfl) (Nat.le_of_ble_eq_true rfl) ?_
  have hK : va_K D vwCl [(ca1, .int), (ca2, .int)] s := hK
  have ec : ca2 = ca1 := zcI hK (i := 1) (j := 0) rfl rfl
  subst ca2
  have hK := hK.sub (tys' := [(ca1, .int)]) [0] rfl
  have hP : va_P D vwCl [(h0, .inr (1, [.ref q1, .null, .null, .null, .null, .null, .null])), (q1, .inl (ca1, 8, .inl (fun _ => nI 0))), (q2, .inl (ca1, 8, .inl (fun _ => nI 0)))] _ := hP
  have hD : va_D A [(h0, .inr (1, [.ref q1, .null, .null, .null, .null, .null, .null])), (q1, .inl (ca1, 8, .inl (fun _ => nI 0))), (q2, .inl (ca1, 8, .inl (fun _ => nI 0)))] := hD
  refine va_putF (D := D) (ci := 1) (v := .ref q2) (ty := .array .int) (C := RX1) (T := TX1) (N := 7) hx hb hts hinX1 tyX1 tyX1_ok nmX1 hown hK hP hD hS 0 rfl rfl 1 (by decide) (hts (.fieldLink RX1 15 "AuditoriumKeys$Holds" "many" "[I") (List.mem_of_getElem? (i := 6) rfl)) (fun _ h9 => h9) rfl hin rfl (by decide +kernel) rfl rfl (Nat.le_of_ble_eq_true rfl) dX1_init_17 (fun H locs hP hD hS => ?_)
  have hP : va_P D vwCl [(h0, .inr (1, [.ref q1, .ref q2, .null, .null, .null, .null, .null])), (q1, .inl (ca1, 8, .inl (fun _ => nI 0))), (q2, .inl (ca1, 8, .inl (fun _ => nI 0)))] _ := hP
  have hD : va_D A [(h0, .inr (1, [.ref q1, .ref q2, .null, .null, .null, .null, .null])), (q1, .inl (ca1, 8, .inl (fun _ => nI 0))), (q2, .inl (ca1, 8, .inl (fun _ => nI 0)))] := hD
  refine lv_aload_n hx hb dX1_init_20 rfl (lv_at hl 0 rfl) ?_
  refine lv_bipush (v := nI 8) hx hb dX1_init_21 (by decide) ?_
  refine va_newa (atype := .int) (a0 := (8, .inl (fun _ => nI 0))) (N' := 8) hx hb (hts (.arrayClass .int) (List.mem_of_getElem? (i := 4) rfl)) rfl hK hP hD hS hA (fun _ => rfl) (by decide) (nI_clamp (by decide)) (by decide) (Nat.le_of_ble_eq_true rfl) (Nat.le_of_ble_eq_true rfl) dX1_init_23 (fun q3 ca3 H hK hP hD hS => ?_)
  refine W.widen (k := 3) (n := 24) (Nat.le_of_ble_eq_true rfl) (Nat.le_of_ble_eq_true rfl) ?_
  have hK : va_K D vwCl [(ca1, .int), (ca3, .int)] s := hK
  have ec : ca3 = ca1 := zcI hK (i := 1) (j := 0) rfl rfl
  subst ca3
  have hK := hK.sub (tys' := [(ca1, .int)]) [0] rfl
  have hP : va_P D vwCl [(h0, .inr (1, [.ref q1, .ref q2, .null, .null, .null, .null, .null])), (q1, .inl (ca1, 8, .inl (fun _ => nI 0))), (q2, .inl (ca1, 8, .inl (fun _ => nI 0))), (q3, .inl (ca1, 8, .inl (fun _ => nI 0)))] _ := hP
  have hD : va_D A [(h0, .inr (1, [.ref q1, .ref q2, .null, .null, .null, .null, .null])), (q1, .inl (ca1, 8, .inl (fun _ => nI 0))), (q2, .inl (ca1, 8, .inl (fun _ => nI 0))), (q3, .inl (ca1, 8, .inl (fun _ => nI 0)))] := hD
  refine va_putF (D := D) (ci := 1) (v := .ref q3) (ty := .array .int) (C := RX1) (T := TX1) (N := 7) hx hb hts hinX1 tyX1 tyX1_ok nmX1 hown hK hP hD hS 0 rfl rfl 2 (by decide) (hts (.fieldLink RX1 18 "AuditoriumKeys$Holds" "code" "[I") (List.mem_of_getElem? (i := 7) rfl)) (fun _ h9 => h9) rfl hin rfl (by decide +kernel) rfl rfl (Nat.le_of_ble_eq_true rfl) dX1_init_25 (fun H locs hP hD hS => ?_)
  have hP : va_P D vwCl [(h0, .inr (1, [.ref q1, .ref q2, .ref q3, .null, .null, .null, .null])), (q1, .inl (ca1, 8, .inl (fun _ => nI 0))), (q2, .inl (ca1, 8, .inl (fun _ => nI 0))), (q3, .inl (ca1, 8, .inl (fun _ => nI 0)))] _ := hP
  have hD : va_D A [(h0, .inr (1, [.ref q1, .ref q2, .ref q3, .null, .null, .null, .null])), (q1, .inl (ca1, 8, .inl (fun _ => nI 0))), (q2, .inl (ca1, 8, .inl (fun _ => nI 0))), (q3, .inl (ca1, 8, .inl (fun _ => nI 0)))] := hD
  refine lv_aload_n hx hb dX1_init_28 rfl (lv_at hl 0 rfl) ?_
  refine lv_bipush (v := nI 8) hx hb dX1_init_29 (by decide) ?_
  refine va_newa (atype := .int) (a0 := (8, .inl (fun _ => nI 0))) (N' := 8) hx hb (hts (.arrayClass .int) (List.mem_of_getElem? (i := 4) rfl)) rfl hK hP hD hS hA (fun _ => rfl) (by decide) (nI_clamp (by decide)) (by decide) (Nat.le_of_ble_eq_true rfl) (Nat.le_of_ble_eq_true rfl) dX1_init_31 (fun q4 ca4 H hK hP hD hS => ?_)
  refine W.widen (k := 4) (n := 32) (Nat.le_of_ble_eq_true rfl) (Nat.le_of_ble_eq_true rfl) ?_
  have hK : va_K D vwCl [(ca1, .int), (ca4, .int)] s := hK
  have ec : ca4 = ca1 := zcI hK (i := 1) (j := 0) rfl rfl
  subst ca4
  have hK := hK.sub (tys' := [(ca1, .int)]) [0] rfl
  have hP : va_P D vwCl [(h0, .inr (1, [.ref q1, .ref q2, .ref q3, .null, .null, .null, .null])), (q1, .inl (ca1, 8, .inl (fun _ => nI 0))), (q2, .inl (ca1, 8, .inl (fun _ => nI 0))), (q3, .inl (ca1, 8, .inl (fun _ => nI 0))), (q4, .inl (ca1, 8, .inl (fun _ => nI 0)))] _ := hP
  have hD : va_D A [(h0, .inr (1, [.ref q1, .ref q2, .ref q3, .null, .null, .null, .null])), (q1, .inl (ca1, 8, .inl (fun _ => nI 0))), (q2, .inl (ca1, 8, .inl (fun _ => nI 0))), (q3, .inl (ca1, 8, .inl (fun _ => nI 0))), (q4, .inl (ca1, 8, .inl (fun _ => nI 0)))] := hD
  refine va_putF (D := D) (ci := 1) (v := .ref q4) (ty := .array .int) (C := RX1) (T := TX1) (N := 7) hx hb hts hinX1 tyX1 tyX1_ok nmX1 hown hK hP hD hS 0 rfl rfl 3 (by decide) (hts (.fieldLink RX1 21 "AuditoriumKeys$Holds" "cost" "[I") (List.mem_of_getElem? (i := 8) rfl)) (fun _ h9 => h9) rfl hin rfl (by decide +kernel) rfl rfl (Nat.le_of_ble_eq_true rfl) dX1_init_33 (fun H locs hP hD hS => ?_)
  have hP : va_P D vwCl [(h0, .inr (1, [.ref q1, .ref q2, .ref q3, .ref q4, .null, .null, .null])), (q1, .inl (ca1, 8, .inl (fun _ => nI 0))), (q2, .inl (ca1, 8, .inl (fun _ => nI 0))), (q3, .inl (ca1, 8, .inl (fun _ => nI 0))), (q4, .inl (ca1, 8, .inl (fun _ => nI 0)))] _ := hP
  have hD : va_D A [(h0, .inr (1, [.ref q1, .ref q2, .ref q3, .ref q4, .null, .null, .null])), (q1, .inl (ca1, 8, .inl (fun _ => nI 0))), (q2, .inl (ca1, 8, .inl (fun _ => nI 0))), (q3, .inl (ca1, 8, .inl (fun _ => nI 0))), (q4, .inl (ca1, 8, .inl (fun _ => nI 0)))] := hD
  refine lv_aload_n hx hb dX1_init_36 rfl (lv_at hl 0 rfl) ?_
  refine lv_bipush (v := nI 8) hx hb dX1_init_37 (by decide) ?_
  refine va_newa (atype := .int) (a0 := (8, .inl (fun _ => nI 0))) (N' := 8) hx hb (hts (.arrayClass .int) (List.mem_of_getElem? (i := 4) rfl)) rfl hK hP hD hS hA (fun _ => rfl) (by decide) (nI_clamp (by decide)) (by decide) (Nat.le_of_ble_eq_true rfl) (Nat.le_of_ble_eq_true rfl) dX1_init_39 (fun q5 ca5 H hK hP hD hS => ?_)
  refine W.widen (k := 5) (n := 40) (Nat.le_of_ble_eq_true rfl) (Nat.le_of_ble_eq_true rfl) ?_
  have hK : va_K D vwCl [(ca1, .int), (ca5, .int)] s := hK
  have ec : ca5 = ca1 := zcI hK (i := 1) (j := 0) rfl rfl
  subst ca5
  have hK := hK.sub (tys' := [(ca1, .int)]) [0] rfl
  have hP : va_P D vwCl [(h0, .inr (1, [.ref q1, .ref q2, .ref q3, .ref q4, .null, .null, .null])), (q1, .inl (ca1, 8, .inl (fun _ => nI 0))), (q2, .inl (ca1, 8, .inl (fun _ => nI 0))), (q3, .inl (ca1, 8, .inl (fun _ => nI 0))), (q4, .inl (ca1, 8, .inl (fun _ => nI 0))), (q5, .inl (ca1, 8, .inl (fun _ => nI 0)))] _ := hP
  have hD : va_D A [(h0, .inr (1, [.ref q1, .ref q2, .ref q3, .ref q4, .null, .null, .null])), (q1, .inl (ca1, 8, .inl (fun _ => nI 0))), (q2, .inl (ca1, 8, .inl (fun _ => nI 0))), (q3, .inl (ca1, 8, .inl (fun _ => nI 0))), (q4, .inl (ca1, 8, .inl (fun _ => nI 0))), (q5, .inl (ca1, 8, .inl (fun _ => nI 0)))] := hD
  refine va_putF (D := D) (ci := 1) (v := .ref q5) (ty := .array .int) (C := RX1) (T := TX1) (N := 7) hx hb hts hinX1 tyX1 tyX1_ok nmX1 hown hK hP hD hS 0 rfl rfl 4 (by decide) (hts (.fieldLink RX1 24 "AuditoriumKeys$Holds" "paid" "[I") (List.mem_of_getElem? (i := 9) rfl)) (fun _ h9 => h9) rfl hin rfl (by decide +kernel) rfl rfl (Nat.le_of_ble_eq_true rfl) dX1_init_41 (fun H locs hP hD hS => ?_)
  have hP : va_P D vwCl [(h0, .inr (1, [.ref q1, .ref q2, .ref q3, .ref q4, .ref q5, .null, .null])), (q1, .inl (ca1, 8, .inl (fun _ => nI 0))), (q2, .inl (ca1, 8, .inl (fun _ => nI 0))), (q3, .inl (ca1, 8, .inl (fun _ => nI 0))), (q4, .inl (ca1, 8, .inl (fun _ => nI 0))), (q5, .inl (ca1, 8, .inl (fun _ => nI 0)))] _ := hP
  have hD : va_D A [(h0, .inr (1, [.ref q1, .ref q2, .ref q3, .ref q4, .ref q5, .null, .null])), (q1, .inl (ca1, 8, .inl (fun _ => nI 0))), (q2, .inl (ca1, 8, .inl (fun _ => nI 0))), (q3, .inl (ca1, 8, .inl (fun _ => nI 0))), (q4, .inl (ca1, 8, .inl (fun _ => nI 0))), (q5, .inl (ca1, 8, .inl (fun _ => nI 0)))] := hD
  refine lv_aload_n hx hb dX1_init_44 rfl (lv_at hl 0 rfl) ?_
  refine lv_bipush (v := nI 8) hx hb dX1_init_45 (by decide) ?_
  refine va_newa (atype := .int) (a0 := (8, .inl (fun _ => nI 0))) (N' := 8) hx hb (hts (.arrayClass .int) (List.mem_of_getElem? (i := 4) rfl)) rfl hK hP hD hS hA (fun _ => rfl) (by decide) (nI_clamp (by decide)) (by decide) (Nat.le_of_ble_eq_true rfl) (Nat.le_of_ble_eq_true rfl) dX1_init_47 (fun q6 ca6 H hK hP hD hS => ?_)
  refine W.widen (k := 6) (n := 48) (Nat.le_of_ble_eq_true rfl) (Nat.le_of_ble_eq_true rfl) ?_
  have hK : va_K D vwCl [(ca1, .int), (ca6, .int)] s := hK
  have ec : ca6 = ca1 := zcI hK (i := 1) (j := 0) rfl rfl
  subst ca6
  have hK := hK.sub (tys' := [(ca1, .int)]) [0] rfl
  have hP : va_P D vwCl [(h0, .inr (1, [.ref q1, .ref q2, .ref q3, .ref q4, .ref q5, .null, .null])), (q1, .inl (ca1, 8, .inl (fun _ => nI 0))), (q2, .inl (ca1, 8, .inl (fun _ => nI 0))), (q3, .inl (ca1, 8, .inl (fun _ => nI 0))), (q4, .inl (ca1, 8, .inl (fun _ => nI 0))), (q5, .inl (ca1, 8, .inl (fun _ => nI 0))), (q6, .inl (ca1, 8, .inl (fun _ => nI 0)))] _ := hP
  have hD : va_D A [(h0, .inr (1, [.ref q1, .ref q2, .ref q3, .ref q4, .ref q5, .null, .null])), (q1, .inl (ca1, 8, .inl (fun _ => nI 0))), (q2, .inl (ca1, 8, .inl (fun _ => nI 0))), (q3, .inl (ca1, 8, .inl (fun _ => nI 0))), (q4, .inl (ca1, 8, .inl (fun _ => nI 0))), (q5, .inl (ca1, 8, .inl (fun _ => nI 0))), (q6, .inl (ca1, 8, .inl (fun _ => nI 0)))] := hD
  refine va_putF (D := D) (ci := 1) (v := .ref q6) (ty := .array .int) (C := RX1) (T := TX1) (N := 7) hx hb hts hinX1 tyX1 tyX1_ok nmX1 hown hK hP hD hS 0 rfl rfl 5 (by decide) (hts (.fieldLink RX1 27 "AuditoriumKeys$Holds" "latest" "[I") (List.mem_of_getElem? (i := 10) rfl)) (fun _ h9 => h9) rfl hin rfl (by decide +kernel) rfl rfl (Nat.le_of_ble_eq_true rfl) dX1_init_49 (fun H locs hP hD hS => ?_)
  have hP : va_P D vwCl [(h0, .inr (1, [.ref q1, .ref q2, .ref q3, .ref q4, .ref q5, .ref q6, .null])), (q1, .inl (ca1, 8, .inl (fun _ => nI 0))), (q2, .inl (ca1, 8, .inl (fun _ => nI 0))), (q3, .inl (ca1, 8, .inl (fun _ => nI 0))), (q4, .inl (ca1, 8, .inl (fun _ => nI 0))), (q5, .inl (ca1, 8, .inl (fun _ => nI 0))), (q6, .inl (ca1, 8, .inl (fun _ => nI 0)))] _ := hP
  have hD : va_D A [(h0, .inr (1, [.ref q1, .ref q2, .ref q3, .ref q4, .ref q5, .ref q6, .null])), (q1, .inl (ca1, 8, .inl (fun _ => nI 0))), (q2, .inl (ca1, 8, .inl (fun _ => nI 0))), (q3, .inl (ca1, 8, .inl (fun _ => nI 0))), (q4, .inl (ca1, 8, .inl (fun _ => nI 0))), (q5, .inl (ca1, 8, .inl (fun _ => nI 0))), (q6, .inl (ca1, 8, .inl (fun _ => nI 0)))] := hD
  refine lv_aload_n hx hb dX1_init_52 rfl (lv_at hl 0 rfl) ?_
  refine lv_bipush (v := nI 8) hx hb dX1_init_53 (by decide) ?_
  refine va_newa (atype := .int) (a0 := (8, .inl (fun _ => nI 0))) (N' := 8) hx hb (hts (.arrayClass .int) (List.mem_of_getElem? (i := 4) rfl)) rfl hK hP hD hS hA (fun _ => rfl) (by decide) (nI_clamp (by decide)) (by decide) (Nat.le_of_ble_eq_true rfl) (Nat.le_of_ble_eq_true rfl) dX1_init_55 (fun q7 ca7 H hK hP hD hS => ?_)
  refine W.widen (k := 7) (n := 56) (Nat.le_of_ble_eq_true rfl) (Nat.le_of_ble_eq_true rfl) ?_
  have hK : va_K D vwCl [(ca1, .int), (ca7, .int)] s := hK
  have ec : ca7 = ca1 := zcI hK (i := 1) (j := 0) rfl rfl
  subst ca7
  have hK := hK.sub (tys' := [(ca1, .int)]) [0] rfl
  have hP : va_P D vwCl [(h0, .inr (1, [.ref q1, .ref q2, .ref q3, .ref q4, .ref q5, .ref q6, .null])), (q1, .inl (ca1, 8, .inl (fun _ => nI 0))), (q2, .inl (ca1, 8, .inl (fun _ => nI 0))), (q3, .inl (ca1, 8, .inl (fun _ => nI 0))), (q4, .inl (ca1, 8, .inl (fun _ => nI 0))), (q5, .inl (ca1, 8, .inl (fun _ => nI 0))), (q6, .inl (ca1, 8, .inl (fun _ => nI 0))), (q7, .inl (ca1, 8, .inl (fun _ => nI 0)))] _ := hP
  have hD : va_D A [(h0, .inr (1, [.ref q1, .ref q2, .ref q3, .ref q4, .ref q5, .ref q6, .null])), (q1, .inl (ca1, 8, .inl (fun _ => nI 0))), (q2, .inl (ca1, 8, .inl (fun _ => nI 0))), (q3, .inl (ca1, 8, .inl (fun _ => nI 0))), (q4, .inl (ca1, 8, .inl (fun _ => nI 0))), (q5, .inl (ca1, 8, .inl (fun _ => nI 0))), (q6, .inl (ca1, 8, .inl (fun _ => nI 0))), (q7, .inl (ca1, 8, .inl (fun _ => nI 0)))] := hD
  refine va_putF (D := D) (ci := 1) (v := .ref q7) (ty := .array .int) (C := RX1) (T := TX1) (N := 7) hx hb hts hinX1 tyX1 tyX1_ok nmX1 hown hK hP hD hS 0 rfl rfl 6 (by decide) (hts (.fieldLink RX1 30 "AuditoriumKeys$Holds" "lapse" "[I") (List.mem_of_getElem? (i := 11) rfl)) (fun _ h9 => h9) rfl hin rfl (by decide +kernel) rfl rfl (Nat.le_of_ble_eq_true rfl) dX1_init_57 (fun H locs hP hD hS => ?_)
  have hP : va_P D vwCl [(h0, .inr (1, [.ref q1, .ref q2, .ref q3, .ref q4, .ref q5, .ref q6, .ref q7])), (q1, .inl (ca1, 8, .inl (fun _ => nI 0))), (q2, .inl (ca1, 8, .inl (fun _ => nI 0))), (q3, .inl (ca1, 8, .inl (fun _ => nI 0))), (q4, .inl (ca1, 8, .inl (fun _ => nI 0))), (q5, .inl (ca1, 8, .inl (fun _ => nI 0))), (q6, .inl (ca1, 8, .inl (fun _ => nI 0))), (q7, .inl (ca1, 8, .inl (fun _ => nI 0)))] _ := hP
  have hD : va_D A [(h0, .inr (1, [.ref q1, .ref q2, .ref q3, .ref q4, .ref q5, .ref q6, .ref q7])), (q1, .inl (ca1, 8, .inl (fun _ => nI 0))), (q2, .inl (ca1, 8, .inl (fun _ => nI 0))), (q3, .inl (ca1, 8, .inl (fun _ => nI 0))), (q4, .inl (ca1, 8, .inl (fun _ => nI 0))), (q5, .inl (ca1, 8, .inl (fun _ => nI 0))), (q6, .inl (ca1, 8, .inl (fun _ => nI 0))), (q7, .inl (ca1, 8, .inl (fun _ => nI 0)))] := hD
  have hP9 : va_P D vwCl (kwH (zad [0, 0, 0, 0, 0, 0, 0, 0, h0, q1, q2, q3, q4, q5, q6, q7]) ca1 k0) _ := hP
  have hD9 : va_D A (kwH (zad [0, 0, 0, 0, 0, 0, 0, 0, h0, q1, q2, q3, q4, q5, q6, q7]) ca1 k0) := hD
  have hK9 := hK.sub (tys' := [(ca1, .int)]) [0] rfl
  exact W.vret hx hb hr (fun t ht hW => ⟨⟨((zad [0, 0, 0, 0, 0, 0, 0, 0, h0, q1, q2, q3, q4, q5, q6, q7]), ca1), rfl, rfl, by rw [ht]; exact hP9, va_K.moved hW.alike hK9, hD9⟩, hS.F ht⟩) hS.2.2 dX1_init_60
set_option maxHeartbeats 4000000 in
set_option maxRecDepth 100000 in
theorem kX3_init (l : Launch) (D : va_G) (h0 sz : Nat) : Met l yX3_init wsX3_init ({ frames := 1, cells := 3, slots := 510, locals := 12 }) (va_Pc [.ref h0] (zPr D [] [(h0, .inr (3, [.int (nI 0), .null, .null, .null]))] sz)) (va_Qv (fun u : (Nat → Nat) × ClassId => u.1 22 = h0) (fun u => zPo D [(u.2, .int)] (va_A [(h0, .inr (3, [.int (nI 0), .null, .null, .null]))] sz) (kwT u.1 u.2 k0)) (va_A [(h0, .inr (3, [.int (nI 0), .null, .null, .null]))] sz)) 3 510 (va_A [(h0, .inr (3, [.int (nI 0), .null, .null, .null]))] sz) := by
  refine Met.ofW (cc := cX3_init) (maxL := 1) (ret := none) (by decide) rfl ?_
  intro pP e s m args below meth c s₁ B hml hv
  obtain ⟨rfl, hsz, hP, hK, hD0⟩ := hv
  have hx := B.exec
  have hb := B.bytes
  have hr := B.returns
  have hts := atoms_spec (ws := wsX3_init) B.pre
  have hown : s.vm.findClass RX3 = some m.cls := findClass_of_methodNamed B.named
  have hlocks := B.notSynchronized
  have hin : meth.name = "<init>" := (name_of_methodNamed B.named B.method).1
  subst hsz
  have hD := hD0.self (sz := s.heap.size)
  generalize hAe : va_A [(h0, .inr (3, [.int (nI 0), .null, .null, .null]))] s.heap.size = A at hD ⊢
  have hA : ∀ q : Nat, s.heap.size ≤ q → A q := fun q h => by rw [← hAe]; exact Or.inr h
  have hS : va_S A s.heap s.heap [] := va_S.rf
  have hinX3 : ∀ w ∈ u_ws RX3 TX3 4, w ∈ wsX3_init := by decide +kernel
  have hl := lv_entry ([.ref h0]) (n := 1) (Nat.le_of_ble_eq_true rfl)
  rw [lg_entry_eq]
  generalize (lg_sl ([.ref h0]) ++ List.replicate (1 - (lg_sl ([.ref h0])).length) Slot.unset).toArray = ls at hl ⊢
  have hl : lv_has ls 1 [(0, .ref h0)] := hl
  refine lv_aload_n hx hb dX3_init_0 rfl (lv_at hl 0 rfl) ?_
  refine W.objInit hx hb hown (hts (.methodLink RX3 3 objectInit) (List.mem_of_getElem? (i := 1) rfl)) (hts (.instanceMethod objectInit) (List.mem_of_getElem? (i := 2) rfl)) (hts (.code objectInit ⟨#[0xb1]⟩ 1 none) (List.mem_of_getElem? (i := 3) rfl)) rfl (by rw [hml]; exact hl.1) rfl dX3_init_1 (Nat.le_of_ble_eq_true rfl) (Nat.le_of_ble_eq_true rfl) ?_
  refine W.eq (g2 := F0 m 4 ls []) rfl ?_
  refine lv_aload_n hx hb dX3_init_4 rfl (lv_at hl 0 rfl) ?_
  refine lv_iconst (v := nI 0) hx hb dX3_init_5 (by decide) ?_
  refine va_put (D := D) (ci := 3) (v := .int (nI 0)) (ty := .int) (C := RX3) (T := TX3) (N := 4) hx hb hts hinX3 tyX3 tyX3_ok nmX3 hown hK hP hD hS 0 rfl rfl 0 (by decide) (hts (.fieldLink RX3 9 "AuditoriumKeys$Sales" "count" "I") (List.mem_of_getElem? (i := 4) rfl)) (fun _ h9 => h9) rfl (by decide +kernel) rfl rfl (Nat.le_of_ble_eq_true rfl) dX3_init_6 (fun H locs hP hD hS => ?_)
  have hP : va_P D vwCl [(h0, .inr (3, [.int (nI 0), .null, .null, .null]))] _ := hP
  have hD : va_D A [(h0, .inr (3, [.int (nI 0), .null, .null, .null]))] := hD
  refine lv_aload_n hx hb dX3_init_9 rfl (lv_at hl 0 rfl) ?_
  refine lv_sipush (v := nI 170) hx hb dX3_init_10 (by decide) ?_
  refine va_newa (atype := .int) (a0 := (170, .inl (fun _ => nI 0))) (N' := 170) hx hb (hts (.arrayClass .int) (List.mem_of_getElem? (i := 5) rfl)) rfl hK hP hD hS hA (fun _ => rfl) (by decide) (nI_clamp (by decide)) (by decide) (Nat.le_of_ble_eq_true rfl) (Nat.le_of_ble_eq_true rfl) dX3_init_13 (fun q1 ca1 H hK hP hD hS => ?_)
  refine W.widen (k := 1) (n := 170) (Nat.le_of_ble_eq_true rfl) (Nat.le_of_ble_eq_true rfl) ?_
  have hK : va_K D vwCl [(ca1, .int)] s := hK
  have hP : va_P D vwCl [(h0, .inr (3, [.int (nI 0), .null, .null, .null])), (q1, .inl (ca1, 170, .inl (fun _ => nI 0)))] _ := hP
  have hD : va_D A [(h0, .inr (3, [.int (nI 0), .null, .null, .null])), (q1, .inl (ca1, 170, .inl (fun _ => nI 0)))] := hD
  refine va_putF (D := D) (ci := 3) (v := .ref q1) (ty := .array .int) (C := RX3) (T := TX3) (N := 4) hx hb hts hinX3 tyX3 tyX3_ok nmX3 hown hK hP hD hS 0 rfl rfl 1 (by decide) (hts (.fieldLink RX3 15 "AuditoriumKeys$Sales" "first" "[I") (List.mem_of_getElem? (i := 6) rfl)) (fun _ h9 => h9) rfl hin rfl (by decide +kernel) rfl rfl (Nat.le_of_ble_eq_true rfl) dX3_init_15 (fun H locs hP hD hS => ?_)
  have hP : va_P D vwCl [(h0, .inr (3, [.int (nI 0), .ref q1, .null, .null])), (q1, .inl (ca1, 170, .inl (fun _ => nI 0)))] _ := hP
  have hD : va_D A [(h0, .inr (3, [.int (nI 0), .ref q1, .null, .null])), (q1, .inl (ca1, 170, .inl (fun _ => nI 0)))] := hD
  refine lv_aload_n hx hb dX3_init_18 rfl (lv_at hl 0 rfl) ?_
  refine lv_sipush (v := nI 170) hx hb dX3_init_19 (by decide) ?_
  refine va_newa (atype := .int) (a0 := (170, .inl (fun _ => nI 0))) (N' := 170) hx hb (hts (.arrayClass .int) (List.mem_of_getElem? (i := 5) rfl)) rfl hK hP hD hS hA (fun _ => rfl) (by decide) (nI_clamp (by decide)) (by decide) (Nat.le_of_ble_eq_true rfl) (Nat.le_of_ble_eq_true rfl) dX3_init_22 (fun q2 ca2 H hK hP hD hS => ?_)
  refine W.widen (k := 2) (n := 340) (Nat.le_of_ble_eq_true rfl) (Nat.le_of_ble_eq_true rfl) ?_
  have hK : va_K D vwCl [(ca1, .int), (ca2, .int)] s := hK
  have ec : ca2 = ca1 := zcI hK (i := 1) (j := 0) rfl rfl
  subst ca2
  have hK := hK.sub (tys' := [(ca1, .int)]) [0] rfl
  have hP : va_P D vwCl [(h0, .inr (3, [.int (nI 0), .ref q1, .null, .null])), (q1, .inl (ca1, 170, .inl (fun _ => nI 0))), (q2, .inl (ca1, 170, .inl (fun _ => nI 0)))] _ := hP
  have hD : va_D A [(h0, .inr (3, [.int (nI 0), .ref q1, .null, .null])), (q1, .inl (ca1, 170, .inl (fun _ => nI 0))), (q2, .inl (ca1, 170, .inl (fun _ => nI 0)))] := hD
  refine va_putF (D := D) (ci := 3) (v := .ref q2) (ty := .array .int) (C := RX3) (T := TX3) (N := 4) hx hb hts hinX3 tyX3 tyX3_ok nmX3 hown hK hP hD hS 0 rfl rfl 2 (by decide) (hts (.fieldLink RX3 19 "AuditoriumKeys$Sales" "many" "[I") (List.mem_of_getElem? (i := 7) rfl)) (fun _ h9 => h9) rfl hin rfl (by decide +kernel) rfl rfl (Nat.le_of_ble_eq_true rfl) dX3_init_24 (fun H locs hP hD hS => ?_)
  have hP : va_P D vwCl [(h0, .inr (3, [.int (nI 0), .ref q1, .ref q2, .null])), (q1, .inl (ca1, 170, .inl (fun _ => nI 0))), (q2, .inl (ca1, 170, .inl (fun _ => nI 0)))] _ := hP
  have hD : va_D A [(h0, .inr (3, [.int (nI 0), .ref q1, .ref q2, .null])), (q1, .inl (ca1, 170, .inl (fun _ => nI 0))), (q2, .inl (ca1, 170, .inl (fun _ => nI 0)))] := hD
  refine lv_aload_n hx hb dX3_init_27 rfl (lv_at hl 0 rfl) ?_
  refine lv_sipush (v := nI 170) hx hb dX3_init_28 (by decide) ?_
  refine va_newa (atype := .int) (a0 := (170, .inl (fun _ => nI 0))) (N' := 170) hx hb (hts (.arrayClass .int) (List.mem_of_getElem? (i := 5) rfl)) rfl hK hP hD hS hA (fun _ => rfl) (by decide) (nI_clamp (by decide)) (by decide) (Nat.le_of_ble_eq_true rfl) (Nat.le_of_ble_eq_true rfl) dX3_init_31 (fun q3 ca3 H hK hP hD hS => ?_)
  refine W.widen (k := 3) (n := 510) (Nat.le_of_ble_eq_true rfl) (Nat.le_of_ble_eq_true rfl) ?_
  have hK : va_K D vwCl [(ca1, .int), (ca3, .int)] s := hK
  have ec : ca3 = ca1 := zcI hK (i := 1) (j := 0) rfl rfl
  subst ca3
  have hK := hK.sub (tys' := [(ca1, .int)]) [0] rfl
  have hP : va_P D vwCl [(h0, .inr (3, [.int (nI 0), .ref q1, .ref q2, .null])), (q1, .inl (ca1, 170, .inl (fun _ => nI 0))), (q2, .inl (ca1, 170, .inl (fun _ => nI 0))), (q3, .inl (ca1, 170, .inl (fun _ => nI 0)))] _ := hP
  have hD : va_D A [(h0, .inr (3, [.int (nI 0), .ref q1, .ref q2, .null])), (q1, .inl (ca1, 170, .inl (fun _ => nI 0))), (q2, .inl (ca1, 170, .inl (fun _ => nI 0))), (q3, .inl (ca1, 170, .inl (fun _ => nI 0)))] := hD
  refine va_putF (D := D) (ci := 3) (v := .ref q3) (ty := .array .int) (C := RX3) (T := TX3) (N := 4) hx hb hts hinX3 tyX3 tyX3_ok nmX3 hown hK hP hD hS 0 rfl rfl 3 (by decide) (hts (.fieldLink RX3 22 "AuditoriumKeys$Sales" "buyer" "[I") (List.mem_of_getElem? (i := 8) rfl)) (fun _ h9 => h9) rfl hin rfl (by decide +kernel) rfl rfl (Nat.le_of_ble_eq_true rfl) dX3_init_33 (fun H locs hP hD hS => ?_)
  have hP : va_P D vwCl [(h0, .inr (3, [.int (nI 0), .ref q1, .ref q2, .ref q3])), (q1, .inl (ca1, 170, .inl (fun _ => nI 0))), (q2, .inl (ca1, 170, .inl (fun _ => nI 0))), (q3, .inl (ca1, 170, .inl (fun _ => nI 0)))] _ := hP
  have hD : va_D A [(h0, .inr (3, [.int (nI 0), .ref q1, .ref q2, .ref q3])), (q1, .inl (ca1, 170, .inl (fun _ => nI 0))), (q2, .inl (ca1, 170, .inl (fun _ => nI 0))), (q3, .inl (ca1, 170, .inl (fun _ => nI 0)))] := hD
  have hP9 : va_P D vwCl (kwT (zad [0, 0, 0, 0, 0, 0, 0, 0, 0, 0, 0, 0, 0, 0, 0, 0, 0, 0, 0, 0, 0, 0, h0, q1, q2, q3]) ca1 k0) _ := hP
  have hD9 : va_D A (kwT (zad [0, 0, 0, 0, 0, 0, 0, 0, 0, 0, 0, 0, 0, 0, 0, 0, 0, 0, 0, 0, 0, 0, h0, q1, q2, q3]) ca1 k0) := hD
  have hK9 := hK.sub (tys' := [(ca1, .int)]) [0] rfl
  exact W.vret hx hb hr (fun t ht hW => ⟨⟨((zad [0, 0, 0, 0, 0, 0, 0, 0, 0, 0, 0, 0, 0, 0, 0, 0, 0, 0, 0, 0, 0, 0, h0, q1, q2, q3]), ca1), rfl, rfl, by rw [ht]; exact hP9, va_K.moved hW.alike hK9, hD9⟩, hS.F ht⟩) hS.2.2 dX3_init_36
set_option maxHeartbeats 4000000 in
set_option maxRecDepth 100000 in
theorem kX2_init (l : Launch) (D : va_G) (h0 sz : Nat) : Met l yX2_init wsX2_init ({ frames := 1, cells := 1, slots := 8, locals := 12 }) (va_Pc [.ref h0] (zPr D [] [(h0, .inr (2, [.null]))] sz)) (va_Qv (fun u : (Nat → Nat) × ClassId => u.1 6 = h0) (fun u => zPo D [(u.2, .int)] (va_A [(h0, .inr (2, [.null]))] sz) (kwL u.1 u.2 (kIL 8))) (va_A [(h0, .inr (2, [.null]))] sz)) 1 8 (va_A [(h0, .inr (2, [.null]))] sz) := by
  refine Met.ofW (cc := cX2_init) (maxL := 2) (ret := none) (by decide) rfl ?_
  intro pP e s m args below meth c s₁ B hml hv
  obtain ⟨rfl, hsz, hP, hK, hD0⟩ := hv
  have hx := B.exec
  have hb := B.bytes
  have hr := B.returns
  have hts := atoms_spec (ws := wsX2_init) B.pre
  have hown : s.vm.findClass RX2 = some m.cls := findClass_of_methodNamed B.named
  have hlocks := B.notSynchronized
  have hin : meth.name = "<init>" := (name_of_methodNamed B.named B.method).1
  subst hsz
  have hD := hD0.self (sz := s.heap.size)
  generalize hAe : va_A [(h0, .inr (2, [.null]))] s.heap.size = A at hD ⊢
  have hA : ∀ q : Nat, s.heap.size ≤ q → A q := fun q h => by rw [← hAe]; exact Or.inr h
  have hS : va_S A s.heap s.heap [] := va_S.rf
  have hinX2 : ∀ w ∈ u_ws RX2 TX2 1, w ∈ wsX2_init := by decide +kernel
  have hl := lv_entry ([.ref h0]) (n := 2) (Nat.le_of_ble_eq_true rfl)
  rw [lg_entry_eq]
  generalize (lg_sl ([.ref h0]) ++ List.replicate (2 - (lg_sl ([.ref h0])).length) Slot.unset).toArray = ls at hl ⊢
  have hl : lv_has ls 2 [(0, .ref h0)] := hl
  refine lv_aload_n hx hb dX2_init_0 rfl (lv_at hl 0 rfl) ?_
  refine W.objInit hx hb hown (hts (.methodLink RX2 3 objectInit) (List.mem_of_getElem? (i := 1) rfl)) (hts (.instanceMethod objectInit) (List.mem_of_getElem? (i := 2) rfl)) (hts (.code objectInit ⟨#[0xb1]⟩ 1 none) (List.mem_of_getElem? (i := 3) rfl)) rfl (by rw [hml]; exact hl.1) rfl dX2_init_1 (Nat.le_of_ble_eq_true rfl) (Nat.le_of_ble_eq_true rfl) ?_
  refine W.eq (g2 := F0 m 4 ls []) rfl ?_
  refine lv_aload_n hx hb dX2_init_4 rfl (lv_at hl 0 rfl) ?_
  refine lv_bipush (v := nI 8) hx hb dX2_init_5 (by decide) ?_
  refine va_newa (atype := .int) (a0 := (8, .inl (fun _ => nI 0))) (N' := 8) hx hb (hts (.arrayClass .int) (List.mem_of_getElem? (i := 4) rfl)) rfl hK hP hD hS hA (fun _ => rfl) (by decide) (nI_clamp (by decide)) (by decide) (Nat.le_of_ble_eq_true rfl) (Nat.le_of_ble_eq_true rfl) dX2_init_7 (fun q1 ca1 H hK hP hD hS => ?_)
  refine W.widen (k := 1) (n := 8) (Nat.le_of_ble_eq_true rfl) (Nat.le_of_ble_eq_true rfl) ?_
  have hK : va_K D vwCl [(ca1, .int)] s := hK
  have hP : va_P D vwCl [(h0, .inr (2, [.null])), (q1, .inl (ca1, 8, .inl (fun _ => nI 0)))] _ := hP
  have hD : va_D A [(h0, .inr (2, [.null])), (q1, .inl (ca1, 8, .inl (fun _ => nI 0)))] := hD
  refine va_putF (D := D) (ci := 2) (v := .ref q1) (ty := .array .int) (C := RX2) (T := TX2) (N := 1) hx hb hts hinX2 tyX2 tyX2_ok nmX2 hown hK hP hD hS 0 rfl rfl 0 (by decide) (hts (.fieldLink RX2 9 "AuditoriumKeys$Line" "came" "[I") (List.mem_of_getElem? (i := 5) rfl)) (fun _ h9 => h9) rfl hin rfl (by decide +kernel) rfl rfl (Nat.le_of_ble_eq_true rfl) dX2_init_9 (fun H locs hP hD hS => ?_)
  have hP : va_P D vwCl [(h0, .inr (2, [.ref q1])), (q1, .inl (ca1, 8, .inl (fun _ => nI 0)))] _ := hP
  have hD : va_D A [(h0, .inr (2, [.ref q1])), (q1, .inl (ca1, 8, .inl (fun _ => nI 0)))] := hD
  have hP : va_P D vwCl (kwL (zad [0, 0, 0, 0, 0, 0, h0, q1]) ca1 k0) _ := hP.sub (ws' := (kwL (zad [0, 0, 0, 0, 0, 0, h0, q1]) ca1 k0)) [0, 1] rfl
  have hD : va_D A (kwL (zad [0, 0, 0, 0, 0, 0, h0, q1]) ca1 k0) := hD.sub (ws' := (kwL (zad [0, 0, 0, 0, 0, 0, h0, q1]) ca1 k0)) [0, 1] (by decide) rfl
  have hK := hK.sub (tys' := [(ca1, .int)]) [0] rfl
  refine lv_iconst (v := nI 0) hx hb dX2_init_12 (by decide) ?_
  refine lv_istore_n (lv' := [(1, .int (nI 0)), (0, .ref h0)]) hx hb dX2_init_13 rfl hl (by decide) rfl (fun ls hl => ?_)
  have lp_a : ∀ (n i : Nat), 0 ≤ i → i ≤ 8 → 8 - i < n → ∀ (H : Heap) (locs : List Loc), va_P D vwCl (kwL (zad [0, 0, 0, 0, 0, 0, h0, q1]) ca1 (setA k0 7 (zini (fun _ => (-1)) i))) H → va_D A (kwL (zad [0, 0, 0, 0, 0, 0, h0, q1]) ca1 (setA k0 7 (zini (fun _ => (-1)) i))) → va_S A s.heap H locs → ∀ ls : Array Slot, lv_has ls 2 [(1, .int (nI i)), (0, .ref h0)] → W pP l e ({ frames := 1, cells := 1, slots := 8, locals := 12 } : Room) s m ([.ref h0] : List Value).toArray below meth c H locs 1 8 (MQ below (va_Qv (fun u : (Nat → Nat) × ClassId => u.1 6 = h0) (fun u => zPo D [(u.2, .int)] A (kwL u.1 u.2 (kIL 8))) A) ([.ref h0] : List Value).toArray s 1 8 A) (F0 m 14 ls []) := by
    intro n
    induction n with
    | zero => intro i _ _ h; exact absurd h (Nat.not_lt_zero _)
    | succ n ih_a =>
      intro i hlo_a hin_a hdn_a  H locs hP hD hS ls hl
      refine lv_iload_n hx hb dX2_init_14 rfl (lv_at hl 0 rfl) ?_
      refine lv_bipush (v := nI 8) hx hb dX2_init_15 (by decide) ?_
      refine lv_icmp_ge (tgt := 33) hx hb dX2_init_17 (by decide) (fun c_1 => ?_) (fun c_1 => ?_)
      · skip
        have c_1 := (nI_leI (a := 8) (b := i) (by omega) (by omega)).mp c_1
        have hi8 : i = 8 := by omega
        subst hi8
        exact W.vret hx hb hr (fun t ht hW => ⟨⟨((zad [0, 0, 0, 0, 0, 0, h0, q1]), ca1), rfl, rfl, by rw [ht]; exact hP, va_K.moved hW.alike hK, hD⟩, hS.F ht⟩) hS.2.2 dX2_init_33
      · skip
        have c_1 : ¬ 8 ≤ i := fun h => c_1 ((nI_leI (a := 8) (b := i) (by omega) (by omega)).mpr h)
        refine lv_aload_n hx hb dX2_init_20 rfl (lv_at hl 1 rfl) ?_
        refine va_get (D := D) (ci := 2) (v := .ref ((zad [0, 0, 0, 0, 0, 0, h0, q1]) 7)) (C := RX2) (T := TX2) (N := 1) hx hb hts hinX2 hown hK hP 0 rfl rfl 0 (by decide) (hts (.fieldLink RX2 9 "AuditoriumKeys$Line" "came" "[I") (List.mem_of_getElem? (i := 5) rfl)) (fun _ h9 => h9) rfl dX2_init_21 ?_
        refine lv_iload_n hx hb dX2_init_24 rfl (lv_at hl 0 rfl) ?_
        refine lv_iconst (v := (-1)) hx hb dX2_init_25 (by decide) ?_
        refine zz_iast hx hb hK hP hD hS 1 0 rfl rfl i (by omega) (by decide) dX2_init_26 (fun H locs hP hD hS => ?_)
        have hP : va_P D vwCl (kwL (zad [0, 0, 0, 0, 0, 0, h0, q1]) ca1 (setA k0 7 (upd (zini (fun _ => (-1)) i) i (-1)))) _ := hP
        have hD : va_D A (kwL (zad [0, 0, 0, 0, 0, 0, h0, q1]) ca1 (setA k0 7 (upd (zini (fun _ => (-1)) i) i (-1)))) := hD
        refine lv_iinc (v := nI (i + 1)) (lv' := [(1, .int (nI (i + 1))), (0, .ref h0)]) hx hb dX2_init_27 hl (k := 0) rfl ((show nI i + Int32.ofInt 1 = nI i + nI 1 from rfl).trans (nI_add _ _)) (by decide) rfl (fun ls hl => ?_)
        refine lv_goto (tgt := 14) hx hb dX2_init_30 (by decide) ?_
        have eK_2 : (setA k0 7 (zini (fun _ => (-1)) (i + 1))) = (setA k0 7 (upd (zini (fun _ => (-1)) i) i (-1))) := (by rw [← zini_s] <;> rfl)
        exact ih_a (i + 1) (by omega) (by omega) (by omega)  _ _ (by rw [eK_2]; exact hP) (by rw [eK_2]; exact hD) hS ls (lv_sub hl [0, 1] rfl)
  have eK_a : (setA k0 7 (zini (fun _ => (-1)) 0)) = k0 := kIL_0
  exact lp_a (8 - 0 + 1) 0 (by omega) (by omega) (by omega)  _ _ (by rw [eK_a]; exact hP) (by rw [eK_a]; exact hD) hS ls (lv_sub hl [0, 1] rfl)
set_option maxHeartbeats 4000000 in
set_option maxRecDepth 100000 in
theorem kX4_init (l : Launch) (D : va_G) (h0 sz : Nat) : Met l yX4_init wsX4_init ({ frames := 1, cells := 5, slots := 300, locals := 12 }) (va_Pc [.ref h0] (zPr D [] [(h0, .inr (4, [.null, .null, .null, .null, .null]))] sz)) (va_Qv (fun u : (Nat → Nat) × ClassId × ClassId => u.1 16 = h0) (fun u => zPo D [(u.2.1, .int), (u.2.2, .boolean)] (va_A [(h0, .inr (4, [.null, .null, .null, .null, .null]))] sz) (kwS u.1 u.2.1 u.2.2 (kIS 60))) (va_A [(h0, .inr (4, [.null, .null, .null, .null, .null]))] sz)) 5 300 (va_A [(h0, .inr (4, [.null, .null, .null, .null, .null]))] sz) := by
  refine Met.ofW (cc := cX4_init) (maxL := 2) (ret := none) (by decide) rfl ?_
  intro pP e s m args below meth c s₁ B hml hv
  obtain ⟨rfl, hsz, hP, hK, hD0⟩ := hv
  have hx := B.exec
  have hb := B.bytes
  have hr := B.returns
  have hts := atoms_spec (ws := wsX4_init) B.pre
  have hown : s.vm.findClass RX4 = some m.cls := findClass_of_methodNamed B.named
  have hlocks := B.notSynchronized
  have hin : meth.name = "<init>" := (name_of_methodNamed B.named B.method).1
  subst hsz
  have hD := hD0.self (sz := s.heap.size)
  generalize hAe : va_A [(h0, .inr (4, [.null, .null, .null, .null, .null]))] s.heap.size = A at hD ⊢
  have hA : ∀ q : Nat, s.heap.size ≤ q → A q := fun q h => by rw [← hAe]; exact Or.inr h
  have hS : va_S A s.heap s.heap [] := va_S.rf
  have hinX4 : ∀ w ∈ u_ws RX4 TX4 5, w ∈ wsX4_init := by decide +kernel
  have hl := lv_entry ([.ref h0]) (n := 2) (Nat.le_of_ble_eq_true rfl)
  rw [lg_entry_eq]
  generalize (lg_sl ([.ref h0]) ++ List.replicate (2 - (lg_sl ([.ref h0])).length) Slot.unset).toArray = ls at hl ⊢
  have hl : lv_has ls 2 [(0, .ref h0)] := hl
  refine lv_aload_n hx hb dX4_init_0 rfl (lv_at hl 0 rfl) ?_
  refine W.objInit hx hb hown (hts (.methodLink RX4 3 objectInit) (List.mem_of_getElem? (i := 1) rfl)) (hts (.instanceMethod objectInit) (List.mem_of_getElem? (i := 2) rfl)) (hts (.code objectInit ⟨#[0xb1]⟩ 1 none) (List.mem_of_getElem? (i := 3) rfl)) rfl (by rw [hml]; exact hl.1) rfl dX4_init_1 (Nat.le_of_ble_eq_true rfl) (Nat.le_of_ble_eq_true rfl) ?_
  refine W.eq (g2 := F0 m 4 ls []) rfl ?_
  refine lv_aload_n hx hb dX4_init_4 rfl (lv_at hl 0 rfl) ?_
  refine lv_bipush (v := nI 60) hx hb dX4_init_5 (by decide) ?_
  refine va_newa (atype := .boolean) (a0 := (60, .inl (fun _ => nI 0))) (N' := 60) hx hb (hts (.arrayClass .boolean) (List.mem_of_getElem? (i := 4) rfl)) rfl hK hP hD hS hA (fun _ => rfl) (by decide) (nI_clamp (by decide)) (by decide) (Nat.le_of_ble_eq_true rfl) (Nat.le_of_ble_eq_true rfl) dX4_init_7 (fun q1 ca1 H hK hP hD hS => ?_)
  refine W.widen (k := 1) (n := 60) (Nat.le_of_ble_eq_true rfl) (Nat.le_of_ble_eq_true rfl) ?_
  have hK : va_K D vwCl [(ca1, .boolean)] s := hK
  have hP : va_P D vwCl [(h0, .inr (4, [.null, .null, .null, .null, .null])), (q1, .inl (ca1, 60, .inl (fun _ => nI 0)))] _ := hP
  have hD : va_D A [(h0, .inr (4, [.null, .null, .null, .null, .null])), (q1, .inl (ca1, 60, .inl (fun _ => nI 0)))] := hD
  refine va_putF (D := D) (ci := 4) (v := .ref q1) (ty := .array .boolean) (C := RX4) (T := TX4) (N := 5) hx hb hts hinX4 tyX4 tyX4_ok nmX4 hown hK hP hD hS 0 rfl rfl 0 (by decide) (hts (.fieldLink RX4 9 "AuditoriumKeys$Seats" "held" "[Z") (List.mem_of_getElem? (i := 5) rfl)) (fun _ h9 => h9) rfl hin rfl (by decide +kernel) rfl rfl (Nat.le_of_ble_eq_true rfl) dX4_init_9 (fun H locs hP hD hS => ?_)
  have hP : va_P D vwCl [(h0, .inr (4, [.ref q1, .null, .null, .null, .null])), (q1, .inl (ca1, 60, .inl (fun _ => nI 0)))] _ := hP
  have hD : va_D A [(h0, .inr (4, [.ref q1, .null, .null, .null, .null])), (q1, .inl (ca1, 60, .inl (fun _ => nI 0)))] := hD
  refine lv_aload_n hx hb dX4_init_12 rfl (lv_at hl 0 rfl) ?_
  refine lv_bipush (v := nI 60) hx hb dX4_init_13 (by decide) ?_
  refine va_newa (atype := .boolean) (a0 := (60, .inl (fun _ => nI 0))) (N' := 60) hx hb (hts (.arrayClass .boolean) (List.mem_of_getElem? (i := 4) rfl)) rfl hK hP hD hS hA (fun _ => rfl) (by decide) (nI_clamp (by decide)) (by decide) (Nat.le_of_ble_eq_true rfl) (Nat.le_of_ble_eq_true rfl) dX4_init_15 (fun q2 ca2 H hK hP hD hS => ?_)
  refine W.widen (k := 2) (n := 120) (Nat.le_of_ble_eq_true rfl) (Nat.le_of_ble_eq_true rfl) ?_
  have hK : va_K D vwCl [(ca1, .boolean), (ca2, .boolean)] s := hK
  have ec : ca2 = ca1 := zcZ hK (i := 1) (j := 0) rfl rfl
  subst ca2
  have hK := hK.sub (tys' := [(ca1, .boolean)]) [0] rfl
  have hP : va_P D vwCl [(h0, .inr (4, [.ref q1, .null, .null, .null, .null])), (q1, .inl (ca1, 60, .inl (fun _ => nI 0))), (q2, .inl (ca1, 60, .inl (fun _ => nI 0)))] _ := hP
  have hD : va_D A [(h0, .inr (4, [.ref q1, .null, .null, .null, .null])), (q1, .inl (ca1, 60, .inl (fun _ => nI 0))), (q2, .inl (ca1, 60, .inl (fun _ => nI 0)))] := hD
  refine va_putF (D := D) (ci := 4) (v := .ref q2) (ty := .array .boolean) (C := RX4) (T := TX4) (N := 5) hx hb hts hinX4 tyX4 tyX4_ok nmX4 hown hK hP hD hS 0 rfl rfl 1 (by decide) (hts (.fieldLink RX4 15 "AuditoriumKeys$Seats" "offered" "[Z") (List.mem_of_getElem? (i := 6) rfl)) (fun _ h9 => h9) rfl hin rfl (by decide +kernel) rfl rfl (Nat.le_of_ble_eq_true rfl) dX4_init_17 (fun H locs hP hD hS => ?_)
  have hP : va_P D vwCl [(h0, .inr (4, [.ref q1, .ref q2, .null, .null, .null])), (q1, .inl (ca1, 60, .inl (fun _ => nI 0))), (q2, .inl (ca1, 60, .inl (fun _ => nI 0)))] _ := hP
  have hD : va_D A [(h0, .inr (4, [.ref q1, .ref q2, .null, .null, .null])), (q1, .inl (ca1, 60, .inl (fun _ => nI 0))), (q2, .inl (ca1, 60, .inl (fun _ => nI 0)))] := hD
  refine lv_aload_n hx hb dX4_init_20 rfl (lv_at hl 0 rfl) ?_
  refine lv_bipush (v := nI 60) hx hb dX4_init_21 (by decide) ?_
  refine va_newa (atype := .int) (a0 := (60, .inl (fun _ => nI 0))) (N' := 60) hx hb (hts (.arrayClass .int) (List.mem_of_getElem? (i := 7) rfl)) rfl hK hP hD hS hA (fun _ => rfl) (by decide) (nI_clamp (by decide)) (by decide) (Nat.le_of_ble_eq_true rfl) (Nat.le_of_ble_eq_true rfl) dX4_init_23 (fun q3 ca3 H hK hP hD hS => ?_)
  refine W.widen (k := 3) (n := 180) (Nat.le_of_ble_eq_true rfl) (Nat.le_of_ble_eq_true rfl) ?_
  have hK : va_K D vwCl [(ca1, .boolean), (ca3, .int)] s := hK
  have hP : va_P D vwCl [(h0, .inr (4, [.ref q1, .ref q2, .null, .null, .null])), (q1, .inl (ca1, 60, .inl (fun _ => nI 0))), (q2, .inl (ca1, 60, .inl (fun _ => nI 0))), (q3, .inl (ca3, 60, .inl (fun _ => nI 0)))] _ := hP
  have hD : va_D A [(h0, .inr (4, [.ref q1, .ref q2, .null, .null, .null])), (q1, .inl (ca1, 60, .inl (fun _ => nI 0))), (q2, .inl (ca1, 60, .inl (fun _ => nI 0))), (q3, .inl (ca3, 60, .inl (fun _ => nI 0)))] := hD
  refine va_putF (D := D) (ci := 4) (v := .ref q3) (ty := .array .int) (C := RX4) (T := TX4) (N := 5) hx hb hts hinX4 tyX4 tyX4_ok nmX4 hown hK hP hD hS 0 rfl rfl 2 (by decide) (hts (.fieldLink RX4 18 "AuditoriumKeys$Seats" "owner" "[I") (List.mem_of_getElem? (i := 8) rfl)) (fun _ h9 => h9) rfl hin rfl (by decide +kernel) rfl rfl (Nat.le_of_ble_eq_true rfl) dX4_init_25 (fun H locs hP hD hS => ?_)
  have hP : va_P D vwCl [(h0, .inr (4, [.ref q1, .ref q2, .ref q3, .null, .null])), (q1, .inl (ca1, 60, .inl (fun _ => nI 0))), (q2, .inl (ca1, 60, .inl (fun _ => nI 0))), (q3, .inl (ca3, 60, .inl (fun _ => nI 0)))] _ := hP
  have hD : va_D A [(h0, .inr (4, [.ref q1, .ref q2, .ref q3, .null, .null])), (q1, .inl (ca1, 60, .inl (fun _ => nI 0))), (q2, .inl (ca1, 60, .inl (fun _ => nI 0))), (q3, .inl (ca3, 60, .inl (fun _ => nI 0)))] := hD
  refine lv_aload_n hx hb dX4_init_28 rfl (lv_at hl 0 rfl) ?_
  refine lv_bipush (v := nI 60) hx hb dX4_init_29 (by decide) ?_
  refine va_newa (atype := .int) (a0 := (60, .inl (fun _ => nI 0))) (N' := 60) hx hb (hts (.arrayClass .int) (List.mem_of_getElem? (i := 7) rfl)) rfl hK hP hD hS hA (fun _ => rfl) (by decide) (nI_clamp (by decide)) (by decide) (Nat.le_of_ble_eq_true rfl) (Nat.le_of_ble_eq_true rfl) dX4_init_31 (fun q4 ca4 H hK hP hD hS => ?_)
  refine W.widen (k := 4) (n := 240) (Nat.le_of_ble_eq_true rfl) (Nat.le_of_ble_eq_true rfl) ?_
  have hK : va_K D vwCl [(ca1, .boolean), (ca3, .int), (ca4, .int)] s := hK
  have ec : ca4 = ca3 := zcI hK (i := 2) (j := 1) rfl rfl
  subst ca4
  have hK := hK.sub (tys' := [(ca1, .boolean), (ca3, .int)]) [0, 1] rfl
  have hP : va_P D vwCl [(h0, .inr (4, [.ref q1, .ref q2, .ref q3, .null, .null])), (q1, .inl (ca1, 60, .inl (fun _ => nI 0))), (q2, .inl (ca1, 60, .inl (fun _ => nI 0))), (q3, .inl (ca3, 60, .inl (fun _ => nI 0))), (q4, .inl (ca3, 60, .inl (fun _ => nI 0)))] _ := hP
  have hD : va_D A [(h0, .inr (4, [.ref q1, .ref q2, .ref q3, .null, .null])), (q1, .inl (ca1, 60, .inl (fun _ => nI 0))), (q2, .inl (ca1, 60, .inl (fun _ => nI 0))), (q3, .inl (ca3, 60, .inl (fun _ => nI 0))), (q4, .inl (ca3, 60, .inl (fun _ => nI 0)))] := hD
  refine va_putF (D := D) (ci := 4) (v := .ref q4) (ty := .array .int) (C := RX4) (T := TX4) (N := 5) hx hb hts hinX4 tyX4 tyX4_ok nmX4 hown hK hP hD hS 0 rfl rfl 3 (by decide) (hts (.fieldLink RX4 22 "AuditoriumKeys$Seats" "price" "[I") (List.mem_of_getElem? (i := 9) rfl)) (fun _ h9 => h9) rfl hin rfl (by decide +kernel) rfl rfl (Nat.le_of_ble_eq_true rfl) dX4_init_33 (fun H locs hP hD hS => ?_)
  have hP : va_P D vwCl [(h0, .inr (4, [.ref q1, .ref q2, .ref q3, .ref q4, .null])), (q1, .inl (ca1, 60, .inl (fun _ => nI 0))), (q2, .inl (ca1, 60, .inl (fun _ => nI 0))), (q3, .inl (ca3, 60, .inl (fun _ => nI 0))), (q4, .inl (ca3, 60, .inl (fun _ => nI 0)))] _ := hP
  have hD : va_D A [(h0, .inr (4, [.ref q1, .ref q2, .ref q3, .ref q4, .null])), (q1, .inl (ca1, 60, .inl (fun _ => nI 0))), (q2, .inl (ca1, 60, .inl (fun _ => nI 0))), (q3, .inl (ca3, 60, .inl (fun _ => nI 0))), (q4, .inl (ca3, 60, .inl (fun _ => nI 0)))] := hD
  refine lv_aload_n hx hb dX4_init_36 rfl (lv_at hl 0 rfl) ?_
  refine lv_bipush (v := nI 60) hx hb dX4_init_37 (by decide) ?_
  refine va_newa (atype := .int) (a0 := (60, .inl (fun _ => nI 0))) (N' := 60) hx hb (hts (.arrayClass .int) (List.mem_of_getElem? (i := 7) rfl)) rfl hK hP hD hS hA (fun _ => rfl) (by decide) (nI_clamp (by decide)) (by decide) (Nat.le_of_ble_eq_true rfl) (Nat.le_of_ble_eq_true rfl) dX4_init_39 (fun q5 ca5 H hK hP hD hS => ?_)
  refine W.widen (k := 5) (n := 300) (Nat.le_of_ble_eq_true rfl) (Nat.le_of_ble_eq_true rfl) ?_
  have hK : va_K D vwCl [(ca1, .boolean), (ca3, .int), (ca5, .int)] s := hK
  have ec : ca5 = ca3 := zcI hK (i := 2) (j := 1) rfl rfl
  subst ca5
  have hK := hK.sub (tys' := [(ca1, .boolean), (ca3, .int)]) [0, 1] rfl
  have hP : va_P D vwCl [(h0, .inr (4, [.ref q1, .ref q2, .ref q3, .ref q4, .null])), (q1, .inl (ca1, 60, .inl (fun _ => nI 0))), (q2, .inl (ca1, 60, .inl (fun _ => nI 0))), (q3, .inl (ca3, 60, .inl (fun _ => nI 0))), (q4, .inl (ca3, 60, .inl (fun _ => nI 0))), (q5, .inl (ca3, 60, .inl (fun _ => nI 0)))] _ := hP
  have hD : va_D A [(h0, .inr (4, [.ref q1, .ref q2, .ref q3, .ref q4, .null])), (q1, .inl (ca1, 60, .inl (fun _ => nI 0))), (q2, .inl (ca1, 60, .inl (fun _ => nI 0))), (q3, .inl (ca3, 60, .inl (fun _ => nI 0))), (q4, .inl (ca3, 60, .inl (fun _ => nI 0))), (q5, .inl (ca3, 60, .inl (fun _ => nI 0)))] := hD
  refine va_putF (D := D) (ci := 4) (v := .ref q5) (ty := .array .int) (C := RX4) (T := TX4) (N := 5) hx hb hts hinX4 tyX4 tyX4_ok nmX4 hown hK hP hD hS 0 rfl rfl 4 (by decide) (hts (.fieldLink RX4 25 "AuditoriumKeys$Seats" "bought" "[I") (List.mem_of_getElem? (i := 10) rfl)) (fun _ h9 => h9) rfl hin rfl (by decide +kernel) rfl rfl (Nat.le_of_ble_eq_true rfl) dX4_init_41 (fun H locs hP hD hS => ?_)
  have hP : va_P D vwCl [(h0, .inr (4, [.ref q1, .ref q2, .ref q3, .ref q4, .ref q5])), (q1, .inl (ca1, 60, .inl (fun _ => nI 0))), (q2, .inl (ca1, 60, .inl (fun _ => nI 0))), (q3, .inl (ca3, 60, .inl (fun _ => nI 0))), (q4, .inl (ca3, 60, .inl (fun _ => nI 0))), (q5, .inl (ca3, 60, .inl (fun _ => nI 0)))] _ := hP
  have hD : va_D A [(h0, .inr (4, [.ref q1, .ref q2, .ref q3, .ref q4, .ref q5])), (q1, .inl (ca1, 60, .inl (fun _ => nI 0))), (q2, .inl (ca1, 60, .inl (fun _ => nI 0))), (q3, .inl (ca3, 60, .inl (fun _ => nI 0))), (q4, .inl (ca3, 60, .inl (fun _ => nI 0))), (q5, .inl (ca3, 60, .inl (fun _ => nI 0)))] := hD
  have hP : va_P D vwCl (kwS (zad [0, 0, 0, 0, 0, 0, 0, 0, 0, 0, 0, 0, 0, 0, 0, 0, h0, q1, q2, q3, q4, q5]) ca3 ca1 k0) _ := hP.sub (ws' := (kwS (zad [0, 0, 0, 0, 0, 0, 0, 0, 0, 0, 0, 0, 0, 0, 0, 0, h0, q1, q2, q3, q4, q5]) ca3 ca1 k0)) [0, 1, 2, 3, 4, 5] rfl
  have hD : va_D A (kwS (zad [0, 0, 0, 0, 0, 0, 0, 0, 0, 0, 0, 0, 0, 0, 0, 0, h0, q1, q2, q3, q4, q5]) ca3 ca1 k0) := hD.sub (ws' := (kwS (zad [0, 0, 0, 0, 0, 0, 0, 0, 0, 0, 0, 0, 0, 0, 0, 0, h0, q1, q2, q3, q4, q5]) ca3 ca1 k0)) [0, 1, 2, 3, 4, 5] (by decide) rfl
  have hK := hK.sub (tys' := [(ca3, .int), (ca1, .boolean)]) [1, 0] rfl
  refine lv_iconst (v := nI 0) hx hb dX4_init_44 (by decide) ?_
  refine lv_istore_n (lv' := [(1, .int (nI 0)), (0, .ref h0)]) hx hb dX4_init_45 rfl hl (by decide) rfl (fun ls hl => ?_)
  have lp_a : ∀ (n i : Nat), 0 ≤ i → i ≤ 60 → 60 - i < n → ∀ (H : Heap) (locs : List Loc), va_P D vwCl (kwS (zad [0, 0, 0, 0, 0, 0, 0, 0, 0, 0, 0, 0, 0, 0, 0, 0, h0, q1, q2, q3, q4, q5]) ca3 ca1 (setA (setA k0 19 (zini (fun _ => (-1)) i)) 20 (zini (fun s => nI 100 - nI (10 * (s / 10))) i))) H → va_D A (kwS (zad [0, 0, 0, 0, 0, 0, 0, 0, 0, 0, 0, 0, 0, 0, 0, 0, h0, q1, q2, q3, q4, q5]) ca3 ca1 (setA (setA k0 19 (zini (fun _ => (-1)) i)) 20 (zini (fun s => nI 100 - nI (10 * (s / 10))) i))) → va_S A s.heap H locs → ∀ ls : Array Slot, lv_has ls 2 [(1, .int (nI i)), (0, .ref h0)] → W pP l e ({ frames := 1, cells := 5, slots := 300, locals := 12 } : Room) s m ([.ref h0] : List Value).toArray below meth c H locs 5 300 (MQ below (va_Qv (fun u : (Nat → Nat) × ClassId × ClassId => u.1 16 = h0) (fun u => zPo D [(u.2.1, .int), (u.2.2, .boolean)] A (kwS u.1 u.2.1 u.2.2 (kIS 60))) A) ([.ref h0] : List Value).toArray s 5 300 A) (F0 m 46 ls []) := by
    intro n
    induction n with
    | zero => intro i _ _ h; exact absurd h (Nat.not_lt_zero _)
    | succ n ih_a =>
      intro i hlo_a hin_a hdn_a  H locs hP hD hS ls hl
      refine lv_iload_n hx hb dX4_init_46 rfl (lv_at hl 0 rfl) ?_
      refine lv_bipush (v := nI 60) hx hb dX4_init_47 (by decide) ?_
      refine lv_icmp_ge (tgt := 81) hx hb dX4_init_49 (by decide) (fun c_1 => ?_) (fun c_1 => ?_)
      · skip
        have c_1 := (nI_leI (a := 60) (b := i) (by omega) (by omega)).mp c_1
        have hi8 : i = 60 := by omega
        subst hi8
        exact W.vret hx hb hr (fun t ht hW => ⟨⟨((zad [0, 0, 0, 0, 0, 0, 0, 0, 0, 0, 0, 0, 0, 0, 0, 0, h0, q1, q2, q3, q4, q5]), ca3, ca1), rfl, rfl, by rw [ht]; exact hP, va_K.moved hW.alike hK, hD⟩, hS.F ht⟩) hS.2.2 dX4_init_81
      · skip
        have c_1 : ¬ 60 ≤ i := fun h => c_1 ((nI_leI (a := 60) (b := i) (by omega) (by omega)).mpr h)
        refine lv_aload_n hx hb dX4_init_52 rfl (lv_at hl 1 rfl) ?_
        refine va_get (D := D) (ci := 4) (v := .ref ((zad [0, 0, 0, 0, 0, 0, 0, 0, 0, 0, 0, 0, 0, 0, 0, 0, h0, q1, q2, q3, q4, q5]) 19)) (C := RX4) (T := TX4) (N := 5) hx hb hts hinX4 hown hK hP 0 rfl rfl 2 (by decide) (hts (.fieldLink RX4 18 "AuditoriumKeys$Seats" "owner" "[I") (List.mem_of_getElem? (i := 8) rfl)) (fun _ h9 => h9) rfl dX4_init_53 ?_
        refine lv_iload_n hx hb dX4_init_56 rfl (lv_at hl 0 rfl) ?_
        refine lv_iconst (v := (-1)) hx hb dX4_init_57 (by decide) ?_
        refine zz_iast hx hb hK hP hD hS 3 0 rfl rfl i (by omega) (by decide) dX4_init_58 (fun H locs hP hD hS => ?_)
        have hP : va_P D vwCl (kwS (zad [0, 0, 0, 0, 0, 0, 0, 0, 0, 0, 0, 0, 0, 0, 0, 0, h0, q1, q2, q3, q4, q5]) ca3 ca1 (setA (setA k0 19 (upd (zini (fun _ => (-1)) i) i (-1))) 20 (zini (fun s => nI 100 - nI (10 * (s / 10))) i))) _ := hP
        have hD : va_D A (kwS (zad [0, 0, 0, 0, 0, 0, 0, 0, 0, 0, 0, 0, 0, 0, 0, 0, h0, q1, q2, q3, q4, q5]) ca3 ca1 (setA (setA k0 19 (upd (zini (fun _ => (-1)) i) i (-1))) 20 (zini (fun s => nI 100 - nI (10 * (s / 10))) i))) := hD
        refine lv_aload_n hx hb dX4_init_59 rfl (lv_at hl 1 rfl) ?_
        refine va_get (D := D) (ci := 4) (v := .ref ((zad [0, 0, 0, 0, 0, 0, 0, 0, 0, 0, 0, 0, 0, 0, 0, 0, h0, q1, q2, q3, q4, q5]) 20)) (C := RX4) (T := TX4) (N := 5) hx hb hts hinX4 hown hK hP 0 rfl rfl 3 (by decide) (hts (.fieldLink RX4 22 "AuditoriumKeys$Seats" "price" "[I") (List.mem_of_getElem? (i := 9) rfl)) (fun _ h9 => h9) rfl dX4_init_60 ?_
        refine lv_iload_n hx hb dX4_init_63 rfl (lv_at hl 0 rfl) ?_
        refine lv_bipush (v := nI 100) hx hb dX4_init_64 (by decide) ?_
        refine lv_bipush (v := nI 10) hx hb dX4_init_66 (by decide) ?_
        refine lv_iload_n hx hb dX4_init_68 rfl (lv_at hl 0 rfl) ?_
        refine lv_bipush (v := nI 10) hx hb dX4_init_69 (by decide) ?_
        refine lv_idiv hx hb dX4_init_71 (by decide) ?_
        refine zz_top (y := nI (i / 10)) (pk_div (by omega) (by decide) (by decide)) ?_
        refine lv_imul hx hb dX4_init_72 ?_
        refine zz_top (y := nI (10 * (i / 10))) (pk_mul _ _) ?_
        refine lv_isub hx hb dX4_init_73 ?_
        refine zz_iast hx hb hK hP hD hS 4 0 rfl rfl i (by omega) (by decide) dX4_init_74 (fun H locs hP hD hS => ?_)
        have hP : va_P D vwCl (kwS (zad [0, 0, 0, 0, 0, 0, 0, 0, 0, 0, 0, 0, 0, 0, 0, 0, h0, q1, q2, q3, q4, q5]) ca3 ca1 (setA (setA k0 19 (upd (zini (fun _ => (-1)) i) i (-1))) 20 (upd (zini (fun s => nI 100 - nI (10 * (s / 10))) i) i ((nI 100) - (nI (10 * (i / 10))))))) _ := hP
        have hD : va_D A (kwS (zad [0, 0, 0, 0, 0, 0, 0, 0, 0, 0, 0, 0, 0, 0, 0, 0, h0, q1, q2, q3, q4, q5]) ca3 ca1 (setA (setA k0 19 (upd (zini (fun _ => (-1)) i) i (-1))) 20 (upd (zini (fun s => nI 100 - nI (10 * (s / 10))) i) i ((nI 100) - (nI (10 * (i / 10))))))) := hD
        refine lv_iinc (v := nI (i + 1)) (lv' := [(1, .int (nI (i + 1))), (0, .ref h0)]) hx hb dX4_init_75 hl (k := 0) rfl ((show nI i + Int32.ofInt 1 = nI i + nI 1 from rfl).trans (nI_add _ _)) (by decide) rfl (fun ls hl => ?_)
        refine lv_goto (tgt := 46) hx hb dX4_init_78 (by decide) ?_
        have eK_2 : (setA (setA k0 19 (zini (fun _ => (-1)) (i + 1))) 20 (zini (fun s => nI 100 - nI (10 * (s / 10))) (i + 1))) = (setA (setA k0 19 (upd (zini (fun _ => (-1)) i) i (-1))) 20 (upd (zini (fun s => nI 100 - nI (10 * (s / 10))) i) i ((nI 100) - (nI (10 * (i / 10)))))) := (by rw [← zini_s, ← zini_s] <;> rfl)
        exact ih_a (i + 1) (by omega) (by omega) (by omega)  _ _ (by rw [eK_2]; exact hP) (by rw [eK_2]; exact hD) hS ls (lv_sub hl [0, 1] rfl)
  have eK_a : (setA (setA k0 19 (zini (fun _ => (-1)) 0)) 20 (zini (fun s => nI 100 - nI (10 * (s / 10))) 0)) = k0 := kIS_0
  exact lp_a (60 - 0 + 1) 0 (by omega) (by omega) (by omega)  _ _ (by rw [eK_a]; exact hP) (by rw [eK_a]; exact hD) hS ls (lv_sub hl [0, 1] rfl)
set_option maxHeartbeats 4000000 in
set_option maxRecDepth 100000 in
theorem kX5_init (l : Launch) (D : va_G) (h0 sz : Nat) : Met l yX5_init wsX5_init ({ frames := 2, cells := 25, slots := 1003, locals := 33 }) (va_Pc [.ref h0] (zPn D [] [(h0, .inr (5, [.int (nI 0), .int (nI 0), .int (nI 0), .null, .null, .null, .null, .null, .null]))] sz)) (va_Qv (fun u : (Nat → Nat) × ClassId × ClassId => u.1 0 = h0) (fun u => zPo D [(u.2.1, .int), (u.2.2, .boolean)] (va_A [(h0, .inr (5, [.int (nI 0), .int (nI 0), .int (nI 0), .null, .null, .null, .null, .null, .null]))] sz) (kwA u.1 u.2.1 u.2.2 kInit)) (va_A [(h0, .inr (5, [.int (nI 0), .int (nI 0), .int (nI 0), .null, .null, .null, .null, .null, .null]))] sz)) 25 1003 (va_A [(h0, .inr (5, [.int (nI 0), .int (nI 0), .int (nI 0), .null, .null, .null, .null, .null, .null]))] sz) := by
  refine Met.ofW (cc := cX5_init) (maxL := 1) (ret := none) (by decide) rfl ?_
  intro pP e s m args below meth c s₁ B hml hv
  obtain ⟨rfl, hsz, hP, hK, hD0, hNW⟩ := hv
  have hx := B.exec
  have hb := B.bytes
  have hr := B.returns
  have hts := atoms_spec (ws := wsX5_init) B.pre
  have hown : s.vm.findClass RX5 = some m.cls := findClass_of_methodNamed B.named
  have hlocks := B.notSynchronized
  have hin : meth.name = "<init>" := (name_of_methodNamed B.named B.method).1
  subst hsz
  have hD := hD0.self (sz := s.heap.size)
  generalize hAe : va_A [(h0, .inr (5, [.int (nI 0), .int (nI 0), .int (nI 0), .null, .null, .null, .null, .null, .null]))] s.heap.size = A at hD ⊢
  have hA : ∀ q : Nat, s.heap.size ≤ q → A q := fun q h => by rw [← hAe]; exact Or.inr h
  have hS : va_S A s.heap s.heap [] := va_S.rf
  have hinX0 : ∀ w ∈ u_ws RX0 TX0 4, w ∈ wsX5_init := by decide +kernel
  have hinX1 : ∀ w ∈ u_ws RX1 TX1 7, w ∈ wsX5_init := by decide +kernel
  have hinX2 : ∀ w ∈ u_ws RX2 TX2 1, w ∈ wsX5_init := by decide +kernel
  have hinX3 : ∀ w ∈ u_ws RX3 TX3 4, w ∈ wsX5_init := by decide +kernel
  have hinX4 : ∀ w ∈ u_ws RX4 TX4 5, w ∈ wsX5_init := by decide +kernel
  have hinX5 : ∀ w ∈ u_ws RX5 TX5 9, w ∈ wsX5_init := by decide +kernel
  have hl := lv_entry ([.ref h0]) (n := 1) (Nat.le_of_ble_eq_true rfl)
  rw [lg_entry_eq]
  generalize (lg_sl ([.ref h0]) ++ List.replicate (1 - (lg_sl ([.ref h0])).length) Slot.unset).toArray = ls at hl ⊢
  have hl : lv_has ls 1 [(0, .ref h0)] := hl
  refine lv_aload_n hx hb dX5_init_0 rfl (lv_at hl 0 rfl) ?_
  refine W.objInit hx hb hown (hts (.methodLink RX5 3 objectInit) (List.mem_of_getElem? (i := 1) rfl)) (hts (.instanceMethod objectInit) (List.mem_of_getElem? (i := 2) rfl)) (hts (.code objectInit ⟨#[0xb1]⟩ 1 none) (List.mem_of_getElem? (i := 3) rfl)) rfl (by rw [hml]; exact hl.1) rfl dX5_init_1 (Nat.le_of_ble_eq_true rfl) (Nat.le_of_ble_eq_true rfl) ?_
  refine W.eq (g2 := F0 m 4 ls []) rfl ?_
  refine lv_aload_n hx hb dX5_init_4 rfl (lv_at hl 0 rfl) ?_
  refine lv_iconst (v := nI 0) hx hb dX5_init_5 (by decide) ?_
  refine va_put (D := D) (ci := 5) (v := .int (nI 0)) (ty := .int) (C := RX5) (T := TX5) (N := 9) hx hb hts hinX5 tyX5 tyX5_ok nmX5 hown hK hP hD hS 0 rfl rfl 0 (by decide) (hts (.fieldLink RX5 9 "AuditoriumKeys" "now" "I") (List.mem_of_getElem? (i := 4) rfl)) (fun _ h9 => h9) rfl (by decide +kernel) rfl rfl (Nat.le_of_ble_eq_true rfl) dX5_init_6 (fun H locs hP hD hS => ?_)
  have hP : va_P D vwCl [(h0, .inr (5, [.int (nI 0), .int (nI 0), .int (nI 0), .null, .null, .null, .null, .null, .null]))] _ := hP
  have hD : va_D A [(h0, .inr (5, [.int (nI 0), .int (nI 0), .int (nI 0), .null, .null, .null, .null, .null, .null]))] := hD
  refine lv_aload_n hx hb dX5_init_9 rfl (lv_at hl 0 rfl) ?_
  refine lv_bipush (v := nI 100) hx hb dX5_init_10 (by decide) ?_
  refine va_put (D := D) (ci := 5) (v := .int (nI 100)) (ty := .int) (C := RX5) (T := TX5) (N := 9) hx hb hts hinX5 tyX5 tyX5_ok nmX5 hown hK hP hD hS 0 rfl rfl 1 (by decide) (hts (.fieldLink RX5 13 "AuditoriumKeys" "opening" "I") (List.mem_of_getElem? (i := 5) rfl)) (fun _ h9 => h9) rfl (by decide +kernel) rfl rfl (Nat.le_of_ble_eq_true rfl) dX5_init_12 (fun H locs hP hD hS => ?_)
  have hP : va_P D vwCl [(h0, .inr (5, [.int (nI 0), .int (nI 100), .int (nI 0), .null, .null, .null, .null, .null, .null]))] _ := hP
  have hD : va_D A [(h0, .inr (5, [.int (nI 0), .int (nI 100), .int (nI 0), .null, .null, .null, .null, .null, .null]))] := hD
  refine lv_aload_n hx hb dX5_init_15 rfl (lv_at hl 0 rfl) ?_
  refine lv_iconst (v := nI 0) hx hb dX5_init_16 (by decide) ?_
  refine va_put (D := D) (ci := 5) (v := .int (nI 0)) (ty := .int) (C := RX5) (T := TX5) (N := 9) hx hb hts hinX5 tyX5 tyX5_ok nmX5 hown hK hP hD hS 0 rfl rfl 2 (by decide) (hts (.fieldLink RX5 16 "AuditoriumKeys" "taken" "I") (List.mem_of_getElem? (i := 6) rfl)) (fun _ h9 => h9) rfl (by decide +kernel) rfl rfl (Nat.le_of_ble_eq_true rfl) dX5_init_17 (fun H locs hP hD hS => ?_)
  have hP : va_P D vwCl [(h0, .inr (5, [.int (nI 0), .int (nI 100), .int (nI 0), .null, .null, .null, .null, .null, .null]))] _ := hP
  have hD : va_D A [(h0, .inr (5, [.int (nI 0), .int (nI 100), .int (nI 0), .null, .null, .null, .null, .null, .null]))] := hD
  refine lv_aload_n hx hb dX5_init_20 rfl (lv_at hl 0 rfl) ?_
  refine lv_bipush (v := nI 8) hx hb dX5_init_21 (by decide) ?_
  refine va_newa (atype := .int) (a0 := (8, .inl (fun _ => nI 0))) (N' := 8) hx hb (hts (.arrayClass .int) (List.mem_of_getElem? (i := 7) rfl)) rfl hK hP hD hS hA (fun _ => rfl) (by decide) (nI_clamp (by decide)) (by decide) (Nat.le_of_ble_eq_true rfl) (Nat.le_of_ble_eq_true rfl) dX5_init_23 (fun q1 ca1 H hK hP hD hS => ?_)
  refine W.widen (k := 1) (n := 8) (Nat.le_of_ble_eq_true rfl) (Nat.le_of_ble_eq_true rfl) ?_
  have hK : va_K D vwCl [(ca1, .int)] s := hK
  have hP : va_P D vwCl [(h0, .inr (5, [.int (nI 0), .int (nI 100), .int (nI 0), .null, .null, .null, .null, .null, .null])), (q1, .inl (ca1, 8, .inl (fun _ => nI 0)))] _ := hP
  have hD : va_D A [(h0, .inr (5, [.int (nI 0), .int (nI 100), .int (nI 0), .null, .null, .null, .null, .null, .null])), (q1, .inl (ca1, 8, .inl (fun _ => nI 0)))] := hD
  refine va_putF (D := D) (ci := 5) (v := .ref q1) (ty := .array .int) (C := RX5) (T := TX5) (N := 9) hx hb hts hinX5 tyX5 tyX5_ok nmX5 hown hK hP hD hS 0 rfl rfl 3 (by decide) (hts (.fieldLink RX5 19 "AuditoriumKeys" "outlay" "[I") (List.mem_of_getElem? (i := 8) rfl)) (fun _ h9 => h9) rfl hin rfl (by decide +kernel) rfl rfl (Nat.le_of_ble_eq_true rfl) dX5_init_25 (fun H locs hP hD hS => ?_)
  have hP : va_P D vwCl [(h0, .inr (5, [.int (nI 0), .int (nI 100), .int (nI 0), .ref q1, .null, .null, .null, .null, .null])), (q1, .inl (ca1, 8, .inl (fun _ => nI 0)))] _ := hP
  have hD : va_D A [(h0, .inr (5, [.int (nI 0), .int (nI 100), .int (nI 0), .ref q1, .null, .null, .null, .null, .null])), (q1, .inl (ca1, 8, .inl (fun _ => nI 0)))] := hD
  refine lv_aload_n hx hb dX5_init_28 rfl (lv_at hl 0 rfl) ?_
  refine va_new (ci := 0) (fs := [.int (nI 0), .null, .null, .null]) (C := RX0) (T := TX0) (N := 4) hx hb hts hinX0 tyX0 tyX0_ok hown (hts (.classLink RX5 23 RX0) (List.mem_of_getElem? (i := 9) rfl)) (hts (.instantiable RX0 4) (List.mem_of_getElem? (i := 10) rfl)) (hts (.initialized RX0) (List.mem_of_getElem? (i := 11) rfl)) hK hP hD hS hA rfl (fun j hj => by rcases (show j = 0 ∨ j = 1 ∨ j = 2 ∨ j = 3 by omega) with rfl | rfl | rfl | rfl <;> rfl) (Nat.le_of_ble_eq_true rfl) (Nat.le_of_ble_eq_true rfl) dX5_init_29 (fun q2 H hP hD hS => ?_)
  refine W.widen (k := 2) (n := 12) (Nat.le_of_ble_eq_true rfl) (Nat.le_of_ble_eq_true rfl) ?_
  have hP : va_P D vwCl [(h0, .inr (5, [.int (nI 0), .int (nI 100), .int (nI 0), .ref q1, .null, .null, .null, .null, .null])), (q1, .inl (ca1, 8, .inl (fun _ => nI 0))), (q2, .inr (0, [.int (nI 0), .null, .null, .null]))] _ := hP
  have hD : va_D A [(h0, .inr (5, [.int (nI 0), .int (nI 100), .int (nI 0), .ref q1, .null, .null, .null, .null, .null])), (q1, .inl (ca1, 8, .inl (fun _ => nI 0))), (q2, .inr (0, [.int (nI 0), .null, .null, .null]))] := hD
  refine lv_dup hx hb dX5_init_32 rfl ?_
  have hPc := hP.sub (ws' := [(q2, .inr (0, [.int (nI 0), .null, .null, .null]))]) [2] rfl
  have hDc := hD.sub (ws' := [(q2, .inr (0, [.int (nI 0), .null, .null, .null]))]) [2] (by decide) rfl
  have hFc := va_free (wc := [(q2, .inr (0, [.int (nI 0), .null, .null, .null]))]) hD hS hA [2] rfl
  refine va_callv (va_runIN (As := []) (rest := [.ref q2, .ref h0]) ⟨hx, hb, hml, hown, hts⟩ (kX0_init l D q2 _) ⟨va_cnB 0 hts gX5_init_X0_init_n25 rfl rfl rfl (hNW (.methodLinkNest RX5 25 yX0_init "AuditoriumKeys") (List.mem_of_getElem? (i := 10) rfl)) (hts (.initialized RX0) (List.mem_of_getElem? (i := 11) rfl)) (by decide +kernel) ⟨(Nat.le_of_ble_eq_true rfl), (Nat.le_of_ble_eq_true rfl)⟩, rfl, (hts (.instanceMethod yX0_init) (List.mem_of_getElem? (i := 29) rfl))⟩ ⟨zPr_blind _ _ _ _ _, fun U hU hW => ⟨rfl, by rw [hU], by rw [hU]; exact hPc, va_K.moved hW.alike (hK.sub (tys' := []) [] rfl), hDc.weaken (fun _ _ _ _ => trivial)⟩⟩ rfl rfl hl.1 rfl (lv_room (Nat.le_of_ble_eq_true rfl)) dX5_init_33 ⟨(Nat.le_of_ble_eq_true rfl), (Nat.le_of_ble_eq_true rfl)⟩) hS (fun q _ h => hFc q h) hFc (fun u3 t H1 locs ht hvm hw hB hz1 hk1 hS => ?_)
  refine W.widen (k := 5) (n := 112) (Nat.le_of_ble_eq_true rfl) (Nat.le_of_ble_eq_true rfl) ?_
  obtain ⟨ad3, cu3I⟩ := u3
  obtain ⟨hP1, hK1, hD1⟩ := hB
  rw [ht] at hP1
  have hK1 := va_K.moved hvm.symm hK1
  dsimp only at hw hP1 hK1 hD1
  obtain ⟨hP, hD⟩ := va_join (wr := [(h0, .inr (5, [.int (nI 0), .int (nI 100), .int (nI 0), .ref q1, .null, .null, .null, .null, .null])), (q1, .inl (ca1, 8, .inl (fun _ => nI 0)))]) (w1 := (kwC ad3 cu3I k0)) hP hD [2] [0, 1] rfl rfl (by decide) (by decide) hk1 hFc hP1 hD1
  generalize H1 = H at hP hS ⊢
  have hK := hK.app hK1
  have hK : va_K D vwCl [(ca1, .int), (cu3I, .int)] s := hK
  have ec : cu3I = ca1 := zcI hK (i := 1) (j := 0) rfl rfl
  subst cu3I
  have hK := hK.sub (tys' := [(ca1, .int)]) [0] rfl
  have hP : va_P D vwCl [(h0, .inr (5, [.int (nI 0), .int (nI 100), .int (nI 0), .ref q1, .null, .null, .null, .null, .null])), (q1, .inl (ca1, 8, .inl (fun _ => nI 0))), (ad3 2, .inr (0, [.int (k0 2 0), .ref (ad3 3), .ref (ad3 4), .ref (ad3 5)])), (ad3 3, .inl (ca1, 10, .inl (k0 3))), (ad3 4, .inl (ca1, 10, .inl (k0 4))), (ad3 5, .inl (ca1, 80, .inl (k0 5)))] _ := hP
  have hD : va_D A [(h0, .inr (5, [.int (nI 0), .int (nI 100), .int (nI 0), .ref q1, .null, .null, .null, .null, .null])), (q1, .inl (ca1, 8, .inl (fun _ => nI 0))), (ad3 2, .inr (0, [.int (k0 2 0), .ref (ad3 3), .ref (ad3 4), .ref (ad3 5)])), (ad3 3, .inl (ca1, 10, .inl (k0 3))), (ad3 4, .inl (ca1, 10, .inl (k0 4))), (ad3 5, .inl (ca1, 80, .inl (k0 5)))] := hD
  have hb3 : ad3 2 = q2 := hw
  rw [← hb3]
  refine va_putF (D := D) (ci := 5) (v := .ref (ad3 2)) (ty := .object "AuditoriumKeys$Codes") (C := RX5) (T := TX5) (N := 9) hx hb hts hinX5 tyX5 tyX5_ok nmX5 hown hK hP hD hS 0 rfl rfl 4 (by decide) (hts (.fieldLink RX5 26 "AuditoriumKeys" "codes" "LAuditoriumKeys$Codes;") (List.mem_of_getElem? (i := 12) rfl)) (fun _ h9 => h9) rfl hin rfl (by decide +kernel) rfl rfl (Nat.le_of_ble_eq_true rfl) dX5_init_36 (fun H locs hP hD hS => ?_)
  have hP : va_P D vwCl [(h0, .inr (5, [.int (nI 0), .int (nI 100), .int (nI 0), .ref q1, .ref (ad3 2), .null, .null, .null, .null])), (q1, .inl (ca1, 8, .inl (fun _ => nI 0))), (ad3 2, .inr (0, [.int (k0 2 0), .ref (ad3 3), .ref (ad3 4), .ref (ad3 5)])), (ad3 3, .inl (ca1, 10, .inl (k0 3))), (ad3 4, .inl (ca1, 10, .inl (k0 4))), (ad3 5, .inl (ca1, 80, .inl (k0 5)))] _ := hP
  have hD : va_D A [(h0, .inr (5, [.int (nI 0), .int (nI 100), .int (nI 0), .ref q1, .ref (ad3 2), .null, .null, .null, .null])), (q1, .inl (ca1, 8, .inl (fun _ => nI 0))), (ad3 2, .inr (0, [.int (k0 2 0), .ref (ad3 3), .ref (ad3 4), .ref (ad3 5)])), (ad3 3, .inl (ca1, 10, .inl (k0 3))), (ad3 4, .inl (ca1, 10, .inl (k0 4))), (ad3 5, .inl (ca1, 80, .inl (k0 5)))] := hD
  refine lv_aload_n hx hb dX5_init_39 rfl (lv_at hl 0 rfl) ?_
  refine va_new (ci := 2) (fs := [.null]) (C := RX2) (T := TX2) (N := 1) hx hb hts hinX2 tyX2 tyX2_ok hown (hts (.classLink RX5 30 RX2) (List.mem_of_getElem? (i := 13) rfl)) (hts (.instantiable RX2 1) (List.mem_of_getElem? (i := 14) rfl)) (hts (.initialized RX2) (List.mem_of_getElem? (i := 15) rfl)) hK hP hD hS hA rfl (fun j hj => by rcases (show j = 0 by omega) with rfl <;> rfl) (Nat.le_of_ble_eq_true rfl) (Nat.le_of_ble_eq_true rfl) dX5_init_40 (fun q4 H hP hD hS => ?_)
  refine W.widen (k := 6) (n := 113) (Nat.le_of_ble_eq_true rfl) (Nat.le_of_ble_eq_true rfl) ?_
  have hP : va_P D vwCl [(h0, .inr (5, [.int (nI 0), .int (nI 100), .int (nI 0), .ref q1, .ref (ad3 2), .null, .null, .null, .null])), (q1, .inl (ca1, 8, .inl (fun _ => nI 0))), (ad3 2, .inr (0, [.int (k0 2 0), .ref (ad3 3), .ref (ad3 4), .ref (ad3 5)])), (ad3 3, .inl (ca1, 10, .inl (k0 3))), (ad3 4, .inl (ca1, 10, .inl (k0 4))), (ad3 5, .inl (ca1, 80, .inl (k0 5))), (q4, .inr (2, [.null]))] _ := hP
  have hD : va_D A [(h0, .inr (5, [.int (nI 0), .int (nI 100), .int (nI 0), .ref q1, .ref (ad3 2), .null, .null, .null, .null])), (q1, .inl (ca1, 8, .inl (fun _ => nI 0))), (ad3 2, .inr (0, [.int (k0 2 0), .ref (ad3 3), .ref (ad3 4), .ref (ad3 5)])), (ad3 3, .inl (ca1, 10, .inl (k0 3))), (ad3 4, .inl (ca1, 10, .inl (k0 4))), (ad3 5, .inl (ca1, 80, .inl (k0 5))), (q4, .inr (2, [.null]))] := hD
  refine lv_dup hx hb dX5_init_43 rfl ?_
  have hPc := hP.sub (ws' := [(q4, .inr (2, [.null]))]) [6] rfl
  have hDc := hD.sub (ws' := [(q4, .inr (2, [.null]))]) [6] (by decide) rfl
  have hFc := va_free (wc := [(q4, .inr (2, [.null]))]) hD hS hA [6] rfl
  refine va_callv (va_runIN (As := []) (rest := [.ref q4, .ref h0]) ⟨hx, hb, hml, hown, hts⟩ (kX2_init l D q4 _) ⟨va_cnB 0 hts gX5_init_X2_init_n32 rfl rfl rfl (hNW (.methodLinkNest RX5 32 yX2_init "AuditoriumKeys") (List.mem_of_getElem? (i := 11) rfl)) (hts (.initialized RX2) (List.mem_of_getElem? (i := 15) rfl)) (by decide +kernel) ⟨(Nat.le_of_ble_eq_true rfl), (Nat.le_of_ble_eq_true rfl)⟩, rfl, (hts (.instanceMethod yX2_init) (List.mem_of_getElem? (i := 36) rfl))⟩ ⟨zPr_blind _ _ _ _ _, fun U hU hW => ⟨rfl, by rw [hU], by rw [hU]; exact hPc, va_K.moved hW.alike (hK.sub (tys' := []) [] rfl), hDc.weaken (fun _ _ _ _ => trivial)⟩⟩ rfl rfl hl.1 rfl (lv_room (Nat.le_of_ble_eq_true rfl)) dX5_init_44 ⟨(Nat.le_of_ble_eq_true rfl), (Nat.le_of_ble_eq_true rfl)⟩) hS (fun q _ h => hFc q h) hFc (fun u5 t H1 locs ht hvm hw hB hz1 hk1 hS => ?_)
  refine W.widen (k := 7) (n := 121) (Nat.le_of_ble_eq_true rfl) (Nat.le_of_ble_eq_true rfl) ?_
  obtain ⟨ad5, cu5I⟩ := u5
  obtain ⟨hP1, hK1, hD1⟩ := hB
  rw [ht] at hP1
  have hK1 := va_K.moved hvm.symm hK1
  dsimp only at hw hP1 hK1 hD1
  obtain ⟨hP, hD⟩ := va_join (wr := [(h0, .inr (5, [.int (nI 0), .int (nI 100), .int (nI 0), .ref q1, .ref (ad3 2), .null, .null, .null, .null])), (q1, .inl (ca1, 8, .inl (fun _ => nI 0))), (ad3 2, .inr (0, [.int (k0 2 0), .ref (ad3 3), .ref (ad3 4), .ref (ad3 5)])), (ad3 3, .inl (ca1, 10, .inl (k0 3))), (ad3 4, .inl (ca1, 10, .inl (k0 4))), (ad3 5, .inl (ca1, 80, .inl (k0 5)))]) (w1 := (kwL ad5 cu5I (kIL 8))) hP hD [6] [0, 1, 2, 3, 4, 5] rfl rfl (by decide) (by decide) hk1 hFc hP1 hD1
  generalize H1 = H at hP hS ⊢
  have hK := hK.app hK1
  have hK : va_K D vwCl [(ca1, .int), (cu5I, .int)] s := hK
  have ec : cu5I = ca1 := zcI hK (i := 1) (j := 0) rfl rfl
  subst cu5I
  have hK := hK.sub (tys' := [(ca1, .int)]) [0] rfl
  have hP : va_P D vwCl [(h0, .inr (5, [.int (nI 0), .int (nI 100), .int (nI 0), .ref q1, .ref (ad3 2), .null, .null, .null, .null])), (q1, .inl (ca1, 8, .inl (fun _ => nI 0))), (ad3 2, .inr (0, [.int (k0 2 0), .ref (ad3 3), .ref (ad3 4), .ref (ad3 5)])), (ad3 3, .inl (ca1, 10, .inl (k0 3))), (ad3 4, .inl (ca1, 10, .inl (k0 4))), (ad3 5, .inl (ca1, 80, .inl (k0 5))), (ad5 6, .inr (2, [.ref (ad5 7)])), (ad5 7, .inl (ca1, 8, .inl ((kIL 8) 7)))] _ := hP
  have hD : va_D A [(h0, .inr (5, [.int (nI 0), .int (nI 100), .int (nI 0), .ref q1, .ref (ad3 2), .null, .null, .null, .null])), (q1, .inl (ca1, 8, .inl (fun _ => nI 0))), (ad3 2, .inr (0, [.int (k0 2 0), .ref (ad3 3), .ref (ad3 4), .ref (ad3 5)])), (ad3 3, .inl (ca1, 10, .inl (k0 3))), (ad3 4, .inl (ca1, 10, .inl (k0 4))), (ad3 5, .inl (ca1, 80, .inl (k0 5))), (ad5 6, .inr (2, [.ref (ad5 7)])), (ad5 7, .inl (ca1, 8, .inl ((kIL 8) 7)))] := hD
  have hb5 : ad5 6 = q4 := hw
  rw [← hb5]
  refine va_putF (D := D) (ci := 5) (v := .ref (ad5 6)) (ty := .object "AuditoriumKeys$Line") (C := RX5) (T := TX5) (N := 9) hx hb hts hinX5 tyX5 tyX5_ok nmX5 hown hK hP hD hS 0 rfl rfl 5 (by decide) (hts (.fieldLink RX5 33 "AuditoriumKeys" "line" "LAuditoriumKeys$Line;") (List.mem_of_getElem? (i := 16) rfl)) (fun _ h9 => h9) rfl hin rfl (by decide +kernel) rfl rfl (Nat.le_of_ble_eq_true rfl) dX5_init_47 (fun H locs hP hD hS => ?_)
  have hP : va_P D vwCl [(h0, .inr (5, [.int (nI 0), .int (nI 100), .int (nI 0), .ref q1, .ref (ad3 2), .ref (ad5 6), .null, .null, .null])), (q1, .inl (ca1, 8, .inl (fun _ => nI 0))), (ad3 2, .inr (0, [.int (k0 2 0), .ref (ad3 3), .ref (ad3 4), .ref (ad3 5)])), (ad3 3, .inl (ca1, 10, .inl (k0 3))), (ad3 4, .inl (ca1, 10, .inl (k0 4))), (ad3 5, .inl (ca1, 80, .inl (k0 5))), (ad5 6, .inr (2, [.ref (ad5 7)])), (ad5 7, .inl (ca1, 8, .inl ((kIL 8) 7)))] _ := hP
  have hD : va_D A [(h0, .inr (5, [.int (nI 0), .int (nI 100), .int (nI 0), .ref q1, .ref (ad3 2), .ref (ad5 6), .null, .null, .null])), (q1, .inl (ca1, 8, .inl (fun _ => nI 0))), (ad3 2, .inr (0, [.int (k0 2 0), .ref (ad3 3), .ref (ad3 4), .ref (ad3 5)])), (ad3 3, .inl (ca1, 10, .inl (k0 3))), (ad3 4, .inl (ca1, 10, .inl (k0 4))), (ad3 5, .inl (ca1, 80, .inl (k0 5))), (ad5 6, .inr (2, [.ref (ad5 7)])), (ad5 7, .inl (ca1, 8, .inl ((kIL 8) 7)))] := hD
  refine lv_aload_n hx hb dX5_init_50 rfl (lv_at hl 0 rfl) ?_
  refine va_new (ci := 1) (fs := [.null, .null, .null, .null, .null, .null, .null]) (C := RX1) (T := TX1) (N := 7) hx hb hts hinX1 tyX1 tyX1_ok hown (hts (.classLink RX5 37 RX1) (List.mem_of_getElem? (i := 17) rfl)) (hts (.instantiable RX1 7) (List.mem_of_getElem? (i := 18) rfl)) (hts (.initialized RX1) (List.mem_of_getElem? (i := 19) rfl)) hK hP hD hS hA rfl (fun j hj => by rcases (show j = 0 ∨ j = 1 ∨ j = 2 ∨ j = 3 ∨ j = 4 ∨ j = 5 ∨ j = 6 by omega) with rfl | rfl | rfl | rfl | rfl | rfl | rfl <;> rfl) (Nat.le_of_ble_eq_true rfl) (Nat.le_of_ble_eq_true rfl) dX5_init_51 (fun q6 H hP hD hS => ?_)
  refine W.widen (k := 8) (n := 128) (Nat.le_of_ble_eq_true rfl) (Nat.le_of_ble_eq_true rfl) ?_
  have hP : va_P D vwCl [(h0, .inr (5, [.int (nI 0), .int (nI 100), .int (nI 0), .ref q1, .ref (ad3 2), .ref (ad5 6), .null, .null, .null])), (q1, .inl (ca1, 8, .inl (fun _ => nI 0))), (ad3 2, .inr (0, [.int (k0 2 0), .ref (ad3 3), .ref (ad3 4), .ref (ad3 5)])), (ad3 3, .inl (ca1, 10, .inl (k0 3))), (ad3 4, .inl (ca1, 10, .inl (k0 4))), (ad3 5, .inl (ca1, 80, .inl (k0 5))), (ad5 6, .inr (2, [.ref (ad5 7)])), (ad5 7, .inl (ca1, 8, .inl ((kIL 8) 7))), (q6, .inr (1, [.null, .null, .null, .null, .null, .null, .null]))] _ := hP
  have hD : va_D A [(h0, .inr (5, [.int (nI 0), .int (nI 100), .int (nI 0), .ref q1, .ref (ad3 2), .ref (ad5 6), .null, .null, .null])), (q1, .inl (ca1, 8, .inl (fun _ => nI 0))), (ad3 2, .inr (0, [.int (k0 2 0), .ref (ad3 3), .ref (ad3 4), .ref (ad3 5)])), (ad3 3, .inl (ca1, 10, .inl (k0 3))), (ad3 4, .inl (ca1, 10, .inl (k0 4))), (ad3 5, .inl (ca1, 80, .inl (k0 5))), (ad5 6, .inr (2, [.ref (ad5 7)])), (ad5 7, .inl (ca1, 8, .inl ((kIL 8) 7))), (q6, .inr (1, [.null, .null, .null, .null, .null, .null, .null]))] := hD
  refine lv_dup hx hb dX5_init_54 rfl ?_
  have hPc := hP.sub (ws' := [(q6, .inr (1, [.null, .null, .null, .null, .null, .null, .null]))]) [8] rfl
  have hDc := hD.sub (ws' := [(q6, .inr (1, [.null, .null, .null, .null, .null, .null, .null]))]) [8] (by decide) rfl
  have hFc := va_free (wc := [(q6, .inr (1, [.null, .null, .null, .null, .null, .null, .null]))]) hD hS hA [8] rfl
  refine va_callv (va_runIN (As := []) (rest := [.ref q6, .ref h0]) ⟨hx, hb, hml, hown, hts⟩ (kX1_init l D q6 _) ⟨va_cnB 0 hts gX5_init_X1_init_n39 rfl rfl rfl (hNW (.methodLinkNest RX5 39 yX1_init "AuditoriumKeys") (List.mem_of_getElem? (i := 12) rfl)) (hts (.initialized RX1) (List.mem_of_getElem? (i := 19) rfl)) (by decide +kernel) ⟨(Nat.le_of_ble_eq_true rfl), (Nat.le_of_ble_eq_true rfl)⟩, rfl, (hts (.instanceMethod yX1_init) (List.mem_of_getElem? (i := 40) rfl))⟩ ⟨zPr_blind _ _ _ _ _, fun U hU hW => ⟨rfl, by rw [hU], by rw [hU]; exact hPc, va_K.moved hW.alike (hK.sub (tys' := []) [] rfl), hDc.weaken (fun _ _ _ _ => trivial)⟩⟩ rfl rfl hl.1 rfl (lv_room (Nat.le_of_ble_eq_true rfl)) dX5_init_55 ⟨(Nat.le_of_ble_eq_true rfl), (Nat.le_of_ble_eq_true rfl)⟩) hS (fun q _ h => hFc q h) hFc (fun u7 t H1 locs ht hvm hw hB hz1 hk1 hS => ?_)
  refine W.widen (k := 15) (n := 184) (Nat.le_of_ble_eq_true rfl) (Nat.le_of_ble_eq_true rfl) ?_
  obtain ⟨ad7, cu7I⟩ := u7
  obtain ⟨hP1, hK1, hD1⟩ := hB
  rw [ht] at hP1
  have hK1 := va_K.moved hvm.symm hK1
  dsimp only at hw hP1 hK1 hD1
  obtain ⟨hP, hD⟩ := va_join (wr := [(h0, .inr (5, [.int (nI 0), .int (nI 100), .int (nI 0), .ref q1, .ref (ad3 2), .ref (ad5 6), .null, .null, .null])), (q1, .inl (ca1, 8, .inl (fun _ => nI 0))), (ad3 2, .inr (0, [.int (k0 2 0), .ref (ad3 3), .ref (ad3 4), .ref (ad3 5)])), (ad3 3, .inl (ca1, 10, .inl (k0 3))), (ad3 4, .inl (ca1, 10, .inl (k0 4))), (ad3 5, .inl (ca1, 80, .inl (k0 5))), (ad5 6, .inr (2, [.ref (ad5 7)])), (ad5 7, .inl (ca1, 8, .inl ((kIL 8) 7)))]) (w1 := (kwH ad7 cu7I k0)) hP hD [8] [0, 1, 2, 3, 4, 5, 6, 7] rfl rfl (by decide) (by decide) hk1 hFc hP1 hD1
  generalize H1 = H at hP hS ⊢
  have hK := hK.app hK1
  have hK : va_K D vwCl [(ca1, .int), (cu7I, .int)] s := hK
  have ec : cu7I = ca1 := zcI hK (i := 1) (j := 0) rfl rfl
  subst cu7I
  have hK := hK.sub (tys' := [(ca1, .int)]) [0] rfl
  have hP : va_P D vwCl [(h0, .inr (5, [.int (nI 0), .int (nI 100), .int (nI 0), .ref q1, .ref (ad3 2), .ref (ad5 6), .null, .null, .null])), (q1, .inl (ca1, 8, .inl (fun _ => nI 0))), (ad3 2, .inr (0, [.int (k0 2 0), .ref (ad3 3), .ref (ad3 4), .ref (ad3 5)])), (ad3 3, .inl (ca1, 10, .inl (k0 3))), (ad3 4, .inl (ca1, 10, .inl (k0 4))), (ad3 5, .inl (ca1, 80, .inl (k0 5))), (ad5 6, .inr (2, [.ref (ad5 7)])), (ad5 7, .inl (ca1, 8, .inl ((kIL 8) 7))), (ad7 8, .inr (1, [.ref (ad7 9), .ref (ad7 10), .ref (ad7 11), .ref (ad7 12), .ref (ad7 13), .ref (ad7 14), .ref (ad7 15)])), (ad7 9, .inl (ca1, 8, .inl (k0 9))), (ad7 10, .inl (ca1, 8, .inl (k0 10))), (ad7 11, .inl (ca1, 8, .inl (k0 11))), (ad7 12, .inl (ca1, 8, .inl (k0 12))), (ad7 13, .inl (ca1, 8, .inl (k0 13))), (ad7 14, .inl (ca1, 8, .inl (k0 14))), (ad7 15, .inl (ca1, 8, .inl (k0 15)))] _ := hP
  have hD : va_D A [(h0, .inr (5, [.int (nI 0), .int (nI 100), .int (nI 0), .ref q1, .ref (ad3 2), .ref (ad5 6), .null, .null, .null])), (q1, .inl (ca1, 8, .inl (fun _ => nI 0))), (ad3 2, .inr (0, [.int (k0 2 0), .ref (ad3 3), .ref (ad3 4), .ref (ad3 5)])), (ad3 3, .inl (ca1, 10, .inl (k0 3))), (ad3 4, .inl (ca1, 10, .inl (k0 4))), (ad3 5, .inl (ca1, 80, .inl (k0 5))), (ad5 6, .inr (2, [.ref (ad5 7)])), (ad5 7, .inl (ca1, 8, .inl ((kIL 8) 7))), (ad7 8, .inr (1, [.ref (ad7 9), .ref (ad7 10), .ref (ad7 11), .ref (ad7 12), .ref (ad7 13), .ref (ad7 14), .ref (ad7 15)])), (ad7 9, .inl (ca1, 8, .inl (k0 9))), (ad7 10, .inl (ca1, 8, .inl (k0 10))), (ad7 11, .inl (ca1, 8, .inl (k0 11))), (ad7 12, .inl (ca1, 8, .inl (k0 12))), (ad7 13, .inl (ca1, 8, .inl (k0 13))), (ad7 14, .inl (ca1, 8, .inl (k0 14))), (ad7 15, .inl (ca1, 8, .inl (k0 15)))] := hD
  have hb7 : ad7 8 = q6 := hw
  rw [← hb7]
  refine va_putF (D := D) (ci := 5) (v := .ref (ad7 8)) (ty := .object "AuditoriumKeys$Holds") (C := RX5) (T := TX5) (N := 9) hx hb hts hinX5 tyX5 tyX5_ok nmX5 hown hK hP hD hS 0 rfl rfl 6 (by decide) (hts (.fieldLink RX5 40 "AuditoriumKeys" "holds" "LAuditoriumKeys$Holds;") (List.mem_of_getElem? (i := 20) rfl)) (fun _ h9 => h9) rfl hin rfl (by decide +kernel) rfl rfl (Nat.le_of_ble_eq_true rfl) dX5_init_58 (fun H locs hP hD hS => ?_)
  have hP : va_P D vwCl [(h0, .inr (5, [.int (nI 0), .int (nI 100), .int (nI 0), .ref q1, .ref (ad3 2), .ref (ad5 6), .ref (ad7 8), .null, .null])), (q1, .inl (ca1, 8, .inl (fun _ => nI 0))), (ad3 2, .inr (0, [.int (k0 2 0), .ref (ad3 3), .ref (ad3 4), .ref (ad3 5)])), (ad3 3, .inl (ca1, 10, .inl (k0 3))), (ad3 4, .inl (ca1, 10, .inl (k0 4))), (ad3 5, .inl (ca1, 80, .inl (k0 5))), (ad5 6, .inr (2, [.ref (ad5 7)])), (ad5 7, .inl (ca1, 8, .inl ((kIL 8) 7))), (ad7 8, .inr (1, [.ref (ad7 9), .ref (ad7 10), .ref (ad7 11), .ref (ad7 12), .ref (ad7 13), .ref (ad7 14), .ref (ad7 15)])), (ad7 9, .inl (ca1, 8, .inl (k0 9))), (ad7 10, .inl (ca1, 8, .inl (k0 10))), (ad7 11, .inl (ca1, 8, .inl (k0 11))), (ad7 12, .inl (ca1, 8, .inl (k0 12))), (ad7 13, .inl (ca1, 8, .inl (k0 13))), (ad7 14, .inl (ca1, 8, .inl (k0 14))), (ad7 15, .inl (ca1, 8, .inl (k0 15)))] _ := hP
  have hD : va_D A [(h0, .inr (5, [.int (nI 0), .int (nI 100), .int (nI 0), .ref q1, .ref (ad3 2), .ref (ad5 6), .ref (ad7 8), .null, .null])), (q1, .inl (ca1, 8, .inl (fun _ => nI 0))), (ad3 2, .inr (0, [.int (k0 2 0), .ref (ad3 3), .ref (ad3 4), .ref (ad3 5)])), (ad3 3, .inl (ca1, 10, .inl (k0 3))), (ad3 4, .inl (ca1, 10, .inl (k0 4))), (ad3 5, .inl (ca1, 80, .inl (k0 5))), (ad5 6, .inr (2, [.ref (ad5 7)])), (ad5 7, .inl (ca1, 8, .inl ((kIL 8) 7))), (ad7 8, .inr (1, [.ref (ad7 9), .ref (ad7 10), .ref (ad7 11), .ref (ad7 12), .ref (ad7 13), .ref (ad7 14), .ref (ad7 15)])), (ad7 9, .inl (ca1, 8, .inl (k0 9))), (ad7 10, .inl (ca1, 8, .inl (k0 10))), (ad7 11, .inl (ca1, 8, .inl (k0 11))), (ad7 12, .inl (ca1, 8, .inl (k0 12))), (ad7 13, .inl (ca1, 8, .inl (k0 13))), (ad7 14, .inl (ca1, 8, .inl (k0 14))), (ad7 15, .inl (ca1, 8, .inl (k0 15)))] := hD
  refine lv_aload_n hx hb dX5_init_61 rfl (lv_at hl 0 rfl) ?_
  refine va_new (ci := 4) (fs := [.null, .null, .null, .null, .null]) (C := RX4) (T := TX4) (N := 5) hx hb hts hinX4 tyX4 tyX4_ok hown (hts (.classLink RX5 44 RX4) (List.mem_of_getElem? (i := 21) rfl)) (hts (.instantiable RX4 5) (List.mem_of_getElem? (i := 22) rfl)) (hts (.initialized RX4) (List.mem_of_getElem? (i := 23) rfl)) hK hP hD hS hA rfl (fun j hj => by rcases (show j = 0 ∨ j = 1 ∨ j = 2 ∨ j = 3 ∨ j = 4 by omega) with rfl | rfl | rfl | rfl | rfl <;> rfl) (Nat.le_of_ble_eq_true rfl) (Nat.le_of_ble_eq_true rfl) dX5_init_62 (fun q8 H hP hD hS => ?_)
  refine W.widen (k := 16) (n := 189) (Nat.le_of_ble_eq_true rfl) (Nat.le_of_ble_eq_true rfl) ?_
  have hP : va_P D vwCl [(h0, .inr (5, [.int (nI 0), .int (nI 100), .int (nI 0), .ref q1, .ref (ad3 2), .ref (ad5 6), .ref (ad7 8), .null, .null])), (q1, .inl (ca1, 8, .inl (fun _ => nI 0))), (ad3 2, .inr (0, [.int (k0 2 0), .ref (ad3 3), .ref (ad3 4), .ref (ad3 5)])), (ad3 3, .inl (ca1, 10, .inl (k0 3))), (ad3 4, .inl (ca1, 10, .inl (k0 4))), (ad3 5, .inl (ca1, 80, .inl (k0 5))), (ad5 6, .inr (2, [.ref (ad5 7)])), (ad5 7, .inl (ca1, 8, .inl ((kIL 8) 7))), (ad7 8, .inr (1, [.ref (ad7 9), .ref (ad7 10), .ref (ad7 11), .ref (ad7 12), .ref (ad7 13), .ref (ad7 14), .ref (ad7 15)])), (ad7 9, .inl (ca1, 8, .inl (k0 9))), (ad7 10, .inl (ca1, 8, .inl (k0 10))), (ad7 11, .inl (ca1, 8, .inl (k0 11))), (ad7 12, .inl (ca1, 8, .inl (k0 12))), (ad7 13, .inl (ca1, 8, .inl (k0 13))), (ad7 14, .inl (ca1, 8, .inl (k0 14))), (ad7 15, .inl (ca1, 8, .inl (k0 15))), (q8, .inr (4, [.null, .null, .null, .null, .null]))] _ := hP
  have hD : va_D A [(h0, .inr (5, [.int (nI 0), .int (nI 100), .int (nI 0), .ref q1, .ref (ad3 2), .ref (ad5 6), .ref (ad7 8), .null, .null])), (q1, .inl (ca1, 8, .inl (fun _ => nI 0))), (ad3 2, .inr (0, [.int (k0 2 0), .ref (ad3 3), .ref (ad3 4), .ref (ad3 5)])), (ad3 3, .inl (ca1, 10, .inl (k0 3))), (ad3 4, .inl (ca1, 10, .inl (k0 4))), (ad3 5, .inl (ca1, 80, .inl (k0 5))), (ad5 6, .inr (2, [.ref (ad5 7)])), (ad5 7, .inl (ca1, 8, .inl ((kIL 8) 7))), (ad7 8, .inr (1, [.ref (ad7 9), .ref (ad7 10), .ref (ad7 11), .ref (ad7 12), .ref (ad7 13), .ref (ad7 14), .ref (ad7 15)])), (ad7 9, .inl (ca1, 8, .inl (k0 9))), (ad7 10, .inl (ca1, 8, .inl (k0 10))), (ad7 11, .inl (ca1, 8, .inl (k0 11))), (ad7 12, .inl (ca1, 8, .inl (k0 12))), (ad7 13, .inl (ca1, 8, .inl (k0 13))), (ad7 14, .inl (ca1, 8, .inl (k0 14))), (ad7 15, .inl (ca1, 8, .inl (k0 15))), (q8, .inr (4, [.null, .null, .null, .null, .null]))] := hD
  refine lv_dup hx hb dX5_init_65 rfl ?_
  have hPc := hP.sub (ws' := [(q8, .inr (4, [.null, .null, .null, .null, .null]))]) [16] rfl
  have hDc := hD.sub (ws' := [(q8, .inr (4, [.null, .null, .null, .null, .null]))]) [16] (by decide) rfl
  have hFc := va_free (wc := [(q8, .inr (4, [.null, .null, .null, .null, .null]))]) hD hS hA [16] rfl
  refine va_callv (va_runIN (As := []) (rest := [.ref q8, .ref h0]) ⟨hx, hb, hml, hown, hts⟩ (kX4_init l D q8 _) ⟨va_cnB 0 hts gX5_init_X4_init_n46 rfl rfl rfl (hNW (.methodLinkNest RX5 46 yX4_init "AuditoriumKeys") (List.mem_of_getElem? (i := 13) rfl)) (hts (.initialized RX4) (List.mem_of_getElem? (i := 23) rfl)) (by decide +kernel) ⟨(Nat.le_of_ble_eq_true rfl), (Nat.le_of_ble_eq_true rfl)⟩, rfl, (hts (.instanceMethod yX4_init) (List.mem_of_getElem? (i := 50) rfl))⟩ ⟨zPr_blind _ _ _ _ _, fun U hU hW => ⟨rfl, by rw [hU], by rw [hU]; exact hPc, va_K.moved hW.alike (hK.sub (tys' := []) [] rfl), hDc.weaken (fun _ _ _ _ => trivial)⟩⟩ rfl rfl hl.1 rfl (lv_room (Nat.le_of_ble_eq_true rfl)) dX5_init_66 ⟨(Nat.le_of_ble_eq_true rfl), (Nat.le_of_ble_eq_true rfl)⟩) hS (fun q _ h => hFc q h) hFc (fun u9 t H1 locs ht hvm hw hB hz1 hk1 hS => ?_)
  refine W.widen (k := 21) (n := 489) (Nat.le_of_ble_eq_true rfl) (Nat.le_of_ble_eq_true rfl) ?_
  obtain ⟨ad9, cu9I, cu9Z⟩ := u9
  obtain ⟨hP1, hK1, hD1⟩ := hB
  rw [ht] at hP1
  have hK1 := va_K.moved hvm.symm hK1
  dsimp only at hw hP1 hK1 hD1
  obtain ⟨hP, hD⟩ := va_join (wr := [(h0, .inr (5, [.int (nI 0), .int (nI 100), .int (nI 0), .ref q1, .ref (ad3 2), .ref (ad5 6), .ref (ad7 8), .null, .null])), (q1, .inl (ca1, 8, .inl (fun _ => nI 0))), (ad3 2, .inr (0, [.int (k0 2 0), .ref (ad3 3), .ref (ad3 4), .ref (ad3 5)])), (ad3 3, .inl (ca1, 10, .inl (k0 3))), (ad3 4, .inl (ca1, 10, .inl (k0 4))), (ad3 5, .inl (ca1, 80, .inl (k0 5))), (ad5 6, .inr (2, [.ref (ad5 7)])), (ad5 7, .inl (ca1, 8, .inl ((kIL 8) 7))), (ad7 8, .inr (1, [.ref (ad7 9), .ref (ad7 10), .ref (ad7 11), .ref (ad7 12), .ref (ad7 13), .ref (ad7 14), .ref (ad7 15)])), (ad7 9, .inl (ca1, 8, .inl (k0 9))), (ad7 10, .inl (ca1, 8, .inl (k0 10))), (ad7 11, .inl (ca1, 8, .inl (k0 11))), (ad7 12, .inl (ca1, 8, .inl (k0 12))), (ad7 13, .inl (ca1, 8, .inl (k0 13))), (ad7 14, .inl (ca1, 8, .inl (k0 14))), (ad7 15, .inl (ca1, 8, .inl (k0 15)))]) (w1 := (kwS ad9 cu9I cu9Z (kIS 60))) hP hD [16] [0, 1, 2, 3, 4, 5, 6, 7, 8, 9, 10, 11, 12, 13, 14, 15] rfl rfl (by decide) (by decide) hk1 hFc hP1 hD1
  generalize H1 = H at hP hS ⊢
  have hK := hK.app hK1
  have hK : va_K D vwCl [(ca1, .int), (cu9I, .int), (cu9Z, .boolean)] s := hK
  have ec : cu9I = ca1 := zcI hK (i := 1) (j := 0) rfl rfl
  subst cu9I
  have hK := hK.sub (tys' := [(ca1, .int), (cu9Z, .boolean)]) [0, 2] rfl
  have hP : va_P D vwCl [(h0, .inr (5, [.int (nI 0), .int (nI 100), .int (nI 0), .ref q1, .ref (ad3 2), .ref (ad5 6), .ref (ad7 8), .null, .null])), (q1, .inl (ca1, 8, .inl (fun _ => nI 0))), (ad3 2, .inr (0, [.int (k0 2 0), .ref (ad3 3), .ref (ad3 4), .ref (ad3 5)])), (ad3 3, .inl (ca1, 10, .inl (k0 3))), (ad3 4, .inl (ca1, 10, .inl (k0 4))), (ad3 5, .inl (ca1, 80, .inl (k0 5))), (ad5 6, .inr (2, [.ref (ad5 7)])), (ad5 7, .inl (ca1, 8, .inl ((kIL 8) 7))), (ad7 8, .inr (1, [.ref (ad7 9), .ref (ad7 10), .ref (ad7 11), .ref (ad7 12), .ref (ad7 13), .ref (ad7 14), .ref (ad7 15)])), (ad7 9, .inl (ca1, 8, .inl (k0 9))), (ad7 10, .inl (ca1, 8, .inl (k0 10))), (ad7 11, .inl (ca1, 8, .inl (k0 11))), (ad7 12, .inl (ca1, 8, .inl (k0 12))), (ad7 13, .inl (ca1, 8, .inl (k0 13))), (ad7 14, .inl (ca1, 8, .inl (k0 14))), (ad7 15, .inl (ca1, 8, .inl (k0 15))), (ad9 16, .inr (4, [.ref (ad9 17), .ref (ad9 18), .ref (ad9 19), .ref (ad9 20), .ref (ad9 21)])), (ad9 17, .inl (cu9Z, 60, .inl ((kIS 60) 17))), (ad9 18, .inl (cu9Z, 60, .inl ((kIS 60) 18))), (ad9 19, .inl (ca1, 60, .inl ((kIS 60) 19))), (ad9 20, .inl (ca1, 60, .inl ((kIS 60) 20))), (ad9 21, .inl (ca1, 60, .inl ((kIS 60) 21)))] _ := hP
  have hD : va_D A [(h0, .inr (5, [.int (nI 0), .int (nI 100), .int (nI 0), .ref q1, .ref (ad3 2), .ref (ad5 6), .ref (ad7 8), .null, .null])), (q1, .inl (ca1, 8, .inl (fun _ => nI 0))), (ad3 2, .inr (0, [.int (k0 2 0), .ref (ad3 3), .ref (ad3 4), .ref (ad3 5)])), (ad3 3, .inl (ca1, 10, .inl (k0 3))), (ad3 4, .inl (ca1, 10, .inl (k0 4))), (ad3 5, .inl (ca1, 80, .inl (k0 5))), (ad5 6, .inr (2, [.ref (ad5 7)])), (ad5 7, .inl (ca1, 8, .inl ((kIL 8) 7))), (ad7 8, .inr (1, [.ref (ad7 9), .ref (ad7 10), .ref (ad7 11), .ref (ad7 12), .ref (ad7 13), .ref (ad7 14), .ref (ad7 15)])), (ad7 9, .inl (ca1, 8, .inl (k0 9))), (ad7 10, .inl (ca1, 8, .inl (k0 10))), (ad7 11, .inl (ca1, 8, .inl (k0 11))), (ad7 12, .inl (ca1, 8, .inl (k0 12))), (ad7 13, .inl (ca1, 8, .inl (k0 13))), (ad7 14, .inl (ca1, 8, .inl (k0 14))), (ad7 15, .inl (ca1, 8, .inl (k0 15))), (ad9 16, .inr (4, [.ref (ad9 17), .ref (ad9 18), .ref (ad9 19), .ref (ad9 20), .ref (ad9 21)])), (ad9 17, .inl (cu9Z, 60, .inl ((kIS 60) 17))), (ad9 18, .inl (cu9Z, 60, .inl ((kIS 60) 18))), (ad9 19, .inl (ca1, 60, .inl ((kIS 60) 19))), (ad9 20, .inl (ca1, 60, .inl ((kIS 60) 20))), (ad9 21, .inl (ca1, 60, .inl ((kIS 60) 21)))] := hD
  have hb9 : ad9 16 = q8 := hw
  rw [← hb9]
  refine va_putF (D := D) (ci := 5) (v := .ref (ad9 16)) (ty := .object "AuditoriumKeys$Seats") (C := RX5) (T := TX5) (N := 9) hx hb hts hinX5 tyX5 tyX5_ok nmX5 hown hK hP hD hS 0 rfl rfl 7 (by decide) (hts (.fieldLink RX5 47 "AuditoriumKeys" "seats" "LAuditoriumKeys$Seats;") (List.mem_of_getElem? (i := 24) rfl)) (fun _ h9 => h9) rfl hin rfl (by decide +kernel) rfl rfl (Nat.le_of_ble_eq_true rfl) dX5_init_69 (fun H locs hP hD hS => ?_)
  have hP : va_P D vwCl [(h0, .inr (5, [.int (nI 0), .int (nI 100), .int (nI 0), .ref q1, .ref (ad3 2), .ref (ad5 6), .ref (ad7 8), .ref (ad9 16), .null])), (q1, .inl (ca1, 8, .inl (fun _ => nI 0))), (ad3 2, .inr (0, [.int (k0 2 0), .ref (ad3 3), .ref (ad3 4), .ref (ad3 5)])), (ad3 3, .inl (ca1, 10, .inl (k0 3))), (ad3 4, .inl (ca1, 10, .inl (k0 4))), (ad3 5, .inl (ca1, 80, .inl (k0 5))), (ad5 6, .inr (2, [.ref (ad5 7)])), (ad5 7, .inl (ca1, 8, .inl ((kIL 8) 7))), (ad7 8, .inr (1, [.ref (ad7 9), .ref (ad7 10), .ref (ad7 11), .ref (ad7 12), .ref (ad7 13), .ref (ad7 14), .ref (ad7 15)])), (ad7 9, .inl (ca1, 8, .inl (k0 9))), (ad7 10, .inl (ca1, 8, .inl (k0 10))), (ad7 11, .inl (ca1, 8, .inl (k0 11))), (ad7 12, .inl (ca1, 8, .inl (k0 12))), (ad7 13, .inl (ca1, 8, .inl (k0 13))), (ad7 14, .inl (ca1, 8, .inl (k0 14))), (ad7 15, .inl (ca1, 8, .inl (k0 15))), (ad9 16, .inr (4, [.ref (ad9 17), .ref (ad9 18), .ref (ad9 19), .ref (ad9 20), .ref (ad9 21)])), (ad9 17, .inl (cu9Z, 60, .inl ((kIS 60) 17))), (ad9 18, .inl (cu9Z, 60, .inl ((kIS 60) 18))), (ad9 19, .inl (ca1, 60, .inl ((kIS 60) 19))), (ad9 20, .inl (ca1, 60, .inl ((kIS 60) 20))), (ad9 21, .inl (ca1, 60, .inl ((kIS 60) 21)))] _ := hP
  have hD : va_D A [(h0, .inr (5, [.int (nI 0), .int (nI 100), .int (nI 0), .ref q1, .ref (ad3 2), .ref (ad5 6), .ref (ad7 8), .ref (ad9 16), .null])), (q1, .inl (ca1, 8, .inl (fun _ => nI 0))), (ad3 2, .inr (0, [.int (k0 2 0), .ref (ad3 3), .ref (ad3 4), .ref (ad3 5)])), (ad3 3, .inl (ca1, 10, .inl (k0 3))), (ad3 4, .inl (ca1, 10, .inl (k0 4))), (ad3 5, .inl (ca1, 80, .inl (k0 5))), (ad5 6, .inr (2, [.ref (ad5 7)])), (ad5 7, .inl (ca1, 8, .inl ((kIL 8) 7))), (ad7 8, .inr (1, [.ref (ad7 9), .ref (ad7 10), .ref (ad7 11), .ref (ad7 12), .ref (ad7 13), .ref (ad7 14), .ref (ad7 15)])), (ad7 9, .inl (ca1, 8, .inl (k0 9))), (ad7 10, .inl (ca1, 8, .inl (k0 10))), (ad7 11, .inl (ca1, 8, .inl (k0 11))), (ad7 12, .inl (ca1, 8, .inl (k0 12))), (ad7 13, .inl (ca1, 8, .inl (k0 13))), (ad7 14, .inl (ca1, 8, .inl (k0 14))), (ad7 15, .inl (ca1, 8, .inl (k0 15))), (ad9 16, .inr (4, [.ref (ad9 17), .ref (ad9 18), .ref (ad9 19), .ref (ad9 20), .ref (ad9 21)])), (ad9 17, .inl (cu9Z, 60, .inl ((kIS 60) 17))), (ad9 18, .inl (cu9Z, 60, .inl ((kIS 60) 18))), (ad9 19, .inl (ca1, 60, .inl ((kIS 60) 19))), (ad9 20, .inl (ca1, 60, .inl ((kIS 60) 20))), (ad9 21, .inl (ca1, 60, .inl ((kIS 60) 21)))] := hD
  refine lv_aload_n hx hb dX5_init_72 rfl (lv_at hl 0 rfl) ?_
  refine va_new (ci := 3) (fs := [.int (nI 0), .null, .null, .null]) (C := RX3) (T := TX3) (N := 4) hx hb hts hinX3 tyX3 tyX3_ok hown (hts (.classLink RX5 51 RX3) (List.mem_of_getElem? (i := 25) rfl)) (hts (.instantiable RX3 4) (List.mem_of_getElem? (i := 26) rfl)) (hts (.initialized RX3) (List.mem_of_getElem? (i := 27) rfl)) hK hP hD hS hA rfl (fun j hj => by rcases (show j = 0 ∨ j = 1 ∨ j = 2 ∨ j = 3 by omega) with rfl | rfl | rfl | rfl <;> rfl) (Nat.le_of_ble_eq_true rfl) (Nat.le_of_ble_eq_true rfl) dX5_init_73 (fun q10 H hP hD hS => ?_)
  refine W.widen (k := 22) (n := 493) (Nat.le_of_ble_eq_true rfl) (Nat.le_of_ble_eq_true rfl) ?_
  have hP : va_P D vwCl [(h0, .inr (5, [.int (nI 0), .int (nI 100), .int (nI 0), .ref q1, .ref (ad3 2), .ref (ad5 6), .ref (ad7 8), .ref (ad9 16), .null])), (q1, .inl (ca1, 8, .inl (fun _ => nI 0))), (ad3 2, .inr (0, [.int (k0 2 0), .ref (ad3 3), .ref (ad3 4), .ref (ad3 5)])), (ad3 3, .inl (ca1, 10, .inl (k0 3))), (ad3 4, .inl (ca1, 10, .inl (k0 4))), (ad3 5, .inl (ca1, 80, .inl (k0 5))), (ad5 6, .inr (2, [.ref (ad5 7)])), (ad5 7, .inl (ca1, 8, .inl ((kIL 8) 7))), (ad7 8, .inr (1, [.ref (ad7 9), .ref (ad7 10), .ref (ad7 11), .ref (ad7 12), .ref (ad7 13), .ref (ad7 14), .ref (ad7 15)])), (ad7 9, .inl (ca1, 8, .inl (k0 9))), (ad7 10, .inl (ca1, 8, .inl (k0 10))), (ad7 11, .inl (ca1, 8, .inl (k0 11))), (ad7 12, .inl (ca1, 8, .inl (k0 12))), (ad7 13, .inl (ca1, 8, .inl (k0 13))), (ad7 14, .inl (ca1, 8, .inl (k0 14))), (ad7 15, .inl (ca1, 8, .inl (k0 15))), (ad9 16, .inr (4, [.ref (ad9 17), .ref (ad9 18), .ref (ad9 19), .ref (ad9 20), .ref (ad9 21)])), (ad9 17, .inl (cu9Z, 60, .inl ((kIS 60) 17))), (ad9 18, .inl (cu9Z, 60, .inl ((kIS 60) 18))), (ad9 19, .inl (ca1, 60, .inl ((kIS 60) 19))), (ad9 20, .inl (ca1, 60, .inl ((kIS 60) 20))), (ad9 21, .inl (ca1, 60, .inl ((kIS 60) 21))), (q10, .inr (3, [.int (nI 0), .null, .null, .null]))] _ := hP
  have hD : va_D A [(h0, .inr (5, [.int (nI 0), .int (nI 100), .int (nI 0), .ref q1, .ref (ad3 2), .ref (ad5 6), .ref (ad7 8), .ref (ad9 16), .null])), (q1, .inl (ca1, 8, .inl (fun _ => nI 0))), (ad3 2, .inr (0, [.int (k0 2 0), .ref (ad3 3), .ref (ad3 4), .ref (ad3 5)])), (ad3 3, .inl (ca1, 10, .inl (k0 3))), (ad3 4, .inl (ca1, 10, .inl (k0 4))), (ad3 5, .inl (ca1, 80, .inl (k0 5))), (ad5 6, .inr (2, [.ref (ad5 7)])), (ad5 7, .inl (ca1, 8, .inl ((kIL 8) 7))), (ad7 8, .inr (1, [.ref (ad7 9), .ref (ad7 10), .ref (ad7 11), .ref (ad7 12), .ref (ad7 13), .ref (ad7 14), .ref (ad7 15)])), (ad7 9, .inl (ca1, 8, .inl (k0 9))), (ad7 10, .inl (ca1, 8, .inl (k0 10))), (ad7 11, .inl (ca1, 8, .inl (k0 11))), (ad7 12, .inl (ca1, 8, .inl (k0 12))), (ad7 13, .inl (ca1, 8, .inl (k0 13))), (ad7 14, .inl (ca1, 8, .inl (k0 14))), (ad7 15, .inl (ca1, 8, .inl (k0 15))), (ad9 16, .inr (4, [.ref (ad9 17), .ref (ad9 18), .ref (ad9 19), .ref (ad9 20), .ref (ad9 21)])), (ad9 17, .inl (cu9Z, 60, .inl ((kIS 60) 17))), (ad9 18, .inl (cu9Z, 60, .inl ((kIS 60) 18))), (ad9 19, .inl (ca1, 60, .inl ((kIS 60) 19))), (ad9 20, .inl (ca1, 60, .inl ((kIS 60) 20))), (ad9 21, .inl (ca1, 60, .inl ((kIS 60) 21))), (q10, .inr (3, [.int (nI 0), .null, .null, .null]))] := hD
  refine lv_dup hx hb dX5_init_76 rfl ?_
  have hPc := hP.sub (ws' := [(q10, .inr (3, [.int (nI 0), .null, .null, .null]))]) [22] rfl
  have hDc := hD.sub (ws' := [(q10, .inr (3, [.int (nI 0), .null, .null, .null]))]) [22] (by decide) rfl
  have hFc := va_free (wc := [(q10, .inr (3, [.int (nI 0), .null, .null, .null]))]) hD hS hA [22] rfl
  refine va_callv (va_runIN (As := []) (rest := [.ref q10, .ref h0]) ⟨hx, hb, hml, hown, hts⟩ (kX3_init l D q10 _) ⟨va_cnB 0 hts gX5_init_X3_init_n53 rfl rfl rfl (hNW (.methodLinkNest RX5 53 yX3_init "AuditoriumKeys") (List.mem_of_getElem? (i := 14) rfl)) (hts (.initialized RX3) (List.mem_of_getElem? (i := 27) rfl)) (by decide +kernel) ⟨(Nat.le_of_ble_eq_true rfl), (Nat.le_of_ble_eq_true rfl)⟩, rfl, (hts (.instanceMethod yX3_init) (List.mem_of_getElem? (i := 59) rfl))⟩ ⟨zPr_blind _ _ _ _ _, fun U hU hW => ⟨rfl, by rw [hU], by rw [hU]; exact hPc, va_K.moved hW.alike (hK.sub (tys' := []) [] rfl), hDc.weaken (fun _ _ _ _ => trivial)⟩⟩ rfl rfl hl.1 rfl (lv_room (Nat.le_of_ble_eq_true rfl)) dX5_init_77 ⟨(Nat.le_of_ble_eq_true rfl), (Nat.le_of_ble_eq_true rfl)⟩) hS (fun q _ h => hFc q h) hFc (fun u11 t H1 locs ht hvm hw hB hz1 hk1 hS => ?_)
  refine W.widen (k := 25) (n := 1003) (Nat.le_of_ble_eq_true rfl) (Nat.le_of_ble_eq_true rfl) ?_
  obtain ⟨ad11, cu11I⟩ := u11
  obtain ⟨hP1, hK1, hD1⟩ := hB
  rw [ht] at hP1
  have hK1 := va_K.moved hvm.symm hK1
  dsimp only at hw hP1 hK1 hD1
  obtain ⟨hP, hD⟩ := va_join (wr := [(h0, .inr (5, [.int (nI 0), .int (nI 100), .int (nI 0), .ref q1, .ref (ad3 2), .ref (ad5 6), .ref (ad7 8), .ref (ad9 16), .null])), (q1, .inl (ca1, 8, .inl (fun _ => nI 0))), (ad3 2, .inr (0, [.int (k0 2 0), .ref (ad3 3), .ref (ad3 4), .ref (ad3 5)])), (ad3 3, .inl (ca1, 10, .inl (k0 3))), (ad3 4, .inl (ca1, 10, .inl (k0 4))), (ad3 5, .inl (ca1, 80, .inl (k0 5))), (ad5 6, .inr (2, [.ref (ad5 7)])), (ad5 7, .inl (ca1, 8, .inl ((kIL 8) 7))), (ad7 8, .inr (1, [.ref (ad7 9), .ref (ad7 10), .ref (ad7 11), .ref (ad7 12), .ref (ad7 13), .ref (ad7 14), .ref (ad7 15)])), (ad7 9, .inl (ca1, 8, .inl (k0 9))), (ad7 10, .inl (ca1, 8, .inl (k0 10))), (ad7 11, .inl (ca1, 8, .inl (k0 11))), (ad7 12, .inl (ca1, 8, .inl (k0 12))), (ad7 13, .inl (ca1, 8, .inl (k0 13))), (ad7 14, .inl (ca1, 8, .inl (k0 14))), (ad7 15, .inl (ca1, 8, .inl (k0 15))), (ad9 16, .inr (4, [.ref (ad9 17), .ref (ad9 18), .ref (ad9 19), .ref (ad9 20), .ref (ad9 21)])), (ad9 17, .inl (cu9Z, 60, .inl ((kIS 60) 17))), (ad9 18, .inl (cu9Z, 60, .inl ((kIS 60) 18))), (ad9 19, .inl (ca1, 60, .inl ((kIS 60) 19))), (ad9 20, .inl (ca1, 60, .inl ((kIS 60) 20))), (ad9 21, .inl (ca1, 60, .inl ((kIS 60) 21)))]) (w1 := (kwT ad11 cu11I k0)) hP hD [22] [0, 1, 2, 3, 4, 5, 6, 7, 8, 9, 10, 11, 12, 13, 14, 15, 16, 17, 18, 19, 20, 21] rfl rfl (by decide) (by decide) hk1 hFc hP1 hD1
  generalize H1 = H at hP hS ⊢
  have hK := hK.app hK1
  have hK : va_K D vwCl [(ca1, .int), (cu9Z, .boolean), (cu11I, .int)] s := hK
  have ec : cu11I = ca1 := zcI hK (i := 2) (j := 0) rfl rfl
  subst cu11I
  have hK := hK.sub (tys' := [(ca1, .int), (cu9Z, .boolean)]) [0, 1] rfl
  have hP : va_P D vwCl [(h0, .inr (5, [.int (nI 0), .int (nI 100), .int (nI 0), .ref q1, .ref (ad3 2), .ref (ad5 6), .ref (ad7 8), .ref (ad9 16), .null])), (q1, .inl (ca1, 8, .inl (fun _ => nI 0))), (ad3 2, .inr (0, [.int (k0 2 0), .ref (ad3 3), .ref (ad3 4), .ref (ad3 5)])), (ad3 3, .inl (ca1, 10, .inl (k0 3))), (ad3 4, .inl (ca1, 10, .inl (k0 4))), (ad3 5, .inl (ca1, 80, .inl (k0 5))), (ad5 6, .inr (2, [.ref (ad5 7)])), (ad5 7, .inl (ca1, 8, .inl ((kIL 8) 7))), (ad7 8, .inr (1, [.ref (ad7 9), .ref (ad7 10), .ref (ad7 11), .ref (ad7 12), .ref (ad7 13), .ref (ad7 14), .ref (ad7 15)])), (ad7 9, .inl (ca1, 8, .inl (k0 9))), (ad7 10, .inl (ca1, 8, .inl (k0 10))), (ad7 11, .inl (ca1, 8, .inl (k0 11))), (ad7 12, .inl (ca1, 8, .inl (k0 12))), (ad7 13, .inl (ca1, 8, .inl (k0 13))), (ad7 14, .inl (ca1, 8, .inl (k0 14))), (ad7 15, .inl (ca1, 8, .inl (k0 15))), (ad9 16, .inr (4, [.ref (ad9 17), .ref (ad9 18), .ref (ad9 19), .ref (ad9 20), .ref (ad9 21)])), (ad9 17, .inl (cu9Z, 60, .inl ((kIS 60) 17))), (ad9 18, .inl (cu9Z, 60, .inl ((kIS 60) 18))), (ad9 19, .inl (ca1, 60, .inl ((kIS 60) 19))), (ad9 20, .inl (ca1, 60, .inl ((kIS 60) 20))), (ad9 21, .inl (ca1, 60, .inl ((kIS 60) 21))), (ad11 22, .inr (3, [.int (k0 22 0), .ref (ad11 23), .ref (ad11 24), .ref (ad11 25)])), (ad11 23, .inl (ca1, 170, .inl (k0 23))), (ad11 24, .inl (ca1, 170, .inl (k0 24))), (ad11 25, .inl (ca1, 170, .inl (k0 25)))] _ := hP
  have hD : va_D A [(h0, .inr (5, [.int (nI 0), .int (nI 100), .int (nI 0), .ref q1, .ref (ad3 2), .ref (ad5 6), .ref (ad7 8), .ref (ad9 16), .null])), (q1, .inl (ca1, 8, .inl (fun _ => nI 0))), (ad3 2, .inr (0, [.int (k0 2 0), .ref (ad3 3), .ref (ad3 4), .ref (ad3 5)])), (ad3 3, .inl (ca1, 10, .inl (k0 3))), (ad3 4, .inl (ca1, 10, .inl (k0 4))), (ad3 5, .inl (ca1, 80, .inl (k0 5))), (ad5 6, .inr (2, [.ref (ad5 7)])), (ad5 7, .inl (ca1, 8, .inl ((kIL 8) 7))), (ad7 8, .inr (1, [.ref (ad7 9), .ref (ad7 10), .ref (ad7 11), .ref (ad7 12), .ref (ad7 13), .ref (ad7 14), .ref (ad7 15)])), (ad7 9, .inl (ca1, 8, .inl (k0 9))), (ad7 10, .inl (ca1, 8, .inl (k0 10))), (ad7 11, .inl (ca1, 8, .inl (k0 11))), (ad7 12, .inl (ca1, 8, .inl (k0 12))), (ad7 13, .inl (ca1, 8, .inl (k0 13))), (ad7 14, .inl (ca1, 8, .inl (k0 14))), (ad7 15, .inl (ca1, 8, .inl (k0 15))), (ad9 16, .inr (4, [.ref (ad9 17), .ref (ad9 18), .ref (ad9 19), .ref (ad9 20), .ref (ad9 21)])), (ad9 17, .inl (cu9Z, 60, .inl ((kIS 60) 17))), (ad9 18, .inl (cu9Z, 60, .inl ((kIS 60) 18))), (ad9 19, .inl (ca1, 60, .inl ((kIS 60) 19))), (ad9 20, .inl (ca1, 60, .inl ((kIS 60) 20))), (ad9 21, .inl (ca1, 60, .inl ((kIS 60) 21))), (ad11 22, .inr (3, [.int (k0 22 0), .ref (ad11 23), .ref (ad11 24), .ref (ad11 25)])), (ad11 23, .inl (ca1, 170, .inl (k0 23))), (ad11 24, .inl (ca1, 170, .inl (k0 24))), (ad11 25, .inl (ca1, 170, .inl (k0 25)))] := hD
  have hb11 : ad11 22 = q10 := hw
  rw [← hb11]
  refine va_putF (D := D) (ci := 5) (v := .ref (ad11 22)) (ty := .object "AuditoriumKeys$Sales") (C := RX5) (T := TX5) (N := 9) hx hb hts hinX5 tyX5 tyX5_ok nmX5 hown hK hP hD hS 0 rfl rfl 8 (by decide) (hts (.fieldLink RX5 54 "AuditoriumKeys" "sales" "LAuditoriumKeys$Sales;") (List.mem_of_getElem? (i := 28) rfl)) (fun _ h9 => h9) rfl hin rfl (by decide +kernel) rfl rfl (Nat.le_of_ble_eq_true rfl) dX5_init_80 (fun H locs hP hD hS => ?_)
  have hP : va_P D vwCl [(h0, .inr (5, [.int (nI 0), .int (nI 100), .int (nI 0), .ref q1, .ref (ad3 2), .ref (ad5 6), .ref (ad7 8), .ref (ad9 16), .ref (ad11 22)])), (q1, .inl (ca1, 8, .inl (fun _ => nI 0))), (ad3 2, .inr (0, [.int (k0 2 0), .ref (ad3 3), .ref (ad3 4), .ref (ad3 5)])), (ad3 3, .inl (ca1, 10, .inl (k0 3))), (ad3 4, .inl (ca1, 10, .inl (k0 4))), (ad3 5, .inl (ca1, 80, .inl (k0 5))), (ad5 6, .inr (2, [.ref (ad5 7)])), (ad5 7, .inl (ca1, 8, .inl ((kIL 8) 7))), (ad7 8, .inr (1, [.ref (ad7 9), .ref (ad7 10), .ref (ad7 11), .ref (ad7 12), .ref (ad7 13), .ref (ad7 14), .ref (ad7 15)])), (ad7 9, .inl (ca1, 8, .inl (k0 9))), (ad7 10, .inl (ca1, 8, .inl (k0 10))), (ad7 11, .inl (ca1, 8, .inl (k0 11))), (ad7 12, .inl (ca1, 8, .inl (k0 12))), (ad7 13, .inl (ca1, 8, .inl (k0 13))), (ad7 14, .inl (ca1, 8, .inl (k0 14))), (ad7 15, .inl (ca1, 8, .inl (k0 15))), (ad9 16, .inr (4, [.ref (ad9 17), .ref (ad9 18), .ref (ad9 19), .ref (ad9 20), .ref (ad9 21)])), (ad9 17, .inl (cu9Z, 60, .inl ((kIS 60) 17))), (ad9 18, .inl (cu9Z, 60, .inl ((kIS 60) 18))), (ad9 19, .inl (ca1, 60, .inl ((kIS 60) 19))), (ad9 20, .inl (ca1, 60, .inl ((kIS 60) 20))), (ad9 21, .inl (ca1, 60, .inl ((kIS 60) 21))), (ad11 22, .inr (3, [.int (k0 22 0), .ref (ad11 23), .ref (ad11 24), .ref (ad11 25)])), (ad11 23, .inl (ca1, 170, .inl (k0 23))), (ad11 24, .inl (ca1, 170, .inl (k0 24))), (ad11 25, .inl (ca1, 170, .inl (k0 25)))] _ := hP
  have hD : va_D A [(h0, .inr (5, [.int (nI 0), .int (nI 100), .int (nI 0), .ref q1, .ref (ad3 2), .ref (ad5 6), .ref (ad7 8), .ref (ad9 16), .ref (ad11 22)])), (q1, .inl (ca1, 8, .inl (fun _ => nI 0))), (ad3 2, .inr (0, [.int (k0 2 0), .ref (ad3 3), .ref (ad3 4), .ref (ad3 5)])), (ad3 3, .inl (ca1, 10, .inl (k0 3))), (ad3 4, .inl (ca1, 10, .inl (k0 4))), (ad3 5, .inl (ca1, 80, .inl (k0 5))), (ad5 6, .inr (2, [.ref (ad5 7)])), (ad5 7, .inl (ca1, 8, .inl ((kIL 8) 7))), (ad7 8, .inr (1, [.ref (ad7 9), .ref (ad7 10), .ref (ad7 11), .ref (ad7 12), .ref (ad7 13), .ref (ad7 14), .ref (ad7 15)])), (ad7 9, .inl (ca1, 8, .inl (k0 9))), (ad7 10, .inl (ca1, 8, .inl (k0 10))), (ad7 11, .inl (ca1, 8, .inl (k0 11))), (ad7 12, .inl (ca1, 8, .inl (k0 12))), (ad7 13, .inl (ca1, 8, .inl (k0 13))), (ad7 14, .inl (ca1, 8, .inl (k0 14))), (ad7 15, .inl (ca1, 8, .inl (k0 15))), (ad9 16, .inr (4, [.ref (ad9 17), .ref (ad9 18), .ref (ad9 19), .ref (ad9 20), .ref (ad9 21)])), (ad9 17, .inl (cu9Z, 60, .inl ((kIS 60) 17))), (ad9 18, .inl (cu9Z, 60, .inl ((kIS 60) 18))), (ad9 19, .inl (ca1, 60, .inl ((kIS 60) 19))), (ad9 20, .inl (ca1, 60, .inl ((kIS 60) 20))), (ad9 21, .inl (ca1, 60, .inl ((kIS 60) 21))), (ad11 22, .inr (3, [.int (k0 22 0), .ref (ad11 23), .ref (ad11 24), .ref (ad11 25)])), (ad11 23, .inl (ca1, 170, .inl (k0 23))), (ad11 24, .inl (ca1, 170, .inl (k0 24))), (ad11 25, .inl (ca1, 170, .inl (k0 25)))] := hD
  have hP9 : va_P D vwCl (kwA (zad [h0, q1, ad3 2, ad3 3, ad3 4, ad3 5, ad5 6, ad5 7, ad7 8, ad7 9, ad7 10, ad7 11, ad7 12, ad7 13, ad7 14, ad7 15, ad9 16, ad9 17, ad9 18, ad9 19, ad9 20, ad9 21, ad11 22, ad11 23, ad11 24, ad11 25]) ca1 cu9Z kInit) _ := hP
  have hD9 : va_D A (kwA (zad [h0, q1, ad3 2, ad3 3, ad3 4, ad3 5, ad5 6, ad5 7, ad7 8, ad7 9, ad7 10, ad7 11, ad7 12, ad7 13, ad7 14, ad7 15, ad9 16, ad9 17, ad9 18, ad9 19, ad9 20, ad9 21, ad11 22, ad11 23, ad11 24, ad11 25]) ca1 cu9Z kInit) := hD
  have hK9 := hK.sub (tys' := [(ca1, .int), (cu9Z, .boolean)]) [0, 1] rfl
  exact W.vret hx hb hr (fun t ht hW => ⟨⟨((zad [h0, q1, ad3 2, ad3 3, ad3 4, ad3 5, ad5 6, ad5 7, ad7 8, ad7 9, ad7 10, ad7 11, ad7 12, ad7 13, ad7 14, ad7 15, ad9 16, ad9 17, ad9 18, ad9 19, ad9 20, ad9 21, ad11 22, ad11 23, ad11 24, ad11 25]), ca1, cu9Z), rfl, rfl, by rw [ht]; exact hP9, va_K.moved hW.alike hK9, hD9⟩, hS.F ht⟩) hS.2.2 dX5_init_83
