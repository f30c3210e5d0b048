set_option maxHeartbeats 4000000 in
set_option maxRecDepth 100000 in
theorem kX6_time (l : Launch) (D : va_G) (cI cZ : ClassId) (ad : Nat → Nat) (K : kS) (sz : Nat)   : Met l yX6_time wsX6_time ({ frames := 0, cells := 0, slots := 0, locals := 0 }) (va_Pc [.ref (ad 0)] (zPr D (zTy cI cZ) (mwA ad cI cZ K) sz)) (va_Qi (fun r (_ : Unit) => r = K 0 1) (fun _ => zPo D (zTy cI cZ) (va_A (mwA ad cI cZ K) sz) (mwA ad cI cZ (mGoes K (nI 0)))) (va_A (mwA ad cI cZ K) sz)) 0 0 (va_A (mwA ad cI cZ K) sz) := by
  refine Met.ofW (cc := cX6_time) (maxL := 1) (ret := (some .int)) (by decide) rfl ?_
  intro pP e s m args below meth c s₁ B hml hv
  obtain ⟨rfl, hsz, hP, hK, hD0⟩ := hv
  have hx := B.exec
  have hb := B.bytes
  have hr := B.returns
  have hts := atoms_spec (ws := wsX6_time) B.pre
  have hown : s.vm.findClass RX6 = some m.cls := findClass_of_methodNamed B.named
  have hlocks := B.notSynchronized
  subst hsz
  have hD := hD0.self (sz := s.heap.size)
  generalize hAe : va_A (mwA ad cI cZ K) s.heap.size = A at hD ⊢
  have hA : ∀ q : Nat, s.heap.size ≤ q → A q := fun q h => by rw [← hAe]; exact Or.inr h
  have hS : va_S A s.heap s.heap [] := va_S.rf
  have hinX6 : ∀ w ∈ u_ws RX6 TX6 21, w ∈ wsX6_time := by decide +kernel
  have hl := lv_entry ([.ref (ad 0)]) (n := 1) (Nat.le_of_ble_eq_true rfl)
  rw [lg_entry_eq]
  generalize (lg_sl ([.ref (ad 0)]) ++ List.replicate (1 - (lg_sl ([.ref (ad 0)])).length) Slot.unset).toArray = ls at hl ⊢
  have hl : lv_has ls 1 [(0, .ref (ad 0))] := hl
  refine lv_aload_n hx hb dX6_time_0 rfl (lv_at hl 0 rfl) ?_
  refine lv_iconst (v := nI 0) hx hb dX6_time_1 (by decide) ?_
  refine va_put (D := D) (ci := 6) (v := .int (nI 0)) (ty := .int) (C := RX6) (T := TX6) (N := 21) hx hb hts hinX6 tyX6 tyX6_ok nmX6 hown hK hP hD hS 0 rfl rfl 0 (by decide) (hts (.fieldLink RX6 63 "AuditoriumKeysModel" "thrown" "I") (List.mem_of_getElem? (i := 1) rfl)) (fun _ h9 => h9) rfl (by decide +kernel) rfl rfl (Nat.le_of_ble_eq_true rfl) dX6_time_2 (fun H locs hP hD hS => ?_)
  have hP : va_P D vwCl (mwA ad cI cZ (setA K 0 (upd (K 0) 0 (nI 0)))) _ := hP
  have hD : va_D A (mwA ad cI cZ (setA K 0 (upd (K 0) 0 (nI 0)))) := hD
  refine lv_aload_n hx hb dX6_time_5 rfl (lv_at hl 0 rfl) ?_
  refine va_get (D := D) (ci := 6) (v := .int ((upd (K 0) 0 (nI 0)) 1)) (C := RX6) (T := TX6) (N := 21) hx hb hts hinX6 hown hK hP 0 rfl rfl 1 (by decide) (hts (.fieldLink RX6 80 "AuditoriumKeysModel" "time" "I") (List.mem_of_getElem? (i := 2) rfl)) (fun _ h9 => h9) rfl dX6_time_6 ?_
  have eK9 : (mGoes K (nI 0)) = (setA K 0 (upd (K 0) 0 (nI 0))) := rfl
  have hP9 := hP
  have hD9 := hD
  rw [← eK9] at hP9 hD9
  exact W.iret (v := (upd (K 0) 0 (nI 0)) 1) hx hb hr (fun t ht hW => ⟨⟨(upd (K 0) 0 (nI 0)) 1, (), rfl, rfl, by rw [ht]; exact hP9, va_K.moved hW.alike hK, hD9⟩, hS.F ht⟩) hS.2.2 dX6_time_9
set_option maxHeartbeats 4000000 in
set_option maxRecDepth 100000 in
theorem kX6_takings (l : Launch) (D : va_G) (cI cZ : ClassId) (ad : Nat → Nat) (K : kS) (sz : Nat)   : Met l yX6_takings wsX6_takings ({ frames := 0, cells := 0, slots := 0, locals := 0 }) (va_Pc [.ref (ad 0)] (zPr D (zTy cI cZ) (mwA ad cI cZ K) sz)) (va_Qi (fun r (_ : Unit) => r = K 0 4) (fun _ => zPo D (zTy cI cZ) (va_A (mwA ad cI cZ K) sz) (mwA ad cI cZ (mGoes K (nI 0)))) (va_A (mwA ad cI cZ K) sz)) 0 0 (va_A (mwA ad cI cZ K) sz) := by
  refine Met.ofW (cc := cX6_takings) (maxL := 1) (ret := (some .int)) (by decide) rfl ?_
  intro pP e s m args below meth c s₁ B hml hv
  obtain ⟨rfl, hsz, hP, hK, hD0⟩ := hv
  have hx := B.exec
  have hb := B.bytes
  have hr := B.returns
  have hts := atoms_spec (ws := wsX6_takings) B.pre
  have hown : s.vm.findClass RX6 = some m.cls := findClass_of_methodNamed B.named
  have hlocks := B.notSynchronized
  subst hsz
  have hD := hD0.self (sz := s.heap.size)
  generalize hAe : va_A (mwA ad cI cZ K) s.heap.size = A at hD ⊢
  have hA : ∀ q : Nat, s.heap.size ≤ q → A q := fun q h => by rw [← hAe]; exact Or.inr h
  have hS : va_S A s.heap s.heap [] := va_S.rf
  have hinX6 : ∀ w ∈ u_ws RX6 TX6 21, w ∈ wsX6_takings := by decide +kernel
  have hl := lv_entry ([.ref (ad 0)]) (n := 1) (Nat.le_of_ble_eq_true rfl)
  rw [lg_entry_eq]
  generalize (lg_sl ([.ref (ad 0)]) ++ List.replicate (1 - (lg_sl ([.ref (ad 0)])).length) Slot.unset).toArray = ls at hl ⊢
  have hl : lv_has ls 1 [(0, .ref (ad 0))] := hl
  refine lv_aload_n hx hb dX6_takings_0 rfl (lv_at hl 0 rfl) ?_
  refine lv_iconst (v := nI 0) hx hb dX6_takings_1 (by decide) ?_
  refine va_put (D := D) (ci := 6) (v := .int (nI 0)) (ty := .int) (C := RX6) (T := TX6) (N := 21) hx hb hts hinX6 tyX6 tyX6_ok nmX6 hown hK hP hD hS 0 rfl rfl 0 (by decide) (hts (.fieldLink RX6 63 "AuditoriumKeysModel" "thrown" "I") (List.mem_of_getElem? (i := 1) rfl)) (fun _ h9 => h9) rfl (by decide +kernel) rfl rfl (Nat.le_of_ble_eq_true rfl) dX6_takings_2 (fun H locs hP hD hS => ?_)
  have hP : va_P D vwCl (mwA ad cI cZ (setA K 0 (upd (K 0) 0 (nI 0)))) _ := hP
  have hD : va_D A (mwA ad cI cZ (setA K 0 (upd (K 0) 0 (nI 0)))) := hD
  refine lv_aload_n hx hb dX6_takings_5 rfl (lv_at hl 0 rfl) ?_
  refine va_get (D := D) (ci := 6) (v := .int ((upd (K 0) 0 (nI 0)) 4)) (C := RX6) (T := TX6) (N := 21) hx hb hts hinX6 hown hK hP 0 rfl rfl 20 (by decide) (hts (.fieldLink RX6 133 "AuditoriumKeysModel" "takings" "I") (List.mem_of_getElem? (i := 2) rfl)) (fun _ h9 => h9) rfl dX6_takings_6 ?_
  have eK9 : (mGoes K (nI 0)) = (setA K 0 (upd (K 0) 0 (nI 0))) := rfl
  have hP9 := hP
  have hD9 := hD
  rw [← eK9] at hP9 hD9
  exact W.iret (v := (upd (K 0) 0 (nI 0)) 4) hx hb hr (fun t ht hW => ⟨⟨(upd (K 0) 0 (nI 0)) 4, (), rfl, rfl, by rw [ht]; exact hP9, va_K.moved hW.alike hK, hD9⟩, hS.F ht⟩) hS.2.2 dX6_takings_9
set_option maxHeartbeats 4000000 in
set_option maxRecDepth 100000 in
theorem kX6_served (l : Launch) (D : va_G) (cI cZ : ClassId) (ad : Nat → Nat) (K : kS) (sz : Nat)   : Met l yX6_served wsX6_served ({ frames := 3, cells := 0, slots := 0, locals := 69 }) (va_Pc [.ref (ad 0)] (zPr D (zTy cI cZ) (mwA ad cI cZ K) sz)) (va_Qi (fun r (_ : Unit) => r = mServed K) (fun _ => zPo D (zTy cI cZ) (va_A (mwA ad cI cZ K) sz) (mwA ad cI cZ (mGoes K (nI 0)))) (va_A (mwA ad cI cZ K) sz)) 0 0 (va_A (mwA ad cI cZ K) sz) := by
  refine Met.ofW (cc := cX6_served) (maxL := 1) (ret := (some .int)) (by decide) rfl ?_
  intro pP e s m args below meth c s₁ B hml hv
  obtain ⟨rfl, hsz, hP, hK, hD0⟩ := hv
  have hx := B.exec
  have hb := B.bytes
  have hr := B.returns
  have hts := atoms_spec (ws := wsX6_served) B.pre
  have hown : s.vm.findClass RX6 = some m.cls := findClass_of_methodNamed B.named
  have hlocks := B.notSynchronized
  subst hsz
  have hD := hD0.self (sz := s.heap.size)
  generalize hAe : va_A (mwA ad cI cZ K) s.heap.size = A at hD ⊢
  have hA : ∀ q : Nat, s.heap.size ≤ q → A q := fun q h => by rw [← hAe]; exact Or.inr h
  have hS : va_S A s.heap s.heap [] := va_S.rf
  have hinX6 : ∀ w ∈ u_ws RX6 TX6 21, w ∈ wsX6_served := by decide +kernel
  have hl := lv_entry ([.ref (ad 0)]) (n := 1) (Nat.le_of_ble_eq_true rfl)
  rw [lg_entry_eq]
  generalize (lg_sl ([.ref (ad 0)]) ++ List.replicate (1 - (lg_sl ([.ref (ad 0)])).length) Slot.unset).toArray = ls at hl ⊢
  have hl : lv_has ls 1 [(0, .ref (ad 0))] := hl
  refine lv_aload_n hx hb dX6_served_0 rfl (lv_at hl 0 rfl) ?_
  refine lv_iconst (v := nI 0) hx hb dX6_served_1 (by decide) ?_
  refine va_put (D := D) (ci := 6) (v := .int (nI 0)) (ty := .int) (C := RX6) (T := TX6) (N := 21) hx hb hts hinX6 tyX6 tyX6_ok nmX6 hown hK hP hD hS 0 rfl rfl 0 (by decide) (hts (.fieldLink RX6 63 "AuditoriumKeysModel" "thrown" "I") (List.mem_of_getElem? (i := 1) rfl)) (fun _ h9 => h9) rfl (by decide +kernel) rfl rfl (Nat.le_of_ble_eq_true rfl) dX6_served_2 (fun H locs hP hD hS => ?_)
  have hP : va_P D vwCl (mwA ad cI cZ (setA K 0 (upd (K 0) 0 (nI 0)))) _ := hP
  have hD : va_D A (mwA ad cI cZ (setA K 0 (upd (K 0) 0 (nI 0)))) := hD
  refine lv_aload_n hx hb dX6_served_5 rfl (lv_at hl 0 rfl) ?_
  refine zc_rV (As := []) (rest := []) ⟨hx, hb, hml, hown, hts⟩ (kX6_servedNow l D cI cZ ad (setA K 0 (upd (K 0) 0 (nI 0)))  ) (cwV 0 hts gX6_served_X6_servedNow rfl rfl rfl (by decide +kernel) ⟨(Nat.le_of_ble_eq_true rfl), (Nat.le_of_ble_eq_true rfl)⟩) hK hP (ci := 6) (q0 := 0) rfl rfl rfl rfl hl.1 rfl (Nat.le_of_ble_eq_true rfl) dX6_served_6 ⟨Nat.zero_le _, Nat.zero_le _⟩ ?_
  have eK9 : (mGoes K (nI 0)) = (setA K 0 (upd (K 0) 0 (nI 0))) := rfl
  have hP9 := hP
  have hD9 := hD
  rw [← eK9] at hP9 hD9
  exact W.iret (v := mServed (setA K 0 (upd (K 0) 0 (nI 0)))) hx hb hr (fun t ht hW => ⟨⟨mServed (setA K 0 (upd (K 0) 0 (nI 0))), (), rfl, rfl, by rw [ht]; exact hP9, va_K.moved hW.alike hK, hD9⟩, hS.F ht⟩) hS.2.2 dX6_served_9
set_option maxHeartbeats 4000000 in
set_option maxRecDepth 100000 in
theorem kX6_pass (l : Launch) (D : va_G) (cI cZ : ClassId) (ad : Nat → Nat) (K : kS) (sz : Nat) (x : Int32)  : Met l yX6_pass wsX6_pass ({ frames := 1, cells := 0, slots := 0, locals := 22 }) (va_Pc [.ref (ad 0), .int x] (zPr D (zTy cI cZ) (mwA ad cI cZ K) sz)) (va_Qi (fun r (_ : Unit) => r = mRes (mPassT K x) (nI (mPassN (mPassB K x) 8))) (fun _ => zPo D (zTy cI cZ) (va_A (mwA ad cI cZ K) sz) (mwA ad cI cZ (mPost (mPassT K x) K (mPassE K x)))) (va_A (mwA ad cI cZ K) sz)) 0 0 (va_A (mwA ad cI cZ K) sz) := by
  refine Met.ofW (cc := cX6_pass) (maxL := 5) (ret := (some .int)) (by decide) rfl ?_
  intro pP e s m args below meth c s₁ B hml hv
  obtain ⟨rfl, hsz, hP, hK, hD0⟩ := hv
  have hx := B.exec
  have hb := B.bytes
  have hr := B.returns
  have hts := atoms_spec (ws := wsX6_pass) B.pre
  have hown : s.vm.findClass RX6 = some m.cls := findClass_of_methodNamed B.named
  have hlocks := B.notSynchronized
  subst hsz
  have hD := hD0.self (sz := s.heap.size)
  generalize hAe : va_A (mwA ad cI cZ K) s.heap.size = A at hD ⊢
  have hA : ∀ q : Nat, s.heap.size ≤ q → A q := fun q h => by rw [← hAe]; exact Or.inr h
  have hS : va_S A s.heap s.heap [] := va_S.rf
  have hinX6 : ∀ w ∈ u_ws RX6 TX6 21, w ∈ wsX6_pass := by decide +kernel
  have hl := lv_entry ([.ref (ad 0), .int x]) (n := 5) (Nat.le_of_ble_eq_true rfl)
  rw [lg_entry_eq]
  generalize (lg_sl ([.ref (ad 0), .int x]) ++ List.replicate (5 - (lg_sl ([.ref (ad 0), .int x])).length) Slot.unset).toArray = ls at hl ⊢
  have hl : lv_has ls 5 [(0, .ref (ad 0)), (1, .int x)] := hl
  refine lv_iload_n hx hb dX6_pass_0 rfl (lv_at hl 1 rfl) ?_
  refine lv_iconst (v := nI 1) hx hb dX6_pass_1 (by decide) ?_
  refine lv_sipush (v := nI 500) hx hb dX6_pass_2 (by decide) ?_
  refine zc_rS (As := [.int x, .int (nI 1), .int (nI 500)]) (rest := []) ⟨hx, hb, hml, hown, hts⟩ (kX6_in l x (nI 1) (nI 500) ) (va_cwS 3 hts gX6_pass_X6_in rfl rfl rfl (by decide +kernel) ⟨(Nat.le_of_ble_eq_true rfl), (Nat.le_of_ble_eq_true rfl)⟩) rfl hl.1 rfl (Nat.le_of_ble_eq_true rfl) dX6_pass_5 ⟨Nat.zero_le _, Nat.zero_le _⟩ ?_
  refine lv_istore_n (lv' := [(2, .int (zb (mIn x (nI 1) (nI 500)))), (0, .ref (ad 0)), (1, .int x)]) hx hb dX6_pass_8 rfl hl (by decide) rfl (fun ls hl => ?_)
  refine lv_aload_n hx hb dX6_pass_9 rfl (lv_at hl 1 rfl) ?_
  refine lv_iload_n hx hb dX6_pass_10 rfl (lv_at hl 0 rfl) ?_
  refine lv_if_ne (tgt := 18) hx hb dX6_pass_11 (by decide) (fun c_1 => ?_) (fun c_1 => ?_)
  · skip
    have c_1 := zb_t c_1
    refine lv_aload_n hx hb dX6_pass_18 rfl (lv_at hl 1 rfl) ?_
    refine va_get (D := D) (ci := 6) (v := .int (K 0 1)) (C := RX6) (T := TX6) (N := 21) hx hb hts hinX6 hown hK hP 0 rfl rfl 1 (by decide) (hts (.fieldLink RX6 80 "AuditoriumKeysModel" "time" "I") (List.mem_of_getElem? (i := 1) rfl)) (fun _ h9 => h9) rfl dX6_pass_19 ?_
    refine lv_iload_n hx hb dX6_pass_22 rfl (lv_at hl 2 rfl) ?_
    refine lv_iadd hx hb dX6_pass_23 ?_
    refine lv_sipush (v := nI 10000) hx hb dX6_pass_24 (by decide) ?_
    refine lv_icmp_le (tgt := 34) hx hb dX6_pass_27 (by decide) (fun c_2 => ?_) (fun c_2 => ?_)
    · skip
      have c_2 : (K 0 1) + x ≤ nI 10000 := c_2
      refine lv_iconst (v := nI 0) hx hb dX6_pass_34 (by decide) ?_
      refine zc_wVi (As := [.int (nI 0)]) (rest := []) (wr := []) ⟨hx, hb, hml, hown, hts⟩ (kX6_goesWell l D cI cZ ad K _ (nI 0) ) (cwV 1 hts gX6_pass_X6_goesWell rfl rfl rfl (by decide +kernel) ⟨(Nat.le_of_ble_eq_true rfl), (Nat.le_of_ble_eq_true rfl)⟩) hK hP hD hS hA [0, 1, 2, 3, 4, 5, 6, 7, 8, 9, 10, 11, 12, 13, 14, 15, 16] [] rfl rfl rfl rfl rfl (by decide) (ci := 6) (q0 := 0) rfl rfl rfl rfl hl.1 rfl (Nat.le_of_ble_eq_true rfl) dX6_pass_35 ⟨Nat.zero_le _, Nat.zero_le _⟩ (fun H locs hP hD hS => ?_)
      have hP : va_P D vwCl (mwA ad cI cZ (mGoes K (nI 0))) _ := hP
      have hD : va_D A (mwA ad cI cZ (mGoes K (nI 0))) := hD
      refine zz_top (y := nI 1) (by decide) ?_
      refine lv_if_ne (tgt := 43) hx hb dX6_pass_38 (by decide) (fun c_3 => ?_) (fun c_3 => ?_)
      · skip
        refine lv_aload_n hx hb dX6_pass_43 rfl (lv_at hl 1 rfl) ?_
        refine lv_dup hx hb dX6_pass_44 rfl ?_
        refine va_get (D := D) (ci := 6) (v := .int ((mGoes K (nI 0)) 0 1)) (C := RX6) (T := TX6) (N := 21) hx hb hts hinX6 hown hK hP 0 rfl rfl 1 (by decide) (hts (.fieldLink RX6 80 "AuditoriumKeysModel" "time" "I") (List.mem_of_getElem? (i := 1) rfl)) (fun _ h9 => h9) rfl dX6_pass_45 ?_
        refine lv_iload_n hx hb dX6_pass_48 rfl (lv_at hl 2 rfl) ?_
        refine lv_iadd hx hb dX6_pass_49 ?_
        refine va_put (D := D) (ci := 6) (v := .int (((mGoes K (nI 0)) 0 1) + x)) (ty := .int) (C := RX6) (T := TX6) (N := 21) hx hb hts hinX6 tyX6 tyX6_ok nmX6 hown hK hP hD hS 0 rfl rfl 1 (by decide) (hts (.fieldLink RX6 80 "AuditoriumKeysModel" "time" "I") (List.mem_of_getElem? (i := 1) rfl)) (fun _ h9 => h9) rfl (by decide +kernel) rfl rfl (Nat.le_of_ble_eq_true rfl) dX6_pass_50 (fun H locs hP hD hS => ?_)
        have hP : va_P D vwCl (mwA ad cI cZ (setA (mGoes K (nI 0)) 0 (upd ((mGoes K (nI 0)) 0) 1 (((mGoes K (nI 0)) 0 1) + x)))) _ := hP
        have hD : va_D A (mwA ad cI cZ (setA (mGoes K (nI 0)) 0 (upd ((mGoes K (nI 0)) 0) 1 (((mGoes K (nI 0)) 0 1) + x)))) := hD
        refine lv_iconst (v := nI 0) hx hb dX6_pass_53 (by decide) ?_
        refine lv_istore_n (lv' := [(3, .int (nI 0)), (2, .int (zb (mIn x (nI 1) (nI 500)))), (0, .ref (ad 0)), (1, .int x)]) hx hb dX6_pass_54 rfl hl (by decide) rfl (fun ls hl => ?_)
        refine lv_iconst (v := nI 0) hx hb dX6_pass_55 (by decide) ?_
        refine lv_istore (lv' := [(4, .int (nI 0)), (3, .int (nI 0)), (2, .int (zb (mIn x (nI 1) (nI 500)))), (0, .ref (ad 0)), (1, .int x)]) hx hb dX6_pass_56 hl (by decide) rfl (fun ls hl => ?_)
        have lp_a : ∀ (n i : Nat), 0 ≤ i → i ≤ 8 → 8 - i < n → ∀ (H : Heap) (locs : List Loc), va_P D vwCl (mwA ad cI cZ (mPassS (mPassB K x) i)) H → va_D A (mwA ad cI cZ (mPassS (mPassB K x) i)) → va_S A s.heap H locs → ∀ ls : Array Slot, lv_has ls 5 [(4, .int (nI i)), (3, .int (nI (mPassN (mPassB K x) i))), (2, .int (zb (mIn x (nI 1) (nI 500)))), (0, .ref (ad 0)), (1, .int x)] → W pP l e ({ frames := 1, cells := 0, slots := 0, locals := 22 } : Room) s m ([.ref (ad 0), .int x] : List Value).toArray below meth c H locs 0 0 (MQ below (va_Qi (fun r (_ : Unit) => r = mRes (mPassT K x) (nI (mPassN (mPassB K x) 8))) (fun _ => zPo D (zTy cI cZ) A (mwA ad cI cZ (mPost (mPassT K x) K (mPassE K x)))) A) ([.ref (ad 0), .int x] : List Value).toArray s 0 0 A) (F0 m 58 ls []) := by
          intro n
          induction n with
          | zero => intro i _ _ h; exact absurd h (Nat.not_lt_zero _)
          | succ n ih_a =>
            intro i hlo_a hin_a hdn_a  H locs hP hD hS ls hl
            refine lv_iload hx hb dX6_pass_58 (lv_at hl 0 rfl) ?_
            refine lv_bipush (v := nI 8) hx hb dX6_pass_60 (by decide) ?_
            refine lv_icmp_ge (tgt := 105) hx hb dX6_pass_62 (by decide) (fun c_4 => ?_) (fun c_4 => ?_)
            · skip
              have c_4 := (nI_leI (a := 8) (b := i) (by omega) (by omega)).mp c_4
              have hi8 : i = 8 := by omega
              subst hi8
              refine lv_iload_n hx hb dX6_pass_105 rfl (lv_at hl 1 rfl) ?_
              have hT9 : mPassT K x = nI 0 := by simp [mPassT, c_1, c_2, c_3, hin_a, c_4]
              have eK9 : (mPost (mPassT K x) K (mPassE K x)) = (mPassS (mPassB K x) 8) := by rw [hT9, mPost_0] <;> rfl
              have hP9 := hP
              have hD9 := hD
              rw [← eK9] at hP9 hD9
              have eR9 : nI (mPassN (mPassB K x) 8) = mRes (mPassT K x) (nI (mPassN (mPassB K x) 8)) := by rw [hT9, mRes_0] <;> rfl
              exact W.iret (v := nI (mPassN (mPassB K x) 8)) hx hb hr (fun t ht hW => ⟨⟨nI (mPassN (mPassB K x) 8), (), rfl, eR9, by rw [ht]; exact hP9, va_K.moved hW.alike hK, hD9⟩, hS.F ht⟩) hS.2.2 dX6_pass_106
            · skip
              have c_4 : ¬ 8 ≤ i := fun h => c_4 ((nI_leI (a := 8) (b := i) (by omega) (by omega)).mpr h)
              refine lv_aload_n hx hb dX6_pass_65 rfl (lv_at hl 3 rfl) ?_
              refine va_get (D := D) (ci := 6) (v := .ref (ad 5)) (C := RX6) (T := TX6) (N := 21) hx hb hts hinX6 hown hK hP 0 rfl rfl 8 (by decide) (hts (.fieldLink RX6 26 "AuditoriumKeysModel" "firsts" "[I") (List.mem_of_getElem? (i := 2) rfl)) (fun _ h9 => h9) rfl dX6_pass_66 ?_
              refine lv_iload hx hb dX6_pass_69 (lv_at hl 0 rfl) ?_
              refine zz_iald hx hb hK hP 5 0 rfl rfl i (by omega) (by decide) dX6_pass_71 ?_
              refine lv_iconst (v := (-1)) hx hb dX6_pass_72 (by decide) ?_
              refine lv_icmp_eq (tgt := 99) hx hb dX6_pass_73 (by decide) (fun c_5 => ?_) (fun c_5 => ?_)
              · skip
                have c_5 : (mPassS (mPassB K x) i) 5 i = (-1) := c_5
                refine lv_iinc (v := nI (i + 1)) (lv' := [(4, .int (nI (i + 1))), (3, .int (nI (mPassN (mPassB K x) i))), (2, .int (zb (mIn x (nI 1) (nI 500)))), (0, .ref (ad 0)), (1, .int x)]) hx hb dX6_pass_99 hl (k := 0) rfl ((show nI i + Int32.ofInt 1 = nI i + nI 1 from rfl).trans (nI_add _ _)) (by decide) rfl (fun ls hl => ?_)
                refine lv_goto (tgt := 58) hx hb dX6_pass_102 (by decide) ?_
                have es_6 : nI (mPassN (mPassB K x) (i + 1)) = nI (mPassN (mPassB K x) i) := (by simp only [mPassN]; rw [if_pos c_5])
                have eK_7 : (mPassS (mPassB K x) (i + 1)) = (mPassS (mPassB K x) i) := (by simp only [mPassS]; rw [if_pos c_5])
                exact ih_a (i + 1) (by omega) (by omega) (by omega)  _ _ (by rw [eK_7]; exact hP) (by rw [eK_7]; exact hD) hS ls (by rw [es_6]; exact lv_sub hl [0, 1, 2, 3, 4] rfl)
              · skip
                have c_5 : ¬ (mPassS (mPassB K x) i) 5 i = (-1) := c_5
                refine lv_aload_n hx hb dX6_pass_76 rfl (lv_at hl 3 rfl) ?_
                refine va_get (D := D) (ci := 6) (v := .ref (ad 11)) (C := RX6) (T := TX6) (N := 21) hx hb hts hinX6 hown hK hP 0 rfl rfl 14 (by decide) (hts (.fieldLink RX6 44 "AuditoriumKeysModel" "lapsesAt" "[I") (List.mem_of_getElem? (i := 3) rfl)) (fun _ h9 => h9) rfl dX6_pass_77 ?_
                refine lv_iload hx hb dX6_pass_80 (lv_at hl 0 rfl) ?_
                refine zz_iald hx hb hK hP 11 0 rfl rfl i (by omega) (by decide) dX6_pass_82 ?_
                refine lv_aload_n hx hb dX6_pass_83 rfl (lv_at hl 3 rfl) ?_
                refine va_get (D := D) (ci := 6) (v := .int ((mPassS (mPassB K x) i) 0 1)) (C := RX6) (T := TX6) (N := 21) hx hb hts hinX6 hown hK hP 0 rfl rfl 1 (by decide) (hts (.fieldLink RX6 80 "AuditoriumKeysModel" "time" "I") (List.mem_of_getElem? (i := 1) rfl)) (fun _ h9 => h9) rfl dX6_pass_84 ?_
                refine lv_icmp_gt (tgt := 99) hx hb dX6_pass_87 (by decide) (fun c_8 => ?_) (fun c_8 => ?_)
                · skip
                  have c_8 : (mPassS (mPassB K x) i) 0 1 < (mPassS (mPassB K x) i) 11 i := c_8
                  refine lv_iinc (v := nI (i + 1)) (lv' := [(4, .int (nI (i + 1))), (3, .int (nI (mPassN (mPassB K x) i))), (2, .int (zb (mIn x (nI 1) (nI 500)))), (0, .ref (ad 0)), (1, .int x)]) hx hb dX6_pass_99 hl (k := 0) rfl ((show nI i + Int32.ofInt 1 = nI i + nI 1 from rfl).trans (nI_add _ _)) (by decide) rfl (fun ls hl => ?_)
                  refine lv_goto (tgt := 58) hx hb dX6_pass_102 (by decide) ?_
                  have es_9 : nI (mPassN (mPassB K x) (i + 1)) = nI (mPassN (mPassB K x) i) := (by simp only [mPassN]; rw [if_neg c_5, if_pos c_8])
                  have eK_10 : (mPassS (mPassB K x) (i + 1)) = (mPassS (mPassB K x) i) := (by simp only [mPassS]; rw [if_neg c_5, if_pos c_8])
                  exact ih_a (i + 1) (by omega) (by omega) (by omega)  _ _ (by rw [eK_10]; exact hP) (by rw [eK_10]; exact hD) hS ls (by rw [es_9]; exact lv_sub hl [0, 1, 2, 3, 4] rfl)
                · skip
                  have c_8 : ¬ (mPassS (mPassB K x) i) 0 1 < (mPassS (mPassB K x) i) 11 i := c_8
                  refine lv_aload_n hx hb dX6_pass_90 rfl (lv_at hl 3 rfl) ?_
                  refine lv_iload hx hb dX6_pass_91 (lv_at hl 0 rfl) ?_
                  refine zc_wVv (As := [.int (nI i)]) (rest := []) (wr := []) ⟨hx, hb, hml, hown, hts⟩ (kX6_dropHold l D cI cZ ad (mPassS (mPassB K x) i) _ i (by omega)) (cwV 1 hts gX6_pass_X6_dropHold rfl rfl rfl (by decide +kernel) ⟨(Nat.le_of_ble_eq_true rfl), (Nat.le_of_ble_eq_true rfl)⟩) hK hP hD hS hA [0, 1, 2, 3, 4, 5, 6, 7, 8, 9, 10, 11, 12, 13, 14, 15, 16] [] rfl rfl rfl rfl rfl (by decide) (ci := 6) (q0 := 0) rfl rfl rfl rfl hl.1 rfl (Nat.le_of_ble_eq_true rfl) dX6_pass_93 ⟨Nat.zero_le _, Nat.zero_le _⟩ (fun H locs hP hD hS => ?_)
                  have hP : va_P D vwCl (mwA ad cI cZ (mDrop (mPassS (mPassB K x) i) i)) _ := hP
                  have hD : va_D A (mwA ad cI cZ (mDrop (mPassS (mPassB K x) i) i)) := hD
                  refine lv_iinc (v := nI ((mPassN (mPassB K x) i) + 1)) (lv' := [(3, .int (nI ((mPassN (mPassB K x) i) + 1))), (4, .int (nI i)), (2, .int (zb (mIn x (nI 1) (nI 500)))), (0, .ref (ad 0)), (1, .int x)]) hx hb dX6_pass_96 hl (k := 1) rfl ((show nI (mPassN (mPassB K x) i) + Int32.ofInt 1 = nI (mPassN (mPassB K x) i) + nI 1 from rfl).trans (nI_add _ _)) (by decide) rfl (fun ls hl => ?_)
                  refine lv_iinc (v := nI (i + 1)) (lv' := [(4, .int (nI (i + 1))), (3, .int (nI ((mPassN (mPassB K x) i) + 1))), (2, .int (zb (mIn x (nI 1) (nI 500)))), (0, .ref (ad 0)), (1, .int x)]) hx hb dX6_pass_99 hl (k := 1) rfl ((show nI i + Int32.ofInt 1 = nI i + nI 1 from rfl).trans (nI_add _ _)) (by decide) rfl (fun ls hl => ?_)
                  refine lv_goto (tgt := 58) hx hb dX6_pass_102 (by decide) ?_
                  have es_11 : nI (mPassN (mPassB K x) (i + 1)) = nI ((mPassN (mPassB K x) i) + 1) := (by simp only [mPassN]; rw [if_neg c_5, if_neg c_8])
                  have eK_12 : (mPassS (mPassB K x) (i + 1)) = (mDrop (mPassS (mPassB K x) i) i) := (by simp only [mPassS]; rw [if_neg c_5, if_neg c_8])
                  exact ih_a (i + 1) (by omega) (by omega) (by omega)  _ _ (by rw [eK_12]; exact hP) (by rw [eK_12]; exact hD) hS ls (by rw [es_11]; exact lv_sub hl [0, 1, 2, 3, 4] rfl)
        have ei_a_3 : nI (mPassN (mPassB K x) 0) = nI 0 := rfl
        have eK_a : (mPassS (mPassB K x) 0) = (setA (mGoes K (nI 0)) 0 (upd ((mGoes K (nI 0)) 0) 1 (((mGoes K (nI 0)) 0 1) + x))) := rfl
        exact lp_a (8 - 0 + 1) 0 (by omega) (by omega) (by omega)  _ _ (by rw [eK_a]; exact hP) (by rw [eK_a]; exact hD) hS ls (by rw [ei_a_3]; exact lv_sub hl [0, 1, 2, 3, 4] rfl)
      · skip
        exact absurd c_3 (by decide)
    · skip
      have c_2 : ¬ (K 0 1) + x ≤ nI 10000 := c_2
      refine lv_iconst (v := nI 2) hx hb dX6_pass_30 (by decide) ?_
      refine lv_goto (tgt := 35) hx hb dX6_pass_31 (by decide) ?_
      refine zc_wVi (As := [.int (nI 2)]) (rest := []) (wr := []) ⟨hx, hb, hml, hown, hts⟩ (kX6_goesWell l D cI cZ ad K _ (nI 2) ) (cwV 1 hts gX6_pass_X6_goesWell rfl rfl rfl (by decide +kernel) ⟨(Nat.le_of_ble_eq_true rfl), (Nat.le_of_ble_eq_true rfl)⟩) hK hP hD hS hA [0, 1, 2, 3, 4, 5, 6, 7, 8, 9, 10, 11, 12, 13, 14, 15, 16] [] rfl rfl rfl rfl rfl (by decide) (ci := 6) (q0 := 0) rfl rfl rfl rfl hl.1 rfl (Nat.le_of_ble_eq_true rfl) dX6_pass_35 ⟨Nat.zero_le _, Nat.zero_le _⟩ (fun H locs hP hD hS => ?_)
      have hP : va_P D vwCl (mwA ad cI cZ (mGoes K (nI 2))) _ := hP
      have hD : va_D A (mwA ad cI cZ (mGoes K (nI 2))) := hD
      refine zz_top (y := nI 0) (by decide) ?_
      refine lv_if_ne (tgt := 43) hx hb dX6_pass_38 (by decide) (fun c_13 => ?_) (fun c_13 => ?_)
      · skip
        exact absurd (show nI 0 = 0 from rfl) c_13
      · skip
        refine lv_iconst (v := nI 0) hx hb dX6_pass_41 (by decide) ?_
        have hT9 : mPassT K x = nI 2 := by simp [mPassT, c_1, c_2, eq_true c_13]
        have eK9 : (mPost (mPassT K x) K (mPassE K x)) = (mGoes K (nI 2)) := by rw [hT9, mPost_2] <;> rfl
        have hP9 := hP
        have hD9 := hD
        rw [← eK9] at hP9 hD9
        have eR9 : nI 0 = mRes (mPassT K x) (nI (mPassN (mPassB K x) 8)) := by rw [hT9, mRes_2] <;> rfl
        exact W.iret (v := nI 0) hx hb hr (fun t ht hW => ⟨⟨nI 0, (), rfl, eR9, by rw [ht]; exact hP9, va_K.moved hW.alike hK, hD9⟩, hS.F ht⟩) hS.2.2 dX6_pass_42
  · skip
    have c_1 := zb_f c_1
    refine lv_iconst (v := nI 1) hx hb dX6_pass_14 (by decide) ?_
    refine lv_goto (tgt := 35) hx hb dX6_pass_15 (by decide) ?_
    refine zc_wVi (As := [.int (nI 1)]) (rest := []) (wr := []) ⟨hx, hb, hml, hown, hts⟩ (kX6_goesWell l D cI cZ ad K _ (nI 1) ) (cwV 1 hts gX6_pass_X6_goesWell rfl rfl rfl (by decide +kernel) ⟨(Nat.le_of_ble_eq_true rfl), (Nat.le_of_ble_eq_true rfl)⟩) hK hP hD hS hA [0, 1, 2, 3, 4, 5, 6, 7, 8, 9, 10, 11, 12, 13, 14, 15, 16] [] rfl rfl rfl rfl rfl (by decide) (ci := 6) (q0 := 0) rfl rfl rfl rfl hl.1 rfl (Nat.le_of_ble_eq_true rfl) dX6_pass_35 ⟨Nat.zero_le _, Nat.zero_le _⟩ (fun H locs hP hD hS => ?_)
    have hP : va_P D vwCl (mwA ad cI cZ (mGoes K (nI 1))) _ := hP
    have hD : va_D A (mwA ad cI cZ (mGoes K (nI 1))) := hD
    refine zz_top (y := nI 0) (by decide) ?_
    refine lv_if_ne (tgt := 43) hx hb dX6_pass_38 (by decide) (fun c_14 => ?_) (fun c_14 => ?_)
    · skip
      exact absurd (show nI 0 = 0 from rfl) c_14
    · skip
      refine lv_iconst (v := nI 0) hx hb dX6_pass_41 (by decide) ?_
      have hT9 : mPassT K x = nI 1 := by simp [mPassT, c_1, eq_true c_14]
      have eK9 : (mPost (mPassT K x) K (mPassE K x)) = (mGoes K (nI 1)) := by rw [hT9, mPost_1] <;> rfl
      have hP9 := hP
      have hD9 := hD
      rw [← eK9] at hP9 hD9
      have eR9 : nI 0 = mRes (mPassT K x) (nI (mPassN (mPassB K x) 8)) := by rw [hT9, mRes_1] <;> rfl
      exact W.iret (v := nI 0) hx hb hr (fun t ht hW => ⟨⟨nI 0, (), rfl, eR9, by rw [ht]; exact hP9, va_K.moved hW.alike hK, hD9⟩, hS.F ht⟩) hS.2.2 dX6_pass_42
set_option maxHeartbeats 4000000 in
set_option maxRecDepth 100000 in
theorem kX6_setOpening (l : Launch) (D : va_G) (cI cZ : ClassId) (ad : Nat → Nat) (K : kS) (sz : Nat) (x : Int32)  : Met l yX6_setOpening wsX6_setOpening ({ frames := 1, cells := 0, slots := 0, locals := 22 }) (va_Pc [.ref (ad 0), .int x] (zPr D (zTy cI cZ) (mwA ad cI cZ K) sz)) (va_Qi (fun r (_ : Unit) => r = mRes (mSetT x) (K 0 2)) (fun _ => zPo D (zTy cI cZ) (va_A (mwA ad cI cZ K) sz) (mwA ad cI cZ (mPost (mSetT x) K (mSetE K x)))) (va_A (mwA ad cI cZ K) sz)) 0 0 (va_A (mwA ad cI cZ K) sz) := by
  refine Met.ofW (cc := cX6_setOpening) (maxL := 3) (ret := (some .int)) (by decide) rfl ?_
  intro pP e s m args below meth c s₁ B hml hv
  obtain ⟨rfl, hsz, hP, hK, hD0⟩ := hv
  have hx := B.exec
  have hb := B.bytes
  have hr := B.returns
  have hts := atoms_spec (ws := wsX6_setOpening) B.pre
  have hown : s.vm.findClass RX6 = some m.cls := findClass_of_methodNamed B.named
  have hlocks := B.notSynchronized
  subst hsz
  have hD := hD0.self (sz := s.heap.size)
  generalize hAe : va_A (mwA ad cI cZ K) s.heap.size = A at hD ⊢
  have hA : ∀ q : Nat, s.heap.size ≤ q → A q := fun q h => by rw [← hAe]; exact Or.inr h
  have hS : va_S A s.heap s.heap [] := va_S.rf
  have hinX6 : ∀ w ∈ u_ws RX6 TX6 21, w ∈ wsX6_setOpening := by decide +kernel
  have hl := lv_entry ([.ref (ad 0), .int x]) (n := 3) (Nat.le_of_ble_eq_true rfl)
  rw [lg_entry_eq]
  generalize (lg_sl ([.ref (ad 0), .int x]) ++ List.replicate (3 - (lg_sl ([.ref (ad 0), .int x])).length) Slot.unset).toArray = ls at hl ⊢
  have hl : lv_has ls 3 [(0, .ref (ad 0)), (1, .int x)] := hl
  refine lv_aload_n hx hb dX6_setOpening_0 rfl (lv_at hl 0 rfl) ?_
  refine lv_iload_n hx hb dX6_setOpening_1 rfl (lv_at hl 1 rfl) ?_
  refine lv_iconst (v := nI 0) hx hb dX6_setOpening_2 (by decide) ?_
  refine lv_sipush (v := nI 10000) hx hb dX6_setOpening_3 (by decide) ?_
  refine zc_rS (As := [.int x, .int (nI 0), .int (nI 10000)]) (rest := [.ref (ad 0)]) ⟨hx, hb, hml, hown, hts⟩ (kX6_in l x (nI 0) (nI 10000) ) (va_cwS 3 hts gX6_setOpening_X6_in rfl rfl rfl (by decide +kernel) ⟨(Nat.le_of_ble_eq_true rfl), (Nat.le_of_ble_eq_true rfl)⟩) rfl hl.1 rfl (Nat.le_of_ble_eq_true rfl) dX6_setOpening_6 ⟨Nat.zero_le _, Nat.zero_le _⟩ ?_
  refine lv_if_eq (tgt := 16) hx hb dX6_setOpening_9 (by decide) (fun c_1 => ?_) (fun c_1 => ?_)
  · skip
    have c_1 := zb_f c_1
    refine lv_iconst (v := nI 1) hx hb dX6_setOpening_16 (by decide) ?_
    refine zc_wVi (As := [.int (nI 1)]) (rest := []) (wr := []) ⟨hx, hb, hml, hown, hts⟩ (kX6_goesWell l D cI cZ ad K _ (nI 1) ) (cwV 1 hts gX6_setOpening_X6_goesWell rfl rfl rfl (by decide +kernel) ⟨(Nat.le_of_ble_eq_true rfl), (Nat.le_of_ble_eq_true rfl)⟩) hK hP hD hS hA [0, 1, 2, 3, 4, 5, 6, 7, 8, 9, 10, 11, 12, 13, 14, 15, 16] [] rfl rfl rfl rfl rfl (by decide) (ci := 6) (q0 := 0) rfl rfl rfl rfl hl.1 rfl (Nat.le_of_ble_eq_true rfl) dX6_setOpening_17 ⟨Nat.zero_le _, Nat.zero_le _⟩ (fun H locs hP hD hS => ?_)
    have hP : va_P D vwCl (mwA ad cI cZ (mGoes K (nI 1))) _ := hP
    have hD : va_D A (mwA ad cI cZ (mGoes K (nI 1))) := hD
    refine zz_top (y := nI 0) (by decide) ?_
    refine lv_if_ne (tgt := 25) hx hb dX6_setOpening_20 (by decide) (fun c_2 => ?_) (fun c_2 => ?_)
    · skip
      exact absurd (show nI 0 = 0 from rfl) c_2
    · skip
      refine lv_iconst (v := nI 0) hx hb dX6_setOpening_23 (by decide) ?_
      have hT9 : mSetT x = nI 1 := by simp [mSetT, c_1, eq_true c_2]
      have eK9 : (mPost (mSetT x) K (mSetE K x)) = (mGoes K (nI 1)) := by rw [hT9, mPost_1] <;> rfl
      have hP9 := hP
      have hD9 := hD
      rw [← eK9] at hP9 hD9
      have eR9 : nI 0 = mRes (mSetT x) (K 0 2) := by rw [hT9, mRes_1] <;> rfl
      exact W.iret (v := nI 0) hx hb hr (fun t ht hW => ⟨⟨nI 0, (), rfl, eR9, by rw [ht]; exact hP9, va_K.moved hW.alike hK, hD9⟩, hS.F ht⟩) hS.2.2 dX6_setOpening_24
  · skip
    have c_1 := zb_t c_1
    refine lv_iconst (v := nI 0) hx hb dX6_setOpening_12 (by decide) ?_
    refine lv_goto (tgt := 17) hx hb dX6_setOpening_13 (by decide) ?_
    refine zc_wVi (As := [.int (nI 0)]) (rest := []) (wr := []) ⟨hx, hb, hml, hown, hts⟩ (kX6_goesWell l D cI cZ ad K _ (nI 0) ) (cwV 1 hts gX6_setOpening_X6_goesWell rfl rfl rfl (by decide +kernel) ⟨(Nat.le_of_ble_eq_true rfl), (Nat.le_of_ble_eq_true rfl)⟩) hK hP hD hS hA [0, 1, 2, 3, 4, 5, 6, 7, 8, 9, 10, 11, 12, 13, 14, 15, 16] [] rfl rfl rfl rfl rfl (by decide) (ci := 6) (q0 := 0) rfl rfl rfl rfl hl.1 rfl (Nat.le_of_ble_eq_true rfl) dX6_setOpening_17 ⟨Nat.zero_le _, Nat.zero_le _⟩ (fun H locs hP hD hS => ?_)
    have hP : va_P D vwCl (mwA ad cI cZ (mGoes K (nI 0))) _ := hP
    have hD : va_D A (mwA ad cI cZ (mGoes K (nI 0))) := hD
    refine zz_top (y := nI 1) (by decide) ?_
    refine lv_if_ne (tgt := 25) hx hb dX6_setOpening_20 (by decide) (fun c_3 => ?_) (fun c_3 => ?_)
    · skip
      refine lv_aload_n hx hb dX6_setOpening_25 rfl (lv_at hl 0 rfl) ?_
      refine va_get (D := D) (ci := 6) (v := .int ((mGoes K (nI 0)) 0 2)) (C := RX6) (T := TX6) (N := 21) hx hb hts hinX6 hown hK hP 0 rfl rfl 2 (by decide) (hts (.fieldLink RX6 7 "AuditoriumKeysModel" "opening" "I") (List.mem_of_getElem? (i := 1) rfl)) (fun _ h9 => h9) rfl dX6_setOpening_26 ?_
      refine lv_istore_n (lv' := [(2, .int ((mGoes K (nI 0)) 0 2)), (0, .ref (ad 0)), (1, .int x)]) hx hb dX6_setOpening_29 rfl hl (by decide) rfl (fun ls hl => ?_)
      refine lv_aload_n hx hb dX6_setOpening_30 rfl (lv_at hl 1 rfl) ?_
      refine lv_iload_n hx hb dX6_setOpening_31 rfl (lv_at hl 2 rfl) ?_
      refine va_put (D := D) (ci := 6) (v := .int x) (ty := .int) (C := RX6) (T := TX6) (N := 21) hx hb hts hinX6 tyX6 tyX6_ok nmX6 hown hK hP hD hS 0 rfl rfl 2 (by decide) (hts (.fieldLink RX6 7 "AuditoriumKeysModel" "opening" "I") (List.mem_of_getElem? (i := 1) rfl)) (fun _ h9 => h9) rfl (by decide +kernel) rfl rfl (Nat.le_of_ble_eq_true rfl) dX6_setOpening_32 (fun H locs hP hD hS => ?_)
      have hP : va_P D vwCl (mwA ad cI cZ (setA (mGoes K (nI 0)) 0 (upd ((mGoes K (nI 0)) 0) 2 x))) _ := hP
      have hD : va_D A (mwA ad cI cZ (setA (mGoes K (nI 0)) 0 (upd ((mGoes K (nI 0)) 0) 2 x))) := hD
      refine lv_iload_n hx hb dX6_setOpening_35 rfl (lv_at hl 0 rfl) ?_
      have hT9 : mSetT x = nI 0 := by simp [mSetT, c_1, c_3]
      have eK9 : (mPost (mSetT x) K (mSetE K x)) = (setA (mGoes K (nI 0)) 0 (upd ((mGoes K (nI 0)) 0) 2 x)) := by rw [hT9, mPost_0] <;> rfl
      have hP9 := hP
      have hD9 := hD
      rw [← eK9] at hP9 hD9
      have eR9 : (mGoes K (nI 0)) 0 2 = mRes (mSetT x) (K 0 2) := by rw [hT9, mRes_0] <;> rfl
      exact W.iret (v := (mGoes K (nI 0)) 0 2) hx hb hr (fun t ht hW => ⟨⟨(mGoes K (nI 0)) 0 2, (), rfl, eR9, by rw [ht]; exact hP9, va_K.moved hW.alike hK, hD9⟩, hS.F ht⟩) hS.2.2 dX6_setOpening_36
    · skip
      exact absurd c_3 (by decide)
set_option maxHeartbeats 4000000 in
set_option maxRecDepth 100000 in
theorem kX6_code (l : Launch) (D : va_G) (cI cZ : ClassId) (ad : Nat → Nat) (K : kS) (sz : Nat) (a9 : Int32) (b9 : Int32) (n9 : Nat) (hn9 : n9 ≤ 10) (hc9 : K 0 3 = nI n9) : Met l yX6_code wsX6_code ({ frames := 1, cells := 0, slots := 0, locals := 22 }) (va_Pc [.ref (ad 0), .int a9, .int b9] (zPr D (zTy cI cZ) (mwA ad cI cZ K) sz)) (va_Qi (fun r (_ : Unit) => r = mRes (mCodeT K a9 b9) (nI n9)) (fun _ => zPo D (zTy cI cZ) (va_A (mwA ad cI cZ K) sz) (mwA ad cI cZ (mPost (mCodeT K a9 b9) K (mCodeE K n9 a9 b9)))) (va_A (mwA ad cI cZ K) sz)) 0 0 (va_A (mwA ad cI cZ K) sz) := by
  refine Met.ofW (cc := cX6_code) (maxL := 4) (ret := (some .int)) (by decide) rfl ?_
  intro pP e s m args below meth c s₁ B hml hv
  obtain ⟨rfl, hsz, hP, hK, hD0⟩ := hv
  have hx := B.exec
  have hb := B.bytes
  have hr := B.returns
  have hts := atoms_spec (ws := wsX6_code) B.pre
  have hown : s.vm.findClass RX6 = some m.cls := findClass_of_methodNamed B.named
  have hlocks := B.notSynchronized
  subst hsz
  have hD := hD0.self (sz := s.heap.size)
  generalize hAe : va_A (mwA ad cI cZ K) s.heap.size = A at hD ⊢
  have hA : ∀ q : Nat, s.heap.size ≤ q → A q := fun q h => by rw [← hAe]; exact Or.inr h
  have hS : va_S A s.heap s.heap [] := va_S.rf
  have hinX6 : ∀ w ∈ u_ws RX6 TX6 21, w ∈ wsX6_code := by decide +kernel
  have hl := lv_entry ([.ref (ad 0), .int a9, .int b9]) (n := 4) (Nat.le_of_ble_eq_true rfl)
  rw [lg_entry_eq]
  generalize (lg_sl ([.ref (ad 0), .int a9, .int b9]) ++ List.replicate (4 - (lg_sl ([.ref (ad 0), .int a9, .int b9])).length) Slot.unset).toArray = ls at hl ⊢
  have hl : lv_has ls 4 [(0, .ref (ad 0)), (1, .int a9), (2, .int b9)] := hl
  have j25 : ∀ (H : Heap) (locs : List Loc), va_P D vwCl (mwA ad cI cZ K) H → va_D A (mwA ad cI cZ K) → va_S A s.heap H locs → ∀ ls : Array Slot, lv_has ls 4 [(0, .ref (ad 0)), (1, .int a9), (2, .int b9)] → W pP l e ({ frames := 1, cells := 0, slots := 0, locals := 22 } : Room) s m ([.ref (ad 0), .int a9, .int b9] : List Value).toArray below meth c H locs 0 0 (MQ below (va_Qi (fun r (_ : Unit) => r = mRes (mCodeT K a9 b9) (nI n9)) (fun _ => zPo D (zTy cI cZ) A (mwA ad cI cZ (mPost (mCodeT K a9 b9) K (mCodeE K n9 a9 b9)))) A) ([.ref (ad 0), .int a9, .int b9] : List Value).toArray s 0 0 A) (F0 m 25 ls [.int (zb (mIn a9 (nI 1) (nI 10) && mIn b9 (nI 1) (nI 20)))]) := by
    intro H locs hP hD hS ls hl
    refine lv_istore_n (lv' := [(3, .int (zb (mIn a9 (nI 1) (nI 10) && mIn b9 (nI 1) (nI 20)))), (0, .ref (ad 0)), (1, .int a9), (2, .int b9)]) hx hb dX6_code_25 rfl hl (by decide) rfl (fun ls hl => ?_)
    refine lv_aload_n hx hb dX6_code_26 rfl (lv_at hl 1 rfl) ?_
    refine lv_iload_n hx hb dX6_code_27 rfl (lv_at hl 0 rfl) ?_
    refine lv_if_ne (tgt := 35) hx hb dX6_code_28 (by decide) (fun c_1 => ?_) (fun c_1 => ?_)
    · skip
      have c_1 := zb_t c_1
      refine lv_aload_n hx hb dX6_code_35 rfl (lv_at hl 1 rfl) ?_
      refine va_get (D := D) (ci := 6) (v := .int (K 0 3)) (C := RX6) (T := TX6) (N := 21) hx hb hts hinX6 hown hK hP 0 rfl rfl 3 (by decide) (hts (.fieldLink RX6 70 "AuditoriumKeysModel" "codes" "I") (List.mem_of_getElem? (i := 1) rfl)) (fun _ h9 => h9) rfl dX6_code_36 ?_
      refine zz_top (y := nI n9) hc9 ?_
      refine lv_bipush (v := nI 10) hx hb dX6_code_39 (by decide) ?_
      refine lv_icmp_ne (tgt := 48) hx hb dX6_code_41 (by decide) (fun c_2 => ?_) (fun c_2 => ?_)
      · skip
        have c_2 : ¬ nI n9 = nI 10 := c_2
        have hn8 : n9 < 10 := by rcases Nat.lt_or_ge n9 10 with q | q; exact q; exact absurd (by rw [show n9 = 10 from by omega]) c_2
        refine lv_iconst (v := nI 0) hx hb dX6_code_48 (by decide) ?_
        refine zc_wVi (As := [.int (nI 0)]) (rest := []) (wr := []) ⟨hx, hb, hml, hown, hts⟩ (kX6_goesWell l D cI cZ ad K _ (nI 0) ) (cwV 1 hts gX6_code_X6_goesWell rfl rfl rfl (by decide +kernel) ⟨(Nat.le_of_ble_eq_true rfl), (Nat.le_of_ble_eq_true rfl)⟩) hK hP hD hS hA [0, 1, 2, 3, 4, 5, 6, 7, 8, 9, 10, 11, 12, 13, 14, 15, 16] [] rfl rfl rfl rfl rfl (by decide) (ci := 6) (q0 := 0) rfl rfl rfl rfl hl.1 rfl (Nat.le_of_ble_eq_true rfl) dX6_code_49 ⟨Nat.zero_le _, Nat.zero_le _⟩ (fun H locs hP hD hS => ?_)
        have hP : va_P D vwCl (mwA ad cI cZ (mGoes K (nI 0))) _ := hP
        have hD : va_D A (mwA ad cI cZ (mGoes K (nI 0))) := hD
        refine zz_top (y := nI 1) (by decide) ?_
        refine lv_if_ne (tgt := 57) hx hb dX6_code_52 (by decide) (fun c_3 => ?_) (fun c_3 => ?_)
        · skip
          refine lv_aload_n hx hb dX6_code_57 rfl (lv_at hl 1 rfl) ?_
          refine va_get (D := D) (ci := 6) (v := .ref (ad 1)) (C := RX6) (T := TX6) (N := 21) hx hb hts hinX6 hown hK hP 0 rfl rfl 4 (by decide) (hts (.fieldLink RX6 13 "AuditoriumKeysModel" "ofPerson" "[I") (List.mem_of_getElem? (i := 2) rfl)) (fun _ h9 => h9) rfl dX6_code_58 ?_
          refine lv_aload_n hx hb dX6_code_61 rfl (lv_at hl 1 rfl) ?_
          refine va_get (D := D) (ci := 6) (v := .int ((mGoes K (nI 0)) 0 3)) (C := RX6) (T := TX6) (N := 21) hx hb hts hinX6 hown hK hP 0 rfl rfl 3 (by decide) (hts (.fieldLink RX6 70 "AuditoriumKeysModel" "codes" "I") (List.mem_of_getElem? (i := 1) rfl)) (fun _ h9 => h9) rfl dX6_code_62 ?_
          refine zz_top (y := nI n9) hc9 ?_
          refine lv_iload_n hx hb dX6_code_65 rfl (lv_at hl 2 rfl) ?_
          refine zz_iast hx hb hK hP hD hS 1 0 rfl rfl n9 (by omega) (by decide) dX6_code_66 (fun H locs hP hD hS => ?_)
          have hP : va_P D vwCl (mwA ad cI cZ (setA (mGoes K (nI 0)) 1 (upd ((mGoes K (nI 0)) 1) n9 a9))) _ := hP
          have hD : va_D A (mwA ad cI cZ (setA (mGoes K (nI 0)) 1 (upd ((mGoes K (nI 0)) 1) n9 a9))) := hD
          refine lv_aload_n hx hb dX6_code_67 rfl (lv_at hl 1 rfl) ?_
          refine va_get (D := D) (ci := 6) (v := .ref (ad 2)) (C := RX6) (T := TX6) (N := 21) hx hb hts hinX6 hown hK hP 0 rfl rfl 5 (by decide) (hts (.fieldLink RX6 17 "AuditoriumKeysModel" "ofHousehold" "[I") (List.mem_of_getElem? (i := 3) rfl)) (fun _ h9 => h9) rfl dX6_code_68 ?_
          refine lv_aload_n hx hb dX6_code_71 rfl (lv_at hl 1 rfl) ?_
          refine va_get (D := D) (ci := 6) (v := .int ((mGoes K (nI 0)) 0 3)) (C := RX6) (T := TX6) (N := 21) hx hb hts hinX6 hown hK hP 0 rfl rfl 3 (by decide) (hts (.fieldLink RX6 70 "AuditoriumKeysModel" "codes" "I") (List.mem_of_getElem? (i := 1) rfl)) (fun _ h9 => h9) rfl dX6_code_72 ?_
          refine zz_top (y := nI n9) hc9 ?_
          refine lv_iload_n hx hb dX6_code_75 rfl (lv_at hl 3 rfl) ?_
          refine zz_iast hx hb hK hP hD hS 2 0 rfl rfl n9 (by omega) (by decide) dX6_code_76 (fun H locs hP hD hS => ?_)
          have hP : va_P D vwCl (mwA ad cI cZ (setA (setA (mGoes K (nI 0)) 1 (upd ((mGoes K (nI 0)) 1) n9 a9)) 2 (upd ((mGoes K (nI 0)) 2) n9 b9))) _ := hP
          have hD : va_D A (mwA ad cI cZ (setA (setA (mGoes K (nI 0)) 1 (upd ((mGoes K (nI 0)) 1) n9 a9)) 2 (upd ((mGoes K (nI 0)) 2) n9 b9))) := hD
          refine lv_aload_n hx hb dX6_code_77 rfl (lv_at hl 1 rfl) ?_
          refine lv_dup hx hb dX6_code_78 rfl ?_
          refine va_get (D := D) (ci := 6) (v := .int ((mGoes K (nI 0)) 0 3)) (C := RX6) (T := TX6) (N := 21) hx hb hts hinX6 hown hK hP 0 rfl rfl 3 (by decide) (hts (.fieldLink RX6 70 "AuditoriumKeysModel" "codes" "I") (List.mem_of_getElem? (i := 1) rfl)) (fun _ h9 => h9) rfl dX6_code_79 ?_
          refine zz_top (y := nI n9) hc9 ?_
          refine lv_iconst (v := nI 1) hx hb dX6_code_82 (by decide) ?_
          refine lv_iadd hx hb dX6_code_83 ?_
          refine zz_top (y := nI (n9 + 1)) ((nI_add n9 1).trans (congrArg nI (by omega))) ?_
          refine va_put (D := D) (ci := 6) (v := .int (nI (n9 + 1))) (ty := .int) (C := RX6) (T := TX6) (N := 21) hx hb hts hinX6 tyX6 tyX6_ok nmX6 hown hK hP hD hS 0 rfl rfl 3 (by decide) (hts (.fieldLink RX6 70 "AuditoriumKeysModel" "codes" "I") (List.mem_of_getElem? (i := 1) rfl)) (fun _ h9 => h9) rfl (by decide +kernel) rfl rfl (Nat.le_of_ble_eq_true rfl) dX6_code_84 (fun H locs hP hD hS => ?_)
          have hP : va_P D vwCl (mwA ad cI cZ (setA (setA (setA (mGoes K (nI 0)) 1 (upd ((mGoes K (nI 0)) 1) n9 a9)) 2 (upd ((mGoes K (nI 0)) 2) n9 b9)) 0 (upd ((mGoes K (nI 0)) 0) 3 (nI (n9 + 1))))) _ := hP
          have hD : va_D A (mwA ad cI cZ (setA (setA (setA (mGoes K (nI 0)) 1 (upd ((mGoes K (nI 0)) 1) n9 a9)) 2 (upd ((mGoes K (nI 0)) 2) n9 b9)) 0 (upd ((mGoes K (nI 0)) 0) 3 (nI (n9 + 1))))) := hD
          refine lv_aload_n hx hb dX6_code_87 rfl (lv_at hl 1 rfl) ?_
          refine va_get (D := D) (ci := 6) (v := .int ((upd ((mGoes K (nI 0)) 0) 3 (nI (n9 + 1))) 3)) (C := RX6) (T := TX6) (N := 21) hx hb hts hinX6 hown hK hP 0 rfl rfl 3 (by decide) (hts (.fieldLink RX6 70 "AuditoriumKeysModel" "codes" "I") (List.mem_of_getElem? (i := 1) rfl)) (fun _ h9 => h9) rfl dX6_code_88 ?_
          refine zz_top (y := nI (n9 + 1)) rfl ?_
          refine lv_iconst (v := nI 1) hx hb dX6_code_91 (by decide) ?_
          refine lv_isub hx hb dX6_code_92 ?_
          refine zz_top (y := nI n9) (nI_pred n9) ?_
          have hT9 : mCodeT K a9 b9 = nI 0 := by simp [mCodeT, hc9, c_1, c_2, hn8, c_3]
          have eK9 : (mPost (mCodeT K a9 b9) K (mCodeE K n9 a9 b9)) = (setA (setA (setA (mGoes K (nI 0)) 1 (upd ((mGoes K (nI 0)) 1) n9 a9)) 2 (upd ((mGoes K (nI 0)) 2) n9 b9)) 0 (upd ((mGoes K (nI 0)) 0) 3 (nI (n9 + 1)))) := by rw [hT9, mPost_0] <;> rfl
          have hP9 := hP
          have hD9 := hD
          rw [← eK9] at hP9 hD9
          have eR9 : nI n9 = mRes (mCodeT K a9 b9) (nI n9) := by rw [hT9, mRes_0] <;> rfl
          exact W.iret (v := nI n9) hx hb hr (fun t ht hW => ⟨⟨nI n9, (), rfl, eR9, by rw [ht]; exact hP9, va_K.moved hW.alike hK, hD9⟩, hS.F ht⟩) hS.2.2 dX6_code_93
        · skip
          exact absurd c_3 (by decide)
      · skip
        have c_2 : nI n9 = nI 10 := c_2
        refine lv_iconst (v := nI 2) hx hb dX6_code_44 (by decide) ?_
        refine lv_goto (tgt := 49) hx hb dX6_code_45 (by decide) ?_
        refine zc_wVi (As := [.int (nI 2)]) (rest := []) (wr := []) ⟨hx, hb, hml, hown, hts⟩ (kX6_goesWell l D cI cZ ad K _ (nI 2) ) (cwV 1 hts gX6_code_X6_goesWell rfl rfl rfl (by decide +kernel) ⟨(Nat.le_of_ble_eq_true rfl), (Nat.le_of_ble_eq_true rfl)⟩) hK hP hD hS hA [0, 1, 2, 3, 4, 5, 6, 7, 8, 9, 10, 11, 12, 13, 14, 15, 16] [] rfl rfl rfl rfl rfl (by decide) (ci := 6) (q0 := 0) rfl rfl rfl rfl hl.1 rfl (Nat.le_of_ble_eq_true rfl) dX6_code_49 ⟨Nat.zero_le _, Nat.zero_le _⟩ (fun H locs hP hD hS => ?_)
        have hP : va_P D vwCl (mwA ad cI cZ (mGoes K (nI 2))) _ := hP
        have hD : va_D A (mwA ad cI cZ (mGoes K (nI 2))) := hD
        refine zz_top (y := nI 0) (by decide) ?_
        refine lv_if_ne (tgt := 57) hx hb dX6_code_52 (by decide) (fun c_4 => ?_) (fun c_4 => ?_)
        · skip
          exact absurd (show nI 0 = 0 from rfl) c_4
        · skip
          refine lv_iconst (v := nI 0) hx hb dX6_code_55 (by decide) ?_
          have hT9 : mCodeT K a9 b9 = nI 2 := by simp [mCodeT, hc9, c_1, eq_true c_2, eq_true c_4]
          have eK9 : (mPost (mCodeT K a9 b9) K (mCodeE K n9 a9 b9)) = (mGoes K (nI 2)) := by rw [hT9, mPost_2] <;> rfl
          have hP9 := hP
          have hD9 := hD
          rw [← eK9] at hP9 hD9
          have eR9 : nI 0 = mRes (mCodeT K a9 b9) (nI n9) := by rw [hT9, mRes_2] <;> rfl
          exact W.iret (v := nI 0) hx hb hr (fun t ht hW => ⟨⟨nI 0, (), rfl, eR9, by rw [ht]; exact hP9, va_K.moved hW.alike hK, hD9⟩, hS.F ht⟩) hS.2.2 dX6_code_56
    · skip
      have c_1 := zb_f c_1
      refine lv_iconst (v := nI 1) hx hb dX6_code_31 (by decide) ?_
      refine lv_goto (tgt := 49) hx hb dX6_code_32 (by decide) ?_
      refine zc_wVi (As := [.int (nI 1)]) (rest := []) (wr := []) ⟨hx, hb, hml, hown, hts⟩ (kX6_goesWell l D cI cZ ad K _ (nI 1) ) (cwV 1 hts gX6_code_X6_goesWell rfl rfl rfl (by decide +kernel) ⟨(Nat.le_of_ble_eq_true rfl), (Nat.le_of_ble_eq_true rfl)⟩) hK hP hD hS hA [0, 1, 2, 3, 4, 5, 6, 7, 8, 9, 10, 11, 12, 13, 14, 15, 16] [] rfl rfl rfl rfl rfl (by decide) (ci := 6) (q0 := 0) rfl rfl rfl rfl hl.1 rfl (Nat.le_of_ble_eq_true rfl) dX6_code_49 ⟨Nat.zero_le _, Nat.zero_le _⟩ (fun H locs hP hD hS => ?_)
      have hP : va_P D vwCl (mwA ad cI cZ (mGoes K (nI 1))) _ := hP
      have hD : va_D A (mwA ad cI cZ (mGoes K (nI 1))) := hD
      refine zz_top (y := nI 0) (by decide) ?_
      refine lv_if_ne (tgt := 57) hx hb dX6_code_52 (by decide) (fun c_5 => ?_) (fun c_5 => ?_)
      · skip
        exact absurd (show nI 0 = 0 from rfl) c_5
      · skip
        refine lv_iconst (v := nI 0) hx hb dX6_code_55 (by decide) ?_
        have hT9 : mCodeT K a9 b9 = nI 1 := by simp [mCodeT, hc9, c_1, eq_true c_5]
        have eK9 : (mPost (mCodeT K a9 b9) K (mCodeE K n9 a9 b9)) = (mGoes K (nI 1)) := by rw [hT9, mPost_1] <;> rfl
        have hP9 := hP
        have hD9 := hD
        rw [← eK9] at hP9 hD9
        have eR9 : nI 0 = mRes (mCodeT K a9 b9) (nI n9) := by rw [hT9, mRes_1] <;> rfl
        exact W.iret (v := nI 0) hx hb hr (fun t ht hW => ⟨⟨nI 0, (), rfl, eR9, by rw [ht]; exact hP9, va_K.moved hW.alike hK, hD9⟩, hS.F ht⟩) hS.2.2 dX6_code_56
  refine lv_iload_n hx hb dX6_code_0 rfl (lv_at hl 1 rfl) ?_
  refine lv_iconst (v := nI 1) hx hb dX6_code_1 (by decide) ?_
  refine lv_bipush (v := nI 10) hx hb dX6_code_2 (by decide) ?_
  refine zc_rS (As := [.int a9, .int (nI 1), .int (nI 10)]) (rest := []) ⟨hx, hb, hml, hown, hts⟩ (kX6_in l a9 (nI 1) (nI 10) ) (va_cwS 3 hts gX6_code_X6_in rfl rfl rfl (by decide +kernel) ⟨(Nat.le_of_ble_eq_true rfl), (Nat.le_of_ble_eq_true rfl)⟩) rfl hl.1 rfl (Nat.le_of_ble_eq_true rfl) dX6_code_4 ⟨Nat.zero_le _, Nat.zero_le _⟩ ?_
  refine lv_if_eq (tgt := 24) hx hb dX6_code_7 (by decide) (fun c_6 => ?_) (fun c_6 => ?_)
  · skip
    have c_6 := zb_f c_6
    refine lv_iconst (v := nI 0) hx hb dX6_code_24 (by decide) ?_
    have ej_7 : zb (mIn a9 (nI 1) (nI 10) && mIn b9 (nI 1) (nI 20)) = nI 0 := (by simp [zb, c_6])
    have jx := j25
    rw [ej_7] at jx
    exact jx _ _ hP hD hS ls (lv_sub hl [0, 1, 2] rfl)
  · skip
    have c_6 := zb_t c_6
    refine lv_iload_n hx hb dX6_code_10 rfl (lv_at hl 2 rfl) ?_
    refine lv_iconst (v := nI 1) hx hb dX6_code_11 (by decide) ?_
    refine lv_bipush (v := nI 20) hx hb dX6_code_12 (by decide) ?_
    refine zc_rS (As := [.int b9, .int (nI 1), .int (nI 20)]) (rest := []) ⟨hx, hb, hml, hown, hts⟩ (kX6_in l b9 (nI 1) (nI 20) ) (va_cwS 3 hts gX6_code_X6_in rfl rfl rfl (by decide +kernel) ⟨(Nat.le_of_ble_eq_true rfl), (Nat.le_of_ble_eq_true rfl)⟩) rfl hl.1 rfl (Nat.le_of_ble_eq_true rfl) dX6_code_14 ⟨Nat.zero_le _, Nat.zero_le _⟩ ?_
    refine lv_if_eq (tgt := 24) hx hb dX6_code_17 (by decide) (fun c_8 => ?_) (fun c_8 => ?_)
    · skip
      have c_8 := zb_f c_8
      refine lv_iconst (v := nI 0) hx hb dX6_code_24 (by decide) ?_
      have ej_9 : zb (mIn a9 (nI 1) (nI 10) && mIn b9 (nI 1) (nI 20)) = nI 0 := (by simp [zb, c_6, c_8])
      have jx := j25
      rw [ej_9] at jx
      exact jx _ _ hP hD hS ls (lv_sub hl [0, 1, 2] rfl)
    · skip
      have c_8 := zb_t c_8
      refine lv_iconst (v := nI 1) hx hb dX6_code_20 (by decide) ?_
      refine lv_goto (tgt := 25) hx hb dX6_code_21 (by decide) ?_
      have ej_10 : zb (mIn a9 (nI 1) (nI 10) && mIn b9 (nI 1) (nI 20)) = nI 1 := (by simp [zb, c_6, c_8])
      have jx := j25
      rw [ej_10] at jx
      exact jx _ _ hP hD hS ls (lv_sub hl [0, 1, 2] rfl)
set_option maxHeartbeats 4000000 in
set_option maxRecDepth 100000 in
theorem kX6_used (l : Launch) (D : va_G) (cI cZ : ClassId) (ad : Nat → Nat) (K : kS) (sz : Nat) (c9 : Int32) (x : Int32) (n9 : Nat) (hn9 : n9 ≤ 10) (hc8 : K 0 3 = nI n9) : Met l yX6_used wsX6_used ({ frames := 2, cells := 0, slots := 0, locals := 43 }) (va_Pc [.ref (ad 0), .int c9, .int x] (zPr D (zTy cI cZ) (mwA ad cI cZ K) sz)) (va_Qi (fun r (_ : Unit) => r = mRes (mUsedT K c9 x) (mUsed K c9.toNatClampNeg x.toNatClampNeg)) (fun _ => zPo D (zTy cI cZ) (va_A (mwA ad cI cZ K) sz) (mwA ad cI cZ (mPost (mUsedT K c9 x) K (mGoes K (nI 0))))) (va_A (mwA ad cI cZ K) sz)) 0 0 (va_A (mwA ad cI cZ K) sz) := by
  refine Met.ofW (cc := cX6_used) (maxL := 3) (ret := (some .int)) (by decide) rfl ?_
  intro pP e s m args below meth c s₁ B hml hv
  obtain ⟨rfl, hsz, hP, hK, hD0⟩ := hv
  have hx := B.exec
  have hb := B.bytes
  have hr := B.returns
  have hts := atoms_spec (ws := wsX6_used) B.pre
  have hown : s.vm.findClass RX6 = some m.cls := findClass_of_methodNamed B.named
  have hlocks := B.notSynchronized
  subst hsz
  have hD := hD0.self (sz := s.heap.size)
  generalize hAe : va_A (mwA ad cI cZ K) s.heap.size = A at hD ⊢
  have hA : ∀ q : Nat, s.heap.size ≤ q → A q := fun q h => by rw [← hAe]; exact Or.inr h
  have hS : va_S A s.heap s.heap [] := va_S.rf
  have hl := lv_entry ([.ref (ad 0), .int c9, .int x]) (n := 3) (Nat.le_of_ble_eq_true rfl)
  rw [lg_entry_eq]
  generalize (lg_sl ([.ref (ad 0), .int c9, .int x]) ++ List.replicate (3 - (lg_sl ([.ref (ad 0), .int c9, .int x])).length) Slot.unset).toArray = ls at hl ⊢
  have hl : lv_has ls 3 [(0, .ref (ad 0)), (1, .int c9), (2, .int x)] := hl
  refine lv_aload_n hx hb dX6_used_0 rfl (lv_at hl 0 rfl) ?_
  refine lv_aload_n hx hb dX6_used_1 rfl (lv_at hl 0 rfl) ?_
  refine lv_iload_n hx hb dX6_used_2 rfl (lv_at hl 1 rfl) ?_
  refine zc_rV (As := [.int c9]) (rest := [.ref (ad 0)]) ⟨hx, hb, hml, hown, hts⟩ (kX6_isCode l D cI cZ ad K c9 ) (cwV 1 hts gX6_used_X6_isCode rfl rfl rfl (by decide +kernel) ⟨(Nat.le_of_ble_eq_true rfl), (Nat.le_of_ble_eq_true rfl)⟩) hK hP (ci := 6) (q0 := 0) rfl rfl rfl rfl hl.1 rfl (Nat.le_of_ble_eq_true rfl) dX6_used_3 ⟨Nat.zero_le _, Nat.zero_le _⟩ ?_
  refine lv_if_eq (tgt := 20) hx hb dX6_used_6 (by decide) (fun c_1 => ?_) (fun c_1 => ?_)
  · skip
    have c_1 := zb_f c_1
    refine lv_iconst (v := nI 1) hx hb dX6_used_20 (by decide) ?_
    refine zc_wVi (As := [.int (nI 1)]) (rest := []) (wr := []) ⟨hx, hb, hml, hown, hts⟩ (kX6_goesWell l D cI cZ ad K _ (nI 1) ) (cwV 1 hts gX6_used_X6_goesWell rfl rfl rfl (by decide +kernel) ⟨(Nat.le_of_ble_eq_true rfl), (Nat.le_of_ble_eq_true rfl)⟩) hK hP hD hS hA [0, 1, 2, 3, 4, 5, 6, 7, 8, 9, 10, 11, 12, 13, 14, 15, 16] [] rfl rfl rfl rfl rfl (by decide) (ci := 6) (q0 := 0) rfl rfl rfl rfl hl.1 rfl (Nat.le_of_ble_eq_true rfl) dX6_used_21 ⟨Nat.zero_le _, Nat.zero_le _⟩ (fun H locs hP hD hS => ?_)
    have hP : va_P D vwCl (mwA ad cI cZ (mGoes K (nI 1))) _ := hP
    have hD : va_D A (mwA ad cI cZ (mGoes K (nI 1))) := hD
    refine zz_top (y := nI 0) (by decide) ?_
    refine lv_if_eq (tgt := 36) hx hb dX6_used_24 (by decide) (fun c_2 => ?_) (fun c_2 => ?_)
    · skip
      refine lv_iconst (v := nI 0) hx hb dX6_used_36 (by decide) ?_
      have hT9 : mUsedT K c9 x = nI 1 := by simp [mUsedT, c_1, eq_true c_2]
      have eK9 : (mPost (mUsedT K c9 x) K (mGoes K (nI 0))) = (mGoes K (nI 1)) := by rw [hT9, mPost_1] <;> rfl
      have hP9 := hP
      have hD9 := hD
      rw [← eK9] at hP9 hD9
      have eR9 : nI 0 = mRes (mUsedT K c9 x) (mUsed K c9.toNatClampNeg x.toNatClampNeg) := by rw [hT9, mRes_1] <;> rfl
      exact W.iret (v := nI 0) hx hb hr (fun t ht hW => ⟨⟨nI 0, (), rfl, eR9, by rw [ht]; exact hP9, va_K.moved hW.alike hK, hD9⟩, hS.F ht⟩) hS.2.2 dX6_used_37
    · skip
      exact absurd (show nI 0 = 0 from rfl) c_2
  · skip
    have c_1 := zb_t c_1
    obtain ⟨q9, hq9, hq8, hq7⟩ := mIsC_of hc8 hn9 c_1
    refine lv_iload_n hx hb dX6_used_9 rfl (lv_at hl 2 rfl) ?_
    refine zc_rS (As := [.int x]) (rest := [.ref (ad 0)]) ⟨hx, hb, hml, hown, hts⟩ (kX6_isPerson l x ) (va_cwS 1 hts gX6_used_X6_isPerson rfl rfl rfl (by decide +kernel) ⟨(Nat.le_of_ble_eq_true rfl), (Nat.le_of_ble_eq_true rfl)⟩) rfl hl.1 rfl (Nat.le_of_ble_eq_true rfl) dX6_used_10 ⟨Nat.zero_le _, Nat.zero_le _⟩ ?_
    refine lv_if_eq (tgt := 20) hx hb dX6_used_13 (by decide) (fun c_3 => ?_) (fun c_3 => ?_)
    · skip
      have c_3 := zb_f c_3
      refine lv_iconst (v := nI 1) hx hb dX6_used_20 (by decide) ?_
      refine zc_wVi (As := [.int (nI 1)]) (rest := []) (wr := []) ⟨hx, hb, hml, hown, hts⟩ (kX6_goesWell l D cI cZ ad K _ (nI 1) ) (cwV 1 hts gX6_used_X6_goesWell rfl rfl rfl (by decide +kernel) ⟨(Nat.le_of_ble_eq_true rfl), (Nat.le_of_ble_eq_true rfl)⟩) hK hP hD hS hA [0, 1, 2, 3, 4, 5, 6, 7, 8, 9, 10, 11, 12, 13, 14, 15, 16] [] rfl rfl rfl rfl rfl (by decide) (ci := 6) (q0 := 0) rfl rfl rfl rfl hl.1 rfl (Nat.le_of_ble_eq_true rfl) dX6_used_21 ⟨Nat.zero_le _, Nat.zero_le _⟩ (fun H locs hP hD hS => ?_)
      have hP : va_P D vwCl (mwA ad cI cZ (mGoes K (nI 1))) _ := hP
      have hD : va_D A (mwA ad cI cZ (mGoes K (nI 1))) := hD
      refine zz_top (y := nI 0) (by decide) ?_
      refine lv_if_eq (tgt := 36) hx hb dX6_used_24 (by decide) (fun c_4 => ?_) (fun c_4 => ?_)
      · skip
        refine lv_iconst (v := nI 0) hx hb dX6_used_36 (by decide) ?_
        have hT9 : mUsedT K c9 x = nI 1 := by simp [mUsedT, c_1, hq7, c_3, eq_true c_4]
        have eK9 : (mPost (mUsedT K c9 x) K (mGoes K (nI 0))) = (mGoes K (nI 1)) := by rw [hT9, mPost_1] <;> rfl
        have hP9 := hP
        have hD9 := hD
        rw [← eK9] at hP9 hD9
        have eR9 : nI 0 = mRes (mUsedT K c9 x) (mUsed K c9.toNatClampNeg x.toNatClampNeg) := by rw [hT9, mRes_1] <;> rfl
        exact W.iret (v := nI 0) hx hb hr (fun t ht hW => ⟨⟨nI 0, (), rfl, eR9, by rw [ht]; exact hP9, va_K.moved hW.alike hK, hD9⟩, hS.F ht⟩) hS.2.2 dX6_used_37
      · skip
        exact absurd (show nI 0 = 0 from rfl) c_4
    · skip
      have c_3 := zb_t c_3
      obtain ⟨p9, hp9, hp8, hp7⟩ := mIsP_of c_3
      refine lv_iconst (v := nI 0) hx hb dX6_used_16 (by decide) ?_
      refine lv_goto (tgt := 21) hx hb dX6_used_17 (by decide) ?_
      refine zc_wVi (As := [.int (nI 0)]) (rest := []) (wr := []) ⟨hx, hb, hml, hown, hts⟩ (kX6_goesWell l D cI cZ ad K _ (nI 0) ) (cwV 1 hts gX6_used_X6_goesWell rfl rfl rfl (by decide +kernel) ⟨(Nat.le_of_ble_eq_true rfl), (Nat.le_of_ble_eq_true rfl)⟩) hK hP hD hS hA [0, 1, 2, 3, 4, 5, 6, 7, 8, 9, 10, 11, 12, 13, 14, 15, 16] [] rfl rfl rfl rfl rfl (by decide) (ci := 6) (q0 := 0) rfl rfl rfl rfl hl.1 rfl (Nat.le_of_ble_eq_true rfl) dX6_used_21 ⟨Nat.zero_le _, Nat.zero_le _⟩ (fun H locs hP hD hS => ?_)
      have hP : va_P D vwCl (mwA ad cI cZ (mGoes K (nI 0))) _ := hP
      have hD : va_D A (mwA ad cI cZ (mGoes K (nI 0))) := hD
      refine zz_top (y := nI 1) (by decide) ?_
      refine lv_if_eq (tgt := 36) hx hb dX6_used_24 (by decide) (fun c_5 => ?_) (fun c_5 => ?_)
      · skip
        exact absurd c_5 (by decide)
      · skip
        refine lv_aload_n hx hb dX6_used_27 rfl (lv_at hl 0 rfl) ?_
        refine lv_iload_n hx hb dX6_used_28 rfl (lv_at hl 1 rfl) ?_
        refine zz_top (y := nI q9) hq8 ?_
        refine lv_iload_n hx hb dX6_used_29 rfl (lv_at hl 2 rfl) ?_
        refine zz_top (y := nI p9) hp8 ?_
        refine zc_rV (As := [.int (nI q9), .int (nI p9)]) (rest := []) ⟨hx, hb, hml, hown, hts⟩ (kX6_usedBy l D cI cZ ad (mGoes K (nI 0)) q9 p9 (by omega) (by omega)) (cwV 2 hts gX6_used_X6_usedBy rfl rfl rfl (by decide +kernel) ⟨(Nat.le_of_ble_eq_true rfl), (Nat.le_of_ble_eq_true rfl)⟩) hK hP (ci := 6) (q0 := 0) rfl rfl rfl rfl hl.1 rfl (Nat.le_of_ble_eq_true rfl) dX6_used_30 ⟨Nat.zero_le _, Nat.zero_le _⟩ ?_
        refine lv_goto (tgt := 37) hx hb dX6_used_33 (by decide) ?_
        have hT9 : mUsedT K c9 x = nI 0 := by simp [mUsedT, c_1, hq7, c_3, hp7, c_5]
        have eK9 : (mPost (mUsedT K c9 x) K (mGoes K (nI 0))) = (mGoes K (nI 0)) := by rw [hT9, mPost_0] <;> rfl
        have hP9 := hP
        have hD9 := hD
        rw [← eK9] at hP9 hD9
        have eR9 : mUsed (mGoes K (nI 0)) q9 p9 = mRes (mUsedT K c9 x) (mUsed K c9.toNatClampNeg x.toNatClampNeg) := by rw [hT9, mRes_0, hq7, hp7] <;> rfl
        exact W.iret (v := mUsed (mGoes K (nI 0)) q9 p9) hx hb hr (fun t ht hW => ⟨⟨mUsed (mGoes K (nI 0)) q9 p9, (), rfl, eR9, by rw [ht]; exact hP9, va_K.moved hW.alike hK, hD9⟩, hS.F ht⟩) hS.2.2 dX6_used_37
set_option maxHeartbeats 4000000 in
set_option maxRecDepth 100000 in
theorem kX6_join (l : Launch) (D : va_G) (cI cZ : ClassId) (ad : Nat → Nat) (K : kS) (sz : Nat) (x : Int32)  : Met l yX6_join wsX6_join ({ frames := 2, cells := 0, slots := 0, locals := 42 }) (va_Pc [.ref (ad 0), .int x] (zPr D (zTy cI cZ) (mwA ad cI cZ K) sz)) (va_Qi (fun r (_ : Unit) => r = mRes (mJoinT K x) (nI (mCount (mJoinE K x.toNatClampNeg)))) (fun _ => zPo D (zTy cI cZ) (va_A (mwA ad cI cZ K) sz) (mwA ad cI cZ (mPost (mJoinT K x) K (mJoinE K x.toNatClampNeg)))) (va_A (mwA ad cI cZ K) sz)) 0 0 (va_A (mwA ad cI cZ K) sz) := by
  refine Met.ofW (cc := cX6_join) (maxL := 3) (ret := (some .int)) (by decide) rfl ?_
  intro pP e s m args below meth c s₁ B hml hv
  obtain ⟨rfl, hsz, hP, hK, hD0⟩ := hv
  have hx := B.exec
  have hb := B.bytes
  have hr := B.returns
  have hts := atoms_spec (ws := wsX6_join) B.pre
  have hown : s.vm.findClass RX6 = some m.cls := findClass_of_methodNamed B.named
  have hlocks := B.notSynchronized
  subst hsz
  have hD := hD0.self (sz := s.heap.size)
  generalize hAe : va_A (mwA ad cI cZ K) s.heap.size = A at hD ⊢
  have hA : ∀ q : Nat, s.heap.size ≤ q → A q := fun q h => by rw [← hAe]; exact Or.inr h
  have hS : va_S A s.heap s.heap [] := va_S.rf
  have hinX6 : ∀ w ∈ u_ws RX6 TX6 21, w ∈ wsX6_join := by decide +kernel
  have hl := lv_entry ([.ref (ad 0), .int x]) (n := 3) (Nat.le_of_ble_eq_true rfl)
  rw [lg_entry_eq]
  generalize (lg_sl ([.ref (ad 0), .int x]) ++ List.replicate (3 - (lg_sl ([.ref (ad 0), .int x])).length) Slot.unset).toArray = ls at hl ⊢
  have hl : lv_has ls 3 [(0, .ref (ad 0)), (1, .int x)] := hl
  refine lv_iload_n hx hb dX6_join_0 rfl (lv_at hl 1 rfl) ?_
  refine zc_rS (As := [.int x]) (rest := []) ⟨hx, hb, hml, hown, hts⟩ (kX6_isPerson l x ) (va_cwS 1 hts gX6_join_X6_isPerson rfl rfl rfl (by decide +kernel) ⟨(Nat.le_of_ble_eq_true rfl), (Nat.le_of_ble_eq_true rfl)⟩) rfl hl.1 rfl (Nat.le_of_ble_eq_true rfl) dX6_join_1 ⟨Nat.zero_le _, Nat.zero_le _⟩ ?_
  refine lv_istore_n (lv' := [(2, .int (zb (mIsP x))), (0, .ref (ad 0)), (1, .int x)]) hx hb dX6_join_4 rfl hl (by decide) rfl (fun ls hl => ?_)
  refine lv_aload_n hx hb dX6_join_5 rfl (lv_at hl 1 rfl) ?_
  refine lv_iload_n hx hb dX6_join_6 rfl (lv_at hl 0 rfl) ?_
  refine lv_if_ne (tgt := 14) hx hb dX6_join_7 (by decide) (fun c_1 => ?_) (fun c_1 => ?_)
  · skip
    have c_1 := zb_t c_1
    obtain ⟨p9, hp9, hp8, hp7⟩ := mIsP_of c_1
    refine lv_aload_n hx hb dX6_join_14 rfl (lv_at hl 1 rfl) ?_
    refine va_get (D := D) (ci := 6) (v := .ref (ad 4)) (C := RX6) (T := TX6) (N := 21) hx hb hts hinX6 hown hK hP 0 rfl rfl 7 (by decide) (hts (.fieldLink RX6 23 "AuditoriumKeysModel" "cameAt" "[I") (List.mem_of_getElem? (i := 1) rfl)) (fun _ h9 => h9) rfl dX6_join_15 ?_
    refine lv_iload_n hx hb dX6_join_18 rfl (lv_at hl 2 rfl) ?_
    refine zz_top (y := nI p9) hp8 ?_
    refine zz_iald hx hb hK hP 4 0 rfl rfl p9 (by omega) (by decide) dX6_join_19 ?_
    refine lv_iconst (v := (-1)) hx hb dX6_join_20 (by decide) ?_
    refine lv_icmp_ne (tgt := 34) hx hb dX6_join_21 (by decide) (fun c_2 => ?_) (fun c_2 => ?_)
    · skip
      have c_2 : ¬ K 4 p9 = (-1) := c_2
      refine lv_iconst (v := nI 2) hx hb dX6_join_34 (by decide) ?_
      refine lv_goto (tgt := 39) hx hb dX6_join_35 (by decide) ?_
      refine zc_wVi (As := [.int (nI 2)]) (rest := []) (wr := []) ⟨hx, hb, hml, hown, hts⟩ (kX6_goesWell l D cI cZ ad K _ (nI 2) ) (cwV 1 hts gX6_join_X6_goesWell rfl rfl rfl (by decide +kernel) ⟨(Nat.le_of_ble_eq_true rfl), (Nat.le_of_ble_eq_true rfl)⟩) hK hP hD hS hA [0, 1, 2, 3, 4, 5, 6, 7, 8, 9, 10, 11, 12, 13, 14, 15, 16] [] rfl rfl rfl rfl rfl (by decide) (ci := 6) (q0 := 0) rfl rfl rfl rfl hl.1 rfl (Nat.le_of_ble_eq_true rfl) dX6_join_39 ⟨Nat.zero_le _, Nat.zero_le _⟩ (fun H locs hP hD hS => ?_)
      have hP : va_P D vwCl (mwA ad cI cZ (mGoes K (nI 2))) _ := hP
      have hD : va_D A (mwA ad cI cZ (mGoes K (nI 2))) := hD
      refine zz_top (y := nI 0) (by decide) ?_
      refine lv_if_ne (tgt := 47) hx hb dX6_join_42 (by decide) (fun c_3 => ?_) (fun c_3 => ?_)
      · skip
        exact absurd (show nI 0 = 0 from rfl) c_3
      · skip
        refine lv_iconst (v := nI 0) hx hb dX6_join_45 (by decide) ?_
        have hT9 : mJoinT K x = nI 2 := by simp [mJoinT, c_1, hp7, c_2, eq_true c_3]
        have eK9 : (mPost (mJoinT K x) K (mJoinE K x.toNatClampNeg)) = (mGoes K (nI 2)) := by rw [hT9, mPost_2] <;> rfl
        have hP9 := hP
        have hD9 := hD
        rw [← eK9] at hP9 hD9
        have eR9 : nI 0 = mRes (mJoinT K x) (nI (mCount (mJoinE K x.toNatClampNeg))) := by rw [hT9, mRes_2] <;> rfl
        exact W.iret (v := nI 0) hx hb hr (fun t ht hW => ⟨⟨nI 0, (), rfl, eR9, by rw [ht]; exact hP9, va_K.moved hW.alike hK, hD9⟩, hS.F ht⟩) hS.2.2 dX6_join_46
    · skip
      have c_2 : K 4 p9 = (-1) := c_2
      refine lv_aload_n hx hb dX6_join_24 rfl (lv_at hl 1 rfl) ?_
      refine va_get (D := D) (ci := 6) (v := .ref (ad 5)) (C := RX6) (T := TX6) (N := 21) hx hb hts hinX6 hown hK hP 0 rfl rfl 8 (by decide) (hts (.fieldLink RX6 26 "AuditoriumKeysModel" "firsts" "[I") (List.mem_of_getElem? (i := 2) rfl)) (fun _ h9 => h9) rfl dX6_join_25 ?_
      refine lv_iload_n hx hb dX6_join_28 rfl (lv_at hl 2 rfl) ?_
      refine zz_top (y := nI p9) hp8 ?_
      refine zz_iald hx hb hK hP 5 0 rfl rfl p9 (by omega) (by decide) dX6_join_29 ?_
      refine lv_iconst (v := (-1)) hx hb dX6_join_30 (by decide) ?_
      refine lv_icmp_eq (tgt := 38) hx hb dX6_join_31 (by decide) (fun c_4 => ?_) (fun c_4 => ?_)
      · skip
        have c_4 : K 5 p9 = (-1) := c_4
        refine lv_iconst (v := nI 0) hx hb dX6_join_38 (by decide) ?_
        refine zc_wVi (As := [.int (nI 0)]) (rest := []) (wr := []) ⟨hx, hb, hml, hown, hts⟩ (kX6_goesWell l D cI cZ ad K _ (nI 0) ) (cwV 1 hts gX6_join_X6_goesWell rfl rfl rfl (by decide +kernel) ⟨(Nat.le_of_ble_eq_true rfl), (Nat.le_of_ble_eq_true rfl)⟩) hK hP hD hS hA [0, 1, 2, 3, 4, 5, 6, 7, 8, 9, 10, 11, 12, 13, 14, 15, 16] [] rfl rfl rfl rfl rfl (by decide) (ci := 6) (q0 := 0) rfl rfl rfl rfl hl.1 rfl (Nat.le_of_ble_eq_true rfl) dX6_join_39 ⟨Nat.zero_le _, Nat.zero_le _⟩ (fun H locs hP hD hS => ?_)
        have hP : va_P D vwCl (mwA ad cI cZ (mGoes K (nI 0))) _ := hP
        have hD : va_D A (mwA ad cI cZ (mGoes K (nI 0))) := hD
        refine zz_top (y := nI 1) (by decide) ?_
        refine lv_if_ne (tgt := 47) hx hb dX6_join_42 (by decide) (fun c_5 => ?_) (fun c_5 => ?_)
        · skip
          refine lv_aload_n hx hb dX6_join_47 rfl (lv_at hl 1 rfl) ?_
          refine va_get (D := D) (ci := 6) (v := .ref (ad 4)) (C := RX6) (T := TX6) (N := 21) hx hb hts hinX6 hown hK hP 0 rfl rfl 7 (by decide) (hts (.fieldLink RX6 23 "AuditoriumKeysModel" "cameAt" "[I") (List.mem_of_getElem? (i := 1) rfl)) (fun _ h9 => h9) rfl dX6_join_48 ?_
          refine lv_iload_n hx hb dX6_join_51 rfl (lv_at hl 2 rfl) ?_
          refine zz_top (y := nI p9) hp8 ?_
          refine lv_aload_n hx hb dX6_join_52 rfl (lv_at hl 1 rfl) ?_
          refine va_get (D := D) (ci := 6) (v := .int ((mGoes K (nI 0)) 0 1)) (C := RX6) (T := TX6) (N := 21) hx hb hts hinX6 hown hK hP 0 rfl rfl 1 (by decide) (hts (.fieldLink RX6 80 "AuditoriumKeysModel" "time" "I") (List.mem_of_getElem? (i := 3) rfl)) (fun _ h9 => h9) rfl dX6_join_53 ?_
          refine zz_iast hx hb hK hP hD hS 4 0 rfl rfl p9 (by omega) (by decide) dX6_join_56 (fun H locs hP hD hS => ?_)
          have hP : va_P D vwCl (mwA ad cI cZ (setA (mGoes K (nI 0)) 4 (upd ((mGoes K (nI 0)) 4) p9 ((mGoes K (nI 0)) 0 1)))) _ := hP
          have hD : va_D A (mwA ad cI cZ (setA (mGoes K (nI 0)) 4 (upd ((mGoes K (nI 0)) 4) p9 ((mGoes K (nI 0)) 0 1)))) := hD
          refine lv_aload_n hx hb dX6_join_57 rfl (lv_at hl 1 rfl) ?_
          refine zc_rV (As := []) (rest := []) ⟨hx, hb, hml, hown, hts⟩ (kX6_countQueue l D cI cZ ad (setA (mGoes K (nI 0)) 4 (upd ((mGoes K (nI 0)) 4) p9 ((mGoes K (nI 0)) 0 1)))  ) (cwV 0 hts gX6_join_X6_countQueue rfl rfl rfl (by decide +kernel) ⟨(Nat.le_of_ble_eq_true rfl), (Nat.le_of_ble_eq_true rfl)⟩) hK hP (ci := 6) (q0 := 0) rfl rfl rfl rfl hl.1 rfl (Nat.le_of_ble_eq_true rfl) dX6_join_58 ⟨Nat.zero_le _, Nat.zero_le _⟩ ?_
          have hT9 : mJoinT K x = nI 0 := by simp [mJoinT, c_1, hp7, eq_true c_2, eq_true c_4, c_5]
          have eK9 : (mPost (mJoinT K x) K (mJoinE K x.toNatClampNeg)) = (setA (mGoes K (nI 0)) 4 (upd ((mGoes K (nI 0)) 4) p9 ((mGoes K (nI 0)) 0 1))) := by rw [hT9, mPost_0, hp7] <;> rfl
          have hP9 := hP
          have hD9 := hD
          rw [← eK9] at hP9 hD9
          have eR9 : nI (mCount (setA (mGoes K (nI 0)) 4 (upd ((mGoes K (nI 0)) 4) p9 ((mGoes K (nI 0)) 0 1)))) = mRes (mJoinT K x) (nI (mCount (mJoinE K x.toNatClampNeg))) := by rw [hT9, mRes_0, hp7] <;> rfl
          exact W.iret (v := nI (mCount (setA (mGoes K (nI 0)) 4 (upd ((mGoes K (nI 0)) 4) p9 ((mGoes K (nI 0)) 0 1))))) hx hb hr (fun t ht hW => ⟨⟨nI (mCount (setA (mGoes K (nI 0)) 4 (upd ((mGoes K (nI 0)) 4) p9 ((mGoes K (nI 0)) 0 1)))), (), rfl, eR9, by rw [ht]; exact hP9, va_K.moved hW.alike hK, hD9⟩, hS.F ht⟩) hS.2.2 dX6_join_61
        · skip
          exact absurd c_5 (by decide)
      · skip
        have c_4 : ¬ K 5 p9 = (-1) := c_4
        refine lv_iconst (v := nI 2) hx hb dX6_join_34 (by decide) ?_
        refine lv_goto (tgt := 39) hx hb dX6_join_35 (by decide) ?_
        refine zc_wVi (As := [.int (nI 2)]) (rest := []) (wr := []) ⟨hx, hb, hml, hown, hts⟩ (kX6_goesWell l D cI cZ ad K _ (nI 2) ) (cwV 1 hts gX6_join_X6_goesWell rfl rfl rfl (by decide +kernel) ⟨(Nat.le_of_ble_eq_true rfl), (Nat.le_of_ble_eq_true rfl)⟩) hK hP hD hS hA [0, 1, 2, 3, 4, 5, 6, 7, 8, 9, 10, 11, 12, 13, 14, 15, 16] [] rfl rfl rfl rfl rfl (by decide) (ci := 6) (q0 := 0) rfl rfl rfl rfl hl.1 rfl (Nat.le_of_ble_eq_true rfl) dX6_join_39 ⟨Nat.zero_le _, Nat.zero_le _⟩ (fun H locs hP hD hS => ?_)
        have hP : va_P D vwCl (mwA ad cI cZ (mGoes K (nI 2))) _ := hP
        have hD : va_D A (mwA ad cI cZ (mGoes K (nI 2))) := hD
        refine zz_top (y := nI 0) (by decide) ?_
        refine lv_if_ne (tgt := 47) hx hb dX6_join_42 (by decide) (fun c_6 => ?_) (fun c_6 => ?_)
        · skip
          exact absurd (show nI 0 = 0 from rfl) c_6
        · skip
          refine lv_iconst (v := nI 0) hx hb dX6_join_45 (by decide) ?_
          have hT9 : mJoinT K x = nI 2 := by simp [mJoinT, c_1, hp7, eq_true c_2, c_4, eq_true c_6]
          have eK9 : (mPost (mJoinT K x) K (mJoinE K x.toNatClampNeg)) = (mGoes K (nI 2)) := by rw [hT9, mPost_2] <;> rfl
          have hP9 := hP
          have hD9 := hD
          rw [← eK9] at hP9 hD9
          have eR9 : nI 0 = mRes (mJoinT K x) (nI (mCount (mJoinE K x.toNatClampNeg))) := by rw [hT9, mRes_2] <;> rfl
          exact W.iret (v := nI 0) hx hb hr (fun t ht hW => ⟨⟨nI 0, (), rfl, eR9, by rw [ht]; exact hP9, va_K.moved hW.alike hK, hD9⟩, hS.F ht⟩) hS.2.2 dX6_join_46
  · skip
    have c_1 := zb_f c_1
    refine lv_iconst (v := nI 1) hx hb dX6_join_10 (by decide) ?_
    refine lv_goto (tgt := 39) hx hb dX6_join_11 (by decide) ?_
    refine zc_wVi (As := [.int (nI 1)]) (rest := []) (wr := []) ⟨hx, hb, hml, hown, hts⟩ (kX6_goesWell l D cI cZ ad K _ (nI 1) ) (cwV 1 hts gX6_join_X6_goesWell rfl rfl rfl (by decide +kernel) ⟨(Nat.le_of_ble_eq_true rfl), (Nat.le_of_ble_eq_true rfl)⟩) hK hP hD hS hA [0, 1, 2, 3, 4, 5, 6, 7, 8, 9, 10, 11, 12, 13, 14, 15, 16] [] rfl rfl rfl rfl rfl (by decide) (ci := 6) (q0 := 0) rfl rfl rfl rfl hl.1 rfl (Nat.le_of_ble_eq_true rfl) dX6_join_39 ⟨Nat.zero_le _, Nat.zero_le _⟩ (fun H locs hP hD hS => ?_)
    have hP : va_P D vwCl (mwA ad cI cZ (mGoes K (nI 1))) _ := hP
    have hD : va_D A (mwA ad cI cZ (mGoes K (nI 1))) := hD
    refine zz_top (y := nI 0) (by decide) ?_
    refine lv_if_ne (tgt := 47) hx hb dX6_join_42 (by decide) (fun c_7 => ?_) (fun c_7 => ?_)
    · skip
      exact absurd (show nI 0 = 0 from rfl) c_7
    · skip
      refine lv_iconst (v := nI 0) hx hb dX6_join_45 (by decide) ?_
      have hT9 : mJoinT K x = nI 1 := by simp [mJoinT, c_1, eq_true c_7]
      have eK9 : (mPost (mJoinT K x) K (mJoinE K x.toNatClampNeg)) = (mGoes K (nI 1)) := by rw [hT9, mPost_1] <;> rfl
      have hP9 := hP
      have hD9 := hD
      rw [← eK9] at hP9 hD9
      have eR9 : nI 0 = mRes (mJoinT K x) (nI (mCount (mJoinE K x.toNatClampNeg))) := by rw [hT9, mRes_1] <;> rfl
      exact W.iret (v := nI 0) hx hb hr (fun t ht hW => ⟨⟨nI 0, (), rfl, eR9, by rw [ht]; exact hP9, va_K.moved hW.alike hK, hD9⟩, hS.F ht⟩) hS.2.2 dX6_join_46
set_option maxHeartbeats 4000000 in
set_option maxRecDepth 100000 in
theorem kX6_quit (l : Launch) (D : va_G) (cI cZ : ClassId) (ad : Nat → Nat) (K : kS) (sz : Nat) (x : Int32)  : Met l yX6_quit wsX6_quit ({ frames := 2, cells := 0, slots := 0, locals := 42 }) (va_Pc [.ref (ad 0), .int x] (zPr D (zTy cI cZ) (mwA ad cI cZ K) sz)) (va_Qi (fun r (_ : Unit) => r = mRes (mQuitT K x) (nI (mCount (mQuitE K x.toNatClampNeg)))) (fun _ => zPo D (zTy cI cZ) (va_A (mwA ad cI cZ K) sz) (mwA ad cI cZ (mPost (mQuitT K x) K (mQuitE K x.toNatClampNeg)))) (va_A (mwA ad cI cZ K) sz)) 0 0 (va_A (mwA ad cI cZ K) sz) := by
  refine Met.ofW (cc := cX6_quit) (maxL := 3) (ret := (some .int)) (by decide) rfl ?_
  intro pP e s m args below meth c s₁ B hml hv
  obtain ⟨rfl, hsz, hP, hK, hD0⟩ := hv
  have hx := B.exec
  have hb := B.bytes
  have hr := B.returns
  have hts := atoms_spec (ws := wsX6_quit) B.pre
  have hown : s.vm.findClass RX6 = some m.cls := findClass_of_methodNamed B.named
  have hlocks := B.notSynchronized
  subst hsz
  have hD := hD0.self (sz := s.heap.size)
  generalize hAe : va_A (mwA ad cI cZ K) s.heap.size = A at hD ⊢
  have hA : ∀ q : Nat, s.heap.size ≤ q → A q := fun q h => by rw [← hAe]; exact Or.inr h
  have hS : va_S A s.heap s.heap [] := va_S.rf
  have hinX6 : ∀ w ∈ u_ws RX6 TX6 21, w ∈ wsX6_quit := by decide +kernel
  have hl := lv_entry ([.ref (ad 0), .int x]) (n := 3) (Nat.le_of_ble_eq_true rfl)
  rw [lg_entry_eq]
  generalize (lg_sl ([.ref (ad 0), .int x]) ++ List.replicate (3 - (lg_sl ([.ref (ad 0), .int x])).length) Slot.unset).toArray = ls at hl ⊢
  have hl : lv_has ls 3 [(0, .ref (ad 0)), (1, .int x)] := hl
  refine lv_iload_n hx hb dX6_quit_0 rfl (lv_at hl 1 rfl) ?_
  refine zc_rS (As := [.int x]) (rest := []) ⟨hx, hb, hml, hown, hts⟩ (kX6_isPerson l x ) (va_cwS 1 hts gX6_quit_X6_isPerson rfl rfl rfl (by decide +kernel) ⟨(Nat.le_of_ble_eq_true rfl), (Nat.le_of_ble_eq_true rfl)⟩) rfl hl.1 rfl (Nat.le_of_ble_eq_true rfl) dX6_quit_1 ⟨Nat.zero_le _, Nat.zero_le _⟩ ?_
  refine lv_istore_n (lv' := [(2, .int (zb (mIsP x))), (0, .ref (ad 0)), (1, .int x)]) hx hb dX6_quit_4 rfl hl (by decide) rfl (fun ls hl => ?_)
  refine lv_aload_n hx hb dX6_quit_5 rfl (lv_at hl 1 rfl) ?_
  refine lv_iload_n hx hb dX6_quit_6 rfl (lv_at hl 0 rfl) ?_
  refine lv_if_ne (tgt := 14) hx hb dX6_quit_7 (by decide) (fun c_1 => ?_) (fun c_1 => ?_)
  · skip
    have c_1 := zb_t c_1
    obtain ⟨p9, hp9, hp8, hp7⟩ := mIsP_of c_1
    refine lv_aload_n hx hb dX6_quit_14 rfl (lv_at hl 1 rfl) ?_
    refine va_get (D := D) (ci := 6) (v := .ref (ad 4)) (C := RX6) (T := TX6) (N := 21) hx hb hts hinX6 hown hK hP 0 rfl rfl 7 (by decide) (hts (.fieldLink RX6 23 "AuditoriumKeysModel" "cameAt" "[I") (List.mem_of_getElem? (i := 1) rfl)) (fun _ h9 => h9) rfl dX6_quit_15 ?_
    refine lv_iload_n hx hb dX6_quit_18 rfl (lv_at hl 2 rfl) ?_
    refine zz_top (y := nI p9) hp8 ?_
    refine zz_iald hx hb hK hP 4 0 rfl rfl p9 (by omega) (by decide) dX6_quit_19 ?_
    refine lv_iconst (v := (-1)) hx hb dX6_quit_20 (by decide) ?_
    refine lv_icmp_ne (tgt := 28) hx hb dX6_quit_21 (by decide) (fun c_2 => ?_) (fun c_2 => ?_)
    · skip
      have c_2 : ¬ K 4 p9 = (-1) := c_2
      refine lv_iconst (v := nI 0) hx hb dX6_quit_28 (by decide) ?_
      refine zc_wVi (As := [.int (nI 0)]) (rest := []) (wr := []) ⟨hx, hb, hml, hown, hts⟩ (kX6_goesWell l D cI cZ ad K _ (nI 0) ) (cwV 1 hts gX6_quit_X6_goesWell rfl rfl rfl (by decide +kernel) ⟨(Nat.le_of_ble_eq_true rfl), (Nat.le_of_ble_eq_true rfl)⟩) hK hP hD hS hA [0, 1, 2, 3, 4, 5, 6, 7, 8, 9, 10, 11, 12, 13, 14, 15, 16] [] rfl rfl rfl rfl rfl (by decide) (ci := 6) (q0 := 0) rfl rfl rfl rfl hl.1 rfl (Nat.le_of_ble_eq_true rfl) dX6_quit_29 ⟨Nat.zero_le _, Nat.zero_le _⟩ (fun H locs hP hD hS => ?_)
      have hP : va_P D vwCl (mwA ad cI cZ (mGoes K (nI 0))) _ := hP
      have hD : va_D A (mwA ad cI cZ (mGoes K (nI 0))) := hD
      refine zz_top (y := nI 1) (by decide) ?_
      refine lv_if_ne (tgt := 37) hx hb dX6_quit_32 (by decide) (fun c_3 => ?_) (fun c_3 => ?_)
      · skip
        refine lv_aload_n hx hb dX6_quit_37 rfl (lv_at hl 1 rfl) ?_
        refine va_get (D := D) (ci := 6) (v := .ref (ad 4)) (C := RX6) (T := TX6) (N := 21) hx hb hts hinX6 hown hK hP 0 rfl rfl 7 (by decide) (hts (.fieldLink RX6 23 "AuditoriumKeysModel" "cameAt" "[I") (List.mem_of_getElem? (i := 1) rfl)) (fun _ h9 => h9) rfl dX6_quit_38 ?_
        refine lv_iload_n hx hb dX6_quit_41 rfl (lv_at hl 2 rfl) ?_
        refine zz_top (y := nI p9) hp8 ?_
        refine lv_iconst (v := (-1)) hx hb dX6_quit_42 (by decide) ?_
        refine zz_iast hx hb hK hP hD hS 4 0 rfl rfl p9 (by omega) (by decide) dX6_quit_43 (fun H locs hP hD hS => ?_)
        have hP : va_P D vwCl (mwA ad cI cZ (setA (mGoes K (nI 0)) 4 (upd ((mGoes K (nI 0)) 4) p9 (-1)))) _ := hP
        have hD : va_D A (mwA ad cI cZ (setA (mGoes K (nI 0)) 4 (upd ((mGoes K (nI 0)) 4) p9 (-1)))) := hD
        refine lv_aload_n hx hb dX6_quit_44 rfl (lv_at hl 1 rfl) ?_
        refine zc_rV (As := []) (rest := []) ⟨hx, hb, hml, hown, hts⟩ (kX6_countQueue l D cI cZ ad (setA (mGoes K (nI 0)) 4 (upd ((mGoes K (nI 0)) 4) p9 (-1)))  ) (cwV 0 hts gX6_quit_X6_countQueue rfl rfl rfl (by decide +kernel) ⟨(Nat.le_of_ble_eq_true rfl), (Nat.le_of_ble_eq_true rfl)⟩) hK hP (ci := 6) (q0 := 0) rfl rfl rfl rfl hl.1 rfl (Nat.le_of_ble_eq_true rfl) dX6_quit_45 ⟨Nat.zero_le _, Nat.zero_le _⟩ ?_
        have hT9 : mQuitT K x = nI 0 := by simp [mQuitT, c_1, hp7, c_2, c_3]
        have eK9 : (mPost (mQuitT K x) K (mQuitE K x.toNatClampNeg)) = (setA (mGoes K (nI 0)) 4 (upd ((mGoes K (nI 0)) 4) p9 (-1))) := by rw [hT9, mPost_0, hp7] <;> rfl
        have hP9 := hP
        have hD9 := hD
        rw [← eK9] at hP9 hD9
        have eR9 : nI (mCount (setA (mGoes K (nI 0)) 4 (upd ((mGoes K (nI 0)) 4) p9 (-1)))) = mRes (mQuitT K x) (nI (mCount (mQuitE K x.toNatClampNeg))) := by rw [hT9, mRes_0, hp7] <;> rfl
        exact W.iret (v := nI (mCount (setA (mGoes K (nI 0)) 4 (upd ((mGoes K (nI 0)) 4) p9 (-1))))) hx hb hr (fun t ht hW => ⟨⟨nI (mCount (setA (mGoes K (nI 0)) 4 (upd ((mGoes K (nI 0)) 4) p9 (-1)))), (), rfl, eR9, by rw [ht]; exact hP9, va_K.moved hW.alike hK, hD9⟩, hS.F ht⟩) hS.2.2 dX6_quit_48
      · skip
        exact absurd c_3 (by decide)
    · skip
      have c_2 : K 4 p9 = (-1) := c_2
      refine lv_iconst (v := nI 2) hx hb dX6_quit_24 (by decide) ?_
      refine lv_goto (tgt := 29) hx hb dX6_quit_25 (by decide) ?_
      refine zc_wVi (As := [.int (nI 2)]) (rest := []) (wr := []) ⟨hx, hb, hml, hown, hts⟩ (kX6_goesWell l D cI cZ ad K _ (nI 2) ) (cwV 1 hts gX6_quit_X6_goesWell rfl rfl rfl (by decide +kernel) ⟨(Nat.le_of_ble_eq_true rfl), (Nat.le_of_ble_eq_true rfl)⟩) hK hP hD hS hA [0, 1, 2, 3, 4, 5, 6, 7, 8, 9, 10, 11, 12, 13, 14, 15, 16] [] rfl rfl rfl rfl rfl (by decide) (ci := 6) (q0 := 0) rfl rfl rfl rfl hl.1 rfl (Nat.le_of_ble_eq_true rfl) dX6_quit_29 ⟨Nat.zero_le _, Nat.zero_le _⟩ (fun H locs hP hD hS => ?_)
      have hP : va_P D vwCl (mwA ad cI cZ (mGoes K (nI 2))) _ := hP
      have hD : va_D A (mwA ad cI cZ (mGoes K (nI 2))) := hD
      refine zz_top (y := nI 0) (by decide) ?_
      refine lv_if_ne (tgt := 37) hx hb dX6_quit_32 (by decide) (fun c_4 => ?_) (fun c_4 => ?_)
      · skip
        exact absurd (show nI 0 = 0 from rfl) c_4
      · skip
        refine lv_iconst (v := nI 0) hx hb dX6_quit_35 (by decide) ?_
        have hT9 : mQuitT K x = nI 2 := by simp [mQuitT, c_1, hp7, eq_true c_2, eq_true c_4]
        have eK9 : (mPost (mQuitT K x) K (mQuitE K x.toNatClampNeg)) = (mGoes K (nI 2)) := by rw [hT9, mPost_2] <;> rfl
        have hP9 := hP
        have hD9 := hD
        rw [← eK9] at hP9 hD9
        have eR9 : nI 0 = mRes (mQuitT K x) (nI (mCount (mQuitE K x.toNatClampNeg))) := by rw [hT9, mRes_2] <;> rfl
        exact W.iret (v := nI 0) hx hb hr (fun t ht hW => ⟨⟨nI 0, (), rfl, eR9, by rw [ht]; exact hP9, va_K.moved hW.alike hK, hD9⟩, hS.F ht⟩) hS.2.2 dX6_quit_36
  · skip
    have c_1 := zb_f c_1
    refine lv_iconst (v := nI 1) hx hb dX6_quit_10 (by decide) ?_
    refine lv_goto (tgt := 29) hx hb dX6_quit_11 (by decide) ?_
    refine zc_wVi (As := [.int (nI 1)]) (rest := []) (wr := []) ⟨hx, hb, hml, hown, hts⟩ (kX6_goesWell l D cI cZ ad K _ (nI 1) ) (cwV 1 hts gX6_quit_X6_goesWell rfl rfl rfl (by decide +kernel) ⟨(Nat.le_of_ble_eq_true rfl), (Nat.le_of_ble_eq_true rfl)⟩) hK hP hD hS hA [0, 1, 2, 3, 4, 5, 6, 7, 8, 9, 10, 11, 12, 13, 14, 15, 16] [] rfl rfl rfl rfl rfl (by decide) (ci := 6) (q0 := 0) rfl rfl rfl rfl hl.1 rfl (Nat.le_of_ble_eq_true rfl) dX6_quit_29 ⟨Nat.zero_le _, Nat.zero_le _⟩ (fun H locs hP hD hS => ?_)
    have hP : va_P D vwCl (mwA ad cI cZ (mGoes K (nI 1))) _ := hP
    have hD : va_D A (mwA ad cI cZ (mGoes K (nI 1))) := hD
    refine zz_top (y := nI 0) (by decide) ?_
    refine lv_if_ne (tgt := 37) hx hb dX6_quit_32 (by decide) (fun c_5 => ?_) (fun c_5 => ?_)
    · skip
      exact absurd (show nI 0 = 0 from rfl) c_5
    · skip
      refine lv_iconst (v := nI 0) hx hb dX6_quit_35 (by decide) ?_
      have hT9 : mQuitT K x = nI 1 := by simp [mQuitT, c_1, eq_true c_5]
      have eK9 : (mPost (mQuitT K x) K (mQuitE K x.toNatClampNeg)) = (mGoes K (nI 1)) := by rw [hT9, mPost_1] <;> rfl
      have hP9 := hP
      have hD9 := hD
      rw [← eK9] at hP9 hD9
      have eR9 : nI 0 = mRes (mQuitT K x) (nI (mCount (mQuitE K x.toNatClampNeg))) := by rw [hT9, mRes_1] <;> rfl
      exact W.iret (v := nI 0) hx hb hr (fun t ht hW => ⟨⟨nI 0, (), rfl, eR9, by rw [ht]; exact hP9, va_K.moved hW.alike hK, hD9⟩, hS.F ht⟩) hS.2.2 dX6_quit_36
set_option maxHeartbeats 4000000 in
set_option maxRecDepth 100000 in
theorem kX6_queueAt (l : Launch) (D : va_G) (cI cZ : ClassId) (ad : Nat → Nat) (K : kS) (sz : Nat) (x : Int32)  : Met l yX6_queueAt wsX6_queueAt ({ frames := 2, cells := 0, slots := 0, locals := 48 }) (va_Pc [.ref (ad 0), .int x] (zPr D (zTy cI cZ) (mwA ad cI cZ K) sz)) (va_Qi (fun r (_ : Unit) => r = mRes (mQueT K x) (mAt K x)) (fun _ => zPo D (zTy cI cZ) (va_A (mwA ad cI cZ K) sz) (mwA ad cI cZ (mPost (mQueT K x) K (mGoes K (nI 0))))) (va_A (mwA ad cI cZ K) sz)) 0 0 (va_A (mwA ad cI cZ K) sz) := by
  refine Met.ofW (cc := cX6_queueAt) (maxL := 2) (ret := (some .int)) (by decide) rfl ?_
  intro pP e s m args below meth c s₁ B hml hv
  obtain ⟨rfl, hsz, hP, hK, hD0⟩ := hv
  have hx := B.exec
  have hb := B.bytes
  have hr := B.returns
  have hts := atoms_spec (ws := wsX6_queueAt) B.pre
  have hown : s.vm.findClass RX6 = some m.cls := findClass_of_methodNamed B.named
  have hlocks := B.notSynchronized
  subst hsz
  have hD := hD0.self (sz := s.heap.size)
  generalize hAe : va_A (mwA ad cI cZ K) s.heap.size = A at hD ⊢
  have hA : ∀ q : Nat, s.heap.size ≤ q → A q := fun q h => by rw [← hAe]; exact Or.inr h
  have hS : va_S A s.heap s.heap [] := va_S.rf
  have hl := lv_entry ([.ref (ad 0), .int x]) (n := 2) (Nat.le_of_ble_eq_true rfl)
  rw [lg_entry_eq]
  generalize (lg_sl ([.ref (ad 0), .int x]) ++ List.replicate (2 - (lg_sl ([.ref (ad 0), .int x])).length) Slot.unset).toArray = ls at hl ⊢
  have hl : lv_has ls 2 [(0, .ref (ad 0)), (1, .int x)] := hl
  refine lv_aload_n hx hb dX6_queueAt_0 rfl (lv_at hl 0 rfl) ?_
  refine lv_iload_n hx hb dX6_queueAt_1 rfl (lv_at hl 1 rfl) ?_
  refine lv_iconst (v := nI 0) hx hb dX6_queueAt_2 (by decide) ?_
  refine lv_aload_n hx hb dX6_queueAt_3 rfl (lv_at hl 0 rfl) ?_
  refine zc_rV (As := []) (rest := [.int (nI 0), .int x, .ref (ad 0)]) ⟨hx, hb, hml, hown, hts⟩ (kX6_countQueue l D cI cZ ad K  ) (cwV 0 hts gX6_queueAt_X6_countQueue rfl rfl rfl (by decide +kernel) ⟨(Nat.le_of_ble_eq_true rfl), (Nat.le_of_ble_eq_true rfl)⟩) hK hP (ci := 6) (q0 := 0) rfl rfl rfl rfl hl.1 rfl (Nat.le_of_ble_eq_true rfl) dX6_queueAt_4 ⟨Nat.zero_le _, Nat.zero_le _⟩ ?_
  refine lv_iconst (v := nI 1) hx hb dX6_queueAt_7 (by decide) ?_
  refine lv_isub hx hb dX6_queueAt_8 ?_
  refine zc_rS (As := [.int x, .int (nI 0), .int ((nI (mCount K)) - (nI 1))]) (rest := [.ref (ad 0)]) ⟨hx, hb, hml, hown, hts⟩ (kX6_in l x (nI 0) ((nI (mCount K)) - (nI 1)) ) (va_cwS 3 hts gX6_queueAt_X6_in rfl rfl rfl (by decide +kernel) ⟨(Nat.le_of_ble_eq_true rfl), (Nat.le_of_ble_eq_true rfl)⟩) rfl hl.1 rfl (Nat.le_of_ble_eq_true rfl) dX6_queueAt_9 ⟨Nat.zero_le _, Nat.zero_le _⟩ ?_
  refine lv_if_eq (tgt := 19) hx hb dX6_queueAt_12 (by decide) (fun c_1 => ?_) (fun c_1 => ?_)
  · skip
    have c_1 := zb_f c_1
    refine lv_iconst (v := nI 1) hx hb dX6_queueAt_19 (by decide) ?_
    refine zc_wVi (As := [.int (nI 1)]) (rest := []) (wr := []) ⟨hx, hb, hml, hown, hts⟩ (kX6_goesWell l D cI cZ ad K _ (nI 1) ) (cwV 1 hts gX6_queueAt_X6_goesWell rfl rfl rfl (by decide +kernel) ⟨(Nat.le_of_ble_eq_true rfl), (Nat.le_of_ble_eq_true rfl)⟩) hK hP hD hS hA [0, 1, 2, 3, 4, 5, 6, 7, 8, 9, 10, 11, 12, 13, 14, 15, 16] [] rfl rfl rfl rfl rfl (by decide) (ci := 6) (q0 := 0) rfl rfl rfl rfl hl.1 rfl (Nat.le_of_ble_eq_true rfl) dX6_queueAt_20 ⟨Nat.zero_le _, Nat.zero_le _⟩ (fun H locs hP hD hS => ?_)
    have hP : va_P D vwCl (mwA ad cI cZ (mGoes K (nI 1))) _ := hP
    have hD : va_D A (mwA ad cI cZ (mGoes K (nI 1))) := hD
    refine zz_top (y := nI 0) (by decide) ?_
    refine lv_if_eq (tgt := 34) hx hb dX6_queueAt_23 (by decide) (fun c_2 => ?_) (fun c_2 => ?_)
    · skip
      refine lv_iconst (v := nI 0) hx hb dX6_queueAt_34 (by decide) ?_
      have hT9 : mQueT K x = nI 1 := by simp [mQueT, c_1, eq_true c_2]
      have eK9 : (mPost (mQueT K x) K (mGoes K (nI 0))) = (mGoes K (nI 1)) := by rw [hT9, mPost_1] <;> rfl
      have hP9 := hP
      have hD9 := hD
      rw [← eK9] at hP9 hD9
      have eR9 : nI 0 = mRes (mQueT K x) (mAt K x) := by rw [hT9, mRes_1] <;> rfl
      exact W.iret (v := nI 0) hx hb hr (fun t ht hW => ⟨⟨nI 0, (), rfl, eR9, by rw [ht]; exact hP9, va_K.moved hW.alike hK, hD9⟩, hS.F ht⟩) hS.2.2 dX6_queueAt_35
    · skip
      exact absurd (show nI 0 = 0 from rfl) c_2
  · skip
    have c_1 := zb_t c_1
    refine lv_iconst (v := nI 0) hx hb dX6_queueAt_15 (by decide) ?_
    refine lv_goto (tgt := 20) hx hb dX6_queueAt_16 (by decide) ?_
    refine zc_wVi (As := [.int (nI 0)]) (rest := []) (wr := []) ⟨hx, hb, hml, hown, hts⟩ (kX6_goesWell l D cI cZ ad K _ (nI 0) ) (cwV 1 hts gX6_queueAt_X6_goesWell rfl rfl rfl (by decide +kernel) ⟨(Nat.le_of_ble_eq_true rfl), (Nat.le_of_ble_eq_true rfl)⟩) hK hP hD hS hA [0, 1, 2, 3, 4, 5, 6, 7, 8, 9, 10, 11, 12, 13, 14, 15, 16] [] rfl rfl rfl rfl rfl (by decide) (ci := 6) (q0 := 0) rfl rfl rfl rfl hl.1 rfl (Nat.le_of_ble_eq_true rfl) dX6_queueAt_20 ⟨Nat.zero_le _, Nat.zero_le _⟩ (fun H locs hP hD hS => ?_)
    have hP : va_P D vwCl (mwA ad cI cZ (mGoes K (nI 0))) _ := hP
    have hD : va_D A (mwA ad cI cZ (mGoes K (nI 0))) := hD
    refine zz_top (y := nI 1) (by decide) ?_
    refine lv_if_eq (tgt := 34) hx hb dX6_queueAt_23 (by decide) (fun c_3 => ?_) (fun c_3 => ?_)
    · skip
      exact absurd c_3 (by decide)
    · skip
      refine lv_aload_n hx hb dX6_queueAt_26 rfl (lv_at hl 0 rfl) ?_
      refine lv_iload_n hx hb dX6_queueAt_27 rfl (lv_at hl 1 rfl) ?_
      refine zc_rV (As := [.int x]) (rest := []) ⟨hx, hb, hml, hown, hts⟩ (kX6_placeAt l D cI cZ ad (mGoes K (nI 0)) x ) (cwV 1 hts gX6_queueAt_X6_placeAt rfl rfl rfl (by decide +kernel) ⟨(Nat.le_of_ble_eq_true rfl), (Nat.le_of_ble_eq_true rfl)⟩) hK hP (ci := 6) (q0 := 0) rfl rfl rfl rfl hl.1 rfl (Nat.le_of_ble_eq_true rfl) dX6_queueAt_28 ⟨Nat.zero_le _, Nat.zero_le _⟩ ?_
      refine lv_goto (tgt := 35) hx hb dX6_queueAt_31 (by decide) ?_
      have hT9 : mQueT K x = nI 0 := by simp [mQueT, c_1, c_3]
      have eK9 : (mPost (mQueT K x) K (mGoes K (nI 0))) = (mGoes K (nI 0)) := by rw [hT9, mPost_0] <;> rfl
      have hP9 := hP
      have hD9 := hD
      rw [← eK9] at hP9 hD9
      have eR9 : mAt (mGoes K (nI 0)) x = mRes (mQueT K x) (mAt K x) := by rw [hT9, mRes_0] <;> rfl
      exact W.iret (v := mAt (mGoes K (nI 0)) x) hx hb hr (fun t ht hW => ⟨⟨mAt (mGoes K (nI 0)) x, (), rfl, eR9, by rw [ht]; exact hP9, va_K.moved hW.alike hK, hD9⟩, hS.F ht⟩) hS.2.2 dX6_queueAt_35
set_option maxHeartbeats 4000000 in
set_option maxRecDepth 100000 in
theorem kX6_letGo (l : Launch) (D : va_G) (cI cZ : ClassId) (ad : Nat → Nat) (K : kS) (sz : Nat) (x : Int32)  : Met l yX6_letGo wsX6_letGo ({ frames := 2, cells := 0, slots := 0, locals := 42 }) (va_Pc [.ref (ad 0), .int x] (zPr D (zTy cI cZ) (mwA ad cI cZ K) sz)) (va_Qi (fun r (_ : Unit) => r = mRes (mGoT K x) (K 9 x.toNatClampNeg)) (fun _ => zPo D (zTy cI cZ) (va_A (mwA ad cI cZ K) sz) (mwA ad cI cZ (mPost (mGoT K x) K (mDrop (mGoes K (nI 0)) x.toNatClampNeg)))) (va_A (mwA ad cI cZ K) sz)) 0 0 (va_A (mwA ad cI cZ K) sz) := by
  refine Met.ofW (cc := cX6_letGo) (maxL := 3) (ret := (some .int)) (by decide) rfl ?_
  intro pP e s m args below meth c s₁ B hml hv
  obtain ⟨rfl, hsz, hP, hK, hD0⟩ := hv
  have hx := B.exec
  have hb := B.bytes
  have hr := B.returns
  have hts := atoms_spec (ws := wsX6_letGo) B.pre
  have hown : s.vm.findClass RX6 = some m.cls := findClass_of_methodNamed B.named
  have hlocks := B.notSynchronized
  subst hsz
  have hD := hD0.self (sz := s.heap.size)
  generalize hAe : va_A (mwA ad cI cZ K) s.heap.size = A at hD ⊢
  have hA : ∀ q : Nat, s.heap.size ≤ q → A q := fun q h => by rw [← hAe]; exact Or.inr h
  have hS : va_S A s.heap s.heap [] := va_S.rf
  have hinX6 : ∀ w ∈ u_ws RX6 TX6 21, w ∈ wsX6_letGo := by decide +kernel
  have hl := lv_entry ([.ref (ad 0), .int x]) (n := 3) (Nat.le_of_ble_eq_true rfl)
  rw [lg_entry_eq]
  generalize (lg_sl ([.ref (ad 0), .int x]) ++ List.replicate (3 - (lg_sl ([.ref (ad 0), .int x])).length) Slot.unset).toArray = ls at hl ⊢
  have hl : lv_has ls 3 [(0, .ref (ad 0)), (1, .int x)] := hl
  refine lv_iload_n hx hb dX6_letGo_0 rfl (lv_at hl 1 rfl) ?_
  refine zc_rS (As := [.int x]) (rest := []) ⟨hx, hb, hml, hown, hts⟩ (kX6_isPerson l x ) (va_cwS 1 hts gX6_letGo_X6_isPerson rfl rfl rfl (by decide +kernel) ⟨(Nat.le_of_ble_eq_true rfl), (Nat.le_of_ble_eq_true rfl)⟩) rfl hl.1 rfl (Nat.le_of_ble_eq_true rfl) dX6_letGo_1 ⟨Nat.zero_le _, Nat.zero_le _⟩ ?_
  refine lv_istore_n (lv' := [(2, .int (zb (mIsP x))), (0, .ref (ad 0)), (1, .int x)]) hx hb dX6_letGo_4 rfl hl (by decide) rfl (fun ls hl => ?_)
  refine lv_aload_n hx hb dX6_letGo_5 rfl (lv_at hl 1 rfl) ?_
  refine lv_iload_n hx hb dX6_letGo_6 rfl (lv_at hl 0 rfl) ?_
  refine lv_if_ne (tgt := 14) hx hb dX6_letGo_7 (by decide) (fun c_1 => ?_) (fun c_1 => ?_)
  · skip
    have c_1 := zb_t c_1
    obtain ⟨p9, hp9, hp8, hp7⟩ := mIsP_of c_1
    refine lv_aload_n hx hb dX6_letGo_14 rfl (lv_at hl 1 rfl) ?_
    refine va_get (D := D) (ci := 6) (v := .ref (ad 5)) (C := RX6) (T := TX6) (N := 21) hx hb hts hinX6 hown hK hP 0 rfl rfl 8 (by decide) (hts (.fieldLink RX6 26 "AuditoriumKeysModel" "firsts" "[I") (List.mem_of_getElem? (i := 1) rfl)) (fun _ h9 => h9) rfl dX6_letGo_15 ?_
    refine lv_iload_n hx hb dX6_letGo_18 rfl (lv_at hl 2 rfl) ?_
    refine zz_top (y := nI p9) hp8 ?_
    refine zz_iald hx hb hK hP 5 0 rfl rfl p9 (by omega) (by decide) dX6_letGo_19 ?_
    refine lv_iconst (v := (-1)) hx hb dX6_letGo_20 (by decide) ?_
    refine lv_icmp_ne (tgt := 28) hx hb dX6_letGo_21 (by decide) (fun c_2 => ?_) (fun c_2 => ?_)
    · skip
      have c_2 : ¬ K 5 p9 = (-1) := c_2
      refine lv_iconst (v := nI 0) hx hb dX6_letGo_28 (by decide) ?_
      refine zc_wVi (As := [.int (nI 0)]) (rest := []) (wr := []) ⟨hx, hb, hml, hown, hts⟩ (kX6_goesWell l D cI cZ ad K _ (nI 0) ) (cwV 1 hts gX6_letGo_X6_goesWell rfl rfl rfl (by decide +kernel) ⟨(Nat.le_of_ble_eq_true rfl), (Nat.le_of_ble_eq_true rfl)⟩) hK hP hD hS hA [0, 1, 2, 3, 4, 5, 6, 7, 8, 9, 10, 11, 12, 13, 14, 15, 16] [] rfl rfl rfl rfl rfl (by decide) (ci := 6) (q0 := 0) rfl rfl rfl rfl hl.1 rfl (Nat.le_of_ble_eq_true rfl) dX6_letGo_29 ⟨Nat.zero_le _, Nat.zero_le _⟩ (fun H locs hP hD hS => ?_)
      have hP : va_P D vwCl (mwA ad cI cZ (mGoes K (nI 0))) _ := hP
      have hD : va_D A (mwA ad cI cZ (mGoes K (nI 0))) := hD
      refine zz_top (y := nI 1) (by decide) ?_
      refine lv_if_ne (tgt := 37) hx hb dX6_letGo_32 (by decide) (fun c_3 => ?_) (fun c_3 => ?_)
      · skip
        refine lv_aload_n hx hb dX6_letGo_37 rfl (lv_at hl 1 rfl) ?_
        refine lv_iload_n hx hb dX6_letGo_38 rfl (lv_at hl 2 rfl) ?_
        refine zz_top (y := nI p9) hp8 ?_
        refine zc_wVv (As := [.int (nI p9)]) (rest := []) (wr := []) ⟨hx, hb, hml, hown, hts⟩ (kX6_dropHold l D cI cZ ad (mGoes K (nI 0)) _ p9 (by omega)) (cwV 1 hts gX6_letGo_X6_dropHold rfl rfl rfl (by decide +kernel) ⟨(Nat.le_of_ble_eq_true rfl), (Nat.le_of_ble_eq_true rfl)⟩) hK hP hD hS hA [0, 1, 2, 3, 4, 5, 6, 7, 8, 9, 10, 11, 12, 13, 14, 15, 16] [] rfl rfl rfl rfl rfl (by decide) (ci := 6) (q0 := 0) rfl rfl rfl rfl hl.1 rfl (Nat.le_of_ble_eq_true rfl) dX6_letGo_39 ⟨Nat.zero_le _, Nat.zero_le _⟩ (fun H locs hP hD hS => ?_)
        have hP : va_P D vwCl (mwA ad cI cZ (mDrop (mGoes K (nI 0)) p9)) _ := hP
        have hD : va_D A (mwA ad cI cZ (mDrop (mGoes K (nI 0)) p9)) := hD
        refine lv_aload_n hx hb dX6_letGo_42 rfl (lv_at hl 1 rfl) ?_
        refine va_get (D := D) (ci := 6) (v := .ref (ad 9)) (C := RX6) (T := TX6) (N := 21) hx hb hts hinX6 hown hK hP 0 rfl rfl 12 (by decide) (hts (.fieldLink RX6 38 "AuditoriumKeysModel" "paid" "[I") (List.mem_of_getElem? (i := 2) rfl)) (fun _ h9 => h9) rfl dX6_letGo_43 ?_
        refine lv_iload_n hx hb dX6_letGo_46 rfl (lv_at hl 2 rfl) ?_
        refine zz_top (y := nI p9) hp8 ?_
        refine zz_iald hx hb hK hP 9 0 rfl rfl p9 (by omega) (by decide) dX6_letGo_47 ?_
        have hT9 : mGoT K x = nI 0 := by simp [mGoT, c_1, hp7, c_2, c_3]
        have eK9 : (mPost (mGoT K x) K (mDrop (mGoes K (nI 0)) x.toNatClampNeg)) = (mDrop (mGoes K (nI 0)) p9) := by rw [hT9, mPost_0, hp7] <;> rfl
        have hP9 := hP
        have hD9 := hD
        rw [← eK9] at hP9 hD9
        have eR9 : (mDrop (mGoes K (nI 0)) p9) 9 p9 = mRes (mGoT K x) (K 9 x.toNatClampNeg) := by rw [hT9, mRes_0, hp7] <;> rfl
        exact W.iret (v := (mDrop (mGoes K (nI 0)) p9) 9 p9) hx hb hr (fun t ht hW => ⟨⟨(mDrop (mGoes K (nI 0)) p9) 9 p9, (), rfl, eR9, by rw [ht]; exact hP9, va_K.moved hW.alike hK, hD9⟩, hS.F ht⟩) hS.2.2 dX6_letGo_48
      · skip
        exact absurd c_3 (by decide)
    · skip
      have c_2 : K 5 p9 = (-1) := c_2
      refine lv_iconst (v := nI 2) hx hb dX6_letGo_24 (by decide) ?_
      refine lv_goto (tgt := 29) hx hb dX6_letGo_25 (by decide) ?_
      refine zc_wVi (As := [.int (nI 2)]) (rest := []) (wr := []) ⟨hx, hb, hml, hown, hts⟩ (kX6_goesWell l D cI cZ ad K _ (nI 2) ) (cwV 1 hts gX6_letGo_X6_goesWell rfl rfl rfl (by decide +kernel) ⟨(Nat.le_of_ble_eq_true rfl), (Nat.le_of_ble_eq_true rfl)⟩) hK hP hD hS hA [0, 1, 2, 3, 4, 5, 6, 7, 8, 9, 10, 11, 12, 13, 14, 15, 16] [] rfl rfl rfl rfl rfl (by decide) (ci := 6) (q0 := 0) rfl rfl rfl rfl hl.1 rfl (Nat.le_of_ble_eq_true rfl) dX6_letGo_29 ⟨Nat.zero_le _, Nat.zero_le _⟩ (fun H locs hP hD hS => ?_)
      have hP : va_P D vwCl (mwA ad cI cZ (mGoes K (nI 2))) _ := hP
      have hD : va_D A (mwA ad cI cZ (mGoes K (nI 2))) := hD
      refine zz_top (y := nI 0) (by decide) ?_
      refine lv_if_ne (tgt := 37) hx hb dX6_letGo_32 (by decide) (fun c_4 => ?_) (fun c_4 => ?_)
      · skip
        exact absurd (show nI 0 = 0 from rfl) c_4
      · skip
        refine lv_iconst (v := nI 0) hx hb dX6_letGo_35 (by decide) ?_
        have hT9 : mGoT K x = nI 2 := by simp [mGoT, c_1, hp7, eq_true c_2, eq_true c_4]
        have eK9 : (mPost (mGoT K x) K (mDrop (mGoes K (nI 0)) x.toNatClampNeg)) = (mGoes K (nI 2)) := by rw [hT9, mPost_2] <;> rfl
        have hP9 := hP
        have hD9 := hD
        rw [← eK9] at hP9 hD9
        have eR9 : nI 0 = mRes (mGoT K x) (K 9 x.toNatClampNeg) := by rw [hT9, mRes_2] <;> rfl
        exact W.iret (v := nI 0) hx hb hr (fun t ht hW => ⟨⟨nI 0, (), rfl, eR9, by rw [ht]; exact hP9, va_K.moved hW.alike hK, hD9⟩, hS.F ht⟩) hS.2.2 dX6_letGo_36
  · skip
    have c_1 := zb_f c_1
    refine lv_iconst (v := nI 1) hx hb dX6_letGo_10 (by decide) ?_
    refine lv_goto (tgt := 29) hx hb dX6_letGo_11 (by decide) ?_
    refine zc_wVi (As := [.int (nI 1)]) (rest := []) (wr := []) ⟨hx, hb, hml, hown, hts⟩ (kX6_goesWell l D cI cZ ad K _ (nI 1) ) (cwV 1 hts gX6_letGo_X6_goesWell rfl rfl rfl (by decide +kernel) ⟨(Nat.le_of_ble_eq_true rfl), (Nat.le_of_ble_eq_true rfl)⟩) hK hP hD hS hA [0, 1, 2, 3, 4, 5, 6, 7, 8, 9, 10, 11, 12, 13, 14, 15, 16] [] rfl rfl rfl rfl rfl (by decide) (ci := 6) (q0 := 0) rfl rfl rfl rfl hl.1 rfl (Nat.le_of_ble_eq_true rfl) dX6_letGo_29 ⟨Nat.zero_le _, Nat.zero_le _⟩ (fun H locs hP hD hS => ?_)
    have hP : va_P D vwCl (mwA ad cI cZ (mGoes K (nI 1))) _ := hP
    have hD : va_D A (mwA ad cI cZ (mGoes K (nI 1))) := hD
    refine zz_top (y := nI 0) (by decide) ?_
    refine lv_if_ne (tgt := 37) hx hb dX6_letGo_32 (by decide) (fun c_5 => ?_) (fun c_5 => ?_)
    · skip
      exact absurd (show nI 0 = 0 from rfl) c_5
    · skip
      refine lv_iconst (v := nI 0) hx hb dX6_letGo_35 (by decide) ?_
      have hT9 : mGoT K x = nI 1 := by simp [mGoT, c_1, eq_true c_5]
      have eK9 : (mPost (mGoT K x) K (mDrop (mGoes K (nI 0)) x.toNatClampNeg)) = (mGoes K (nI 1)) := by rw [hT9, mPost_1] <;> rfl
      have hP9 := hP
      have hD9 := hD
      rw [← eK9] at hP9 hD9
      have eR9 : nI 0 = mRes (mGoT K x) (K 9 x.toNatClampNeg) := by rw [hT9, mRes_1] <;> rfl
      exact W.iret (v := nI 0) hx hb hr (fun t ht hW => ⟨⟨nI 0, (), rfl, eR9, by rw [ht]; exact hP9, va_K.moved hW.alike hK, hD9⟩, hS.F ht⟩) hS.2.2 dX6_letGo_36
set_option maxHeartbeats 4000000 in
set_option maxRecDepth 100000 in
theorem kX6_lapses (l : Launch) (D : va_G) (cI cZ : ClassId) (ad : Nat → Nat) (K : kS) (sz : Nat) (x : Int32)  : Met l yX6_lapses wsX6_lapses ({ frames := 2, cells := 0, slots := 0, locals := 42 }) (va_Pc [.ref (ad 0), .int x] (zPr D (zTy cI cZ) (mwA ad cI cZ K) sz)) (va_Qi (fun r (_ : Unit) => r = mRes (mLapT x) (mLapR K x.toNatClampNeg)) (fun _ => zPo D (zTy cI cZ) (va_A (mwA ad cI cZ K) sz) (mwA ad cI cZ (mPost (mLapT x) K (mGoes K (nI 0))))) (va_A (mwA ad cI cZ K) sz)) 0 0 (va_A (mwA ad cI cZ K) sz) := by
  refine Met.ofW (cc := cX6_lapses) (maxL := 2) (ret := (some .int)) (by decide) rfl ?_
  intro pP e s m args below meth c s₁ B hml hv
  obtain ⟨rfl, hsz, hP, hK, hD0⟩ := hv
  have hx := B.exec
  have hb := B.bytes
  have hr := B.returns
  have hts := atoms_spec (ws := wsX6_lapses) B.pre
  have hown : s.vm.findClass RX6 = some m.cls := findClass_of_methodNamed B.named
  have hlocks := B.notSynchronized
  subst hsz
  have hD := hD0.self (sz := s.heap.size)
  generalize hAe : va_A (mwA ad cI cZ K) s.heap.size = A at hD ⊢
  have hA : ∀ q : Nat, s.heap.size ≤ q → A q := fun q h => by rw [← hAe]; exact Or.inr h
  have hS : va_S A s.heap s.heap [] := va_S.rf
  have hinX6 : ∀ w ∈ u_ws RX6 TX6 21, w ∈ wsX6_lapses := by decide +kernel
  have hl := lv_entry ([.ref (ad 0), .int x]) (n := 2) (Nat.le_of_ble_eq_true rfl)
  rw [lg_entry_eq]
  generalize (lg_sl ([.ref (ad 0), .int x]) ++ List.replicate (2 - (lg_sl ([.ref (ad 0), .int x])).length) Slot.unset).toArray = ls at hl ⊢
  have hl : lv_has ls 2 [(0, .ref (ad 0)), (1, .int x)] := hl
  refine lv_aload_n hx hb dX6_lapses_0 rfl (lv_at hl 0 rfl) ?_
  refine lv_iload_n hx hb dX6_lapses_1 rfl (lv_at hl 1 rfl) ?_
  refine zc_rS (As := [.int x]) (rest := [.ref (ad 0)]) ⟨hx, hb, hml, hown, hts⟩ (kX6_isPerson l x ) (va_cwS 1 hts gX6_lapses_X6_isPerson rfl rfl rfl (by decide +kernel) ⟨(Nat.le_of_ble_eq_true rfl), (Nat.le_of_ble_eq_true rfl)⟩) rfl hl.1 rfl (Nat.le_of_ble_eq_true rfl) dX6_lapses_2 ⟨Nat.zero_le _, Nat.zero_le _⟩ ?_
  refine lv_if_eq (tgt := 12) hx hb dX6_lapses_5 (by decide) (fun c_1 => ?_) (fun c_1 => ?_)
  · skip
    have c_1 := zb_f c_1
    refine lv_iconst (v := nI 1) hx hb dX6_lapses_12 (by decide) ?_
    refine zc_wVi (As := [.int (nI 1)]) (rest := []) (wr := []) ⟨hx, hb, hml, hown, hts⟩ (kX6_goesWell l D cI cZ ad K _ (nI 1) ) (cwV 1 hts gX6_lapses_X6_goesWell rfl rfl rfl (by decide +kernel) ⟨(Nat.le_of_ble_eq_true rfl), (Nat.le_of_ble_eq_true rfl)⟩) hK hP hD hS hA [0, 1, 2, 3, 4, 5, 6, 7, 8, 9, 10, 11, 12, 13, 14, 15, 16] [] rfl rfl rfl rfl rfl (by decide) (ci := 6) (q0 := 0) rfl rfl rfl rfl hl.1 rfl (Nat.le_of_ble_eq_true rfl) dX6_lapses_13 ⟨Nat.zero_le _, Nat.zero_le _⟩ (fun H locs hP hD hS => ?_)
    have hP : va_P D vwCl (mwA ad cI cZ (mGoes K (nI 1))) _ := hP
    have hD : va_D A (mwA ad cI cZ (mGoes K (nI 1))) := hD
    refine zz_top (y := nI 0) (by decide) ?_
    refine lv_if_ne (tgt := 21) hx hb dX6_lapses_16 (by decide) (fun c_2 => ?_) (fun c_2 => ?_)
    · skip
      exact absurd (show nI 0 = 0 from rfl) c_2
    · skip
      refine lv_iconst (v := nI 0) hx hb dX6_lapses_19 (by decide) ?_
      have hT9 : mLapT x = nI 1 := by simp [mLapT, c_1, eq_true c_2]
      have eK9 : (mPost (mLapT x) K (mGoes K (nI 0))) = (mGoes K (nI 1)) := by rw [hT9, mPost_1] <;> rfl
      have hP9 := hP
      have hD9 := hD
      rw [← eK9] at hP9 hD9
      have eR9 : nI 0 = mRes (mLapT x) (mLapR K x.toNatClampNeg) := by rw [hT9, mRes_1] <;> rfl
      exact W.iret (v := nI 0) hx hb hr (fun t ht hW => ⟨⟨nI 0, (), rfl, eR9, by rw [ht]; exact hP9, va_K.moved hW.alike hK, hD9⟩, hS.F ht⟩) hS.2.2 dX6_lapses_20
  · skip
    have c_1 := zb_t c_1
    obtain ⟨p9, hp9, hp8, hp7⟩ := mIsP_of c_1
    refine lv_iconst (v := nI 0) hx hb dX6_lapses_8 (by decide) ?_
    refine lv_goto (tgt := 13) hx hb dX6_lapses_9 (by decide) ?_
    refine zc_wVi (As := [.int (nI 0)]) (rest := []) (wr := []) ⟨hx, hb, hml, hown, hts⟩ (kX6_goesWell l D cI cZ ad K _ (nI 0) ) (cwV 1 hts gX6_lapses_X6_goesWell rfl rfl rfl (by decide +kernel) ⟨(Nat.le_of_ble_eq_true rfl), (Nat.le_of_ble_eq_true rfl)⟩) hK hP hD hS hA [0, 1, 2, 3, 4, 5, 6, 7, 8, 9, 10, 11, 12, 13, 14, 15, 16] [] rfl rfl rfl rfl rfl (by decide) (ci := 6) (q0 := 0) rfl rfl rfl rfl hl.1 rfl (Nat.le_of_ble_eq_true rfl) dX6_lapses_13 ⟨Nat.zero_le _, Nat.zero_le _⟩ (fun H locs hP hD hS => ?_)
    have hP : va_P D vwCl (mwA ad cI cZ (mGoes K (nI 0))) _ := hP
    have hD : va_D A (mwA ad cI cZ (mGoes K (nI 0))) := hD
    refine zz_top (y := nI 1) (by decide) ?_
    refine lv_if_ne (tgt := 21) hx hb dX6_lapses_16 (by decide) (fun c_3 => ?_) (fun c_3 => ?_)
    · skip
      refine lv_aload_n hx hb dX6_lapses_21 rfl (lv_at hl 0 rfl) ?_
      refine va_get (D := D) (ci := 6) (v := .ref (ad 5)) (C := RX6) (T := TX6) (N := 21) hx hb hts hinX6 hown hK hP 0 rfl rfl 8 (by decide) (hts (.fieldLink RX6 26 "AuditoriumKeysModel" "firsts" "[I") (List.mem_of_getElem? (i := 1) rfl)) (fun _ h9 => h9) rfl dX6_lapses_22 ?_
      refine lv_iload_n hx hb dX6_lapses_25 rfl (lv_at hl 1 rfl) ?_
      refine zz_top (y := nI p9) hp8 ?_
      refine zz_iald hx hb hK hP 5 0 rfl rfl p9 (by omega) (by decide) dX6_lapses_26 ?_
      refine lv_iconst (v := (-1)) hx hb dX6_lapses_27 (by decide) ?_
      refine lv_icmp_ne (tgt := 35) hx hb dX6_lapses_28 (by decide) (fun c_4 => ?_) (fun c_4 => ?_)
      · skip
        have c_4 : ¬ (mGoes K (nI 0)) 5 p9 = (-1) := c_4
        have c_4 : ¬ K 5 p9 = (-1) := c_4
        refine lv_aload_n hx hb dX6_lapses_35 rfl (lv_at hl 0 rfl) ?_
        refine va_get (D := D) (ci := 6) (v := .ref (ad 11)) (C := RX6) (T := TX6) (N := 21) hx hb hts hinX6 hown hK hP 0 rfl rfl 14 (by decide) (hts (.fieldLink RX6 44 "AuditoriumKeysModel" "lapsesAt" "[I") (List.mem_of_getElem? (i := 2) rfl)) (fun _ h9 => h9) rfl dX6_lapses_36 ?_
        refine lv_iload_n hx hb dX6_lapses_39 rfl (lv_at hl 1 rfl) ?_
        refine zz_top (y := nI p9) hp8 ?_
        refine zz_iald hx hb hK hP 11 0 rfl rfl p9 (by omega) (by decide) dX6_lapses_40 ?_
        have hT9 : mLapT x = nI 0 := by simp [mLapT, c_1, hp7, c_3, c_4]
        have eK9 : (mPost (mLapT x) K (mGoes K (nI 0))) = (mGoes K (nI 0)) := by rw [hT9, mPost_0] <;> rfl
        have hP9 := hP
        have hD9 := hD
        rw [← eK9] at hP9 hD9
        have eR9 : (mGoes K (nI 0)) 11 p9 = mRes (mLapT x) (mLapR K x.toNatClampNeg) := by rw [hT9, mRes_0, hp7] <;> (simp [mLapR, c_1, hp7, c_3, c_4]; try rfl)
        exact W.iret (v := (mGoes K (nI 0)) 11 p9) hx hb hr (fun t ht hW => ⟨⟨(mGoes K (nI 0)) 11 p9, (), rfl, eR9, by rw [ht]; exact hP9, va_K.moved hW.alike hK, hD9⟩, hS.F ht⟩) hS.2.2 dX6_lapses_41
      · skip
        have c_4 : (mGoes K (nI 0)) 5 p9 = (-1) := c_4
        have c_4 : K 5 p9 = (-1) := c_4
        refine lv_iconst (v := (-1)) hx hb dX6_lapses_31 (by decide) ?_
        refine lv_goto (tgt := 41) hx hb dX6_lapses_32 (by decide) ?_
        have hT9 : mLapT x = nI 0 := by simp [mLapT, c_1, hp7, c_3, eq_true c_4]
        have eK9 : (mPost (mLapT x) K (mGoes K (nI 0))) = (mGoes K (nI 0)) := by rw [hT9, mPost_0] <;> rfl
        have hP9 := hP
        have hD9 := hD
        rw [← eK9] at hP9 hD9
        have eR9 : (-1) = mRes (mLapT x) (mLapR K x.toNatClampNeg) := by rw [hT9, mRes_0, hp7] <;> (simp [mLapR, c_1, hp7, c_3, eq_true c_4]; try rfl)
        exact W.iret (v := (-1)) hx hb hr (fun t ht hW => ⟨⟨(-1), (), rfl, eR9, by rw [ht]; exact hP9, va_K.moved hW.alike hK, hD9⟩, hS.F ht⟩) hS.2.2 dX6_lapses_41
    · skip
      exact absurd c_3 (by decide)
set_option maxHeartbeats 4000000 in
set_option maxRecDepth 100000 in
theorem kX6_state (l : Launch) (D : va_G) (cI cZ : ClassId) (ad : Nat → Nat) (K : kS) (sz : Nat) (x : Int32)  : Met l yX6_state wsX6_state ({ frames := 3, cells := 0, slots := 0, locals := 66 }) (va_Pc [.ref (ad 0), .int x] (zPr D (zTy cI cZ) (mwA ad cI cZ K) sz)) (va_Qi (fun r (_ : Unit) => r = mRes (mSeaT x) (mState K x.toNatClampNeg)) (fun _ => zPo D (zTy cI cZ) (va_A (mwA ad cI cZ K) sz) (mwA ad cI cZ (mPost (mSeaT x) K (mGoes K (nI 0))))) (va_A (mwA ad cI cZ K) sz)) 0 0 (va_A (mwA ad cI cZ K) sz) := by
  refine Met.ofW (cc := cX6_state) (maxL := 2) (ret := (some .int)) (by decide) rfl ?_
  intro pP e s m args below meth c s₁ B hml hv
  obtain ⟨rfl, hsz, hP, hK, hD0⟩ := hv
  have hx := B.exec
  have hb := B.bytes
  have hr := B.returns
  have hts := atoms_spec (ws := wsX6_state) B.pre
  have hown : s.vm.findClass RX6 = some m.cls := findClass_of_methodNamed B.named
  have hlocks := B.notSynchronized
  subst hsz
  have hD := hD0.self (sz := s.heap.size)
  generalize hAe : va_A (mwA ad cI cZ K) s.heap.size = A at hD ⊢
  have hA : ∀ q : Nat, s.heap.size ≤ q → A q := fun q h => by rw [← hAe]; exact Or.inr h
  have hS : va_S A s.heap s.heap [] := va_S.rf
  have hl := lv_entry ([.ref (ad 0), .int x]) (n := 2) (Nat.le_of_ble_eq_true rfl)
  rw [lg_entry_eq]
  generalize (lg_sl ([.ref (ad 0), .int x]) ++ List.replicate (2 - (lg_sl ([.ref (ad 0), .int x])).length) Slot.unset).toArray = ls at hl ⊢
  have hl : lv_has ls 2 [(0, .ref (ad 0)), (1, .int x)] := hl
  refine lv_aload_n hx hb dX6_state_0 rfl (lv_at hl 0 rfl) ?_
  refine lv_iload_n hx hb dX6_state_1 rfl (lv_at hl 1 rfl) ?_
  refine zc_rS (As := [.int x]) (rest := [.ref (ad 0)]) ⟨hx, hb, hml, hown, hts⟩ (kX6_isSeat l x ) (va_cwS 1 hts gX6_state_X6_isSeat rfl rfl rfl (by decide +kernel) ⟨(Nat.le_of_ble_eq_true rfl), (Nat.le_of_ble_eq_true rfl)⟩) rfl hl.1 rfl (Nat.le_of_ble_eq_true rfl) dX6_state_2 ⟨Nat.zero_le _, Nat.zero_le _⟩ ?_
  refine lv_if_eq (tgt := 12) hx hb dX6_state_5 (by decide) (fun c_1 => ?_) (fun c_1 => ?_)
  · skip
    have c_1 := zb_f c_1
    refine lv_iconst (v := nI 1) hx hb dX6_state_12 (by decide) ?_
    refine zc_wVi (As := [.int (nI 1)]) (rest := []) (wr := []) ⟨hx, hb, hml, hown, hts⟩ (kX6_goesWell l D cI cZ ad K _ (nI 1) ) (cwV 1 hts gX6_state_X6_goesWell rfl rfl rfl (by decide +kernel) ⟨(Nat.le_of_ble_eq_true rfl), (Nat.le_of_ble_eq_true rfl)⟩) hK hP hD hS hA [0, 1, 2, 3, 4, 5, 6, 7, 8, 9, 10, 11, 12, 13, 14, 15, 16] [] rfl rfl rfl rfl rfl (by decide) (ci := 6) (q0 := 0) rfl rfl rfl rfl hl.1 rfl (Nat.le_of_ble_eq_true rfl) dX6_state_13 ⟨Nat.zero_le _, Nat.zero_le _⟩ (fun H locs hP hD hS => ?_)
    have hP : va_P D vwCl (mwA ad cI cZ (mGoes K (nI 1))) _ := hP
    have hD : va_D A (mwA ad cI cZ (mGoes K (nI 1))) := hD
    refine zz_top (y := nI 0) (by decide) ?_
    refine lv_if_eq (tgt := 27) hx hb dX6_state_16 (by decide) (fun c_2 => ?_) (fun c_2 => ?_)
    · skip
      refine lv_iconst (v := nI 0) hx hb dX6_state_27 (by decide) ?_
      have hT9 : mSeaT x = nI 1 := by simp [mSeaT, c_1, eq_true c_2]
      have eK9 : (mPost (mSeaT x) K (mGoes K (nI 0))) = (mGoes K (nI 1)) := by rw [hT9, mPost_1] <;> rfl
      have hP9 := hP
      have hD9 := hD
      rw [← eK9] at hP9 hD9
      have eR9 : nI 0 = mRes (mSeaT x) (mState K x.toNatClampNeg) := by rw [hT9, mRes_1] <;> rfl
      exact W.iret (v := nI 0) hx hb hr (fun t ht hW => ⟨⟨nI 0, (), rfl, eR9, by rw [ht]; exact hP9, va_K.moved hW.alike hK, hD9⟩, hS.F ht⟩) hS.2.2 dX6_state_28
    · skip
      exact absurd (show nI 0 = 0 from rfl) c_2
  · skip
    have c_1 := zb_t c_1
    obtain ⟨p9, hp9, hp8, hp7⟩ := mIsS_of c_1
    refine lv_iconst (v := nI 0) hx hb dX6_state_8 (by decide) ?_
    refine lv_goto (tgt := 13) hx hb dX6_state_9 (by decide) ?_
    refine zc_wVi (As := [.int (nI 0)]) (rest := []) (wr := []) ⟨hx, hb, hml, hown, hts⟩ (kX6_goesWell l D cI cZ ad K _ (nI 0) ) (cwV 1 hts gX6_state_X6_goesWell rfl rfl rfl (by decide +kernel) ⟨(Nat.le_of_ble_eq_true rfl), (Nat.le_of_ble_eq_true rfl)⟩) hK hP hD hS hA [0, 1, 2, 3, 4, 5, 6, 7, 8, 9, 10, 11, 12, 13, 14, 15, 16] [] rfl rfl rfl rfl rfl (by decide) (ci := 6) (q0 := 0) rfl rfl rfl rfl hl.1 rfl (Nat.le_of_ble_eq_true rfl) dX6_state_13 ⟨Nat.zero_le _, Nat.zero_le _⟩ (fun H locs hP hD hS => ?_)
    have hP : va_P D vwCl (mwA ad cI cZ (mGoes K (nI 0))) _ := hP
    have hD : va_D A (mwA ad cI cZ (mGoes K (nI 0))) := hD
    refine zz_top (y := nI 1) (by decide) ?_
    refine lv_if_eq (tgt := 27) hx hb dX6_state_16 (by decide) (fun c_3 => ?_) (fun c_3 => ?_)
    · skip
      exact absurd c_3 (by decide)
    · skip
      refine lv_aload_n hx hb dX6_state_19 rfl (lv_at hl 0 rfl) ?_
      refine lv_iload_n hx hb dX6_state_20 rfl (lv_at hl 1 rfl) ?_
      refine zz_top (y := nI p9) hp8 ?_
      refine zc_rV (As := [.int (nI p9)]) (rest := []) ⟨hx, hb, hml, hown, hts⟩ (kX6_stateOf l D cI cZ ad (mGoes K (nI 0)) p9 (by omega)) (cwV 1 hts gX6_state_X6_stateOf rfl rfl rfl (by decide +kernel) ⟨(Nat.le_of_ble_eq_true rfl), (Nat.le_of_ble_eq_true rfl)⟩) hK hP (ci := 6) (q0 := 0) rfl rfl rfl rfl hl.1 rfl (Nat.le_of_ble_eq_true rfl) dX6_state_21 ⟨Nat.zero_le _, Nat.zero_le _⟩ ?_
      refine lv_goto (tgt := 28) hx hb dX6_state_24 (by decide) ?_
      have hT9 : mSeaT x = nI 0 := by simp [mSeaT, c_1, hp7, c_3]
      have eK9 : (mPost (mSeaT x) K (mGoes K (nI 0))) = (mGoes K (nI 0)) := by rw [hT9, mPost_0] <;> rfl
      have hP9 := hP
      have hD9 := hD
      rw [← eK9] at hP9 hD9
      have eR9 : mState (mGoes K (nI 0)) p9 = mRes (mSeaT x) (mState K x.toNatClampNeg) := by rw [hT9, mRes_0, hp7] <;> rfl
      exact W.iret (v := mState (mGoes K (nI 0)) p9) hx hb hr (fun t ht hW => ⟨⟨mState (mGoes K (nI 0)) p9, (), rfl, eR9, by rw [ht]; exact hP9, va_K.moved hW.alike hK, hD9⟩, hS.F ht⟩) hS.2.2 dX6_state_28
set_option maxHeartbeats 4000000 in
set_option maxRecDepth 100000 in
theorem kX6_ownerBySales (l : Launch) (D : va_G) (cI cZ : ClassId) (ad : Nat → Nat) (K : kS) (sz : Nat) (x : Int32)  : Met l yX6_ownerBySales wsX6_ownerBySales ({ frames := 2, cells := 0, slots := 0, locals := 42 }) (va_Pc [.ref (ad 0), .int x] (zPr D (zTy cI cZ) (mwA ad cI cZ K) sz)) (va_Qi (fun r (_ : Unit) => r = mRes (mSeaT x) (K 13 x.toNatClampNeg)) (fun _ => zPo D (zTy cI cZ) (va_A (mwA ad cI cZ K) sz) (mwA ad cI cZ (mPost (mSeaT x) K (mGoes K (nI 0))))) (va_A (mwA ad cI cZ K) sz)) 0 0 (va_A (mwA ad cI cZ K) sz) := by
  refine Met.ofW (cc := cX6_ownerBySales) (maxL := 2) (ret := (some .int)) (by decide) rfl ?_
  intro pP e s m args below meth c s₁ B hml hv
  obtain ⟨rfl, hsz, hP, hK, hD0⟩ := hv
  have hx := B.exec
  have hb := B.bytes
  have hr := B.returns
  have hts := atoms_spec (ws := wsX6_ownerBySales) B.pre
  have hown : s.vm.findClass RX6 = some m.cls := findClass_of_methodNamed B.named
  have hlocks := B.notSynchronized
  subst hsz
  have hD := hD0.self (sz := s.heap.size)
  generalize hAe : va_A (mwA ad cI cZ K) s.heap.size = A at hD ⊢
  have hA : ∀ q : Nat, s.heap.size ≤ q → A q := fun q h => by rw [← hAe]; exact Or.inr h
  have hS : va_S A s.heap s.heap [] := va_S.rf
  have hinX6 : ∀ w ∈ u_ws RX6 TX6 21, w ∈ wsX6_ownerBySales := by decide +kernel
  have hl := lv_entry ([.ref (ad 0), .int x]) (n := 2) (Nat.le_of_ble_eq_true rfl)
  rw [lg_entry_eq]
  generalize (lg_sl ([.ref (ad 0), .int x]) ++ List.replicate (2 - (lg_sl ([.ref (ad 0), .int x])).length) Slot.unset).toArray = ls at hl ⊢
  have hl : lv_has ls 2 [(0, .ref (ad 0)), (1, .int x)] := hl
  refine lv_aload_n hx hb dX6_ownerBySales_0 rfl (lv_at hl 0 rfl) ?_
  refine lv_iload_n hx hb dX6_ownerBySales_1 rfl (lv_at hl 1 rfl) ?_
  refine zc_rS (As := [.int x]) (rest := [.ref (ad 0)]) ⟨hx, hb, hml, hown, hts⟩ (kX6_isSeat l x ) (va_cwS 1 hts gX6_ownerBySales_X6_isSeat rfl rfl rfl (by decide +kernel) ⟨(Nat.le_of_ble_eq_true rfl), (Nat.le_of_ble_eq_true rfl)⟩) rfl hl.1 rfl (Nat.le_of_ble_eq_true rfl) dX6_ownerBySales_2 ⟨Nat.zero_le _, Nat.zero_le _⟩ ?_
  refine lv_if_eq (tgt := 12) hx hb dX6_ownerBySales_5 (by decide) (fun c_1 => ?_) (fun c_1 => ?_)
  · skip
    have c_1 := zb_f c_1
    refine lv_iconst (v := nI 1) hx hb dX6_ownerBySales_12 (by decide) ?_
    refine zc_wVi (As := [.int (nI 1)]) (rest := []) (wr := []) ⟨hx, hb, hml, hown, hts⟩ (kX6_goesWell l D cI cZ ad K _ (nI 1) ) (cwV 1 hts gX6_ownerBySales_X6_goesWell rfl rfl rfl (by decide +kernel) ⟨(Nat.le_of_ble_eq_true rfl), (Nat.le_of_ble_eq_true rfl)⟩) hK hP hD hS hA [0, 1, 2, 3, 4, 5, 6, 7, 8, 9, 10, 11, 12, 13, 14, 15, 16] [] rfl rfl rfl rfl rfl (by decide) (ci := 6) (q0 := 0) rfl rfl rfl rfl hl.1 rfl (Nat.le_of_ble_eq_true rfl) dX6_ownerBySales_13 ⟨Nat.zero_le _, Nat.zero_le _⟩ (fun H locs hP hD hS => ?_)
    have hP : va_P D vwCl (mwA ad cI cZ (mGoes K (nI 1))) _ := hP
    have hD : va_D A (mwA ad cI cZ (mGoes K (nI 1))) := hD
    refine zz_top (y := nI 0) (by decide) ?_
    refine lv_if_eq (tgt := 28) hx hb dX6_ownerBySales_16 (by decide) (fun c_2 => ?_) (fun c_2 => ?_)
    · skip
      refine lv_iconst (v := nI 0) hx hb dX6_ownerBySales_28 (by decide) ?_
      have hT9 : mSeaT x = nI 1 := by simp [mSeaT, c_1, eq_true c_2]
      have eK9 : (mPost (mSeaT x) K (mGoes K (nI 0))) = (mGoes K (nI 1)) := by rw [hT9, mPost_1] <;> rfl
      have hP9 := hP
      have hD9 := hD
      rw [← eK9] at hP9 hD9
      have eR9 : nI 0 = mRes (mSeaT x) (K 13 x.toNatClampNeg) := by rw [hT9, mRes_1] <;> rfl
      exact W.iret (v := nI 0) hx hb hr (fun t ht hW => ⟨⟨nI 0, (), rfl, eR9, by rw [ht]; exact hP9, va_K.moved hW.alike hK, hD9⟩, hS.F ht⟩) hS.2.2 dX6_ownerBySales_29
    · skip
      exact absurd (show nI 0 = 0 from rfl) c_2
  · skip
    have c_1 := zb_t c_1
    obtain ⟨p9, hp9, hp8, hp7⟩ := mIsS_of c_1
    refine lv_iconst (v := nI 0) hx hb dX6_ownerBySales_8 (by decide) ?_
    refine lv_goto (tgt := 13) hx hb dX6_ownerBySales_9 (by decide) ?_
    refine zc_wVi (As := [.int (nI 0)]) (rest := []) (wr := []) ⟨hx, hb, hml, hown, hts⟩ (kX6_goesWell l D cI cZ ad K _ (nI 0) ) (cwV 1 hts gX6_ownerBySales_X6_goesWell rfl rfl rfl (by decide +kernel) ⟨(Nat.le_of_ble_eq_true rfl), (Nat.le_of_ble_eq_true rfl)⟩) hK hP hD hS hA [0, 1, 2, 3, 4, 5, 6, 7, 8, 9, 10, 11, 12, 13, 14, 15, 16] [] rfl rfl rfl rfl rfl (by decide) (ci := 6) (q0 := 0) rfl rfl rfl rfl hl.1 rfl (Nat.le_of_ble_eq_true rfl) dX6_ownerBySales_13 ⟨Nat.zero_le _, Nat.zero_le _⟩ (fun H locs hP hD hS => ?_)
    have hP : va_P D vwCl (mwA ad cI cZ (mGoes K (nI 0))) _ := hP
    have hD : va_D A (mwA ad cI cZ (mGoes K (nI 0))) := hD
    refine zz_top (y := nI 1) (by decide) ?_
    refine lv_if_eq (tgt := 28) hx hb dX6_ownerBySales_16 (by decide) (fun c_3 => ?_) (fun c_3 => ?_)
    · skip
      exact absurd c_3 (by decide)
    · skip
      refine lv_aload_n hx hb dX6_ownerBySales_19 rfl (lv_at hl 0 rfl) ?_
      refine va_get (D := D) (ci := 6) (v := .ref (ad 13)) (C := RX6) (T := TX6) (N := 21) hx hb hts hinX6 hown hK hP 0 rfl rfl 16 (by decide) (hts (.fieldLink RX6 50 "AuditoriumKeysModel" "owners" "[I") (List.mem_of_getElem? (i := 1) rfl)) (fun _ h9 => h9) rfl dX6_ownerBySales_20 ?_
      refine lv_iload_n hx hb dX6_ownerBySales_23 rfl (lv_at hl 1 rfl) ?_
      refine zz_top (y := nI p9) hp8 ?_
      refine zz_iald hx hb hK hP 13 0 rfl rfl p9 (by omega) (by decide) dX6_ownerBySales_24 ?_
      refine lv_goto (tgt := 29) hx hb dX6_ownerBySales_25 (by decide) ?_
      have hT9 : mSeaT x = nI 0 := by simp [mSeaT, c_1, hp7, c_3]
      have eK9 : (mPost (mSeaT x) K (mGoes K (nI 0))) = (mGoes K (nI 0)) := by rw [hT9, mPost_0] <;> rfl
      have hP9 := hP
      have hD9 := hD
      rw [← eK9] at hP9 hD9
      have eR9 : (mGoes K (nI 0)) 13 p9 = mRes (mSeaT x) (K 13 x.toNatClampNeg) := by rw [hT9, mRes_0, hp7] <;> rfl
      exact W.iret (v := (mGoes K (nI 0)) 13 p9) hx hb hr (fun t ht hW => ⟨⟨(mGoes K (nI 0)) 13 p9, (), rfl, eR9, by rw [ht]; exact hP9, va_K.moved hW.alike hK, hD9⟩, hS.F ht⟩) hS.2.2 dX6_ownerBySales_29
set_option maxHeartbeats 4000000 in
set_option maxRecDepth 100000 in
theorem kX6_owner (l : Launch) (D : va_G) (cI cZ : ClassId) (ad : Nat → Nat) (K : kS) (sz : Nat) (x : Int32)  : Met l yX6_owner wsX6_owner ({ frames := 3, cells := 0, slots := 0, locals := 63 }) (va_Pc [.ref (ad 0), .int x] (zPr D (zTy cI cZ) (mwA ad cI cZ K) sz)) (va_Qi (fun r (_ : Unit) => r = mRes (mSeaT x) (K 13 x.toNatClampNeg)) (fun _ => zPo D (zTy cI cZ) (va_A (mwA ad cI cZ K) sz) (mwA ad cI cZ (mPost (mSeaT x) K (mGoes K (nI 0))))) (va_A (mwA ad cI cZ K) sz)) 0 0 (va_A (mwA ad cI cZ K) sz) := by
  refine Met.ofW (cc := cX6_owner) (maxL := 2) (ret := (some .int)) (by decide) rfl ?_
  intro pP e s m args below meth c s₁ B hml hv
  obtain ⟨rfl, hsz, hP, hK, hD0⟩ := hv
  have hx := B.exec
  have hb := B.bytes
  have hr := B.returns
  have hts := atoms_spec (ws := wsX6_owner) B.pre
  have hown : s.vm.findClass RX6 = some m.cls := findClass_of_methodNamed B.named
  have hlocks := B.notSynchronized
  subst hsz
  have hD := hD0.self (sz := s.heap.size)
  generalize hAe : va_A (mwA ad cI cZ K) s.heap.size = A at hD ⊢
  have hA : ∀ q : Nat, s.heap.size ≤ q → A q := fun q h => by rw [← hAe]; exact Or.inr h
  have hS : va_S A s.heap s.heap [] := va_S.rf
  have hl := lv_entry ([.ref (ad 0), .int x]) (n := 2) (Nat.le_of_ble_eq_true rfl)
  rw [lg_entry_eq]
  generalize (lg_sl ([.ref (ad 0), .int x]) ++ List.replicate (2 - (lg_sl ([.ref (ad 0), .int x])).length) Slot.unset).toArray = ls at hl ⊢
  have hl : lv_has ls 2 [(0, .ref (ad 0)), (1, .int x)] := hl
  refine lv_aload_n hx hb dX6_owner_0 rfl (lv_at hl 0 rfl) ?_
  refine lv_iload_n hx hb dX6_owner_1 rfl (lv_at hl 1 rfl) ?_
  refine zc_wVi (As := [.int x]) (rest := []) (wr := []) ⟨hx, hb, hml, hown, hts⟩ (kX6_ownerBySales l D cI cZ ad K _ x ) (cwV 1 hts gX6_owner_X6_ownerBySales rfl rfl rfl (by decide +kernel) ⟨(Nat.le_of_ble_eq_true rfl), (Nat.le_of_ble_eq_true rfl)⟩) hK hP hD hS hA [0, 1, 2, 3, 4, 5, 6, 7, 8, 9, 10, 11, 12, 13, 14, 15, 16] [] rfl rfl rfl rfl rfl (by decide) (ci := 6) (q0 := 0) rfl rfl rfl rfl hl.1 rfl (Nat.le_of_ble_eq_true rfl) dX6_owner_2 ⟨Nat.zero_le _, Nat.zero_le _⟩ (fun H locs hP hD hS => ?_)
  have hP : va_P D vwCl (mwA ad cI cZ (mPost (mSeaT x) K (mGoes K (nI 0)))) _ := hP
  have hD : va_D A (mwA ad cI cZ (mPost (mSeaT x) K (mGoes K (nI 0)))) := hD
  have hP9 := hP
  have hD9 := hD
  exact W.iret (v := mRes (mSeaT x) (K 13 x.toNatClampNeg)) hx hb hr (fun t ht hW => ⟨⟨mRes (mSeaT x) (K 13 x.toNatClampNeg), (), rfl, rfl, by rw [ht]; exact hP9, va_K.moved hW.alike hK, hD9⟩, hS.F ht⟩) hS.2.2 dX6_owner_5
set_option maxHeartbeats 4000000 in
set_option maxRecDepth 100000 in
theorem kX6_isSingle (l : Launch) (D : va_G) (cI cZ : ClassId) (ad : Nat → Nat) (K : kS) (sz : Nat) (x : Int32)  : Met l yX6_isSingle wsX6_isSingle ({ frames := 4, cells := 0, slots := 0, locals := 90 }) (va_Pc [.ref (ad 0), .int x] (zPr D (zTy cI cZ) (mwA ad cI cZ K) sz)) (va_Qi (fun r (_ : Unit) => r = mRes (mSeaT x) (zb (mAlone K x.toNatClampNeg))) (fun _ => zPo D (zTy cI cZ) (va_A (mwA ad cI cZ K) sz) (mwA ad cI cZ (mPost (mSeaT x) K (mGoes K (nI 0))))) (va_A (mwA ad cI cZ K) sz)) 0 0 (va_A (mwA ad cI cZ K) sz) := by
  refine Met.ofW (cc := cX6_isSingle) (maxL := 2) (ret := (some .boolean)) (by decide) rfl ?_
  intro pP e s m args below meth c s₁ B hml hv
  obtain ⟨rfl, hsz, hP, hK, hD0⟩ := hv
  have hx := B.exec
  have hb := B.bytes
  have hr := B.returns
  have hts := atoms_spec (ws := wsX6_isSingle) B.pre
  have hown : s.vm.findClass RX6 = some m.cls := findClass_of_methodNamed B.named
  have hlocks := B.notSynchronized
  subst hsz
  have hD := hD0.self (sz := s.heap.size)
  generalize hAe : va_A (mwA ad cI cZ K) s.heap.size = A at hD ⊢
  have hA : ∀ q : Nat, s.heap.size ≤ q → A q := fun q h => by rw [← hAe]; exact Or.inr h
  have hS : va_S A s.heap s.heap [] := va_S.rf
  have hl := lv_entry ([.ref (ad 0), .int x]) (n := 2) (Nat.le_of_ble_eq_true rfl)
  rw [lg_entry_eq]
  generalize (lg_sl ([.ref (ad 0), .int x]) ++ List.replicate (2 - (lg_sl ([.ref (ad 0), .int x])).length) Slot.unset).toArray = ls at hl ⊢
  have hl : lv_has ls 2 [(0, .ref (ad 0)), (1, .int x)] := hl
  refine lv_aload_n hx hb dX6_isSingle_0 rfl (lv_at hl 0 rfl) ?_
  refine lv_iload_n hx hb dX6_isSingle_1 rfl (lv_at hl 1 rfl) ?_
  refine zc_rS (As := [.int x]) (rest := [.ref (ad 0)]) ⟨hx, hb, hml, hown, hts⟩ (kX6_isSeat l x ) (va_cwS 1 hts gX6_isSingle_X6_isSeat rfl rfl rfl (by decide +kernel) ⟨(Nat.le_of_ble_eq_true rfl), (Nat.le_of_ble_eq_true rfl)⟩) rfl hl.1 rfl (Nat.le_of_ble_eq_true rfl) dX6_isSingle_2 ⟨Nat.zero_le _, Nat.zero_le _⟩ ?_
  refine lv_if_eq (tgt := 12) hx hb dX6_isSingle_5 (by decide) (fun c_1 => ?_) (fun c_1 => ?_)
  · skip
    have c_1 := zb_f c_1
    refine lv_iconst (v := nI 1) hx hb dX6_isSingle_12 (by decide) ?_
    refine zc_wVi (As := [.int (nI 1)]) (rest := []) (wr := []) ⟨hx, hb, hml, hown, hts⟩ (kX6_goesWell l D cI cZ ad K _ (nI 1) ) (cwV 1 hts gX6_isSingle_X6_goesWell rfl rfl rfl (by decide +kernel) ⟨(Nat.le_of_ble_eq_true rfl), (Nat.le_of_ble_eq_true rfl)⟩) hK hP hD hS hA [0, 1, 2, 3, 4, 5, 6, 7, 8, 9, 10, 11, 12, 13, 14, 15, 16] [] rfl rfl rfl rfl rfl (by decide) (ci := 6) (q0 := 0) rfl rfl rfl rfl hl.1 rfl (Nat.le_of_ble_eq_true rfl) dX6_isSingle_13 ⟨Nat.zero_le _, Nat.zero_le _⟩ (fun H locs hP hD hS => ?_)
    have hP : va_P D vwCl (mwA ad cI cZ (mGoes K (nI 1))) _ := hP
    have hD : va_D A (mwA ad cI cZ (mGoes K (nI 1))) := hD
    refine zz_top (y := nI 0) (by decide) ?_
    refine lv_if_eq (tgt := 31) hx hb dX6_isSingle_16 (by decide) (fun c_2 => ?_) (fun c_2 => ?_)
    · skip
      refine lv_iconst (v := nI 0) hx hb dX6_isSingle_31 (by decide) ?_
      have hT9 : mSeaT x = nI 1 := by simp [mSeaT, c_1, eq_true c_2]
      have eK9 : (mPost (mSeaT x) K (mGoes K (nI 0))) = (mGoes K (nI 1)) := by rw [hT9, mPost_1] <;> rfl
      have hP9 := hP
      have hD9 := hD
      rw [← eK9] at hP9 hD9
      have eR9 : nI 0 = mRes (mSeaT x) (zb (mAlone K x.toNatClampNeg)) := by rw [hT9, mRes_1] <;> rfl
      exact W.zret (v := nI 0) hx hb hr rfl (fun t ht hW => ⟨⟨nI 0, (), rfl, eR9, by rw [ht]; exact hP9, va_K.moved hW.alike hK, hD9⟩, hS.F ht⟩) hS.2.2 dX6_isSingle_32
    · skip
      exact absurd (show nI 0 = 0 from rfl) c_2
  · skip
    have c_1 := zb_t c_1
    obtain ⟨p9, hp9, hp8, hp7⟩ := mIsS_of c_1
    refine lv_iconst (v := nI 0) hx hb dX6_isSingle_8 (by decide) ?_
    refine lv_goto (tgt := 13) hx hb dX6_isSingle_9 (by decide) ?_
    refine zc_wVi (As := [.int (nI 0)]) (rest := []) (wr := []) ⟨hx, hb, hml, hown, hts⟩ (kX6_goesWell l D cI cZ ad K _ (nI 0) ) (cwV 1 hts gX6_isSingle_X6_goesWell rfl rfl rfl (by decide +kernel) ⟨(Nat.le_of_ble_eq_true rfl), (Nat.le_of_ble_eq_true rfl)⟩) hK hP hD hS hA [0, 1, 2, 3, 4, 5, 6, 7, 8, 9, 10, 11, 12, 13, 14, 15, 16] [] rfl rfl rfl rfl rfl (by decide) (ci := 6) (q0 := 0) rfl rfl rfl rfl hl.1 rfl (Nat.le_of_ble_eq_true rfl) dX6_isSingle_13 ⟨Nat.zero_le _, Nat.zero_le _⟩ (fun H locs hP hD hS => ?_)
    have hP : va_P D vwCl (mwA ad cI cZ (mGoes K (nI 0))) _ := hP
    have hD : va_D A (mwA ad cI cZ (mGoes K (nI 0))) := hD
    refine zz_top (y := nI 1) (by decide) ?_
    refine lv_if_eq (tgt := 31) hx hb dX6_isSingle_16 (by decide) (fun c_3 => ?_) (fun c_3 => ?_)
    · skip
      exact absurd c_3 (by decide)
    · skip
      refine lv_aload_n hx hb dX6_isSingle_19 rfl (lv_at hl 0 rfl) ?_
      refine lv_iload_n hx hb dX6_isSingle_20 rfl (lv_at hl 1 rfl) ?_
      refine zz_top (y := nI p9) hp8 ?_
      refine zc_rV (As := [.int (nI p9)]) (rest := []) ⟨hx, hb, hml, hown, hts⟩ (kX6_isAlone l D cI cZ ad (mGoes K (nI 0)) p9 (by omega)) (cwV 1 hts gX6_isSingle_X6_isAlone rfl rfl rfl (by decide +kernel) ⟨(Nat.le_of_ble_eq_true rfl), (Nat.le_of_ble_eq_true rfl)⟩) hK hP (ci := 6) (q0 := 0) rfl rfl rfl rfl hl.1 rfl (Nat.le_of_ble_eq_true rfl) dX6_isSingle_21 ⟨Nat.zero_le _, Nat.zero_le _⟩ ?_
      refine lv_if_eq (tgt := 31) hx hb dX6_isSingle_24 (by decide) (fun c_4 => ?_) (fun c_4 => ?_)
      · skip
        have c_4 := zb_f c_4
        refine lv_iconst (v := nI 0) hx hb dX6_isSingle_31 (by decide) ?_
        have hT9 : mSeaT x = nI 0 := by simp [mSeaT, c_1, hp7, c_3, c_4]
        have eK9 : (mPost (mSeaT x) K (mGoes K (nI 0))) = (mGoes K (nI 0)) := by rw [hT9, mPost_0] <;> rfl
        have hP9 := hP
        have hD9 := hD
        rw [← eK9] at hP9 hD9
        have eR9 : nI 0 = mRes (mSeaT x) (zb (mAlone K x.toNatClampNeg)) := by rw [hT9, mRes_0, hp7] <;> (show _ = zb (mAlone (mGoes K (nI 0)) p9); rw [c_4]; rfl)
        exact W.zret (v := nI 0) hx hb hr rfl (fun t ht hW => ⟨⟨nI 0, (), rfl, eR9, by rw [ht]; exact hP9, va_K.moved hW.alike hK, hD9⟩, hS.F ht⟩) hS.2.2 dX6_isSingle_32
      · skip
        have c_4 := zb_t c_4
        refine lv_iconst (v := nI 1) hx hb dX6_isSingle_27 (by decide) ?_
        refine lv_goto (tgt := 32) hx hb dX6_isSingle_28 (by decide) ?_
        have hT9 : mSeaT x = nI 0 := by simp [mSeaT, c_1, hp7, c_3, c_4]
        have eK9 : (mPost (mSeaT x) K (mGoes K (nI 0))) = (mGoes K (nI 0)) := by rw [hT9, mPost_0] <;> rfl
        have hP9 := hP
        have hD9 := hD
        rw [← eK9] at hP9 hD9
        have eR9 : nI 1 = mRes (mSeaT x) (zb (mAlone K x.toNatClampNeg)) := by rw [hT9, mRes_0, hp7] <;> (show _ = zb (mAlone (mGoes K (nI 0)) p9); rw [c_4]; rfl)
        exact W.zret (v := nI 1) hx hb hr rfl (fun t ht hW => ⟨⟨nI 1, (), rfl, eR9, by rw [ht]; exact hP9, va_K.moved hW.alike hK, hD9⟩, hS.F ht⟩) hS.2.2 dX6_isSingle_32
set_option maxHeartbeats 4000000 in
set_option maxRecDepth 100000 in
theorem kX6_spent (l : Launch) (D : va_G) (cI cZ : ClassId) (ad : Nat → Nat) (K : kS) (sz : Nat) (x : Int32)  : Met l yX6_spent wsX6_spent ({ frames := 2, cells := 0, slots := 0, locals := 42 }) (va_Pc [.ref (ad 0), .int x] (zPr D (zTy cI cZ) (mwA ad cI cZ K) sz)) (va_Qi (fun r (_ : Unit) => r = mRes (mLapT x) (K 12 x.toNatClampNeg)) (fun _ => zPo D (zTy cI cZ) (va_A (mwA ad cI cZ K) sz) (mwA ad cI cZ (mPost (mLapT x) K (mGoes K (nI 0))))) (va_A (mwA ad cI cZ K) sz)) 0 0 (va_A (mwA ad cI cZ K) sz) := by
  refine Met.ofW (cc := cX6_spent) (maxL := 2) (ret := (some .int)) (by decide) rfl ?_
  intro pP e s m args below meth c s₁ B hml hv
  obtain ⟨rfl, hsz, hP, hK, hD0⟩ := hv
  have hx := B.exec
  have hb := B.bytes
  have hr := B.returns
  have hts := atoms_spec (ws := wsX6_spent) B.pre
  have hown : s.vm.findClass RX6 = some m.cls := findClass_of_methodNamed B.named
  have hlocks := B.notSynchronized
  subst hsz
  have hD := hD0.self (sz := s.heap.size)
  generalize hAe : va_A (mwA ad cI cZ K) s.heap.size = A at hD ⊢
  have hA : ∀ q : Nat, s.heap.size ≤ q → A q := fun q h => by rw [← hAe]; exact Or.inr h
  have hS : va_S A s.heap s.heap [] := va_S.rf
  have hinX6 : ∀ w ∈ u_ws RX6 TX6 21, w ∈ wsX6_spent := by decide +kernel
  have hl := lv_entry ([.ref (ad 0), .int x]) (n := 2) (Nat.le_of_ble_eq_true rfl)
  rw [lg_entry_eq]
  generalize (lg_sl ([.ref (ad 0), .int x]) ++ List.replicate (2 - (lg_sl ([.ref (ad 0), .int x])).length) Slot.unset).toArray = ls at hl ⊢
  have hl : lv_has ls 2 [(0, .ref (ad 0)), (1, .int x)] := hl
  refine lv_aload_n hx hb dX6_spent_0 rfl (lv_at hl 0 rfl) ?_
  refine lv_iload_n hx hb dX6_spent_1 rfl (lv_at hl 1 rfl) ?_
  refine zc_rS (As := [.int x]) (rest := [.ref (ad 0)]) ⟨hx, hb, hml, hown, hts⟩ (kX6_isPerson l x ) (va_cwS 1 hts gX6_spent_X6_isPerson rfl rfl rfl (by decide +kernel) ⟨(Nat.le_of_ble_eq_true rfl), (Nat.le_of_ble_eq_true rfl)⟩) rfl hl.1 rfl (Nat.le_of_ble_eq_true rfl) dX6_spent_2 ⟨Nat.zero_le _, Nat.zero_le _⟩ ?_
  refine lv_if_eq (tgt := 12) hx hb dX6_spent_5 (by decide) (fun c_1 => ?_) (fun c_1 => ?_)
  · skip
    have c_1 := zb_f c_1
    refine lv_iconst (v := nI 1) hx hb dX6_spent_12 (by decide) ?_
    refine zc_wVi (As := [.int (nI 1)]) (rest := []) (wr := []) ⟨hx, hb, hml, hown, hts⟩ (kX6_goesWell l D cI cZ ad K _ (nI 1) ) (cwV 1 hts gX6_spent_X6_goesWell rfl rfl rfl (by decide +kernel) ⟨(Nat.le_of_ble_eq_true rfl), (Nat.le_of_ble_eq_true rfl)⟩) hK hP hD hS hA [0, 1, 2, 3, 4, 5, 6, 7, 8, 9, 10, 11, 12, 13, 14, 15, 16] [] rfl rfl rfl rfl rfl (by decide) (ci := 6) (q0 := 0) rfl rfl rfl rfl hl.1 rfl (Nat.le_of_ble_eq_true rfl) dX6_spent_13 ⟨Nat.zero_le _, Nat.zero_le _⟩ (fun H locs hP hD hS => ?_)
    have hP : va_P D vwCl (mwA ad cI cZ (mGoes K (nI 1))) _ := hP
    have hD : va_D A (mwA ad cI cZ (mGoes K (nI 1))) := hD
    refine zz_top (y := nI 0) (by decide) ?_
    refine lv_if_eq (tgt := 28) hx hb dX6_spent_16 (by decide) (fun c_2 => ?_) (fun c_2 => ?_)
    · skip
      refine lv_iconst (v := nI 0) hx hb dX6_spent_28 (by decide) ?_
      have hT9 : mLapT x = nI 1 := by simp [mLapT, c_1, eq_true c_2]
      have eK9 : (mPost (mLapT x) K (mGoes K (nI 0))) = (mGoes K (nI 1)) := by rw [hT9, mPost_1] <;> rfl
      have hP9 := hP
      have hD9 := hD
      rw [← eK9] at hP9 hD9
      have eR9 : nI 0 = mRes (mLapT x) (K 12 x.toNatClampNeg) := by rw [hT9, mRes_1] <;> rfl
      exact W.iret (v := nI 0) hx hb hr (fun t ht hW => ⟨⟨nI 0, (), rfl, eR9, by rw [ht]; exact hP9, va_K.moved hW.alike hK, hD9⟩, hS.F ht⟩) hS.2.2 dX6_spent_29
    · skip
      exact absurd (show nI 0 = 0 from rfl) c_2
  · skip
    have c_1 := zb_t c_1
    obtain ⟨p9, hp9, hp8, hp7⟩ := mIsP_of c_1
    refine lv_iconst (v := nI 0) hx hb dX6_spent_8 (by decide) ?_
    refine lv_goto (tgt := 13) hx hb dX6_spent_9 (by decide) ?_
    refine zc_wVi (As := [.int (nI 0)]) (rest := []) (wr := []) ⟨hx, hb, hml, hown, hts⟩ (kX6_goesWell l D cI cZ ad K _ (nI 0) ) (cwV 1 hts gX6_spent_X6_goesWell rfl rfl rfl (by decide +kernel) ⟨(Nat.le_of_ble_eq_true rfl), (Nat.le_of_ble_eq_true rfl)⟩) hK hP hD hS hA [0, 1, 2, 3, 4, 5, 6, 7, 8, 9, 10, 11, 12, 13, 14, 15, 16] [] rfl rfl rfl rfl rfl (by decide) (ci := 6) (q0 := 0) rfl rfl rfl rfl hl.1 rfl (Nat.le_of_ble_eq_true rfl) dX6_spent_13 ⟨Nat.zero_le _, Nat.zero_le _⟩ (fun H locs hP hD hS => ?_)
    have hP : va_P D vwCl (mwA ad cI cZ (mGoes K (nI 0))) _ := hP
    have hD : va_D A (mwA ad cI cZ (mGoes K (nI 0))) := hD
    refine zz_top (y := nI 1) (by decide) ?_
    refine lv_if_eq (tgt := 28) hx hb dX6_spent_16 (by decide) (fun c_3 => ?_) (fun c_3 => ?_)
    · skip
      exact absurd c_3 (by decide)
    · skip
      refine lv_aload_n hx hb dX6_spent_19 rfl (lv_at hl 0 rfl) ?_
      refine va_get (D := D) (ci := 6) (v := .ref (ad 12)) (C := RX6) (T := TX6) (N := 21) hx hb hts hinX6 hown hK hP 0 rfl rfl 15 (by decide) (hts (.fieldLink RX6 47 "AuditoriumKeysModel" "spent" "[I") (List.mem_of_getElem? (i := 1) rfl)) (fun _ h9 => h9) rfl dX6_spent_20 ?_
      refine lv_iload_n hx hb dX6_spent_23 rfl (lv_at hl 1 rfl) ?_
      refine zz_top (y := nI p9) hp8 ?_
      refine zz_iald hx hb hK hP 12 0 rfl rfl p9 (by omega) (by decide) dX6_spent_24 ?_
      refine lv_goto (tgt := 29) hx hb dX6_spent_25 (by decide) ?_
      have hT9 : mLapT x = nI 0 := by simp [mLapT, c_1, hp7, c_3]
      have eK9 : (mPost (mLapT x) K (mGoes K (nI 0))) = (mGoes K (nI 0)) := by rw [hT9, mPost_0] <;> rfl
      have hP9 := hP
      have hD9 := hD
      rw [← eK9] at hP9 hD9
      have eR9 : (mGoes K (nI 0)) 12 p9 = mRes (mLapT x) (K 12 x.toNatClampNeg) := by rw [hT9, mRes_0, hp7] <;> rfl
      exact W.iret (v := (mGoes K (nI 0)) 12 p9) hx hb hr (fun t ht hW => ⟨⟨(mGoes K (nI 0)) 12 p9, (), rfl, eR9, by rw [ht]; exact hP9, va_K.moved hW.alike hK, hD9⟩, hS.F ht⟩) hS.2.2 dX6_spent_29
set_option maxHeartbeats 4000000 in
set_option maxRecDepth 100000 in
theorem kX6_retract (l : Launch) (D : va_G) (cI cZ : ClassId) (ad : Nat → Nat) (K : kS) (sz : Nat) (x : Int32)  : Met l yX6_retract wsX6_retract ({ frames := 3, cells := 0, slots := 0, locals := 66 }) (va_Pc [.ref (ad 0), .int x] (zPr D (zTy cI cZ) (mwA ad cI cZ K) sz)) (va_Qi (fun r (_ : Unit) => r = mRes (mRetT K x) (K 15 x.toNatClampNeg)) (fun _ => zPo D (zTy cI cZ) (va_A (mwA ad cI cZ K) sz) (mwA ad cI cZ (mPost (mRetT K x) K (mOffE K x.toNatClampNeg (-1))))) (va_A (mwA ad cI cZ K) sz)) 0 0 (va_A (mwA ad cI cZ K) sz) := by
  refine Met.ofW (cc := cX6_retract) (maxL := 4) (ret := (some .int)) (by decide) rfl ?_
  intro pP e s m args below meth c s₁ B hml hv
  obtain ⟨rfl, hsz, hP, hK, hD0⟩ := hv
  have hx := B.exec
  have hb := B.bytes
  have hr := B.returns
  have hts := atoms_spec (ws := wsX6_retract) B.pre
  have hown : s.vm.findClass RX6 = some m.cls := findClass_of_methodNamed B.named
  have hlocks := B.notSynchronized
  subst hsz
  have hD := hD0.self (sz := s.heap.size)
  generalize hAe : va_A (mwA ad cI cZ K) s.heap.size = A at hD ⊢
  have hA : ∀ q : Nat, s.heap.size ≤ q → A q := fun q h => by rw [← hAe]; exact Or.inr h
  have hS : va_S A s.heap s.heap [] := va_S.rf
  have hinX6 : ∀ w ∈ u_ws RX6 TX6 21, w ∈ wsX6_retract := by decide +kernel
  have hl := lv_entry ([.ref (ad 0), .int x]) (n := 4) (Nat.le_of_ble_eq_true rfl)
  rw [lg_entry_eq]
  generalize (lg_sl ([.ref (ad 0), .int x]) ++ List.replicate (4 - (lg_sl ([.ref (ad 0), .int x])).length) Slot.unset).toArray = ls at hl ⊢
  have hl : lv_has ls 4 [(0, .ref (ad 0)), (1, .int x)] := hl
  refine lv_iload_n hx hb dX6_retract_0 rfl (lv_at hl 1 rfl) ?_
  refine zc_rS (As := [.int x]) (rest := []) ⟨hx, hb, hml, hown, hts⟩ (kX6_isSeat l x ) (va_cwS 1 hts gX6_retract_X6_isSeat rfl rfl rfl (by decide +kernel) ⟨(Nat.le_of_ble_eq_true rfl), (Nat.le_of_ble_eq_true rfl)⟩) rfl hl.1 rfl (Nat.le_of_ble_eq_true rfl) dX6_retract_1 ⟨Nat.zero_le _, Nat.zero_le _⟩ ?_
  refine lv_istore_n (lv' := [(2, .int (zb (mIsS x))), (0, .ref (ad 0)), (1, .int x)]) hx hb dX6_retract_4 rfl hl (by decide) rfl (fun ls hl => ?_)
  refine lv_aload_n hx hb dX6_retract_5 rfl (lv_at hl 1 rfl) ?_
  refine lv_iload_n hx hb dX6_retract_6 rfl (lv_at hl 0 rfl) ?_
  refine lv_if_ne (tgt := 14) hx hb dX6_retract_7 (by decide) (fun c_1 => ?_) (fun c_1 => ?_)
  · skip
    have c_1 := zb_t c_1
    obtain ⟨p9, hp9, hp8, hp7⟩ := mIsS_of c_1
    refine lv_aload_n hx hb dX6_retract_14 rfl (lv_at hl 1 rfl) ?_
    refine lv_iload_n hx hb dX6_retract_15 rfl (lv_at hl 2 rfl) ?_
    refine zz_top (y := nI p9) hp8 ?_
    refine zc_rV (As := [.int (nI p9)]) (rest := [.ref (ad 0)]) ⟨hx, hb, hml, hown, hts⟩ (kX6_stateOf l D cI cZ ad K p9 (by omega)) (cwV 1 hts gX6_retract_X6_stateOf rfl rfl rfl (by decide +kernel) ⟨(Nat.le_of_ble_eq_true rfl), (Nat.le_of_ble_eq_true rfl)⟩) hK hP (ci := 6) (q0 := 0) rfl rfl rfl rfl hl.1 rfl (Nat.le_of_ble_eq_true rfl) dX6_retract_16 ⟨Nat.zero_le _, Nat.zero_le _⟩ ?_
    refine lv_iconst (v := nI 3) hx hb dX6_retract_19 (by decide) ?_
    refine lv_icmp_ne (tgt := 27) hx hb dX6_retract_20 (by decide) (fun c_2 => ?_) (fun c_2 => ?_)
    · skip
      have c_2 : ¬ mState K p9 = nI 3 := c_2
      refine lv_iconst (v := nI 2) hx hb dX6_retract_27 (by decide) ?_
      refine zc_wVi (As := [.int (nI 2)]) (rest := []) (wr := []) ⟨hx, hb, hml, hown, hts⟩ (kX6_goesWell l D cI cZ ad K _ (nI 2) ) (cwV 1 hts gX6_retract_X6_goesWell rfl rfl rfl (by decide +kernel) ⟨(Nat.le_of_ble_eq_true rfl), (Nat.le_of_ble_eq_true rfl)⟩) hK hP hD hS hA [0, 1, 2, 3, 4, 5, 6, 7, 8, 9, 10, 11, 12, 13, 14, 15, 16] [] rfl rfl rfl rfl rfl (by decide) (ci := 6) (q0 := 0) rfl rfl rfl rfl hl.1 rfl (Nat.le_of_ble_eq_true rfl) dX6_retract_28 ⟨Nat.zero_le _, Nat.zero_le _⟩ (fun H locs hP hD hS => ?_)
      have hP : va_P D vwCl (mwA ad cI cZ (mGoes K (nI 2))) _ := hP
      have hD : va_D A (mwA ad cI cZ (mGoes K (nI 2))) := hD
      refine zz_top (y := nI 0) (by decide) ?_
      refine lv_if_ne (tgt := 36) hx hb dX6_retract_31 (by decide) (fun c_3 => ?_) (fun c_3 => ?_)
      · skip
        exact absurd (show nI 0 = 0 from rfl) c_3
      · skip
        refine lv_iconst (v := nI 0) hx hb dX6_retract_34 (by decide) ?_
        have hT9 : mRetT K x = nI 2 := by simp [mRetT, c_1, hp7, c_2, eq_true c_3]
        have eK9 : (mPost (mRetT K x) K (mOffE K x.toNatClampNeg (-1))) = (mGoes K (nI 2)) := by rw [hT9, mPost_2] <;> rfl
        have hP9 := hP
        have hD9 := hD
        rw [← eK9] at hP9 hD9
        have eR9 : nI 0 = mRes (mRetT K x) (K 15 x.toNatClampNeg) := by rw [hT9, mRes_2] <;> rfl
        exact W.iret (v := nI 0) hx hb hr (fun t ht hW => ⟨⟨nI 0, (), rfl, eR9, by rw [ht]; exact hP9, va_K.moved hW.alike hK, hD9⟩, hS.F ht⟩) hS.2.2 dX6_retract_35
    · skip
      have c_2 : mState K p9 = nI 3 := c_2
      refine lv_iconst (v := nI 0) hx hb dX6_retract_23 (by decide) ?_
      refine lv_goto (tgt := 28) hx hb dX6_retract_24 (by decide) ?_
      refine zc_wVi (As := [.int (nI 0)]) (rest := []) (wr := []) ⟨hx, hb, hml, hown, hts⟩ (kX6_goesWell l D cI cZ ad K _ (nI 0) ) (cwV 1 hts gX6_retract_X6_goesWell rfl rfl rfl (by decide +kernel) ⟨(Nat.le_of_ble_eq_true rfl), (Nat.le_of_ble_eq_true rfl)⟩) hK hP hD hS hA [0, 1, 2, 3, 4, 5, 6, 7, 8, 9, 10, 11, 12, 13, 14, 15, 16] [] rfl rfl rfl rfl rfl (by decide) (ci := 6) (q0 := 0) rfl rfl rfl rfl hl.1 rfl (Nat.le_of_ble_eq_true rfl) dX6_retract_28 ⟨Nat.zero_le _, Nat.zero_le _⟩ (fun H locs hP hD hS => ?_)
      have hP : va_P D vwCl (mwA ad cI cZ (mGoes K (nI 0))) _ := hP
      have hD : va_D A (mwA ad cI cZ (mGoes K (nI 0))) := hD
      refine zz_top (y := nI 1) (by decide) ?_
      refine lv_if_ne (tgt := 36) hx hb dX6_retract_31 (by decide) (fun c_4 => ?_) (fun c_4 => ?_)
      · skip
        refine lv_aload_n hx hb dX6_retract_36 rfl (lv_at hl 1 rfl) ?_
        refine va_get (D := D) (ci := 6) (v := .ref (ad 15)) (C := RX6) (T := TX6) (N := 21) hx hb hts hinX6 hown hK hP 0 rfl rfl 18 (by decide) (hts (.fieldLink RX6 56 "AuditoriumKeysModel" "offered" "[I") (List.mem_of_getElem? (i := 1) rfl)) (fun _ h9 => h9) rfl dX6_retract_37 ?_
        refine lv_iload_n hx hb dX6_retract_40 rfl (lv_at hl 2 rfl) ?_
        refine zz_top (y := nI p9) hp8 ?_
        refine zz_iald hx hb hK hP 15 0 rfl rfl p9 (by omega) (by decide) dX6_retract_41 ?_
        refine lv_istore_n (lv' := [(3, .int ((mGoes K (nI 0)) 15 p9)), (2, .int (zb (mIsS x))), (0, .ref (ad 0)), (1, .int x)]) hx hb dX6_retract_42 rfl hl (by decide) rfl (fun ls hl => ?_)
        refine lv_aload_n hx hb dX6_retract_43 rfl (lv_at hl 2 rfl) ?_
        refine va_get (D := D) (ci := 6) (v := .ref (ad 15)) (C := RX6) (T := TX6) (N := 21) hx hb hts hinX6 hown hK hP 0 rfl rfl 18 (by decide) (hts (.fieldLink RX6 56 "AuditoriumKeysModel" "offered" "[I") (List.mem_of_getElem? (i := 1) rfl)) (fun _ h9 => h9) rfl dX6_retract_44 ?_
        refine lv_iload_n hx hb dX6_retract_47 rfl (lv_at hl 3 rfl) ?_
        refine zz_top (y := nI p9) hp8 ?_
        refine lv_iconst (v := (-1)) hx hb dX6_retract_48 (by decide) ?_
        refine zz_iast hx hb hK hP hD hS 15 0 rfl rfl p9 (by omega) (by decide) dX6_retract_49 (fun H locs hP hD hS => ?_)
        have hP : va_P D vwCl (mwA ad cI cZ (setA (mGoes K (nI 0)) 15 (upd ((mGoes K (nI 0)) 15) p9 (-1)))) _ := hP
        have hD : va_D A (mwA ad cI cZ (setA (mGoes K (nI 0)) 15 (upd ((mGoes K (nI 0)) 15) p9 (-1)))) := hD
        refine lv_iload_n hx hb dX6_retract_50 rfl (lv_at hl 0 rfl) ?_
        have hT9 : mRetT K x = nI 0 := by simp [mRetT, c_1, hp7, eq_true c_2, c_4]
        have eK9 : (mPost (mRetT K x) K (mOffE K x.toNatClampNeg (-1))) = (setA (mGoes K (nI 0)) 15 (upd ((mGoes K (nI 0)) 15) p9 (-1))) := by rw [hT9, mPost_0, hp7] <;> rfl
        have hP9 := hP
        have hD9 := hD
        rw [← eK9] at hP9 hD9
        have eR9 : (mGoes K (nI 0)) 15 p9 = mRes (mRetT K x) (K 15 x.toNatClampNeg) := by rw [hT9, mRes_0, hp7] <;> rfl
        exact W.iret (v := (mGoes K (nI 0)) 15 p9) hx hb hr (fun t ht hW => ⟨⟨(mGoes K (nI 0)) 15 p9, (), rfl, eR9, by rw [ht]; exact hP9, va_K.moved hW.alike hK, hD9⟩, hS.F ht⟩) hS.2.2 dX6_retract_51
      · skip
        exact absurd c_4 (by decide)
  · skip
    have c_1 := zb_f c_1
    refine lv_iconst (v := nI 1) hx hb dX6_retract_10 (by decide) ?_
    refine lv_goto (tgt := 28) hx hb dX6_retract_11 (by decide) ?_
    refine zc_wVi (As := [.int (nI 1)]) (rest := []) (wr := []) ⟨hx, hb, hml, hown, hts⟩ (kX6_goesWell l D cI cZ ad K _ (nI 1) ) (cwV 1 hts gX6_retract_X6_goesWell rfl rfl rfl (by decide +kernel) ⟨(Nat.le_of_ble_eq_true rfl), (Nat.le_of_ble_eq_true rfl)⟩) hK hP hD hS hA [0, 1, 2, 3, 4, 5, 6, 7, 8, 9, 10, 11, 12, 13, 14, 15, 16] [] rfl rfl rfl rfl rfl (by decide) (ci := 6) (q0 := 0) rfl rfl rfl rfl hl.1 rfl (Nat.le_of_ble_eq_true rfl) dX6_retract_28 ⟨Nat.zero_le _, Nat.zero_le _⟩ (fun H locs hP hD hS => ?_)
    have hP : va_P D vwCl (mwA ad cI cZ (mGoes K (nI 1))) _ := hP
    have hD : va_D A (mwA ad cI cZ (mGoes K (nI 1))) := hD
    refine zz_top (y := nI 0) (by decide) ?_
    refine lv_if_ne (tgt := 36) hx hb dX6_retract_31 (by decide) (fun c_5 => ?_) (fun c_5 => ?_)
    · skip
      exact absurd (show nI 0 = 0 from rfl) c_5
    · skip
      refine lv_iconst (v := nI 0) hx hb dX6_retract_34 (by decide) ?_
      have hT9 : mRetT K x = nI 1 := by simp [mRetT, c_1, eq_true c_5]
      have eK9 : (mPost (mRetT K x) K (mOffE K x.toNatClampNeg (-1))) = (mGoes K (nI 1)) := by rw [hT9, mPost_1] <;> rfl
      have hP9 := hP
      have hD9 := hD
      rw [← eK9] at hP9 hD9
      have eR9 : nI 0 = mRes (mRetT K x) (K 15 x.toNatClampNeg) := by rw [hT9, mRes_1] <;> rfl
      exact W.iret (v := nI 0) hx hb hr (fun t ht hW => ⟨⟨nI 0, (), rfl, eR9, by rw [ht]; exact hP9, va_K.moved hW.alike hK, hD9⟩, hS.F ht⟩) hS.2.2 dX6_retract_35
