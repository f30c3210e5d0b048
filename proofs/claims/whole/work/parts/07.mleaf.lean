set_option maxHeartbeats 4000000 in
set_option maxRecDepth 100000 in
theorem kX6_in (l : Launch) (x : Int32) (a9 : Int32) (b9 : Int32)  : Met l yX6_in wsX6_in ({ frames := 0, cells := 0, slots := 0, locals := 0 }) (va_Pc [.int x, .int a9, .int b9] (fun _ => True)) (vp_Si (fun r => r = zb (mIn x a9 b9))) 0 0 (fun _ => False) := by
  refine Met.ofW (cc := cX6_in) (maxL := 3) (ret := (some .boolean)) (by decide) rfl ?_
  intro pP e s m args below meth c s₁ B hml hv
  obtain ⟨rfl, -⟩ := hv
  have hx := B.exec
  have hb := B.bytes
  have hr := B.returns
  have hts := atoms_spec (ws := wsX6_in) B.pre
  have hown : s.vm.findClass RX6 = some m.cls := findClass_of_methodNamed B.named
  have hlocks := B.notSynchronized
  have hl := lv_entry ([.int x, .int a9, .int b9]) (n := 3) (Nat.le_of_ble_eq_true rfl)
  rw [lg_entry_eq]
  generalize (lg_sl ([.int x, .int a9, .int b9]) ++ List.replicate (3 - (lg_sl ([.int x, .int a9, .int b9])).length) Slot.unset).toArray = ls at hl ⊢
  have hl : lv_has ls 3 [(0, .int x), (1, .int a9), (2, .int b9)] := hl
  refine lv_iload_n hx hb dX6_in_0 rfl (lv_at hl 0 rfl) ?_
  refine lv_iload_n hx hb dX6_in_1 rfl (lv_at hl 1 rfl) ?_
  refine lv_icmp_lt (tgt := 14) hx hb dX6_in_2 (by decide) (fun c_1 => ?_) (fun c_1 => ?_)
  · skip
    have c_1 : x < a9 := c_1
    refine lv_iconst (v := nI 0) hx hb dX6_in_14 (by decide) ?_
    exact W.zret (v := nI 0) hx hb hr rfl (fun t ht hW => ⟨_, rfl, (by simp [mIn, zb, c_1]), ht⟩) (fun _ h => nomatch h) dX6_in_15
  · skip
    have c_1 : ¬ x < a9 := c_1
    refine lv_iload_n hx hb dX6_in_5 rfl (lv_at hl 0 rfl) ?_
    refine lv_iload_n hx hb dX6_in_6 rfl (lv_at hl 2 rfl) ?_
    refine lv_icmp_gt (tgt := 14) hx hb dX6_in_7 (by decide) (fun c_2 => ?_) (fun c_2 => ?_)
    · skip
      have c_2 : b9 < x := c_2
      refine lv_iconst (v := nI 0) hx hb dX6_in_14 (by decide) ?_
      exact W.zret (v := nI 0) hx hb hr rfl (fun t ht hW => ⟨_, rfl, (by simp [mIn, zb, c_1, c_2]), ht⟩) (fun _ h => nomatch h) dX6_in_15
    · skip
      have c_2 : ¬ b9 < x := c_2
      refine lv_iconst (v := nI 1) hx hb dX6_in_10 (by decide) ?_
      refine lv_goto (tgt := 15) hx hb dX6_in_11 (by decide) ?_
      exact W.zret (v := nI 1) hx hb hr rfl (fun t ht hW => ⟨_, rfl, (by simp [mIn, zb, c_1, c_2]), ht⟩) (fun _ h => nomatch h) dX6_in_15
set_option maxHeartbeats 4000000 in
set_option maxRecDepth 100000 in
theorem kX6_isPerson (l : Launch) (x : Int32)  : Met l yX6_isPerson wsX6_isPerson ({ frames := 1, cells := 0, slots := 0, locals := 22 }) (va_Pc [.int x] (fun _ => True)) (vp_Si (fun r => r = zb (mIsP x))) 0 0 (fun _ => False) := by
  refine Met.ofW (cc := cX6_isPerson) (maxL := 1) (ret := (some .boolean)) (by decide) rfl ?_
  intro pP e s m args below meth c s₁ B hml hv
  obtain ⟨rfl, -⟩ := hv
  have hx := B.exec
  have hb := B.bytes
  have hr := B.returns
  have hts := atoms_spec (ws := wsX6_isPerson) B.pre
  have hown : s.vm.findClass RX6 = some m.cls := findClass_of_methodNamed B.named
  have hlocks := B.notSynchronized
  have hl := lv_entry ([.int x]) (n := 1) (Nat.le_of_ble_eq_true rfl)
  rw [lg_entry_eq]
  generalize (lg_sl ([.int x]) ++ List.replicate (1 - (lg_sl ([.int x])).length) Slot.unset).toArray = ls at hl ⊢
  have hl : lv_has ls 1 [(0, .int x)] := hl
  refine lv_iload_n hx hb dX6_isPerson_0 rfl (lv_at hl 0 rfl) ?_
  refine lv_iconst (v := nI 0) hx hb dX6_isPerson_1 (by decide) ?_
  refine lv_bipush (v := nI 7) hx hb dX6_isPerson_2 (by decide) ?_
  refine zc_rS (As := [.int x, .int (nI 0), .int (nI 7)]) (rest := []) ⟨hx, hb, hml, hown, hts⟩ (kX6_in l x (nI 0) (nI 7) ) (va_cwS 3 hts gX6_isPerson_X6_in rfl rfl rfl (by decide +kernel) ⟨(Nat.le_of_ble_eq_true rfl), (Nat.le_of_ble_eq_true rfl)⟩) rfl hl.1 rfl (Nat.le_of_ble_eq_true rfl) dX6_isPerson_4 ⟨Nat.zero_le _, Nat.zero_le _⟩ ?_
  exact W.zret (v := zb (mIn x (nI 0) (nI 7))) hx hb hr (zb_nar _) (fun t ht hW => ⟨_, rfl, rfl, ht⟩) (fun _ h => nomatch h) dX6_isPerson_7
set_option maxHeartbeats 4000000 in
set_option maxRecDepth 100000 in
theorem kX6_isSeat (l : Launch) (x : Int32)  : Met l yX6_isSeat wsX6_isSeat ({ frames := 1, cells := 0, slots := 0, locals := 22 }) (va_Pc [.int x] (fun _ => True)) (vp_Si (fun r => r = zb (mIsS x))) 0 0 (fun _ => False) := by
  refine Met.ofW (cc := cX6_isSeat) (maxL := 1) (ret := (some .boolean)) (by decide) rfl ?_
  intro pP e s m args below meth c s₁ B hml hv
  obtain ⟨rfl, -⟩ := hv
  have hx := B.exec
  have hb := B.bytes
  have hr := B.returns
  have hts := atoms_spec (ws := wsX6_isSeat) B.pre
  have hown : s.vm.findClass RX6 = some m.cls := findClass_of_methodNamed B.named
  have hlocks := B.notSynchronized
  have hl := lv_entry ([.int x]) (n := 1) (Nat.le_of_ble_eq_true rfl)
  rw [lg_entry_eq]
  generalize (lg_sl ([.int x]) ++ List.replicate (1 - (lg_sl ([.int x])).length) Slot.unset).toArray = ls at hl ⊢
  have hl : lv_has ls 1 [(0, .int x)] := hl
  refine lv_iload_n hx hb dX6_isSeat_0 rfl (lv_at hl 0 rfl) ?_
  refine lv_iconst (v := nI 0) hx hb dX6_isSeat_1 (by decide) ?_
  refine lv_bipush (v := nI 59) hx hb dX6_isSeat_2 (by decide) ?_
  refine zc_rS (As := [.int x, .int (nI 0), .int (nI 59)]) (rest := []) ⟨hx, hb, hml, hown, hts⟩ (kX6_in l x (nI 0) (nI 59) ) (va_cwS 3 hts gX6_isSeat_X6_in rfl rfl rfl (by decide +kernel) ⟨(Nat.le_of_ble_eq_true rfl), (Nat.le_of_ble_eq_true rfl)⟩) rfl hl.1 rfl (Nat.le_of_ble_eq_true rfl) dX6_isSeat_4 ⟨Nat.zero_le _, Nat.zero_le _⟩ ?_
  exact W.zret (v := zb (mIn x (nI 0) (nI 59))) hx hb hr (zb_nar _) (fun t ht hW => ⟨_, rfl, rfl, ht⟩) (fun _ h => nomatch h) dX6_isSeat_7
set_option maxHeartbeats 4000000 in
set_option maxRecDepth 100000 in
theorem kX6_isRow (l : Launch) (x : Int32)  : Met l yX6_isRow wsX6_isRow ({ frames := 1, cells := 0, slots := 0, locals := 22 }) (va_Pc [.int x] (fun _ => True)) (vp_Si (fun r => r = zb (mIsR x))) 0 0 (fun _ => False) := by
  refine Met.ofW (cc := cX6_isRow) (maxL := 1) (ret := (some .boolean)) (by decide) rfl ?_
  intro pP e s m args below meth c s₁ B hml hv
  obtain ⟨rfl, -⟩ := hv
  have hx := B.exec
  have hb := B.bytes
  have hr := B.returns
  have hts := atoms_spec (ws := wsX6_isRow) B.pre
  have hown : s.vm.findClass RX6 = some m.cls := findClass_of_methodNamed B.named
  have hlocks := B.notSynchronized
  have hl := lv_entry ([.int x]) (n := 1) (Nat.le_of_ble_eq_true rfl)
  rw [lg_entry_eq]
  generalize (lg_sl ([.int x]) ++ List.replicate (1 - (lg_sl ([.int x])).length) Slot.unset).toArray = ls at hl ⊢
  have hl : lv_has ls 1 [(0, .int x)] := hl
  refine lv_iload_n hx hb dX6_isRow_0 rfl (lv_at hl 0 rfl) ?_
  refine lv_iconst (v := nI 0) hx hb dX6_isRow_1 (by decide) ?_
  refine lv_iconst (v := nI 5) hx hb dX6_isRow_2 (by decide) ?_
  refine zc_rS (As := [.int x, .int (nI 0), .int (nI 5)]) (rest := []) ⟨hx, hb, hml, hown, hts⟩ (kX6_in l x (nI 0) (nI 5) ) (va_cwS 3 hts gX6_isRow_X6_in rfl rfl rfl (by decide +kernel) ⟨(Nat.le_of_ble_eq_true rfl), (Nat.le_of_ble_eq_true rfl)⟩) rfl hl.1 rfl (Nat.le_of_ble_eq_true rfl) dX6_isRow_3 ⟨Nat.zero_le _, Nat.zero_le _⟩ ?_
  exact W.zret (v := zb (mIn x (nI 0) (nI 5))) hx hb hr (zb_nar _) (fun t ht hW => ⟨_, rfl, rfl, ht⟩) (fun _ h => nomatch h) dX6_isRow_6
set_option maxHeartbeats 4000000 in
set_option maxRecDepth 100000 in
theorem kX6_thrown (l : Launch) (D : va_G) (cI cZ : ClassId) (ad : Nat → Nat) (K : kS)   : Met l yX6_thrown wsX6_thrown ({ frames := 0, cells := 0, slots := 0, locals := 0 }) (va_Pc [.ref (ad 0)] (zRd D (zTy cI cZ) (mwA ad cI cZ K))) (vp_Si (fun r => r = K 0 0)) 0 0 (fun _ => False) := by
  refine Met.ofW (cc := cX6_thrown) (maxL := 1) (ret := (some .int)) (by decide) rfl ?_
  intro pP e s m args below meth c s₁ B hml hv
  obtain ⟨rfl, hP, hK⟩ := hv
  have hx := B.exec
  have hb := B.bytes
  have hr := B.returns
  have hts := atoms_spec (ws := wsX6_thrown) B.pre
  have hown : s.vm.findClass RX6 = some m.cls := findClass_of_methodNamed B.named
  have hlocks := B.notSynchronized
  have hinX6 : ∀ w ∈ u_ws RX6 TX6 21, w ∈ wsX6_thrown := by decide +kernel
  have hl := lv_entry ([.ref (ad 0)]) (n := 1) (Nat.le_of_ble_eq_true rfl)
  rw [lg_entry_eq]
  generalize (lg_sl ([.ref (ad 0)]) ++ List.replicate (1 - (lg_sl ([.ref (ad 0)])).length) Slot.unset).toArray = ls at hl ⊢
  have hl : lv_has ls 1 [(0, .ref (ad 0))] := hl
  refine lv_aload_n hx hb dX6_thrown_0 rfl (lv_at hl 0 rfl) ?_
  refine va_get (D := D) (ci := 6) (v := .int (K 0 0)) (C := RX6) (T := TX6) (N := 21) hx hb hts hinX6 hown hK hP 0 rfl rfl 0 (by decide) (hts (.fieldLink RX6 63 "AuditoriumKeysModel" "thrown" "I") (List.mem_of_getElem? (i := 1) rfl)) (fun _ h9 => h9) rfl dX6_thrown_1 ?_
  exact W.iret (v := K 0 0) hx hb hr (fun t ht hW => ⟨_, rfl, rfl, ht⟩) (fun _ h => nomatch h) dX6_thrown_4
set_option maxHeartbeats 4000000 in
set_option maxRecDepth 100000 in
theorem kX6_goesWell (l : Launch) (D : va_G) (cI cZ : ClassId) (ad : Nat → Nat) (K : kS) (sz : Nat) (x : Int32)  : Met l yX6_goesWell wsX6_goesWell ({ frames := 0, cells := 0, slots := 0, locals := 0 }) (va_Pc [.ref (ad 0), .int x] (zPr D (zTy cI cZ) (mwA ad cI cZ K) sz)) (va_Qi (fun r (_ : Unit) => r = zb (decide (x = 0))) (fun _ => zPo D (zTy cI cZ) (va_A (mwA ad cI cZ K) sz) (mwA ad cI cZ (mGoes K x))) (va_A (mwA ad cI cZ K) sz)) 0 0 (va_A (mwA ad cI cZ K) sz) := by
  refine Met.ofW (cc := cX6_goesWell) (maxL := 2) (ret := (some .boolean)) (by decide) rfl ?_
  intro pP e s m args below meth c s₁ B hml hv
  obtain ⟨rfl, hsz, hP, hK, hD0⟩ := hv
  have hx := B.exec
  have hb := B.bytes
  have hr := B.returns
  have hts := atoms_spec (ws := wsX6_goesWell) B.pre
  have hown : s.vm.findClass RX6 = some m.cls := findClass_of_methodNamed B.named
  have hlocks := B.notSynchronized
  subst hsz
  have hD := hD0.self (sz := s.heap.size)
  generalize hAe : va_A (mwA ad cI cZ K) s.heap.size = A at hD ⊢
  have hA : ∀ q : Nat, s.heap.size ≤ q → A q := fun q h => by rw [← hAe]; exact Or.inr h
  have hS : va_S A s.heap s.heap [] := va_S.rf
  have hinX6 : ∀ w ∈ u_ws RX6 TX6 21, w ∈ wsX6_goesWell := by decide +kernel
  have hl := lv_entry ([.ref (ad 0), .int x]) (n := 2) (Nat.le_of_ble_eq_true rfl)
  rw [lg_entry_eq]
  generalize (lg_sl ([.ref (ad 0), .int x]) ++ List.replicate (2 - (lg_sl ([.ref (ad 0), .int x])).length) Slot.unset).toArray = ls at hl ⊢
  have hl : lv_has ls 2 [(0, .ref (ad 0)), (1, .int x)] := hl
  refine lv_aload_n hx hb dX6_goesWell_0 rfl (lv_at hl 0 rfl) ?_
  refine lv_iload_n hx hb dX6_goesWell_1 rfl (lv_at hl 1 rfl) ?_
  refine va_put (D := D) (ci := 6) (v := .int x) (ty := .int) (C := RX6) (T := TX6) (N := 21) hx hb hts hinX6 tyX6 tyX6_ok nmX6 hown hK hP hD hS 0 rfl rfl 0 (by decide) (hts (.fieldLink RX6 63 "AuditoriumKeysModel" "thrown" "I") (List.mem_of_getElem? (i := 1) rfl)) (fun _ h9 => h9) rfl (by decide +kernel) rfl rfl (Nat.le_of_ble_eq_true rfl) dX6_goesWell_2 (fun H locs hP hD hS => ?_)
  have hP : va_P D vwCl (mwA ad cI cZ (setA K 0 (upd (K 0) 0 x))) _ := hP
  have hD : va_D A (mwA ad cI cZ (setA K 0 (upd (K 0) 0 x))) := hD
  refine lv_iload_n hx hb dX6_goesWell_5 rfl (lv_at hl 1 rfl) ?_
  refine lv_if_ne (tgt := 13) hx hb dX6_goesWell_6 (by decide) (fun c_1 => ?_) (fun c_1 => ?_)
  · skip
    have c_1 : ¬ x = 0 := c_1
    refine lv_iconst (v := nI 0) hx hb dX6_goesWell_13 (by decide) ?_
    have eK9 : (mGoes K x) = (setA K 0 (upd (K 0) 0 x)) := rfl
    have hP9 := hP
    have hD9 := hD
    rw [← eK9] at hP9 hD9
    exact W.zret (v := nI 0) hx hb hr rfl (fun t ht hW => ⟨⟨nI 0, (), rfl, (by simp [zb, mGoes, c_1]), by rw [ht]; exact hP9, va_K.moved hW.alike hK, hD9⟩, hS.F ht⟩) hS.2.2 dX6_goesWell_14
  · skip
    have c_1 : x = 0 := c_1
    refine lv_iconst (v := nI 1) hx hb dX6_goesWell_9 (by decide) ?_
    refine lv_goto (tgt := 14) hx hb dX6_goesWell_10 (by decide) ?_
    have eK9 : (mGoes K x) = (setA K 0 (upd (K 0) 0 x)) := rfl
    have hP9 := hP
    have hD9 := hD
    rw [← eK9] at hP9 hD9
    exact W.zret (v := nI 1) hx hb hr rfl (fun t ht hW => ⟨⟨nI 1, (), rfl, (by simp [zb, mGoes, eq_true c_1]), by rw [ht]; exact hP9, va_K.moved hW.alike hK, hD9⟩, hS.F ht⟩) hS.2.2 dX6_goesWell_14
set_option maxHeartbeats 4000000 in
set_option maxRecDepth 100000 in
theorem kX6_isCode (l : Launch) (D : va_G) (cI cZ : ClassId) (ad : Nat → Nat) (K : kS) (x : Int32)  : Met l yX6_isCode wsX6_isCode ({ frames := 1, cells := 0, slots := 0, locals := 22 }) (va_Pc [.ref (ad 0), .int x] (zRd D (zTy cI cZ) (mwA ad cI cZ K))) (vp_Si (fun r => r = zb (mIsC K x))) 0 0 (fun _ => False) := by
  refine Met.ofW (cc := cX6_isCode) (maxL := 2) (ret := (some .boolean)) (by decide) rfl ?_
  intro pP e s m args below meth c s₁ B hml hv
  obtain ⟨rfl, hP, hK⟩ := hv
  have hx := B.exec
  have hb := B.bytes
  have hr := B.returns
  have hts := atoms_spec (ws := wsX6_isCode) B.pre
  have hown : s.vm.findClass RX6 = some m.cls := findClass_of_methodNamed B.named
  have hlocks := B.notSynchronized
  have hinX6 : ∀ w ∈ u_ws RX6 TX6 21, w ∈ wsX6_isCode := by decide +kernel
  have hl := lv_entry ([.ref (ad 0), .int x]) (n := 2) (Nat.le_of_ble_eq_true rfl)
  rw [lg_entry_eq]
  generalize (lg_sl ([.ref (ad 0), .int x]) ++ List.replicate (2 - (lg_sl ([.ref (ad 0), .int x])).length) Slot.unset).toArray = ls at hl ⊢
  have hl : lv_has ls 2 [(0, .ref (ad 0)), (1, .int x)] := hl
  refine lv_iload_n hx hb dX6_isCode_0 rfl (lv_at hl 1 rfl) ?_
  refine lv_iconst (v := nI 0) hx hb dX6_isCode_1 (by decide) ?_
  refine lv_aload_n hx hb dX6_isCode_2 rfl (lv_at hl 0 rfl) ?_
  refine va_get (D := D) (ci := 6) (v := .int (K 0 3)) (C := RX6) (T := TX6) (N := 21) hx hb hts hinX6 hown hK hP 0 rfl rfl 3 (by decide) (hts (.fieldLink RX6 70 "AuditoriumKeysModel" "codes" "I") (List.mem_of_getElem? (i := 1) rfl)) (fun _ h9 => h9) rfl dX6_isCode_3 ?_
  refine lv_iconst (v := nI 1) hx hb dX6_isCode_6 (by decide) ?_
  refine lv_isub hx hb dX6_isCode_7 ?_
  refine zc_rS (As := [.int x, .int (nI 0), .int ((K 0 3) - (nI 1))]) (rest := []) ⟨hx, hb, hml, hown, hts⟩ (kX6_in l x (nI 0) ((K 0 3) - (nI 1)) ) (va_cwS 3 hts gX6_isCode_X6_in rfl rfl rfl (by decide +kernel) ⟨(Nat.le_of_ble_eq_true rfl), (Nat.le_of_ble_eq_true rfl)⟩) rfl hl.1 rfl (Nat.le_of_ble_eq_true rfl) dX6_isCode_8 ⟨Nat.zero_le _, Nat.zero_le _⟩ ?_
  exact W.zret (v := zb (mIn x (nI 0) ((K 0 3) - (nI 1)))) hx hb hr (zb_nar _) (fun t ht hW => ⟨_, rfl, rfl, ht⟩) (fun _ h => nomatch h) dX6_isCode_11
set_option maxHeartbeats 4000000 in
set_option maxRecDepth 100000 in
theorem kX6_isHeld (l : Launch) (D : va_G) (cI cZ : ClassId) (ad : Nat → Nat) (K : kS) (x : Int32)  : Met l yX6_isHeld wsX6_isHeld ({ frames := 1, cells := 0, slots := 0, locals := 22 }) (va_Pc [.ref (ad 0), .int x] (zRd D (zTy cI cZ) (mwA ad cI cZ K))) (vp_Si (fun r => r = zb (mHeld K x))) 0 0 (fun _ => False) := by
  refine Met.ofW (cc := cX6_isHeld) (maxL := 4) (ret := (some .boolean)) (by decide) rfl ?_
  intro pP e s m args below meth c s₁ B hml hv
  obtain ⟨rfl, hP, hK⟩ := hv
  have hx := B.exec
  have hb := B.bytes
  have hr := B.returns
  have hts := atoms_spec (ws := wsX6_isHeld) B.pre
  have hown : s.vm.findClass RX6 = some m.cls := findClass_of_methodNamed B.named
  have hlocks := B.notSynchronized
  have hinX6 : ∀ w ∈ u_ws RX6 TX6 21, w ∈ wsX6_isHeld := by decide +kernel
  have hl := lv_entry ([.ref (ad 0), .int x]) (n := 4) (Nat.le_of_ble_eq_true rfl)
  rw [lg_entry_eq]
  generalize (lg_sl ([.ref (ad 0), .int x]) ++ List.replicate (4 - (lg_sl ([.ref (ad 0), .int x])).length) Slot.unset).toArray = ls at hl ⊢
  have hl : lv_has ls 4 [(0, .ref (ad 0)), (1, .int x)] := hl
  refine lv_iconst (v := nI 0) hx hb dX6_isHeld_0 (by decide) ?_
  refine lv_istore_n (lv' := [(2, .int (nI 0)), (0, .ref (ad 0)), (1, .int x)]) hx hb dX6_isHeld_1 rfl hl (by decide) rfl (fun ls hl => ?_)
  refine lv_iconst (v := nI 0) hx hb dX6_isHeld_2 (by decide) ?_
  refine lv_istore_n (lv' := [(3, .int (nI 0)), (2, .int (nI 0)), (0, .ref (ad 0)), (1, .int x)]) hx hb dX6_isHeld_3 rfl hl (by decide) rfl (fun ls hl => ?_)
  have lp_a : ∀ (n i : Nat), 0 ≤ i → i ≤ 8 → 8 - i < n → ∀ ls : Array Slot, lv_has ls 4 [(3, .int (nI i)), (2, .int (zb (mHeldUp K x i))), (0, .ref (ad 0)), (1, .int x)] → W pP l e ({ frames := 1, cells := 0, slots := 0, locals := 22 } : Room) s m ([.ref (ad 0), .int x] : List Value).toArray below meth c s.heap [] 0 0 (MQ below (vp_Si (fun r => r = zb (mHeld K x))) ([.ref (ad 0), .int x] : List Value).toArray s 0 0 (fun _ => False)) (F0 m 4 ls []) := by
    intro n
    induction n with
    | zero => intro i _ _ h; exact absurd h (Nat.not_lt_zero _)
    | succ n ih_a =>
      intro i hlo_a hin_a hdn_a  ls hl
      refine lv_iload_n hx hb dX6_isHeld_4 rfl (lv_at hl 0 rfl) ?_
      refine lv_bipush (v := nI 8) hx hb dX6_isHeld_5 (by decide) ?_
      refine lv_icmp_ge (tgt := 64) hx hb dX6_isHeld_7 (by decide) (fun c_1 => ?_) (fun c_1 => ?_)
      · skip
        have c_1 := (nI_leI (a := 8) (b := i) (by omega) (by omega)).mp c_1
        have hi8 : i = 8 := by omega
        refine lv_iload_n hx hb dX6_isHeld_64 rfl (lv_at hl 1 rfl) ?_
        exact W.zret (v := zb (mHeldUp K x i)) hx hb hr (zb_nar _) (fun t ht hW => ⟨_, rfl, (by rw [hi8]; rfl), ht⟩) (fun _ h => nomatch h) dX6_isHeld_65
      · skip
        have c_1 : ¬ 8 ≤ i := fun h => c_1 ((nI_leI (a := 8) (b := i) (by omega) (by omega)).mpr h)
        refine lv_iload_n hx hb dX6_isHeld_10 rfl (lv_at hl 1 rfl) ?_
        refine lv_if_ne (tgt := 52) hx hb dX6_isHeld_11 (by decide) (fun c_2 => ?_) (fun c_2 => ?_)
        · skip
          have c_2 := zb_t c_2
          refine lv_iconst (v := nI 1) hx hb dX6_isHeld_52 (by decide) ?_
          refine lv_goto (tgt := 57) hx hb dX6_isHeld_53 (by decide) ?_
          refine lv_istore_n (lv' := [(2, .int (nI 1)), (3, .int (nI i)), (0, .ref (ad 0)), (1, .int x)]) hx hb dX6_isHeld_57 rfl hl (by decide) rfl (fun ls hl => ?_)
          refine lv_iinc (v := nI (i + 1)) (lv' := [(3, .int (nI (i + 1))), (2, .int (nI 1)), (0, .ref (ad 0)), (1, .int x)]) hx hb dX6_isHeld_58 hl (k := 1) rfl ((show nI i + Int32.ofInt 1 = nI i + nI 1 from rfl).trans (nI_add _ _)) (by decide) rfl (fun ls hl => ?_)
          refine lv_goto (tgt := 4) hx hb dX6_isHeld_61 (by decide) ?_
          have es_3 : zb (mHeldUp K x (i + 1)) = nI 1 := (by simp [mHeldUp, zb, c_1, c_2])
          exact ih_a (i + 1) (by omega) (by omega) (by omega)  ls (by rw [es_3]; exact lv_sub hl [0, 1, 2, 3] rfl)
        · skip
          have c_2 := zb_f c_2
          refine lv_aload_n hx hb dX6_isHeld_14 rfl (lv_at hl 2 rfl) ?_
          refine va_get (D := D) (ci := 6) (v := .ref (ad 5)) (C := RX6) (T := TX6) (N := 21) hx hb hts hinX6 hown hK hP 0 rfl rfl 8 (by decide) (hts (.fieldLink RX6 26 "AuditoriumKeysModel" "firsts" "[I") (List.mem_of_getElem? (i := 1) rfl)) (fun _ h9 => h9) rfl dX6_isHeld_15 ?_
          refine lv_iload_n hx hb dX6_isHeld_18 rfl (lv_at hl 0 rfl) ?_
          refine zz_iald hx hb hK hP 5 0 rfl rfl i (by omega) (by decide) dX6_isHeld_19 ?_
          refine lv_iconst (v := (-1)) hx hb dX6_isHeld_20 (by decide) ?_
          refine lv_icmp_eq (tgt := 56) hx hb dX6_isHeld_21 (by decide) (fun c_4 => ?_) (fun c_4 => ?_)
          · skip
            have c_4 : K 5 i = (-1) := c_4
            refine lv_iconst (v := nI 0) hx hb dX6_isHeld_56 (by decide) ?_
            refine lv_istore_n (lv' := [(2, .int (nI 0)), (3, .int (nI i)), (0, .ref (ad 0)), (1, .int x)]) hx hb dX6_isHeld_57 rfl hl (by decide) rfl (fun ls hl => ?_)
            refine lv_iinc (v := nI (i + 1)) (lv' := [(3, .int (nI (i + 1))), (2, .int (nI 0)), (0, .ref (ad 0)), (1, .int x)]) hx hb dX6_isHeld_58 hl (k := 1) rfl ((show nI i + Int32.ofInt 1 = nI i + nI 1 from rfl).trans (nI_add _ _)) (by decide) rfl (fun ls hl => ?_)
            refine lv_goto (tgt := 4) hx hb dX6_isHeld_61 (by decide) ?_
            have es_5 : zb (mHeldUp K x (i + 1)) = nI 0 := (by simp [mHeldUp, zb, c_1, c_2, eq_true c_4])
            exact ih_a (i + 1) (by omega) (by omega) (by omega)  ls (by rw [es_5]; exact lv_sub hl [0, 1, 2, 3] rfl)
          · skip
            have c_4 : ¬ K 5 i = (-1) := c_4
            refine lv_iload_n hx hb dX6_isHeld_24 rfl (lv_at hl 3 rfl) ?_
            refine lv_aload_n hx hb dX6_isHeld_25 rfl (lv_at hl 2 rfl) ?_
            refine va_get (D := D) (ci := 6) (v := .ref (ad 5)) (C := RX6) (T := TX6) (N := 21) hx hb hts hinX6 hown hK hP 0 rfl rfl 8 (by decide) (hts (.fieldLink RX6 26 "AuditoriumKeysModel" "firsts" "[I") (List.mem_of_getElem? (i := 1) rfl)) (fun _ h9 => h9) rfl dX6_isHeld_26 ?_
            refine lv_iload_n hx hb dX6_isHeld_29 rfl (lv_at hl 0 rfl) ?_
            refine zz_iald hx hb hK hP 5 0 rfl rfl i (by omega) (by decide) dX6_isHeld_30 ?_
            refine lv_aload_n hx hb dX6_isHeld_31 rfl (lv_at hl 2 rfl) ?_
            refine va_get (D := D) (ci := 6) (v := .ref (ad 5)) (C := RX6) (T := TX6) (N := 21) hx hb hts hinX6 hown hK hP 0 rfl rfl 8 (by decide) (hts (.fieldLink RX6 26 "AuditoriumKeysModel" "firsts" "[I") (List.mem_of_getElem? (i := 1) rfl)) (fun _ h9 => h9) rfl dX6_isHeld_32 ?_
            refine lv_iload_n hx hb dX6_isHeld_35 rfl (lv_at hl 0 rfl) ?_
            refine zz_iald hx hb hK hP 5 0 rfl rfl i (by omega) (by decide) dX6_isHeld_36 ?_
            refine lv_aload_n hx hb dX6_isHeld_37 rfl (lv_at hl 2 rfl) ?_
            refine va_get (D := D) (ci := 6) (v := .ref (ad 6)) (C := RX6) (T := TX6) (N := 21) hx hb hts hinX6 hown hK hP 0 rfl rfl 9 (by decide) (hts (.fieldLink RX6 29 "AuditoriumKeysModel" "manies" "[I") (List.mem_of_getElem? (i := 2) rfl)) (fun _ h9 => h9) rfl dX6_isHeld_38 ?_
            refine lv_iload_n hx hb dX6_isHeld_41 rfl (lv_at hl 0 rfl) ?_
            refine zz_iald hx hb hK hP 6 0 rfl rfl i (by omega) (by decide) dX6_isHeld_42 ?_
            refine lv_iadd hx hb dX6_isHeld_43 ?_
            refine lv_iconst (v := nI 1) hx hb dX6_isHeld_44 (by decide) ?_
            refine lv_isub hx hb dX6_isHeld_45 ?_
            refine zc_rS (As := [.int x, .int (K 5 i), .int (((K 5 i) + (K 6 i)) - (nI 1))]) (rest := []) ⟨hx, hb, hml, hown, hts⟩ (kX6_in l x (K 5 i) (((K 5 i) + (K 6 i)) - (nI 1)) ) (va_cwS 3 hts gX6_isHeld_X6_in rfl rfl rfl (by decide +kernel) ⟨(Nat.le_of_ble_eq_true rfl), (Nat.le_of_ble_eq_true rfl)⟩) rfl hl.1 rfl (Nat.le_of_ble_eq_true rfl) dX6_isHeld_46 ⟨Nat.zero_le _, Nat.zero_le _⟩ ?_
            refine lv_if_eq (tgt := 56) hx hb dX6_isHeld_49 (by decide) (fun c_6 => ?_) (fun c_6 => ?_)
            · skip
              have c_6 := zb_f c_6
              refine lv_iconst (v := nI 0) hx hb dX6_isHeld_56 (by decide) ?_
              refine lv_istore_n (lv' := [(2, .int (nI 0)), (3, .int (nI i)), (0, .ref (ad 0)), (1, .int x)]) hx hb dX6_isHeld_57 rfl hl (by decide) rfl (fun ls hl => ?_)
              refine lv_iinc (v := nI (i + 1)) (lv' := [(3, .int (nI (i + 1))), (2, .int (nI 0)), (0, .ref (ad 0)), (1, .int x)]) hx hb dX6_isHeld_58 hl (k := 1) rfl ((show nI i + Int32.ofInt 1 = nI i + nI 1 from rfl).trans (nI_add _ _)) (by decide) rfl (fun ls hl => ?_)
              refine lv_goto (tgt := 4) hx hb dX6_isHeld_61 (by decide) ?_
              have es_7 : zb (mHeldUp K x (i + 1)) = nI 0 := (by simp [mHeldUp, zb, c_1, c_2, c_4, c_6])
              exact ih_a (i + 1) (by omega) (by omega) (by omega)  ls (by rw [es_7]; exact lv_sub hl [0, 1, 2, 3] rfl)
            · skip
              have c_6 := zb_t c_6
              refine lv_iconst (v := nI 1) hx hb dX6_isHeld_52 (by decide) ?_
              refine lv_goto (tgt := 57) hx hb dX6_isHeld_53 (by decide) ?_
              refine lv_istore_n (lv' := [(2, .int (nI 1)), (3, .int (nI i)), (0, .ref (ad 0)), (1, .int x)]) hx hb dX6_isHeld_57 rfl hl (by decide) rfl (fun ls hl => ?_)
              refine lv_iinc (v := nI (i + 1)) (lv' := [(3, .int (nI (i + 1))), (2, .int (nI 1)), (0, .ref (ad 0)), (1, .int x)]) hx hb dX6_isHeld_58 hl (k := 1) rfl ((show nI i + Int32.ofInt 1 = nI i + nI 1 from rfl).trans (nI_add _ _)) (by decide) rfl (fun ls hl => ?_)
              refine lv_goto (tgt := 4) hx hb dX6_isHeld_61 (by decide) ?_
              have es_8 : zb (mHeldUp K x (i + 1)) = nI 1 := (by simp [mHeldUp, zb, c_1, c_2, c_4, c_6])
              exact ih_a (i + 1) (by omega) (by omega) (by omega)  ls (by rw [es_8]; exact lv_sub hl [0, 1, 2, 3] rfl)
  have ei_a_2 : zb (mHeldUp K x 0) = nI 0 := rfl
  exact lp_a (8 - 0 + 1) 0 (by omega) (by omega) (by omega)  ls (by rw [ei_a_2]; exact lv_sub hl [0, 1, 2, 3] rfl)
set_option maxHeartbeats 4000000 in
set_option maxRecDepth 100000 in
theorem kX6_stateOf (l : Launch) (D : va_G) (cI cZ : ClassId) (ad : Nat → Nat) (K : kS) (s9 : Nat) (hs9 : s9 < 60) : Met l yX6_stateOf wsX6_stateOf ({ frames := 2, cells := 0, slots := 0, locals := 45 }) (va_Pc [.ref (ad 0), .int (nI s9)] (zRd D (zTy cI cZ) (mwA ad cI cZ K))) (vp_Si (fun r => r = mState K s9)) 0 0 (fun _ => False) := by
  refine Met.ofW (cc := cX6_stateOf) (maxL := 2) (ret := (some .int)) (by decide) rfl ?_
  intro pP e s m args below meth c s₁ B hml hv
  obtain ⟨rfl, hP, hK⟩ := hv
  have hx := B.exec
  have hb := B.bytes
  have hr := B.returns
  have hts := atoms_spec (ws := wsX6_stateOf) B.pre
  have hown : s.vm.findClass RX6 = some m.cls := findClass_of_methodNamed B.named
  have hlocks := B.notSynchronized
  have hinX6 : ∀ w ∈ u_ws RX6 TX6 21, w ∈ wsX6_stateOf := by decide +kernel
  have hl := lv_entry ([.ref (ad 0), .int (nI s9)]) (n := 2) (Nat.le_of_ble_eq_true rfl)
  rw [lg_entry_eq]
  generalize (lg_sl ([.ref (ad 0), .int (nI s9)]) ++ List.replicate (2 - (lg_sl ([.ref (ad 0), .int (nI s9)])).length) Slot.unset).toArray = ls at hl ⊢
  have hl : lv_has ls 2 [(0, .ref (ad 0)), (1, .int (nI s9))] := hl
  refine lv_aload_n hx hb dX6_stateOf_0 rfl (lv_at hl 0 rfl) ?_
  refine lv_iload_n hx hb dX6_stateOf_1 rfl (lv_at hl 1 rfl) ?_
  refine zc_rV (As := [.int (nI s9)]) (rest := []) ⟨hx, hb, hml, hown, hts⟩ (kX6_isHeld l D cI cZ ad K (nI s9) ) (cwV 1 hts gX6_stateOf_X6_isHeld rfl rfl rfl (by decide +kernel) ⟨(Nat.le_of_ble_eq_true rfl), (Nat.le_of_ble_eq_true rfl)⟩) hK hP (ci := 6) (q0 := 0) rfl rfl rfl rfl hl.1 rfl (Nat.le_of_ble_eq_true rfl) dX6_stateOf_2 ⟨Nat.zero_le _, Nat.zero_le _⟩ ?_
  refine lv_if_eq (tgt := 10) hx hb dX6_stateOf_5 (by decide) (fun c_1 => ?_) (fun c_1 => ?_)
  · skip
    have c_1 := zb_f c_1
    refine lv_aload_n hx hb dX6_stateOf_10 rfl (lv_at hl 0 rfl) ?_
    refine va_get (D := D) (ci := 6) (v := .ref (ad 13)) (C := RX6) (T := TX6) (N := 21) hx hb hts hinX6 hown hK hP 0 rfl rfl 16 (by decide) (hts (.fieldLink RX6 50 "AuditoriumKeysModel" "owners" "[I") (List.mem_of_getElem? (i := 1) rfl)) (fun _ h9 => h9) rfl dX6_stateOf_11 ?_
    refine lv_iload_n hx hb dX6_stateOf_14 rfl (lv_at hl 1 rfl) ?_
    refine zz_iald hx hb hK hP 13 0 rfl rfl s9 (by omega) (by decide) dX6_stateOf_15 ?_
    refine lv_iconst (v := (-1)) hx hb dX6_stateOf_16 (by decide) ?_
    refine lv_icmp_ne (tgt := 24) hx hb dX6_stateOf_17 (by decide) (fun c_2 => ?_) (fun c_2 => ?_)
    · skip
      have c_2 : ¬ K 13 s9 = (-1) := c_2
      refine lv_aload_n hx hb dX6_stateOf_24 rfl (lv_at hl 0 rfl) ?_
      refine va_get (D := D) (ci := 6) (v := .ref (ad 15)) (C := RX6) (T := TX6) (N := 21) hx hb hts hinX6 hown hK hP 0 rfl rfl 18 (by decide) (hts (.fieldLink RX6 56 "AuditoriumKeysModel" "offered" "[I") (List.mem_of_getElem? (i := 2) rfl)) (fun _ h9 => h9) rfl dX6_stateOf_25 ?_
      refine lv_iload_n hx hb dX6_stateOf_28 rfl (lv_at hl 1 rfl) ?_
      refine zz_iald hx hb hK hP 15 0 rfl rfl s9 (by omega) (by decide) dX6_stateOf_29 ?_
      refine lv_iconst (v := (-1)) hx hb dX6_stateOf_30 (by decide) ?_
      refine lv_icmp_ne (tgt := 38) hx hb dX6_stateOf_31 (by decide) (fun c_3 => ?_) (fun c_3 => ?_)
      · skip
        have c_3 : ¬ K 15 s9 = (-1) := c_3
        refine lv_iconst (v := nI 3) hx hb dX6_stateOf_38 (by decide) ?_
        exact W.iret (v := nI 3) hx hb hr (fun t ht hW => ⟨_, rfl, (by simp [mState, c_1, c_2, c_3]), ht⟩) (fun _ h => nomatch h) dX6_stateOf_39
      · skip
        have c_3 : K 15 s9 = (-1) := c_3
        refine lv_iconst (v := nI 2) hx hb dX6_stateOf_34 (by decide) ?_
        refine lv_goto (tgt := 39) hx hb dX6_stateOf_35 (by decide) ?_
        exact W.iret (v := nI 2) hx hb hr (fun t ht hW => ⟨_, rfl, (by simp [mState, c_1, c_2, eq_true c_3]), ht⟩) (fun _ h => nomatch h) dX6_stateOf_39
    · skip
      have c_2 : K 13 s9 = (-1) := c_2
      refine lv_iconst (v := nI 0) hx hb dX6_stateOf_20 (by decide) ?_
      refine lv_goto (tgt := 39) hx hb dX6_stateOf_21 (by decide) ?_
      exact W.iret (v := nI 0) hx hb hr (fun t ht hW => ⟨_, rfl, (by simp [mState, c_1, eq_true c_2]), ht⟩) (fun _ h => nomatch h) dX6_stateOf_39
  · skip
    have c_1 := zb_t c_1
    refine lv_iconst (v := nI 1) hx hb dX6_stateOf_8 (by decide) ?_
    exact W.iret (v := nI 1) hx hb hr (fun t ht hW => ⟨_, rfl, (by simp [mState, c_1]), ht⟩) (fun _ h => nomatch h) dX6_stateOf_9
set_option maxHeartbeats 4000000 in
set_option maxRecDepth 100000 in
theorem kX6_isOpen (l : Launch) (D : va_G) (cI cZ : ClassId) (ad : Nat → Nat) (K : kS) (s9 : Nat) (hs9 : s9 < 60) : Met l yX6_isOpen wsX6_isOpen ({ frames := 2, cells := 0, slots := 0, locals := 45 }) (va_Pc [.ref (ad 0), .int (nI s9)] (zRd D (zTy cI cZ) (mwA ad cI cZ K))) (vp_Si (fun r => r = zb (mOpen K s9))) 0 0 (fun _ => False) := by
  refine Met.ofW (cc := cX6_isOpen) (maxL := 2) (ret := (some .boolean)) (by decide) rfl ?_
  intro pP e s m args below meth c s₁ B hml hv
  obtain ⟨rfl, hP, hK⟩ := hv
  have hx := B.exec
  have hb := B.bytes
  have hr := B.returns
  have hts := atoms_spec (ws := wsX6_isOpen) B.pre
  have hown : s.vm.findClass RX6 = some m.cls := findClass_of_methodNamed B.named
  have hlocks := B.notSynchronized
  have hinX6 : ∀ w ∈ u_ws RX6 TX6 21, w ∈ wsX6_isOpen := by decide +kernel
  have hl := lv_entry ([.ref (ad 0), .int (nI s9)]) (n := 2) (Nat.le_of_ble_eq_true rfl)
  rw [lg_entry_eq]
  generalize (lg_sl ([.ref (ad 0), .int (nI s9)]) ++ List.replicate (2 - (lg_sl ([.ref (ad 0), .int (nI s9)])).length) Slot.unset).toArray = ls at hl ⊢
  have hl : lv_has ls 2 [(0, .ref (ad 0)), (1, .int (nI s9))] := hl
  refine lv_aload_n hx hb dX6_isOpen_0 rfl (lv_at hl 0 rfl) ?_
  refine lv_iload_n hx hb dX6_isOpen_1 rfl (lv_at hl 1 rfl) ?_
  refine zc_rV (As := [.int (nI s9)]) (rest := []) ⟨hx, hb, hml, hown, hts⟩ (kX6_isHeld l D cI cZ ad K (nI s9) ) (cwV 1 hts gX6_isOpen_X6_isHeld rfl rfl rfl (by decide +kernel) ⟨(Nat.le_of_ble_eq_true rfl), (Nat.le_of_ble_eq_true rfl)⟩) hK hP (ci := 6) (q0 := 0) rfl rfl rfl rfl hl.1 rfl (Nat.le_of_ble_eq_true rfl) dX6_isOpen_2 ⟨Nat.zero_le _, Nat.zero_le _⟩ ?_
  refine lv_if_ne (tgt := 32) hx hb dX6_isOpen_5 (by decide) (fun c_1 => ?_) (fun c_1 => ?_)
  · skip
    have c_1 := zb_t c_1
    refine lv_iconst (v := nI 0) hx hb dX6_isOpen_32 (by decide) ?_
    exact W.zret (v := nI 0) hx hb hr rfl (fun t ht hW => ⟨_, rfl, (by simp [mOpen, zb, c_1]), ht⟩) (fun _ h => nomatch h) dX6_isOpen_33
  · skip
    have c_1 := zb_f c_1
    refine lv_aload_n hx hb dX6_isOpen_8 rfl (lv_at hl 0 rfl) ?_
    refine va_get (D := D) (ci := 6) (v := .ref (ad 13)) (C := RX6) (T := TX6) (N := 21) hx hb hts hinX6 hown hK hP 0 rfl rfl 16 (by decide) (hts (.fieldLink RX6 50 "AuditoriumKeysModel" "owners" "[I") (List.mem_of_getElem? (i := 1) rfl)) (fun _ h9 => h9) rfl dX6_isOpen_9 ?_
    refine lv_iload_n hx hb dX6_isOpen_12 rfl (lv_at hl 1 rfl) ?_
    refine zz_iald hx hb hK hP 13 0 rfl rfl s9 (by omega) (by decide) dX6_isOpen_13 ?_
    refine lv_iconst (v := (-1)) hx hb dX6_isOpen_14 (by decide) ?_
    refine lv_icmp_eq (tgt := 28) hx hb dX6_isOpen_15 (by decide) (fun c_2 => ?_) (fun c_2 => ?_)
    · skip
      have c_2 : K 13 s9 = (-1) := c_2
      refine lv_iconst (v := nI 1) hx hb dX6_isOpen_28 (by decide) ?_
      refine lv_goto (tgt := 33) hx hb dX6_isOpen_29 (by decide) ?_
      exact W.zret (v := nI 1) hx hb hr rfl (fun t ht hW => ⟨_, rfl, (by simp [mOpen, zb, c_1, eq_true c_2]), ht⟩) (fun _ h => nomatch h) dX6_isOpen_33
    · skip
      have c_2 : ¬ K 13 s9 = (-1) := c_2
      refine lv_aload_n hx hb dX6_isOpen_18 rfl (lv_at hl 0 rfl) ?_
      refine va_get (D := D) (ci := 6) (v := .ref (ad 15)) (C := RX6) (T := TX6) (N := 21) hx hb hts hinX6 hown hK hP 0 rfl rfl 18 (by decide) (hts (.fieldLink RX6 56 "AuditoriumKeysModel" "offered" "[I") (List.mem_of_getElem? (i := 2) rfl)) (fun _ h9 => h9) rfl dX6_isOpen_19 ?_
      refine lv_iload_n hx hb dX6_isOpen_22 rfl (lv_at hl 1 rfl) ?_
      refine zz_iald hx hb hK hP 15 0 rfl rfl s9 (by omega) (by decide) dX6_isOpen_23 ?_
      refine lv_iconst (v := (-1)) hx hb dX6_isOpen_24 (by decide) ?_
      refine lv_icmp_eq (tgt := 32) hx hb dX6_isOpen_25 (by decide) (fun c_3 => ?_) (fun c_3 => ?_)
      · skip
        have c_3 : K 15 s9 = (-1) := c_3
        refine lv_iconst (v := nI 0) hx hb dX6_isOpen_32 (by decide) ?_
        exact W.zret (v := nI 0) hx hb hr rfl (fun t ht hW => ⟨_, rfl, (by simp [mOpen, zb, c_1, c_2, eq_true c_3]), ht⟩) (fun _ h => nomatch h) dX6_isOpen_33
      · skip
        have c_3 : ¬ K 15 s9 = (-1) := c_3
        refine lv_iconst (v := nI 1) hx hb dX6_isOpen_28 (by decide) ?_
        refine lv_goto (tgt := 33) hx hb dX6_isOpen_29 (by decide) ?_
        exact W.zret (v := nI 1) hx hb hr rfl (fun t ht hW => ⟨_, rfl, (by simp [mOpen, zb, c_1, c_2, c_3]), ht⟩) (fun _ h => nomatch h) dX6_isOpen_33
set_option maxHeartbeats 4000000 in
set_option maxRecDepth 100000 in
theorem kX6_isAlone (l : Launch) (D : va_G) (cI cZ : ClassId) (ad : Nat → Nat) (K : kS) (s9 : Nat) (hs9 : s9 < 60) : Met l yX6_isAlone wsX6_isAlone ({ frames := 3, cells := 0, slots := 0, locals := 66 }) (va_Pc [.ref (ad 0), .int (nI s9)] (zRd D (zTy cI cZ) (mwA ad cI cZ K))) (vp_Si (fun r => r = zb (mAlone K s9))) 0 0 (fun _ => False) := by
  refine Met.ofW (cc := cX6_isAlone) (maxL := 5) (ret := (some .boolean)) (by decide) rfl ?_
  intro pP e s m args below meth c s₁ B hml hv
  obtain ⟨rfl, hP, hK⟩ := hv
  have hx := B.exec
  have hb := B.bytes
  have hr := B.returns
  have hts := atoms_spec (ws := wsX6_isAlone) B.pre
  have hown : s.vm.findClass RX6 = some m.cls := findClass_of_methodNamed B.named
  have hlocks := B.notSynchronized
  have hl := lv_entry ([.ref (ad 0), .int (nI s9)]) (n := 5) (Nat.le_of_ble_eq_true rfl)
  rw [lg_entry_eq]
  generalize (lg_sl ([.ref (ad 0), .int (nI s9)]) ++ List.replicate (5 - (lg_sl ([.ref (ad 0), .int (nI s9)])).length) Slot.unset).toArray = ls at hl ⊢
  have hl : lv_has ls 5 [(0, .ref (ad 0)), (1, .int (nI s9))] := hl
  refine lv_iload_n hx hb dX6_isAlone_0 rfl (lv_at hl 1 rfl) ?_
  refine lv_bipush (v := nI 10) hx hb dX6_isAlone_1 (by decide) ?_
  refine lv_irem hx hb dX6_isAlone_3 (by decide) ?_
  refine zz_top (y := nI (s9 % 10)) (pk_rem (by omega) (by decide) (by decide)) ?_
  refine lv_istore_n (lv' := [(2, .int (nI (s9 % 10))), (0, .ref (ad 0)), (1, .int (nI s9))]) hx hb dX6_isAlone_4 rfl hl (by decide) rfl (fun ls hl => ?_)
  have j24 : ∀ ls : Array Slot, lv_has ls 5 [(2, .int (nI (s9 % 10))), (0, .ref (ad 0)), (1, .int (nI s9))] → W pP l e ({ frames := 3, cells := 0, slots := 0, locals := 66 } : Room) s m ([.ref (ad 0), .int (nI s9)] : List Value).toArray below meth c s.heap [] 0 0 (MQ below (vp_Si (fun r => r = zb (mAlone K s9))) ([.ref (ad 0), .int (nI s9)] : List Value).toArray s 0 0 (fun _ => False)) (F0 m 24 ls [.int (zb (mLeft K s9))]) := by
    intro ls hl
    refine lv_istore_n (lv' := [(3, .int (zb (mLeft K s9))), (2, .int (nI (s9 % 10))), (0, .ref (ad 0)), (1, .int (nI s9))]) hx hb dX6_isAlone_24 rfl hl (by decide) rfl (fun ls hl => ?_)
    have j46 : ∀ ls : Array Slot, lv_has ls 5 [(3, .int (zb (mLeft K s9))), (2, .int (nI (s9 % 10))), (0, .ref (ad 0)), (1, .int (nI s9))] → W pP l e ({ frames := 3, cells := 0, slots := 0, locals := 66 } : Room) s m ([.ref (ad 0), .int (nI s9)] : List Value).toArray below meth c s.heap [] 0 0 (MQ below (vp_Si (fun r => r = zb (mAlone K s9))) ([.ref (ad 0), .int (nI s9)] : List Value).toArray s 0 0 (fun _ => False)) (F0 m 46 ls [.int (zb (mRight K s9))]) := by
      intro ls hl
      refine lv_istore (lv' := [(4, .int (zb (mRight K s9))), (3, .int (zb (mLeft K s9))), (2, .int (nI (s9 % 10))), (0, .ref (ad 0)), (1, .int (nI s9))]) hx hb dX6_isAlone_46 hl (by decide) rfl (fun ls hl => ?_)
      refine lv_aload_n hx hb dX6_isAlone_48 rfl (lv_at hl 3 rfl) ?_
      refine lv_iload_n hx hb dX6_isAlone_49 rfl (lv_at hl 4 rfl) ?_
      refine zc_rV (As := [.int (nI s9)]) (rest := []) ⟨hx, hb, hml, hown, hts⟩ (kX6_isOpen l D cI cZ ad K s9 (by omega)) (cwV 1 hts gX6_isAlone_X6_isOpen rfl rfl rfl (by decide +kernel) ⟨(Nat.le_of_ble_eq_true rfl), (Nat.le_of_ble_eq_true rfl)⟩) hK hP (ci := 6) (q0 := 0) rfl rfl rfl rfl hl.1 rfl (Nat.le_of_ble_eq_true rfl) dX6_isAlone_50 ⟨Nat.zero_le _, Nat.zero_le _⟩ ?_
      refine lv_if_eq (tgt := 69) hx hb dX6_isAlone_53 (by decide) (fun c_1 => ?_) (fun c_1 => ?_)
      · skip
        have c_1 := zb_f c_1
        refine lv_iconst (v := nI 0) hx hb dX6_isAlone_69 (by decide) ?_
        exact W.zret (v := nI 0) hx hb hr rfl (fun t ht hW => ⟨_, rfl, (by simp [mAlone, zb, c_1]), ht⟩) (fun _ h => nomatch h) dX6_isAlone_70
      · skip
        have c_1 := zb_t c_1
        refine lv_iload_n hx hb dX6_isAlone_56 rfl (lv_at hl 1 rfl) ?_
        refine lv_if_ne (tgt := 69) hx hb dX6_isAlone_57 (by decide) (fun c_2 => ?_) (fun c_2 => ?_)
        · skip
          have c_2 := zb_t c_2
          refine lv_iconst (v := nI 0) hx hb dX6_isAlone_69 (by decide) ?_
          exact W.zret (v := nI 0) hx hb hr rfl (fun t ht hW => ⟨_, rfl, (by simp [mAlone, zb, c_1, c_2]), ht⟩) (fun _ h => nomatch h) dX6_isAlone_70
        · skip
          have c_2 := zb_f c_2
          refine lv_iload hx hb dX6_isAlone_60 (lv_at hl 0 rfl) ?_
          refine lv_if_ne (tgt := 69) hx hb dX6_isAlone_62 (by decide) (fun c_3 => ?_) (fun c_3 => ?_)
          · skip
            have c_3 := zb_t c_3
            refine lv_iconst (v := nI 0) hx hb dX6_isAlone_69 (by decide) ?_
            exact W.zret (v := nI 0) hx hb hr rfl (fun t ht hW => ⟨_, rfl, (by simp [mAlone, zb, c_1, c_2, c_3]), ht⟩) (fun _ h => nomatch h) dX6_isAlone_70
          · skip
            have c_3 := zb_f c_3
            refine lv_iconst (v := nI 1) hx hb dX6_isAlone_65 (by decide) ?_
            refine lv_goto (tgt := 70) hx hb dX6_isAlone_66 (by decide) ?_
            exact W.zret (v := nI 1) hx hb hr rfl (fun t ht hW => ⟨_, rfl, (by simp [mAlone, zb, c_1, c_2, c_3]), ht⟩) (fun _ h => nomatch h) dX6_isAlone_70
    refine lv_iload_n hx hb dX6_isAlone_25 rfl (lv_at hl 1 rfl) ?_
    refine lv_bipush (v := nI 9) hx hb dX6_isAlone_26 (by decide) ?_
    refine lv_icmp_ge (tgt := 45) hx hb dX6_isAlone_28 (by decide) (fun c_4 => ?_) (fun c_4 => ?_)
    · skip
      have c_4 := (nI_leI (a := 9) (b := (s9 % 10)) (by omega) (by omega)).mp c_4
      refine lv_iconst (v := nI 0) hx hb dX6_isAlone_45 (by decide) ?_
      have ej_5 : zb (mRight K s9) = nI 0 := (by simp [mRight, zb, c_4])
      have jx := j46
      rw [ej_5] at jx
      exact jx ls (lv_sub hl [0, 1, 2, 3] rfl)
    · skip
      have c_4 : ¬ 9 ≤ (s9 % 10) := fun h => c_4 ((nI_leI (a := 9) (b := (s9 % 10)) (by omega) (by omega)).mpr h)
      refine lv_aload_n hx hb dX6_isAlone_31 rfl (lv_at hl 2 rfl) ?_
      refine lv_iload_n hx hb dX6_isAlone_32 rfl (lv_at hl 3 rfl) ?_
      refine lv_iconst (v := nI 1) hx hb dX6_isAlone_33 (by decide) ?_
      refine lv_iadd hx hb dX6_isAlone_34 ?_
      refine zz_top (y := nI (s9 + 1)) ((nI_add s9 1).trans (congrArg nI (by omega))) ?_
      refine zc_rV (As := [.int (nI (s9 + 1))]) (rest := []) ⟨hx, hb, hml, hown, hts⟩ (kX6_isOpen l D cI cZ ad K (s9 + 1) (by omega)) (cwV 1 hts gX6_isAlone_X6_isOpen rfl rfl rfl (by decide +kernel) ⟨(Nat.le_of_ble_eq_true rfl), (Nat.le_of_ble_eq_true rfl)⟩) hK hP (ci := 6) (q0 := 0) rfl rfl rfl rfl hl.1 rfl (Nat.le_of_ble_eq_true rfl) dX6_isAlone_35 ⟨Nat.zero_le _, Nat.zero_le _⟩ ?_
      refine lv_if_eq (tgt := 45) hx hb dX6_isAlone_38 (by decide) (fun c_6 => ?_) (fun c_6 => ?_)
      · skip
        have c_6 := zb_f c_6
        refine lv_iconst (v := nI 0) hx hb dX6_isAlone_45 (by decide) ?_
        have ej_7 : zb (mRight K s9) = nI 0 := (by simp [mRight, zb, c_4, c_6])
        have jx := j46
        rw [ej_7] at jx
        exact jx ls (lv_sub hl [0, 1, 2, 3] rfl)
      · skip
        have c_6 := zb_t c_6
        refine lv_iconst (v := nI 1) hx hb dX6_isAlone_41 (by decide) ?_
        refine lv_goto (tgt := 46) hx hb dX6_isAlone_42 (by decide) ?_
        have ej_8 : zb (mRight K s9) = nI 1 := (by simp [mRight, zb, c_4, c_6])
        have jx := j46
        rw [ej_8] at jx
        exact jx ls (lv_sub hl [0, 1, 2, 3] rfl)
  refine lv_iload_n hx hb dX6_isAlone_5 rfl (lv_at hl 0 rfl) ?_
  refine lv_if_le (tgt := 23) hx hb dX6_isAlone_6 (by decide) (fun c_9 => ?_) (fun c_9 => ?_)
  · skip
    have c_9 := (nI_leI (a := (s9 % 10)) (b := 0) (by omega) (by omega)).mp c_9
    refine lv_iconst (v := nI 0) hx hb dX6_isAlone_23 (by decide) ?_
    have ej_10 : zb (mLeft K s9) = nI 0 := (by simp [mLeft, zb, c_9])
    have jx := j24
    rw [ej_10] at jx
    exact jx ls (lv_sub hl [0, 1, 2] rfl)
  · skip
    have c_9 : ¬ (s9 % 10) ≤ 0 := fun h => c_9 ((nI_leI (a := (s9 % 10)) (b := 0) (by omega) (by omega)).mpr h)
    refine lv_aload_n hx hb dX6_isAlone_9 rfl (lv_at hl 1 rfl) ?_
    refine lv_iload_n hx hb dX6_isAlone_10 rfl (lv_at hl 2 rfl) ?_
    refine lv_iconst (v := nI 1) hx hb dX6_isAlone_11 (by decide) ?_
    refine lv_isub hx hb dX6_isAlone_12 ?_
    refine zz_top (y := nI (s9 - 1)) (pk_sub (by omega)) ?_
    refine zc_rV (As := [.int (nI (s9 - 1))]) (rest := []) ⟨hx, hb, hml, hown, hts⟩ (kX6_isOpen l D cI cZ ad K (s9 - 1) (by omega)) (cwV 1 hts gX6_isAlone_X6_isOpen rfl rfl rfl (by decide +kernel) ⟨(Nat.le_of_ble_eq_true rfl), (Nat.le_of_ble_eq_true rfl)⟩) hK hP (ci := 6) (q0 := 0) rfl rfl rfl rfl hl.1 rfl (Nat.le_of_ble_eq_true rfl) dX6_isAlone_13 ⟨Nat.zero_le _, Nat.zero_le _⟩ ?_
    refine lv_if_eq (tgt := 23) hx hb dX6_isAlone_16 (by decide) (fun c_11 => ?_) (fun c_11 => ?_)
    · skip
      have c_11 := zb_f c_11
      refine lv_iconst (v := nI 0) hx hb dX6_isAlone_23 (by decide) ?_
      have ej_12 : zb (mLeft K s9) = nI 0 := (by simp [mLeft, zb, c_9, c_11])
      have jx := j24
      rw [ej_12] at jx
      exact jx ls (lv_sub hl [0, 1, 2] rfl)
    · skip
      have c_11 := zb_t c_11
      refine lv_iconst (v := nI 1) hx hb dX6_isAlone_19 (by decide) ?_
      refine lv_goto (tgt := 24) hx hb dX6_isAlone_20 (by decide) ?_
      have ej_13 : zb (mLeft K s9) = nI 1 := (by simp [mLeft, zb, c_9, c_11])
      have jx := j24
      rw [ej_13] at jx
      exact jx ls (lv_sub hl [0, 1, 2] rfl)
set_option maxHeartbeats 4000000 in
set_option maxRecDepth 100000 in
theorem kX6_priceOf (l : Launch) (D : va_G) (cI cZ : ClassId) (ad : Nat → Nat) (K : kS) (s9 : Nat) (hs9 : s9 < 60) : Met l yX6_priceOf wsX6_priceOf ({ frames := 0, cells := 0, slots := 0, locals := 0 }) (va_Pc [.ref (ad 0), .int (nI s9)] (zRd D (zTy cI cZ) (mwA ad cI cZ K))) (vp_Si (fun r => r = mPrice K s9)) 0 0 (fun _ => False) := by
  refine Met.ofW (cc := cX6_priceOf) (maxL := 2) (ret := (some .int)) (by decide) rfl ?_
  intro pP e s m args below meth c s₁ B hml hv
  obtain ⟨rfl, hP, hK⟩ := hv
  have hx := B.exec
  have hb := B.bytes
  have hr := B.returns
  have hts := atoms_spec (ws := wsX6_priceOf) B.pre
  have hown : s.vm.findClass RX6 = some m.cls := findClass_of_methodNamed B.named
  have hlocks := B.notSynchronized
  have hinX6 : ∀ w ∈ u_ws RX6 TX6 21, w ∈ wsX6_priceOf := by decide +kernel
  have hl := lv_entry ([.ref (ad 0), .int (nI s9)]) (n := 2) (Nat.le_of_ble_eq_true rfl)
  rw [lg_entry_eq]
  generalize (lg_sl ([.ref (ad 0), .int (nI s9)]) ++ List.replicate (2 - (lg_sl ([.ref (ad 0), .int (nI s9)])).length) Slot.unset).toArray = ls at hl ⊢
  have hl : lv_has ls 2 [(0, .ref (ad 0)), (1, .int (nI s9))] := hl
  refine lv_aload_n hx hb dX6_priceOf_0 rfl (lv_at hl 0 rfl) ?_
  refine va_get (D := D) (ci := 6) (v := .ref (ad 13)) (C := RX6) (T := TX6) (N := 21) hx hb hts hinX6 hown hK hP 0 rfl rfl 16 (by decide) (hts (.fieldLink RX6 50 "AuditoriumKeysModel" "owners" "[I") (List.mem_of_getElem? (i := 1) rfl)) (fun _ h9 => h9) rfl dX6_priceOf_1 ?_
  refine lv_iload_n hx hb dX6_priceOf_4 rfl (lv_at hl 1 rfl) ?_
  refine zz_iald hx hb hK hP 13 0 rfl rfl s9 (by omega) (by decide) dX6_priceOf_5 ?_
  refine lv_iconst (v := (-1)) hx hb dX6_priceOf_6 (by decide) ?_
  refine lv_icmp_ne (tgt := 23) hx hb dX6_priceOf_7 (by decide) (fun c_1 => ?_) (fun c_1 => ?_)
  · skip
    have c_1 : ¬ K 13 s9 = (-1) := c_1
    refine lv_aload_n hx hb dX6_priceOf_23 rfl (lv_at hl 0 rfl) ?_
    refine va_get (D := D) (ci := 6) (v := .ref (ad 15)) (C := RX6) (T := TX6) (N := 21) hx hb hts hinX6 hown hK hP 0 rfl rfl 18 (by decide) (hts (.fieldLink RX6 56 "AuditoriumKeysModel" "offered" "[I") (List.mem_of_getElem? (i := 2) rfl)) (fun _ h9 => h9) rfl dX6_priceOf_24 ?_
    refine lv_iload_n hx hb dX6_priceOf_27 rfl (lv_at hl 1 rfl) ?_
    refine zz_iald hx hb hK hP 15 0 rfl rfl s9 (by omega) (by decide) dX6_priceOf_28 ?_
    exact W.iret (v := K 15 s9) hx hb hr (fun t ht hW => ⟨_, rfl, (by simp [mPrice, c_1]), ht⟩) (fun _ h => nomatch h) dX6_priceOf_29
  · skip
    have c_1 : K 13 s9 = (-1) := c_1
    refine lv_bipush (v := nI 100) hx hb dX6_priceOf_10 (by decide) ?_
    refine lv_bipush (v := nI 10) hx hb dX6_priceOf_12 (by decide) ?_
    refine lv_iload_n hx hb dX6_priceOf_14 rfl (lv_at hl 1 rfl) ?_
    refine lv_bipush (v := nI 10) hx hb dX6_priceOf_15 (by decide) ?_
    refine lv_idiv hx hb dX6_priceOf_17 (by decide) ?_
    refine zz_top (y := nI (s9 / 10)) (pk_div (by omega) (by decide) (by decide)) ?_
    refine lv_imul hx hb dX6_priceOf_18 ?_
    refine zz_top (y := nI (10 * (s9 / 10))) (pk_mul _ _) ?_
    refine lv_isub hx hb dX6_priceOf_19 ?_
    refine lv_goto (tgt := 29) hx hb dX6_priceOf_20 (by decide) ?_
    exact W.iret (v := (nI 100) - (nI (10 * (s9 / 10)))) hx hb hr (fun t ht hW => ⟨_, rfl, (by simp [mPrice, eq_true c_1]), ht⟩) (fun _ h => nomatch h) dX6_priceOf_29
set_option maxHeartbeats 4000000 in
set_option maxRecDepth 100000 in
theorem kX6_dropHold (l : Launch) (D : va_G) (cI cZ : ClassId) (ad : Nat → Nat) (K : kS) (sz : Nat) (p : Nat) (hp : p < 8) : Met l yX6_dropHold wsX6_dropHold ({ frames := 0, cells := 0, slots := 0, locals := 0 }) (va_Pc [.ref (ad 0), .int (nI p)] (zPr D (zTy cI cZ) (mwA ad cI cZ K) sz)) (va_Qv (fun _ : Unit => True) (fun _ => zPo D (zTy cI cZ) (va_A (mwA ad cI cZ K) sz) (mwA ad cI cZ (mDrop K p))) (va_A (mwA ad cI cZ K) sz)) 0 0 (va_A (mwA ad cI cZ K) sz) := by
  refine Met.ofW (cc := cX6_dropHold) (maxL := 2) (ret := none) (by decide) rfl ?_
  intro pP e s m args below meth c s₁ B hml hv
  obtain ⟨rfl, hsz, hP, hK, hD0⟩ := hv
  have hx := B.exec
  have hb := B.bytes
  have hr := B.returns
  have hts := atoms_spec (ws := wsX6_dropHold) B.pre
  have hown : s.vm.findClass RX6 = some m.cls := findClass_of_methodNamed B.named
  have hlocks := B.notSynchronized
  subst hsz
  have hD := hD0.self (sz := s.heap.size)
  generalize hAe : va_A (mwA ad cI cZ K) s.heap.size = A at hD ⊢
  have hA : ∀ q : Nat, s.heap.size ≤ q → A q := fun q h => by rw [← hAe]; exact Or.inr h
  have hS : va_S A s.heap s.heap [] := va_S.rf
  have hinX6 : ∀ w ∈ u_ws RX6 TX6 21, w ∈ wsX6_dropHold := by decide +kernel
  have hl := lv_entry ([.ref (ad 0), .int (nI p)]) (n := 2) (Nat.le_of_ble_eq_true rfl)
  rw [lg_entry_eq]
  generalize (lg_sl ([.ref (ad 0), .int (nI p)]) ++ List.replicate (2 - (lg_sl ([.ref (ad 0), .int (nI p)])).length) Slot.unset).toArray = ls at hl ⊢
  have hl : lv_has ls 2 [(0, .ref (ad 0)), (1, .int (nI p))] := hl
  refine lv_aload_n hx hb dX6_dropHold_0 rfl (lv_at hl 0 rfl) ?_
  refine va_get (D := D) (ci := 6) (v := .ref (ad 5)) (C := RX6) (T := TX6) (N := 21) hx hb hts hinX6 hown hK hP 0 rfl rfl 8 (by decide) (hts (.fieldLink RX6 26 "AuditoriumKeysModel" "firsts" "[I") (List.mem_of_getElem? (i := 1) rfl)) (fun _ h9 => h9) rfl dX6_dropHold_1 ?_
  refine lv_iload_n hx hb dX6_dropHold_4 rfl (lv_at hl 1 rfl) ?_
  refine lv_iconst (v := (-1)) hx hb dX6_dropHold_5 (by decide) ?_
  refine zz_iast hx hb hK hP hD hS 5 0 rfl rfl p (by omega) (by decide) dX6_dropHold_6 (fun H locs hP hD hS => ?_)
  have hP : va_P D vwCl (mwA ad cI cZ (setA K 5 (upd (K 5) p (-1)))) _ := hP
  have hD : va_D A (mwA ad cI cZ (setA K 5 (upd (K 5) p (-1)))) := hD
  refine lv_aload_n hx hb dX6_dropHold_7 rfl (lv_at hl 0 rfl) ?_
  refine va_get (D := D) (ci := 6) (v := .ref (ad 12)) (C := RX6) (T := TX6) (N := 21) hx hb hts hinX6 hown hK hP 0 rfl rfl 15 (by decide) (hts (.fieldLink RX6 47 "AuditoriumKeysModel" "spent" "[I") (List.mem_of_getElem? (i := 2) rfl)) (fun _ h9 => h9) rfl dX6_dropHold_8 ?_
  refine lv_iload_n hx hb dX6_dropHold_11 rfl (lv_at hl 1 rfl) ?_
  refine lv_dup2_11 hx hb dX6_dropHold_12 rfl rfl ?_
  refine zz_iald hx hb hK hP 12 0 rfl rfl p (by omega) (by decide) dX6_dropHold_13 ?_
  refine lv_aload_n hx hb dX6_dropHold_14 rfl (lv_at hl 0 rfl) ?_
  refine va_get (D := D) (ci := 6) (v := .ref (ad 9)) (C := RX6) (T := TX6) (N := 21) hx hb hts hinX6 hown hK hP 0 rfl rfl 12 (by decide) (hts (.fieldLink RX6 38 "AuditoriumKeysModel" "paid" "[I") (List.mem_of_getElem? (i := 3) rfl)) (fun _ h9 => h9) rfl dX6_dropHold_15 ?_
  refine lv_iload_n hx hb dX6_dropHold_18 rfl (lv_at hl 1 rfl) ?_
  refine zz_iald hx hb hK hP 9 0 rfl rfl p (by omega) (by decide) dX6_dropHold_19 ?_
  refine lv_isub hx hb dX6_dropHold_20 ?_
  refine zz_iast hx hb hK hP hD hS 12 0 rfl rfl p (by omega) (by decide) dX6_dropHold_21 (fun H locs hP hD hS => ?_)
  have hP : va_P D vwCl (mwA ad cI cZ (setA (setA K 5 (upd (K 5) p (-1))) 12 (upd (K 12) p ((K 12 p) - (K 9 p))))) _ := hP
  have hD : va_D A (mwA ad cI cZ (setA (setA K 5 (upd (K 5) p (-1))) 12 (upd (K 12) p ((K 12 p) - (K 9 p))))) := hD
  have eK9 : (mDrop K p) = (setA (setA K 5 (upd (K 5) p (-1))) 12 (upd (K 12) p ((K 12 p) - (K 9 p)))) := rfl
  have hP9 := hP
  have hD9 := hD
  rw [← eK9] at hP9 hD9
  exact W.vret hx hb hr (fun t ht hW => ⟨⟨(), rfl, trivial, by rw [ht]; exact hP9, va_K.moved hW.alike hK, hD9⟩, hS.F ht⟩) hS.2.2 dX6_dropHold_22
set_option maxHeartbeats 4000000 in
set_option maxRecDepth 100000 in
theorem kX6_usedBy (l : Launch) (D : va_G) (cI cZ : ClassId) (ad : Nat → Nat) (K : kS) (c9 : Nat) (p : Nat) (hc9 : c9 < 10) (hp : p < 8) : Met l yX6_usedBy wsX6_usedBy ({ frames := 0, cells := 0, slots := 0, locals := 0 }) (va_Pc [.ref (ad 0), .int (nI c9), .int (nI p)] (zRd D (zTy cI cZ) (mwA ad cI cZ K))) (vp_Si (fun r => r = mUsed K c9 p)) 0 0 (fun _ => False) := by
  refine Met.ofW (cc := cX6_usedBy) (maxL := 4) (ret := (some .int)) (by decide) rfl ?_
  intro pP e s m args below meth c s₁ B hml hv
  obtain ⟨rfl, hP, hK⟩ := hv
  have hx := B.exec
  have hb := B.bytes
  have hr := B.returns
  have hts := atoms_spec (ws := wsX6_usedBy) B.pre
  have hown : s.vm.findClass RX6 = some m.cls := findClass_of_methodNamed B.named
  have hlocks := B.notSynchronized
  have hinX6 : ∀ w ∈ u_ws RX6 TX6 21, w ∈ wsX6_usedBy := by decide +kernel
  have hl := lv_entry ([.ref (ad 0), .int (nI c9), .int (nI p)]) (n := 4) (Nat.le_of_ble_eq_true rfl)
  rw [lg_entry_eq]
  generalize (lg_sl ([.ref (ad 0), .int (nI c9), .int (nI p)]) ++ List.replicate (4 - (lg_sl ([.ref (ad 0), .int (nI c9), .int (nI p)])).length) Slot.unset).toArray = ls at hl ⊢
  have hl : lv_has ls 4 [(0, .ref (ad 0)), (1, .int (nI c9)), (2, .int (nI p))] := hl
  refine lv_aload_n hx hb dX6_usedBy_0 rfl (lv_at hl 0 rfl) ?_
  refine va_get (D := D) (ci := 6) (v := .ref (ad 5)) (C := RX6) (T := TX6) (N := 21) hx hb hts hinX6 hown hK hP 0 rfl rfl 8 (by decide) (hts (.fieldLink RX6 26 "AuditoriumKeysModel" "firsts" "[I") (List.mem_of_getElem? (i := 1) rfl)) (fun _ h9 => h9) rfl dX6_usedBy_1 ?_
  refine lv_iload_n hx hb dX6_usedBy_4 rfl (lv_at hl 2 rfl) ?_
  refine zz_iald hx hb hK hP 5 0 rfl rfl p (by omega) (by decide) dX6_usedBy_5 ?_
  refine lv_iconst (v := (-1)) hx hb dX6_usedBy_6 (by decide) ?_
  refine lv_icmp_eq (tgt := 29) hx hb dX6_usedBy_7 (by decide) (fun c_1 => ?_) (fun c_1 => ?_)
  · skip
    have c_1 : K 5 p = (-1) := c_1
    refine lv_iconst (v := nI 0) hx hb dX6_usedBy_29 (by decide) ?_
    refine lv_istore_n (lv' := [(3, .int (nI 0)), (0, .ref (ad 0)), (1, .int (nI c9)), (2, .int (nI p))]) hx hb dX6_usedBy_30 rfl hl (by decide) rfl (fun ls hl => ?_)
    refine lv_aload_n hx hb dX6_usedBy_31 rfl (lv_at hl 1 rfl) ?_
    refine va_get (D := D) (ci := 6) (v := .ref (ad 3)) (C := RX6) (T := TX6) (N := 21) hx hb hts hinX6 hown hK hP 0 rfl rfl 6 (by decide) (hts (.fieldLink RX6 20 "AuditoriumKeysModel" "used" "[I") (List.mem_of_getElem? (i := 4) rfl)) (fun _ h9 => h9) rfl dX6_usedBy_32 ?_
    refine lv_bipush (v := nI 8) hx hb dX6_usedBy_35 (by decide) ?_
    refine lv_iload_n hx hb dX6_usedBy_37 rfl (lv_at hl 2 rfl) ?_
    refine lv_imul hx hb dX6_usedBy_38 ?_
    refine zz_top (y := nI (8 * c9)) ((pk_mul 8 c9).trans (congrArg nI (by first | rfl | omega | exact Nat.mul_comm _ _))) ?_
    refine lv_iload_n hx hb dX6_usedBy_39 rfl (lv_at hl 3 rfl) ?_
    refine lv_iadd hx hb dX6_usedBy_40 ?_
    refine zz_top (y := nI (8 * c9 + p)) ((nI_add (8 * c9) p).trans (congrArg nI (by omega))) ?_
    refine zz_iald hx hb hK hP 3 0 rfl rfl (8 * c9 + p) (by omega) (by decide) dX6_usedBy_41 ?_
    refine lv_iload_n hx hb dX6_usedBy_42 rfl (lv_at hl 0 rfl) ?_
    refine lv_iadd hx hb dX6_usedBy_43 ?_
    exact W.iret (v := (K 3 (8 * c9 + p)) + (nI 0)) hx hb hr (fun t ht hW => ⟨_, rfl, (by simp [mUsed, eq_true c_1]), ht⟩) (fun _ h => nomatch h) dX6_usedBy_44
  · skip
    have c_1 : ¬ K 5 p = (-1) := c_1
    refine lv_aload_n hx hb dX6_usedBy_10 rfl (lv_at hl 0 rfl) ?_
    refine va_get (D := D) (ci := 6) (v := .ref (ad 7)) (C := RX6) (T := TX6) (N := 21) hx hb hts hinX6 hown hK hP 0 rfl rfl 10 (by decide) (hts (.fieldLink RX6 32 "AuditoriumKeysModel" "byCode" "[I") (List.mem_of_getElem? (i := 2) rfl)) (fun _ h9 => h9) rfl dX6_usedBy_11 ?_
    refine lv_iload_n hx hb dX6_usedBy_14 rfl (lv_at hl 2 rfl) ?_
    refine zz_iald hx hb hK hP 7 0 rfl rfl p (by omega) (by decide) dX6_usedBy_15 ?_
    refine lv_iload_n hx hb dX6_usedBy_16 rfl (lv_at hl 1 rfl) ?_
    refine lv_icmp_ne (tgt := 29) hx hb dX6_usedBy_17 (by decide) (fun c_2 => ?_) (fun c_2 => ?_)
    · skip
      have c_2 : ¬ K 7 p = nI c9 := c_2
      refine lv_iconst (v := nI 0) hx hb dX6_usedBy_29 (by decide) ?_
      refine lv_istore_n (lv' := [(3, .int (nI 0)), (0, .ref (ad 0)), (1, .int (nI c9)), (2, .int (nI p))]) hx hb dX6_usedBy_30 rfl hl (by decide) rfl (fun ls hl => ?_)
      refine lv_aload_n hx hb dX6_usedBy_31 rfl (lv_at hl 1 rfl) ?_
      refine va_get (D := D) (ci := 6) (v := .ref (ad 3)) (C := RX6) (T := TX6) (N := 21) hx hb hts hinX6 hown hK hP 0 rfl rfl 6 (by decide) (hts (.fieldLink RX6 20 "AuditoriumKeysModel" "used" "[I") (List.mem_of_getElem? (i := 4) rfl)) (fun _ h9 => h9) rfl dX6_usedBy_32 ?_
      refine lv_bipush (v := nI 8) hx hb dX6_usedBy_35 (by decide) ?_
      refine lv_iload_n hx hb dX6_usedBy_37 rfl (lv_at hl 2 rfl) ?_
      refine lv_imul hx hb dX6_usedBy_38 ?_
      refine zz_top (y := nI (8 * c9)) ((pk_mul 8 c9).trans (congrArg nI (by first | rfl | omega | exact Nat.mul_comm _ _))) ?_
      refine lv_iload_n hx hb dX6_usedBy_39 rfl (lv_at hl 3 rfl) ?_
      refine lv_iadd hx hb dX6_usedBy_40 ?_
      refine zz_top (y := nI (8 * c9 + p)) ((nI_add (8 * c9) p).trans (congrArg nI (by omega))) ?_
      refine zz_iald hx hb hK hP 3 0 rfl rfl (8 * c9 + p) (by omega) (by decide) dX6_usedBy_41 ?_
      refine lv_iload_n hx hb dX6_usedBy_42 rfl (lv_at hl 0 rfl) ?_
      refine lv_iadd hx hb dX6_usedBy_43 ?_
      exact W.iret (v := (K 3 (8 * c9 + p)) + (nI 0)) hx hb hr (fun t ht hW => ⟨_, rfl, (by simp [mUsed, c_1, c_2]), ht⟩) (fun _ h => nomatch h) dX6_usedBy_44
    · skip
      have c_2 : K 7 p = nI c9 := c_2
      refine lv_aload_n hx hb dX6_usedBy_20 rfl (lv_at hl 0 rfl) ?_
      refine va_get (D := D) (ci := 6) (v := .ref (ad 6)) (C := RX6) (T := TX6) (N := 21) hx hb hts hinX6 hown hK hP 0 rfl rfl 9 (by decide) (hts (.fieldLink RX6 29 "AuditoriumKeysModel" "manies" "[I") (List.mem_of_getElem? (i := 3) rfl)) (fun _ h9 => h9) rfl dX6_usedBy_21 ?_
      refine lv_iload_n hx hb dX6_usedBy_24 rfl (lv_at hl 2 rfl) ?_
      refine zz_iald hx hb hK hP 6 0 rfl rfl p (by omega) (by decide) dX6_usedBy_25 ?_
      refine lv_goto (tgt := 30) hx hb dX6_usedBy_26 (by decide) ?_
      refine lv_istore_n (lv' := [(3, .int (K 6 p)), (0, .ref (ad 0)), (1, .int (nI c9)), (2, .int (nI p))]) hx hb dX6_usedBy_30 rfl hl (by decide) rfl (fun ls hl => ?_)
      refine lv_aload_n hx hb dX6_usedBy_31 rfl (lv_at hl 1 rfl) ?_
      refine va_get (D := D) (ci := 6) (v := .ref (ad 3)) (C := RX6) (T := TX6) (N := 21) hx hb hts hinX6 hown hK hP 0 rfl rfl 6 (by decide) (hts (.fieldLink RX6 20 "AuditoriumKeysModel" "used" "[I") (List.mem_of_getElem? (i := 4) rfl)) (fun _ h9 => h9) rfl dX6_usedBy_32 ?_
      refine lv_bipush (v := nI 8) hx hb dX6_usedBy_35 (by decide) ?_
      refine lv_iload_n hx hb dX6_usedBy_37 rfl (lv_at hl 2 rfl) ?_
      refine lv_imul hx hb dX6_usedBy_38 ?_
      refine zz_top (y := nI (8 * c9)) ((pk_mul 8 c9).trans (congrArg nI (by first | rfl | omega | exact Nat.mul_comm _ _))) ?_
      refine lv_iload_n hx hb dX6_usedBy_39 rfl (lv_at hl 3 rfl) ?_
      refine lv_iadd hx hb dX6_usedBy_40 ?_
      refine zz_top (y := nI (8 * c9 + p)) ((nI_add (8 * c9) p).trans (congrArg nI (by omega))) ?_
      refine zz_iald hx hb hK hP 3 0 rfl rfl (8 * c9 + p) (by omega) (by decide) dX6_usedBy_41 ?_
      refine lv_iload_n hx hb dX6_usedBy_42 rfl (lv_at hl 0 rfl) ?_
      refine lv_iadd hx hb dX6_usedBy_43 ?_
      exact W.iret (v := (K 3 (8 * c9 + p)) + (K 6 p)) hx hb hr (fun t ht hW => ⟨_, rfl, (by simp [mUsed, c_1, eq_true c_2]), ht⟩) (fun _ h => nomatch h) dX6_usedBy_44
set_option maxHeartbeats 4000000 in
set_option maxRecDepth 100000 in
theorem kX6_countQueue (l : Launch) (D : va_G) (cI cZ : ClassId) (ad : Nat → Nat) (K : kS)   : Met l yX6_countQueue wsX6_countQueue ({ frames := 0, cells := 0, slots := 0, locals := 0 }) (va_Pc [.ref (ad 0)] (zRd D (zTy cI cZ) (mwA ad cI cZ K))) (vp_Si (fun r => r = nI (mCount K))) 0 0 (fun _ => False) := by
  refine Met.ofW (cc := cX6_countQueue) (maxL := 3) (ret := (some .int)) (by decide) rfl ?_
  intro pP e s m args below meth c s₁ B hml hv
  obtain ⟨rfl, hP, hK⟩ := hv
  have hx := B.exec
  have hb := B.bytes
  have hr := B.returns
  have hts := atoms_spec (ws := wsX6_countQueue) B.pre
  have hown : s.vm.findClass RX6 = some m.cls := findClass_of_methodNamed B.named
  have hlocks := B.notSynchronized
  have hinX6 : ∀ w ∈ u_ws RX6 TX6 21, w ∈ wsX6_countQueue := by decide +kernel
  have hl := lv_entry ([.ref (ad 0)]) (n := 3) (Nat.le_of_ble_eq_true rfl)
  rw [lg_entry_eq]
  generalize (lg_sl ([.ref (ad 0)]) ++ List.replicate (3 - (lg_sl ([.ref (ad 0)])).length) Slot.unset).toArray = ls at hl ⊢
  have hl : lv_has ls 3 [(0, .ref (ad 0))] := hl
  refine lv_iconst (v := nI 0) hx hb dX6_countQueue_0 (by decide) ?_
  refine lv_istore_n (lv' := [(1, .int (nI 0)), (0, .ref (ad 0))]) hx hb dX6_countQueue_1 rfl hl (by decide) rfl (fun ls hl => ?_)
  refine lv_iconst (v := nI 0) hx hb dX6_countQueue_2 (by decide) ?_
  refine lv_istore_n (lv' := [(2, .int (nI 0)), (1, .int (nI 0)), (0, .ref (ad 0))]) hx hb dX6_countQueue_3 rfl hl (by decide) rfl (fun ls hl => ?_)
  have lp_a : ∀ (n i : Nat), 0 ≤ i → i ≤ 8 → 8 - i < n → ∀ ls : Array Slot, lv_has ls 3 [(2, .int (nI i)), (1, .int (nI (zcnt (fun j => decide (¬ K 4 j = (-1))) i))), (0, .ref (ad 0))] → W pP l e ({ frames := 0, cells := 0, slots := 0, locals := 0 } : Room) s m ([.ref (ad 0)] : List Value).toArray below meth c s.heap [] 0 0 (MQ below (vp_Si (fun r => r = nI (mCount K))) ([.ref (ad 0)] : List Value).toArray s 0 0 (fun _ => False)) (F0 m 4 ls []) := by
    intro n
    induction n with
    | zero => intro i _ _ h; exact absurd h (Nat.not_lt_zero _)
    | succ n ih_a =>
      intro i hlo_a hin_a hdn_a  ls hl
      refine lv_iload_n hx hb dX6_countQueue_4 rfl (lv_at hl 0 rfl) ?_
      refine lv_bipush (v := nI 8) hx hb dX6_countQueue_5 (by decide) ?_
      refine lv_icmp_ge (tgt := 34) hx hb dX6_countQueue_7 (by decide) (fun c_1 => ?_) (fun c_1 => ?_)
      · skip
        have c_1 := (nI_leI (a := 8) (b := i) (by omega) (by omega)).mp c_1
        have hi8 : i = 8 := by omega
        refine lv_iload_n hx hb dX6_countQueue_34 rfl (lv_at hl 1 rfl) ?_
        exact W.iret (v := nI (zcnt (fun j => decide (¬ K 4 j = (-1))) i)) hx hb hr (fun t ht hW => ⟨_, rfl, (by rw [hi8]; rfl), ht⟩) (fun _ h => nomatch h) dX6_countQueue_35
      · skip
        have c_1 : ¬ 8 ≤ i := fun h => c_1 ((nI_leI (a := 8) (b := i) (by omega) (by omega)).mpr h)
        refine lv_iload_n hx hb dX6_countQueue_10 rfl (lv_at hl 1 rfl) ?_
        refine lv_aload_n hx hb dX6_countQueue_11 rfl (lv_at hl 2 rfl) ?_
        refine va_get (D := D) (ci := 6) (v := .ref (ad 4)) (C := RX6) (T := TX6) (N := 21) hx hb hts hinX6 hown hK hP 0 rfl rfl 7 (by decide) (hts (.fieldLink RX6 23 "AuditoriumKeysModel" "cameAt" "[I") (List.mem_of_getElem? (i := 1) rfl)) (fun _ h9 => h9) rfl dX6_countQueue_12 ?_
        refine lv_iload_n hx hb dX6_countQueue_15 rfl (lv_at hl 0 rfl) ?_
        refine zz_iald hx hb hK hP 4 0 rfl rfl i (by omega) (by decide) dX6_countQueue_16 ?_
        refine lv_iconst (v := (-1)) hx hb dX6_countQueue_17 (by decide) ?_
        refine lv_icmp_eq (tgt := 25) hx hb dX6_countQueue_18 (by decide) (fun c_2 => ?_) (fun c_2 => ?_)
        · skip
          have c_2 : K 4 i = (-1) := c_2
          refine lv_iconst (v := nI 0) hx hb dX6_countQueue_25 (by decide) ?_
          refine lv_iadd hx hb dX6_countQueue_26 ?_
          refine zz_top (y := nI (zcnt (fun j => decide (¬ K 4 j = (-1))) i)) ((nI_add (zcnt (fun j => decide (¬ K 4 j = (-1))) i) 0).trans (congrArg nI (by omega))) ?_
          refine lv_istore_n (lv' := [(1, .int (nI (zcnt (fun j => decide (¬ K 4 j = (-1))) i))), (2, .int (nI i)), (0, .ref (ad 0))]) hx hb dX6_countQueue_27 rfl hl (by decide) rfl (fun ls hl => ?_)
          refine lv_iinc (v := nI (i + 1)) (lv' := [(2, .int (nI (i + 1))), (1, .int (nI (zcnt (fun j => decide (¬ K 4 j = (-1))) i))), (0, .ref (ad 0))]) hx hb dX6_countQueue_28 hl (k := 1) rfl ((show nI i + Int32.ofInt 1 = nI i + nI 1 from rfl).trans (nI_add _ _)) (by decide) rfl (fun ls hl => ?_)
          refine lv_goto (tgt := 4) hx hb dX6_countQueue_31 (by decide) ?_
          have es_3 : nI (zcnt (fun j => decide (¬ K 4 j = (-1))) (i + 1)) = nI (zcnt (fun j => decide (¬ K 4 j = (-1))) i) := (by simp [zcnt, c_2])
          exact ih_a (i + 1) (by omega) (by omega) (by omega)  ls (by rw [es_3]; exact lv_sub hl [0, 1, 2] rfl)
        · skip
          have c_2 : ¬ K 4 i = (-1) := c_2
          refine lv_iconst (v := nI 1) hx hb dX6_countQueue_21 (by decide) ?_
          refine lv_goto (tgt := 26) hx hb dX6_countQueue_22 (by decide) ?_
          refine lv_iadd hx hb dX6_countQueue_26 ?_
          refine zz_top (y := nI ((zcnt (fun j => decide (¬ K 4 j = (-1))) i) + 1)) ((nI_add (zcnt (fun j => decide (¬ K 4 j = (-1))) i) 1).trans (congrArg nI (by omega))) ?_
          refine lv_istore_n (lv' := [(1, .int (nI ((zcnt (fun j => decide (¬ K 4 j = (-1))) i) + 1))), (2, .int (nI i)), (0, .ref (ad 0))]) hx hb dX6_countQueue_27 rfl hl (by decide) rfl (fun ls hl => ?_)
          refine lv_iinc (v := nI (i + 1)) (lv' := [(2, .int (nI (i + 1))), (1, .int (nI ((zcnt (fun j => decide (¬ K 4 j = (-1))) i) + 1))), (0, .ref (ad 0))]) hx hb dX6_countQueue_28 hl (k := 1) rfl ((show nI i + Int32.ofInt 1 = nI i + nI 1 from rfl).trans (nI_add _ _)) (by decide) rfl (fun ls hl => ?_)
          refine lv_goto (tgt := 4) hx hb dX6_countQueue_31 (by decide) ?_
          have es_4 : nI (zcnt (fun j => decide (¬ K 4 j = (-1))) (i + 1)) = nI ((zcnt (fun j => decide (¬ K 4 j = (-1))) i) + 1) := (by simp [zcnt, c_2])
          exact ih_a (i + 1) (by omega) (by omega) (by omega)  ls (by rw [es_4]; exact lv_sub hl [0, 1, 2] rfl)
  have ei_a_1 : nI (zcnt (fun j => decide (¬ K 4 j = (-1))) 0) = nI 0 := rfl
  exact lp_a (8 - 0 + 1) 0 (by omega) (by omega) (by omega)  ls (by rw [ei_a_1]; exact lv_sub hl [0, 1, 2] rfl)
set_option maxHeartbeats 4000000 in
set_option maxRecDepth 100000 in
theorem kX6_isAhead (l : Launch) (D : va_G) (cI cZ : ClassId) (ad : Nat → Nat) (K : kS) (p : Nat) (o9 : Nat) (hp : p < 8) (ho9 : o9 < 8) : Met l yX6_isAhead wsX6_isAhead ({ frames := 0, cells := 0, slots := 0, locals := 0 }) (va_Pc [.ref (ad 0), .int (nI p), .int (nI o9)] (zRd D (zTy cI cZ) (mwA ad cI cZ K))) (vp_Si (fun r => r = zb (mAhead K p o9))) 0 0 (fun _ => False) := by
  refine Met.ofW (cc := cX6_isAhead) (maxL := 5) (ret := (some .boolean)) (by decide) rfl ?_
  intro pP e s m args below meth c s₁ B hml hv
  obtain ⟨rfl, hP, hK⟩ := hv
  have hx := B.exec
  have hb := B.bytes
  have hr := B.returns
  have hts := atoms_spec (ws := wsX6_isAhead) B.pre
  have hown : s.vm.findClass RX6 = some m.cls := findClass_of_methodNamed B.named
  have hlocks := B.notSynchronized
  have hinX6 : ∀ w ∈ u_ws RX6 TX6 21, w ∈ wsX6_isAhead := by decide +kernel
  have hl := lv_entry ([.ref (ad 0), .int (nI p), .int (nI o9)]) (n := 5) (Nat.le_of_ble_eq_true rfl)
  rw [lg_entry_eq]
  generalize (lg_sl ([.ref (ad 0), .int (nI p), .int (nI o9)]) ++ List.replicate (5 - (lg_sl ([.ref (ad 0), .int (nI p), .int (nI o9)])).length) Slot.unset).toArray = ls at hl ⊢
  have hl : lv_has ls 5 [(0, .ref (ad 0)), (1, .int (nI p)), (2, .int (nI o9))] := hl
  refine lv_iconst (v := nI 5) hx hb dX6_isAhead_0 (by decide) ?_
  refine lv_iload_n hx hb dX6_isAhead_1 rfl (lv_at hl 1 rfl) ?_
  refine lv_imul hx hb dX6_isAhead_2 ?_
  refine zz_top (y := nI (5 * p)) ((pk_mul 5 p).trans (congrArg nI (by first | rfl | omega | exact Nat.mul_comm _ _))) ?_
  refine lv_iconst (v := nI 3) hx hb dX6_isAhead_3 (by decide) ?_
  refine lv_aload_n hx hb dX6_isAhead_4 rfl (lv_at hl 0 rfl) ?_
  refine va_get (D := D) (ci := 6) (v := .ref (ad 4)) (C := RX6) (T := TX6) (N := 21) hx hb hts hinX6 hown hK hP 0 rfl rfl 7 (by decide) (hts (.fieldLink RX6 23 "AuditoriumKeysModel" "cameAt" "[I") (List.mem_of_getElem? (i := 1) rfl)) (fun _ h9 => h9) rfl dX6_isAhead_5 ?_
  refine lv_iload_n hx hb dX6_isAhead_8 rfl (lv_at hl 1 rfl) ?_
  refine zz_iald hx hb hK hP 4 0 rfl rfl p (by omega) (by decide) dX6_isAhead_9 ?_
  refine lv_imul hx hb dX6_isAhead_10 ?_
  refine lv_iadd hx hb dX6_isAhead_11 ?_
  refine lv_bipush (v := nI 8) hx hb dX6_isAhead_12 (by decide) ?_
  refine lv_irem hx hb dX6_isAhead_14 (by decide) ?_
  refine lv_istore_n (lv' := [(3, .int (((nI (5 * p)) + ((nI 3) * (K 4 p))) - ((nI (5 * p)) + ((nI 3) * (K 4 p))) / (nI 8) * (nI 8))), (0, .ref (ad 0)), (1, .int (nI p)), (2, .int (nI o9))]) hx hb dX6_isAhead_15 rfl hl (by decide) rfl (fun ls hl => ?_)
  refine lv_iconst (v := nI 5) hx hb dX6_isAhead_16 (by decide) ?_
  refine lv_iload_n hx hb dX6_isAhead_17 rfl (lv_at hl 3 rfl) ?_
  refine lv_imul hx hb dX6_isAhead_18 ?_
  refine zz_top (y := nI (5 * o9)) ((pk_mul 5 o9).trans (congrArg nI (by first | rfl | omega | exact Nat.mul_comm _ _))) ?_
  refine lv_iconst (v := nI 3) hx hb dX6_isAhead_19 (by decide) ?_
  refine lv_aload_n hx hb dX6_isAhead_20 rfl (lv_at hl 1 rfl) ?_
  refine va_get (D := D) (ci := 6) (v := .ref (ad 4)) (C := RX6) (T := TX6) (N := 21) hx hb hts hinX6 hown hK hP 0 rfl rfl 7 (by decide) (hts (.fieldLink RX6 23 "AuditoriumKeysModel" "cameAt" "[I") (List.mem_of_getElem? (i := 1) rfl)) (fun _ h9 => h9) rfl dX6_isAhead_21 ?_
  refine lv_iload_n hx hb dX6_isAhead_24 rfl (lv_at hl 3 rfl) ?_
  refine zz_iald hx hb hK hP 4 0 rfl rfl o9 (by omega) (by decide) dX6_isAhead_25 ?_
  refine lv_imul hx hb dX6_isAhead_26 ?_
  refine lv_iadd hx hb dX6_isAhead_27 ?_
  refine lv_bipush (v := nI 8) hx hb dX6_isAhead_28 (by decide) ?_
  refine lv_irem hx hb dX6_isAhead_30 (by decide) ?_
  refine lv_istore (lv' := [(4, .int (((nI (5 * o9)) + ((nI 3) * (K 4 o9))) - ((nI (5 * o9)) + ((nI 3) * (K 4 o9))) / (nI 8) * (nI 8))), (3, .int (((nI (5 * p)) + ((nI 3) * (K 4 p))) - ((nI (5 * p)) + ((nI 3) * (K 4 p))) / (nI 8) * (nI 8))), (0, .ref (ad 0)), (1, .int (nI p)), (2, .int (nI o9))]) hx hb dX6_isAhead_31 hl (by decide) rfl (fun ls hl => ?_)
  refine lv_aload_n hx hb dX6_isAhead_33 rfl (lv_at hl 2 rfl) ?_
  refine va_get (D := D) (ci := 6) (v := .ref (ad 4)) (C := RX6) (T := TX6) (N := 21) hx hb hts hinX6 hown hK hP 0 rfl rfl 7 (by decide) (hts (.fieldLink RX6 23 "AuditoriumKeysModel" "cameAt" "[I") (List.mem_of_getElem? (i := 1) rfl)) (fun _ h9 => h9) rfl dX6_isAhead_34 ?_
  refine lv_iload_n hx hb dX6_isAhead_37 rfl (lv_at hl 3 rfl) ?_
  refine zz_iald hx hb hK hP 4 0 rfl rfl p (by omega) (by decide) dX6_isAhead_38 ?_
  refine lv_aload_n hx hb dX6_isAhead_39 rfl (lv_at hl 2 rfl) ?_
  refine va_get (D := D) (ci := 6) (v := .ref (ad 4)) (C := RX6) (T := TX6) (N := 21) hx hb hts hinX6 hown hK hP 0 rfl rfl 7 (by decide) (hts (.fieldLink RX6 23 "AuditoriumKeysModel" "cameAt" "[I") (List.mem_of_getElem? (i := 1) rfl)) (fun _ h9 => h9) rfl dX6_isAhead_40 ?_
  refine lv_iload_n hx hb dX6_isAhead_43 rfl (lv_at hl 4 rfl) ?_
  refine zz_iald hx hb hK hP 4 0 rfl rfl o9 (by omega) (by decide) dX6_isAhead_44 ?_
  refine lv_icmp_lt (tgt := 69) hx hb dX6_isAhead_45 (by decide) (fun c_1 => ?_) (fun c_1 => ?_)
  · skip
    have c_1 : K 4 p < K 4 o9 := c_1
    refine lv_iconst (v := nI 1) hx hb dX6_isAhead_69 (by decide) ?_
    refine lv_goto (tgt := 74) hx hb dX6_isAhead_70 (by decide) ?_
    exact W.zret (v := nI 1) hx hb hr rfl (fun t ht hW => ⟨_, rfl, (by simp [mAhead, mDraw, zb, c_1]), ht⟩) (fun _ h => nomatch h) dX6_isAhead_74
  · skip
    have c_1 : ¬ K 4 p < K 4 o9 := c_1
    refine lv_aload_n hx hb dX6_isAhead_48 rfl (lv_at hl 2 rfl) ?_
    refine va_get (D := D) (ci := 6) (v := .ref (ad 4)) (C := RX6) (T := TX6) (N := 21) hx hb hts hinX6 hown hK hP 0 rfl rfl 7 (by decide) (hts (.fieldLink RX6 23 "AuditoriumKeysModel" "cameAt" "[I") (List.mem_of_getElem? (i := 1) rfl)) (fun _ h9 => h9) rfl dX6_isAhead_49 ?_
    refine lv_iload_n hx hb dX6_isAhead_52 rfl (lv_at hl 3 rfl) ?_
    refine zz_iald hx hb hK hP 4 0 rfl rfl p (by omega) (by decide) dX6_isAhead_53 ?_
    refine lv_aload_n hx hb dX6_isAhead_54 rfl (lv_at hl 2 rfl) ?_
    refine va_get (D := D) (ci := 6) (v := .ref (ad 4)) (C := RX6) (T := TX6) (N := 21) hx hb hts hinX6 hown hK hP 0 rfl rfl 7 (by decide) (hts (.fieldLink RX6 23 "AuditoriumKeysModel" "cameAt" "[I") (List.mem_of_getElem? (i := 1) rfl)) (fun _ h9 => h9) rfl dX6_isAhead_55 ?_
    refine lv_iload_n hx hb dX6_isAhead_58 rfl (lv_at hl 4 rfl) ?_
    refine zz_iald hx hb hK hP 4 0 rfl rfl o9 (by omega) (by decide) dX6_isAhead_59 ?_
    refine lv_icmp_ne (tgt := 73) hx hb dX6_isAhead_60 (by decide) (fun c_2 => ?_) (fun c_2 => ?_)
    · skip
      have c_2 : ¬ K 4 p = K 4 o9 := c_2
      refine lv_iconst (v := nI 0) hx hb dX6_isAhead_73 (by decide) ?_
      exact W.zret (v := nI 0) hx hb hr rfl (fun t ht hW => ⟨_, rfl, (by simp [mAhead, mDraw, zb, c_1, c_2]), ht⟩) (fun _ h => nomatch h) dX6_isAhead_74
    · skip
      have c_2 : K 4 p = K 4 o9 := c_2
      refine lv_iload_n hx hb dX6_isAhead_63 rfl (lv_at hl 1 rfl) ?_
      refine lv_iload hx hb dX6_isAhead_64 (lv_at hl 0 rfl) ?_
      refine lv_icmp_ge (tgt := 73) hx hb dX6_isAhead_66 (by decide) (fun c_3 => ?_) (fun c_3 => ?_)
      · skip
        have c_3 : ((nI (5 * o9)) + ((nI 3) * (K 4 o9))) - ((nI (5 * o9)) + ((nI 3) * (K 4 o9))) / (nI 8) * (nI 8) ≤ ((nI (5 * p)) + ((nI 3) * (K 4 p))) - ((nI (5 * p)) + ((nI 3) * (K 4 p))) / (nI 8) * (nI 8) := c_3
        refine lv_iconst (v := nI 0) hx hb dX6_isAhead_73 (by decide) ?_
        exact W.zret (v := nI 0) hx hb hr rfl (fun t ht hW => ⟨_, rfl, (by simp [mAhead, mDraw, zb, c_1, eq_true c_2, c_3]), ht⟩) (fun _ h => nomatch h) dX6_isAhead_74
      · skip
        have c_3 : ¬ ((nI (5 * o9)) + ((nI 3) * (K 4 o9))) - ((nI (5 * o9)) + ((nI 3) * (K 4 o9))) / (nI 8) * (nI 8) ≤ ((nI (5 * p)) + ((nI 3) * (K 4 p))) - ((nI (5 * p)) + ((nI 3) * (K 4 p))) / (nI 8) * (nI 8) := c_3
        refine lv_iconst (v := nI 1) hx hb dX6_isAhead_69 (by decide) ?_
        refine lv_goto (tgt := 74) hx hb dX6_isAhead_70 (by decide) ?_
        exact W.zret (v := nI 1) hx hb hr rfl (fun t ht hW => ⟨_, rfl, (by simp [mAhead, mDraw, zb, c_1, eq_true c_2, c_3]), ht⟩) (fun _ h => nomatch h) dX6_isAhead_74
set_option maxHeartbeats 4000000 in
set_option maxRecDepth 100000 in
theorem kX6_placeAt (l : Launch) (D : va_G) (cI cZ : ClassId) (ad : Nat → Nat) (K : kS) (x : Int32)  : Met l yX6_placeAt wsX6_placeAt ({ frames := 1, cells := 0, slots := 0, locals := 24 }) (va_Pc [.ref (ad 0), .int x] (zRd D (zTy cI cZ) (mwA ad cI cZ K))) (vp_Si (fun r => r = mAt K x)) 0 0 (fun _ => False) := by
  refine Met.ofW (cc := cX6_placeAt) (maxL := 5) (ret := (some .int)) (by decide) rfl ?_
  intro pP e s m args below meth c s₁ B hml hv
  obtain ⟨rfl, hP, hK⟩ := hv
  have hx := B.exec
  have hb := B.bytes
  have hr := B.returns
  have hts := atoms_spec (ws := wsX6_placeAt) B.pre
  have hown : s.vm.findClass RX6 = some m.cls := findClass_of_methodNamed B.named
  have hlocks := B.notSynchronized
  have hinX6 : ∀ w ∈ u_ws RX6 TX6 21, w ∈ wsX6_placeAt := by decide +kernel
  have hl := lv_entry ([.ref (ad 0), .int x]) (n := 5) (Nat.le_of_ble_eq_true rfl)
  rw [lg_entry_eq]
  generalize (lg_sl ([.ref (ad 0), .int x]) ++ List.replicate (5 - (lg_sl ([.ref (ad 0), .int x])).length) Slot.unset).toArray = ls at hl ⊢
  have hl : lv_has ls 5 [(0, .ref (ad 0)), (1, .int x)] := hl
  refine lv_iconst (v := nI 0) hx hb dX6_placeAt_0 (by decide) ?_
  refine lv_istore_n (lv' := [(2, .int (nI 0)), (0, .ref (ad 0)), (1, .int x)]) hx hb dX6_placeAt_1 rfl hl (by decide) rfl (fun ls hl => ?_)
  have lp_a : ∀ (n i : Nat), 0 ≤ i → i ≤ 8 → 8 - i < n → (∀ j, j < i → (decide (¬ K 4 j = (-1)) && decide (nI (mPlace K j) = x)) = false) → ∀ ls : Array Slot, lv_has ls 5 [(2, .int (nI i)), (0, .ref (ad 0)), (1, .int x)] → W pP l e ({ frames := 1, cells := 0, slots := 0, locals := 24 } : Room) s m ([.ref (ad 0), .int x] : List Value).toArray below meth c s.heap [] 0 0 (MQ below (vp_Si (fun r => r = mAt K x)) ([.ref (ad 0), .int x] : List Value).toArray s 0 0 (fun _ => False)) (F0 m 2 ls []) := by
    intro n
    induction n with
    | zero => intro i _ _ h; exact absurd h (Nat.not_lt_zero _)
    | succ n ih_a =>
      intro i hlo_a hin_a hdn_a hno ls hl
      refine lv_iload_n hx hb dX6_placeAt_2 rfl (lv_at hl 0 rfl) ?_
      refine lv_bipush (v := nI 8) hx hb dX6_placeAt_3 (by decide) ?_
      refine lv_icmp_ge (tgt := 78) hx hb dX6_placeAt_5 (by decide) (fun c_1 => ?_) (fun c_1 => ?_)
      · skip
        have c_1 := (nI_leI (a := 8) (b := i) (by omega) (by omega)).mp c_1
        have hi8 : i = 8 := by omega
        refine lv_iconst (v := (-1)) hx hb dX6_placeAt_78 (by decide) ?_
        exact W.iret (v := (-1)) hx hb hr (fun t ht hW => ⟨_, rfl, (by rw [hi8] at hno; exact (zfind_no hno).symm), ht⟩) (fun _ h => nomatch h) dX6_placeAt_79
      · skip
        have c_1 : ¬ 8 ≤ i := fun h => c_1 ((nI_leI (a := 8) (b := i) (by omega) (by omega)).mpr h)
        refine lv_iconst (v := nI 0) hx hb dX6_placeAt_8 (by decide) ?_
        refine lv_istore_n (lv' := [(3, .int (nI 0)), (2, .int (nI i)), (0, .ref (ad 0)), (1, .int x)]) hx hb dX6_placeAt_9 rfl hl (by decide) rfl (fun ls hl => ?_)
        refine lv_iconst (v := nI 0) hx hb dX6_placeAt_10 (by decide) ?_
        refine lv_istore (lv' := [(4, .int (nI 0)), (3, .int (nI 0)), (2, .int (nI i)), (0, .ref (ad 0)), (1, .int x)]) hx hb dX6_placeAt_11 hl (by decide) rfl (fun ls hl => ?_)
        have lp_b : ∀ (n j : Nat), 0 ≤ j → j ≤ 8 → 8 - j < n → ∀ ls : Array Slot, lv_has ls 5 [(4, .int (nI j)), (3, .int (nI (zcnt (fun q => decide (¬ K 4 q = (-1)) && mAhead K q i) j))), (2, .int (nI i)), (0, .ref (ad 0)), (1, .int x)] → W pP l e ({ frames := 1, cells := 0, slots := 0, locals := 24 } : Room) s m ([.ref (ad 0), .int x] : List Value).toArray below meth c s.heap [] 0 0 (MQ below (vp_Si (fun r => r = mAt K x)) ([.ref (ad 0), .int x] : List Value).toArray s 0 0 (fun _ => False)) (F0 m 13 ls []) := by
          intro n
          induction n with
          | zero => intro j _ _ h; exact absurd h (Nat.not_lt_zero _)
          | succ n ih_b =>
            intro j hlo_b hin_b hdn_b  ls hl
            refine lv_iload hx hb dX6_placeAt_13 (lv_at hl 0 rfl) ?_
            refine lv_bipush (v := nI 8) hx hb dX6_placeAt_15 (by decide) ?_
            refine lv_icmp_ge (tgt := 55) hx hb dX6_placeAt_17 (by decide) (fun c_2 => ?_) (fun c_2 => ?_)
            · skip
              have c_2 := (nI_leI (a := 8) (b := j) (by omega) (by omega)).mp c_2
              have hj8 : j = 8 := by omega
              subst hj8
              refine lv_aload_n hx hb dX6_placeAt_55 rfl (lv_at hl 3 rfl) ?_
              refine va_get (D := D) (ci := 6) (v := .ref (ad 4)) (C := RX6) (T := TX6) (N := 21) hx hb hts hinX6 hown hK hP 0 rfl rfl 7 (by decide) (hts (.fieldLink RX6 23 "AuditoriumKeysModel" "cameAt" "[I") (List.mem_of_getElem? (i := 1) rfl)) (fun _ h9 => h9) rfl dX6_placeAt_56 ?_
              refine lv_iload_n hx hb dX6_placeAt_59 rfl (lv_at hl 2 rfl) ?_
              refine zz_iald hx hb hK hP 4 0 rfl rfl i (by omega) (by decide) dX6_placeAt_60 ?_
              refine lv_iconst (v := (-1)) hx hb dX6_placeAt_61 (by decide) ?_
              refine lv_icmp_eq (tgt := 72) hx hb dX6_placeAt_62 (by decide) (fun c_3 => ?_) (fun c_3 => ?_)
              · skip
                have c_3 : K 4 i = (-1) := c_3
                refine lv_iinc (v := nI (i + 1)) (lv' := [(2, .int (nI (i + 1))), (4, .int (nI 8)), (3, .int (nI (zcnt (fun q => decide (¬ K 4 q = (-1)) && mAhead K q i) 8))), (0, .ref (ad 0)), (1, .int x)]) hx hb dX6_placeAt_72 hl (k := 2) rfl ((show nI i + Int32.ofInt 1 = nI i + nI 1 from rfl).trans (nI_add _ _)) (by decide) rfl (fun ls hl => ?_)
                refine lv_goto (tgt := 2) hx hb dX6_placeAt_75 (by decide) ?_
                exact ih_a (i + 1) (by omega) (by omega) (by omega) (lt_succ_all hno (by simp [c_1, c_2, eq_true c_3])) ls (lv_sub hl [0, 3, 4] rfl)
              · skip
                have c_3 : ¬ K 4 i = (-1) := c_3
                refine lv_iload_n hx hb dX6_placeAt_65 rfl (lv_at hl 1 rfl) ?_
                refine lv_iload_n hx hb dX6_placeAt_66 rfl (lv_at hl 4 rfl) ?_
                refine lv_icmp_ne (tgt := 72) hx hb dX6_placeAt_67 (by decide) (fun c_4 => ?_) (fun c_4 => ?_)
                · skip
                  have c_4 : ¬ nI (zcnt (fun q => decide (¬ K 4 q = (-1)) && mAhead K q i) 8) = x := c_4
                  have c_4 : ¬ nI (mPlace K i) = x := c_4
                  refine lv_iinc (v := nI (i + 1)) (lv' := [(2, .int (nI (i + 1))), (4, .int (nI 8)), (3, .int (nI (zcnt (fun q => decide (¬ K 4 q = (-1)) && mAhead K q i) 8))), (0, .ref (ad 0)), (1, .int x)]) hx hb dX6_placeAt_72 hl (k := 2) rfl ((show nI i + Int32.ofInt 1 = nI i + nI 1 from rfl).trans (nI_add _ _)) (by decide) rfl (fun ls hl => ?_)
                  refine lv_goto (tgt := 2) hx hb dX6_placeAt_75 (by decide) ?_
                  exact ih_a (i + 1) (by omega) (by omega) (by omega) (lt_succ_all hno (by simp [c_1, c_2, c_3, c_4])) ls (lv_sub hl [0, 3, 4] rfl)
                · skip
                  have c_4 : nI (zcnt (fun q => decide (¬ K 4 q = (-1)) && mAhead K q i) 8) = x := c_4
                  have c_4 : nI (mPlace K i) = x := c_4
                  refine lv_iload_n hx hb dX6_placeAt_70 rfl (lv_at hl 2 rfl) ?_
                  exact W.iret (v := nI i) hx hb hr (fun t ht hW => ⟨_, rfl, (zfind_at (by omega) hno (by simp [c_1, c_2, c_3, eq_true c_4])).symm, ht⟩) (fun _ h => nomatch h) dX6_placeAt_71
            · skip
              have c_2 : ¬ 8 ≤ j := fun h => c_2 ((nI_leI (a := 8) (b := j) (by omega) (by omega)).mpr h)
              refine lv_iload_n hx hb dX6_placeAt_20 rfl (lv_at hl 1 rfl) ?_
              refine lv_aload_n hx hb dX6_placeAt_21 rfl (lv_at hl 3 rfl) ?_
              refine va_get (D := D) (ci := 6) (v := .ref (ad 4)) (C := RX6) (T := TX6) (N := 21) hx hb hts hinX6 hown hK hP 0 rfl rfl 7 (by decide) (hts (.fieldLink RX6 23 "AuditoriumKeysModel" "cameAt" "[I") (List.mem_of_getElem? (i := 1) rfl)) (fun _ h9 => h9) rfl dX6_placeAt_22 ?_
              refine lv_iload hx hb dX6_placeAt_25 (lv_at hl 0 rfl) ?_
              refine zz_iald hx hb hK hP 4 0 rfl rfl j (by omega) (by decide) dX6_placeAt_27 ?_
              refine lv_iconst (v := (-1)) hx hb dX6_placeAt_28 (by decide) ?_
              refine lv_icmp_eq (tgt := 46) hx hb dX6_placeAt_29 (by decide) (fun c_5 => ?_) (fun c_5 => ?_)
              · skip
                have c_5 : K 4 j = (-1) := c_5
                refine lv_iconst (v := nI 0) hx hb dX6_placeAt_46 (by decide) ?_
                refine lv_iadd hx hb dX6_placeAt_47 ?_
                refine zz_top (y := nI (zcnt (fun q => decide (¬ K 4 q = (-1)) && mAhead K q i) j)) ((nI_add (zcnt (fun q => decide (¬ K 4 q = (-1)) && mAhead K q i) j) 0).trans (congrArg nI (by omega))) ?_
                refine lv_istore_n (lv' := [(3, .int (nI (zcnt (fun q => decide (¬ K 4 q = (-1)) && mAhead K q i) j))), (4, .int (nI j)), (2, .int (nI i)), (0, .ref (ad 0)), (1, .int x)]) hx hb dX6_placeAt_48 rfl hl (by decide) rfl (fun ls hl => ?_)
                refine lv_iinc (v := nI (j + 1)) (lv' := [(4, .int (nI (j + 1))), (3, .int (nI (zcnt (fun q => decide (¬ K 4 q = (-1)) && mAhead K q i) j))), (2, .int (nI i)), (0, .ref (ad 0)), (1, .int x)]) hx hb dX6_placeAt_49 hl (k := 1) rfl ((show nI j + Int32.ofInt 1 = nI j + nI 1 from rfl).trans (nI_add _ _)) (by decide) rfl (fun ls hl => ?_)
                refine lv_goto (tgt := 13) hx hb dX6_placeAt_52 (by decide) ?_
                have es_6 : nI (zcnt (fun q => decide (¬ K 4 q = (-1)) && mAhead K q i) (j + 1)) = nI (zcnt (fun q => decide (¬ K 4 q = (-1)) && mAhead K q i) j) := (by simp [zcnt, c_2, eq_true c_5])
                exact ih_b (j + 1) (by omega) (by omega) (by omega)  ls (by rw [es_6]; exact lv_sub hl [0, 1, 2, 3, 4] rfl)
              · skip
                have c_5 : ¬ K 4 j = (-1) := c_5
                refine lv_aload_n hx hb dX6_placeAt_32 rfl (lv_at hl 3 rfl) ?_
                refine lv_iload hx hb dX6_placeAt_33 (lv_at hl 0 rfl) ?_
                refine lv_iload_n hx hb dX6_placeAt_35 rfl (lv_at hl 2 rfl) ?_
                refine zc_rV (As := [.int (nI j), .int (nI i)]) (rest := [.int (nI (zcnt (fun q => decide (¬ K 4 q = (-1)) && mAhead K q i) j))]) ⟨hx, hb, hml, hown, hts⟩ (kX6_isAhead l D cI cZ ad K j i (by omega) (by omega)) (cwV 2 hts gX6_placeAt_X6_isAhead rfl rfl rfl (by decide +kernel) ⟨(Nat.le_of_ble_eq_true rfl), (Nat.le_of_ble_eq_true rfl)⟩) hK hP (ci := 6) (q0 := 0) rfl rfl rfl rfl hl.1 rfl (Nat.le_of_ble_eq_true rfl) dX6_placeAt_36 ⟨Nat.zero_le _, Nat.zero_le _⟩ ?_
                refine lv_if_eq (tgt := 46) hx hb dX6_placeAt_39 (by decide) (fun c_7 => ?_) (fun c_7 => ?_)
                · skip
                  have c_7 := zb_f c_7
                  refine lv_iconst (v := nI 0) hx hb dX6_placeAt_46 (by decide) ?_
                  refine lv_iadd hx hb dX6_placeAt_47 ?_
                  refine zz_top (y := nI (zcnt (fun q => decide (¬ K 4 q = (-1)) && mAhead K q i) j)) ((nI_add (zcnt (fun q => decide (¬ K 4 q = (-1)) && mAhead K q i) j) 0).trans (congrArg nI (by omega))) ?_
                  refine lv_istore_n (lv' := [(3, .int (nI (zcnt (fun q => decide (¬ K 4 q = (-1)) && mAhead K q i) j))), (4, .int (nI j)), (2, .int (nI i)), (0, .ref (ad 0)), (1, .int x)]) hx hb dX6_placeAt_48 rfl hl (by decide) rfl (fun ls hl => ?_)
                  refine lv_iinc (v := nI (j + 1)) (lv' := [(4, .int (nI (j + 1))), (3, .int (nI (zcnt (fun q => decide (¬ K 4 q = (-1)) && mAhead K q i) j))), (2, .int (nI i)), (0, .ref (ad 0)), (1, .int x)]) hx hb dX6_placeAt_49 hl (k := 1) rfl ((show nI j + Int32.ofInt 1 = nI j + nI 1 from rfl).trans (nI_add _ _)) (by decide) rfl (fun ls hl => ?_)
                  refine lv_goto (tgt := 13) hx hb dX6_placeAt_52 (by decide) ?_
                  have es_8 : nI (zcnt (fun q => decide (¬ K 4 q = (-1)) && mAhead K q i) (j + 1)) = nI (zcnt (fun q => decide (¬ K 4 q = (-1)) && mAhead K q i) j) := (by simp [zcnt, c_2, c_5, c_7])
                  exact ih_b (j + 1) (by omega) (by omega) (by omega)  ls (by rw [es_8]; exact lv_sub hl [0, 1, 2, 3, 4] rfl)
                · skip
                  have c_7 := zb_t c_7
                  refine lv_iconst (v := nI 1) hx hb dX6_placeAt_42 (by decide) ?_
                  refine lv_goto (tgt := 47) hx hb dX6_placeAt_43 (by decide) ?_
                  refine lv_iadd hx hb dX6_placeAt_47 ?_
                  refine zz_top (y := nI ((zcnt (fun q => decide (¬ K 4 q = (-1)) && mAhead K q i) j) + 1)) ((nI_add (zcnt (fun q => decide (¬ K 4 q = (-1)) && mAhead K q i) j) 1).trans (congrArg nI (by omega))) ?_
                  refine lv_istore_n (lv' := [(3, .int (nI ((zcnt (fun q => decide (¬ K 4 q = (-1)) && mAhead K q i) j) + 1))), (4, .int (nI j)), (2, .int (nI i)), (0, .ref (ad 0)), (1, .int x)]) hx hb dX6_placeAt_48 rfl hl (by decide) rfl (fun ls hl => ?_)
                  refine lv_iinc (v := nI (j + 1)) (lv' := [(4, .int (nI (j + 1))), (3, .int (nI ((zcnt (fun q => decide (¬ K 4 q = (-1)) && mAhead K q i) j) + 1))), (2, .int (nI i)), (0, .ref (ad 0)), (1, .int x)]) hx hb dX6_placeAt_49 hl (k := 1) rfl ((show nI j + Int32.ofInt 1 = nI j + nI 1 from rfl).trans (nI_add _ _)) (by decide) rfl (fun ls hl => ?_)
                  refine lv_goto (tgt := 13) hx hb dX6_placeAt_52 (by decide) ?_
                  have es_9 : nI (zcnt (fun q => decide (¬ K 4 q = (-1)) && mAhead K q i) (j + 1)) = nI ((zcnt (fun q => decide (¬ K 4 q = (-1)) && mAhead K q i) j) + 1) := (by simp [zcnt, c_2, c_5, c_7])
                  exact ih_b (j + 1) (by omega) (by omega) (by omega)  ls (by rw [es_9]; exact lv_sub hl [0, 1, 2, 3, 4] rfl)
        have ei_b_3 : nI (zcnt (fun q => decide (¬ K 4 q = (-1)) && mAhead K q i) 0) = nI 0 := rfl
        exact lp_b (8 - 0 + 1) 0 (by omega) (by omega) (by omega)  ls (by rw [ei_b_3]; exact lv_sub hl [0, 1, 2, 3, 4] rfl)
  exact lp_a (8 - 0 + 1) 0 (by omega) (by omega) (by omega) (fun j hj => absurd hj (Nat.not_lt_zero j)) ls (lv_sub hl [0, 1, 2] rfl)
set_option maxHeartbeats 4000000 in
set_option maxRecDepth 100000 in
theorem kX6_servedNow (l : Launch) (D : va_G) (cI cZ : ClassId) (ad : Nat → Nat) (K : kS)   : Met l yX6_servedNow wsX6_servedNow ({ frames := 2, cells := 0, slots := 0, locals := 48 }) (va_Pc [.ref (ad 0)] (zRd D (zTy cI cZ) (mwA ad cI cZ K))) (vp_Si (fun r => r = mServed K)) 0 0 (fun _ => False) := by
  refine Met.ofW (cc := cX6_servedNow) (maxL := 2) (ret := (some .int)) (by decide) rfl ?_
  intro pP e s m args below meth c s₁ B hml hv
  obtain ⟨rfl, hP, hK⟩ := hv
  have hx := B.exec
  have hb := B.bytes
  have hr := B.returns
  have hts := atoms_spec (ws := wsX6_servedNow) B.pre
  have hown : s.vm.findClass RX6 = some m.cls := findClass_of_methodNamed B.named
  have hlocks := B.notSynchronized
  have hinX6 : ∀ w ∈ u_ws RX6 TX6 21, w ∈ wsX6_servedNow := by decide +kernel
  have hl := lv_entry ([.ref (ad 0)]) (n := 2) (Nat.le_of_ble_eq_true rfl)
  rw [lg_entry_eq]
  generalize (lg_sl ([.ref (ad 0)]) ++ List.replicate (2 - (lg_sl ([.ref (ad 0)])).length) Slot.unset).toArray = ls at hl ⊢
  have hl : lv_has ls 2 [(0, .ref (ad 0))] := hl
  refine lv_aload_n hx hb dX6_servedNow_0 rfl (lv_at hl 0 rfl) ?_
  refine lv_iconst (v := nI 0) hx hb dX6_servedNow_1 (by decide) ?_
  refine zc_rV (As := [.int (nI 0)]) (rest := []) ⟨hx, hb, hml, hown, hts⟩ (kX6_placeAt l D cI cZ ad K (nI 0) ) (cwV 1 hts gX6_servedNow_X6_placeAt rfl rfl rfl (by decide +kernel) ⟨(Nat.le_of_ble_eq_true rfl), (Nat.le_of_ble_eq_true rfl)⟩) hK hP (ci := 6) (q0 := 0) rfl rfl rfl rfl hl.1 rfl (Nat.le_of_ble_eq_true rfl) dX6_servedNow_2 ⟨Nat.zero_le _, Nat.zero_le _⟩ ?_
  refine lv_istore_n (lv' := [(1, .int (mAt K (nI 0))), (0, .ref (ad 0))]) hx hb dX6_servedNow_5 rfl hl (by decide) rfl (fun ls hl => ?_)
  refine lv_iload_n hx hb dX6_servedNow_6 rfl (lv_at hl 0 rfl) ?_
  refine lv_iconst (v := (-1)) hx hb dX6_servedNow_7 (by decide) ?_
  refine lv_icmp_eq (tgt := 28) hx hb dX6_servedNow_8 (by decide) (fun c_1 => ?_) (fun c_1 => ?_)
  · skip
    have c_1 : mAt K (nI 0) = (-1) := c_1
    refine lv_iconst (v := (-1)) hx hb dX6_servedNow_28 (by decide) ?_
    exact W.iret (v := (-1)) hx hb hr (fun t ht hW => ⟨_, rfl, (by simp [mServed, eq_true c_1]), ht⟩) (fun _ h => nomatch h) dX6_servedNow_29
  · skip
    have c_1 : ¬ mAt K (nI 0) = (-1) := c_1
    obtain ⟨q9, hq9, hq8, hq7, -⟩ := zfind_ex c_1
    have hq6 : mAt K (nI 0) = nI q9 := hq7
    have hq5 : (mAt K (nI 0)).toNatClampNeg = q9 := by rw [hq6]; exact nI_clamp (by omega)
    refine lv_aload_n hx hb dX6_servedNow_11 rfl (lv_at hl 1 rfl) ?_
    refine va_get (D := D) (ci := 6) (v := .ref (ad 4)) (C := RX6) (T := TX6) (N := 21) hx hb hts hinX6 hown hK hP 0 rfl rfl 7 (by decide) (hts (.fieldLink RX6 23 "AuditoriumKeysModel" "cameAt" "[I") (List.mem_of_getElem? (i := 1) rfl)) (fun _ h9 => h9) rfl dX6_servedNow_12 ?_
    refine lv_iload_n hx hb dX6_servedNow_15 rfl (lv_at hl 0 rfl) ?_
    refine zz_top (y := nI q9) hq6 ?_
    refine zz_iald hx hb hK hP 4 0 rfl rfl q9 (by omega) (by decide) dX6_servedNow_16 ?_
    refine lv_aload_n hx hb dX6_servedNow_17 rfl (lv_at hl 1 rfl) ?_
    refine va_get (D := D) (ci := 6) (v := .int (K 0 1)) (C := RX6) (T := TX6) (N := 21) hx hb hts hinX6 hown hK hP 0 rfl rfl 1 (by decide) (hts (.fieldLink RX6 80 "AuditoriumKeysModel" "time" "I") (List.mem_of_getElem? (i := 2) rfl)) (fun _ h9 => h9) rfl dX6_servedNow_18 ?_
    refine lv_icmp_ge (tgt := 28) hx hb dX6_servedNow_21 (by decide) (fun c_2 => ?_) (fun c_2 => ?_)
    · skip
      have c_2 : K 0 1 ≤ K 4 q9 := c_2
      refine lv_iconst (v := (-1)) hx hb dX6_servedNow_28 (by decide) ?_
      exact W.iret (v := (-1)) hx hb hr (fun t ht hW => ⟨_, rfl, (by unfold mServed; rw [if_neg c_1, hq5]; simp [c_2]), ht⟩) (fun _ h => nomatch h) dX6_servedNow_29
    · skip
      have c_2 : ¬ K 0 1 ≤ K 4 q9 := c_2
      refine lv_iload_n hx hb dX6_servedNow_24 rfl (lv_at hl 0 rfl) ?_
      refine lv_goto (tgt := 29) hx hb dX6_servedNow_25 (by decide) ?_
      exact W.iret (v := mAt K (nI 0)) hx hb hr (fun t ht hW => ⟨_, rfl, (by unfold mServed; rw [if_neg c_1, hq5]; simp [c_2]), ht⟩) (fun _ h => nomatch h) dX6_servedNow_29
set_option maxHeartbeats 4000000 in
set_option maxRecDepth 100000 in
theorem kX6_areOpen (l : Launch) (D : va_G) (cI cZ : ClassId) (ad : Nat → Nat) (K : kS) (a9 : Int32) (f9 : Nat) (m9 : Nat) (hf9 : f9 + m9 ≤ 60) : Met l yX6_areOpen wsX6_areOpen ({ frames := 3, cells := 0, slots := 0, locals := 66 }) (va_Pc [.ref (ad 0), .int a9, .int (nI f9), .int (nI m9)] (zRd D (zTy cI cZ) (mwA ad cI cZ K))) (vp_Si (fun r => r = zb (mAreUp K a9 f9 m9))) 0 0 (fun _ => False) := by
  refine Met.ofW (cc := cX6_areOpen) (maxL := 6) (ret := (some .boolean)) (by decide) rfl ?_
  intro pP e s m args below meth c s₁ B hml hv
  obtain ⟨rfl, hP, hK⟩ := hv
  have hx := B.exec
  have hb := B.bytes
  have hr := B.returns
  have hts := atoms_spec (ws := wsX6_areOpen) B.pre
  have hown : s.vm.findClass RX6 = some m.cls := findClass_of_methodNamed B.named
  have hlocks := B.notSynchronized
  have hinX6 : ∀ w ∈ u_ws RX6 TX6 21, w ∈ wsX6_areOpen := by decide +kernel
  have hl := lv_entry ([.ref (ad 0), .int a9, .int (nI f9), .int (nI m9)]) (n := 6) (Nat.le_of_ble_eq_true rfl)
  rw [lg_entry_eq]
  generalize (lg_sl ([.ref (ad 0), .int a9, .int (nI f9), .int (nI m9)]) ++ List.replicate (6 - (lg_sl ([.ref (ad 0), .int a9, .int (nI f9), .int (nI m9)])).length) Slot.unset).toArray = ls at hl ⊢
  have hl : lv_has ls 6 [(0, .ref (ad 0)), (1, .int a9), (2, .int (nI f9)), (3, .int (nI m9))] := hl
  refine lv_iconst (v := nI 1) hx hb dX6_areOpen_0 (by decide) ?_
  refine lv_istore (lv' := [(4, .int (nI 1)), (0, .ref (ad 0)), (1, .int a9), (2, .int (nI f9)), (3, .int (nI m9))]) hx hb dX6_areOpen_1 hl (by decide) rfl (fun ls hl => ?_)
  refine lv_iload_n hx hb dX6_areOpen_3 rfl (lv_at hl 3 rfl) ?_
  refine lv_istore (lv' := [(5, .int (nI f9)), (4, .int (nI 1)), (0, .ref (ad 0)), (1, .int a9), (2, .int (nI f9)), (3, .int (nI m9))]) hx hb dX6_areOpen_4 hl (by decide) rfl (fun ls hl => ?_)
  have lp_a : ∀ (n k : Nat), 0 ≤ k → k ≤ m9 → m9 - k < n → ∀ ls : Array Slot, lv_has ls 6 [(5, .int (nI (f9 + k))), (4, .int (zb (mAreUp K a9 f9 k))), (0, .ref (ad 0)), (1, .int a9), (2, .int (nI f9)), (3, .int (nI m9))] → W pP l e ({ frames := 3, cells := 0, slots := 0, locals := 66 } : Room) s m ([.ref (ad 0), .int a9, .int (nI f9), .int (nI m9)] : List Value).toArray below meth c s.heap [] 0 0 (MQ below (vp_Si (fun r => r = zb (mAreUp K a9 f9 m9))) ([.ref (ad 0), .int a9, .int (nI f9), .int (nI m9)] : List Value).toArray s 0 0 (fun _ => False)) (F0 m 6 ls []) := by
    intro n
    induction n with
    | zero => intro k _ _ h; exact absurd h (Nat.not_lt_zero _)
    | succ n ih_a =>
      intro k hlo_a hin_a hdn_a  ls hl
      refine lv_iload hx hb dX6_areOpen_6 (lv_at hl 0 rfl) ?_
      refine lv_iload_n hx hb dX6_areOpen_8 rfl (lv_at hl 4 rfl) ?_
      refine lv_iload_n hx hb dX6_areOpen_9 rfl (lv_at hl 5 rfl) ?_
      refine lv_iadd hx hb dX6_areOpen_10 ?_
      refine zz_top (y := nI (f9 + m9)) ((nI_add f9 m9).trans (congrArg nI (by omega))) ?_
      refine lv_icmp_ge (tgt := 52) hx hb dX6_areOpen_11 (by decide) (fun c_1 => ?_) (fun c_1 => ?_)
      · skip
        have c_1 := (nI_leI (a := (f9 + m9)) (b := (f9 + k)) (by omega) (by omega)).mp c_1
        have hk8 : k = m9 := by omega
        refine lv_iload hx hb dX6_areOpen_52 (lv_at hl 1 rfl) ?_
        exact W.zret (v := zb (mAreUp K a9 f9 k)) hx hb hr (zb_nar _) (fun t ht hW => ⟨_, rfl, (by rw [hk8]), ht⟩) (fun _ h => nomatch h) dX6_areOpen_54
      · skip
        have c_1 : ¬ (f9 + m9) ≤ (f9 + k) := fun h => c_1 ((nI_leI (a := (f9 + m9)) (b := (f9 + k)) (by omega) (by omega)).mpr h)
        refine lv_iload hx hb dX6_areOpen_14 (lv_at hl 1 rfl) ?_
        refine lv_if_eq (tgt := 43) hx hb dX6_areOpen_16 (by decide) (fun c_2 => ?_) (fun c_2 => ?_)
        · skip
          have c_2 := zb_f c_2
          refine lv_iconst (v := nI 0) hx hb dX6_areOpen_43 (by decide) ?_
          refine lv_istore (lv' := [(4, .int (nI 0)), (5, .int (nI (f9 + k))), (0, .ref (ad 0)), (1, .int a9), (2, .int (nI f9)), (3, .int (nI m9))]) hx hb dX6_areOpen_44 hl (by decide) rfl (fun ls hl => ?_)
          refine lv_iinc (v := nI ((f9 + k) + 1)) (lv' := [(5, .int (nI ((f9 + k) + 1))), (4, .int (nI 0)), (0, .ref (ad 0)), (1, .int a9), (2, .int (nI f9)), (3, .int (nI m9))]) hx hb dX6_areOpen_46 hl (k := 1) rfl ((show nI (f9 + k) + Int32.ofInt 1 = nI (f9 + k) + nI 1 from rfl).trans (nI_add _ _)) (by decide) rfl (fun ls hl => ?_)
          refine lv_goto (tgt := 6) hx hb dX6_areOpen_49 (by decide) ?_
          have es_3 : zb (mAreUp K a9 f9 (k + 1)) = nI 0 := (by simp [mAreUp, zb, c_1, c_2])
          exact ih_a (k + 1) (by omega) (by omega) (by omega)  ls (by rw [es_3]; exact lv_sub hl [0, 1, 2, 3, 4, 5] rfl)
        · skip
          have c_2 := zb_t c_2
          refine lv_aload_n hx hb dX6_areOpen_19 rfl (lv_at hl 2 rfl) ?_
          refine lv_iload hx hb dX6_areOpen_20 (lv_at hl 0 rfl) ?_
          refine zc_rV (As := [.int (nI (f9 + k))]) (rest := []) ⟨hx, hb, hml, hown, hts⟩ (kX6_isOpen l D cI cZ ad K (f9 + k) (by omega)) (cwV 1 hts gX6_areOpen_X6_isOpen rfl rfl rfl (by decide +kernel) ⟨(Nat.le_of_ble_eq_true rfl), (Nat.le_of_ble_eq_true rfl)⟩) hK hP (ci := 6) (q0 := 0) rfl rfl rfl rfl hl.1 rfl (Nat.le_of_ble_eq_true rfl) dX6_areOpen_22 ⟨Nat.zero_le _, Nat.zero_le _⟩ ?_
          refine lv_if_eq (tgt := 43) hx hb dX6_areOpen_25 (by decide) (fun c_4 => ?_) (fun c_4 => ?_)
          · skip
            have c_4 := zb_f c_4
            refine lv_iconst (v := nI 0) hx hb dX6_areOpen_43 (by decide) ?_
            refine lv_istore (lv' := [(4, .int (nI 0)), (5, .int (nI (f9 + k))), (0, .ref (ad 0)), (1, .int a9), (2, .int (nI f9)), (3, .int (nI m9))]) hx hb dX6_areOpen_44 hl (by decide) rfl (fun ls hl => ?_)
            refine lv_iinc (v := nI ((f9 + k) + 1)) (lv' := [(5, .int (nI ((f9 + k) + 1))), (4, .int (nI 0)), (0, .ref (ad 0)), (1, .int a9), (2, .int (nI f9)), (3, .int (nI m9))]) hx hb dX6_areOpen_46 hl (k := 1) rfl ((show nI (f9 + k) + Int32.ofInt 1 = nI (f9 + k) + nI 1 from rfl).trans (nI_add _ _)) (by decide) rfl (fun ls hl => ?_)
            refine lv_goto (tgt := 6) hx hb dX6_areOpen_49 (by decide) ?_
            have es_5 : zb (mAreUp K a9 f9 (k + 1)) = nI 0 := (by simp [mAreUp, zb, c_1, c_2, c_4])
            exact ih_a (k + 1) (by omega) (by omega) (by omega)  ls (by rw [es_5]; exact lv_sub hl [0, 1, 2, 3, 4, 5] rfl)
          · skip
            have c_4 := zb_t c_4
            refine lv_aload_n hx hb dX6_areOpen_28 rfl (lv_at hl 2 rfl) ?_
            refine va_get (D := D) (ci := 6) (v := .ref (ad 13)) (C := RX6) (T := TX6) (N := 21) hx hb hts hinX6 hown hK hP 0 rfl rfl 16 (by decide) (hts (.fieldLink RX6 50 "AuditoriumKeysModel" "owners" "[I") (List.mem_of_getElem? (i := 1) rfl)) (fun _ h9 => h9) rfl dX6_areOpen_29 ?_
            refine lv_iload hx hb dX6_areOpen_32 (lv_at hl 0 rfl) ?_
            refine zz_iald hx hb hK hP 13 0 rfl rfl (f9 + k) (by omega) (by decide) dX6_areOpen_34 ?_
            refine lv_iload_n hx hb dX6_areOpen_35 rfl (lv_at hl 3 rfl) ?_
            refine lv_icmp_eq (tgt := 43) hx hb dX6_areOpen_36 (by decide) (fun c_6 => ?_) (fun c_6 => ?_)
            · skip
              have c_6 : K 13 (f9 + k) = a9 := c_6
              refine lv_iconst (v := nI 0) hx hb dX6_areOpen_43 (by decide) ?_
              refine lv_istore (lv' := [(4, .int (nI 0)), (5, .int (nI (f9 + k))), (0, .ref (ad 0)), (1, .int a9), (2, .int (nI f9)), (3, .int (nI m9))]) hx hb dX6_areOpen_44 hl (by decide) rfl (fun ls hl => ?_)
              refine lv_iinc (v := nI ((f9 + k) + 1)) (lv' := [(5, .int (nI ((f9 + k) + 1))), (4, .int (nI 0)), (0, .ref (ad 0)), (1, .int a9), (2, .int (nI f9)), (3, .int (nI m9))]) hx hb dX6_areOpen_46 hl (k := 1) rfl ((show nI (f9 + k) + Int32.ofInt 1 = nI (f9 + k) + nI 1 from rfl).trans (nI_add _ _)) (by decide) rfl (fun ls hl => ?_)
              refine lv_goto (tgt := 6) hx hb dX6_areOpen_49 (by decide) ?_
              have es_7 : zb (mAreUp K a9 f9 (k + 1)) = nI 0 := (by simp [mAreUp, zb, c_1, c_2, c_4, eq_true c_6])
              exact ih_a (k + 1) (by omega) (by omega) (by omega)  ls (by rw [es_7]; exact lv_sub hl [0, 1, 2, 3, 4, 5] rfl)
            · skip
              have c_6 : ¬ K 13 (f9 + k) = a9 := c_6
              refine lv_iconst (v := nI 1) hx hb dX6_areOpen_39 (by decide) ?_
              refine lv_goto (tgt := 44) hx hb dX6_areOpen_40 (by decide) ?_
              refine lv_istore (lv' := [(4, .int (nI 1)), (5, .int (nI (f9 + k))), (0, .ref (ad 0)), (1, .int a9), (2, .int (nI f9)), (3, .int (nI m9))]) hx hb dX6_areOpen_44 hl (by decide) rfl (fun ls hl => ?_)
              refine lv_iinc (v := nI ((f9 + k) + 1)) (lv' := [(5, .int (nI ((f9 + k) + 1))), (4, .int (nI 1)), (0, .ref (ad 0)), (1, .int a9), (2, .int (nI f9)), (3, .int (nI m9))]) hx hb dX6_areOpen_46 hl (k := 1) rfl ((show nI (f9 + k) + Int32.ofInt 1 = nI (f9 + k) + nI 1 from rfl).trans (nI_add _ _)) (by decide) rfl (fun ls hl => ?_)
              refine lv_goto (tgt := 6) hx hb dX6_areOpen_49 (by decide) ?_
              have es_8 : zb (mAreUp K a9 f9 (k + 1)) = nI 1 := (by simp [mAreUp, zb, c_1, c_2, c_4, c_6])
              exact ih_a (k + 1) (by omega) (by omega) (by omega)  ls (by rw [es_8]; exact lv_sub hl [0, 1, 2, 3, 4, 5] rfl)
  have ei_a_4 : zb (mAreUp K a9 f9 0) = nI 1 := rfl
  exact lp_a (m9 - 0 + 1) 0 (by omega) (by omega) (by omega)  ls (by rw [ei_a_4]; exact lv_sub hl [0, 1, 2, 3, 4, 5] rfl)
set_option maxHeartbeats 4000000 in
set_option maxRecDepth 100000 in
theorem kX6_isWithin (l : Launch) (D : va_G) (cI cZ : ClassId) (ad : Nat → Nat) (K : kS) (c9 : Int32) (p : Nat) (m9 : Int32) (hp : p < 8) (hc9 : c9 = (-1) ∨ ∃ n, n < 10 ∧ c9 = nI n) : Met l yX6_isWithin wsX6_isWithin ({ frames := 1, cells := 0, slots := 0, locals := 23 }) (va_Pc [.ref (ad 0), .int c9, .int (nI p), .int m9] (zRd D (zTy cI cZ) (mwA ad cI cZ K))) (vp_Si (fun r => r = zb (mWithin K c9 p m9))) 0 0 (fun _ => False) := by
  refine Met.ofW (cc := cX6_isWithin) (maxL := 6) (ret := (some .boolean)) (by decide) rfl ?_
  intro pP e s m args below meth c s₁ B hml hv
  obtain ⟨rfl, hP, hK⟩ := hv
  have hx := B.exec
  have hb := B.bytes
  have hr := B.returns
  have hts := atoms_spec (ws := wsX6_isWithin) B.pre
  have hown : s.vm.findClass RX6 = some m.cls := findClass_of_methodNamed B.named
  have hlocks := B.notSynchronized
  have hinX6 : ∀ w ∈ u_ws RX6 TX6 21, w ∈ wsX6_isWithin := by decide +kernel
  have hl := lv_entry ([.ref (ad 0), .int c9, .int (nI p), .int m9]) (n := 6) (Nat.le_of_ble_eq_true rfl)
  rw [lg_entry_eq]
  generalize (lg_sl ([.ref (ad 0), .int c9, .int (nI p), .int m9]) ++ List.replicate (6 - (lg_sl ([.ref (ad 0), .int c9, .int (nI p), .int m9])).length) Slot.unset).toArray = ls at hl ⊢
  have hl : lv_has ls 6 [(0, .ref (ad 0)), (1, .int c9), (2, .int (nI p)), (3, .int m9)] := hl
  have hmt := zmate_lt p hp
  refine lv_iload_n hx hb dX6_isWithin_0 rfl (lv_at hl 1 rfl) ?_
  refine lv_iconst (v := (-1)) hx hb dX6_isWithin_1 (by decide) ?_
  refine lv_icmp_ne (tgt := 22) hx hb dX6_isWithin_2 (by decide) (fun c_1 => ?_) (fun c_1 => ?_)
  · skip
    have c_1 : ¬ c9 = (-1) := c_1
    obtain ⟨n9, hn9, hn8⟩ := hc9.resolve_left c_1
    have hn7 : c9.toNatClampNeg = n9 := by rw [hn8]; exact nI_clamp (by omega)
    have j37 : ∀ ls : Array Slot, lv_has ls 6 [(0, .ref (ad 0)), (1, .int c9), (2, .int (nI p)), (3, .int m9)] → W pP l e ({ frames := 1, cells := 0, slots := 0, locals := 23 } : Room) s m ([.ref (ad 0), .int c9, .int (nI p), .int m9] : List Value).toArray below meth c s.heap [] 0 0 (MQ below (vp_Si (fun r => r = zb (mWithin K c9 p m9))) ([.ref (ad 0), .int c9, .int (nI p), .int m9] : List Value).toArray s 0 0 (fun _ => False)) (F0 m 37 ls [.int (nI (zmate p))]) := by
      intro ls hl
      refine lv_istore (lv' := [(4, .int (nI (zmate p))), (0, .ref (ad 0)), (1, .int c9), (2, .int (nI p)), (3, .int m9)]) hx hb dX6_isWithin_37 hl (by decide) rfl (fun ls hl => ?_)
      refine lv_aload_n hx hb dX6_isWithin_39 rfl (lv_at hl 1 rfl) ?_
      refine lv_iload_n hx hb dX6_isWithin_40 rfl (lv_at hl 2 rfl) ?_
      refine zz_top (y := nI n9) hn8 ?_
      refine lv_iload_n hx hb dX6_isWithin_41 rfl (lv_at hl 3 rfl) ?_
      refine zc_rV (As := [.int (nI n9), .int (nI p)]) (rest := []) ⟨hx, hb, hml, hown, hts⟩ (kX6_usedBy l D cI cZ ad K n9 p (by omega) (by omega)) (cwV 2 hts gX6_isWithin_X6_usedBy rfl rfl rfl (by decide +kernel) ⟨(Nat.le_of_ble_eq_true rfl), (Nat.le_of_ble_eq_true rfl)⟩) hK hP (ci := 6) (q0 := 0) rfl rfl rfl rfl hl.1 rfl (Nat.le_of_ble_eq_true rfl) dX6_isWithin_42 ⟨Nat.zero_le _, Nat.zero_le _⟩ ?_
      refine lv_iload_n hx hb dX6_isWithin_45 rfl (lv_at hl 4 rfl) ?_
      refine lv_iadd hx hb dX6_isWithin_46 ?_
      refine lv_istore (lv' := [(5, .int ((mUsed K n9 p) + m9)), (4, .int (nI (zmate p))), (0, .ref (ad 0)), (1, .int c9), (2, .int (nI p)), (3, .int m9)]) hx hb dX6_isWithin_47 hl (by decide) rfl (fun ls hl => ?_)
      refine lv_iload hx hb dX6_isWithin_49 (lv_at hl 0 rfl) ?_
      refine lv_aload_n hx hb dX6_isWithin_51 rfl (lv_at hl 2 rfl) ?_
      refine va_get (D := D) (ci := 6) (v := .ref (ad 1)) (C := RX6) (T := TX6) (N := 21) hx hb hts hinX6 hown hK hP 0 rfl rfl 4 (by decide) (hts (.fieldLink RX6 13 "AuditoriumKeysModel" "ofPerson" "[I") (List.mem_of_getElem? (i := 3) rfl)) (fun _ h9 => h9) rfl dX6_isWithin_52 ?_
      refine lv_iload_n hx hb dX6_isWithin_55 rfl (lv_at hl 3 rfl) ?_
      refine zz_top (y := nI n9) hn8 ?_
      refine zz_iald hx hb hK hP 1 0 rfl rfl n9 (by omega) (by decide) dX6_isWithin_56 ?_
      refine lv_icmp_gt (tgt := 83) hx hb dX6_isWithin_57 (by decide) (fun c_2 => ?_) (fun c_2 => ?_)
      · skip
        have c_2 : K 1 n9 < (mUsed K n9 p) + m9 := c_2
        refine lv_iconst (v := nI 0) hx hb dX6_isWithin_83 (by decide) ?_
        exact W.zret (v := nI 0) hx hb hr rfl (fun t ht hW => ⟨_, rfl, (by simp [mWithin, zb, c_1, hn7, c_2]), ht⟩) (fun _ h => nomatch h) dX6_isWithin_84
      · skip
        have c_2 : ¬ K 1 n9 < (mUsed K n9 p) + m9 := c_2
        refine lv_iload hx hb dX6_isWithin_60 (lv_at hl 0 rfl) ?_
        refine lv_aload_n hx hb dX6_isWithin_62 rfl (lv_at hl 2 rfl) ?_
        refine lv_iload_n hx hb dX6_isWithin_63 rfl (lv_at hl 3 rfl) ?_
        refine zz_top (y := nI n9) hn8 ?_
        refine lv_iload hx hb dX6_isWithin_64 (lv_at hl 1 rfl) ?_
        refine zc_rV (As := [.int (nI n9), .int (nI (zmate p))]) (rest := [.int ((mUsed K n9 p) + m9)]) ⟨hx, hb, hml, hown, hts⟩ (kX6_usedBy l D cI cZ ad K n9 (zmate p) (by omega) (by omega)) (cwV 2 hts gX6_isWithin_X6_usedBy rfl rfl rfl (by decide +kernel) ⟨(Nat.le_of_ble_eq_true rfl), (Nat.le_of_ble_eq_true rfl)⟩) hK hP (ci := 6) (q0 := 0) rfl rfl rfl rfl hl.1 rfl (Nat.le_of_ble_eq_true rfl) dX6_isWithin_66 ⟨Nat.zero_le _, Nat.zero_le _⟩ ?_
        refine lv_iadd hx hb dX6_isWithin_69 ?_
        refine lv_aload_n hx hb dX6_isWithin_70 rfl (lv_at hl 2 rfl) ?_
        refine va_get (D := D) (ci := 6) (v := .ref (ad 2)) (C := RX6) (T := TX6) (N := 21) hx hb hts hinX6 hown hK hP 0 rfl rfl 5 (by decide) (hts (.fieldLink RX6 17 "AuditoriumKeysModel" "ofHousehold" "[I") (List.mem_of_getElem? (i := 4) rfl)) (fun _ h9 => h9) rfl dX6_isWithin_71 ?_
        refine lv_iload_n hx hb dX6_isWithin_74 rfl (lv_at hl 3 rfl) ?_
        refine zz_top (y := nI n9) hn8 ?_
        refine zz_iald hx hb hK hP 2 0 rfl rfl n9 (by omega) (by decide) dX6_isWithin_75 ?_
        refine lv_icmp_gt (tgt := 83) hx hb dX6_isWithin_76 (by decide) (fun c_3 => ?_) (fun c_3 => ?_)
        · skip
          have c_3 : K 2 n9 < ((mUsed K n9 p) + m9) + (mUsed K n9 (zmate p)) := c_3
          refine lv_iconst (v := nI 0) hx hb dX6_isWithin_83 (by decide) ?_
          exact W.zret (v := nI 0) hx hb hr rfl (fun t ht hW => ⟨_, rfl, (by simp [mWithin, zb, c_1, hn7, c_2, c_3]), ht⟩) (fun _ h => nomatch h) dX6_isWithin_84
        · skip
          have c_3 : ¬ K 2 n9 < ((mUsed K n9 p) + m9) + (mUsed K n9 (zmate p)) := c_3
          refine lv_iconst (v := nI 1) hx hb dX6_isWithin_79 (by decide) ?_
          refine lv_goto (tgt := 84) hx hb dX6_isWithin_80 (by decide) ?_
          exact W.zret (v := nI 1) hx hb hr rfl (fun t ht hW => ⟨_, rfl, (by simp [mWithin, zb, c_1, hn7, c_2, c_3]), ht⟩) (fun _ h => nomatch h) dX6_isWithin_84
    refine lv_iload_n hx hb dX6_isWithin_22 rfl (lv_at hl 2 rfl) ?_
    refine lv_iconst (v := nI 2) hx hb dX6_isWithin_23 (by decide) ?_
    refine lv_irem hx hb dX6_isWithin_24 (by decide) ?_
    refine zz_top (y := nI (p % 2)) (pk_rem (by omega) (by decide) (by decide)) ?_
    refine lv_if_ne (tgt := 34) hx hb dX6_isWithin_25 (by decide) (fun c_4 => ?_) (fun c_4 => ?_)
    · skip
      have c_4 : ¬ (p % 2) = 0 := fun h => c_4 ((nI_eq (a := (p % 2)) (b := 0) (by omega) (by omega)).mpr h)
      refine lv_iload_n hx hb dX6_isWithin_34 rfl (lv_at hl 2 rfl) ?_
      refine lv_iconst (v := nI 1) hx hb dX6_isWithin_35 (by decide) ?_
      refine lv_isub hx hb dX6_isWithin_36 ?_
      refine zz_top (y := nI (p - 1)) (pk_sub (by omega)) ?_
      have ej_5 : nI (zmate p) = nI (p - 1) := (congrArg nI (by simp only [zmate]; first | (rw [if_pos (by omega)]; done) | (rw [if_neg (by omega)]; done)))
      have jx := j37
      rw [ej_5] at jx
      exact jx ls (lv_sub hl [0, 1, 2, 3] rfl)
    · skip
      have c_4 := (nI_eq (a := (p % 2)) (b := 0) (by omega) (by omega)).mp c_4
      refine lv_iload_n hx hb dX6_isWithin_28 rfl (lv_at hl 2 rfl) ?_
      refine lv_iconst (v := nI 1) hx hb dX6_isWithin_29 (by decide) ?_
      refine lv_iadd hx hb dX6_isWithin_30 ?_
      refine zz_top (y := nI (p + 1)) ((nI_add p 1).trans (congrArg nI (by omega))) ?_
      refine lv_goto (tgt := 37) hx hb dX6_isWithin_31 (by decide) ?_
      have ej_6 : nI (zmate p) = nI (p + 1) := (congrArg nI (by simp only [zmate]; first | (rw [if_pos (by omega)]; done) | (rw [if_neg (by omega)]; done)))
      have jx := j37
      rw [ej_6] at jx
      exact jx ls (lv_sub hl [0, 1, 2, 3] rfl)
  · skip
    have c_1 : c9 = (-1) := c_1
    refine lv_aload_n hx hb dX6_isWithin_5 rfl (lv_at hl 0 rfl) ?_
    refine va_get (D := D) (ci := 6) (v := .int (K 0 1)) (C := RX6) (T := TX6) (N := 21) hx hb hts hinX6 hown hK hP 0 rfl rfl 1 (by decide) (hts (.fieldLink RX6 80 "AuditoriumKeysModel" "time" "I") (List.mem_of_getElem? (i := 1) rfl)) (fun _ h9 => h9) rfl dX6_isWithin_6 ?_
    refine lv_aload_n hx hb dX6_isWithin_9 rfl (lv_at hl 0 rfl) ?_
    refine va_get (D := D) (ci := 6) (v := .int (K 0 2)) (C := RX6) (T := TX6) (N := 21) hx hb hts hinX6 hown hK hP 0 rfl rfl 2 (by decide) (hts (.fieldLink RX6 7 "AuditoriumKeysModel" "opening" "I") (List.mem_of_getElem? (i := 2) rfl)) (fun _ h9 => h9) rfl dX6_isWithin_10 ?_
    refine lv_icmp_lt (tgt := 20) hx hb dX6_isWithin_13 (by decide) (fun c_7 => ?_) (fun c_7 => ?_)
    · skip
      have c_7 : K 0 1 < K 0 2 := c_7
      refine lv_iconst (v := nI 0) hx hb dX6_isWithin_20 (by decide) ?_
      exact W.zret (v := nI 0) hx hb hr rfl (fun t ht hW => ⟨_, rfl, (by simp [mWithin, zb, eq_true c_1, c_7]), ht⟩) (fun _ h => nomatch h) dX6_isWithin_21
    · skip
      have c_7 : ¬ K 0 1 < K 0 2 := c_7
      refine lv_iconst (v := nI 1) hx hb dX6_isWithin_16 (by decide) ?_
      refine lv_goto (tgt := 21) hx hb dX6_isWithin_17 (by decide) ?_
      exact W.zret (v := nI 1) hx hb hr rfl (fun t ht hW => ⟨_, rfl, (by simp [mWithin, zb, eq_true c_1, c_7]), ht⟩) (fun _ h => nomatch h) dX6_isWithin_21
set_option maxHeartbeats 4000000 in
set_option maxRecDepth 100000 in
theorem kX6_leavesSingle (l : Launch) (D : va_G) (cI cZ : ClassId) (ad : Nat → Nat) (K : kS) (sz : Nat) (p : Nat) (f9 : Nat) (m9 : Nat) (hp : p < 8) : Met l yX6_leavesSingle wsX6_leavesSingle ({ frames := 4, cells := 0, slots := 0, locals := 90 }) (va_Pc [.ref (ad 0), .int (nI p), .int (nI f9), .int (nI m9)] (zPr D (zTy cI cZ) (mwA ad cI cZ K) sz)) (va_Qi (fun r (_ : Unit) => r = zb (mLeaves K p f9 m9)) (fun _ => zPo D (zTy cI cZ) (va_A (mwA ad cI cZ K) sz) (mwA ad cI cZ (mTry K p f9 m9))) (va_A (mwA ad cI cZ K) sz)) 0 0 (va_A (mwA ad cI cZ K) sz) := by
  refine Met.ofW (cc := cX6_leavesSingle) (maxL := 6) (ret := (some .boolean)) (by decide) rfl ?_
  intro pP e s m args below meth c s₁ B hml hv
  obtain ⟨rfl, hsz, hP, hK, hD0⟩ := hv
  have hx := B.exec
  have hb := B.bytes
  have hr := B.returns
  have hts := atoms_spec (ws := wsX6_leavesSingle) B.pre
  have hown : s.vm.findClass RX6 = some m.cls := findClass_of_methodNamed B.named
  have hlocks := B.notSynchronized
  subst hsz
  have hD := hD0.self (sz := s.heap.size)
  generalize hAe : va_A (mwA ad cI cZ K) s.heap.size = A at hD ⊢
  have hA : ∀ q : Nat, s.heap.size ≤ q → A q := fun q h => by rw [← hAe]; exact Or.inr h
  have hS : va_S A s.heap s.heap [] := va_S.rf
  have hinX6 : ∀ w ∈ u_ws RX6 TX6 21, w ∈ wsX6_leavesSingle := by decide +kernel
  have hl := lv_entry ([.ref (ad 0), .int (nI p), .int (nI f9), .int (nI m9)]) (n := 6) (Nat.le_of_ble_eq_true rfl)
  rw [lg_entry_eq]
  generalize (lg_sl ([.ref (ad 0), .int (nI p), .int (nI f9), .int (nI m9)]) ++ List.replicate (6 - (lg_sl ([.ref (ad 0), .int (nI p), .int (nI f9), .int (nI m9)])).length) Slot.unset).toArray = ls at hl ⊢
  have hl : lv_has ls 6 [(0, .ref (ad 0)), (1, .int (nI p)), (2, .int (nI f9)), (3, .int (nI m9))] := hl
  refine lv_iconst (v := nI 0) hx hb dX6_leavesSingle_0 (by decide) ?_
  refine lv_istore (lv' := [(4, .int (nI 0)), (0, .ref (ad 0)), (1, .int (nI p)), (2, .int (nI f9)), (3, .int (nI m9))]) hx hb dX6_leavesSingle_1 hl (by decide) rfl (fun ls hl => ?_)
  have lp_a : ∀ (n i : Nat), 0 ≤ i → i ≤ 60 → 60 - i < n → ∀ (H : Heap) (locs : List Loc), va_P D vwCl (mwA ad cI cZ (setA K 16 (mWas K i))) H → va_D A (mwA ad cI cZ (setA K 16 (mWas K i))) → va_S A s.heap H locs → ∀ ls : Array Slot, lv_has ls 6 [(4, .int (nI i)), (0, .ref (ad 0)), (1, .int (nI p)), (2, .int (nI f9)), (3, .int (nI m9))] → W pP l e ({ frames := 4, cells := 0, slots := 0, locals := 90 } : Room) s m ([.ref (ad 0), .int (nI p), .int (nI f9), .int (nI m9)] : List Value).toArray below meth c H locs 0 0 (MQ below (va_Qi (fun r (_ : Unit) => r = zb (mLeaves K p f9 m9)) (fun _ => zPo D (zTy cI cZ) A (mwA ad cI cZ (mTry K p f9 m9))) A) ([.ref (ad 0), .int (nI p), .int (nI f9), .int (nI m9)] : List Value).toArray s 0 0 A) (F0 m 3 ls []) := by
    intro n
    induction n with
    | zero => intro i _ _ h; exact absurd h (Nat.not_lt_zero _)
    | succ n ih_a =>
      intro i hlo_a hin_a hdn_a  H locs hP hD hS ls hl
      refine lv_iload hx hb dX6_leavesSingle_3 (lv_at hl 0 rfl) ?_
      refine lv_bipush (v := nI 60) hx hb dX6_leavesSingle_5 (by decide) ?_
      refine lv_icmp_ge (tgt := 29) hx hb dX6_leavesSingle_7 (by decide) (fun c_1 => ?_) (fun c_1 => ?_)
      · skip
        have c_1 := (nI_leI (a := 60) (b := i) (by omega) (by omega)).mp c_1
        have hi8 : i = 60 := by omega
        subst hi8
        refine lv_iconst (v := nI 0) hx hb dX6_leavesSingle_29 (by decide) ?_
        refine lv_istore (lv' := [(4, .int (nI 0)), (0, .ref (ad 0)), (1, .int (nI p)), (2, .int (nI f9)), (3, .int (nI m9))]) hx hb dX6_leavesSingle_30 hl (by decide) rfl (fun ls hl => ?_)
        refine lv_aload_n hx hb dX6_leavesSingle_32 rfl (lv_at hl 1 rfl) ?_
        refine va_get (D := D) (ci := 6) (v := .ref (ad 5)) (C := RX6) (T := TX6) (N := 21) hx hb hts hinX6 hown hK hP 0 rfl rfl 8 (by decide) (hts (.fieldLink RX6 26 "AuditoriumKeysModel" "firsts" "[I") (List.mem_of_getElem? (i := 2) rfl)) (fun _ h9 => h9) rfl dX6_leavesSingle_33 ?_
        refine lv_iload_n hx hb dX6_leavesSingle_36 rfl (lv_at hl 2 rfl) ?_
        refine lv_iload_n hx hb dX6_leavesSingle_37 rfl (lv_at hl 3 rfl) ?_
        refine zz_iast hx hb hK hP hD hS 5 0 rfl rfl p (by omega) (by decide) dX6_leavesSingle_38 (fun H locs hP hD hS => ?_)
        have hP : va_P D vwCl (mwA ad cI cZ (setA (setA K 16 (mWas K 60)) 5 (upd (K 5) p (nI f9)))) _ := hP
        have hD : va_D A (mwA ad cI cZ (setA (setA K 16 (mWas K 60)) 5 (upd (K 5) p (nI f9)))) := hD
        refine lv_aload_n hx hb dX6_leavesSingle_39 rfl (lv_at hl 1 rfl) ?_
        refine va_get (D := D) (ci := 6) (v := .ref (ad 6)) (C := RX6) (T := TX6) (N := 21) hx hb hts hinX6 hown hK hP 0 rfl rfl 9 (by decide) (hts (.fieldLink RX6 29 "AuditoriumKeysModel" "manies" "[I") (List.mem_of_getElem? (i := 3) rfl)) (fun _ h9 => h9) rfl dX6_leavesSingle_40 ?_
        refine lv_iload_n hx hb dX6_leavesSingle_43 rfl (lv_at hl 2 rfl) ?_
        refine lv_iload_n hx hb dX6_leavesSingle_44 rfl (lv_at hl 4 rfl) ?_
        refine zz_iast hx hb hK hP hD hS 6 0 rfl rfl p (by omega) (by decide) dX6_leavesSingle_45 (fun H locs hP hD hS => ?_)
        have hP : va_P D vwCl (mwA ad cI cZ (setA (setA (setA K 16 (mWas K 60)) 5 (upd (K 5) p (nI f9))) 6 (upd (K 6) p (nI m9)))) _ := hP
        have hD : va_D A (mwA ad cI cZ (setA (setA (setA K 16 (mWas K 60)) 5 (upd (K 5) p (nI f9))) 6 (upd (K 6) p (nI m9)))) := hD
        refine lv_iconst (v := nI 0) hx hb dX6_leavesSingle_46 (by decide) ?_
        refine lv_istore (lv' := [(5, .int (nI 0)), (4, .int (nI 0)), (0, .ref (ad 0)), (1, .int (nI p)), (2, .int (nI f9)), (3, .int (nI m9))]) hx hb dX6_leavesSingle_47 hl (by decide) rfl (fun ls hl => ?_)
        have lp_b : ∀ (n i : Nat), 0 ≤ i → i ≤ 60 → 60 - i < n → ∀ (H : Heap) (locs : List Loc), va_P D vwCl (mwA ad cI cZ (setA (setA (setA K 16 (mWas K 60)) 5 (upd (K 5) p (nI f9))) 6 (upd (K 6) p (nI m9)))) H → va_D A (mwA ad cI cZ (setA (setA (setA K 16 (mWas K 60)) 5 (upd (K 5) p (nI f9))) 6 (upd (K 6) p (nI m9)))) → va_S A s.heap H locs → ∀ ls : Array Slot, lv_has ls 6 [(5, .int (nI i)), (4, .int (zb (mLvUp (fun q => mAlone (mTry2 K p f9 m9) q) (mWas K 60) i))), (0, .ref (ad 0)), (1, .int (nI p)), (2, .int (nI f9)), (3, .int (nI m9))] → W pP l e ({ frames := 4, cells := 0, slots := 0, locals := 90 } : Room) s m ([.ref (ad 0), .int (nI p), .int (nI f9), .int (nI m9)] : List Value).toArray below meth c H locs 0 0 (MQ below (va_Qi (fun r (_ : Unit) => r = zb (mLeaves K p f9 m9)) (fun _ => zPo D (zTy cI cZ) A (mwA ad cI cZ (mTry K p f9 m9))) A) ([.ref (ad 0), .int (nI p), .int (nI f9), .int (nI m9)] : List Value).toArray s 0 0 A) (F0 m 49 ls []) := by
          intro n
          induction n with
          | zero => intro i _ _ h; exact absurd h (Nat.not_lt_zero _)
          | succ n ih_b =>
            intro i hlo_b hin_b hdn_b  H locs hP hD hS ls hl
            refine lv_iload hx hb dX6_leavesSingle_49 (lv_at hl 0 rfl) ?_
            refine lv_bipush (v := nI 60) hx hb dX6_leavesSingle_51 (by decide) ?_
            refine lv_icmp_ge (tgt := 93) hx hb dX6_leavesSingle_53 (by decide) (fun c_2 => ?_) (fun c_2 => ?_)
            · skip
              have c_2 := (nI_leI (a := 60) (b := i) (by omega) (by omega)).mp c_2
              have hi9 : i = 60 := by omega
              subst hi9
              refine lv_aload_n hx hb dX6_leavesSingle_93 rfl (lv_at hl 2 rfl) ?_
              refine va_get (D := D) (ci := 6) (v := .ref (ad 5)) (C := RX6) (T := TX6) (N := 21) hx hb hts hinX6 hown hK hP 0 rfl rfl 8 (by decide) (hts (.fieldLink RX6 26 "AuditoriumKeysModel" "firsts" "[I") (List.mem_of_getElem? (i := 2) rfl)) (fun _ h9 => h9) rfl dX6_leavesSingle_94 ?_
              refine lv_iload_n hx hb dX6_leavesSingle_97 rfl (lv_at hl 3 rfl) ?_
              refine lv_iconst (v := (-1)) hx hb dX6_leavesSingle_98 (by decide) ?_
              refine zz_iast hx hb hK hP hD hS 5 0 rfl rfl p (by omega) (by decide) dX6_leavesSingle_99 (fun H locs hP hD hS => ?_)
              have hP : va_P D vwCl (mwA ad cI cZ (setA (setA (setA K 16 (mWas K 60)) 5 (upd (upd (K 5) p (nI f9)) p (-1))) 6 (upd (K 6) p (nI m9)))) _ := hP
              have hD : va_D A (mwA ad cI cZ (setA (setA (setA K 16 (mWas K 60)) 5 (upd (upd (K 5) p (nI f9)) p (-1))) 6 (upd (K 6) p (nI m9)))) := hD
              refine lv_iload hx hb dX6_leavesSingle_100 (lv_at hl 1 rfl) ?_
              have eK9 : (mTry K p f9 m9) = (setA (setA (setA K 16 (mWas K 60)) 5 (upd (upd (K 5) p (nI f9)) p (-1))) 6 (upd (K 6) p (nI m9))) := rfl
              have hP9 := hP
              have hD9 := hD
              rw [← eK9] at hP9 hD9
              exact W.zret (v := zb (mLvUp (fun q => mAlone (mTry2 K p f9 m9) q) (mWas K 60) 60)) hx hb hr (zb_nar _) (fun t ht hW => ⟨⟨zb (mLvUp (fun q => mAlone (mTry2 K p f9 m9) q) (mWas K 60) 60), (), rfl, rfl, by rw [ht]; exact hP9, va_K.moved hW.alike hK, hD9⟩, hS.F ht⟩) hS.2.2 dX6_leavesSingle_102
            · skip
              have c_2 : ¬ 60 ≤ i := fun h => c_2 ((nI_leI (a := 60) (b := i) (by omega) (by omega)).mpr h)
              refine lv_iload hx hb dX6_leavesSingle_56 (lv_at hl 1 rfl) ?_
              refine lv_if_ne (tgt := 80) hx hb dX6_leavesSingle_58 (by decide) (fun c_3 => ?_) (fun c_3 => ?_)
              · skip
                have c_3 := zb_t c_3
                refine lv_iconst (v := nI 1) hx hb dX6_leavesSingle_80 (by decide) ?_
                refine lv_goto (tgt := 85) hx hb dX6_leavesSingle_81 (by decide) ?_
                refine lv_istore (lv' := [(4, .int (nI 1)), (5, .int (nI i)), (0, .ref (ad 0)), (1, .int (nI p)), (2, .int (nI f9)), (3, .int (nI m9))]) hx hb dX6_leavesSingle_85 hl (by decide) rfl (fun ls hl => ?_)
                refine lv_iinc (v := nI (i + 1)) (lv' := [(5, .int (nI (i + 1))), (4, .int (nI 1)), (0, .ref (ad 0)), (1, .int (nI p)), (2, .int (nI f9)), (3, .int (nI m9))]) hx hb dX6_leavesSingle_87 hl (k := 1) rfl ((show nI i + Int32.ofInt 1 = nI i + nI 1 from rfl).trans (nI_add _ _)) (by decide) rfl (fun ls hl => ?_)
                refine lv_goto (tgt := 49) hx hb dX6_leavesSingle_90 (by decide) ?_
                have es_4 : zb (mLvUp (fun q => mAlone (mTry2 K p f9 m9) q) (mWas K 60) (i + 1)) = nI 1 := (by simp [mLvUp, zb, c_2, c_3])
                exact ih_b (i + 1) (by omega) (by omega) (by omega)  _ _ hP hD hS ls (by rw [es_4]; exact lv_sub hl [0, 1, 2, 3, 4, 5] rfl)
              · skip
                have c_3 := zb_f c_3
                refine lv_aload_n hx hb dX6_leavesSingle_61 rfl (lv_at hl 2 rfl) ?_
                refine lv_iload hx hb dX6_leavesSingle_62 (lv_at hl 0 rfl) ?_
                refine zc_rV (As := [.int (nI i)]) (rest := []) ⟨hx, hb, hml, hown, hts⟩ (kX6_isAlone l D cI cZ ad (setA (setA (setA K 16 (mWas K 60)) 5 (upd (K 5) p (nI f9))) 6 (upd (K 6) p (nI m9))) i (by omega)) (cwV 1 hts gX6_leavesSingle_X6_isAlone rfl rfl rfl (by decide +kernel) ⟨(Nat.le_of_ble_eq_true rfl), (Nat.le_of_ble_eq_true rfl)⟩) hK hP (ci := 6) (q0 := 0) rfl rfl rfl rfl hl.1 rfl (Nat.le_of_ble_eq_true rfl) dX6_leavesSingle_64 ⟨Nat.zero_le _, Nat.zero_le _⟩ ?_
                refine lv_if_eq (tgt := 84) hx hb dX6_leavesSingle_67 (by decide) (fun c_5 => ?_) (fun c_5 => ?_)
                · skip
                  have c_5 := zb_f c_5
                  have c_5 : mAlone (mTry2 K p f9 m9) i = false := c_5
                  refine lv_iconst (v := nI 0) hx hb dX6_leavesSingle_84 (by decide) ?_
                  refine lv_istore (lv' := [(4, .int (nI 0)), (5, .int (nI i)), (0, .ref (ad 0)), (1, .int (nI p)), (2, .int (nI f9)), (3, .int (nI m9))]) hx hb dX6_leavesSingle_85 hl (by decide) rfl (fun ls hl => ?_)
                  refine lv_iinc (v := nI (i + 1)) (lv' := [(5, .int (nI (i + 1))), (4, .int (nI 0)), (0, .ref (ad 0)), (1, .int (nI p)), (2, .int (nI f9)), (3, .int (nI m9))]) hx hb dX6_leavesSingle_87 hl (k := 1) rfl ((show nI i + Int32.ofInt 1 = nI i + nI 1 from rfl).trans (nI_add _ _)) (by decide) rfl (fun ls hl => ?_)
                  refine lv_goto (tgt := 49) hx hb dX6_leavesSingle_90 (by decide) ?_
                  have es_6 : zb (mLvUp (fun q => mAlone (mTry2 K p f9 m9) q) (mWas K 60) (i + 1)) = nI 0 := (by simp [mLvUp, zb, c_2, c_3, c_5])
                  exact ih_b (i + 1) (by omega) (by omega) (by omega)  _ _ hP hD hS ls (by rw [es_6]; exact lv_sub hl [0, 1, 2, 3, 4, 5] rfl)
                · skip
                  have c_5 := zb_t c_5
                  have c_5 : mAlone (mTry2 K p f9 m9) i = true := c_5
                  refine lv_aload_n hx hb dX6_leavesSingle_70 rfl (lv_at hl 2 rfl) ?_
                  refine va_get (D := D) (ci := 6) (v := .ref (ad 16)) (C := RX6) (T := TX6) (N := 21) hx hb hts hinX6 hown hK hP 0 rfl rfl 19 (by decide) (hts (.fieldLink RX6 59 "AuditoriumKeysModel" "wasSingle" "[Z") (List.mem_of_getElem? (i := 1) rfl)) (fun _ h9 => h9) rfl dX6_leavesSingle_71 ?_
                  refine lv_iload hx hb dX6_leavesSingle_74 (lv_at hl 0 rfl) ?_
                  refine zz_zald hx hb hK hP 16 1 rfl rfl i (by omega) (by decide) dX6_leavesSingle_76 ?_
                  refine lv_if_ne (tgt := 84) hx hb dX6_leavesSingle_77 (by decide) (fun c_7 => ?_) (fun c_7 => ?_)
                  · skip
                    have c_7 : ¬ (mWas K 60) i = 0 := c_7
                    refine lv_iconst (v := nI 0) hx hb dX6_leavesSingle_84 (by decide) ?_
                    refine lv_istore (lv' := [(4, .int (nI 0)), (5, .int (nI i)), (0, .ref (ad 0)), (1, .int (nI p)), (2, .int (nI f9)), (3, .int (nI m9))]) hx hb dX6_leavesSingle_85 hl (by decide) rfl (fun ls hl => ?_)
                    refine lv_iinc (v := nI (i + 1)) (lv' := [(5, .int (nI (i + 1))), (4, .int (nI 0)), (0, .ref (ad 0)), (1, .int (nI p)), (2, .int (nI f9)), (3, .int (nI m9))]) hx hb dX6_leavesSingle_87 hl (k := 1) rfl ((show nI i + Int32.ofInt 1 = nI i + nI 1 from rfl).trans (nI_add _ _)) (by decide) rfl (fun ls hl => ?_)
                    refine lv_goto (tgt := 49) hx hb dX6_leavesSingle_90 (by decide) ?_
                    have es_8 : zb (mLvUp (fun q => mAlone (mTry2 K p f9 m9) q) (mWas K 60) (i + 1)) = nI 0 := (by simp [mLvUp, zb, c_2, c_3, c_5, c_7])
                    exact ih_b (i + 1) (by omega) (by omega) (by omega)  _ _ hP hD hS ls (by rw [es_8]; exact lv_sub hl [0, 1, 2, 3, 4, 5] rfl)
                  · skip
                    have c_7 : (mWas K 60) i = 0 := c_7
                    refine lv_iconst (v := nI 1) hx hb dX6_leavesSingle_80 (by decide) ?_
                    refine lv_goto (tgt := 85) hx hb dX6_leavesSingle_81 (by decide) ?_
                    refine lv_istore (lv' := [(4, .int (nI 1)), (5, .int (nI i)), (0, .ref (ad 0)), (1, .int (nI p)), (2, .int (nI f9)), (3, .int (nI m9))]) hx hb dX6_leavesSingle_85 hl (by decide) rfl (fun ls hl => ?_)
                    refine lv_iinc (v := nI (i + 1)) (lv' := [(5, .int (nI (i + 1))), (4, .int (nI 1)), (0, .ref (ad 0)), (1, .int (nI p)), (2, .int (nI f9)), (3, .int (nI m9))]) hx hb dX6_leavesSingle_87 hl (k := 1) rfl ((show nI i + Int32.ofInt 1 = nI i + nI 1 from rfl).trans (nI_add _ _)) (by decide) rfl (fun ls hl => ?_)
                    refine lv_goto (tgt := 49) hx hb dX6_leavesSingle_90 (by decide) ?_
                    have es_9 : zb (mLvUp (fun q => mAlone (mTry2 K p f9 m9) q) (mWas K 60) (i + 1)) = nI 1 := (by simp [mLvUp, zb, c_2, c_3, c_5, eq_true c_7])
                    exact ih_b (i + 1) (by omega) (by omega) (by omega)  _ _ hP hD hS ls (by rw [es_9]; exact lv_sub hl [0, 1, 2, 3, 4, 5] rfl)
        have ei_b_4 : zb (mLvUp (fun q => mAlone (mTry2 K p f9 m9) q) (mWas K 60) 0) = nI 0 := rfl
        exact lp_b (60 - 0 + 1) 0 (by omega) (by omega) (by omega)  _ _ hP hD hS ls (by rw [ei_b_4]; exact lv_sub hl [0, 1, 2, 3, 4, 5] rfl)
      · skip
        have c_1 : ¬ 60 ≤ i := fun h => c_1 ((nI_leI (a := 60) (b := i) (by omega) (by omega)).mpr h)
        refine lv_aload_n hx hb dX6_leavesSingle_10 rfl (lv_at hl 1 rfl) ?_
        refine va_get (D := D) (ci := 6) (v := .ref (ad 16)) (C := RX6) (T := TX6) (N := 21) hx hb hts hinX6 hown hK hP 0 rfl rfl 19 (by decide) (hts (.fieldLink RX6 59 "AuditoriumKeysModel" "wasSingle" "[Z") (List.mem_of_getElem? (i := 1) rfl)) (fun _ h9 => h9) rfl dX6_leavesSingle_11 ?_
        refine lv_iload hx hb dX6_leavesSingle_14 (lv_at hl 0 rfl) ?_
        refine lv_aload_n hx hb dX6_leavesSingle_16 rfl (lv_at hl 1 rfl) ?_
        refine lv_iload hx hb dX6_leavesSingle_17 (lv_at hl 0 rfl) ?_
        refine zc_rV (As := [.int (nI i)]) (rest := [.int (nI i), .ref (ad 16)]) ⟨hx, hb, hml, hown, hts⟩ (kX6_isAlone l D cI cZ ad (setA K 16 (mWas K i)) i (by omega)) (cwV 1 hts gX6_leavesSingle_X6_isAlone rfl rfl rfl (by decide +kernel) ⟨(Nat.le_of_ble_eq_true rfl), (Nat.le_of_ble_eq_true rfl)⟩) hK hP (ci := 6) (q0 := 0) rfl rfl rfl rfl hl.1 rfl (Nat.le_of_ble_eq_true rfl) dX6_leavesSingle_19 ⟨Nat.zero_le _, Nat.zero_le _⟩ ?_
        refine zz_zast hx hb hK hP hD hS 16 1 rfl rfl i (zb_vnar _) (by omega) (by decide) dX6_leavesSingle_22 (fun H locs hP hD hS => ?_)
        have hP : va_P D vwCl (mwA ad cI cZ (setA K 16 (upd (mWas K i) i (zb (mAlone (setA K 16 (mWas K i)) i))))) _ := hP
        have hD : va_D A (mwA ad cI cZ (setA K 16 (upd (mWas K i) i (zb (mAlone (setA K 16 (mWas K i)) i))))) := hD
        refine lv_iinc (v := nI (i + 1)) (lv' := [(4, .int (nI (i + 1))), (0, .ref (ad 0)), (1, .int (nI p)), (2, .int (nI f9)), (3, .int (nI m9))]) hx hb dX6_leavesSingle_23 hl (k := 0) rfl ((show nI i + Int32.ofInt 1 = nI i + nI 1 from rfl).trans (nI_add _ _)) (by decide) rfl (fun ls hl => ?_)
        refine lv_goto (tgt := 3) hx hb dX6_leavesSingle_26 (by decide) ?_
        have eK_10 : (setA K 16 (mWas K (i + 1))) = (setA K 16 (upd (mWas K i) i (zb (mAlone (setA K 16 (mWas K i)) i)))) := (congrArg (setA K 16) (mWas_s K i).symm)
        exact ih_a (i + 1) (by omega) (by omega) (by omega)  _ _ (by rw [eK_10]; exact hP) (by rw [eK_10]; exact hD) hS ls (lv_sub hl [0, 1, 2, 3, 4] rfl)
  have eK_a : (setA K 16 (mWas K 0)) = K := (by rw [mWas_0, setA_same])
  exact lp_a (60 - 0 + 1) 0 (by omega) (by omega) (by omega)  _ _ (by rw [eK_a]; exact hP) (by rw [eK_a]; exact hD) hS ls (lv_sub hl [0, 1, 2, 3, 4] rfl)
