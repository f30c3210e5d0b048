set_option maxHeartbeats 4000000 in
set_option maxRecDepth 100000 in
theorem kX5_needPerson (l : Launch) (hl9 : l.stackTraces = false) (D : va_G) (cI cZ : ClassId) (ad : Nat → Nat) (K : kS) (sz : Nat) (x : Int32)  : zMv l yX5_needPerson wsX5_needPerson ({ frames := 6, cells := 1, slots := 6, locals := 82 }) [.int x] D (zTy cI cZ) [] [] sz (kNeedP x) 1 6 := by
  refine vx_ofW (cc := cX5_needPerson) (maxL := 1) (ret := none) (by decide) rfl ?_
  intro pP e s m args below meth c s₁ B hml ht9 hv
  obtain ⟨rfl, hsz, hP, hK, hD0, hE0⟩ := hv
  have hx := B.exec
  have hb := B.bytes
  have hr := B.returns
  have hts := atoms_spec (ws := wsX5_needPerson) B.pre
  have hown : s.vm.findClass RX5 = some m.cls := findClass_of_methodNamed B.named
  have hlocks := B.notSynchronized
  subst hsz
  have hD := hD0.self (sz := s.heap.size)
  generalize hAe : va_A [] s.heap.size = A at hD hE0 ⊢
  have hE := hE0
  have hA : ∀ q : Nat, s.heap.size ≤ q → A q := fun q h => by rw [← hAe]; exact Or.inr h
  have hS : va_S A s.heap s.heap [] := va_S.rf
  have hl := lv_entry ([.int x]) (n := 1) (Nat.le_of_ble_eq_true rfl)
  rw [lg_entry_eq]
  generalize (lg_sl ([.int x]) ++ List.replicate (1 - (lg_sl ([.int x])).length) Slot.unset).toArray = ls at hl ⊢
  have hl : lv_has ls 1 [(0, .int x)] := hl
  refine lv_iload_n hx hb dX5_needPerson_0 rfl (lv_at hl 0 rfl) ?_
  refine lv_if_lt (tgt := 10) hx hb dX5_needPerson_1 (by decide) (fun c_1 => ?_) (fun c_1 => ?_)
  · skip
    have c_1 : x < 0 := c_1
    have hT9 : kNeedP x = nI 1 := (by simp [kNeedP, c_1])
    exact zx_throw (own := RX5) (cls := "java/lang/IndexOutOfBoundsException") (text := "no such person") (names := ["java/lang/RuntimeException", "java/lang/Exception"]) hx hb hl9 hown (by decide +kernel) (by decide +kernel) (hts (.classLink RX5 129 "java/lang/IndexOutOfBoundsException") (List.mem_of_getElem? (i := 1) rfl)) (hts (.initialized "java/lang/IndexOutOfBoundsException") (List.mem_of_getElem? (i := 2) rfl)) (hE.2.1 (225, "no such person") (List.mem_of_getElem? (i := 20) rfl)) (vx_hat (L := vx_atS RX5 133 "java/lang/IndexOutOfBoundsException" ["java/lang/RuntimeException", "java/lang/Exception"]) (B := [.castable "java/lang/IndexOutOfBoundsException" "java/lang/IndexOutOfBoundsException", .declares ⟨"java/lang/RuntimeException", "<init>", "(Ljava/lang/String;)V"⟩, .declares ⟨"java/lang/Exception", "<init>", "(Ljava/lang/String;)V"⟩, .declares ⟨"java/lang/Throwable", "<init>", "(Ljava/lang/String;)V"⟩]) (fun w hw => hts w ((by decide +kernel : ∀ w ∈ (vx_atS RX5 133 "java/lang/IndexOutOfBoundsException" ["java/lang/RuntimeException", "java/lang/Exception"]).filter goodWord, w ∈ wsX5_needPerson) w hw)) (by decide +kernel) (vx_c (va_Nw.use rfl (hE.1 (.castable "java/lang/IndexOutOfBoundsException" "java/lang/IndexOutOfBoundsException") (List.mem_of_getElem? (i := 38) rfl))) (vx_c (va_Nw.use rfl (hE.1 (.declares ⟨"java/lang/RuntimeException", "<init>", "(Ljava/lang/String;)V"⟩) (List.mem_of_getElem? (i := 41) rfl))) (vx_c (va_Nw.use rfl (hE.1 (.declares ⟨"java/lang/Exception", "<init>", "(Ljava/lang/String;)V"⟩) (List.mem_of_getElem? (i := 42) rfl))) (vx_c (va_Nw.use rfl (hE.1 (.declares ⟨"java/lang/Throwable", "<init>", "(Ljava/lang/String;)V"⟩) (List.mem_of_getElem? (i := 43) rfl))) (vx_n)))))) (by decide +kernel) hE hP hK hD hS (hl.1.trans hml.symm) dX5_needPerson_10 dX5_needPerson_13 dX5_needPerson_14 dX5_needPerson_16 dX5_needPerson_19 ht9 (Nat.le_of_ble_eq_true rfl) (Nat.le_of_ble_eq_true rfl) (Nat.le_of_ble_eq_true rfl) (Nat.le_of_ble_eq_true rfl) hlocks (by rw [hT9]; decide) (by rw [hT9, zN_1]) (Nat.le_of_ble_eq_true rfl) (Nat.le_of_ble_eq_true rfl)
  · skip
    have c_1 : ¬ x < 0 := c_1
    refine lv_iload_n hx hb dX5_needPerson_4 rfl (lv_at hl 0 rfl) ?_
    refine lv_bipush (v := nI 8) hx hb dX5_needPerson_5 (by decide) ?_
    refine lv_icmp_lt (tgt := 20) hx hb dX5_needPerson_7 (by decide) (fun c_2 => ?_) (fun c_2 => ?_)
    · skip
      have c_2 : x < nI 8 := c_2
      have hT9 : kNeedP x = nI 0 := (by simp [kNeedP, c_1, c_2])
      have hP9 := hP
      have hD9 := hD
      refine W.widen (k := 1) (n := 6) (Nat.le_of_ble_eq_true rfl) (Nat.le_of_ble_eq_true rfl) ?_
      exact vx_ret (W.vret hx hb hr (fun t ht hW => ⟨⟨(), rfl, hT9, by rw [ht]; exact hP9, va_K.moved hW.alike hK, hD9⟩, hS.F ht⟩) hS.2.2 dX5_needPerson_20)
    · skip
      have c_2 : ¬ x < nI 8 := c_2
      have hT9 : kNeedP x = nI 1 := (by simp [kNeedP, c_1, c_2])
      exact zx_throw (own := RX5) (cls := "java/lang/IndexOutOfBoundsException") (text := "no such person") (names := ["java/lang/RuntimeException", "java/lang/Exception"]) hx hb hl9 hown (by decide +kernel) (by decide +kernel) (hts (.classLink RX5 129 "java/lang/IndexOutOfBoundsException") (List.mem_of_getElem? (i := 1) rfl)) (hts (.initialized "java/lang/IndexOutOfBoundsException") (List.mem_of_getElem? (i := 2) rfl)) (hE.2.1 (225, "no such person") (List.mem_of_getElem? (i := 20) rfl)) (vx_hat (L := vx_atS RX5 133 "java/lang/IndexOutOfBoundsException" ["java/lang/RuntimeException", "java/lang/Exception"]) (B := [.castable "java/lang/IndexOutOfBoundsException" "java/lang/IndexOutOfBoundsException", .declares ⟨"java/lang/RuntimeException", "<init>", "(Ljava/lang/String;)V"⟩, .declares ⟨"java/lang/Exception", "<init>", "(Ljava/lang/String;)V"⟩, .declares ⟨"java/lang/Throwable", "<init>", "(Ljava/lang/String;)V"⟩]) (fun w hw => hts w ((by decide +kernel : ∀ w ∈ (vx_atS RX5 133 "java/lang/IndexOutOfBoundsException" ["java/lang/RuntimeException", "java/lang/Exception"]).filter goodWord, w ∈ wsX5_needPerson) w hw)) (by decide +kernel) (vx_c (va_Nw.use rfl (hE.1 (.castable "java/lang/IndexOutOfBoundsException" "java/lang/IndexOutOfBoundsException") (List.mem_of_getElem? (i := 38) rfl))) (vx_c (va_Nw.use rfl (hE.1 (.declares ⟨"java/lang/RuntimeException", "<init>", "(Ljava/lang/String;)V"⟩) (List.mem_of_getElem? (i := 41) rfl))) (vx_c (va_Nw.use rfl (hE.1 (.declares ⟨"java/lang/Exception", "<init>", "(Ljava/lang/String;)V"⟩) (List.mem_of_getElem? (i := 42) rfl))) (vx_c (va_Nw.use rfl (hE.1 (.declares ⟨"java/lang/Throwable", "<init>", "(Ljava/lang/String;)V"⟩) (List.mem_of_getElem? (i := 43) rfl))) (vx_n)))))) (by decide +kernel) hE hP hK hD hS (hl.1.trans hml.symm) dX5_needPerson_10 dX5_needPerson_13 dX5_needPerson_14 dX5_needPerson_16 dX5_needPerson_19 ht9 (Nat.le_of_ble_eq_true rfl) (Nat.le_of_ble_eq_true rfl) (Nat.le_of_ble_eq_true rfl) (Nat.le_of_ble_eq_true rfl) hlocks (by rw [hT9]; decide) (by rw [hT9, zN_1]) (Nat.le_of_ble_eq_true rfl) (Nat.le_of_ble_eq_true rfl)
set_option maxHeartbeats 4000000 in
set_option maxRecDepth 100000 in
theorem kX5_needRow (l : Launch) (hl9 : l.stackTraces = false) (D : va_G) (cI cZ : ClassId) (ad : Nat → Nat) (K : kS) (sz : Nat) (x : Int32)  : zMv l yX5_needRow wsX5_needRow ({ frames := 6, cells := 1, slots := 6, locals := 82 }) [.int x] D (zTy cI cZ) [] [] sz (kNeedR x) 1 6 := by
  refine vx_ofW (cc := cX5_needRow) (maxL := 1) (ret := none) (by decide) rfl ?_
  intro pP e s m args below meth c s₁ B hml ht9 hv
  obtain ⟨rfl, hsz, hP, hK, hD0, hE0⟩ := hv
  have hx := B.exec
  have hb := B.bytes
  have hr := B.returns
  have hts := atoms_spec (ws := wsX5_needRow) B.pre
  have hown : s.vm.findClass RX5 = some m.cls := findClass_of_methodNamed B.named
  have hlocks := B.notSynchronized
  subst hsz
  have hD := hD0.self (sz := s.heap.size)
  generalize hAe : va_A [] s.heap.size = A at hD hE0 ⊢
  have hE := hE0
  have hA : ∀ q : Nat, s.heap.size ≤ q → A q := fun q h => by rw [← hAe]; exact Or.inr h
  have hS : va_S A s.heap s.heap [] := va_S.rf
  have hl := lv_entry ([.int x]) (n := 1) (Nat.le_of_ble_eq_true rfl)
  rw [lg_entry_eq]
  generalize (lg_sl ([.int x]) ++ List.replicate (1 - (lg_sl ([.int x])).length) Slot.unset).toArray = ls at hl ⊢
  have hl : lv_has ls 1 [(0, .int x)] := hl
  refine lv_iload_n hx hb dX5_needRow_0 rfl (lv_at hl 0 rfl) ?_
  refine lv_if_lt (tgt := 10) hx hb dX5_needRow_1 (by decide) (fun c_1 => ?_) (fun c_1 => ?_)
  · skip
    have c_1 : x < 0 := c_1
    have hT9 : kNeedR x = nI 1 := (by simp [kNeedR, c_1])
    exact zx_throw (own := RX5) (cls := "java/lang/IndexOutOfBoundsException") (text := "no such row") (names := ["java/lang/RuntimeException", "java/lang/Exception"]) hx hb hl9 hown (by decide +kernel) (by decide +kernel) (hts (.classLink RX5 129 "java/lang/IndexOutOfBoundsException") (List.mem_of_getElem? (i := 1) rfl)) (hts (.initialized "java/lang/IndexOutOfBoundsException") (List.mem_of_getElem? (i := 2) rfl)) (hE.2.1 (227, "no such row") (List.mem_of_getElem? (i := 21) rfl)) (vx_hat (L := vx_atS RX5 133 "java/lang/IndexOutOfBoundsException" ["java/lang/RuntimeException", "java/lang/Exception"]) (B := [.castable "java/lang/IndexOutOfBoundsException" "java/lang/IndexOutOfBoundsException", .declares ⟨"java/lang/RuntimeException", "<init>", "(Ljava/lang/String;)V"⟩, .declares ⟨"java/lang/Exception", "<init>", "(Ljava/lang/String;)V"⟩, .declares ⟨"java/lang/Throwable", "<init>", "(Ljava/lang/String;)V"⟩]) (fun w hw => hts w ((by decide +kernel : ∀ w ∈ (vx_atS RX5 133 "java/lang/IndexOutOfBoundsException" ["java/lang/RuntimeException", "java/lang/Exception"]).filter goodWord, w ∈ wsX5_needRow) w hw)) (by decide +kernel) (vx_c (va_Nw.use rfl (hE.1 (.castable "java/lang/IndexOutOfBoundsException" "java/lang/IndexOutOfBoundsException") (List.mem_of_getElem? (i := 38) rfl))) (vx_c (va_Nw.use rfl (hE.1 (.declares ⟨"java/lang/RuntimeException", "<init>", "(Ljava/lang/String;)V"⟩) (List.mem_of_getElem? (i := 41) rfl))) (vx_c (va_Nw.use rfl (hE.1 (.declares ⟨"java/lang/Exception", "<init>", "(Ljava/lang/String;)V"⟩) (List.mem_of_getElem? (i := 42) rfl))) (vx_c (va_Nw.use rfl (hE.1 (.declares ⟨"java/lang/Throwable", "<init>", "(Ljava/lang/String;)V"⟩) (List.mem_of_getElem? (i := 43) rfl))) (vx_n)))))) (by decide +kernel) hE hP hK hD hS (hl.1.trans hml.symm) dX5_needRow_10 dX5_needRow_13 dX5_needRow_14 dX5_needRow_16 dX5_needRow_19 ht9 (Nat.le_of_ble_eq_true rfl) (Nat.le_of_ble_eq_true rfl) (Nat.le_of_ble_eq_true rfl) (Nat.le_of_ble_eq_true rfl) hlocks (by rw [hT9]; decide) (by rw [hT9, zN_1]) (Nat.le_of_ble_eq_true rfl) (Nat.le_of_ble_eq_true rfl)
  · skip
    have c_1 : ¬ x < 0 := c_1
    refine lv_iload_n hx hb dX5_needRow_4 rfl (lv_at hl 0 rfl) ?_
    refine lv_bipush (v := nI 6) hx hb dX5_needRow_5 (by decide) ?_
    refine lv_icmp_lt (tgt := 20) hx hb dX5_needRow_7 (by decide) (fun c_2 => ?_) (fun c_2 => ?_)
    · skip
      have c_2 : x < nI 6 := c_2
      have hT9 : kNeedR x = nI 0 := (by simp [kNeedR, c_1, c_2])
      have hP9 := hP
      have hD9 := hD
      refine W.widen (k := 1) (n := 6) (Nat.le_of_ble_eq_true rfl) (Nat.le_of_ble_eq_true rfl) ?_
      exact vx_ret (W.vret hx hb hr (fun t ht hW => ⟨⟨(), rfl, hT9, by rw [ht]; exact hP9, va_K.moved hW.alike hK, hD9⟩, hS.F ht⟩) hS.2.2 dX5_needRow_20)
    · skip
      have c_2 : ¬ x < nI 6 := c_2
      have hT9 : kNeedR x = nI 1 := (by simp [kNeedR, c_1, c_2])
      exact zx_throw (own := RX5) (cls := "java/lang/IndexOutOfBoundsException") (text := "no such row") (names := ["java/lang/RuntimeException", "java/lang/Exception"]) hx hb hl9 hown (by decide +kernel) (by decide +kernel) (hts (.classLink RX5 129 "java/lang/IndexOutOfBoundsException") (List.mem_of_getElem? (i := 1) rfl)) (hts (.initialized "java/lang/IndexOutOfBoundsException") (List.mem_of_getElem? (i := 2) rfl)) (hE.2.1 (227, "no such row") (List.mem_of_getElem? (i := 21) rfl)) (vx_hat (L := vx_atS RX5 133 "java/lang/IndexOutOfBoundsException" ["java/lang/RuntimeException", "java/lang/Exception"]) (B := [.castable "java/lang/IndexOutOfBoundsException" "java/lang/IndexOutOfBoundsException", .declares ⟨"java/lang/RuntimeException", "<init>", "(Ljava/lang/String;)V"⟩, .declares ⟨"java/lang/Exception", "<init>", "(Ljava/lang/String;)V"⟩, .declares ⟨"java/lang/Throwable", "<init>", "(Ljava/lang/String;)V"⟩]) (fun w hw => hts w ((by decide +kernel : ∀ w ∈ (vx_atS RX5 133 "java/lang/IndexOutOfBoundsException" ["java/lang/RuntimeException", "java/lang/Exception"]).filter goodWord, w ∈ wsX5_needRow) w hw)) (by decide +kernel) (vx_c (va_Nw.use rfl (hE.1 (.castable "java/lang/IndexOutOfBoundsException" "java/lang/IndexOutOfBoundsException") (List.mem_of_getElem? (i := 38) rfl))) (vx_c (va_Nw.use rfl (hE.1 (.declares ⟨"java/lang/RuntimeException", "<init>", "(Ljava/lang/String;)V"⟩) (List.mem_of_getElem? (i := 41) rfl))) (vx_c (va_Nw.use rfl (hE.1 (.declares ⟨"java/lang/Exception", "<init>", "(Ljava/lang/String;)V"⟩) (List.mem_of_getElem? (i := 42) rfl))) (vx_c (va_Nw.use rfl (hE.1 (.declares ⟨"java/lang/Throwable", "<init>", "(Ljava/lang/String;)V"⟩) (List.mem_of_getElem? (i := 43) rfl))) (vx_n)))))) (by decide +kernel) hE hP hK hD hS (hl.1.trans hml.symm) dX5_needRow_10 dX5_needRow_13 dX5_needRow_14 dX5_needRow_16 dX5_needRow_19 ht9 (Nat.le_of_ble_eq_true rfl) (Nat.le_of_ble_eq_true rfl) (Nat.le_of_ble_eq_true rfl) (Nat.le_of_ble_eq_true rfl) hlocks (by rw [hT9]; decide) (by rw [hT9, zN_1]) (Nat.le_of_ble_eq_true rfl) (Nat.le_of_ble_eq_true rfl)
set_option maxHeartbeats 4000000 in
set_option maxRecDepth 100000 in
theorem kX5_needSeat (l : Launch) (hl9 : l.stackTraces = false) (D : va_G) (cI cZ : ClassId) (ad : Nat → Nat) (K : kS) (sz : Nat) (x : Int32)  : zMv l yX5_needSeat wsX5_needSeat ({ frames := 6, cells := 1, slots := 6, locals := 82 }) [.int x] D (zTy cI cZ) [] [] sz (kNeedS x) 1 6 := by
  refine vx_ofW (cc := cX5_needSeat) (maxL := 1) (ret := none) (by decide) rfl ?_
  intro pP e s m args below meth c s₁ B hml ht9 hv
  obtain ⟨rfl, hsz, hP, hK, hD0, hE0⟩ := hv
  have hx := B.exec
  have hb := B.bytes
  have hr := B.returns
  have hts := atoms_spec (ws := wsX5_needSeat) B.pre
  have hown : s.vm.findClass RX5 = some m.cls := findClass_of_methodNamed B.named
  have hlocks := B.notSynchronized
  subst hsz
  have hD := hD0.self (sz := s.heap.size)
  generalize hAe : va_A [] s.heap.size = A at hD hE0 ⊢
  have hE := hE0
  have hA : ∀ q : Nat, s.heap.size ≤ q → A q := fun q h => by rw [← hAe]; exact Or.inr h
  have hS : va_S A s.heap s.heap [] := va_S.rf
  have hl := lv_entry ([.int x]) (n := 1) (Nat.le_of_ble_eq_true rfl)
  rw [lg_entry_eq]
  generalize (lg_sl ([.int x]) ++ List.replicate (1 - (lg_sl ([.int x])).length) Slot.unset).toArray = ls at hl ⊢
  have hl : lv_has ls 1 [(0, .int x)] := hl
  refine lv_iload_n hx hb dX5_needSeat_0 rfl (lv_at hl 0 rfl) ?_
  refine lv_if_lt (tgt := 10) hx hb dX5_needSeat_1 (by decide) (fun c_1 => ?_) (fun c_1 => ?_)
  · skip
    have c_1 : x < 0 := c_1
    have hT9 : kNeedS x = nI 1 := (by simp [kNeedS, c_1])
    exact zx_throw (own := RX5) (cls := "java/lang/IndexOutOfBoundsException") (text := "no such seat") (names := ["java/lang/RuntimeException", "java/lang/Exception"]) hx hb hl9 hown (by decide +kernel) (by decide +kernel) (hts (.classLink RX5 129 "java/lang/IndexOutOfBoundsException") (List.mem_of_getElem? (i := 1) rfl)) (hts (.initialized "java/lang/IndexOutOfBoundsException") (List.mem_of_getElem? (i := 2) rfl)) (hE.2.1 (229, "no such seat") (List.mem_of_getElem? (i := 22) rfl)) (vx_hat (L := vx_atS RX5 133 "java/lang/IndexOutOfBoundsException" ["java/lang/RuntimeException", "java/lang/Exception"]) (B := [.castable "java/lang/IndexOutOfBoundsException" "java/lang/IndexOutOfBoundsException", .declares ⟨"java/lang/RuntimeException", "<init>", "(Ljava/lang/String;)V"⟩, .declares ⟨"java/lang/Exception", "<init>", "(Ljava/lang/String;)V"⟩, .declares ⟨"java/lang/Throwable", "<init>", "(Ljava/lang/String;)V"⟩]) (fun w hw => hts w ((by decide +kernel : ∀ w ∈ (vx_atS RX5 133 "java/lang/IndexOutOfBoundsException" ["java/lang/RuntimeException", "java/lang/Exception"]).filter goodWord, w ∈ wsX5_needSeat) w hw)) (by decide +kernel) (vx_c (va_Nw.use rfl (hE.1 (.castable "java/lang/IndexOutOfBoundsException" "java/lang/IndexOutOfBoundsException") (List.mem_of_getElem? (i := 38) rfl))) (vx_c (va_Nw.use rfl (hE.1 (.declares ⟨"java/lang/RuntimeException", "<init>", "(Ljava/lang/String;)V"⟩) (List.mem_of_getElem? (i := 41) rfl))) (vx_c (va_Nw.use rfl (hE.1 (.declares ⟨"java/lang/Exception", "<init>", "(Ljava/lang/String;)V"⟩) (List.mem_of_getElem? (i := 42) rfl))) (vx_c (va_Nw.use rfl (hE.1 (.declares ⟨"java/lang/Throwable", "<init>", "(Ljava/lang/String;)V"⟩) (List.mem_of_getElem? (i := 43) rfl))) (vx_n)))))) (by decide +kernel) hE hP hK hD hS (hl.1.trans hml.symm) dX5_needSeat_10 dX5_needSeat_13 dX5_needSeat_14 dX5_needSeat_16 dX5_needSeat_19 ht9 (Nat.le_of_ble_eq_true rfl) (Nat.le_of_ble_eq_true rfl) (Nat.le_of_ble_eq_true rfl) (Nat.le_of_ble_eq_true rfl) hlocks (by rw [hT9]; decide) (by rw [hT9, zN_1]) (Nat.le_of_ble_eq_true rfl) (Nat.le_of_ble_eq_true rfl)
  · skip
    have c_1 : ¬ x < 0 := c_1
    refine lv_iload_n hx hb dX5_needSeat_4 rfl (lv_at hl 0 rfl) ?_
    refine lv_bipush (v := nI 60) hx hb dX5_needSeat_5 (by decide) ?_
    refine lv_icmp_lt (tgt := 20) hx hb dX5_needSeat_7 (by decide) (fun c_2 => ?_) (fun c_2 => ?_)
    · skip
      have c_2 : x < nI 60 := c_2
      have hT9 : kNeedS x = nI 0 := (by simp [kNeedS, c_1, c_2])
      have hP9 := hP
      have hD9 := hD
      refine W.widen (k := 1) (n := 6) (Nat.le_of_ble_eq_true rfl) (Nat.le_of_ble_eq_true rfl) ?_
      exact vx_ret (W.vret hx hb hr (fun t ht hW => ⟨⟨(), rfl, hT9, by rw [ht]; exact hP9, va_K.moved hW.alike hK, hD9⟩, hS.F ht⟩) hS.2.2 dX5_needSeat_20)
    · skip
      have c_2 : ¬ x < nI 60 := c_2
      have hT9 : kNeedS x = nI 1 := (by simp [kNeedS, c_1, c_2])
      exact zx_throw (own := RX5) (cls := "java/lang/IndexOutOfBoundsException") (text := "no such seat") (names := ["java/lang/RuntimeException", "java/lang/Exception"]) hx hb hl9 hown (by decide +kernel) (by decide +kernel) (hts (.classLink RX5 129 "java/lang/IndexOutOfBoundsException") (List.mem_of_getElem? (i := 1) rfl)) (hts (.initialized "java/lang/IndexOutOfBoundsException") (List.mem_of_getElem? (i := 2) rfl)) (hE.2.1 (229, "no such seat") (List.mem_of_getElem? (i := 22) rfl)) (vx_hat (L := vx_atS RX5 133 "java/lang/IndexOutOfBoundsException" ["java/lang/RuntimeException", "java/lang/Exception"]) (B := [.castable "java/lang/IndexOutOfBoundsException" "java/lang/IndexOutOfBoundsException", .declares ⟨"java/lang/RuntimeException", "<init>", "(Ljava/lang/String;)V"⟩, .declares ⟨"java/lang/Exception", "<init>", "(Ljava/lang/String;)V"⟩, .declares ⟨"java/lang/Throwable", "<init>", "(Ljava/lang/String;)V"⟩]) (fun w hw => hts w ((by decide +kernel : ∀ w ∈ (vx_atS RX5 133 "java/lang/IndexOutOfBoundsException" ["java/lang/RuntimeException", "java/lang/Exception"]).filter goodWord, w ∈ wsX5_needSeat) w hw)) (by decide +kernel) (vx_c (va_Nw.use rfl (hE.1 (.castable "java/lang/IndexOutOfBoundsException" "java/lang/IndexOutOfBoundsException") (List.mem_of_getElem? (i := 38) rfl))) (vx_c (va_Nw.use rfl (hE.1 (.declares ⟨"java/lang/RuntimeException", "<init>", "(Ljava/lang/String;)V"⟩) (List.mem_of_getElem? (i := 41) rfl))) (vx_c (va_Nw.use rfl (hE.1 (.declares ⟨"java/lang/Exception", "<init>", "(Ljava/lang/String;)V"⟩) (List.mem_of_getElem? (i := 42) rfl))) (vx_c (va_Nw.use rfl (hE.1 (.declares ⟨"java/lang/Throwable", "<init>", "(Ljava/lang/String;)V"⟩) (List.mem_of_getElem? (i := 43) rfl))) (vx_n)))))) (by decide +kernel) hE hP hK hD hS (hl.1.trans hml.symm) dX5_needSeat_10 dX5_needSeat_13 dX5_needSeat_14 dX5_needSeat_16 dX5_needSeat_19 ht9 (Nat.le_of_ble_eq_true rfl) (Nat.le_of_ble_eq_true rfl) (Nat.le_of_ble_eq_true rfl) (Nat.le_of_ble_eq_true rfl) hlocks (by rw [hT9]; decide) (by rw [hT9, zN_1]) (Nat.le_of_ble_eq_true rfl) (Nat.le_of_ble_eq_true rfl)
set_option maxHeartbeats 4000000 in
set_option maxRecDepth 100000 in
theorem kX5_needCode (l : Launch) (hl9 : l.stackTraces = false) (D : va_G) (cI cZ : ClassId) (ad : Nat → Nat) (K : kS) (sz : Nat) (x : Int32) (n9 : Nat) (hn9 : n9 ≤ 10) (hc8 : K 2 0 = nI n9) : zMv l yX5_needCode wsX5_needCode ({ frames := 6, cells := 1, slots := 6, locals := 82 }) [.ref (ad 0), .int x] D (zTy cI cZ) (kwA ad cI cZ K) (kwA ad cI cZ K) sz (kNeedC K x) 1 6 := by
  refine vx_ofW (cc := cX5_needCode) (maxL := 2) (ret := none) (by decide) rfl ?_
  intro pP e s m args below meth c s₁ B hml ht9 hv
  obtain ⟨rfl, hsz, hP, hK, hD0, hE0⟩ := hv
  have hx := B.exec
  have hb := B.bytes
  have hr := B.returns
  have hts := atoms_spec (ws := wsX5_needCode) B.pre
  have hown : s.vm.findClass RX5 = some m.cls := findClass_of_methodNamed B.named
  have hlocks := B.notSynchronized
  subst hsz
  have hD := hD0.self (sz := s.heap.size)
  generalize hAe : va_A (kwA ad cI cZ K) s.heap.size = A at hD hE0 ⊢
  have hE := hE0
  have hA : ∀ q : Nat, s.heap.size ≤ q → A q := fun q h => by rw [← hAe]; exact Or.inr h
  have hS : va_S A s.heap s.heap [] := va_S.rf
  have hinX0 : ∀ w ∈ u_ws RX0 TX0 4, w ∈ wsX5_needCode := by decide +kernel
  have hinX5 : ∀ w ∈ u_ws RX5 TX5 9, w ∈ wsX5_needCode := by decide +kernel
  have hl := lv_entry ([.ref (ad 0), .int x]) (n := 2) (Nat.le_of_ble_eq_true rfl)
  rw [lg_entry_eq]
  generalize (lg_sl ([.ref (ad 0), .int x]) ++ List.replicate (2 - (lg_sl ([.ref (ad 0), .int x])).length) Slot.unset).toArray = ls at hl ⊢
  have hl : lv_has ls 2 [(0, .ref (ad 0)), (1, .int x)] := hl
  refine lv_iload_n hx hb dX5_needCode_0 rfl (lv_at hl 1 rfl) ?_
  refine lv_if_lt (tgt := 15) hx hb dX5_needCode_1 (by decide) (fun c_1 => ?_) (fun c_1 => ?_)
  · skip
    have c_1 : x < 0 := c_1
    have hT9 : kNeedC K x = nI 1 := (by simp [kNeedC, hc8, zseq, c_1])
    exact zx_throw (own := RX5) (cls := "java/lang/IndexOutOfBoundsException") (text := "no such code") (names := ["java/lang/RuntimeException", "java/lang/Exception"]) hx hb hl9 hown (by decide +kernel) (by decide +kernel) (hts (.classLink RX5 129 "java/lang/IndexOutOfBoundsException") (List.mem_of_getElem? (i := 1) rfl)) (hts (.initialized "java/lang/IndexOutOfBoundsException") (List.mem_of_getElem? (i := 2) rfl)) (hE.2.1 (231, "no such code") (List.mem_of_getElem? (i := 23) rfl)) (vx_hat (L := vx_atS RX5 133 "java/lang/IndexOutOfBoundsException" ["java/lang/RuntimeException", "java/lang/Exception"]) (B := [.castable "java/lang/IndexOutOfBoundsException" "java/lang/IndexOutOfBoundsException", .declares ⟨"java/lang/RuntimeException", "<init>", "(Ljava/lang/String;)V"⟩, .declares ⟨"java/lang/Exception", "<init>", "(Ljava/lang/String;)V"⟩, .declares ⟨"java/lang/Throwable", "<init>", "(Ljava/lang/String;)V"⟩]) (fun w hw => hts w ((by decide +kernel : ∀ w ∈ (vx_atS RX5 133 "java/lang/IndexOutOfBoundsException" ["java/lang/RuntimeException", "java/lang/Exception"]).filter goodWord, w ∈ wsX5_needCode) w hw)) (by decide +kernel) (vx_c (va_Nw.use rfl (hE.1 (.castable "java/lang/IndexOutOfBoundsException" "java/lang/IndexOutOfBoundsException") (List.mem_of_getElem? (i := 38) rfl))) (vx_c (va_Nw.use rfl (hE.1 (.declares ⟨"java/lang/RuntimeException", "<init>", "(Ljava/lang/String;)V"⟩) (List.mem_of_getElem? (i := 41) rfl))) (vx_c (va_Nw.use rfl (hE.1 (.declares ⟨"java/lang/Exception", "<init>", "(Ljava/lang/String;)V"⟩) (List.mem_of_getElem? (i := 42) rfl))) (vx_c (va_Nw.use rfl (hE.1 (.declares ⟨"java/lang/Throwable", "<init>", "(Ljava/lang/String;)V"⟩) (List.mem_of_getElem? (i := 43) rfl))) (vx_n)))))) (by decide +kernel) hE hP hK hD hS (hl.1.trans hml.symm) dX5_needCode_15 dX5_needCode_18 dX5_needCode_19 dX5_needCode_21 dX5_needCode_24 ht9 (Nat.le_of_ble_eq_true rfl) (Nat.le_of_ble_eq_true rfl) (Nat.le_of_ble_eq_true rfl) (Nat.le_of_ble_eq_true rfl) hlocks (by rw [hT9]; decide) (by rw [hT9, zN_1]) (Nat.le_of_ble_eq_true rfl) (Nat.le_of_ble_eq_true rfl)
  · skip
    have c_1 : ¬ x < 0 := c_1
    refine lv_iload_n hx hb dX5_needCode_4 rfl (lv_at hl 1 rfl) ?_
    refine lv_aload_n hx hb dX5_needCode_5 rfl (lv_at hl 0 rfl) ?_
    refine va_get (D := D) (ci := 5) (v := .ref (ad 2)) (C := RX5) (T := TX5) (N := 9) hx hb hts hinX5 hown hK hP 0 rfl rfl 4 (by decide) (hts (.fieldLink RX5 26 "AuditoriumKeys" "codes" "LAuditoriumKeys$Codes;") (List.mem_of_getElem? (i := 3) rfl)) (fun _ h9 => h9) rfl dX5_needCode_6 ?_
    refine va_getN (D := D) (ci := 0) (v := .int (K 2 0)) (C := RX0) (T := TX0) (N := 4) hx hb hts hinX0 hown hK hP 2 rfl rfl 0 (by decide) (va_Nw.use rfl (hE.1 (.fieldLinkNest RX5 87 "AuditoriumKeys$Codes" "count" "I" "AuditoriumKeys") (List.mem_of_getElem? (i := 1) rfl))) (fun _ h9 => h9) rfl dX5_needCode_9 ?_
    refine zz_top (y := nI n9) hc8 ?_
    refine lv_icmp_lt (tgt := 25) hx hb dX5_needCode_12 (by decide) (fun c_2 => ?_) (fun c_2 => ?_)
    · skip
      have c_2 : x < nI n9 := c_2
      have hT9 : kNeedC K x = nI 0 := (by simp [kNeedC, hc8, zseq, c_1, c_2])
      have hP9 := hP
      have hD9 := hD
      refine W.widen (k := 1) (n := 6) (Nat.le_of_ble_eq_true rfl) (Nat.le_of_ble_eq_true rfl) ?_
      exact vx_ret (W.vret hx hb hr (fun t ht hW => ⟨⟨(), rfl, hT9, by rw [ht]; exact hP9, va_K.moved hW.alike hK, hD9⟩, hS.F ht⟩) hS.2.2 dX5_needCode_25)
    · skip
      have c_2 : ¬ x < nI n9 := c_2
      have hT9 : kNeedC K x = nI 1 := (by simp [kNeedC, hc8, zseq, c_1, c_2])
      exact zx_throw (own := RX5) (cls := "java/lang/IndexOutOfBoundsException") (text := "no such code") (names := ["java/lang/RuntimeException", "java/lang/Exception"]) hx hb hl9 hown (by decide +kernel) (by decide +kernel) (hts (.classLink RX5 129 "java/lang/IndexOutOfBoundsException") (List.mem_of_getElem? (i := 1) rfl)) (hts (.initialized "java/lang/IndexOutOfBoundsException") (List.mem_of_getElem? (i := 2) rfl)) (hE.2.1 (231, "no such code") (List.mem_of_getElem? (i := 23) rfl)) (vx_hat (L := vx_atS RX5 133 "java/lang/IndexOutOfBoundsException" ["java/lang/RuntimeException", "java/lang/Exception"]) (B := [.castable "java/lang/IndexOutOfBoundsException" "java/lang/IndexOutOfBoundsException", .declares ⟨"java/lang/RuntimeException", "<init>", "(Ljava/lang/String;)V"⟩, .declares ⟨"java/lang/Exception", "<init>", "(Ljava/lang/String;)V"⟩, .declares ⟨"java/lang/Throwable", "<init>", "(Ljava/lang/String;)V"⟩]) (fun w hw => hts w ((by decide +kernel : ∀ w ∈ (vx_atS RX5 133 "java/lang/IndexOutOfBoundsException" ["java/lang/RuntimeException", "java/lang/Exception"]).filter goodWord, w ∈ wsX5_needCode) w hw)) (by decide +kernel) (vx_c (va_Nw.use rfl (hE.1 (.castable "java/lang/IndexOutOfBoundsException" "java/lang/IndexOutOfBoundsException") (List.mem_of_getElem? (i := 38) rfl))) (vx_c (va_Nw.use rfl (hE.1 (.declares ⟨"java/lang/RuntimeException", "<init>", "(Ljava/lang/String;)V"⟩) (List.mem_of_getElem? (i := 41) rfl))) (vx_c (va_Nw.use rfl (hE.1 (.declares ⟨"java/lang/Exception", "<init>", "(Ljava/lang/String;)V"⟩) (List.mem_of_getElem? (i := 42) rfl))) (vx_c (va_Nw.use rfl (hE.1 (.declares ⟨"java/lang/Throwable", "<init>", "(Ljava/lang/String;)V"⟩) (List.mem_of_getElem? (i := 43) rfl))) (vx_n)))))) (by decide +kernel) hE hP hK hD hS (hl.1.trans hml.symm) dX5_needCode_15 dX5_needCode_18 dX5_needCode_19 dX5_needCode_21 dX5_needCode_24 ht9 (Nat.le_of_ble_eq_true rfl) (Nat.le_of_ble_eq_true rfl) (Nat.le_of_ble_eq_true rfl) (Nat.le_of_ble_eq_true rfl) hlocks (by rw [hT9]; decide) (by rw [hT9, zN_1]) (Nat.le_of_ble_eq_true rfl) (Nat.le_of_ble_eq_true rfl)
set_option maxHeartbeats 4000000 in
set_option maxRecDepth 100000 in
theorem kX5_needHold (l : Launch) (hl9 : l.stackTraces = false) (D : va_G) (cI cZ : ClassId) (ad : Nat → Nat) (K : kS) (sz : Nat) (p : Nat) (hp : p < 8) : zMv l yX5_needHold wsX5_needHold ({ frames := 6, cells := 1, slots := 6, locals := 82 }) [.ref (ad 0), .int (nI p)] D (zTy cI cZ) (kwA ad cI cZ K) (kwA ad cI cZ K) sz (kNeedH K p) 1 6 := by
  refine vx_ofW (cc := cX5_needHold) (maxL := 2) (ret := none) (by decide) rfl ?_
  intro pP e s m args below meth c s₁ B hml ht9 hv
  obtain ⟨rfl, hsz, hP, hK, hD0, hE0⟩ := hv
  have hx := B.exec
  have hb := B.bytes
  have hr := B.returns
  have hts := atoms_spec (ws := wsX5_needHold) B.pre
  have hown : s.vm.findClass RX5 = some m.cls := findClass_of_methodNamed B.named
  have hlocks := B.notSynchronized
  subst hsz
  have hD := hD0.self (sz := s.heap.size)
  generalize hAe : va_A (kwA ad cI cZ K) s.heap.size = A at hD hE0 ⊢
  have hE := hE0
  have hA : ∀ q : Nat, s.heap.size ≤ q → A q := fun q h => by rw [← hAe]; exact Or.inr h
  have hS : va_S A s.heap s.heap [] := va_S.rf
  have hinX5 : ∀ w ∈ u_ws RX5 TX5 9, w ∈ wsX5_needHold := by decide +kernel
  have hl := lv_entry ([.ref (ad 0), .int (nI p)]) (n := 2) (Nat.le_of_ble_eq_true rfl)
  rw [lg_entry_eq]
  generalize (lg_sl ([.ref (ad 0), .int (nI p)]) ++ List.replicate (2 - (lg_sl ([.ref (ad 0), .int (nI p)])).length) Slot.unset).toArray = ls at hl ⊢
  have hl : lv_has ls 2 [(0, .ref (ad 0)), (1, .int (nI p))] := hl
  refine lv_aload_n hx hb dX5_needHold_0 rfl (lv_at hl 0 rfl) ?_
  refine va_get (D := D) (ci := 5) (v := .ref (ad 8)) (C := RX5) (T := TX5) (N := 9) hx hb hts hinX5 hown hK hP 0 rfl rfl 6 (by decide) (hts (.fieldLink RX5 40 "AuditoriumKeys" "holds" "LAuditoriumKeys$Holds;") (List.mem_of_getElem? (i := 3) rfl)) (fun _ h9 => h9) rfl dX5_needHold_1 ?_
  refine lv_iload_n hx hb dX5_needHold_4 rfl (lv_at hl 1 rfl) ?_
  refine zc_rVN (As := [.int (nI p)]) (rest := []) ⟨hx, hb, hml, hown, hts⟩ (kX1_isThere l D cI cZ ad K p (by omega)) ⟨va_cnB 1 hts gX5_needHold_X1_isThere_n70 rfl rfl rfl (hE.1 (.methodLinkNest RX5 70 yX1_isThere "AuditoriumKeys") (List.mem_of_getElem? (i := 15) rfl)) (hts (.initialized RX1) (List.mem_of_getElem? (i := 5) rfl)) (by decide +kernel) ⟨(Nat.le_of_ble_eq_true rfl), (Nat.le_of_ble_eq_true rfl)⟩, (hts (.instanceMethod yX1_isThere) (List.mem_of_getElem? (i := 4) rfl)), (hts (.selects RX1 yX1_isThere yX1_isThere) (List.mem_of_getElem? (i := 6) rfl))⟩ hK (hP.sub (ws' := (kwH ad cI K)) [8, 9, 10, 11, 12, 13, 14, 15] rfl) (ci := 1) (q0 := 0) rfl rfl rfl rfl hl.1 rfl (Nat.le_of_ble_eq_true rfl) dX5_needHold_5 ⟨Nat.le_of_ble_eq_true rfl, Nat.le_of_ble_eq_true rfl⟩ ?_
  refine lv_if_ne (tgt := 21) hx hb dX5_needHold_8 (by decide) (fun c_1 => ?_) (fun c_1 => ?_)
  · skip
    have c_1 := zb_t c_1
    have hT9 : kNeedH K p = nI 0 := (by simp [kNeedH, zseq, c_1])
    have hP9 := hP
    have hD9 := hD
    refine W.widen (k := 1) (n := 6) (Nat.le_of_ble_eq_true rfl) (Nat.le_of_ble_eq_true rfl) ?_
    exact vx_ret (W.vret hx hb hr (fun t ht hW => ⟨⟨(), rfl, hT9, by rw [ht]; exact hP9, va_K.moved hW.alike hK, hD9⟩, hS.F ht⟩) hS.2.2 dX5_needHold_21)
  · skip
    have c_1 := zb_f c_1
    have hT9 : kNeedH K p = nI 3 := (by simp [kNeedH, zseq, c_1])
    exact zx_throw (own := RX5) (cls := "java/lang/IllegalStateException") (text := "the person has no hold") (names := ["java/lang/RuntimeException", "java/lang/Exception"]) hx hb hl9 hown (by decide +kernel) (by decide +kernel) (hts (.classLink RX5 65 "java/lang/IllegalStateException") (List.mem_of_getElem? (i := 1) rfl)) (hts (.initialized "java/lang/IllegalStateException") (List.mem_of_getElem? (i := 2) rfl)) (hE.2.1 (233, "the person has no hold") (List.mem_of_getElem? (i := 24) rfl)) (vx_hat (L := vx_atS RX5 69 "java/lang/IllegalStateException" ["java/lang/RuntimeException", "java/lang/Exception"]) (B := [.castable "java/lang/IllegalStateException" "java/lang/IllegalStateException", .declares ⟨"java/lang/RuntimeException", "<init>", "(Ljava/lang/String;)V"⟩, .declares ⟨"java/lang/Exception", "<init>", "(Ljava/lang/String;)V"⟩, .declares ⟨"java/lang/Throwable", "<init>", "(Ljava/lang/String;)V"⟩]) (fun w hw => hts w ((by decide +kernel : ∀ w ∈ (vx_atS RX5 69 "java/lang/IllegalStateException" ["java/lang/RuntimeException", "java/lang/Exception"]).filter goodWord, w ∈ wsX5_needHold) w hw)) (by decide +kernel) (vx_c (va_Nw.use rfl (hE.1 (.castable "java/lang/IllegalStateException" "java/lang/IllegalStateException") (List.mem_of_getElem? (i := 40) rfl))) (vx_c (va_Nw.use rfl (hE.1 (.declares ⟨"java/lang/RuntimeException", "<init>", "(Ljava/lang/String;)V"⟩) (List.mem_of_getElem? (i := 41) rfl))) (vx_c (va_Nw.use rfl (hE.1 (.declares ⟨"java/lang/Exception", "<init>", "(Ljava/lang/String;)V"⟩) (List.mem_of_getElem? (i := 42) rfl))) (vx_c (va_Nw.use rfl (hE.1 (.declares ⟨"java/lang/Throwable", "<init>", "(Ljava/lang/String;)V"⟩) (List.mem_of_getElem? (i := 43) rfl))) (vx_n)))))) (by decide +kernel) hE hP hK hD hS (hl.1.trans hml.symm) dX5_needHold_11 dX5_needHold_14 dX5_needHold_15 dX5_needHold_17 dX5_needHold_20 ht9 (Nat.le_of_ble_eq_true rfl) (Nat.le_of_ble_eq_true rfl) (Nat.le_of_ble_eq_true rfl) (Nat.le_of_ble_eq_true rfl) hlocks (by rw [hT9]; decide) (by rw [hT9, zN_3]) (Nat.le_of_ble_eq_true rfl) (Nat.le_of_ble_eq_true rfl)
set_option maxHeartbeats 4000000 in
set_option maxRecDepth 100000 in
theorem kX5_needSeatsFor (l : Launch) (hl9 : l.stackTraces = false) (D : va_G) (cI cZ : ClassId) (ad : Nat → Nat) (K : kS) (sz : Nat) (a1 : Int32) (r9 : Nat) (q9 : Nat) (m9 : Nat) (hr9 : r9 < 6) (hqm : q9 + m9 ≤ 10) : zMv l yX5_needSeatsFor wsX5_needSeatsFor ({ frames := 6, cells := 1, slots := 6, locals := 82 }) [.ref (ad 0), .int a1, .int (nI r9), .int (nI q9), .int (nI m9)] D (zTy cI cZ) (kwA ad cI cZ K) (kwA ad cI cZ K) sz (kSeatsT K a1 r9 q9 m9) 1 6 := by
  refine vx_ofW (cc := cX5_needSeatsFor) (maxL := 6) (ret := none) (by decide) rfl ?_
  intro pP e s m args below meth c s₁ B hml ht9 hv
  obtain ⟨rfl, hsz, hP, hK, hD0, hE0⟩ := hv
  have hx := B.exec
  have hb := B.bytes
  have hr := B.returns
  have hts := atoms_spec (ws := wsX5_needSeatsFor) B.pre
  have hown : s.vm.findClass RX5 = some m.cls := findClass_of_methodNamed B.named
  have hlocks := B.notSynchronized
  subst hsz
  have hD := hD0.self (sz := s.heap.size)
  generalize hAe : va_A (kwA ad cI cZ K) s.heap.size = A at hD hE0 ⊢
  have hE := hE0
  have hA : ∀ q : Nat, s.heap.size ≤ q → A q := fun q h => by rw [← hAe]; exact Or.inr h
  have hS : va_S A s.heap s.heap [] := va_S.rf
  have hinX4 : ∀ w ∈ u_ws RX4 TX4 5, w ∈ wsX5_needSeatsFor := by decide +kernel
  have hinX5 : ∀ w ∈ u_ws RX5 TX5 9, w ∈ wsX5_needSeatsFor := by decide +kernel
  have hl := lv_entry ([.ref (ad 0), .int a1, .int (nI r9), .int (nI q9), .int (nI m9)]) (n := 6) (Nat.le_of_ble_eq_true rfl)
  rw [lg_entry_eq]
  generalize (lg_sl ([.ref (ad 0), .int a1, .int (nI r9), .int (nI q9), .int (nI m9)]) ++ List.replicate (6 - (lg_sl ([.ref (ad 0), .int a1, .int (nI r9), .int (nI q9), .int (nI m9)])).length) Slot.unset).toArray = ls at hl ⊢
  have hl : lv_has ls 6 [(0, .ref (ad 0)), (1, .int a1), (2, .int (nI r9)), (3, .int (nI q9)), (4, .int (nI m9))] := hl
  refine lv_iload_n hx hb dX5_needSeatsFor_0 rfl (lv_at hl 3 rfl) ?_
  refine lv_istore (lv' := [(5, .int (nI q9)), (0, .ref (ad 0)), (1, .int a1), (2, .int (nI r9)), (3, .int (nI q9)), (4, .int (nI m9))]) hx hb dX5_needSeatsFor_1 hl (by decide) rfl (fun ls hl => ?_)
  have lp_a : ∀ (n k : Nat), 0 ≤ k → k ≤ m9 → m9 - k < n → (kAllUp K a1 r9 q9 k = true) → ∀ (H : Heap) (locs : List Loc), va_P D vwCl (kwA ad cI cZ K) H → va_D A (kwA ad cI cZ K) → va_S A s.heap H locs → ∀ ls : Array Slot, lv_has ls 6 [(5, .int (nI (q9 + k))), (0, .ref (ad 0)), (1, .int a1), (2, .int (nI r9)), (3, .int (nI q9)), (4, .int (nI m9))] → W pP l e ({ frames := 6, cells := 1, slots := 6, locals := 82 } : Room) s m ([.ref (ad 0), .int a1, .int (nI r9), .int (nI q9), .int (nI m9)] : List Value).toArray below meth c H locs 0 0 (vx_MQ below (va_Qv (fun _ : Unit => kSeatsT K a1 r9 q9 m9 = nI 0) (fun _ => zPo D (zTy cI cZ) A (kwA ad cI cZ K)) A) (vx_X (fun _ : Unit => True) (zXc (kSeatsT K a1 r9 q9 m9) D (zTy cI cZ) A (kwA ad cI cZ K)) A) ([.ref (ad 0), .int a1, .int (nI r9), .int (nI q9), .int (nI m9)] : List Value).toArray s 1 6 A) (F0 m 3 ls []) := by
    intro n
    induction n with
    | zero => intro k _ _ h; exact absurd h (Nat.not_lt_zero _)
    | succ n ih_a =>
      intro k hlo_a hin_a hdn_a hal H locs hP hD hS ls hl
      refine lv_iload hx hb dX5_needSeatsFor_3 (lv_at hl 0 rfl) ?_
      refine lv_iload_n hx hb dX5_needSeatsFor_5 rfl (lv_at hl 4 rfl) ?_
      refine lv_iload hx hb dX5_needSeatsFor_6 (lv_at hl 5 rfl) ?_
      refine lv_iadd hx hb dX5_needSeatsFor_8 ?_
      refine zz_top (y := nI (q9 + m9)) ((nI_add q9 m9).trans (congrArg nI (by omega))) ?_
      refine lv_icmp_ge (tgt := 70) hx hb dX5_needSeatsFor_9 (by decide) (fun c_1 => ?_) (fun c_1 => ?_)
      · skip
        have c_1 := (nI_leI (a := (q9 + m9)) (b := (q9 + k)) (by omega) (by omega)).mp c_1
        have hk8 : k = m9 := by omega
        have hal2 : kAllUp K a1 r9 q9 m9 = true := by rw [← hk8]; exact hal
        refine lv_aload_n hx hb dX5_needSeatsFor_70 rfl (lv_at hl 1 rfl) ?_
        refine va_get (D := D) (ci := 5) (v := .ref (ad 16)) (C := RX5) (T := TX5) (N := 9) hx hb hts hinX5 hown hK hP 0 rfl rfl 7 (by decide) (hts (.fieldLink RX5 47 "AuditoriumKeys" "seats" "LAuditoriumKeys$Seats;") (List.mem_of_getElem? (i := 3) rfl)) (fun _ h9 => h9) rfl dX5_needSeatsFor_71 ?_
        refine lv_iload_n hx hb dX5_needSeatsFor_74 rfl (lv_at hl 3 rfl) ?_
        refine lv_iload_n hx hb dX5_needSeatsFor_75 rfl (lv_at hl 4 rfl) ?_
        refine lv_iload hx hb dX5_needSeatsFor_76 (lv_at hl 5 rfl) ?_
        refine zc_rVN (As := [.int (nI r9), .int (nI q9), .int (nI m9)]) (rest := []) ⟨hx, hb, hml, hown, hts⟩ (kX4_leavesSingle l D cI cZ ad K r9 q9 m9 (by omega)) ⟨va_cnB 3 hts gX5_needSeatsFor_X4_leavesSingle_n239 rfl rfl rfl (hE.1 (.methodLinkNest RX5 239 yX4_leavesSingle "AuditoriumKeys") (List.mem_of_getElem? (i := 32) rfl)) (hts (.initialized RX4) (List.mem_of_getElem? (i := 5) rfl)) (by decide +kernel) ⟨(Nat.le_of_ble_eq_true rfl), (Nat.le_of_ble_eq_true rfl)⟩, (hts (.instanceMethod yX4_leavesSingle) (List.mem_of_getElem? (i := 15) rfl)), (hts (.selects RX4 yX4_leavesSingle yX4_leavesSingle) (List.mem_of_getElem? (i := 16) rfl))⟩ hK (hP.sub (ws' := (kwS ad cI cZ K)) [16, 17, 18, 19, 20, 21] rfl) (ci := 4) (q0 := 0) rfl rfl rfl rfl hl.1 rfl (Nat.le_of_ble_eq_true rfl) dX5_needSeatsFor_78 ⟨Nat.le_of_ble_eq_true rfl, Nat.le_of_ble_eq_true rfl⟩ ?_
        refine lv_if_eq (tgt := 94) hx hb dX5_needSeatsFor_81 (by decide) (fun c_2 => ?_) (fun c_2 => ?_)
        · skip
          have c_2 := zb_f c_2
          have hT9 : kSeatsT K a1 r9 q9 m9 = nI 0 := (by simp [kSeatsT, zseq, hal, hin_a, c_1, hk8, hal2, c_2])
          have hP9 := hP
          have hD9 := hD
          refine W.widen (k := 1) (n := 6) (Nat.le_of_ble_eq_true rfl) (Nat.le_of_ble_eq_true rfl) ?_
          exact vx_ret (W.vret hx hb hr (fun t ht hW => ⟨⟨(), rfl, hT9, by rw [ht]; exact hP9, va_K.moved hW.alike hK, hD9⟩, hS.F ht⟩) hS.2.2 dX5_needSeatsFor_94)
        · skip
          have c_2 := zb_t c_2
          have hT9 : kSeatsT K a1 r9 q9 m9 = nI 3 := (by simp [kSeatsT, zseq, hal, hin_a, c_1, hk8, hal2, c_2])
          exact zx_throw (own := RX5) (cls := "java/lang/IllegalStateException") (text := "a seat would be single") (names := ["java/lang/RuntimeException", "java/lang/Exception"]) hx hb hl9 hown (by decide +kernel) (by decide +kernel) (hts (.classLink RX5 65 "java/lang/IllegalStateException") (List.mem_of_getElem? (i := 1) rfl)) (hts (.initialized "java/lang/IllegalStateException") (List.mem_of_getElem? (i := 2) rfl)) (hE.2.1 (243, "a seat would be single") (List.mem_of_getElem? (i := 27) rfl)) (vx_hat (L := vx_atS RX5 69 "java/lang/IllegalStateException" ["java/lang/RuntimeException", "java/lang/Exception"]) (B := [.castable "java/lang/IllegalStateException" "java/lang/IllegalStateException", .declares ⟨"java/lang/RuntimeException", "<init>", "(Ljava/lang/String;)V"⟩, .declares ⟨"java/lang/Exception", "<init>", "(Ljava/lang/String;)V"⟩, .declares ⟨"java/lang/Throwable", "<init>", "(Ljava/lang/String;)V"⟩]) (fun w hw => hts w ((by decide +kernel : ∀ w ∈ (vx_atS RX5 69 "java/lang/IllegalStateException" ["java/lang/RuntimeException", "java/lang/Exception"]).filter goodWord, w ∈ wsX5_needSeatsFor) w hw)) (by decide +kernel) (vx_c (va_Nw.use rfl (hE.1 (.castable "java/lang/IllegalStateException" "java/lang/IllegalStateException") (List.mem_of_getElem? (i := 40) rfl))) (vx_c (va_Nw.use rfl (hE.1 (.declares ⟨"java/lang/RuntimeException", "<init>", "(Ljava/lang/String;)V"⟩) (List.mem_of_getElem? (i := 41) rfl))) (vx_c (va_Nw.use rfl (hE.1 (.declares ⟨"java/lang/Exception", "<init>", "(Ljava/lang/String;)V"⟩) (List.mem_of_getElem? (i := 42) rfl))) (vx_c (va_Nw.use rfl (hE.1 (.declares ⟨"java/lang/Throwable", "<init>", "(Ljava/lang/String;)V"⟩) (List.mem_of_getElem? (i := 43) rfl))) (vx_n)))))) (by decide +kernel) hE hP hK hD hS (hl.1.trans hml.symm) dX5_needSeatsFor_84 dX5_needSeatsFor_87 dX5_needSeatsFor_88 dX5_needSeatsFor_90 dX5_needSeatsFor_93 ht9 (Nat.le_of_ble_eq_true rfl) (Nat.le_of_ble_eq_true rfl) (Nat.le_of_ble_eq_true rfl) (Nat.le_of_ble_eq_true rfl) hlocks (by rw [hT9]; decide) (by rw [hT9, zN_3]) (Nat.le_of_ble_eq_true rfl) (Nat.le_of_ble_eq_true rfl)
      · skip
        have c_1 : ¬ (q9 + m9) ≤ (q9 + k) := fun h => c_1 ((nI_leI (a := (q9 + m9)) (b := (q9 + k)) (by omega) (by omega)).mpr h)
        refine lv_aload_n hx hb dX5_needSeatsFor_12 rfl (lv_at hl 1 rfl) ?_
        refine va_get (D := D) (ci := 5) (v := .ref (ad 16)) (C := RX5) (T := TX5) (N := 9) hx hb hts hinX5 hown hK hP 0 rfl rfl 7 (by decide) (hts (.fieldLink RX5 47 "AuditoriumKeys" "seats" "LAuditoriumKeys$Seats;") (List.mem_of_getElem? (i := 3) rfl)) (fun _ h9 => h9) rfl dX5_needSeatsFor_13 ?_
        refine lv_iload_n hx hb dX5_needSeatsFor_16 rfl (lv_at hl 3 rfl) ?_
        refine lv_iload hx hb dX5_needSeatsFor_17 (lv_at hl 0 rfl) ?_
        refine zc_rVN (As := [.int (nI r9), .int (nI (q9 + k))]) (rest := []) ⟨hx, hb, hml, hown, hts⟩ (kX4_isOpen l D cI cZ ad K r9 (nI (q9 + k)) (by omega)) ⟨va_cnB 2 hts gX5_needSeatsFor_X4_isOpen_n198 rfl rfl rfl (hE.1 (.methodLinkNest RX5 198 yX4_isOpen "AuditoriumKeys") (List.mem_of_getElem? (i := 29) rfl)) (hts (.initialized RX4) (List.mem_of_getElem? (i := 5) rfl)) (by decide +kernel) ⟨(Nat.le_of_ble_eq_true rfl), (Nat.le_of_ble_eq_true rfl)⟩, (hts (.instanceMethod yX4_isOpen) (List.mem_of_getElem? (i := 4) rfl)), (hts (.selects RX4 yX4_isOpen yX4_isOpen) (List.mem_of_getElem? (i := 6) rfl))⟩ hK (hP.sub (ws' := (kwS ad cI cZ K)) [16, 17, 18, 19, 20, 21] rfl) (ci := 4) (q0 := 0) rfl rfl rfl rfl hl.1 rfl (Nat.le_of_ble_eq_true rfl) dX5_needSeatsFor_19 ⟨Nat.le_of_ble_eq_true rfl, Nat.le_of_ble_eq_true rfl⟩ ?_
        refine lv_if_ne (tgt := 35) hx hb dX5_needSeatsFor_22 (by decide) (fun c_3 => ?_) (fun c_3 => ?_)
        · skip
          have c_3 := zb_t c_3
          refine lv_aload_n hx hb dX5_needSeatsFor_35 rfl (lv_at hl 1 rfl) ?_
          refine va_get (D := D) (ci := 5) (v := .ref (ad 16)) (C := RX5) (T := TX5) (N := 9) hx hb hts hinX5 hown hK hP 0 rfl rfl 7 (by decide) (hts (.fieldLink RX5 47 "AuditoriumKeys" "seats" "LAuditoriumKeys$Seats;") (List.mem_of_getElem? (i := 3) rfl)) (fun _ h9 => h9) rfl dX5_needSeatsFor_36 ?_
          refine va_getN (D := D) (ci := 4) (v := .ref (ad 19)) (C := RX4) (T := TX4) (N := 5) hx hb hts hinX4 hown hK hP 16 rfl rfl 2 (by decide) (va_Nw.use rfl (hE.1 (.fieldLinkNest RX5 192 "AuditoriumKeys$Seats" "owner" "[I" "AuditoriumKeys") (List.mem_of_getElem? (i := 4) rfl))) (fun _ h9 => h9) rfl dX5_needSeatsFor_39 ?_
          refine lv_bipush (v := nI 10) hx hb dX5_needSeatsFor_42 (by decide) ?_
          refine lv_iload_n hx hb dX5_needSeatsFor_44 rfl (lv_at hl 3 rfl) ?_
          refine lv_imul hx hb dX5_needSeatsFor_45 ?_
          refine zz_top (y := nI (10 * r9)) ((pk_mul 10 r9).trans (congrArg nI (by first | rfl | omega | exact Nat.mul_comm _ _))) ?_
          refine lv_iload hx hb dX5_needSeatsFor_46 (lv_at hl 0 rfl) ?_
          refine lv_iadd hx hb dX5_needSeatsFor_48 ?_
          refine zz_top (y := nI (10 * r9 + (q9 + k))) ((nI_add (10 * r9) (q9 + k)).trans (congrArg nI (by omega))) ?_
          refine zz_iald hx hb hK hP 19 0 rfl rfl (10 * r9 + (q9 + k)) (by omega) (by decide) dX5_needSeatsFor_49 ?_
          refine lv_iload_n hx hb dX5_needSeatsFor_50 rfl (lv_at hl 2 rfl) ?_
          refine lv_icmp_ne (tgt := 64) hx hb dX5_needSeatsFor_51 (by decide) (fun c_4 => ?_) (fun c_4 => ?_)
          · skip
            have c_4 : ¬ K 19 (10 * r9 + (q9 + k)) = a1 := c_4
            refine lv_iinc (v := nI ((q9 + k) + 1)) (lv' := [(5, .int (nI ((q9 + k) + 1))), (0, .ref (ad 0)), (1, .int a1), (2, .int (nI r9)), (3, .int (nI q9)), (4, .int (nI m9))]) hx hb dX5_needSeatsFor_64 hl (k := 0) rfl ((show nI (q9 + k) + Int32.ofInt 1 = nI (q9 + k) + nI 1 from rfl).trans (nI_add _ _)) (by decide) rfl (fun ls hl => ?_)
            refine lv_goto (tgt := 3) hx hb dX5_needSeatsFor_67 (by decide) ?_
            exact ih_a (k + 1) (by omega) (by omega) (by omega) (by simp [kAllUp, hal, c_3, c_4]) _ _ hP hD hS ls (lv_sub hl [0, 1, 2, 3, 4, 5] rfl)
          · skip
            have c_4 : K 19 (10 * r9 + (q9 + k)) = a1 := c_4
            have hT9 : kSeatsT K a1 r9 q9 m9 = nI 3 := (by have hz := kAll_f (K := K) (a := a1) (r := r9) (q := q9) (k := k + 1) (by simp [kAllUp, c_3, eq_true c_4]) m9 (by omega); simp [kSeatsT, hz])
            exact zx_throw (own := RX5) (cls := "java/lang/IllegalStateException") (text := "a seat is the person's own") (names := ["java/lang/RuntimeException", "java/lang/Exception"]) hx hb hl9 hown (by decide +kernel) (by decide +kernel) (hts (.classLink RX5 65 "java/lang/IllegalStateException") (List.mem_of_getElem? (i := 1) rfl)) (hts (.initialized "java/lang/IllegalStateException") (List.mem_of_getElem? (i := 2) rfl)) (hE.2.1 (237, "a seat is the person's own") (List.mem_of_getElem? (i := 26) rfl)) (vx_hat (L := vx_atS RX5 69 "java/lang/IllegalStateException" ["java/lang/RuntimeException", "java/lang/Exception"]) (B := [.castable "java/lang/IllegalStateException" "java/lang/IllegalStateException", .declares ⟨"java/lang/RuntimeException", "<init>", "(Ljava/lang/String;)V"⟩, .declares ⟨"java/lang/Exception", "<init>", "(Ljava/lang/String;)V"⟩, .declares ⟨"java/lang/Throwable", "<init>", "(Ljava/lang/String;)V"⟩]) (fun w hw => hts w ((by decide +kernel : ∀ w ∈ (vx_atS RX5 69 "java/lang/IllegalStateException" ["java/lang/RuntimeException", "java/lang/Exception"]).filter goodWord, w ∈ wsX5_needSeatsFor) w hw)) (by decide +kernel) (vx_c (va_Nw.use rfl (hE.1 (.castable "java/lang/IllegalStateException" "java/lang/IllegalStateException") (List.mem_of_getElem? (i := 40) rfl))) (vx_c (va_Nw.use rfl (hE.1 (.declares ⟨"java/lang/RuntimeException", "<init>", "(Ljava/lang/String;)V"⟩) (List.mem_of_getElem? (i := 41) rfl))) (vx_c (va_Nw.use rfl (hE.1 (.declares ⟨"java/lang/Exception", "<init>", "(Ljava/lang/String;)V"⟩) (List.mem_of_getElem? (i := 42) rfl))) (vx_c (va_Nw.use rfl (hE.1 (.declares ⟨"java/lang/Throwable", "<init>", "(Ljava/lang/String;)V"⟩) (List.mem_of_getElem? (i := 43) rfl))) (vx_n)))))) (by decide +kernel) hE hP hK hD hS (hl.1.trans hml.symm) dX5_needSeatsFor_54 dX5_needSeatsFor_57 dX5_needSeatsFor_58 dX5_needSeatsFor_60 dX5_needSeatsFor_63 ht9 (Nat.le_of_ble_eq_true rfl) (Nat.le_of_ble_eq_true rfl) (Nat.le_of_ble_eq_true rfl) (Nat.le_of_ble_eq_true rfl) hlocks (by rw [hT9]; decide) (by rw [hT9, zN_3]) (Nat.le_of_ble_eq_true rfl) (Nat.le_of_ble_eq_true rfl)
        · skip
          have c_3 := zb_f c_3
          have hT9 : kSeatsT K a1 r9 q9 m9 = nI 3 := (by have hz := kAll_f (K := K) (a := a1) (r := r9) (q := q9) (k := k + 1) (by simp [kAllUp, c_3]) m9 (by omega); simp [kSeatsT, hz])
          exact zx_throw (own := RX5) (cls := "java/lang/IllegalStateException") (text := "a seat is not open") (names := ["java/lang/RuntimeException", "java/lang/Exception"]) hx hb hl9 hown (by decide +kernel) (by decide +kernel) (hts (.classLink RX5 65 "java/lang/IllegalStateException") (List.mem_of_getElem? (i := 1) rfl)) (hts (.initialized "java/lang/IllegalStateException") (List.mem_of_getElem? (i := 2) rfl)) (hE.2.1 (235, "a seat is not open") (List.mem_of_getElem? (i := 25) rfl)) (vx_hat (L := vx_atS RX5 69 "java/lang/IllegalStateException" ["java/lang/RuntimeException", "java/lang/Exception"]) (B := [.castable "java/lang/IllegalStateException" "java/lang/IllegalStateException", .declares ⟨"java/lang/RuntimeException", "<init>", "(Ljava/lang/String;)V"⟩, .declares ⟨"java/lang/Exception", "<init>", "(Ljava/lang/String;)V"⟩, .declares ⟨"java/lang/Throwable", "<init>", "(Ljava/lang/String;)V"⟩]) (fun w hw => hts w ((by decide +kernel : ∀ w ∈ (vx_atS RX5 69 "java/lang/IllegalStateException" ["java/lang/RuntimeException", "java/lang/Exception"]).filter goodWord, w ∈ wsX5_needSeatsFor) w hw)) (by decide +kernel) (vx_c (va_Nw.use rfl (hE.1 (.castable "java/lang/IllegalStateException" "java/lang/IllegalStateException") (List.mem_of_getElem? (i := 40) rfl))) (vx_c (va_Nw.use rfl (hE.1 (.declares ⟨"java/lang/RuntimeException", "<init>", "(Ljava/lang/String;)V"⟩) (List.mem_of_getElem? (i := 41) rfl))) (vx_c (va_Nw.use rfl (hE.1 (.declares ⟨"java/lang/Exception", "<init>", "(Ljava/lang/String;)V"⟩) (List.mem_of_getElem? (i := 42) rfl))) (vx_c (va_Nw.use rfl (hE.1 (.declares ⟨"java/lang/Throwable", "<init>", "(Ljava/lang/String;)V"⟩) (List.mem_of_getElem? (i := 43) rfl))) (vx_n)))))) (by decide +kernel) hE hP hK hD hS (hl.1.trans hml.symm) dX5_needSeatsFor_25 dX5_needSeatsFor_28 dX5_needSeatsFor_29 dX5_needSeatsFor_31 dX5_needSeatsFor_34 ht9 (Nat.le_of_ble_eq_true rfl) (Nat.le_of_ble_eq_true rfl) (Nat.le_of_ble_eq_true rfl) (Nat.le_of_ble_eq_true rfl) hlocks (by rw [hT9]; decide) (by rw [hT9, zN_3]) (Nat.le_of_ble_eq_true rfl) (Nat.le_of_ble_eq_true rfl)
  exact lp_a (m9 - 0 + 1) 0 (by omega) (by omega) (by omega) rfl _ _ hP hD hS ls (lv_sub hl [0, 1, 2, 3, 4, 5] rfl)
set_option maxHeartbeats 4000000 in
set_option maxRecDepth 100000 in
theorem kX5_needRightFor (l : Launch) (hl9 : l.stackTraces = false) (D : va_G) (cI cZ : ClassId) (ad : Nat → Nat) (K : kS) (sz : Nat) (p : Nat) (m1 : Int32) (c1 : Int32) (hp : p < 8) (hcc : c1 = (-1) ∨ ∃ n, n < 10 ∧ c1 = nI n) : zMv l yX5_needRightFor wsX5_needRightFor ({ frames := 6, cells := 1, slots := 6, locals := 82 }) [.ref (ad 0), .int (nI p), .int m1, .int c1] D (zTy cI cZ) (kwA ad cI cZ K) (kwA ad cI cZ K) sz (kRightT K p m1 c1) 1 6 := by
  refine vx_ofW (cc := cX5_needRightFor) (maxL := 4) (ret := none) (by decide) rfl ?_
  intro pP e s m args below meth c s₁ B hml ht9 hv
  obtain ⟨rfl, hsz, hP, hK, hD0, hE0⟩ := hv
  have hx := B.exec
  have hb := B.bytes
  have hr := B.returns
  have hts := atoms_spec (ws := wsX5_needRightFor) B.pre
  have hown : s.vm.findClass RX5 = some m.cls := findClass_of_methodNamed B.named
  have hlocks := B.notSynchronized
  subst hsz
  have hD := hD0.self (sz := s.heap.size)
  generalize hAe : va_A (kwA ad cI cZ K) s.heap.size = A at hD hE0 ⊢
  have hE := hE0
  have hA : ∀ q : Nat, s.heap.size ≤ q → A q := fun q h => by rw [← hAe]; exact Or.inr h
  have hS : va_S A s.heap s.heap [] := va_S.rf
  have hinX5 : ∀ w ∈ u_ws RX5 TX5 9, w ∈ wsX5_needRightFor := by decide +kernel
  have hl := lv_entry ([.ref (ad 0), .int (nI p), .int m1, .int c1]) (n := 4) (Nat.le_of_ble_eq_true rfl)
  rw [lg_entry_eq]
  generalize (lg_sl ([.ref (ad 0), .int (nI p), .int m1, .int c1]) ++ List.replicate (4 - (lg_sl ([.ref (ad 0), .int (nI p), .int m1, .int c1])).length) Slot.unset).toArray = ls at hl ⊢
  have hl : lv_has ls 4 [(0, .ref (ad 0)), (1, .int (nI p)), (2, .int m1), (3, .int c1)] := hl
  refine lv_iload_n hx hb dX5_needRightFor_0 rfl (lv_at hl 3 rfl) ?_
  refine lv_iconst (v := (-1)) hx hb dX5_needRightFor_1 (by decide) ?_
  refine lv_icmp_ne (tgt := 26) hx hb dX5_needRightFor_2 (by decide) (fun c_1 => ?_) (fun c_1 => ?_)
  · skip
    have c_1 : ¬ c1 = (-1) := c_1
    obtain ⟨n9, hn9, hn8⟩ := hcc.resolve_left c_1
    have hn7 : c1.toNatClampNeg = n9 := by rw [hn8]; exact nI_clamp (by omega)
    refine lv_aload_n hx hb dX5_needRightFor_26 rfl (lv_at hl 0 rfl) ?_
    refine va_get (D := D) (ci := 5) (v := .ref (ad 2)) (C := RX5) (T := TX5) (N := 9) hx hb hts hinX5 hown hK hP 0 rfl rfl 4 (by decide) (hts (.fieldLink RX5 26 "AuditoriumKeys" "codes" "LAuditoriumKeys$Codes;") (List.mem_of_getElem? (i := 5) rfl)) (fun _ h9 => h9) rfl dX5_needRightFor_27 ?_
    refine lv_iload_n hx hb dX5_needRightFor_30 rfl (lv_at hl 3 rfl) ?_
    refine zz_top (y := nI n9) hn8 ?_
    refine lv_iload_n hx hb dX5_needRightFor_31 rfl (lv_at hl 1 rfl) ?_
    refine lv_iload_n hx hb dX5_needRightFor_32 rfl (lv_at hl 2 rfl) ?_
    refine zc_rVN (As := [.int (nI n9), .int (nI p), .int m1]) (rest := []) ⟨hx, hb, hml, hown, hts⟩ (kX0_haveRoom l D cI cZ ad K n9 p m1 (by omega) (by omega)) ⟨va_cnB 3 hts gX5_needRightFor_X0_haveRoom_n247 rfl rfl rfl (hE.1 (.methodLinkNest RX5 247 yX0_haveRoom "AuditoriumKeys") (List.mem_of_getElem? (i := 33) rfl)) (hts (.initialized RX0) (List.mem_of_getElem? (i := 7) rfl)) (by decide +kernel) ⟨(Nat.le_of_ble_eq_true rfl), (Nat.le_of_ble_eq_true rfl)⟩, (hts (.instanceMethod yX0_haveRoom) (List.mem_of_getElem? (i := 6) rfl)), (hts (.selects RX0 yX0_haveRoom yX0_haveRoom) (List.mem_of_getElem? (i := 8) rfl))⟩ hK (hP.sub (ws' := (kwC ad cI K)) [2, 3, 4, 5] rfl) (ci := 0) (q0 := 0) rfl rfl rfl rfl hl.1 rfl (Nat.le_of_ble_eq_true rfl) dX5_needRightFor_33 ⟨Nat.le_of_ble_eq_true rfl, Nat.le_of_ble_eq_true rfl⟩ ?_
    refine lv_if_ne (tgt := 49) hx hb dX5_needRightFor_36 (by decide) (fun c_2 => ?_) (fun c_2 => ?_)
    · skip
      have c_2 := zb_t c_2
      have hT9 : kRightT K p m1 c1 = nI 0 := (by simp [kRightT, zseq, c_1, hn7, c_2])
      have hP9 := hP
      have hD9 := hD
      refine W.widen (k := 1) (n := 6) (Nat.le_of_ble_eq_true rfl) (Nat.le_of_ble_eq_true rfl) ?_
      exact vx_ret (W.vret hx hb hr (fun t ht hW => ⟨⟨(), rfl, hT9, by rw [ht]; exact hP9, va_K.moved hW.alike hK, hD9⟩, hS.F ht⟩) hS.2.2 dX5_needRightFor_49)
    · skip
      have c_2 := zb_f c_2
      have hT9 : kRightT K p m1 c1 = nI 3 := (by simp [kRightT, zseq, c_1, hn7, c_2])
      exact zx_throw (own := RX5) (cls := "java/lang/IllegalStateException") (text := "a limit of the code would be passed") (names := ["java/lang/RuntimeException", "java/lang/Exception"]) hx hb hl9 hown (by decide +kernel) (by decide +kernel) (hts (.classLink RX5 65 "java/lang/IllegalStateException") (List.mem_of_getElem? (i := 1) rfl)) (hts (.initialized "java/lang/IllegalStateException") (List.mem_of_getElem? (i := 2) rfl)) (hE.2.1 (250, "a limit of the code would be passed") (List.mem_of_getElem? (i := 29) rfl)) (vx_hat (L := vx_atS RX5 69 "java/lang/IllegalStateException" ["java/lang/RuntimeException", "java/lang/Exception"]) (B := [.castable "java/lang/IllegalStateException" "java/lang/IllegalStateException", .declares ⟨"java/lang/RuntimeException", "<init>", "(Ljava/lang/String;)V"⟩, .declares ⟨"java/lang/Exception", "<init>", "(Ljava/lang/String;)V"⟩, .declares ⟨"java/lang/Throwable", "<init>", "(Ljava/lang/String;)V"⟩]) (fun w hw => hts w ((by decide +kernel : ∀ w ∈ (vx_atS RX5 69 "java/lang/IllegalStateException" ["java/lang/RuntimeException", "java/lang/Exception"]).filter goodWord, w ∈ wsX5_needRightFor) w hw)) (by decide +kernel) (vx_c (va_Nw.use rfl (hE.1 (.castable "java/lang/IllegalStateException" "java/lang/IllegalStateException") (List.mem_of_getElem? (i := 40) rfl))) (vx_c (va_Nw.use rfl (hE.1 (.declares ⟨"java/lang/RuntimeException", "<init>", "(Ljava/lang/String;)V"⟩) (List.mem_of_getElem? (i := 41) rfl))) (vx_c (va_Nw.use rfl (hE.1 (.declares ⟨"java/lang/Exception", "<init>", "(Ljava/lang/String;)V"⟩) (List.mem_of_getElem? (i := 42) rfl))) (vx_c (va_Nw.use rfl (hE.1 (.declares ⟨"java/lang/Throwable", "<init>", "(Ljava/lang/String;)V"⟩) (List.mem_of_getElem? (i := 43) rfl))) (vx_n)))))) (by decide +kernel) hE hP hK hD hS (hl.1.trans hml.symm) dX5_needRightFor_39 dX5_needRightFor_42 dX5_needRightFor_43 dX5_needRightFor_45 dX5_needRightFor_48 ht9 (Nat.le_of_ble_eq_true rfl) (Nat.le_of_ble_eq_true rfl) (Nat.le_of_ble_eq_true rfl) (Nat.le_of_ble_eq_true rfl) hlocks (by rw [hT9]; decide) (by rw [hT9, zN_3]) (Nat.le_of_ble_eq_true rfl) (Nat.le_of_ble_eq_true rfl)
  · skip
    have c_1 : c1 = (-1) := c_1
    refine lv_aload_n hx hb dX5_needRightFor_5 rfl (lv_at hl 0 rfl) ?_
    refine va_get (D := D) (ci := 5) (v := .int (K 0 0)) (C := RX5) (T := TX5) (N := 9) hx hb hts hinX5 hown hK hP 0 rfl rfl 0 (by decide) (hts (.fieldLink RX5 9 "AuditoriumKeys" "now" "I") (List.mem_of_getElem? (i := 3) rfl)) (fun _ h9 => h9) rfl dX5_needRightFor_6 ?_
    refine lv_aload_n hx hb dX5_needRightFor_9 rfl (lv_at hl 0 rfl) ?_
    refine va_get (D := D) (ci := 5) (v := .int (K 0 1)) (C := RX5) (T := TX5) (N := 9) hx hb hts hinX5 hown hK hP 0 rfl rfl 1 (by decide) (hts (.fieldLink RX5 13 "AuditoriumKeys" "opening" "I") (List.mem_of_getElem? (i := 4) rfl)) (fun _ h9 => h9) rfl dX5_needRightFor_10 ?_
    refine lv_icmp_ge (tgt := 49) hx hb dX5_needRightFor_13 (by decide) (fun c_3 => ?_) (fun c_3 => ?_)
    · skip
      have c_3 : K 0 1 ≤ K 0 0 := c_3
      have hT9 : kRightT K p m1 c1 = nI 0 := (by simp [kRightT, zseq, eq_true c_1, c_3])
      have hP9 := hP
      have hD9 := hD
      refine W.widen (k := 1) (n := 6) (Nat.le_of_ble_eq_true rfl) (Nat.le_of_ble_eq_true rfl) ?_
      exact vx_ret (W.vret hx hb hr (fun t ht hW => ⟨⟨(), rfl, hT9, by rw [ht]; exact hP9, va_K.moved hW.alike hK, hD9⟩, hS.F ht⟩) hS.2.2 dX5_needRightFor_49)
    · skip
      have c_3 : ¬ K 0 1 ≤ K 0 0 := c_3
      have hT9 : kRightT K p m1 c1 = nI 3 := (by simp [kRightT, zseq, eq_true c_1, c_3])
      exact zx_throw (own := RX5) (cls := "java/lang/IllegalStateException") (text := "a code is needed") (names := ["java/lang/RuntimeException", "java/lang/Exception"]) hx hb hl9 hown (by decide +kernel) (by decide +kernel) (hts (.classLink RX5 65 "java/lang/IllegalStateException") (List.mem_of_getElem? (i := 1) rfl)) (hts (.initialized "java/lang/IllegalStateException") (List.mem_of_getElem? (i := 2) rfl)) (hE.2.1 (245, "a code is needed") (List.mem_of_getElem? (i := 28) rfl)) (vx_hat (L := vx_atS RX5 69 "java/lang/IllegalStateException" ["java/lang/RuntimeException", "java/lang/Exception"]) (B := [.castable "java/lang/IllegalStateException" "java/lang/IllegalStateException", .declares ⟨"java/lang/RuntimeException", "<init>", "(Ljava/lang/String;)V"⟩, .declares ⟨"java/lang/Exception", "<init>", "(Ljava/lang/String;)V"⟩, .declares ⟨"java/lang/Throwable", "<init>", "(Ljava/lang/String;)V"⟩]) (fun w hw => hts w ((by decide +kernel : ∀ w ∈ (vx_atS RX5 69 "java/lang/IllegalStateException" ["java/lang/RuntimeException", "java/lang/Exception"]).filter goodWord, w ∈ wsX5_needRightFor) w hw)) (by decide +kernel) (vx_c (va_Nw.use rfl (hE.1 (.castable "java/lang/IllegalStateException" "java/lang/IllegalStateException") (List.mem_of_getElem? (i := 40) rfl))) (vx_c (va_Nw.use rfl (hE.1 (.declares ⟨"java/lang/RuntimeException", "<init>", "(Ljava/lang/String;)V"⟩) (List.mem_of_getElem? (i := 41) rfl))) (vx_c (va_Nw.use rfl (hE.1 (.declares ⟨"java/lang/Exception", "<init>", "(Ljava/lang/String;)V"⟩) (List.mem_of_getElem? (i := 42) rfl))) (vx_c (va_Nw.use rfl (hE.1 (.declares ⟨"java/lang/Throwable", "<init>", "(Ljava/lang/String;)V"⟩) (List.mem_of_getElem? (i := 43) rfl))) (vx_n)))))) (by decide +kernel) hE hP hK hD hS (hl.1.trans hml.symm) dX5_needRightFor_16 dX5_needRightFor_19 dX5_needRightFor_20 dX5_needRightFor_22 dX5_needRightFor_25 ht9 (Nat.le_of_ble_eq_true rfl) (Nat.le_of_ble_eq_true rfl) (Nat.le_of_ble_eq_true rfl) (Nat.le_of_ble_eq_true rfl) hlocks (by rw [hT9]; decide) (by rw [hT9, zN_3]) (Nat.le_of_ble_eq_true rfl) (Nat.le_of_ble_eq_true rfl)
set_option maxHeartbeats 4000000 in
set_option maxRecDepth 100000 in
theorem kX5_giveBack (l : Launch) (hl9 : l.stackTraces = false) (D : va_G) (cI cZ : ClassId) (ad : Nat → Nat) (K : kS) (sz : Nat) (p : Nat) (f9 : Nat) (m9 : Nat) (hp : p < 8) (hf : K 9 p = nI f9) (hm : K 10 p = nI m9) (hfm : f9 + m9 ≤ 60) (hbc : K 11 p = (-1) ∨ ∃ c, c < 10 ∧ K 11 p = nI c) : zMi l yX5_giveBack wsX5_giveBack ({ frames := 1, cells := 0, slots := 0, locals := 23 }) [.ref (ad 0), .int (nI p)] D (zTy cI cZ) (kwA ad cI cZ K) (kwA ad cI cZ (kBack K p f9 m9)) sz (nI 0) (K 13 p) 0 0 := by
  refine vx_ofW (cc := cX5_giveBack) (maxL := 3) (ret := (some .int)) (by decide) rfl ?_
  intro pP e s m args below meth c s₁ B hml ht9 hv
  obtain ⟨rfl, hsz, hP, hK, hD0, hE0⟩ := hv
  have hx := B.exec
  have hb := B.bytes
  have hr := B.returns
  have hts := atoms_spec (ws := wsX5_giveBack) B.pre
  have hown : s.vm.findClass RX5 = some m.cls := findClass_of_methodNamed B.named
  have hlocks := B.notSynchronized
  subst hsz
  have hD := hD0.self (sz := s.heap.size)
  generalize hAe : va_A (kwA ad cI cZ K) s.heap.size = A at hD hE0 ⊢
  have hE := hE0
  have hA : ∀ q : Nat, s.heap.size ≤ q → A q := fun q h => by rw [← hAe]; exact Or.inr h
  have hS : va_S A s.heap s.heap [] := va_S.rf
  have hinX1 : ∀ w ∈ u_ws RX1 TX1 7, w ∈ wsX5_giveBack := by decide +kernel
  have hinX5 : ∀ w ∈ u_ws RX5 TX5 9, w ∈ wsX5_giveBack := by decide +kernel
  have hl := lv_entry ([.ref (ad 0), .int (nI p)]) (n := 3) (Nat.le_of_ble_eq_true rfl)
  rw [lg_entry_eq]
  generalize (lg_sl ([.ref (ad 0), .int (nI p)]) ++ List.replicate (3 - (lg_sl ([.ref (ad 0), .int (nI p)])).length) Slot.unset).toArray = ls at hl ⊢
  have hl : lv_has ls 3 [(0, .ref (ad 0)), (1, .int (nI p))] := hl
  refine lv_aload_n hx hb dX5_giveBack_0 rfl (lv_at hl 0 rfl) ?_
  refine va_get (D := D) (ci := 5) (v := .ref (ad 8)) (C := RX5) (T := TX5) (N := 9) hx hb hts hinX5 hown hK hP 0 rfl rfl 6 (by decide) (hts (.fieldLink RX5 40 "AuditoriumKeys" "holds" "LAuditoriumKeys$Holds;") (List.mem_of_getElem? (i := 1) rfl)) (fun _ h9 => h9) rfl dX5_giveBack_1 ?_
  refine va_getN (D := D) (ci := 1) (v := .ref (ad 13)) (C := RX1) (T := TX1) (N := 7) hx hb hts hinX1 hown hK hP 8 rfl rfl 4 (by decide) (va_Nw.use rfl (hE.1 (.fieldLinkNest RX5 177 "AuditoriumKeys$Holds" "paid" "[I" "AuditoriumKeys") (List.mem_of_getElem? (i := 3) rfl))) (fun _ h9 => h9) rfl dX5_giveBack_4 ?_
  refine lv_iload_n hx hb dX5_giveBack_7 rfl (lv_at hl 1 rfl) ?_
  refine zz_iald hx hb hK hP 13 0 rfl rfl p (by omega) (by decide) dX5_giveBack_8 ?_
  refine lv_istore_n (lv' := [(2, .int (K 13 p)), (0, .ref (ad 0)), (1, .int (nI p))]) hx hb dX5_giveBack_9 rfl hl (by decide) rfl (fun ls hl => ?_)
  refine lv_aload_n hx hb dX5_giveBack_10 rfl (lv_at hl 1 rfl) ?_
  refine va_get (D := D) (ci := 5) (v := .ref (ad 1)) (C := RX5) (T := TX5) (N := 9) hx hb hts hinX5 hown hK hP 0 rfl rfl 3 (by decide) (hts (.fieldLink RX5 19 "AuditoriumKeys" "outlay" "[I") (List.mem_of_getElem? (i := 2) rfl)) (fun _ h9 => h9) rfl dX5_giveBack_11 ?_
  refine lv_iload_n hx hb dX5_giveBack_14 rfl (lv_at hl 2 rfl) ?_
  refine lv_dup2_11 hx hb dX5_giveBack_15 rfl rfl ?_
  refine zz_iald hx hb hK hP 1 0 rfl rfl p (by omega) (by decide) dX5_giveBack_16 ?_
  refine lv_iload_n hx hb dX5_giveBack_17 rfl (lv_at hl 0 rfl) ?_
  refine lv_isub hx hb dX5_giveBack_18 ?_
  refine zz_iast hx hb hK hP hD hS 1 0 rfl rfl p (by omega) (by decide) dX5_giveBack_19 (fun H locs hP hD hS => ?_)
  have hP : va_P D vwCl (kwA ad cI cZ (setA K 1 (upd (K 1) p ((K 1 p) - (K 13 p))))) _ := hP
  have hD : va_D A (kwA ad cI cZ (setA K 1 (upd (K 1) p ((K 1 p) - (K 13 p))))) := hD
  refine lv_aload_n hx hb dX5_giveBack_20 rfl (lv_at hl 1 rfl) ?_
  refine va_get (D := D) (ci := 5) (v := .ref (ad 2)) (C := RX5) (T := TX5) (N := 9) hx hb hts hinX5 hown hK hP 0 rfl rfl 4 (by decide) (hts (.fieldLink RX5 26 "AuditoriumKeys" "codes" "LAuditoriumKeys$Codes;") (List.mem_of_getElem? (i := 3) rfl)) (fun _ h9 => h9) rfl dX5_giveBack_21 ?_
  refine lv_aload_n hx hb dX5_giveBack_24 rfl (lv_at hl 1 rfl) ?_
  refine va_get (D := D) (ci := 5) (v := .ref (ad 8)) (C := RX5) (T := TX5) (N := 9) hx hb hts hinX5 hown hK hP 0 rfl rfl 6 (by decide) (hts (.fieldLink RX5 40 "AuditoriumKeys" "holds" "LAuditoriumKeys$Holds;") (List.mem_of_getElem? (i := 1) rfl)) (fun _ h9 => h9) rfl dX5_giveBack_25 ?_
  refine va_getN (D := D) (ci := 1) (v := .ref (ad 11)) (C := RX1) (T := TX1) (N := 7) hx hb hts hinX1 hown hK hP 8 rfl rfl 2 (by decide) (va_Nw.use rfl (hE.1 (.fieldLinkNest RX5 252 "AuditoriumKeys$Holds" "code" "[I" "AuditoriumKeys") (List.mem_of_getElem? (i := 7) rfl))) (fun _ h9 => h9) rfl dX5_giveBack_28 ?_
  refine lv_iload_n hx hb dX5_giveBack_31 rfl (lv_at hl 2 rfl) ?_
  refine zz_iald hx hb hK hP 11 0 rfl rfl p (by omega) (by decide) dX5_giveBack_32 ?_
  refine lv_iload_n hx hb dX5_giveBack_33 rfl (lv_at hl 2 rfl) ?_
  refine lv_aload_n hx hb dX5_giveBack_34 rfl (lv_at hl 1 rfl) ?_
  refine va_get (D := D) (ci := 5) (v := .ref (ad 8)) (C := RX5) (T := TX5) (N := 9) hx hb hts hinX5 hown hK hP 0 rfl rfl 6 (by decide) (hts (.fieldLink RX5 40 "AuditoriumKeys" "holds" "LAuditoriumKeys$Holds;") (List.mem_of_getElem? (i := 1) rfl)) (fun _ h9 => h9) rfl dX5_giveBack_35 ?_
  refine va_getN (D := D) (ci := 1) (v := .ref (ad 10)) (C := RX1) (T := TX1) (N := 7) hx hb hts hinX1 hown hK hP 8 rfl rfl 1 (by decide) (va_Nw.use rfl (hE.1 (.fieldLinkNest RX5 255 "AuditoriumKeys$Holds" "many" "[I" "AuditoriumKeys") (List.mem_of_getElem? (i := 8) rfl))) (fun _ h9 => h9) rfl dX5_giveBack_38 ?_
  refine lv_iload_n hx hb dX5_giveBack_41 rfl (lv_at hl 2 rfl) ?_
  refine zz_iald hx hb hK hP 10 0 rfl rfl p (by omega) (by decide) dX5_giveBack_42 ?_
  refine zz_top (y := nI m9) hm ?_
  refine lv_ineg hx hb dX5_giveBack_43 ?_
  refine zc_wVNv (As := [.int (K 11 p), .int (nI p), .int (-(nI m9))]) (rest := []) (wr := [kc0 ad (setA K 1 (upd (K 1) p ((K 1 p) - (K 13 p)))), kc1 ad cI (setA K 1 (upd (K 1) p ((K 1 p) - (K 13 p)))), kc6 ad, kc7 ad cI (setA K 1 (upd (K 1) p ((K 1 p) - (K 13 p)))), kc8 ad, kc9 ad cI (setA K 1 (upd (K 1) p ((K 1 p) - (K 13 p)))), kc10 ad cI (setA K 1 (upd (K 1) p ((K 1 p) - (K 13 p)))), kc11 ad cI (setA K 1 (upd (K 1) p ((K 1 p) - (K 13 p)))), kc12 ad cI (setA K 1 (upd (K 1) p ((K 1 p) - (K 13 p)))), kc13 ad cI (setA K 1 (upd (K 1) p ((K 1 p) - (K 13 p)))), kc14 ad cI (setA K 1 (upd (K 1) p ((K 1 p) - (K 13 p)))), kc15 ad cI (setA K 1 (upd (K 1) p ((K 1 p) - (K 13 p)))), kc16 ad, kc17 ad cZ (setA K 1 (upd (K 1) p ((K 1 p) - (K 13 p)))), kc18 ad cZ (setA K 1 (upd (K 1) p ((K 1 p) - (K 13 p)))), kc19 ad cI (setA K 1 (upd (K 1) p ((K 1 p) - (K 13 p)))), kc20 ad cI (setA K 1 (upd (K 1) p ((K 1 p) - (K 13 p)))), kc21 ad cI (setA K 1 (upd (K 1) p ((K 1 p) - (K 13 p)))), kc22 ad (setA K 1 (upd (K 1) p ((K 1 p) - (K 13 p)))), kc23 ad cI (setA K 1 (upd (K 1) p ((K 1 p) - (K 13 p)))), kc24 ad cI (setA K 1 (upd (K 1) p ((K 1 p) - (K 13 p)))), kc25 ad cI (setA K 1 (upd (K 1) p ((K 1 p) - (K 13 p))))]) ⟨hx, hb, hml, hown, hts⟩ (kX0_tally l D cI cZ ad (setA K 1 (upd (K 1) p ((K 1 p) - (K 13 p)))) _ (K 11 p) p (-(nI m9)) (by omega) hbc) ⟨va_cnB 3 hts gX5_giveBack_X0_tally_n157 rfl rfl rfl (hE.1 (.methodLinkNest RX5 157 yX0_tally "AuditoriumKeys") (List.mem_of_getElem? (i := 22) rfl)) (hts (.initialized RX0) (List.mem_of_getElem? (i := 6) rfl)) (by decide +kernel) ⟨(Nat.le_of_ble_eq_true rfl), (Nat.le_of_ble_eq_true rfl)⟩, (hts (.instanceMethod yX0_tally) (List.mem_of_getElem? (i := 5) rfl)), (hts (.selects RX0 yX0_tally yX0_tally) (List.mem_of_getElem? (i := 7) rfl))⟩ hK hP hD hS hA [2, 3, 4, 5] [0, 1, 6, 7, 8, 9, 10, 11, 12, 13, 14, 15, 16, 17, 18, 19, 20, 21, 22, 23, 24, 25] rfl rfl rfl rfl rfl (by decide) (ci := 0) (q0 := 0) rfl rfl rfl rfl hl.1 rfl (Nat.le_of_ble_eq_true rfl) dX5_giveBack_44 ⟨Nat.le_of_ble_eq_true rfl, Nat.le_of_ble_eq_true rfl⟩ (fun H locs hP hD hS => ?_)
  have hP := hP.sub (ws' := [kc0 ad (setA K 1 (upd (K 1) p ((K 1 p) - (K 13 p)))), kc1 ad cI (setA K 1 (upd (K 1) p ((K 1 p) - (K 13 p)))), kc2 ad (kTally (setA K 1 (upd (K 1) p ((K 1 p) - (K 13 p)))) (K 11 p) p (-(nI m9))), kc3 ad cI (kTally (setA K 1 (upd (K 1) p ((K 1 p) - (K 13 p)))) (K 11 p) p (-(nI m9))), kc4 ad cI (kTally (setA K 1 (upd (K 1) p ((K 1 p) - (K 13 p)))) (K 11 p) p (-(nI m9))), kc5 ad cI (kTally (setA K 1 (upd (K 1) p ((K 1 p) - (K 13 p)))) (K 11 p) p (-(nI m9))), kc6 ad, kc7 ad cI (setA K 1 (upd (K 1) p ((K 1 p) - (K 13 p)))), kc8 ad, kc9 ad cI (setA K 1 (upd (K 1) p ((K 1 p) - (K 13 p)))), kc10 ad cI (setA K 1 (upd (K 1) p ((K 1 p) - (K 13 p)))), kc11 ad cI (setA K 1 (upd (K 1) p ((K 1 p) - (K 13 p)))), kc12 ad cI (setA K 1 (upd (K 1) p ((K 1 p) - (K 13 p)))), kc13 ad cI (setA K 1 (upd (K 1) p ((K 1 p) - (K 13 p)))), kc14 ad cI (setA K 1 (upd (K 1) p ((K 1 p) - (K 13 p)))), kc15 ad cI (setA K 1 (upd (K 1) p ((K 1 p) - (K 13 p)))), kc16 ad, kc17 ad cZ (setA K 1 (upd (K 1) p ((K 1 p) - (K 13 p)))), kc18 ad cZ (setA K 1 (upd (K 1) p ((K 1 p) - (K 13 p)))), kc19 ad cI (setA K 1 (upd (K 1) p ((K 1 p) - (K 13 p)))), kc20 ad cI (setA K 1 (upd (K 1) p ((K 1 p) - (K 13 p)))), kc21 ad cI (setA K 1 (upd (K 1) p ((K 1 p) - (K 13 p)))), kc22 ad (setA K 1 (upd (K 1) p ((K 1 p) - (K 13 p)))), kc23 ad cI (setA K 1 (upd (K 1) p ((K 1 p) - (K 13 p)))), kc24 ad cI (setA K 1 (upd (K 1) p ((K 1 p) - (K 13 p)))), kc25 ad cI (setA K 1 (upd (K 1) p ((K 1 p) - (K 13 p))))]) [0, 1, 22, 23, 24, 25, 2, 3, 4, 5, 6, 7, 8, 9, 10, 11, 12, 13, 14, 15, 16, 17, 18, 19, 20, 21] rfl
  have hD := hD.sub (ws' := [kc0 ad (setA K 1 (upd (K 1) p ((K 1 p) - (K 13 p)))), kc1 ad cI (setA K 1 (upd (K 1) p ((K 1 p) - (K 13 p)))), kc2 ad (kTally (setA K 1 (upd (K 1) p ((K 1 p) - (K 13 p)))) (K 11 p) p (-(nI m9))), kc3 ad cI (kTally (setA K 1 (upd (K 1) p ((K 1 p) - (K 13 p)))) (K 11 p) p (-(nI m9))), kc4 ad cI (kTally (setA K 1 (upd (K 1) p ((K 1 p) - (K 13 p)))) (K 11 p) p (-(nI m9))), kc5 ad cI (kTally (setA K 1 (upd (K 1) p ((K 1 p) - (K 13 p)))) (K 11 p) p (-(nI m9))), kc6 ad, kc7 ad cI (setA K 1 (upd (K 1) p ((K 1 p) - (K 13 p)))), kc8 ad, kc9 ad cI (setA K 1 (upd (K 1) p ((K 1 p) - (K 13 p)))), kc10 ad cI (setA K 1 (upd (K 1) p ((K 1 p) - (K 13 p)))), kc11 ad cI (setA K 1 (upd (K 1) p ((K 1 p) - (K 13 p)))), kc12 ad cI (setA K 1 (upd (K 1) p ((K 1 p) - (K 13 p)))), kc13 ad cI (setA K 1 (upd (K 1) p ((K 1 p) - (K 13 p)))), kc14 ad cI (setA K 1 (upd (K 1) p ((K 1 p) - (K 13 p)))), kc15 ad cI (setA K 1 (upd (K 1) p ((K 1 p) - (K 13 p)))), kc16 ad, kc17 ad cZ (setA K 1 (upd (K 1) p ((K 1 p) - (K 13 p)))), kc18 ad cZ (setA K 1 (upd (K 1) p ((K 1 p) - (K 13 p)))), kc19 ad cI (setA K 1 (upd (K 1) p ((K 1 p) - (K 13 p)))), kc20 ad cI (setA K 1 (upd (K 1) p ((K 1 p) - (K 13 p)))), kc21 ad cI (setA K 1 (upd (K 1) p ((K 1 p) - (K 13 p)))), kc22 ad (setA K 1 (upd (K 1) p ((K 1 p) - (K 13 p)))), kc23 ad cI (setA K 1 (upd (K 1) p ((K 1 p) - (K 13 p)))), kc24 ad cI (setA K 1 (upd (K 1) p ((K 1 p) - (K 13 p)))), kc25 ad cI (setA K 1 (upd (K 1) p ((K 1 p) - (K 13 p))))]) [0, 1, 22, 23, 24, 25, 2, 3, 4, 5, 6, 7, 8, 9, 10, 11, 12, 13, 14, 15, 16, 17, 18, 19, 20, 21] rfl rfl
  have hP : va_P D vwCl (kwA ad cI cZ (kTally (setA K 1 (upd (K 1) p ((K 1 p) - (K 13 p)))) (K 11 p) p (-(nI m9)))) _ := hP
  have hD : va_D A (kwA ad cI cZ (kTally (setA K 1 (upd (K 1) p ((K 1 p) - (K 13 p)))) (K 11 p) p (-(nI m9)))) := hD
  refine lv_aload_n hx hb dX5_giveBack_47 rfl (lv_at hl 1 rfl) ?_
  refine va_get (D := D) (ci := 5) (v := .ref (ad 16)) (C := RX5) (T := TX5) (N := 9) hx hb hts hinX5 hown hK hP 0 rfl rfl 7 (by decide) (hts (.fieldLink RX5 47 "AuditoriumKeys" "seats" "LAuditoriumKeys$Seats;") (List.mem_of_getElem? (i := 4) rfl)) (fun _ h9 => h9) rfl dX5_giveBack_48 ?_
  refine lv_aload_n hx hb dX5_giveBack_51 rfl (lv_at hl 1 rfl) ?_
  refine va_get (D := D) (ci := 5) (v := .ref (ad 8)) (C := RX5) (T := TX5) (N := 9) hx hb hts hinX5 hown hK hP 0 rfl rfl 6 (by decide) (hts (.fieldLink RX5 40 "AuditoriumKeys" "holds" "LAuditoriumKeys$Holds;") (List.mem_of_getElem? (i := 1) rfl)) (fun _ h9 => h9) rfl dX5_giveBack_52 ?_
  refine va_getN (D := D) (ci := 1) (v := .ref (ad 9)) (C := RX1) (T := TX1) (N := 7) hx hb hts hinX1 hown hK hP 8 rfl rfl 0 (by decide) (va_Nw.use rfl (hE.1 (.fieldLinkNest RX5 258 "AuditoriumKeys$Holds" "first" "[I" "AuditoriumKeys") (List.mem_of_getElem? (i := 9) rfl))) (fun _ h9 => h9) rfl dX5_giveBack_55 ?_
  refine lv_iload_n hx hb dX5_giveBack_58 rfl (lv_at hl 2 rfl) ?_
  refine zz_iald hx hb hK hP 9 0 rfl rfl p (by omega) (by decide) dX5_giveBack_59 ?_
  refine zz_top (y := nI f9) hf ?_
  refine lv_aload_n hx hb dX5_giveBack_60 rfl (lv_at hl 1 rfl) ?_
  refine va_get (D := D) (ci := 5) (v := .ref (ad 8)) (C := RX5) (T := TX5) (N := 9) hx hb hts hinX5 hown hK hP 0 rfl rfl 6 (by decide) (hts (.fieldLink RX5 40 "AuditoriumKeys" "holds" "LAuditoriumKeys$Holds;") (List.mem_of_getElem? (i := 1) rfl)) (fun _ h9 => h9) rfl dX5_giveBack_61 ?_
  refine va_getN (D := D) (ci := 1) (v := .ref (ad 10)) (C := RX1) (T := TX1) (N := 7) hx hb hts hinX1 hown hK hP 8 rfl rfl 1 (by decide) (va_Nw.use rfl (hE.1 (.fieldLinkNest RX5 255 "AuditoriumKeys$Holds" "many" "[I" "AuditoriumKeys") (List.mem_of_getElem? (i := 8) rfl))) (fun _ h9 => h9) rfl dX5_giveBack_64 ?_
  refine lv_iload_n hx hb dX5_giveBack_67 rfl (lv_at hl 2 rfl) ?_
  refine zz_iald hx hb hK hP 10 0 rfl rfl p (by omega) (by decide) dX5_giveBack_68 ?_
  refine zz_top (y := nI m9) hm ?_
  refine zc_wVNv (As := [.int (nI f9), .int (nI m9)]) (rest := []) (wr := [kc0 ad (kTally (setA K 1 (upd (K 1) p ((K 1 p) - (K 13 p)))) (K 11 p) p (-(nI m9))), kc1 ad cI (kTally (setA K 1 (upd (K 1) p ((K 1 p) - (K 13 p)))) (K 11 p) p (-(nI m9))), kc2 ad (kTally (setA K 1 (upd (K 1) p ((K 1 p) - (K 13 p)))) (K 11 p) p (-(nI m9))), kc3 ad cI (kTally (setA K 1 (upd (K 1) p ((K 1 p) - (K 13 p)))) (K 11 p) p (-(nI m9))), kc4 ad cI (kTally (setA K 1 (upd (K 1) p ((K 1 p) - (K 13 p)))) (K 11 p) p (-(nI m9))), kc5 ad cI (kTally (setA K 1 (upd (K 1) p ((K 1 p) - (K 13 p)))) (K 11 p) p (-(nI m9))), kc6 ad, kc7 ad cI (kTally (setA K 1 (upd (K 1) p ((K 1 p) - (K 13 p)))) (K 11 p) p (-(nI m9))), kc8 ad, kc9 ad cI (kTally (setA K 1 (upd (K 1) p ((K 1 p) - (K 13 p)))) (K 11 p) p (-(nI m9))), kc10 ad cI (kTally (setA K 1 (upd (K 1) p ((K 1 p) - (K 13 p)))) (K 11 p) p (-(nI m9))), kc11 ad cI (kTally (setA K 1 (upd (K 1) p ((K 1 p) - (K 13 p)))) (K 11 p) p (-(nI m9))), kc12 ad cI (kTally (setA K 1 (upd (K 1) p ((K 1 p) - (K 13 p)))) (K 11 p) p (-(nI m9))), kc13 ad cI (kTally (setA K 1 (upd (K 1) p ((K 1 p) - (K 13 p)))) (K 11 p) p (-(nI m9))), kc14 ad cI (kTally (setA K 1 (upd (K 1) p ((K 1 p) - (K 13 p)))) (K 11 p) p (-(nI m9))), kc15 ad cI (kTally (setA K 1 (upd (K 1) p ((K 1 p) - (K 13 p)))) (K 11 p) p (-(nI m9))), kc22 ad (kTally (setA K 1 (upd (K 1) p ((K 1 p) - (K 13 p)))) (K 11 p) p (-(nI m9))), kc23 ad cI (kTally (setA K 1 (upd (K 1) p ((K 1 p) - (K 13 p)))) (K 11 p) p (-(nI m9))), kc24 ad cI (kTally (setA K 1 (upd (K 1) p ((K 1 p) - (K 13 p)))) (K 11 p) p (-(nI m9))), kc25 ad cI (kTally (setA K 1 (upd (K 1) p ((K 1 p) - (K 13 p)))) (K 11 p) p (-(nI m9)))]) ⟨hx, hb, hml, hown, hts⟩ (kX4_unlock l D cI cZ ad (kTally (setA K 1 (upd (K 1) p ((K 1 p) - (K 13 p)))) (K 11 p) p (-(nI m9))) _ f9 m9 (by omega)) ⟨va_cnB 2 hts gX5_giveBack_X4_unlock_n261 rfl rfl rfl (hE.1 (.methodLinkNest RX5 261 yX4_unlock "AuditoriumKeys") (List.mem_of_getElem? (i := 34) rfl)) (hts (.initialized RX4) (List.mem_of_getElem? (i := 11) rfl)) (by decide +kernel) ⟨(Nat.le_of_ble_eq_true rfl), (Nat.le_of_ble_eq_true rfl)⟩, (hts (.instanceMethod yX4_unlock) (List.mem_of_getElem? (i := 10) rfl)), (hts (.selects RX4 yX4_unlock yX4_unlock) (List.mem_of_getElem? (i := 12) rfl))⟩ hK hP hD hS hA [16, 17, 18, 19, 20, 21] [0, 1, 2, 3, 4, 5, 6, 7, 8, 9, 10, 11, 12, 13, 14, 15, 22, 23, 24, 25] rfl rfl rfl rfl rfl (by decide) (ci := 4) (q0 := 0) rfl rfl rfl rfl hl.1 rfl (Nat.le_of_ble_eq_true rfl) dX5_giveBack_69 ⟨Nat.le_of_ble_eq_true rfl, Nat.le_of_ble_eq_true rfl⟩ (fun H locs hP hD hS => ?_)
  have hP := hP.sub (ws' := [kc0 ad (kTally (setA K 1 (upd (K 1) p ((K 1 p) - (K 13 p)))) (K 11 p) p (-(nI m9))), kc1 ad cI (kTally (setA K 1 (upd (K 1) p ((K 1 p) - (K 13 p)))) (K 11 p) p (-(nI m9))), kc2 ad (kTally (setA K 1 (upd (K 1) p ((K 1 p) - (K 13 p)))) (K 11 p) p (-(nI m9))), kc3 ad cI (kTally (setA K 1 (upd (K 1) p ((K 1 p) - (K 13 p)))) (K 11 p) p (-(nI m9))), kc4 ad cI (kTally (setA K 1 (upd (K 1) p ((K 1 p) - (K 13 p)))) (K 11 p) p (-(nI m9))), kc5 ad cI (kTally (setA K 1 (upd (K 1) p ((K 1 p) - (K 13 p)))) (K 11 p) p (-(nI m9))), kc6 ad, kc7 ad cI (kTally (setA K 1 (upd (K 1) p ((K 1 p) - (K 13 p)))) (K 11 p) p (-(nI m9))), kc8 ad, kc9 ad cI (kTally (setA K 1 (upd (K 1) p ((K 1 p) - (K 13 p)))) (K 11 p) p (-(nI m9))), kc10 ad cI (kTally (setA K 1 (upd (K 1) p ((K 1 p) - (K 13 p)))) (K 11 p) p (-(nI m9))), kc11 ad cI (kTally (setA K 1 (upd (K 1) p ((K 1 p) - (K 13 p)))) (K 11 p) p (-(nI m9))), kc12 ad cI (kTally (setA K 1 (upd (K 1) p ((K 1 p) - (K 13 p)))) (K 11 p) p (-(nI m9))), kc13 ad cI (kTally (setA K 1 (upd (K 1) p ((K 1 p) - (K 13 p)))) (K 11 p) p (-(nI m9))), kc14 ad cI (kTally (setA K 1 (upd (K 1) p ((K 1 p) - (K 13 p)))) (K 11 p) p (-(nI m9))), kc15 ad cI (kTally (setA K 1 (upd (K 1) p ((K 1 p) - (K 13 p)))) (K 11 p) p (-(nI m9))), kc16 ad, kc17 ad cZ (kUnlock (kTally (setA K 1 (upd (K 1) p ((K 1 p) - (K 13 p)))) (K 11 p) p (-(nI m9))) f9 m9), kc18 ad cZ (kUnlock (kTally (setA K 1 (upd (K 1) p ((K 1 p) - (K 13 p)))) (K 11 p) p (-(nI m9))) f9 m9), kc19 ad cI (kUnlock (kTally (setA K 1 (upd (K 1) p ((K 1 p) - (K 13 p)))) (K 11 p) p (-(nI m9))) f9 m9), kc20 ad cI (kUnlock (kTally (setA K 1 (upd (K 1) p ((K 1 p) - (K 13 p)))) (K 11 p) p (-(nI m9))) f9 m9), kc21 ad cI (kUnlock (kTally (setA K 1 (upd (K 1) p ((K 1 p) - (K 13 p)))) (K 11 p) p (-(nI m9))) f9 m9), kc22 ad (kTally (setA K 1 (upd (K 1) p ((K 1 p) - (K 13 p)))) (K 11 p) p (-(nI m9))), kc23 ad cI (kTally (setA K 1 (upd (K 1) p ((K 1 p) - (K 13 p)))) (K 11 p) p (-(nI m9))), kc24 ad cI (kTally (setA K 1 (upd (K 1) p ((K 1 p) - (K 13 p)))) (K 11 p) p (-(nI m9))), kc25 ad cI (kTally (setA K 1 (upd (K 1) p ((K 1 p) - (K 13 p)))) (K 11 p) p (-(nI m9)))]) [0, 1, 2, 3, 4, 5, 6, 7, 8, 9, 10, 11, 12, 13, 14, 15, 20, 21, 22, 23, 24, 25, 16, 17, 18, 19] rfl
  have hD := hD.sub (ws' := [kc0 ad (kTally (setA K 1 (upd (K 1) p ((K 1 p) - (K 13 p)))) (K 11 p) p (-(nI m9))), kc1 ad cI (kTally (setA K 1 (upd (K 1) p ((K 1 p) - (K 13 p)))) (K 11 p) p (-(nI m9))), kc2 ad (kTally (setA K 1 (upd (K 1) p ((K 1 p) - (K 13 p)))) (K 11 p) p (-(nI m9))), kc3 ad cI (kTally (setA K 1 (upd (K 1) p ((K 1 p) - (K 13 p)))) (K 11 p) p (-(nI m9))), kc4 ad cI (kTally (setA K 1 (upd (K 1) p ((K 1 p) - (K 13 p)))) (K 11 p) p (-(nI m9))), kc5 ad cI (kTally (setA K 1 (upd (K 1) p ((K 1 p) - (K 13 p)))) (K 11 p) p (-(nI m9))), kc6 ad, kc7 ad cI (kTally (setA K 1 (upd (K 1) p ((K 1 p) - (K 13 p)))) (K 11 p) p (-(nI m9))), kc8 ad, kc9 ad cI (kTally (setA K 1 (upd (K 1) p ((K 1 p) - (K 13 p)))) (K 11 p) p (-(nI m9))), kc10 ad cI (kTally (setA K 1 (upd (K 1) p ((K 1 p) - (K 13 p)))) (K 11 p) p (-(nI m9))), kc11 ad cI (kTally (setA K 1 (upd (K 1) p ((K 1 p) - (K 13 p)))) (K 11 p) p (-(nI m9))), kc12 ad cI (kTally (setA K 1 (upd (K 1) p ((K 1 p) - (K 13 p)))) (K 11 p) p (-(nI m9))), kc13 ad cI (kTally (setA K 1 (upd (K 1) p ((K 1 p) - (K 13 p)))) (K 11 p) p (-(nI m9))), kc14 ad cI (kTally (setA K 1 (upd (K 1) p ((K 1 p) - (K 13 p)))) (K 11 p) p (-(nI m9))), kc15 ad cI (kTally (setA K 1 (upd (K 1) p ((K 1 p) - (K 13 p)))) (K 11 p) p (-(nI m9))), kc16 ad, kc17 ad cZ (kUnlock (kTally (setA K 1 (upd (K 1) p ((K 1 p) - (K 13 p)))) (K 11 p) p (-(nI m9))) f9 m9), kc18 ad cZ (kUnlock (kTally (setA K 1 (upd (K 1) p ((K 1 p) - (K 13 p)))) (K 11 p) p (-(nI m9))) f9 m9), kc19 ad cI (kUnlock (kTally (setA K 1 (upd (K 1) p ((K 1 p) - (K 13 p)))) (K 11 p) p (-(nI m9))) f9 m9), kc20 ad cI (kUnlock (kTally (setA K 1 (upd (K 1) p ((K 1 p) - (K 13 p)))) (K 11 p) p (-(nI m9))) f9 m9), kc21 ad cI (kUnlock (kTally (setA K 1 (upd (K 1) p ((K 1 p) - (K 13 p)))) (K 11 p) p (-(nI m9))) f9 m9), kc22 ad (kTally (setA K 1 (upd (K 1) p ((K 1 p) - (K 13 p)))) (K 11 p) p (-(nI m9))), kc23 ad cI (kTally (setA K 1 (upd (K 1) p ((K 1 p) - (K 13 p)))) (K 11 p) p (-(nI m9))), kc24 ad cI (kTally (setA K 1 (upd (K 1) p ((K 1 p) - (K 13 p)))) (K 11 p) p (-(nI m9))), kc25 ad cI (kTally (setA K 1 (upd (K 1) p ((K 1 p) - (K 13 p)))) (K 11 p) p (-(nI m9)))]) [0, 1, 2, 3, 4, 5, 6, 7, 8, 9, 10, 11, 12, 13, 14, 15, 20, 21, 22, 23, 24, 25, 16, 17, 18, 19] rfl rfl
  have hP : va_P D vwCl (kwA ad cI cZ (kUnlock (kTally (setA K 1 (upd (K 1) p ((K 1 p) - (K 13 p)))) (K 11 p) p (-(nI m9))) f9 m9)) _ := hP
  have hD : va_D A (kwA ad cI cZ (kUnlock (kTally (setA K 1 (upd (K 1) p ((K 1 p) - (K 13 p)))) (K 11 p) p (-(nI m9))) f9 m9)) := hD
  refine lv_aload_n hx hb dX5_giveBack_72 rfl (lv_at hl 1 rfl) ?_
  refine va_get (D := D) (ci := 5) (v := .ref (ad 8)) (C := RX5) (T := TX5) (N := 9) hx hb hts hinX5 hown hK hP 0 rfl rfl 6 (by decide) (hts (.fieldLink RX5 40 "AuditoriumKeys" "holds" "LAuditoriumKeys$Holds;") (List.mem_of_getElem? (i := 1) rfl)) (fun _ h9 => h9) rfl dX5_giveBack_73 ?_
  refine lv_iload_n hx hb dX5_giveBack_76 rfl (lv_at hl 2 rfl) ?_
  refine zc_wVNv (As := [.int (nI p)]) (rest := []) (wr := [kc0 ad (kUnlock (kTally (setA K 1 (upd (K 1) p ((K 1 p) - (K 13 p)))) (K 11 p) p (-(nI m9))) f9 m9), kc1 ad cI (kUnlock (kTally (setA K 1 (upd (K 1) p ((K 1 p) - (K 13 p)))) (K 11 p) p (-(nI m9))) f9 m9), kc2 ad (kUnlock (kTally (setA K 1 (upd (K 1) p ((K 1 p) - (K 13 p)))) (K 11 p) p (-(nI m9))) f9 m9), kc3 ad cI (kUnlock (kTally (setA K 1 (upd (K 1) p ((K 1 p) - (K 13 p)))) (K 11 p) p (-(nI m9))) f9 m9), kc4 ad cI (kUnlock (kTally (setA K 1 (upd (K 1) p ((K 1 p) - (K 13 p)))) (K 11 p) p (-(nI m9))) f9 m9), kc5 ad cI (kUnlock (kTally (setA K 1 (upd (K 1) p ((K 1 p) - (K 13 p)))) (K 11 p) p (-(nI m9))) f9 m9), kc6 ad, kc7 ad cI (kUnlock (kTally (setA K 1 (upd (K 1) p ((K 1 p) - (K 13 p)))) (K 11 p) p (-(nI m9))) f9 m9), kc16 ad, kc17 ad cZ (kUnlock (kTally (setA K 1 (upd (K 1) p ((K 1 p) - (K 13 p)))) (K 11 p) p (-(nI m9))) f9 m9), kc18 ad cZ (kUnlock (kTally (setA K 1 (upd (K 1) p ((K 1 p) - (K 13 p)))) (K 11 p) p (-(nI m9))) f9 m9), kc19 ad cI (kUnlock (kTally (setA K 1 (upd (K 1) p ((K 1 p) - (K 13 p)))) (K 11 p) p (-(nI m9))) f9 m9), kc20 ad cI (kUnlock (kTally (setA K 1 (upd (K 1) p ((K 1 p) - (K 13 p)))) (K 11 p) p (-(nI m9))) f9 m9), kc21 ad cI (kUnlock (kTally (setA K 1 (upd (K 1) p ((K 1 p) - (K 13 p)))) (K 11 p) p (-(nI m9))) f9 m9), kc22 ad (kUnlock (kTally (setA K 1 (upd (K 1) p ((K 1 p) - (K 13 p)))) (K 11 p) p (-(nI m9))) f9 m9), kc23 ad cI (kUnlock (kTally (setA K 1 (upd (K 1) p ((K 1 p) - (K 13 p)))) (K 11 p) p (-(nI m9))) f9 m9), kc24 ad cI (kUnlock (kTally (setA K 1 (upd (K 1) p ((K 1 p) - (K 13 p)))) (K 11 p) p (-(nI m9))) f9 m9), kc25 ad cI (kUnlock (kTally (setA K 1 (upd (K 1) p ((K 1 p) - (K 13 p)))) (K 11 p) p (-(nI m9))) f9 m9)]) ⟨hx, hb, hml, hown, hts⟩ (kX1_end l D cI cZ ad (kUnlock (kTally (setA K 1 (upd (K 1) p ((K 1 p) - (K 13 p)))) (K 11 p) p (-(nI m9))) f9 m9) _ p (by omega)) ⟨va_cnB 1 hts gX5_giveBack_X1_end_n264 rfl rfl rfl (hE.1 (.methodLinkNest RX5 264 yX1_end "AuditoriumKeys") (List.mem_of_getElem? (i := 35) rfl)) (hts (.initialized RX1) (List.mem_of_getElem? (i := 16) rfl)) (by decide +kernel) ⟨(Nat.le_of_ble_eq_true rfl), (Nat.le_of_ble_eq_true rfl)⟩, (hts (.instanceMethod yX1_end) (List.mem_of_getElem? (i := 15) rfl)), (hts (.selects RX1 yX1_end yX1_end) (List.mem_of_getElem? (i := 17) rfl))⟩ hK hP hD hS hA [8, 9, 10, 11, 12, 13, 14, 15] [0, 1, 2, 3, 4, 5, 6, 7, 16, 17, 18, 19, 20, 21, 22, 23, 24, 25] rfl rfl rfl rfl rfl (by decide) (ci := 1) (q0 := 0) rfl rfl rfl rfl hl.1 rfl (Nat.le_of_ble_eq_true rfl) dX5_giveBack_77 ⟨Nat.le_of_ble_eq_true rfl, Nat.le_of_ble_eq_true rfl⟩ (fun H locs hP hD hS => ?_)
  have hP := hP.sub (ws' := [kc0 ad (kUnlock (kTally (setA K 1 (upd (K 1) p ((K 1 p) - (K 13 p)))) (K 11 p) p (-(nI m9))) f9 m9), kc1 ad cI (kUnlock (kTally (setA K 1 (upd (K 1) p ((K 1 p) - (K 13 p)))) (K 11 p) p (-(nI m9))) f9 m9), kc2 ad (kUnlock (kTally (setA K 1 (upd (K 1) p ((K 1 p) - (K 13 p)))) (K 11 p) p (-(nI m9))) f9 m9), kc3 ad cI (kUnlock (kTally (setA K 1 (upd (K 1) p ((K 1 p) - (K 13 p)))) (K 11 p) p (-(nI m9))) f9 m9), kc4 ad cI (kUnlock (kTally (setA K 1 (upd (K 1) p ((K 1 p) - (K 13 p)))) (K 11 p) p (-(nI m9))) f9 m9), kc5 ad cI (kUnlock (kTally (setA K 1 (upd (K 1) p ((K 1 p) - (K 13 p)))) (K 11 p) p (-(nI m9))) f9 m9), kc6 ad, kc7 ad cI (kUnlock (kTally (setA K 1 (upd (K 1) p ((K 1 p) - (K 13 p)))) (K 11 p) p (-(nI m9))) f9 m9), kc8 ad, kc9 ad cI (kEnd (kUnlock (kTally (setA K 1 (upd (K 1) p ((K 1 p) - (K 13 p)))) (K 11 p) p (-(nI m9))) f9 m9) p), kc10 ad cI (kEnd (kUnlock (kTally (setA K 1 (upd (K 1) p ((K 1 p) - (K 13 p)))) (K 11 p) p (-(nI m9))) f9 m9) p), kc11 ad cI (kEnd (kUnlock (kTally (setA K 1 (upd (K 1) p ((K 1 p) - (K 13 p)))) (K 11 p) p (-(nI m9))) f9 m9) p), kc12 ad cI (kEnd (kUnlock (kTally (setA K 1 (upd (K 1) p ((K 1 p) - (K 13 p)))) (K 11 p) p (-(nI m9))) f9 m9) p), kc13 ad cI (kEnd (kUnlock (kTally (setA K 1 (upd (K 1) p ((K 1 p) - (K 13 p)))) (K 11 p) p (-(nI m9))) f9 m9) p), kc14 ad cI (kEnd (kUnlock (kTally (setA K 1 (upd (K 1) p ((K 1 p) - (K 13 p)))) (K 11 p) p (-(nI m9))) f9 m9) p), kc15 ad cI (kEnd (kUnlock (kTally (setA K 1 (upd (K 1) p ((K 1 p) - (K 13 p)))) (K 11 p) p (-(nI m9))) f9 m9) p), kc16 ad, kc17 ad cZ (kUnlock (kTally (setA K 1 (upd (K 1) p ((K 1 p) - (K 13 p)))) (K 11 p) p (-(nI m9))) f9 m9), kc18 ad cZ (kUnlock (kTally (setA K 1 (upd (K 1) p ((K 1 p) - (K 13 p)))) (K 11 p) p (-(nI m9))) f9 m9), kc19 ad cI (kUnlock (kTally (setA K 1 (upd (K 1) p ((K 1 p) - (K 13 p)))) (K 11 p) p (-(nI m9))) f9 m9), kc20 ad cI (kUnlock (kTally (setA K 1 (upd (K 1) p ((K 1 p) - (K 13 p)))) (K 11 p) p (-(nI m9))) f9 m9), kc21 ad cI (kUnlock (kTally (setA K 1 (upd (K 1) p ((K 1 p) - (K 13 p)))) (K 11 p) p (-(nI m9))) f9 m9), kc22 ad (kUnlock (kTally (setA K 1 (upd (K 1) p ((K 1 p) - (K 13 p)))) (K 11 p) p (-(nI m9))) f9 m9), kc23 ad cI (kUnlock (kTally (setA K 1 (upd (K 1) p ((K 1 p) - (K 13 p)))) (K 11 p) p (-(nI m9))) f9 m9), kc24 ad cI (kUnlock (kTally (setA K 1 (upd (K 1) p ((K 1 p) - (K 13 p)))) (K 11 p) p (-(nI m9))) f9 m9), kc25 ad cI (kUnlock (kTally (setA K 1 (upd (K 1) p ((K 1 p) - (K 13 p)))) (K 11 p) p (-(nI m9))) f9 m9)]) [0, 1, 2, 3, 4, 5, 6, 7, 18, 19, 20, 21, 22, 23, 24, 25, 8, 9, 10, 11, 12, 13, 14, 15, 16, 17] rfl
  have hD := hD.sub (ws' := [kc0 ad (kUnlock (kTally (setA K 1 (upd (K 1) p ((K 1 p) - (K 13 p)))) (K 11 p) p (-(nI m9))) f9 m9), kc1 ad cI (kUnlock (kTally (setA K 1 (upd (K 1) p ((K 1 p) - (K 13 p)))) (K 11 p) p (-(nI m9))) f9 m9), kc2 ad (kUnlock (kTally (setA K 1 (upd (K 1) p ((K 1 p) - (K 13 p)))) (K 11 p) p (-(nI m9))) f9 m9), kc3 ad cI (kUnlock (kTally (setA K 1 (upd (K 1) p ((K 1 p) - (K 13 p)))) (K 11 p) p (-(nI m9))) f9 m9), kc4 ad cI (kUnlock (kTally (setA K 1 (upd (K 1) p ((K 1 p) - (K 13 p)))) (K 11 p) p (-(nI m9))) f9 m9), kc5 ad cI (kUnlock (kTally (setA K 1 (upd (K 1) p ((K 1 p) - (K 13 p)))) (K 11 p) p (-(nI m9))) f9 m9), kc6 ad, kc7 ad cI (kUnlock (kTally (setA K 1 (upd (K 1) p ((K 1 p) - (K 13 p)))) (K 11 p) p (-(nI m9))) f9 m9), kc8 ad, kc9 ad cI (kEnd (kUnlock (kTally (setA K 1 (upd (K 1) p ((K 1 p) - (K 13 p)))) (K 11 p) p (-(nI m9))) f9 m9) p), kc10 ad cI (kEnd (kUnlock (kTally (setA K 1 (upd (K 1) p ((K 1 p) - (K 13 p)))) (K 11 p) p (-(nI m9))) f9 m9) p), kc11 ad cI (kEnd (kUnlock (kTally (setA K 1 (upd (K 1) p ((K 1 p) - (K 13 p)))) (K 11 p) p (-(nI m9))) f9 m9) p), kc12 ad cI (kEnd (kUnlock (kTally (setA K 1 (upd (K 1) p ((K 1 p) - (K 13 p)))) (K 11 p) p (-(nI m9))) f9 m9) p), kc13 ad cI (kEnd (kUnlock (kTally (setA K 1 (upd (K 1) p ((K 1 p) - (K 13 p)))) (K 11 p) p (-(nI m9))) f9 m9) p), kc14 ad cI (kEnd (kUnlock (kTally (setA K 1 (upd (K 1) p ((K 1 p) - (K 13 p)))) (K 11 p) p (-(nI m9))) f9 m9) p), kc15 ad cI (kEnd (kUnlock (kTally (setA K 1 (upd (K 1) p ((K 1 p) - (K 13 p)))) (K 11 p) p (-(nI m9))) f9 m9) p), kc16 ad, kc17 ad cZ (kUnlock (kTally (setA K 1 (upd (K 1) p ((K 1 p) - (K 13 p)))) (K 11 p) p (-(nI m9))) f9 m9), kc18 ad cZ (kUnlock (kTally (setA K 1 (upd (K 1) p ((K 1 p) - (K 13 p)))) (K 11 p) p (-(nI m9))) f9 m9), kc19 ad cI (kUnlock (kTally (setA K 1 (upd (K 1) p ((K 1 p) - (K 13 p)))) (K 11 p) p (-(nI m9))) f9 m9), kc20 ad cI (kUnlock (kTally (setA K 1 (upd (K 1) p ((K 1 p) - (K 13 p)))) (K 11 p) p (-(nI m9))) f9 m9), kc21 ad cI (kUnlock (kTally (setA K 1 (upd (K 1) p ((K 1 p) - (K 13 p)))) (K 11 p) p (-(nI m9))) f9 m9), kc22 ad (kUnlock (kTally (setA K 1 (upd (K 1) p ((K 1 p) - (K 13 p)))) (K 11 p) p (-(nI m9))) f9 m9), kc23 ad cI (kUnlock (kTally (setA K 1 (upd (K 1) p ((K 1 p) - (K 13 p)))) (K 11 p) p (-(nI m9))) f9 m9), kc24 ad cI (kUnlock (kTally (setA K 1 (upd (K 1) p ((K 1 p) - (K 13 p)))) (K 11 p) p (-(nI m9))) f9 m9), kc25 ad cI (kUnlock (kTally (setA K 1 (upd (K 1) p ((K 1 p) - (K 13 p)))) (K 11 p) p (-(nI m9))) f9 m9)]) [0, 1, 2, 3, 4, 5, 6, 7, 18, 19, 20, 21, 22, 23, 24, 25, 8, 9, 10, 11, 12, 13, 14, 15, 16, 17] rfl rfl
  have hP : va_P D vwCl (kwA ad cI cZ (kEnd (kUnlock (kTally (setA K 1 (upd (K 1) p ((K 1 p) - (K 13 p)))) (K 11 p) p (-(nI m9))) f9 m9) p)) _ := hP
  have hD : va_D A (kwA ad cI cZ (kEnd (kUnlock (kTally (setA K 1 (upd (K 1) p ((K 1 p) - (K 13 p)))) (K 11 p) p (-(nI m9))) f9 m9) p)) := hD
  refine lv_iload_n hx hb dX5_giveBack_80 rfl (lv_at hl 0 rfl) ?_
  have hT9 : nI 0 = nI 0 := rfl
  have hP9 := hP
  have hD9 := hD
  have eK9 : (kBack K p f9 m9) = (kEnd (kUnlock (kTally (setA K 1 (upd (K 1) p ((K 1 p) - (K 13 p)))) (K 11 p) p (-(nI m9))) f9 m9) p) := rfl
  rw [← eK9] at hP9 hD9
  have eR9 : K 13 p = K 13 p := rfl
  exact vx_ret (W.iret (v := K 13 p) hx hb hr (fun t ht hW => ⟨⟨K 13 p, (), rfl, ⟨hT9, eR9⟩, by rw [ht]; exact hP9, va_K.moved hW.alike hK, hD9⟩, hS.F ht⟩) hS.2.2 dX5_giveBack_81)
set_option maxHeartbeats 4000000 in
set_option maxRecDepth 100000 in
theorem kX5_sell (l : Launch) (hl9 : l.stackTraces = false) (D : va_G) (cI cZ : ClassId) (ad : Nat → Nat) (K : kS) (sz : Nat) (p : Nat) (f9 : Nat) (m9 : Nat) (t9 : Nat) (hp : p < 8) (hf : K 9 p = nI f9) (hm : K 10 p = nI m9) (hfm : f9 + m9 ≤ 60) (how : kOwn K) (ht8 : t9 < 170) (hts9 : K 22 0 = nI t9) : zMv l yX5_sell wsX5_sell ({ frames := 1, cells := 0, slots := 0, locals := 23 }) [.ref (ad 0), .int (nI p)] D (zTy cI cZ) (kwA ad cI cZ K) (kwA ad cI cZ (kSold K p f9 m9 t9)) sz (nI 0) 0 0 := by
  refine vx_ofW (cc := cX5_sell) (maxL := 6) (ret := none) (by decide) rfl ?_
  intro pP e s m args below meth c s₁ B hml ht9 hv
  obtain ⟨rfl, hsz, hP, hK, hD0, hE0⟩ := hv
  have hx := B.exec
  have hb := B.bytes
  have hr := B.returns
  have hts := atoms_spec (ws := wsX5_sell) B.pre
  have hown : s.vm.findClass RX5 = some m.cls := findClass_of_methodNamed B.named
  have hlocks := B.notSynchronized
  subst hsz
  have hD := hD0.self (sz := s.heap.size)
  generalize hAe : va_A (kwA ad cI cZ K) s.heap.size = A at hD hE0 ⊢
  have hE := hE0
  have hA : ∀ q : Nat, s.heap.size ≤ q → A q := fun q h => by rw [← hAe]; exact Or.inr h
  have hS : va_S A s.heap s.heap [] := va_S.rf
  have hinX1 : ∀ w ∈ u_ws RX1 TX1 7, w ∈ wsX5_sell := by decide +kernel
  have hinX4 : ∀ w ∈ u_ws RX4 TX4 5, w ∈ wsX5_sell := by decide +kernel
  have hinX5 : ∀ w ∈ u_ws RX5 TX5 9, w ∈ wsX5_sell := by decide +kernel
  have hl := lv_entry ([.ref (ad 0), .int (nI p)]) (n := 6) (Nat.le_of_ble_eq_true rfl)
  rw [lg_entry_eq]
  generalize (lg_sl ([.ref (ad 0), .int (nI p)]) ++ List.replicate (6 - (lg_sl ([.ref (ad 0), .int (nI p)])).length) Slot.unset).toArray = ls at hl ⊢
  have hl : lv_has ls 6 [(0, .ref (ad 0)), (1, .int (nI p))] := hl
  refine lv_aload_n hx hb dX5_sell_0 rfl (lv_at hl 0 rfl) ?_
  refine va_get (D := D) (ci := 5) (v := .ref (ad 8)) (C := RX5) (T := TX5) (N := 9) hx hb hts hinX5 hown hK hP 0 rfl rfl 6 (by decide) (hts (.fieldLink RX5 40 "AuditoriumKeys" "holds" "LAuditoriumKeys$Holds;") (List.mem_of_getElem? (i := 1) rfl)) (fun _ h9 => h9) rfl dX5_sell_1 ?_
  refine va_getN (D := D) (ci := 1) (v := .ref (ad 9)) (C := RX1) (T := TX1) (N := 7) hx hb hts hinX1 hown hK hP 8 rfl rfl 0 (by decide) (va_Nw.use rfl (hE.1 (.fieldLinkNest RX5 258 "AuditoriumKeys$Holds" "first" "[I" "AuditoriumKeys") (List.mem_of_getElem? (i := 9) rfl))) (fun _ h9 => h9) rfl dX5_sell_4 ?_
  refine lv_iload_n hx hb dX5_sell_7 rfl (lv_at hl 1 rfl) ?_
  refine zz_iald hx hb hK hP 9 0 rfl rfl p (by omega) (by decide) dX5_sell_8 ?_
  refine zz_top (y := nI f9) hf ?_
  refine lv_istore_n (lv' := [(2, .int (nI f9)), (0, .ref (ad 0)), (1, .int (nI p))]) hx hb dX5_sell_9 rfl hl (by decide) rfl (fun ls hl => ?_)
  refine lv_aload_n hx hb dX5_sell_10 rfl (lv_at hl 1 rfl) ?_
  refine va_get (D := D) (ci := 5) (v := .ref (ad 8)) (C := RX5) (T := TX5) (N := 9) hx hb hts hinX5 hown hK hP 0 rfl rfl 6 (by decide) (hts (.fieldLink RX5 40 "AuditoriumKeys" "holds" "LAuditoriumKeys$Holds;") (List.mem_of_getElem? (i := 1) rfl)) (fun _ h9 => h9) rfl dX5_sell_11 ?_
  refine va_getN (D := D) (ci := 1) (v := .ref (ad 10)) (C := RX1) (T := TX1) (N := 7) hx hb hts hinX1 hown hK hP 8 rfl rfl 1 (by decide) (va_Nw.use rfl (hE.1 (.fieldLinkNest RX5 255 "AuditoriumKeys$Holds" "many" "[I" "AuditoriumKeys") (List.mem_of_getElem? (i := 8) rfl))) (fun _ h9 => h9) rfl dX5_sell_14 ?_
  refine lv_iload_n hx hb dX5_sell_17 rfl (lv_at hl 2 rfl) ?_
  refine zz_iald hx hb hK hP 10 0 rfl rfl p (by omega) (by decide) dX5_sell_18 ?_
  refine zz_top (y := nI m9) hm ?_
  refine lv_istore_n (lv' := [(3, .int (nI m9)), (2, .int (nI f9)), (0, .ref (ad 0)), (1, .int (nI p))]) hx hb dX5_sell_19 rfl hl (by decide) rfl (fun ls hl => ?_)
  refine lv_iload_n hx hb dX5_sell_20 rfl (lv_at hl 1 rfl) ?_
  refine lv_istore (lv' := [(4, .int (nI f9)), (3, .int (nI m9)), (2, .int (nI f9)), (0, .ref (ad 0)), (1, .int (nI p))]) hx hb dX5_sell_21 hl (by decide) rfl (fun ls hl => ?_)
  have lp_a : ∀ (n k : Nat), 0 ≤ k → k ≤ m9 → m9 - k < n → (kOwn (kSellS K p f9 k)) → ∀ (H : Heap) (locs : List Loc), va_P D vwCl (kwA ad cI cZ (kSellS K p f9 k)) H → va_D A (kwA ad cI cZ (kSellS K p f9 k)) → va_S A s.heap H locs → ∀ ls : Array Slot, lv_has ls 6 [(4, .int (nI (f9 + k))), (3, .int (nI m9)), (2, .int (nI f9)), (0, .ref (ad 0)), (1, .int (nI p))] → W pP l e ({ frames := 1, cells := 0, slots := 0, locals := 23 } : Room) s m ([.ref (ad 0), .int (nI p)] : List Value).toArray below meth c H locs 0 0 (vx_MQ below (va_Qv (fun _ : Unit => nI 0 = nI 0) (fun _ => zPo D (zTy cI cZ) A (kwA ad cI cZ (kSold K p f9 m9 t9))) A) (vx_X (fun _ : Unit => True) (zXc (nI 0) D (zTy cI cZ) A (kwA ad cI cZ K)) A) ([.ref (ad 0), .int (nI p)] : List Value).toArray s 0 0 A) (F0 m 23 ls []) := by
    intro n
    induction n with
    | zero => intro k _ _ h; exact absurd h (Nat.not_lt_zero _)
    | succ n ih_a =>
      intro k hlo_a hin_a hdn_a how2 H locs hP hD hS ls hl
      refine lv_iload hx hb dX5_sell_23 (lv_at hl 0 rfl) ?_
      refine lv_iload_n hx hb dX5_sell_25 rfl (lv_at hl 2 rfl) ?_
      refine lv_iload_n hx hb dX5_sell_26 rfl (lv_at hl 1 rfl) ?_
      refine lv_iadd hx hb dX5_sell_27 ?_
      refine zz_top (y := nI (f9 + m9)) ((nI_add f9 m9).trans (congrArg nI (by omega))) ?_
      refine lv_icmp_ge (tgt := 107) hx hb dX5_sell_28 (by decide) (fun c_1 => ?_) (fun c_1 => ?_)
      · skip
        have c_1 := (nI_leI (a := (f9 + m9)) (b := (f9 + k)) (by omega) (by omega)).mp c_1
        have hk8 : m9 = k := by omega
        subst hk8
        refine lv_aload_n hx hb dX5_sell_107 rfl (lv_at hl 3 rfl) ?_
        refine va_get (D := D) (ci := 5) (v := .ref (ad 22)) (C := RX5) (T := TX5) (N := 9) hx hb hts hinX5 hown hK hP 0 rfl rfl 8 (by decide) (hts (.fieldLink RX5 54 "AuditoriumKeys" "sales" "LAuditoriumKeys$Sales;") (List.mem_of_getElem? (i := 5) rfl)) (fun _ h9 => h9) rfl dX5_sell_108 ?_
        refine lv_iload_n hx hb dX5_sell_111 rfl (lv_at hl 2 rfl) ?_
        refine lv_iload_n hx hb dX5_sell_112 rfl (lv_at hl 1 rfl) ?_
        refine lv_iload_n hx hb dX5_sell_113 rfl (lv_at hl 4 rfl) ?_
        refine zc_wVNv (As := [.int (nI f9), .int (nI m9), .int (nI p)]) (rest := []) (wr := [kc0 ad (kSellS K p f9 m9), kc1 ad cI (kSellS K p f9 m9), kc2 ad (kSellS K p f9 m9), kc3 ad cI (kSellS K p f9 m9), kc4 ad cI (kSellS K p f9 m9), kc5 ad cI (kSellS K p f9 m9), kc6 ad, kc7 ad cI (kSellS K p f9 m9), kc8 ad, kc9 ad cI (kSellS K p f9 m9), kc10 ad cI (kSellS K p f9 m9), kc11 ad cI (kSellS K p f9 m9), kc12 ad cI (kSellS K p f9 m9), kc13 ad cI (kSellS K p f9 m9), kc14 ad cI (kSellS K p f9 m9), kc15 ad cI (kSellS K p f9 m9), kc16 ad, kc17 ad cZ (kSellS K p f9 m9), kc18 ad cZ (kSellS K p f9 m9), kc19 ad cI (kSellS K p f9 m9), kc20 ad cI (kSellS K p f9 m9), kc21 ad cI (kSellS K p f9 m9)]) ⟨hx, hb, hml, hown, hts⟩ (kX3_add l D cI cZ ad (kSellS K p f9 m9) _ (nI f9) (nI m9) (nI p) t9 ht8 (by rw [kSellS_22]; exact hts9)) ⟨va_cnB 3 hts gX5_sell_X3_add_n270 rfl rfl rfl (hE.1 (.methodLinkNest RX5 270 yX3_add "AuditoriumKeys") (List.mem_of_getElem? (i := 37) rfl)) (hts (.initialized RX3) (List.mem_of_getElem? (i := 16) rfl)) (by decide +kernel) ⟨(Nat.le_of_ble_eq_true rfl), (Nat.le_of_ble_eq_true rfl)⟩, (hts (.instanceMethod yX3_add) (List.mem_of_getElem? (i := 15) rfl)), (hts (.selects RX3 yX3_add yX3_add) (List.mem_of_getElem? (i := 17) rfl))⟩ hK hP hD hS hA [22, 23, 24, 25] [0, 1, 2, 3, 4, 5, 6, 7, 8, 9, 10, 11, 12, 13, 14, 15, 16, 17, 18, 19, 20, 21] rfl rfl rfl rfl rfl (by decide) (ci := 3) (q0 := 0) rfl rfl rfl rfl hl.1 rfl (Nat.le_of_ble_eq_true rfl) dX5_sell_114 ⟨Nat.le_of_ble_eq_true rfl, Nat.le_of_ble_eq_true rfl⟩ (fun H locs hP hD hS => ?_)
        have hP : va_P D vwCl (kwA ad cI cZ (kSale (kSellS K p f9 m9) t9 (nI f9) (nI m9) (nI p))) _ := hP
        have hD : va_D A (kwA ad cI cZ (kSale (kSellS K p f9 m9) t9 (nI f9) (nI m9) (nI p))) := hD
        refine lv_aload_n hx hb dX5_sell_117 rfl (lv_at hl 3 rfl) ?_
        refine va_get (D := D) (ci := 5) (v := .ref (ad 8)) (C := RX5) (T := TX5) (N := 9) hx hb hts hinX5 hown hK hP 0 rfl rfl 6 (by decide) (hts (.fieldLink RX5 40 "AuditoriumKeys" "holds" "LAuditoriumKeys$Holds;") (List.mem_of_getElem? (i := 1) rfl)) (fun _ h9 => h9) rfl dX5_sell_118 ?_
        refine lv_iload_n hx hb dX5_sell_121 rfl (lv_at hl 4 rfl) ?_
        refine zc_wVNv (As := [.int (nI p)]) (rest := []) (wr := [kc0 ad (kSale (kSellS K p f9 m9) t9 (nI f9) (nI m9) (nI p)), kc1 ad cI (kSale (kSellS K p f9 m9) t9 (nI f9) (nI m9) (nI p)), kc2 ad (kSale (kSellS K p f9 m9) t9 (nI f9) (nI m9) (nI p)), kc3 ad cI (kSale (kSellS K p f9 m9) t9 (nI f9) (nI m9) (nI p)), kc4 ad cI (kSale (kSellS K p f9 m9) t9 (nI f9) (nI m9) (nI p)), kc5 ad cI (kSale (kSellS K p f9 m9) t9 (nI f9) (nI m9) (nI p)), kc6 ad, kc7 ad cI (kSale (kSellS K p f9 m9) t9 (nI f9) (nI m9) (nI p)), kc16 ad, kc17 ad cZ (kSale (kSellS K p f9 m9) t9 (nI f9) (nI m9) (nI p)), kc18 ad cZ (kSale (kSellS K p f9 m9) t9 (nI f9) (nI m9) (nI p)), kc19 ad cI (kSale (kSellS K p f9 m9) t9 (nI f9) (nI m9) (nI p)), kc20 ad cI (kSale (kSellS K p f9 m9) t9 (nI f9) (nI m9) (nI p)), kc21 ad cI (kSale (kSellS K p f9 m9) t9 (nI f9) (nI m9) (nI p)), kc22 ad (kSale (kSellS K p f9 m9) t9 (nI f9) (nI m9) (nI p)), kc23 ad cI (kSale (kSellS K p f9 m9) t9 (nI f9) (nI m9) (nI p)), kc24 ad cI (kSale (kSellS K p f9 m9) t9 (nI f9) (nI m9) (nI p)), kc25 ad cI (kSale (kSellS K p f9 m9) t9 (nI f9) (nI m9) (nI p))]) ⟨hx, hb, hml, hown, hts⟩ (kX1_end l D cI cZ ad (kSale (kSellS K p f9 m9) t9 (nI f9) (nI m9) (nI p)) _ p (by omega)) ⟨va_cnB 1 hts gX5_sell_X1_end_n264 rfl rfl rfl (hE.1 (.methodLinkNest RX5 264 yX1_end "AuditoriumKeys") (List.mem_of_getElem? (i := 35) rfl)) (hts (.initialized RX1) (List.mem_of_getElem? (i := 24) rfl)) (by decide +kernel) ⟨(Nat.le_of_ble_eq_true rfl), (Nat.le_of_ble_eq_true rfl)⟩, (hts (.instanceMethod yX1_end) (List.mem_of_getElem? (i := 23) rfl)), (hts (.selects RX1 yX1_end yX1_end) (List.mem_of_getElem? (i := 25) rfl))⟩ hK hP hD hS hA [8, 9, 10, 11, 12, 13, 14, 15] [0, 1, 2, 3, 4, 5, 6, 7, 16, 17, 18, 19, 20, 21, 22, 23, 24, 25] rfl rfl rfl rfl rfl (by decide) (ci := 1) (q0 := 0) rfl rfl rfl rfl hl.1 rfl (Nat.le_of_ble_eq_true rfl) dX5_sell_122 ⟨Nat.le_of_ble_eq_true rfl, Nat.le_of_ble_eq_true rfl⟩ (fun H locs hP hD hS => ?_)
        have hP := hP.sub (ws' := [kc0 ad (kSale (kSellS K p f9 m9) t9 (nI f9) (nI m9) (nI p)), kc1 ad cI (kSale (kSellS K p f9 m9) t9 (nI f9) (nI m9) (nI p)), kc2 ad (kSale (kSellS K p f9 m9) t9 (nI f9) (nI m9) (nI p)), kc3 ad cI (kSale (kSellS K p f9 m9) t9 (nI f9) (nI m9) (nI p)), kc4 ad cI (kSale (kSellS K p f9 m9) t9 (nI f9) (nI m9) (nI p)), kc5 ad cI (kSale (kSellS K p f9 m9) t9 (nI f9) (nI m9) (nI p)), kc6 ad, kc7 ad cI (kSale (kSellS K p f9 m9) t9 (nI f9) (nI m9) (nI p)), kc8 ad, kc9 ad cI (kEnd (kSale (kSellS K p f9 m9) t9 (nI f9) (nI m9) (nI p)) p), kc10 ad cI (kEnd (kSale (kSellS K p f9 m9) t9 (nI f9) (nI m9) (nI p)) p), kc11 ad cI (kEnd (kSale (kSellS K p f9 m9) t9 (nI f9) (nI m9) (nI p)) p), kc12 ad cI (kEnd (kSale (kSellS K p f9 m9) t9 (nI f9) (nI m9) (nI p)) p), kc13 ad cI (kEnd (kSale (kSellS K p f9 m9) t9 (nI f9) (nI m9) (nI p)) p), kc14 ad cI (kEnd (kSale (kSellS K p f9 m9) t9 (nI f9) (nI m9) (nI p)) p), kc15 ad cI (kEnd (kSale (kSellS K p f9 m9) t9 (nI f9) (nI m9) (nI p)) p), kc16 ad, kc17 ad cZ (kSale (kSellS K p f9 m9) t9 (nI f9) (nI m9) (nI p)), kc18 ad cZ (kSale (kSellS K p f9 m9) t9 (nI f9) (nI m9) (nI p)), kc19 ad cI (kSale (kSellS K p f9 m9) t9 (nI f9) (nI m9) (nI p)), kc20 ad cI (kSale (kSellS K p f9 m9) t9 (nI f9) (nI m9) (nI p)), kc21 ad cI (kSale (kSellS K p f9 m9) t9 (nI f9) (nI m9) (nI p)), kc22 ad (kSale (kSellS K p f9 m9) t9 (nI f9) (nI m9) (nI p)), kc23 ad cI (kSale (kSellS K p f9 m9) t9 (nI f9) (nI m9) (nI p)), kc24 ad cI (kSale (kSellS K p f9 m9) t9 (nI f9) (nI m9) (nI p)), kc25 ad cI (kSale (kSellS K p f9 m9) t9 (nI f9) (nI m9) (nI p))]) [0, 1, 2, 3, 4, 5, 6, 7, 18, 19, 20, 21, 22, 23, 24, 25, 8, 9, 10, 11, 12, 13, 14, 15, 16, 17] rfl
        have hD := hD.sub (ws' := [kc0 ad (kSale (kSellS K p f9 m9) t9 (nI f9) (nI m9) (nI p)), kc1 ad cI (kSale (kSellS K p f9 m9) t9 (nI f9) (nI m9) (nI p)), kc2 ad (kSale (kSellS K p f9 m9) t9 (nI f9) (nI m9) (nI p)), kc3 ad cI (kSale (kSellS K p f9 m9) t9 (nI f9) (nI m9) (nI p)), kc4 ad cI (kSale (kSellS K p f9 m9) t9 (nI f9) (nI m9) (nI p)), kc5 ad cI (kSale (kSellS K p f9 m9) t9 (nI f9) (nI m9) (nI p)), kc6 ad, kc7 ad cI (kSale (kSellS K p f9 m9) t9 (nI f9) (nI m9) (nI p)), kc8 ad, kc9 ad cI (kEnd (kSale (kSellS K p f9 m9) t9 (nI f9) (nI m9) (nI p)) p), kc10 ad cI (kEnd (kSale (kSellS K p f9 m9) t9 (nI f9) (nI m9) (nI p)) p), kc11 ad cI (kEnd (kSale (kSellS K p f9 m9) t9 (nI f9) (nI m9) (nI p)) p), kc12 ad cI (kEnd (kSale (kSellS K p f9 m9) t9 (nI f9) (nI m9) (nI p)) p), kc13 ad cI (kEnd (kSale (kSellS K p f9 m9) t9 (nI f9) (nI m9) (nI p)) p), kc14 ad cI (kEnd (kSale (kSellS K p f9 m9) t9 (nI f9) (nI m9) (nI p)) p), kc15 ad cI (kEnd (kSale (kSellS K p f9 m9) t9 (nI f9) (nI m9) (nI p)) p), kc16 ad, kc17 ad cZ (kSale (kSellS K p f9 m9) t9 (nI f9) (nI m9) (nI p)), kc18 ad cZ (kSale (kSellS K p f9 m9) t9 (nI f9) (nI m9) (nI p)), kc19 ad cI (kSale (kSellS K p f9 m9) t9 (nI f9) (nI m9) (nI p)), kc20 ad cI (kSale (kSellS K p f9 m9) t9 (nI f9) (nI m9) (nI p)), kc21 ad cI (kSale (kSellS K p f9 m9) t9 (nI f9) (nI m9) (nI p)), kc22 ad (kSale (kSellS K p f9 m9) t9 (nI f9) (nI m9) (nI p)), kc23 ad cI (kSale (kSellS K p f9 m9) t9 (nI f9) (nI m9) (nI p)), kc24 ad cI (kSale (kSellS K p f9 m9) t9 (nI f9) (nI m9) (nI p)), kc25 ad cI (kSale (kSellS K p f9 m9) t9 (nI f9) (nI m9) (nI p))]) [0, 1, 2, 3, 4, 5, 6, 7, 18, 19, 20, 21, 22, 23, 24, 25, 8, 9, 10, 11, 12, 13, 14, 15, 16, 17] rfl rfl
        have hP : va_P D vwCl (kwA ad cI cZ (kEnd (kSale (kSellS K p f9 m9) t9 (nI f9) (nI m9) (nI p)) p)) _ := hP
        have hD : va_D A (kwA ad cI cZ (kEnd (kSale (kSellS K p f9 m9) t9 (nI f9) (nI m9) (nI p)) p)) := hD
        have hT9 : nI 0 = nI 0 := rfl
        have hP9 := hP
        have hD9 := hD
        have eK9 : (kSold K p f9 m9 t9) = (kEnd (kSale (kSellS K p f9 m9) t9 (nI f9) (nI m9) (nI p)) p) := rfl
        rw [← eK9] at hP9 hD9
        exact vx_ret (W.vret hx hb hr (fun t ht hW => ⟨⟨(), rfl, hT9, by rw [ht]; exact hP9, va_K.moved hW.alike hK, hD9⟩, hS.F ht⟩) hS.2.2 dX5_sell_125)
      · skip
        have c_1 : ¬ (f9 + m9) ≤ (f9 + k) := fun h => c_1 ((nI_leI (a := (f9 + m9)) (b := (f9 + k)) (by omega) (by omega)).mpr h)
        refine lv_aload_n hx hb dX5_sell_31 rfl (lv_at hl 3 rfl) ?_
        refine va_get (D := D) (ci := 5) (v := .ref (ad 16)) (C := RX5) (T := TX5) (N := 9) hx hb hts hinX5 hown hK hP 0 rfl rfl 7 (by decide) (hts (.fieldLink RX5 47 "AuditoriumKeys" "seats" "LAuditoriumKeys$Seats;") (List.mem_of_getElem? (i := 2) rfl)) (fun _ h9 => h9) rfl dX5_sell_32 ?_
        refine va_getN (D := D) (ci := 4) (v := .ref (ad 19)) (C := RX4) (T := TX4) (N := 5) hx hb hts hinX4 hown hK hP 16 rfl rfl 2 (by decide) (va_Nw.use rfl (hE.1 (.fieldLinkNest RX5 192 "AuditoriumKeys$Seats" "owner" "[I" "AuditoriumKeys") (List.mem_of_getElem? (i := 4) rfl))) (fun _ h9 => h9) rfl dX5_sell_35 ?_
        refine lv_iload hx hb dX5_sell_38 (lv_at hl 0 rfl) ?_
        refine zz_iald hx hb hK hP 19 0 rfl rfl (f9 + k) (by omega) (by decide) dX5_sell_40 ?_
        refine lv_istore (lv' := [(5, .int ((kSellS K p f9 k) 19 (f9 + k))), (4, .int (nI (f9 + k))), (3, .int (nI m9)), (2, .int (nI f9)), (0, .ref (ad 0)), (1, .int (nI p))]) hx hb dX5_sell_41 hl (by decide) rfl (fun ls hl => ?_)
        refine lv_iload hx hb dX5_sell_43 (lv_at hl 0 rfl) ?_
        refine lv_iconst (v := (-1)) hx hb dX5_sell_45 (by decide) ?_
        refine lv_icmp_ne (tgt := 71) hx hb dX5_sell_46 (by decide) (fun c_2 => ?_) (fun c_2 => ?_)
        · skip
          have c_2 : ¬ (kSellS K p f9 k) 19 (f9 + k) = (-1) := c_2
          obtain ⟨o9, ho9, ho8⟩ := (how2 (f9 + k) (by omega)).resolve_left c_2
          have ho7 : (kSellS K p f9 k 19 (f9 + k)).toNatClampNeg = o9 := by rw [ho8]; exact nI_clamp (by omega)
          refine lv_aload_n hx hb dX5_sell_71 rfl (lv_at hl 4 rfl) ?_
          refine va_get (D := D) (ci := 5) (v := .ref (ad 1)) (C := RX5) (T := TX5) (N := 9) hx hb hts hinX5 hown hK hP 0 rfl rfl 3 (by decide) (hts (.fieldLink RX5 19 "AuditoriumKeys" "outlay" "[I") (List.mem_of_getElem? (i := 4) rfl)) (fun _ h9 => h9) rfl dX5_sell_72 ?_
          refine lv_iload hx hb dX5_sell_75 (lv_at hl 0 rfl) ?_
          refine zz_top (y := nI o9) ho8 ?_
          refine lv_dup2_11 hx hb dX5_sell_77 rfl rfl ?_
          refine zz_iald hx hb hK hP 1 0 rfl rfl o9 (by omega) (by decide) dX5_sell_78 ?_
          refine lv_aload_n hx hb dX5_sell_79 rfl (lv_at hl 4 rfl) ?_
          refine va_get (D := D) (ci := 5) (v := .ref (ad 16)) (C := RX5) (T := TX5) (N := 9) hx hb hts hinX5 hown hK hP 0 rfl rfl 7 (by decide) (hts (.fieldLink RX5 47 "AuditoriumKeys" "seats" "LAuditoriumKeys$Seats;") (List.mem_of_getElem? (i := 2) rfl)) (fun _ h9 => h9) rfl dX5_sell_80 ?_
          refine va_getN (D := D) (ci := 4) (v := .ref (ad 20)) (C := RX4) (T := TX4) (N := 5) hx hb hts hinX4 hown hK hP 16 rfl rfl 3 (by decide) (va_Nw.use rfl (hE.1 (.fieldLinkNest RX5 222 "AuditoriumKeys$Seats" "price" "[I" "AuditoriumKeys") (List.mem_of_getElem? (i := 6) rfl))) (fun _ h9 => h9) rfl dX5_sell_83 ?_
          refine lv_iload hx hb dX5_sell_86 (lv_at hl 1 rfl) ?_
          refine zz_iald hx hb hK hP 20 0 rfl rfl (f9 + k) (by omega) (by decide) dX5_sell_88 ?_
          refine lv_isub hx hb dX5_sell_89 ?_
          refine zz_iast hx hb hK hP hD hS 1 0 rfl rfl o9 (by omega) (by decide) dX5_sell_90 (fun H locs hP hD hS => ?_)
          have hP : va_P D vwCl (kwA ad cI cZ (setA (kSellS K p f9 k) 1 (upd ((kSellS K p f9 k) 1) o9 (((kSellS K p f9 k) 1 o9) - ((kSellS K p f9 k) 20 (f9 + k)))))) _ := hP
          have hD : va_D A (kwA ad cI cZ (setA (kSellS K p f9 k) 1 (upd ((kSellS K p f9 k) 1) o9 (((kSellS K p f9 k) 1 o9) - ((kSellS K p f9 k) 20 (f9 + k)))))) := hD
          refine lv_aload_n hx hb dX5_sell_91 rfl (lv_at hl 4 rfl) ?_
          refine va_get (D := D) (ci := 5) (v := .ref (ad 16)) (C := RX5) (T := TX5) (N := 9) hx hb hts hinX5 hown hK hP 0 rfl rfl 7 (by decide) (hts (.fieldLink RX5 47 "AuditoriumKeys" "seats" "LAuditoriumKeys$Seats;") (List.mem_of_getElem? (i := 2) rfl)) (fun _ h9 => h9) rfl dX5_sell_92 ?_
          refine lv_iload hx hb dX5_sell_95 (lv_at hl 1 rfl) ?_
          refine lv_iload_n hx hb dX5_sell_97 rfl (lv_at hl 5 rfl) ?_
          refine zc_wVNv (As := [.int (nI (f9 + k)), .int (nI p)]) (rest := []) (wr := [kc0 ad (setA (kSellS K p f9 k) 1 (upd ((kSellS K p f9 k) 1) o9 (((kSellS K p f9 k) 1 o9) - ((kSellS K p f9 k) 20 (f9 + k))))), kc1 ad cI (setA (kSellS K p f9 k) 1 (upd ((kSellS K p f9 k) 1) o9 (((kSellS K p f9 k) 1 o9) - ((kSellS K p f9 k) 20 (f9 + k))))), kc2 ad (setA (kSellS K p f9 k) 1 (upd ((kSellS K p f9 k) 1) o9 (((kSellS K p f9 k) 1 o9) - ((kSellS K p f9 k) 20 (f9 + k))))), kc3 ad cI (setA (kSellS K p f9 k) 1 (upd ((kSellS K p f9 k) 1) o9 (((kSellS K p f9 k) 1 o9) - ((kSellS K p f9 k) 20 (f9 + k))))), kc4 ad cI (setA (kSellS K p f9 k) 1 (upd ((kSellS K p f9 k) 1) o9 (((kSellS K p f9 k) 1 o9) - ((kSellS K p f9 k) 20 (f9 + k))))), kc5 ad cI (setA (kSellS K p f9 k) 1 (upd ((kSellS K p f9 k) 1) o9 (((kSellS K p f9 k) 1 o9) - ((kSellS K p f9 k) 20 (f9 + k))))), kc6 ad, kc7 ad cI (setA (kSellS K p f9 k) 1 (upd ((kSellS K p f9 k) 1) o9 (((kSellS K p f9 k) 1 o9) - ((kSellS K p f9 k) 20 (f9 + k))))), kc8 ad, kc9 ad cI (setA (kSellS K p f9 k) 1 (upd ((kSellS K p f9 k) 1) o9 (((kSellS K p f9 k) 1 o9) - ((kSellS K p f9 k) 20 (f9 + k))))), kc10 ad cI (setA (kSellS K p f9 k) 1 (upd ((kSellS K p f9 k) 1) o9 (((kSellS K p f9 k) 1 o9) - ((kSellS K p f9 k) 20 (f9 + k))))), kc11 ad cI (setA (kSellS K p f9 k) 1 (upd ((kSellS K p f9 k) 1) o9 (((kSellS K p f9 k) 1 o9) - ((kSellS K p f9 k) 20 (f9 + k))))), kc12 ad cI (setA (kSellS K p f9 k) 1 (upd ((kSellS K p f9 k) 1) o9 (((kSellS K p f9 k) 1 o9) - ((kSellS K p f9 k) 20 (f9 + k))))), kc13 ad cI (setA (kSellS K p f9 k) 1 (upd ((kSellS K p f9 k) 1) o9 (((kSellS K p f9 k) 1 o9) - ((kSellS K p f9 k) 20 (f9 + k))))), kc14 ad cI (setA (kSellS K p f9 k) 1 (upd ((kSellS K p f9 k) 1) o9 (((kSellS K p f9 k) 1 o9) - ((kSellS K p f9 k) 20 (f9 + k))))), kc15 ad cI (setA (kSellS K p f9 k) 1 (upd ((kSellS K p f9 k) 1) o9 (((kSellS K p f9 k) 1 o9) - ((kSellS K p f9 k) 20 (f9 + k))))), kc22 ad (setA (kSellS K p f9 k) 1 (upd ((kSellS K p f9 k) 1) o9 (((kSellS K p f9 k) 1 o9) - ((kSellS K p f9 k) 20 (f9 + k))))), kc23 ad cI (setA (kSellS K p f9 k) 1 (upd ((kSellS K p f9 k) 1) o9 (((kSellS K p f9 k) 1 o9) - ((kSellS K p f9 k) 20 (f9 + k))))), kc24 ad cI (setA (kSellS K p f9 k) 1 (upd ((kSellS K p f9 k) 1) o9 (((kSellS K p f9 k) 1 o9) - ((kSellS K p f9 k) 20 (f9 + k))))), kc25 ad cI (setA (kSellS K p f9 k) 1 (upd ((kSellS K p f9 k) 1) o9 (((kSellS K p f9 k) 1 o9) - ((kSellS K p f9 k) 20 (f9 + k)))))]) ⟨hx, hb, hml, hown, hts⟩ (kX4_giveTo l D cI cZ ad (setA (kSellS K p f9 k) 1 (upd ((kSellS K p f9 k) 1) o9 (((kSellS K p f9 k) 1 o9) - ((kSellS K p f9 k) 20 (f9 + k))))) _ (f9 + k) (nI p) (by omega)) ⟨va_cnB 2 hts gX5_sell_X4_giveTo_n267 rfl rfl rfl (hE.1 (.methodLinkNest RX5 267 yX4_giveTo "AuditoriumKeys") (List.mem_of_getElem? (i := 36) rfl)) (hts (.initialized RX4) (List.mem_of_getElem? (i := 7) rfl)) (by decide +kernel) ⟨(Nat.le_of_ble_eq_true rfl), (Nat.le_of_ble_eq_true rfl)⟩, (hts (.instanceMethod yX4_giveTo) (List.mem_of_getElem? (i := 6) rfl)), (hts (.selects RX4 yX4_giveTo yX4_giveTo) (List.mem_of_getElem? (i := 8) rfl))⟩ hK hP hD hS hA [16, 17, 18, 19, 20, 21] [0, 1, 2, 3, 4, 5, 6, 7, 8, 9, 10, 11, 12, 13, 14, 15, 22, 23, 24, 25] rfl rfl rfl rfl rfl (by decide) (ci := 4) (q0 := 0) rfl rfl rfl rfl hl.1 rfl (Nat.le_of_ble_eq_true rfl) dX5_sell_98 ⟨Nat.le_of_ble_eq_true rfl, Nat.le_of_ble_eq_true rfl⟩ (fun H locs hP hD hS => ?_)
          have hP := hP.sub (ws' := [kc0 ad (setA (kSellS K p f9 k) 1 (upd ((kSellS K p f9 k) 1) o9 (((kSellS K p f9 k) 1 o9) - ((kSellS K p f9 k) 20 (f9 + k))))), kc1 ad cI (setA (kSellS K p f9 k) 1 (upd ((kSellS K p f9 k) 1) o9 (((kSellS K p f9 k) 1 o9) - ((kSellS K p f9 k) 20 (f9 + k))))), kc2 ad (setA (kSellS K p f9 k) 1 (upd ((kSellS K p f9 k) 1) o9 (((kSellS K p f9 k) 1 o9) - ((kSellS K p f9 k) 20 (f9 + k))))), kc3 ad cI (setA (kSellS K p f9 k) 1 (upd ((kSellS K p f9 k) 1) o9 (((kSellS K p f9 k) 1 o9) - ((kSellS K p f9 k) 20 (f9 + k))))), kc4 ad cI (setA (kSellS K p f9 k) 1 (upd ((kSellS K p f9 k) 1) o9 (((kSellS K p f9 k) 1 o9) - ((kSellS K p f9 k) 20 (f9 + k))))), kc5 ad cI (setA (kSellS K p f9 k) 1 (upd ((kSellS K p f9 k) 1) o9 (((kSellS K p f9 k) 1 o9) - ((kSellS K p f9 k) 20 (f9 + k))))), kc6 ad, kc7 ad cI (setA (kSellS K p f9 k) 1 (upd ((kSellS K p f9 k) 1) o9 (((kSellS K p f9 k) 1 o9) - ((kSellS K p f9 k) 20 (f9 + k))))), kc8 ad, kc9 ad cI (setA (kSellS K p f9 k) 1 (upd ((kSellS K p f9 k) 1) o9 (((kSellS K p f9 k) 1 o9) - ((kSellS K p f9 k) 20 (f9 + k))))), kc10 ad cI (setA (kSellS K p f9 k) 1 (upd ((kSellS K p f9 k) 1) o9 (((kSellS K p f9 k) 1 o9) - ((kSellS K p f9 k) 20 (f9 + k))))), kc11 ad cI (setA (kSellS K p f9 k) 1 (upd ((kSellS K p f9 k) 1) o9 (((kSellS K p f9 k) 1 o9) - ((kSellS K p f9 k) 20 (f9 + k))))), kc12 ad cI (setA (kSellS K p f9 k) 1 (upd ((kSellS K p f9 k) 1) o9 (((kSellS K p f9 k) 1 o9) - ((kSellS K p f9 k) 20 (f9 + k))))), kc13 ad cI (setA (kSellS K p f9 k) 1 (upd ((kSellS K p f9 k) 1) o9 (((kSellS K p f9 k) 1 o9) - ((kSellS K p f9 k) 20 (f9 + k))))), kc14 ad cI (setA (kSellS K p f9 k) 1 (upd ((kSellS K p f9 k) 1) o9 (((kSellS K p f9 k) 1 o9) - ((kSellS K p f9 k) 20 (f9 + k))))), kc15 ad cI (setA (kSellS K p f9 k) 1 (upd ((kSellS K p f9 k) 1) o9 (((kSellS K p f9 k) 1 o9) - ((kSellS K p f9 k) 20 (f9 + k))))), kc16 ad, kc17 ad cZ (kGive (setA (kSellS K p f9 k) 1 (upd ((kSellS K p f9 k) 1) o9 (((kSellS K p f9 k) 1 o9) - ((kSellS K p f9 k) 20 (f9 + k))))) (f9 + k) (nI p)), kc18 ad cZ (kGive (setA (kSellS K p f9 k) 1 (upd ((kSellS K p f9 k) 1) o9 (((kSellS K p f9 k) 1 o9) - ((kSellS K p f9 k) 20 (f9 + k))))) (f9 + k) (nI p)), kc19 ad cI (kGive (setA (kSellS K p f9 k) 1 (upd ((kSellS K p f9 k) 1) o9 (((kSellS K p f9 k) 1 o9) - ((kSellS K p f9 k) 20 (f9 + k))))) (f9 + k) (nI p)), kc20 ad cI (kGive (setA (kSellS K p f9 k) 1 (upd ((kSellS K p f9 k) 1) o9 (((kSellS K p f9 k) 1 o9) - ((kSellS K p f9 k) 20 (f9 + k))))) (f9 + k) (nI p)), kc21 ad cI (kGive (setA (kSellS K p f9 k) 1 (upd ((kSellS K p f9 k) 1) o9 (((kSellS K p f9 k) 1 o9) - ((kSellS K p f9 k) 20 (f9 + k))))) (f9 + k) (nI p)), kc22 ad (setA (kSellS K p f9 k) 1 (upd ((kSellS K p f9 k) 1) o9 (((kSellS K p f9 k) 1 o9) - ((kSellS K p f9 k) 20 (f9 + k))))), kc23 ad cI (setA (kSellS K p f9 k) 1 (upd ((kSellS K p f9 k) 1) o9 (((kSellS K p f9 k) 1 o9) - ((kSellS K p f9 k) 20 (f9 + k))))), kc24 ad cI (setA (kSellS K p f9 k) 1 (upd ((kSellS K p f9 k) 1) o9 (((kSellS K p f9 k) 1 o9) - ((kSellS K p f9 k) 20 (f9 + k))))), kc25 ad cI (setA (kSellS K p f9 k) 1 (upd ((kSellS K p f9 k) 1) o9 (((kSellS K p f9 k) 1 o9) - ((kSellS K p f9 k) 20 (f9 + k)))))]) [0, 1, 2, 3, 4, 5, 6, 7, 8, 9, 10, 11, 12, 13, 14, 15, 20, 21, 22, 23, 24, 25, 16, 17, 18, 19] rfl
          have hD := hD.sub (ws' := [kc0 ad (setA (kSellS K p f9 k) 1 (upd ((kSellS K p f9 k) 1) o9 (((kSellS K p f9 k) 1 o9) - ((kSellS K p f9 k) 20 (f9 + k))))), kc1 ad cI (setA (kSellS K p f9 k) 1 (upd ((kSellS K p f9 k) 1) o9 (((kSellS K p f9 k) 1 o9) - ((kSellS K p f9 k) 20 (f9 + k))))), kc2 ad (setA (kSellS K p f9 k) 1 (upd ((kSellS K p f9 k) 1) o9 (((kSellS K p f9 k) 1 o9) - ((kSellS K p f9 k) 20 (f9 + k))))), kc3 ad cI (setA (kSellS K p f9 k) 1 (upd ((kSellS K p f9 k) 1) o9 (((kSellS K p f9 k) 1 o9) - ((kSellS K p f9 k) 20 (f9 + k))))), kc4 ad cI (setA (kSellS K p f9 k) 1 (upd ((kSellS K p f9 k) 1) o9 (((kSellS K p f9 k) 1 o9) - ((kSellS K p f9 k) 20 (f9 + k))))), kc5 ad cI (setA (kSellS K p f9 k) 1 (upd ((kSellS K p f9 k) 1) o9 (((kSellS K p f9 k) 1 o9) - ((kSellS K p f9 k) 20 (f9 + k))))), kc6 ad, kc7 ad cI (setA (kSellS K p f9 k) 1 (upd ((kSellS K p f9 k) 1) o9 (((kSellS K p f9 k) 1 o9) - ((kSellS K p f9 k) 20 (f9 + k))))), kc8 ad, kc9 ad cI (setA (kSellS K p f9 k) 1 (upd ((kSellS K p f9 k) 1) o9 (((kSellS K p f9 k) 1 o9) - ((kSellS K p f9 k) 20 (f9 + k))))), kc10 ad cI (setA (kSellS K p f9 k) 1 (upd ((kSellS K p f9 k) 1) o9 (((kSellS K p f9 k) 1 o9) - ((kSellS K p f9 k) 20 (f9 + k))))), kc11 ad cI (setA (kSellS K p f9 k) 1 (upd ((kSellS K p f9 k) 1) o9 (((kSellS K p f9 k) 1 o9) - ((kSellS K p f9 k) 20 (f9 + k))))), kc12 ad cI (setA (kSellS K p f9 k) 1 (upd ((kSellS K p f9 k) 1) o9 (((kSellS K p f9 k) 1 o9) - ((kSellS K p f9 k) 20 (f9 + k))))), kc13 ad cI (setA (kSellS K p f9 k) 1 (upd ((kSellS K p f9 k) 1) o9 (((kSellS K p f9 k) 1 o9) - ((kSellS K p f9 k) 20 (f9 + k))))), kc14 ad cI (setA (kSellS K p f9 k) 1 (upd ((kSellS K p f9 k) 1) o9 (((kSellS K p f9 k) 1 o9) - ((kSellS K p f9 k) 20 (f9 + k))))), kc15 ad cI (setA (kSellS K p f9 k) 1 (upd ((kSellS K p f9 k) 1) o9 (((kSellS K p f9 k) 1 o9) - ((kSellS K p f9 k) 20 (f9 + k))))), kc16 ad, kc17 ad cZ (kGive (setA (kSellS K p f9 k) 1 (upd ((kSellS K p f9 k) 1) o9 (((kSellS K p f9 k) 1 o9) - ((kSellS K p f9 k) 20 (f9 + k))))) (f9 + k) (nI p)), kc18 ad cZ (kGive (setA (kSellS K p f9 k) 1 (upd ((kSellS K p f9 k) 1) o9 (((kSellS K p f9 k) 1 o9) - ((kSellS K p f9 k) 20 (f9 + k))))) (f9 + k) (nI p)), kc19 ad cI (kGive (setA (kSellS K p f9 k) 1 (upd ((kSellS K p f9 k) 1) o9 (((kSellS K p f9 k) 1 o9) - ((kSellS K p f9 k) 20 (f9 + k))))) (f9 + k) (nI p)), kc20 ad cI (kGive (setA (kSellS K p f9 k) 1 (upd ((kSellS K p f9 k) 1) o9 (((kSellS K p f9 k) 1 o9) - ((kSellS K p f9 k) 20 (f9 + k))))) (f9 + k) (nI p)), kc21 ad cI (kGive (setA (kSellS K p f9 k) 1 (upd ((kSellS K p f9 k) 1) o9 (((kSellS K p f9 k) 1 o9) - ((kSellS K p f9 k) 20 (f9 + k))))) (f9 + k) (nI p)), kc22 ad (setA (kSellS K p f9 k) 1 (upd ((kSellS K p f9 k) 1) o9 (((kSellS K p f9 k) 1 o9) - ((kSellS K p f9 k) 20 (f9 + k))))), kc23 ad cI (setA (kSellS K p f9 k) 1 (upd ((kSellS K p f9 k) 1) o9 (((kSellS K p f9 k) 1 o9) - ((kSellS K p f9 k) 20 (f9 + k))))), kc24 ad cI (setA (kSellS K p f9 k) 1 (upd ((kSellS K p f9 k) 1) o9 (((kSellS K p f9 k) 1 o9) - ((kSellS K p f9 k) 20 (f9 + k))))), kc25 ad cI (setA (kSellS K p f9 k) 1 (upd ((kSellS K p f9 k) 1) o9 (((kSellS K p f9 k) 1 o9) - ((kSellS K p f9 k) 20 (f9 + k)))))]) [0, 1, 2, 3, 4, 5, 6, 7, 8, 9, 10, 11, 12, 13, 14, 15, 20, 21, 22, 23, 24, 25, 16, 17, 18, 19] rfl rfl
          have hP : va_P D vwCl (kwA ad cI cZ (kGive (setA (kSellS K p f9 k) 1 (upd ((kSellS K p f9 k) 1) o9 (((kSellS K p f9 k) 1 o9) - ((kSellS K p f9 k) 20 (f9 + k))))) (f9 + k) (nI p))) _ := hP
          have hD : va_D A (kwA ad cI cZ (kGive (setA (kSellS K p f9 k) 1 (upd ((kSellS K p f9 k) 1) o9 (((kSellS K p f9 k) 1 o9) - ((kSellS K p f9 k) 20 (f9 + k))))) (f9 + k) (nI p))) := hD
          refine lv_iinc (v := nI ((f9 + k) + 1)) (lv' := [(4, .int (nI ((f9 + k) + 1))), (5, .int ((kSellS K p f9 k) 19 (f9 + k))), (3, .int (nI m9)), (2, .int (nI f9)), (0, .ref (ad 0)), (1, .int (nI p))]) hx hb dX5_sell_101 hl (k := 1) rfl ((show nI (f9 + k) + Int32.ofInt 1 = nI (f9 + k) + nI 1 from rfl).trans (nI_add _ _)) (by decide) rfl (fun ls hl => ?_)
          refine lv_goto (tgt := 23) hx hb dX5_sell_104 (by decide) ?_
          have eK_3 : (kSellS K p f9 (k + 1)) = (kGive (setA (kSellS K p f9 k) 1 (upd ((kSellS K p f9 k) 1) o9 (((kSellS K p f9 k) 1 o9) - ((kSellS K p f9 k) 20 (f9 + k))))) (f9 + k) (nI p)) := (by simp only [kSellS, kSell1]; rw [if_neg c_2, ho7])
          exact ih_a (k + 1) (by omega) (by omega) (by omega) (kOwn_1 hp how2) _ _ (by rw [eK_3]; exact hP) (by rw [eK_3]; exact hD) hS ls (lv_sub hl [0, 2, 3, 4, 5] rfl)
        · skip
          have c_2 : (kSellS K p f9 k) 19 (f9 + k) = (-1) := c_2
          refine lv_aload_n hx hb dX5_sell_49 rfl (lv_at hl 4 rfl) ?_
          refine lv_dup hx hb dX5_sell_50 rfl ?_
          refine va_get (D := D) (ci := 5) (v := .int ((kSellS K p f9 k) 0 2)) (C := RX5) (T := TX5) (N := 9) hx hb hts hinX5 hown hK hP 0 rfl rfl 2 (by decide) (hts (.fieldLink RX5 16 "AuditoriumKeys" "taken" "I") (List.mem_of_getElem? (i := 3) rfl)) (fun _ h9 => h9) rfl dX5_sell_51 ?_
          refine lv_aload_n hx hb dX5_sell_54 rfl (lv_at hl 4 rfl) ?_
          refine va_get (D := D) (ci := 5) (v := .ref (ad 16)) (C := RX5) (T := TX5) (N := 9) hx hb hts hinX5 hown hK hP 0 rfl rfl 7 (by decide) (hts (.fieldLink RX5 47 "AuditoriumKeys" "seats" "LAuditoriumKeys$Seats;") (List.mem_of_getElem? (i := 2) rfl)) (fun _ h9 => h9) rfl dX5_sell_55 ?_
          refine va_getN (D := D) (ci := 4) (v := .ref (ad 20)) (C := RX4) (T := TX4) (N := 5) hx hb hts hinX4 hown hK hP 16 rfl rfl 3 (by decide) (va_Nw.use rfl (hE.1 (.fieldLinkNest RX5 222 "AuditoriumKeys$Seats" "price" "[I" "AuditoriumKeys") (List.mem_of_getElem? (i := 6) rfl))) (fun _ h9 => h9) rfl dX5_sell_58 ?_
          refine lv_iload hx hb dX5_sell_61 (lv_at hl 1 rfl) ?_
          refine zz_iald hx hb hK hP 20 0 rfl rfl (f9 + k) (by omega) (by decide) dX5_sell_63 ?_
          refine lv_iadd hx hb dX5_sell_64 ?_
          refine va_put (D := D) (ci := 5) (v := .int (((kSellS K p f9 k) 0 2) + ((kSellS K p f9 k) 20 (f9 + k)))) (ty := .int) (C := RX5) (T := TX5) (N := 9) hx hb hts hinX5 tyX5 tyX5_ok nmX5 hown hK hP hD hS 0 rfl rfl 2 (by decide) (hts (.fieldLink RX5 16 "AuditoriumKeys" "taken" "I") (List.mem_of_getElem? (i := 3) rfl)) (fun _ h9 => h9) rfl (by decide +kernel) rfl rfl (Nat.le_of_ble_eq_true rfl) dX5_sell_65 (fun H locs hP hD hS => ?_)
          have hP : va_P D vwCl (kwA ad cI cZ (setA (kSellS K p f9 k) 0 (upd ((kSellS K p f9 k) 0) 2 (((kSellS K p f9 k) 0 2) + ((kSellS K p f9 k) 20 (f9 + k)))))) _ := hP
          have hD : va_D A (kwA ad cI cZ (setA (kSellS K p f9 k) 0 (upd ((kSellS K p f9 k) 0) 2 (((kSellS K p f9 k) 0 2) + ((kSellS K p f9 k) 20 (f9 + k)))))) := hD
          refine lv_goto (tgt := 91) hx hb dX5_sell_68 (by decide) ?_
          refine lv_aload_n hx hb dX5_sell_91 rfl (lv_at hl 4 rfl) ?_
          refine va_get (D := D) (ci := 5) (v := .ref (ad 16)) (C := RX5) (T := TX5) (N := 9) hx hb hts hinX5 hown hK hP 0 rfl rfl 7 (by decide) (hts (.fieldLink RX5 47 "AuditoriumKeys" "seats" "LAuditoriumKeys$Seats;") (List.mem_of_getElem? (i := 2) rfl)) (fun _ h9 => h9) rfl dX5_sell_92 ?_
          refine lv_iload hx hb dX5_sell_95 (lv_at hl 1 rfl) ?_
          refine lv_iload_n hx hb dX5_sell_97 rfl (lv_at hl 5 rfl) ?_
          refine zc_wVNv (As := [.int (nI (f9 + k)), .int (nI p)]) (rest := []) (wr := [kc0 ad (setA (kSellS K p f9 k) 0 (upd ((kSellS K p f9 k) 0) 2 (((kSellS K p f9 k) 0 2) + ((kSellS K p f9 k) 20 (f9 + k))))), kc1 ad cI (setA (kSellS K p f9 k) 0 (upd ((kSellS K p f9 k) 0) 2 (((kSellS K p f9 k) 0 2) + ((kSellS K p f9 k) 20 (f9 + k))))), kc2 ad (setA (kSellS K p f9 k) 0 (upd ((kSellS K p f9 k) 0) 2 (((kSellS K p f9 k) 0 2) + ((kSellS K p f9 k) 20 (f9 + k))))), kc3 ad cI (setA (kSellS K p f9 k) 0 (upd ((kSellS K p f9 k) 0) 2 (((kSellS K p f9 k) 0 2) + ((kSellS K p f9 k) 20 (f9 + k))))), kc4 ad cI (setA (kSellS K p f9 k) 0 (upd ((kSellS K p f9 k) 0) 2 (((kSellS K p f9 k) 0 2) + ((kSellS K p f9 k) 20 (f9 + k))))), kc5 ad cI (setA (kSellS K p f9 k) 0 (upd ((kSellS K p f9 k) 0) 2 (((kSellS K p f9 k) 0 2) + ((kSellS K p f9 k) 20 (f9 + k))))), kc6 ad, kc7 ad cI (setA (kSellS K p f9 k) 0 (upd ((kSellS K p f9 k) 0) 2 (((kSellS K p f9 k) 0 2) + ((kSellS K p f9 k) 20 (f9 + k))))), kc8 ad, kc9 ad cI (setA (kSellS K p f9 k) 0 (upd ((kSellS K p f9 k) 0) 2 (((kSellS K p f9 k) 0 2) + ((kSellS K p f9 k) 20 (f9 + k))))), kc10 ad cI (setA (kSellS K p f9 k) 0 (upd ((kSellS K p f9 k) 0) 2 (((kSellS K p f9 k) 0 2) + ((kSellS K p f9 k) 20 (f9 + k))))), kc11 ad cI (setA (kSellS K p f9 k) 0 (upd ((kSellS K p f9 k) 0) 2 (((kSellS K p f9 k) 0 2) + ((kSellS K p f9 k) 20 (f9 + k))))), kc12 ad cI (setA (kSellS K p f9 k) 0 (upd ((kSellS K p f9 k) 0) 2 (((kSellS K p f9 k) 0 2) + ((kSellS K p f9 k) 20 (f9 + k))))), kc13 ad cI (setA (kSellS K p f9 k) 0 (upd ((kSellS K p f9 k) 0) 2 (((kSellS K p f9 k) 0 2) + ((kSellS K p f9 k) 20 (f9 + k))))), kc14 ad cI (setA (kSellS K p f9 k) 0 (upd ((kSellS K p f9 k) 0) 2 (((kSellS K p f9 k) 0 2) + ((kSellS K p f9 k) 20 (f9 + k))))), kc15 ad cI (setA (kSellS K p f9 k) 0 (upd ((kSellS K p f9 k) 0) 2 (((kSellS K p f9 k) 0 2) + ((kSellS K p f9 k) 20 (f9 + k))))), kc22 ad (setA (kSellS K p f9 k) 0 (upd ((kSellS K p f9 k) 0) 2 (((kSellS K p f9 k) 0 2) + ((kSellS K p f9 k) 20 (f9 + k))))), kc23 ad cI (setA (kSellS K p f9 k) 0 (upd ((kSellS K p f9 k) 0) 2 (((kSellS K p f9 k) 0 2) + ((kSellS K p f9 k) 20 (f9 + k))))), kc24 ad cI (setA (kSellS K p f9 k) 0 (upd ((kSellS K p f9 k) 0) 2 (((kSellS K p f9 k) 0 2) + ((kSellS K p f9 k) 20 (f9 + k))))), kc25 ad cI (setA (kSellS K p f9 k) 0 (upd ((kSellS K p f9 k) 0) 2 (((kSellS K p f9 k) 0 2) + ((kSellS K p f9 k) 20 (f9 + k)))))]) ⟨hx, hb, hml, hown, hts⟩ (kX4_giveTo l D cI cZ ad (setA (kSellS K p f9 k) 0 (upd ((kSellS K p f9 k) 0) 2 (((kSellS K p f9 k) 0 2) + ((kSellS K p f9 k) 20 (f9 + k))))) _ (f9 + k) (nI p) (by omega)) ⟨va_cnB 2 hts gX5_sell_X4_giveTo_n267 rfl rfl rfl (hE.1 (.methodLinkNest RX5 267 yX4_giveTo "AuditoriumKeys") (List.mem_of_getElem? (i := 36) rfl)) (hts (.initialized RX4) (List.mem_of_getElem? (i := 7) rfl)) (by decide +kernel) ⟨(Nat.le_of_ble_eq_true rfl), (Nat.le_of_ble_eq_true rfl)⟩, (hts (.instanceMethod yX4_giveTo) (List.mem_of_getElem? (i := 6) rfl)), (hts (.selects RX4 yX4_giveTo yX4_giveTo) (List.mem_of_getElem? (i := 8) rfl))⟩ hK hP hD hS hA [16, 17, 18, 19, 20, 21] [0, 1, 2, 3, 4, 5, 6, 7, 8, 9, 10, 11, 12, 13, 14, 15, 22, 23, 24, 25] rfl rfl rfl rfl rfl (by decide) (ci := 4) (q0 := 0) rfl rfl rfl rfl hl.1 rfl (Nat.le_of_ble_eq_true rfl) dX5_sell_98 ⟨Nat.le_of_ble_eq_true rfl, Nat.le_of_ble_eq_true rfl⟩ (fun H locs hP hD hS => ?_)
          have hP := hP.sub (ws' := [kc0 ad (setA (kSellS K p f9 k) 0 (upd ((kSellS K p f9 k) 0) 2 (((kSellS K p f9 k) 0 2) + ((kSellS K p f9 k) 20 (f9 + k))))), kc1 ad cI (setA (kSellS K p f9 k) 0 (upd ((kSellS K p f9 k) 0) 2 (((kSellS K p f9 k) 0 2) + ((kSellS K p f9 k) 20 (f9 + k))))), kc2 ad (setA (kSellS K p f9 k) 0 (upd ((kSellS K p f9 k) 0) 2 (((kSellS K p f9 k) 0 2) + ((kSellS K p f9 k) 20 (f9 + k))))), kc3 ad cI (setA (kSellS K p f9 k) 0 (upd ((kSellS K p f9 k) 0) 2 (((kSellS K p f9 k) 0 2) + ((kSellS K p f9 k) 20 (f9 + k))))), kc4 ad cI (setA (kSellS K p f9 k) 0 (upd ((kSellS K p f9 k) 0) 2 (((kSellS K p f9 k) 0 2) + ((kSellS K p f9 k) 20 (f9 + k))))), kc5 ad cI (setA (kSellS K p f9 k) 0 (upd ((kSellS K p f9 k) 0) 2 (((kSellS K p f9 k) 0 2) + ((kSellS K p f9 k) 20 (f9 + k))))), kc6 ad, kc7 ad cI (setA (kSellS K p f9 k) 0 (upd ((kSellS K p f9 k) 0) 2 (((kSellS K p f9 k) 0 2) + ((kSellS K p f9 k) 20 (f9 + k))))), kc8 ad, kc9 ad cI (setA (kSellS K p f9 k) 0 (upd ((kSellS K p f9 k) 0) 2 (((kSellS K p f9 k) 0 2) + ((kSellS K p f9 k) 20 (f9 + k))))), kc10 ad cI (setA (kSellS K p f9 k) 0 (upd ((kSellS K p f9 k) 0) 2 (((kSellS K p f9 k) 0 2) + ((kSellS K p f9 k) 20 (f9 + k))))), kc11 ad cI (setA (kSellS K p f9 k) 0 (upd ((kSellS K p f9 k) 0) 2 (((kSellS K p f9 k) 0 2) + ((kSellS K p f9 k) 20 (f9 + k))))), kc12 ad cI (setA (kSellS K p f9 k) 0 (upd ((kSellS K p f9 k) 0) 2 (((kSellS K p f9 k) 0 2) + ((kSellS K p f9 k) 20 (f9 + k))))), kc13 ad cI (setA (kSellS K p f9 k) 0 (upd ((kSellS K p f9 k) 0) 2 (((kSellS K p f9 k) 0 2) + ((kSellS K p f9 k) 20 (f9 + k))))), kc14 ad cI (setA (kSellS K p f9 k) 0 (upd ((kSellS K p f9 k) 0) 2 (((kSellS K p f9 k) 0 2) + ((kSellS K p f9 k) 20 (f9 + k))))), kc15 ad cI (setA (kSellS K p f9 k) 0 (upd ((kSellS K p f9 k) 0) 2 (((kSellS K p f9 k) 0 2) + ((kSellS K p f9 k) 20 (f9 + k))))), kc16 ad, kc17 ad cZ (kGive (setA (kSellS K p f9 k) 0 (upd ((kSellS K p f9 k) 0) 2 (((kSellS K p f9 k) 0 2) + ((kSellS K p f9 k) 20 (f9 + k))))) (f9 + k) (nI p)), kc18 ad cZ (kGive (setA (kSellS K p f9 k) 0 (upd ((kSellS K p f9 k) 0) 2 (((kSellS K p f9 k) 0 2) + ((kSellS K p f9 k) 20 (f9 + k))))) (f9 + k) (nI p)), kc19 ad cI (kGive (setA (kSellS K p f9 k) 0 (upd ((kSellS K p f9 k) 0) 2 (((kSellS K p f9 k) 0 2) + ((kSellS K p f9 k) 20 (f9 + k))))) (f9 + k) (nI p)), kc20 ad cI (kGive (setA (kSellS K p f9 k) 0 (upd ((kSellS K p f9 k) 0) 2 (((kSellS K p f9 k) 0 2) + ((kSellS K p f9 k) 20 (f9 + k))))) (f9 + k) (nI p)), kc21 ad cI (kGive (setA (kSellS K p f9 k) 0 (upd ((kSellS K p f9 k) 0) 2 (((kSellS K p f9 k) 0 2) + ((kSellS K p f9 k) 20 (f9 + k))))) (f9 + k) (nI p)), kc22 ad (setA (kSellS K p f9 k) 0 (upd ((kSellS K p f9 k) 0) 2 (((kSellS K p f9 k) 0 2) + ((kSellS K p f9 k) 20 (f9 + k))))), kc23 ad cI (setA (kSellS K p f9 k) 0 (upd ((kSellS K p f9 k) 0) 2 (((kSellS K p f9 k) 0 2) + ((kSellS K p f9 k) 20 (f9 + k))))), kc24 ad cI (setA (kSellS K p f9 k) 0 (upd ((kSellS K p f9 k) 0) 2 (((kSellS K p f9 k) 0 2) + ((kSellS K p f9 k) 20 (f9 + k))))), kc25 ad cI (setA (kSellS K p f9 k) 0 (upd ((kSellS K p f9 k) 0) 2 (((kSellS K p f9 k) 0 2) + ((kSellS K p f9 k) 20 (f9 + k)))))]) [0, 1, 2, 3, 4, 5, 6, 7, 8, 9, 10, 11, 12, 13, 14, 15, 20, 21, 22, 23, 24, 25, 16, 17, 18, 19] rfl
          have hD := hD.sub (ws' := [kc0 ad (setA (kSellS K p f9 k) 0 (upd ((kSellS K p f9 k) 0) 2 (((kSellS K p f9 k) 0 2) + ((kSellS K p f9 k) 20 (f9 + k))))), kc1 ad cI (setA (kSellS K p f9 k) 0 (upd ((kSellS K p f9 k) 0) 2 (((kSellS K p f9 k) 0 2) + ((kSellS K p f9 k) 20 (f9 + k))))), kc2 ad (setA (kSellS K p f9 k) 0 (upd ((kSellS K p f9 k) 0) 2 (((kSellS K p f9 k) 0 2) + ((kSellS K p f9 k) 20 (f9 + k))))), kc3 ad cI (setA (kSellS K p f9 k) 0 (upd ((kSellS K p f9 k) 0) 2 (((kSellS K p f9 k) 0 2) + ((kSellS K p f9 k) 20 (f9 + k))))), kc4 ad cI (setA (kSellS K p f9 k) 0 (upd ((kSellS K p f9 k) 0) 2 (((kSellS K p f9 k) 0 2) + ((kSellS K p f9 k) 20 (f9 + k))))), kc5 ad cI (setA (kSellS K p f9 k) 0 (upd ((kSellS K p f9 k) 0) 2 (((kSellS K p f9 k) 0 2) + ((kSellS K p f9 k) 20 (f9 + k))))), kc6 ad, kc7 ad cI (setA (kSellS K p f9 k) 0 (upd ((kSellS K p f9 k) 0) 2 (((kSellS K p f9 k) 0 2) + ((kSellS K p f9 k) 20 (f9 + k))))), kc8 ad, kc9 ad cI (setA (kSellS K p f9 k) 0 (upd ((kSellS K p f9 k) 0) 2 (((kSellS K p f9 k) 0 2) + ((kSellS K p f9 k) 20 (f9 + k))))), kc10 ad cI (setA (kSellS K p f9 k) 0 (upd ((kSellS K p f9 k) 0) 2 (((kSellS K p f9 k) 0 2) + ((kSellS K p f9 k) 20 (f9 + k))))), kc11 ad cI (setA (kSellS K p f9 k) 0 (upd ((kSellS K p f9 k) 0) 2 (((kSellS K p f9 k) 0 2) + ((kSellS K p f9 k) 20 (f9 + k))))), kc12 ad cI (setA (kSellS K p f9 k) 0 (upd ((kSellS K p f9 k) 0) 2 (((kSellS K p f9 k) 0 2) + ((kSellS K p f9 k) 20 (f9 + k))))), kc13 ad cI (setA (kSellS K p f9 k) 0 (upd ((kSellS K p f9 k) 0) 2 (((kSellS K p f9 k) 0 2) + ((kSellS K p f9 k) 20 (f9 + k))))), kc14 ad cI (setA (kSellS K p f9 k) 0 (upd ((kSellS K p f9 k) 0) 2 (((kSellS K p f9 k) 0 2) + ((kSellS K p f9 k) 20 (f9 + k))))), kc15 ad cI (setA (kSellS K p f9 k) 0 (upd ((kSellS K p f9 k) 0) 2 (((kSellS K p f9 k) 0 2) + ((kSellS K p f9 k) 20 (f9 + k))))), kc16 ad, kc17 ad cZ (kGive (setA (kSellS K p f9 k) 0 (upd ((kSellS K p f9 k) 0) 2 (((kSellS K p f9 k) 0 2) + ((kSellS K p f9 k) 20 (f9 + k))))) (f9 + k) (nI p)), kc18 ad cZ (kGive (setA (kSellS K p f9 k) 0 (upd ((kSellS K p f9 k) 0) 2 (((kSellS K p f9 k) 0 2) + ((kSellS K p f9 k) 20 (f9 + k))))) (f9 + k) (nI p)), kc19 ad cI (kGive (setA (kSellS K p f9 k) 0 (upd ((kSellS K p f9 k) 0) 2 (((kSellS K p f9 k) 0 2) + ((kSellS K p f9 k) 20 (f9 + k))))) (f9 + k) (nI p)), kc20 ad cI (kGive (setA (kSellS K p f9 k) 0 (upd ((kSellS K p f9 k) 0) 2 (((kSellS K p f9 k) 0 2) + ((kSellS K p f9 k) 20 (f9 + k))))) (f9 + k) (nI p)), kc21 ad cI (kGive (setA (kSellS K p f9 k) 0 (upd ((kSellS K p f9 k) 0) 2 (((kSellS K p f9 k) 0 2) + ((kSellS K p f9 k) 20 (f9 + k))))) (f9 + k) (nI p)), kc22 ad (setA (kSellS K p f9 k) 0 (upd ((kSellS K p f9 k) 0) 2 (((kSellS K p f9 k) 0 2) + ((kSellS K p f9 k) 20 (f9 + k))))), kc23 ad cI (setA (kSellS K p f9 k) 0 (upd ((kSellS K p f9 k) 0) 2 (((kSellS K p f9 k) 0 2) + ((kSellS K p f9 k) 20 (f9 + k))))), kc24 ad cI (setA (kSellS K p f9 k) 0 (upd ((kSellS K p f9 k) 0) 2 (((kSellS K p f9 k) 0 2) + ((kSellS K p f9 k) 20 (f9 + k))))), kc25 ad cI (setA (kSellS K p f9 k) 0 (upd ((kSellS K p f9 k) 0) 2 (((kSellS K p f9 k) 0 2) + ((kSellS K p f9 k) 20 (f9 + k)))))]) [0, 1, 2, 3, 4, 5, 6, 7, 8, 9, 10, 11, 12, 13, 14, 15, 20, 21, 22, 23, 24, 25, 16, 17, 18, 19] rfl rfl
          have hP : va_P D vwCl (kwA ad cI cZ (kGive (setA (kSellS K p f9 k) 0 (upd ((kSellS K p f9 k) 0) 2 (((kSellS K p f9 k) 0 2) + ((kSellS K p f9 k) 20 (f9 + k))))) (f9 + k) (nI p))) _ := hP
          have hD : va_D A (kwA ad cI cZ (kGive (setA (kSellS K p f9 k) 0 (upd ((kSellS K p f9 k) 0) 2 (((kSellS K p f9 k) 0 2) + ((kSellS K p f9 k) 20 (f9 + k))))) (f9 + k) (nI p))) := hD
          refine lv_iinc (v := nI ((f9 + k) + 1)) (lv' := [(4, .int (nI ((f9 + k) + 1))), (5, .int ((kSellS K p f9 k) 19 (f9 + k))), (3, .int (nI m9)), (2, .int (nI f9)), (0, .ref (ad 0)), (1, .int (nI p))]) hx hb dX5_sell_101 hl (k := 1) rfl ((show nI (f9 + k) + Int32.ofInt 1 = nI (f9 + k) + nI 1 from rfl).trans (nI_add _ _)) (by decide) rfl (fun ls hl => ?_)
          refine lv_goto (tgt := 23) hx hb dX5_sell_104 (by decide) ?_
          have eK_4 : (kSellS K p f9 (k + 1)) = (kGive (setA (kSellS K p f9 k) 0 (upd ((kSellS K p f9 k) 0) 2 (((kSellS K p f9 k) 0 2) + ((kSellS K p f9 k) 20 (f9 + k))))) (f9 + k) (nI p)) := (by simp only [kSellS, kSell1]; rw [if_pos c_2])
          exact ih_a (k + 1) (by omega) (by omega) (by omega) (kOwn_1 hp how2) _ _ (by rw [eK_4]; exact hP) (by rw [eK_4]; exact hD) hS ls (lv_sub hl [0, 2, 3, 4, 5] rfl)
  have eK_a : (kSellS K p f9 0) = K := rfl
  exact lp_a (m9 - 0 + 1) 0 (by omega) (by omega) (by omega) how _ _ (by rw [eK_a]; exact hP) (by rw [eK_a]; exact hD) hS ls (lv_sub hl [0, 1, 2, 3, 4] rfl)
set_option maxHeartbeats 4000000 in
set_option maxRecDepth 100000 in
theorem kX5_time (l : Launch) (D : va_G) (cI cZ : ClassId) (ad : Nat → Nat) (K : kS)   : Met l yX5_time wsX5_time ({ frames := 0, cells := 0, slots := 0, locals := 0 }) (va_Pc [.ref (ad 0)] (zRd D (zTy cI cZ) [kc0 ad K])) (vp_Si (fun r => r = K 0 0)) 0 0 (fun _ => False) := by
  refine Met.ofW (cc := cX5_time) (maxL := 1) (ret := (some .int)) (by decide) rfl ?_
  intro pP e s m args below meth c s₁ B hml hv
  obtain ⟨rfl, hP, hK⟩ := hv
  have hx := B.exec
  have hb := B.bytes
  have hr := B.returns
  have hts := atoms_spec (ws := wsX5_time) B.pre
  have hown : s.vm.findClass RX5 = some m.cls := findClass_of_methodNamed B.named
  have hlocks := B.notSynchronized
  have hinX5 : ∀ w ∈ u_ws RX5 TX5 9, w ∈ wsX5_time := by decide +kernel
  have hl := lv_entry ([.ref (ad 0)]) (n := 1) (Nat.le_of_ble_eq_true rfl)
  rw [lg_entry_eq]
  generalize (lg_sl ([.ref (ad 0)]) ++ List.replicate (1 - (lg_sl ([.ref (ad 0)])).length) Slot.unset).toArray = ls at hl ⊢
  have hl : lv_has ls 1 [(0, .ref (ad 0))] := hl
  refine lv_aload_n hx hb dX5_time_0 rfl (lv_at hl 0 rfl) ?_
  refine va_get (D := D) (ci := 5) (v := .int (K 0 0)) (C := RX5) (T := TX5) (N := 9) hx hb hts hinX5 hown hK hP 0 rfl rfl 0 (by decide) (hts (.fieldLink RX5 9 "AuditoriumKeys" "now" "I") (List.mem_of_getElem? (i := 1) rfl)) (fun _ h9 => h9) rfl dX5_time_1 ?_
  exact W.iret (v := K 0 0) hx hb hr (fun t ht hW => ⟨_, rfl, rfl, ht⟩) (fun _ h => nomatch h) dX5_time_4
set_option maxHeartbeats 4000000 in
set_option maxRecDepth 100000 in
theorem kX5_takings (l : Launch) (D : va_G) (cI cZ : ClassId) (ad : Nat → Nat) (K : kS)   : Met l yX5_takings wsX5_takings ({ frames := 0, cells := 0, slots := 0, locals := 0 }) (va_Pc [.ref (ad 0)] (zRd D (zTy cI cZ) [kc0 ad K])) (vp_Si (fun r => r = K 0 2)) 0 0 (fun _ => False) := by
  refine Met.ofW (cc := cX5_takings) (maxL := 1) (ret := (some .int)) (by decide) rfl ?_
  intro pP e s m args below meth c s₁ B hml hv
  obtain ⟨rfl, hP, hK⟩ := hv
  have hx := B.exec
  have hb := B.bytes
  have hr := B.returns
  have hts := atoms_spec (ws := wsX5_takings) B.pre
  have hown : s.vm.findClass RX5 = some m.cls := findClass_of_methodNamed B.named
  have hlocks := B.notSynchronized
  have hinX5 : ∀ w ∈ u_ws RX5 TX5 9, w ∈ wsX5_takings := by decide +kernel
  have hl := lv_entry ([.ref (ad 0)]) (n := 1) (Nat.le_of_ble_eq_true rfl)
  rw [lg_entry_eq]
  generalize (lg_sl ([.ref (ad 0)]) ++ List.replicate (1 - (lg_sl ([.ref (ad 0)])).length) Slot.unset).toArray = ls at hl ⊢
  have hl : lv_has ls 1 [(0, .ref (ad 0))] := hl
  refine lv_aload_n hx hb dX5_takings_0 rfl (lv_at hl 0 rfl) ?_
  refine va_get (D := D) (ci := 5) (v := .int (K 0 2)) (C := RX5) (T := TX5) (N := 9) hx hb hts hinX5 hown hK hP 0 rfl rfl 2 (by decide) (hts (.fieldLink RX5 16 "AuditoriumKeys" "taken" "I") (List.mem_of_getElem? (i := 1) rfl)) (fun _ h9 => h9) rfl dX5_takings_1 ?_
  exact W.iret (v := K 0 2) hx hb hr (fun t ht hW => ⟨_, rfl, rfl, ht⟩) (fun _ h => nomatch h) dX5_takings_4
set_option maxHeartbeats 4000000 in
set_option maxRecDepth 100000 in
theorem kX5_served (l : Launch) (hl9 : l.stackTraces = false) (D : va_G) (cI cZ : ClassId) (ad : Nat → Nat) (K : kS) (sz : Nat)   : zMi l yX5_served wsX5_served ({ frames := 3, cells := 0, slots := 0, locals := 67 }) [.ref (ad 0)] D (zTy cI cZ) (kwA ad cI cZ K) (kwA ad cI cZ K) sz (nI 0) (lServ K) 0 0 := by
  refine vx_ofW (cc := cX5_served) (maxL := 2) (ret := (some .int)) (by decide) rfl ?_
  intro pP e s m args below meth c s₁ B hml ht9 hv
  obtain ⟨rfl, hsz, hP, hK, hD0, hE0⟩ := hv
  have hx := B.exec
  have hb := B.bytes
  have hr := B.returns
  have hts := atoms_spec (ws := wsX5_served) B.pre
  have hown : s.vm.findClass RX5 = some m.cls := findClass_of_methodNamed B.named
  have hlocks := B.notSynchronized
  subst hsz
  have hD := hD0.self (sz := s.heap.size)
  generalize hAe : va_A (kwA ad cI cZ K) s.heap.size = A at hD hE0 ⊢
  have hE := hE0
  have hA : ∀ q : Nat, s.heap.size ≤ q → A q := fun q h => by rw [← hAe]; exact Or.inr h
  have hS : va_S A s.heap s.heap [] := va_S.rf
  have hinX2 : ∀ w ∈ u_ws RX2 TX2 1, w ∈ wsX5_served := by decide +kernel
  have hinX5 : ∀ w ∈ u_ws RX5 TX5 9, w ∈ wsX5_served := by decide +kernel
  have hl := lv_entry ([.ref (ad 0)]) (n := 2) (Nat.le_of_ble_eq_true rfl)
  rw [lg_entry_eq]
  generalize (lg_sl ([.ref (ad 0)]) ++ List.replicate (2 - (lg_sl ([.ref (ad 0)])).length) Slot.unset).toArray = ls at hl ⊢
  have hl : lv_has ls 2 [(0, .ref (ad 0))] := hl
  refine lv_aload_n hx hb dX5_served_0 rfl (lv_at hl 0 rfl) ?_
  refine va_get (D := D) (ci := 5) (v := .ref (ad 6)) (C := RX5) (T := TX5) (N := 9) hx hb hts hinX5 hown hK hP 0 rfl rfl 5 (by decide) (hts (.fieldLink RX5 33 "AuditoriumKeys" "line" "LAuditoriumKeys$Line;") (List.mem_of_getElem? (i := 1) rfl)) (fun _ h9 => h9) rfl dX5_served_1 ?_
  refine lv_iconst (v := nI 0) hx hb dX5_served_4 (by decide) ?_
  refine zc_rVN (As := [.int (nI 0)]) (rest := []) ⟨hx, hb, hml, hown, hts⟩ (kX2_personAt l D cI cZ ad K (nI 0) ) ⟨va_cnB 1 hts gX5_served_X2_personAt_n126 rfl rfl rfl (hE.1 (.methodLinkNest RX5 126 yX2_personAt "AuditoriumKeys") (List.mem_of_getElem? (i := 21) rfl)) (hts (.initialized RX2) (List.mem_of_getElem? (i := 4) rfl)) (by decide +kernel) ⟨(Nat.le_of_ble_eq_true rfl), (Nat.le_of_ble_eq_true rfl)⟩, (hts (.instanceMethod yX2_personAt) (List.mem_of_getElem? (i := 3) rfl)), (hts (.selects RX2 yX2_personAt yX2_personAt) (List.mem_of_getElem? (i := 5) rfl))⟩ hK (hP.sub (ws' := (kwL ad cI K)) [6, 7] rfl) (ci := 2) (q0 := 0) rfl rfl rfl rfl hl.1 rfl (Nat.le_of_ble_eq_true rfl) dX5_served_5 ⟨Nat.le_of_ble_eq_true rfl, Nat.le_of_ble_eq_true rfl⟩ ?_
  refine lv_istore_n (lv' := [(1, .int (lAt K (nI 0))), (0, .ref (ad 0))]) hx hb dX5_served_8 rfl hl (by decide) rfl (fun ls hl => ?_)
  refine lv_iload_n hx hb dX5_served_9 rfl (lv_at hl 0 rfl) ?_
  refine lv_iconst (v := (-1)) hx hb dX5_served_10 (by decide) ?_
  refine lv_icmp_eq (tgt := 30) hx hb dX5_served_11 (by decide) (fun c_1 => ?_) (fun c_1 => ?_)
  · skip
    have c_1 : lAt K (nI 0) = (-1) := c_1
    refine lv_iconst (v := (-1)) hx hb dX5_served_30 (by decide) ?_
    have hT9 : nI 0 = nI 0 := rfl
    have hP9 := hP
    have hD9 := hD
    have eR9 : (-1) = lServ K := (by simp [lServ, eq_true c_1])
    exact vx_ret (W.iret (v := (-1)) hx hb hr (fun t ht hW => ⟨⟨(-1), (), rfl, ⟨hT9, eR9⟩, by rw [ht]; exact hP9, va_K.moved hW.alike hK, hD9⟩, hS.F ht⟩) hS.2.2 dX5_served_31)
  · skip
    have c_1 : ¬ lAt K (nI 0) = (-1) := c_1
    obtain ⟨q9, hq9, hq8, hq7, -⟩ := zfind_ex c_1
    have hq6 : lAt K (nI 0) = nI q9 := hq7
    have hq5 : (lAt K (nI 0)).toNatClampNeg = q9 := by rw [hq6]; exact nI_clamp (by omega)
    refine lv_aload_n hx hb dX5_served_14 rfl (lv_at hl 1 rfl) ?_
    refine va_get (D := D) (ci := 5) (v := .ref (ad 6)) (C := RX5) (T := TX5) (N := 9) hx hb hts hinX5 hown hK hP 0 rfl rfl 5 (by decide) (hts (.fieldLink RX5 33 "AuditoriumKeys" "line" "LAuditoriumKeys$Line;") (List.mem_of_getElem? (i := 1) rfl)) (fun _ h9 => h9) rfl dX5_served_15 ?_
    refine va_getN (D := D) (ci := 2) (v := .ref (ad 7)) (C := RX2) (T := TX2) (N := 1) hx hb hts hinX2 hown hK hP 6 rfl rfl 0 (by decide) (va_Nw.use rfl (hE.1 (.fieldLinkNest RX5 134 "AuditoriumKeys$Line" "came" "[I" "AuditoriumKeys") (List.mem_of_getElem? (i := 2) rfl))) (fun _ h9 => h9) rfl dX5_served_18 ?_
    refine lv_iload_n hx hb dX5_served_21 rfl (lv_at hl 0 rfl) ?_
    refine zz_top (y := nI q9) hq6 ?_
    refine zz_iald hx hb hK hP 7 0 rfl rfl q9 (by omega) (by decide) dX5_served_22 ?_
    refine lv_aload_n hx hb dX5_served_23 rfl (lv_at hl 1 rfl) ?_
    refine va_get (D := D) (ci := 5) (v := .int (K 0 0)) (C := RX5) (T := TX5) (N := 9) hx hb hts hinX5 hown hK hP 0 rfl rfl 0 (by decide) (hts (.fieldLink RX5 9 "AuditoriumKeys" "now" "I") (List.mem_of_getElem? (i := 2) rfl)) (fun _ h9 => h9) rfl dX5_served_24 ?_
    refine lv_icmp_lt (tgt := 32) hx hb dX5_served_27 (by decide) (fun c_2 => ?_) (fun c_2 => ?_)
    · skip
      have c_2 : K 7 q9 < K 0 0 := c_2
      refine lv_iload_n hx hb dX5_served_32 rfl (lv_at hl 0 rfl) ?_
      have hT9 : nI 0 = nI 0 := rfl
      have hP9 := hP
      have hD9 := hD
      have eR9 : lAt K (nI 0) = lServ K := (by unfold lServ; rw [if_neg c_1, hq5, if_pos c_2])
      exact vx_ret (W.iret (v := lAt K (nI 0)) hx hb hr (fun t ht hW => ⟨⟨lAt K (nI 0), (), rfl, ⟨hT9, eR9⟩, by rw [ht]; exact hP9, va_K.moved hW.alike hK, hD9⟩, hS.F ht⟩) hS.2.2 dX5_served_33)
    · skip
      have c_2 : ¬ K 7 q9 < K 0 0 := c_2
      refine lv_iconst (v := (-1)) hx hb dX5_served_30 (by decide) ?_
      have hT9 : nI 0 = nI 0 := rfl
      have hP9 := hP
      have hD9 := hD
      have eR9 : (-1) = lServ K := (by unfold lServ; rw [if_neg c_1, hq5, if_neg c_2])
      exact vx_ret (W.iret (v := (-1)) hx hb hr (fun t ht hW => ⟨⟨(-1), (), rfl, ⟨hT9, eR9⟩, by rw [ht]; exact hP9, va_K.moved hW.alike hK, hD9⟩, hS.F ht⟩) hS.2.2 dX5_served_31)
