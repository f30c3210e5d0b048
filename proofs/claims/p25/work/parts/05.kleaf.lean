set_option maxHeartbeats 4000000 in
set_option maxRecDepth 100000 in
theorem kX2_isIn (l : Launch) (D : va_G) (cI cZ : ClassId) (ad : Nat → Nat) (K : kS) (p : Nat) (hp : p < 8) : Met l yX2_isIn wsX2_isIn ({ frames := 0, cells := 0, slots := 0, locals := 0 }) (va_Pc [.ref (ad 6), .int (nI p)] (zRd D (zTy cI cZ) (kwL ad cI K))) (vp_Si (fun r => r = zb (lIsIn K p))) 0 0 (fun _ => False) := by
  refine Met.ofW (cc := cX2_isIn) (maxL := 2) (ret := (some .boolean)) (by decide) rfl ?_
  intro pP e s m args below meth c s₁ B hml hv
  obtain ⟨rfl, hP, hK⟩ := hv
  have hx := B.exec
  have hb := B.bytes
  have hr := B.returns
  have hts := atoms_spec (ws := wsX2_isIn) B.pre
  have hown : s.vm.findClass RX2 = some m.cls := findClass_of_methodNamed B.named
  have hlocks := B.notSynchronized
  have hinX2 : ∀ w ∈ u_ws RX2 TX2 1, w ∈ wsX2_isIn := by decide +kernel
  have hl := lv_entry ([.ref (ad 6), .int (nI p)]) (n := 2) (Nat.le_of_ble_eq_true rfl)
  rw [lg_entry_eq]
  generalize (lg_sl ([.ref (ad 6), .int (nI p)]) ++ List.replicate (2 - (lg_sl ([.ref (ad 6), .int (nI p)])).length) Slot.unset).toArray = ls at hl ⊢
  have hl : lv_has ls 2 [(0, .ref (ad 6)), (1, .int (nI p))] := hl
  refine lv_aload_n hx hb dX2_isIn_0 rfl (lv_at hl 0 rfl) ?_
  refine va_get (D := D) (ci := 2) (v := .ref (ad 7)) (C := RX2) (T := TX2) (N := 1) hx hb hts hinX2 hown hK hP 0 rfl rfl 0 (by decide) (hts (.fieldLink RX2 9 "AuditoriumKeys$Line" "came" "[I") (List.mem_of_getElem? (i := 1) rfl)) (fun _ h9 => h9) rfl dX2_isIn_1 ?_
  refine lv_iload_n hx hb dX2_isIn_4 rfl (lv_at hl 1 rfl) ?_
  refine zz_iald hx hb hK hP 1 0 rfl rfl p (by omega) (by decide) dX2_isIn_5 ?_
  refine lv_iconst (v := (-1)) hx hb dX2_isIn_6 (by decide) ?_
  refine lv_icmp_eq (tgt := 14) hx hb dX2_isIn_7 (by decide) (fun c_1 => ?_) (fun c_1 => ?_)
  · skip
    have c_1 : K 7 p = (-1) := c_1
    refine lv_iconst (v := nI 0) hx hb dX2_isIn_14 (by decide) ?_
    exact W.zret (v := nI 0) hx hb hr rfl (fun t ht hW => ⟨_, rfl, (by simp [lIsIn, zb, eq_true c_1]), ht⟩) (fun _ h => nomatch h) dX2_isIn_15
  · skip
    have c_1 : ¬ K 7 p = (-1) := c_1
    refine lv_iconst (v := nI 1) hx hb dX2_isIn_10 (by decide) ?_
    refine lv_goto (tgt := 15) hx hb dX2_isIn_11 (by decide) ?_
    exact W.zret (v := nI 1) hx hb hr rfl (fun t ht hW => ⟨_, rfl, (by simp [lIsIn, zb, c_1]), ht⟩) (fun _ h => nomatch h) dX2_isIn_15
set_option maxHeartbeats 4000000 in
set_option maxRecDepth 100000 in
theorem kX2_rank (l : Launch) (D : va_G) (cI cZ : ClassId) (ad : Nat → Nat) (K : kS) (p : Nat) (hp : p < 8) : Met l yX2_rank wsX2_rank ({ frames := 0, cells := 0, slots := 0, locals := 0 }) (va_Pc [.ref (ad 6), .int (nI p)] (zRd D (zTy cI cZ) (kwL ad cI K))) (vp_Si (fun r => r = lRank K p)) 0 0 (fun _ => False) := by
  refine Met.ofW (cc := cX2_rank) (maxL := 3) (ret := (some .int)) (by decide) rfl ?_
  intro pP e s m args below meth c s₁ B hml hv
  obtain ⟨rfl, hP, hK⟩ := hv
  have hx := B.exec
  have hb := B.bytes
  have hr := B.returns
  have hts := atoms_spec (ws := wsX2_rank) B.pre
  have hown : s.vm.findClass RX2 = some m.cls := findClass_of_methodNamed B.named
  have hlocks := B.notSynchronized
  have hinX2 : ∀ w ∈ u_ws RX2 TX2 1, w ∈ wsX2_rank := by decide +kernel
  have hl := lv_entry ([.ref (ad 6), .int (nI p)]) (n := 3) (Nat.le_of_ble_eq_true rfl)
  rw [lg_entry_eq]
  generalize (lg_sl ([.ref (ad 6), .int (nI p)]) ++ List.replicate (3 - (lg_sl ([.ref (ad 6), .int (nI p)])).length) Slot.unset).toArray = ls at hl ⊢
  have hl : lv_has ls 3 [(0, .ref (ad 6)), (1, .int (nI p))] := hl
  refine lv_aload_n hx hb dX2_rank_0 rfl (lv_at hl 0 rfl) ?_
  refine va_get (D := D) (ci := 2) (v := .ref (ad 7)) (C := RX2) (T := TX2) (N := 1) hx hb hts hinX2 hown hK hP 0 rfl rfl 0 (by decide) (hts (.fieldLink RX2 9 "AuditoriumKeys$Line" "came" "[I") (List.mem_of_getElem? (i := 1) rfl)) (fun _ h9 => h9) rfl dX2_rank_1 ?_
  refine lv_iload_n hx hb dX2_rank_4 rfl (lv_at hl 1 rfl) ?_
  refine zz_iald hx hb hK hP 1 0 rfl rfl p (by omega) (by decide) dX2_rank_5 ?_
  refine lv_istore_n (lv' := [(2, .int (K 7 p)), (0, .ref (ad 6)), (1, .int (nI p))]) hx hb dX2_rank_6 rfl hl (by decide) rfl (fun ls hl => ?_)
  refine lv_bipush (v := nI 8) hx hb dX2_rank_7 (by decide) ?_
  refine lv_iload_n hx hb dX2_rank_9 rfl (lv_at hl 0 rfl) ?_
  refine lv_imul hx hb dX2_rank_10 ?_
  refine lv_iconst (v := nI 5) hx hb dX2_rank_11 (by decide) ?_
  refine lv_iload_n hx hb dX2_rank_12 rfl (lv_at hl 2 rfl) ?_
  refine lv_imul hx hb dX2_rank_13 ?_
  refine zz_top (y := nI (5 * p)) ((pk_mul 5 p).trans (congrArg nI (by first | rfl | omega | exact Nat.mul_comm _ _))) ?_
  refine lv_iconst (v := nI 3) hx hb dX2_rank_14 (by decide) ?_
  refine lv_iload_n hx hb dX2_rank_15 rfl (lv_at hl 0 rfl) ?_
  refine lv_imul hx hb dX2_rank_16 ?_
  refine lv_iadd hx hb dX2_rank_17 ?_
  refine lv_bipush (v := nI 8) hx hb dX2_rank_18 (by decide) ?_
  refine lv_irem hx hb dX2_rank_20 (by decide) ?_
  refine lv_iadd hx hb dX2_rank_21 ?_
  exact W.iret (v := ((nI 8) * (K 7 p)) + (((nI (5 * p)) + ((nI 3) * (K 7 p))) - ((nI (5 * p)) + ((nI 3) * (K 7 p))) / (nI 8) * (nI 8))) hx hb hr (fun t ht hW => ⟨_, rfl, rfl, ht⟩) (fun _ h => nomatch h) dX2_rank_22
set_option maxHeartbeats 4000000 in
set_option maxRecDepth 100000 in
theorem kX2_length (l : Launch) (D : va_G) (cI cZ : ClassId) (ad : Nat → Nat) (K : kS)   : Met l yX2_length wsX2_length ({ frames := 1, cells := 0, slots := 0, locals := 21 }) (va_Pc [.ref (ad 6)] (zRd D (zTy cI cZ) (kwL ad cI K))) (vp_Si (fun r => r = nI (lLen K))) 0 0 (fun _ => False) := by
  refine Met.ofW (cc := cX2_length) (maxL := 3) (ret := (some .int)) (by decide) rfl ?_
  intro pP e s m args below meth c s₁ B hml hv
  obtain ⟨rfl, hP, hK⟩ := hv
  have hx := B.exec
  have hb := B.bytes
  have hr := B.returns
  have hts := atoms_spec (ws := wsX2_length) B.pre
  have hown : s.vm.findClass RX2 = some m.cls := findClass_of_methodNamed B.named
  have hlocks := B.notSynchronized
  have hl := lv_entry ([.ref (ad 6)]) (n := 3) (Nat.le_of_ble_eq_true rfl)
  rw [lg_entry_eq]
  generalize (lg_sl ([.ref (ad 6)]) ++ List.replicate (3 - (lg_sl ([.ref (ad 6)])).length) Slot.unset).toArray = ls at hl ⊢
  have hl : lv_has ls 3 [(0, .ref (ad 6))] := hl
  refine lv_iconst (v := nI 0) hx hb dX2_length_0 (by decide) ?_
  refine lv_istore_n (lv' := [(1, .int (nI 0)), (0, .ref (ad 6))]) hx hb dX2_length_1 rfl hl (by decide) rfl (fun ls hl => ?_)
  refine lv_iconst (v := nI 0) hx hb dX2_length_2 (by decide) ?_
  refine lv_istore_n (lv' := [(2, .int (nI 0)), (1, .int (nI 0)), (0, .ref (ad 6))]) hx hb dX2_length_3 rfl hl (by decide) rfl (fun ls hl => ?_)
  have lp_a : ∀ (n i : Nat), 0 ≤ i → i ≤ 8 → 8 - i < n → ∀ ls : Array Slot, lv_has ls 3 [(2, .int (nI i)), (1, .int (nI (zcnt (fun j => lIsIn K j) i))), (0, .ref (ad 6))] → W pP l e ({ frames := 1, cells := 0, slots := 0, locals := 21 } : Room) s m ([.ref (ad 6)] : List Value).toArray below meth c s.heap [] 0 0 (MQ below (vp_Si (fun r => r = nI (lLen K))) ([.ref (ad 6)] : List Value).toArray s 0 0 (fun _ => False)) (F0 m 4 ls []) := by
    intro n
    induction n with
    | zero => intro i _ _ h; exact absurd h (Nat.not_lt_zero _)
    | succ n ih_a =>
      intro i hlo_a hin_a hdn_a  ls hl
      refine lv_iload_n hx hb dX2_length_4 rfl (lv_at hl 0 rfl) ?_
      refine lv_bipush (v := nI 8) hx hb dX2_length_5 (by decide) ?_
      refine lv_icmp_ge (tgt := 27) hx hb dX2_length_7 (by decide) (fun c_1 => ?_) (fun c_1 => ?_)
      · skip
        have c_1 := (nI_leI (a := 8) (b := i) (by omega) (by omega)).mp c_1
        have hi8 : i = 8 := by omega
        refine lv_iload_n hx hb dX2_length_27 rfl (lv_at hl 1 rfl) ?_
        exact W.iret (v := nI (zcnt (fun j => lIsIn K j) i)) hx hb hr (fun t ht hW => ⟨_, rfl, (by rw [hi8]; rfl), ht⟩) (fun _ h => nomatch h) dX2_length_28
      · skip
        have c_1 : ¬ 8 ≤ i := fun h => c_1 ((nI_leI (a := 8) (b := i) (by omega) (by omega)).mpr h)
        refine lv_aload_n hx hb dX2_length_10 rfl (lv_at hl 2 rfl) ?_
        refine lv_iload_n hx hb dX2_length_11 rfl (lv_at hl 0 rfl) ?_
        refine zc_rV (As := [.int (nI i)]) (rest := []) ⟨hx, hb, hml, hown, hts⟩ (kX2_isIn l D cI cZ ad K i (by omega)) (cwV 1 hts gX2_length_X2_isIn rfl rfl rfl (by decide +kernel) ⟨(Nat.le_of_ble_eq_true rfl), (Nat.le_of_ble_eq_true rfl)⟩) hK hP (ci := 2) (q0 := 0) rfl rfl rfl rfl hl.1 rfl (Nat.le_of_ble_eq_true rfl) dX2_length_12 ⟨Nat.zero_le _, Nat.zero_le _⟩ ?_
        refine lv_if_eq (tgt := 21) hx hb dX2_length_15 (by decide) (fun c_2 => ?_) (fun c_2 => ?_)
        · skip
          have c_2 := zb_f c_2
          refine lv_iinc (v := nI (i + 1)) (lv' := [(2, .int (nI (i + 1))), (1, .int (nI (zcnt (fun j => lIsIn K j) i))), (0, .ref (ad 6))]) hx hb dX2_length_21 hl (k := 0) rfl ((show nI i + Int32.ofInt 1 = nI i + nI 1 from rfl).trans (nI_add _ _)) (by decide) rfl (fun ls hl => ?_)
          refine lv_goto (tgt := 4) hx hb dX2_length_24 (by decide) ?_
          have es_3 : nI (zcnt (fun j => lIsIn K j) (i + 1)) = nI (zcnt (fun j => lIsIn K j) i) := (by simp [zcnt, c_2])
          exact ih_a (i + 1) (by omega) (by omega) (by omega)  ls (by rw [es_3]; exact lv_sub hl [0, 1, 2] rfl)
        · skip
          have c_2 := zb_t c_2
          refine lv_iinc (v := nI ((zcnt (fun j => lIsIn K j) i) + 1)) (lv' := [(1, .int (nI ((zcnt (fun j => lIsIn K j) i) + 1))), (2, .int (nI i)), (0, .ref (ad 6))]) hx hb dX2_length_18 hl (k := 1) rfl ((show nI (zcnt (fun j => lIsIn K j) i) + Int32.ofInt 1 = nI (zcnt (fun j => lIsIn K j) i) + nI 1 from rfl).trans (nI_add _ _)) (by decide) rfl (fun ls hl => ?_)
          refine lv_iinc (v := nI (i + 1)) (lv' := [(2, .int (nI (i + 1))), (1, .int (nI ((zcnt (fun j => lIsIn K j) i) + 1))), (0, .ref (ad 6))]) hx hb dX2_length_21 hl (k := 1) rfl ((show nI i + Int32.ofInt 1 = nI i + nI 1 from rfl).trans (nI_add _ _)) (by decide) rfl (fun ls hl => ?_)
          refine lv_goto (tgt := 4) hx hb dX2_length_24 (by decide) ?_
          have es_4 : nI (zcnt (fun j => lIsIn K j) (i + 1)) = nI ((zcnt (fun j => lIsIn K j) i) + 1) := (by simp [zcnt, c_2])
          exact ih_a (i + 1) (by omega) (by omega) (by omega)  ls (by rw [es_4]; exact lv_sub hl [0, 1, 2] rfl)
  have ei_a_1 : nI (zcnt (fun j => lIsIn K j) 0) = nI 0 := rfl
  exact lp_a (8 - 0 + 1) 0 (by omega) (by omega) (by omega)  ls (by rw [ei_a_1]; exact lv_sub hl [0, 1, 2] rfl)
set_option maxHeartbeats 4000000 in
set_option maxRecDepth 100000 in
theorem kX2_placeOf (l : Launch) (D : va_G) (cI cZ : ClassId) (ad : Nat → Nat) (K : kS) (p : Nat) (hp : p < 8) : Met l yX2_placeOf wsX2_placeOf ({ frames := 1, cells := 0, slots := 0, locals := 22 }) (va_Pc [.ref (ad 6), .int (nI p)] (zRd D (zTy cI cZ) (kwL ad cI K))) (vp_Si (fun r => r = nI (lPlace K p))) 0 0 (fun _ => False) := by
  refine Met.ofW (cc := cX2_placeOf) (maxL := 4) (ret := (some .int)) (by decide) rfl ?_
  intro pP e s m args below meth c s₁ B hml hv
  obtain ⟨rfl, hP, hK⟩ := hv
  have hx := B.exec
  have hb := B.bytes
  have hr := B.returns
  have hts := atoms_spec (ws := wsX2_placeOf) B.pre
  have hown : s.vm.findClass RX2 = some m.cls := findClass_of_methodNamed B.named
  have hlocks := B.notSynchronized
  have hl := lv_entry ([.ref (ad 6), .int (nI p)]) (n := 4) (Nat.le_of_ble_eq_true rfl)
  rw [lg_entry_eq]
  generalize (lg_sl ([.ref (ad 6), .int (nI p)]) ++ List.replicate (4 - (lg_sl ([.ref (ad 6), .int (nI p)])).length) Slot.unset).toArray = ls at hl ⊢
  have hl : lv_has ls 4 [(0, .ref (ad 6)), (1, .int (nI p))] := hl
  refine lv_iconst (v := nI 0) hx hb dX2_placeOf_0 (by decide) ?_
  refine lv_istore_n (lv' := [(2, .int (nI 0)), (0, .ref (ad 6)), (1, .int (nI p))]) hx hb dX2_placeOf_1 rfl hl (by decide) rfl (fun ls hl => ?_)
  refine lv_iconst (v := nI 0) hx hb dX2_placeOf_2 (by decide) ?_
  refine lv_istore_n (lv' := [(3, .int (nI 0)), (2, .int (nI 0)), (0, .ref (ad 6)), (1, .int (nI p))]) hx hb dX2_placeOf_3 rfl hl (by decide) rfl (fun ls hl => ?_)
  have lp_a : ∀ (n i : Nat), 0 ≤ i → i ≤ 8 → 8 - i < n → ∀ ls : Array Slot, lv_has ls 4 [(3, .int (nI i)), (2, .int (nI (zcnt (fun j => lIsIn K j && decide (¬ lRank K p ≤ lRank K j)) i))), (0, .ref (ad 6)), (1, .int (nI p))] → W pP l e ({ frames := 1, cells := 0, slots := 0, locals := 22 } : Room) s m ([.ref (ad 6), .int (nI p)] : List Value).toArray below meth c s.heap [] 0 0 (MQ below (vp_Si (fun r => r = nI (lPlace K p))) ([.ref (ad 6), .int (nI p)] : List Value).toArray s 0 0 (fun _ => False)) (F0 m 4 ls []) := by
    intro n
    induction n with
    | zero => intro i _ _ h; exact absurd h (Nat.not_lt_zero _)
    | succ n ih_a =>
      intro i hlo_a hin_a hdn_a  ls hl
      refine lv_iload_n hx hb dX2_placeOf_4 rfl (lv_at hl 0 rfl) ?_
      refine lv_bipush (v := nI 8) hx hb dX2_placeOf_5 (by decide) ?_
      refine lv_icmp_ge (tgt := 40) hx hb dX2_placeOf_7 (by decide) (fun c_1 => ?_) (fun c_1 => ?_)
      · skip
        have c_1 := (nI_leI (a := 8) (b := i) (by omega) (by omega)).mp c_1
        have hi8 : i = 8 := by omega
        refine lv_iload_n hx hb dX2_placeOf_40 rfl (lv_at hl 1 rfl) ?_
        exact W.iret (v := nI (zcnt (fun j => lIsIn K j && decide (¬ lRank K p ≤ lRank K j)) i)) hx hb hr (fun t ht hW => ⟨_, rfl, (by rw [hi8]; rfl), ht⟩) (fun _ h => nomatch h) dX2_placeOf_41
      · skip
        have c_1 : ¬ 8 ≤ i := fun h => c_1 ((nI_leI (a := 8) (b := i) (by omega) (by omega)).mpr h)
        refine lv_aload_n hx hb dX2_placeOf_10 rfl (lv_at hl 2 rfl) ?_
        refine lv_iload_n hx hb dX2_placeOf_11 rfl (lv_at hl 0 rfl) ?_
        refine zc_rV (As := [.int (nI i)]) (rest := []) ⟨hx, hb, hml, hown, hts⟩ (kX2_isIn l D cI cZ ad K i (by omega)) (cwV 1 hts gX2_placeOf_X2_isIn rfl rfl rfl (by decide +kernel) ⟨(Nat.le_of_ble_eq_true rfl), (Nat.le_of_ble_eq_true rfl)⟩) hK hP (ci := 2) (q0 := 0) rfl rfl rfl rfl hl.1 rfl (Nat.le_of_ble_eq_true rfl) dX2_placeOf_12 ⟨Nat.zero_le _, Nat.zero_le _⟩ ?_
        refine lv_if_eq (tgt := 34) hx hb dX2_placeOf_15 (by decide) (fun c_2 => ?_) (fun c_2 => ?_)
        · skip
          have c_2 := zb_f c_2
          refine lv_iinc (v := nI (i + 1)) (lv' := [(3, .int (nI (i + 1))), (2, .int (nI (zcnt (fun j => lIsIn K j && decide (¬ lRank K p ≤ lRank K j)) i))), (0, .ref (ad 6)), (1, .int (nI p))]) hx hb dX2_placeOf_34 hl (k := 0) rfl ((show nI i + Int32.ofInt 1 = nI i + nI 1 from rfl).trans (nI_add _ _)) (by decide) rfl (fun ls hl => ?_)
          refine lv_goto (tgt := 4) hx hb dX2_placeOf_37 (by decide) ?_
          have es_3 : nI (zcnt (fun j => lIsIn K j && decide (¬ lRank K p ≤ lRank K j)) (i + 1)) = nI (zcnt (fun j => lIsIn K j && decide (¬ lRank K p ≤ lRank K j)) i) := (by simp [zcnt, c_1, c_2])
          exact ih_a (i + 1) (by omega) (by omega) (by omega)  ls (by rw [es_3]; exact lv_sub hl [0, 1, 2, 3] rfl)
        · skip
          have c_2 := zb_t c_2
          refine lv_aload_n hx hb dX2_placeOf_18 rfl (lv_at hl 2 rfl) ?_
          refine lv_iload_n hx hb dX2_placeOf_19 rfl (lv_at hl 0 rfl) ?_
          refine zc_rV (As := [.int (nI i)]) (rest := []) ⟨hx, hb, hml, hown, hts⟩ (kX2_rank l D cI cZ ad K i (by omega)) (cwV 1 hts gX2_placeOf_X2_rank rfl rfl rfl (by decide +kernel) ⟨(Nat.le_of_ble_eq_true rfl), (Nat.le_of_ble_eq_true rfl)⟩) hK hP (ci := 2) (q0 := 0) rfl rfl rfl rfl hl.1 rfl (Nat.le_of_ble_eq_true rfl) dX2_placeOf_20 ⟨Nat.zero_le _, Nat.zero_le _⟩ ?_
          refine lv_aload_n hx hb dX2_placeOf_23 rfl (lv_at hl 2 rfl) ?_
          refine lv_iload_n hx hb dX2_placeOf_24 rfl (lv_at hl 3 rfl) ?_
          refine zc_rV (As := [.int (nI p)]) (rest := [.int (lRank K i)]) ⟨hx, hb, hml, hown, hts⟩ (kX2_rank l D cI cZ ad K p (by omega)) (cwV 1 hts gX2_placeOf_X2_rank rfl rfl rfl (by decide +kernel) ⟨(Nat.le_of_ble_eq_true rfl), (Nat.le_of_ble_eq_true rfl)⟩) hK hP (ci := 2) (q0 := 0) rfl rfl rfl rfl hl.1 rfl (Nat.le_of_ble_eq_true rfl) dX2_placeOf_25 ⟨Nat.zero_le _, Nat.zero_le _⟩ ?_
          refine lv_icmp_ge (tgt := 34) hx hb dX2_placeOf_28 (by decide) (fun c_4 => ?_) (fun c_4 => ?_)
          · skip
            have c_4 : lRank K p ≤ lRank K i := c_4
            refine lv_iinc (v := nI (i + 1)) (lv' := [(3, .int (nI (i + 1))), (2, .int (nI (zcnt (fun j => lIsIn K j && decide (¬ lRank K p ≤ lRank K j)) i))), (0, .ref (ad 6)), (1, .int (nI p))]) hx hb dX2_placeOf_34 hl (k := 0) rfl ((show nI i + Int32.ofInt 1 = nI i + nI 1 from rfl).trans (nI_add _ _)) (by decide) rfl (fun ls hl => ?_)
            refine lv_goto (tgt := 4) hx hb dX2_placeOf_37 (by decide) ?_
            have es_5 : nI (zcnt (fun j => lIsIn K j && decide (¬ lRank K p ≤ lRank K j)) (i + 1)) = nI (zcnt (fun j => lIsIn K j && decide (¬ lRank K p ≤ lRank K j)) i) := (by simp [zcnt, c_1, c_2, c_4])
            exact ih_a (i + 1) (by omega) (by omega) (by omega)  ls (by rw [es_5]; exact lv_sub hl [0, 1, 2, 3] rfl)
          · skip
            have c_4 : ¬ lRank K p ≤ lRank K i := c_4
            refine lv_iinc (v := nI ((zcnt (fun j => lIsIn K j && decide (¬ lRank K p ≤ lRank K j)) i) + 1)) (lv' := [(2, .int (nI ((zcnt (fun j => lIsIn K j && decide (¬ lRank K p ≤ lRank K j)) i) + 1))), (3, .int (nI i)), (0, .ref (ad 6)), (1, .int (nI p))]) hx hb dX2_placeOf_31 hl (k := 1) rfl ((show nI (zcnt (fun j => lIsIn K j && decide (¬ lRank K p ≤ lRank K j)) i) + Int32.ofInt 1 = nI (zcnt (fun j => lIsIn K j && decide (¬ lRank K p ≤ lRank K j)) i) + nI 1 from rfl).trans (nI_add _ _)) (by decide) rfl (fun ls hl => ?_)
            refine lv_iinc (v := nI (i + 1)) (lv' := [(3, .int (nI (i + 1))), (2, .int (nI ((zcnt (fun j => lIsIn K j && decide (¬ lRank K p ≤ lRank K j)) i) + 1))), (0, .ref (ad 6)), (1, .int (nI p))]) hx hb dX2_placeOf_34 hl (k := 1) rfl ((show nI i + Int32.ofInt 1 = nI i + nI 1 from rfl).trans (nI_add _ _)) (by decide) rfl (fun ls hl => ?_)
            refine lv_goto (tgt := 4) hx hb dX2_placeOf_37 (by decide) ?_
            have es_6 : nI (zcnt (fun j => lIsIn K j && decide (¬ lRank K p ≤ lRank K j)) (i + 1)) = nI ((zcnt (fun j => lIsIn K j && decide (¬ lRank K p ≤ lRank K j)) i) + 1) := (by simp [zcnt, c_1, c_2, c_4])
            exact ih_a (i + 1) (by omega) (by omega) (by omega)  ls (by rw [es_6]; exact lv_sub hl [0, 1, 2, 3] rfl)
  have ei_a_2 : nI (zcnt (fun j => lIsIn K j && decide (¬ lRank K p ≤ lRank K j)) 0) = nI 0 := rfl
  exact lp_a (8 - 0 + 1) 0 (by omega) (by omega) (by omega)  ls (by rw [ei_a_2]; exact lv_sub hl [0, 1, 2, 3] rfl)
set_option maxHeartbeats 4000000 in
set_option maxRecDepth 100000 in
theorem kX2_personAt (l : Launch) (D : va_G) (cI cZ : ClassId) (ad : Nat → Nat) (K : kS) (x : Int32)  : Met l yX2_personAt wsX2_personAt ({ frames := 2, cells := 0, slots := 0, locals := 45 }) (va_Pc [.ref (ad 6), .int x] (zRd D (zTy cI cZ) (kwL ad cI K))) (vp_Si (fun r => r = lAt K x)) 0 0 (fun _ => False) := by
  refine Met.ofW (cc := cX2_personAt) (maxL := 3) (ret := (some .int)) (by decide) rfl ?_
  intro pP e s m args below meth c s₁ B hml hv
  obtain ⟨rfl, hP, hK⟩ := hv
  have hx := B.exec
  have hb := B.bytes
  have hr := B.returns
  have hts := atoms_spec (ws := wsX2_personAt) B.pre
  have hown : s.vm.findClass RX2 = some m.cls := findClass_of_methodNamed B.named
  have hlocks := B.notSynchronized
  have hl := lv_entry ([.ref (ad 6), .int x]) (n := 3) (Nat.le_of_ble_eq_true rfl)
  rw [lg_entry_eq]
  generalize (lg_sl ([.ref (ad 6), .int x]) ++ List.replicate (3 - (lg_sl ([.ref (ad 6), .int x])).length) Slot.unset).toArray = ls at hl ⊢
  have hl : lv_has ls 3 [(0, .ref (ad 6)), (1, .int x)] := hl
  refine lv_iconst (v := nI 0) hx hb dX2_personAt_0 (by decide) ?_
  refine lv_istore_n (lv' := [(2, .int (nI 0)), (0, .ref (ad 6)), (1, .int x)]) hx hb dX2_personAt_1 rfl hl (by decide) rfl (fun ls hl => ?_)
  have lp_a : ∀ (n i : Nat), 0 ≤ i → i ≤ 8 → 8 - i < n → (∀ j, j < i → (lIsIn K j && decide (nI (lPlace K j) = x)) = false) → ∀ ls : Array Slot, lv_has ls 3 [(2, .int (nI i)), (0, .ref (ad 6)), (1, .int x)] → W pP l e ({ frames := 2, cells := 0, slots := 0, locals := 45 } : Room) s m ([.ref (ad 6), .int x] : List Value).toArray below meth c s.heap [] 0 0 (MQ below (vp_Si (fun r => r = lAt K x)) ([.ref (ad 6), .int x] : List Value).toArray s 0 0 (fun _ => False)) (F0 m 2 ls []) := by
    intro n
    induction n with
    | zero => intro i _ _ h; exact absurd h (Nat.not_lt_zero _)
    | succ n ih_a =>
      intro i hlo_a hin_a hdn_a hno ls hl
      refine lv_iload_n hx hb dX2_personAt_2 rfl (lv_at hl 0 rfl) ?_
      refine lv_bipush (v := nI 8) hx hb dX2_personAt_3 (by decide) ?_
      refine lv_icmp_ge (tgt := 33) hx hb dX2_personAt_5 (by decide) (fun c_1 => ?_) (fun c_1 => ?_)
      · skip
        have c_1 := (nI_leI (a := 8) (b := i) (by omega) (by omega)).mp c_1
        have hi8 : i = 8 := by omega
        refine lv_iconst (v := (-1)) hx hb dX2_personAt_33 (by decide) ?_
        exact W.iret (v := (-1)) hx hb hr (fun t ht hW => ⟨_, rfl, (by rw [hi8] at hno; exact (zfind_no hno).symm), ht⟩) (fun _ h => nomatch h) dX2_personAt_34
      · skip
        have c_1 : ¬ 8 ≤ i := fun h => c_1 ((nI_leI (a := 8) (b := i) (by omega) (by omega)).mpr h)
        refine lv_aload_n hx hb dX2_personAt_8 rfl (lv_at hl 1 rfl) ?_
        refine lv_iload_n hx hb dX2_personAt_9 rfl (lv_at hl 0 rfl) ?_
        refine zc_rV (As := [.int (nI i)]) (rest := []) ⟨hx, hb, hml, hown, hts⟩ (kX2_isIn l D cI cZ ad K i (by omega)) (cwV 1 hts gX2_personAt_X2_isIn rfl rfl rfl (by decide +kernel) ⟨(Nat.le_of_ble_eq_true rfl), (Nat.le_of_ble_eq_true rfl)⟩) hK hP (ci := 2) (q0 := 0) rfl rfl rfl rfl hl.1 rfl (Nat.le_of_ble_eq_true rfl) dX2_personAt_10 ⟨Nat.zero_le _, Nat.zero_le _⟩ ?_
        refine lv_if_eq (tgt := 27) hx hb dX2_personAt_13 (by decide) (fun c_2 => ?_) (fun c_2 => ?_)
        · skip
          have c_2 := zb_f c_2
          refine lv_iinc (v := nI (i + 1)) (lv' := [(2, .int (nI (i + 1))), (0, .ref (ad 6)), (1, .int x)]) hx hb dX2_personAt_27 hl (k := 0) rfl ((show nI i + Int32.ofInt 1 = nI i + nI 1 from rfl).trans (nI_add _ _)) (by decide) rfl (fun ls hl => ?_)
          refine lv_goto (tgt := 2) hx hb dX2_personAt_30 (by decide) ?_
          exact ih_a (i + 1) (by omega) (by omega) (by omega) (lt_succ_all hno (by simp [c_1, c_2])) ls (lv_sub hl [0, 1, 2] rfl)
        · skip
          have c_2 := zb_t c_2
          refine lv_aload_n hx hb dX2_personAt_16 rfl (lv_at hl 1 rfl) ?_
          refine lv_iload_n hx hb dX2_personAt_17 rfl (lv_at hl 0 rfl) ?_
          refine zc_rV (As := [.int (nI i)]) (rest := []) ⟨hx, hb, hml, hown, hts⟩ (kX2_placeOf l D cI cZ ad K i (by omega)) (cwV 1 hts gX2_personAt_X2_placeOf rfl rfl rfl (by decide +kernel) ⟨(Nat.le_of_ble_eq_true rfl), (Nat.le_of_ble_eq_true rfl)⟩) hK hP (ci := 2) (q0 := 0) rfl rfl rfl rfl hl.1 rfl (Nat.le_of_ble_eq_true rfl) dX2_personAt_18 ⟨Nat.zero_le _, Nat.zero_le _⟩ ?_
          refine lv_iload_n hx hb dX2_personAt_21 rfl (lv_at hl 2 rfl) ?_
          refine lv_icmp_ne (tgt := 27) hx hb dX2_personAt_22 (by decide) (fun c_3 => ?_) (fun c_3 => ?_)
          · skip
            have c_3 : ¬ nI (lPlace K i) = x := c_3
            refine lv_iinc (v := nI (i + 1)) (lv' := [(2, .int (nI (i + 1))), (0, .ref (ad 6)), (1, .int x)]) hx hb dX2_personAt_27 hl (k := 0) rfl ((show nI i + Int32.ofInt 1 = nI i + nI 1 from rfl).trans (nI_add _ _)) (by decide) rfl (fun ls hl => ?_)
            refine lv_goto (tgt := 2) hx hb dX2_personAt_30 (by decide) ?_
            exact ih_a (i + 1) (by omega) (by omega) (by omega) (lt_succ_all hno (by simp [c_1, c_2, c_3])) ls (lv_sub hl [0, 1, 2] rfl)
          · skip
            have c_3 : nI (lPlace K i) = x := c_3
            refine lv_iload_n hx hb dX2_personAt_25 rfl (lv_at hl 0 rfl) ?_
            exact W.iret (v := nI i) hx hb hr (fun t ht hW => ⟨_, rfl, (zfind_at (by omega) hno (by simp [c_1, c_2, eq_true c_3])).symm, ht⟩) (fun _ h => nomatch h) dX2_personAt_26
  exact lp_a (8 - 0 + 1) 0 (by omega) (by omega) (by omega) (fun j hj => absurd hj (Nat.not_lt_zero j)) ls (lv_sub hl [0, 1, 2] rfl)
set_option maxHeartbeats 4000000 in
set_option maxRecDepth 100000 in
theorem kX2_enter (l : Launch) (D : va_G) (cI cZ : ClassId) (ad : Nat → Nat) (K : kS) (sz : Nat) (p : Nat) (x : Int32) (hp : p < 8) : Met l yX2_enter wsX2_enter ({ frames := 0, cells := 0, slots := 0, locals := 0 }) (va_Pc [.ref (ad 6), .int (nI p), .int x] (zPr D (zTy cI cZ) (kwL ad cI K) sz)) (va_Qv (fun _ : Unit => True) (fun _ => zPo D (zTy cI cZ) (va_A (kwL ad cI K) sz) (kwL ad cI (kEnter K p x))) (va_A (kwL ad cI K) sz)) 0 0 (va_A (kwL ad cI K) sz) := by
  refine Met.ofW (cc := cX2_enter) (maxL := 3) (ret := none) (by decide) rfl ?_
  intro pP e s m args below meth c s₁ B hml hv
  obtain ⟨rfl, hsz, hP, hK, hD0⟩ := hv
  have hx := B.exec
  have hb := B.bytes
  have hr := B.returns
  have hts := atoms_spec (ws := wsX2_enter) B.pre
  have hown : s.vm.findClass RX2 = some m.cls := findClass_of_methodNamed B.named
  have hlocks := B.notSynchronized
  subst hsz
  have hD := hD0.self (sz := s.heap.size)
  generalize hAe : va_A (kwL ad cI K) s.heap.size = A at hD ⊢
  have hA : ∀ q : Nat, s.heap.size ≤ q → A q := fun q h => by rw [← hAe]; exact Or.inr h
  have hS : va_S A s.heap s.heap [] := va_S.rf
  have hinX2 : ∀ w ∈ u_ws RX2 TX2 1, w ∈ wsX2_enter := by decide +kernel
  have hl := lv_entry ([.ref (ad 6), .int (nI p), .int x]) (n := 3) (Nat.le_of_ble_eq_true rfl)
  rw [lg_entry_eq]
  generalize (lg_sl ([.ref (ad 6), .int (nI p), .int x]) ++ List.replicate (3 - (lg_sl ([.ref (ad 6), .int (nI p), .int x])).length) Slot.unset).toArray = ls at hl ⊢
  have hl : lv_has ls 3 [(0, .ref (ad 6)), (1, .int (nI p)), (2, .int x)] := hl
  refine lv_aload_n hx hb dX2_enter_0 rfl (lv_at hl 0 rfl) ?_
  refine va_get (D := D) (ci := 2) (v := .ref (ad 7)) (C := RX2) (T := TX2) (N := 1) hx hb hts hinX2 hown hK hP 0 rfl rfl 0 (by decide) (hts (.fieldLink RX2 9 "AuditoriumKeys$Line" "came" "[I") (List.mem_of_getElem? (i := 1) rfl)) (fun _ h9 => h9) rfl dX2_enter_1 ?_
  refine lv_iload_n hx hb dX2_enter_4 rfl (lv_at hl 1 rfl) ?_
  refine lv_iload_n hx hb dX2_enter_5 rfl (lv_at hl 2 rfl) ?_
  refine zz_iast hx hb hK hP hD hS 1 0 rfl rfl p (by omega) (by decide) dX2_enter_6 (fun H locs hP hD hS => ?_)
  have hP : va_P D vwCl (kwL ad cI (setA K 7 (upd (K 7) p x))) _ := hP
  have hD : va_D A (kwL ad cI (setA K 7 (upd (K 7) p x))) := hD
  have eK9 : (kEnter K p x) = (setA K 7 (upd (K 7) p x)) := rfl
  have hP9 := hP
  have hD9 := hD
  rw [← eK9] at hP9 hD9
  exact W.vret hx hb hr (fun t ht hW => ⟨⟨(), rfl, trivial, by rw [ht]; exact hP9, va_K.moved hW.alike hK, hD9⟩, hS.F ht⟩) hS.2.2 dX2_enter_7
set_option maxHeartbeats 4000000 in
set_option maxRecDepth 100000 in
theorem kX2_leave (l : Launch) (D : va_G) (cI cZ : ClassId) (ad : Nat → Nat) (K : kS) (sz : Nat) (p : Nat) (hp : p < 8) : Met l yX2_leave wsX2_leave ({ frames := 0, cells := 0, slots := 0, locals := 0 }) (va_Pc [.ref (ad 6), .int (nI p)] (zPr D (zTy cI cZ) (kwL ad cI K) sz)) (va_Qv (fun _ : Unit => True) (fun _ => zPo D (zTy cI cZ) (va_A (kwL ad cI K) sz) (kwL ad cI (kLeave K p))) (va_A (kwL ad cI K) sz)) 0 0 (va_A (kwL ad cI K) sz) := by
  refine Met.ofW (cc := cX2_leave) (maxL := 2) (ret := none) (by decide) rfl ?_
  intro pP e s m args below meth c s₁ B hml hv
  obtain ⟨rfl, hsz, hP, hK, hD0⟩ := hv
  have hx := B.exec
  have hb := B.bytes
  have hr := B.returns
  have hts := atoms_spec (ws := wsX2_leave) B.pre
  have hown : s.vm.findClass RX2 = some m.cls := findClass_of_methodNamed B.named
  have hlocks := B.notSynchronized
  subst hsz
  have hD := hD0.self (sz := s.heap.size)
  generalize hAe : va_A (kwL ad cI K) s.heap.size = A at hD ⊢
  have hA : ∀ q : Nat, s.heap.size ≤ q → A q := fun q h => by rw [← hAe]; exact Or.inr h
  have hS : va_S A s.heap s.heap [] := va_S.rf
  have hinX2 : ∀ w ∈ u_ws RX2 TX2 1, w ∈ wsX2_leave := by decide +kernel
  have hl := lv_entry ([.ref (ad 6), .int (nI p)]) (n := 2) (Nat.le_of_ble_eq_true rfl)
  rw [lg_entry_eq]
  generalize (lg_sl ([.ref (ad 6), .int (nI p)]) ++ List.replicate (2 - (lg_sl ([.ref (ad 6), .int (nI p)])).length) Slot.unset).toArray = ls at hl ⊢
  have hl : lv_has ls 2 [(0, .ref (ad 6)), (1, .int (nI p))] := hl
  refine lv_aload_n hx hb dX2_leave_0 rfl (lv_at hl 0 rfl) ?_
  refine va_get (D := D) (ci := 2) (v := .ref (ad 7)) (C := RX2) (T := TX2) (N := 1) hx hb hts hinX2 hown hK hP 0 rfl rfl 0 (by decide) (hts (.fieldLink RX2 9 "AuditoriumKeys$Line" "came" "[I") (List.mem_of_getElem? (i := 1) rfl)) (fun _ h9 => h9) rfl dX2_leave_1 ?_
  refine lv_iload_n hx hb dX2_leave_4 rfl (lv_at hl 1 rfl) ?_
  refine lv_iconst (v := (-1)) hx hb dX2_leave_5 (by decide) ?_
  refine zz_iast hx hb hK hP hD hS 1 0 rfl rfl p (by omega) (by decide) dX2_leave_6 (fun H locs hP hD hS => ?_)
  have hP : va_P D vwCl (kwL ad cI (setA K 7 (upd (K 7) p (-1)))) _ := hP
  have hD : va_D A (kwL ad cI (setA K 7 (upd (K 7) p (-1)))) := hD
  have eK9 : (kLeave K p) = (setA K 7 (upd (K 7) p (-1))) := rfl
  have hP9 := hP
  have hD9 := hD
  rw [← eK9] at hP9 hD9
  exact W.vret hx hb hr (fun t ht hW => ⟨⟨(), rfl, trivial, by rw [ht]; exact hP9, va_K.moved hW.alike hK, hD9⟩, hS.F ht⟩) hS.2.2 dX2_leave_7
set_option maxHeartbeats 4000000 in
set_option maxRecDepth 100000 in
theorem kX1_isThere (l : Launch) (D : va_G) (cI cZ : ClassId) (ad : Nat → Nat) (K : kS) (p : Nat) (hp : p < 8) : Met l yX1_isThere wsX1_isThere ({ frames := 0, cells := 0, slots := 0, locals := 0 }) (va_Pc [.ref (ad 8), .int (nI p)] (zRd D (zTy cI cZ) (kwH ad cI K))) (vp_Si (fun r => r = zb (hThere K p))) 0 0 (fun _ => False) := by
  refine Met.ofW (cc := cX1_isThere) (maxL := 2) (ret := (some .boolean)) (by decide) rfl ?_
  intro pP e s m args below meth c s₁ B hml hv
  obtain ⟨rfl, hP, hK⟩ := hv
  have hx := B.exec
  have hb := B.bytes
  have hr := B.returns
  have hts := atoms_spec (ws := wsX1_isThere) B.pre
  have hown : s.vm.findClass RX1 = some m.cls := findClass_of_methodNamed B.named
  have hlocks := B.notSynchronized
  have hinX1 : ∀ w ∈ u_ws RX1 TX1 7, w ∈ wsX1_isThere := by decide +kernel
  have hl := lv_entry ([.ref (ad 8), .int (nI p)]) (n := 2) (Nat.le_of_ble_eq_true rfl)
  rw [lg_entry_eq]
  generalize (lg_sl ([.ref (ad 8), .int (nI p)]) ++ List.replicate (2 - (lg_sl ([.ref (ad 8), .int (nI p)])).length) Slot.unset).toArray = ls at hl ⊢
  have hl : lv_has ls 2 [(0, .ref (ad 8)), (1, .int (nI p))] := hl
  refine lv_aload_n hx hb dX1_isThere_0 rfl (lv_at hl 0 rfl) ?_
  refine va_get (D := D) (ci := 1) (v := .ref (ad 10)) (C := RX1) (T := TX1) (N := 7) hx hb hts hinX1 hown hK hP 0 rfl rfl 1 (by decide) (hts (.fieldLink RX1 15 "AuditoriumKeys$Holds" "many" "[I") (List.mem_of_getElem? (i := 1) rfl)) (fun _ h9 => h9) rfl dX1_isThere_1 ?_
  refine lv_iload_n hx hb dX1_isThere_4 rfl (lv_at hl 1 rfl) ?_
  refine zz_iald hx hb hK hP 2 0 rfl rfl p (by omega) (by decide) dX1_isThere_5 ?_
  refine lv_if_le (tgt := 13) hx hb dX1_isThere_6 (by decide) (fun c_1 => ?_) (fun c_1 => ?_)
  · skip
    have c_1 : K 10 p ≤ 0 := c_1
    refine lv_iconst (v := nI 0) hx hb dX1_isThere_13 (by decide) ?_
    exact W.zret (v := nI 0) hx hb hr rfl (fun t ht hW => ⟨_, rfl, (by simp [hThere, zb, c_1]), ht⟩) (fun _ h => nomatch h) dX1_isThere_14
  · skip
    have c_1 : ¬ K 10 p ≤ 0 := c_1
    refine lv_iconst (v := nI 1) hx hb dX1_isThere_9 (by decide) ?_
    refine lv_goto (tgt := 14) hx hb dX1_isThere_10 (by decide) ?_
    exact W.zret (v := nI 1) hx hb hr rfl (fun t ht hW => ⟨_, rfl, (by simp [hThere, zb, c_1]), ht⟩) (fun _ h => nomatch h) dX1_isThere_14
set_option maxHeartbeats 4000000 in
set_option maxRecDepth 100000 in
theorem kX1_left (l : Launch) (D : va_G) (cI cZ : ClassId) (ad : Nat → Nat) (K : kS) (p : Nat) (hp : p < 8) : Met l yX1_left wsX1_left ({ frames := 0, cells := 0, slots := 0, locals := 0 }) (va_Pc [.ref (ad 8), .int (nI p)] (zRd D (zTy cI cZ) (kwH ad cI K))) (vp_Si (fun r => r = hLeft K p)) 0 0 (fun _ => False) := by
  refine Met.ofW (cc := cX1_left) (maxL := 2) (ret := (some .int)) (by decide) rfl ?_
  intro pP e s m args below meth c s₁ B hml hv
  obtain ⟨rfl, hP, hK⟩ := hv
  have hx := B.exec
  have hb := B.bytes
  have hr := B.returns
  have hts := atoms_spec (ws := wsX1_left) B.pre
  have hown : s.vm.findClass RX1 = some m.cls := findClass_of_methodNamed B.named
  have hlocks := B.notSynchronized
  have hinX1 : ∀ w ∈ u_ws RX1 TX1 7, w ∈ wsX1_left := by decide +kernel
  have hl := lv_entry ([.ref (ad 8), .int (nI p)]) (n := 2) (Nat.le_of_ble_eq_true rfl)
  rw [lg_entry_eq]
  generalize (lg_sl ([.ref (ad 8), .int (nI p)]) ++ List.replicate (2 - (lg_sl ([.ref (ad 8), .int (nI p)])).length) Slot.unset).toArray = ls at hl ⊢
  have hl : lv_has ls 2 [(0, .ref (ad 8)), (1, .int (nI p))] := hl
  refine lv_aload_n hx hb dX1_left_0 rfl (lv_at hl 0 rfl) ?_
  refine va_get (D := D) (ci := 1) (v := .ref (ad 12)) (C := RX1) (T := TX1) (N := 7) hx hb hts hinX1 hown hK hP 0 rfl rfl 3 (by decide) (hts (.fieldLink RX1 21 "AuditoriumKeys$Holds" "cost" "[I") (List.mem_of_getElem? (i := 1) rfl)) (fun _ h9 => h9) rfl dX1_left_1 ?_
  refine lv_iload_n hx hb dX1_left_4 rfl (lv_at hl 1 rfl) ?_
  refine zz_iald hx hb hK hP 4 0 rfl rfl p (by omega) (by decide) dX1_left_5 ?_
  refine lv_aload_n hx hb dX1_left_6 rfl (lv_at hl 0 rfl) ?_
  refine va_get (D := D) (ci := 1) (v := .ref (ad 13)) (C := RX1) (T := TX1) (N := 7) hx hb hts hinX1 hown hK hP 0 rfl rfl 4 (by decide) (hts (.fieldLink RX1 24 "AuditoriumKeys$Holds" "paid" "[I") (List.mem_of_getElem? (i := 2) rfl)) (fun _ h9 => h9) rfl dX1_left_7 ?_
  refine lv_iload_n hx hb dX1_left_10 rfl (lv_at hl 1 rfl) ?_
  refine zz_iald hx hb hK hP 5 0 rfl rfl p (by omega) (by decide) dX1_left_11 ?_
  refine lv_isub hx hb dX1_left_12 ?_
  exact W.iret (v := (K 12 p) - (K 13 p)) hx hb hr (fun t ht hW => ⟨_, rfl, rfl, ht⟩) (fun _ h => nomatch h) dX1_left_13
set_option maxHeartbeats 4000000 in
set_option maxRecDepth 100000 in
theorem kX1_make (l : Launch) (D : va_G) (cI cZ : ClassId) (ad : Nat → Nat) (K : kS) (sz : Nat) (p : Nat) (f : Nat) (m9 : Nat) (c9 : Int32) (w9 : Int32) (n9 : Int32) (hp : p < 8) : Met l yX1_make wsX1_make ({ frames := 0, cells := 0, slots := 0, locals := 0 }) (va_Pc [.ref (ad 8), .int (nI p), .int (nI f), .int (nI m9), .int c9, .int w9, .int n9] (zPr D (zTy cI cZ) (kwH ad cI K) sz)) (va_Qv (fun _ : Unit => True) (fun _ => zPo D (zTy cI cZ) (va_A (kwH ad cI K) sz) (kwH ad cI (kMake K p f m9 c9 w9 n9))) (va_A (kwH ad cI K) sz)) 0 0 (va_A (kwH ad cI K) sz) := by
  refine Met.ofW (cc := cX1_make) (maxL := 7) (ret := none) (by decide) rfl ?_
  intro pP e s m args below meth c s₁ B hml hv
  obtain ⟨rfl, hsz, hP, hK, hD0⟩ := hv
  have hx := B.exec
  have hb := B.bytes
  have hr := B.returns
  have hts := atoms_spec (ws := wsX1_make) B.pre
  have hown : s.vm.findClass RX1 = some m.cls := findClass_of_methodNamed B.named
  have hlocks := B.notSynchronized
  subst hsz
  have hD := hD0.self (sz := s.heap.size)
  generalize hAe : va_A (kwH ad cI K) s.heap.size = A at hD ⊢
  have hA : ∀ q : Nat, s.heap.size ≤ q → A q := fun q h => by rw [← hAe]; exact Or.inr h
  have hS : va_S A s.heap s.heap [] := va_S.rf
  have hinX1 : ∀ w ∈ u_ws RX1 TX1 7, w ∈ wsX1_make := by decide +kernel
  have hl := lv_entry ([.ref (ad 8), .int (nI p), .int (nI f), .int (nI m9), .int c9, .int w9, .int n9]) (n := 7) (Nat.le_of_ble_eq_true rfl)
  rw [lg_entry_eq]
  generalize (lg_sl ([.ref (ad 8), .int (nI p), .int (nI f), .int (nI m9), .int c9, .int w9, .int n9]) ++ List.replicate (7 - (lg_sl ([.ref (ad 8), .int (nI p), .int (nI f), .int (nI m9), .int c9, .int w9, .int n9])).length) Slot.unset).toArray = ls at hl ⊢
  have hl : lv_has ls 7 [(0, .ref (ad 8)), (1, .int (nI p)), (2, .int (nI f)), (3, .int (nI m9)), (4, .int c9), (5, .int w9), (6, .int n9)] := hl
  refine lv_aload_n hx hb dX1_make_0 rfl (lv_at hl 0 rfl) ?_
  refine va_get (D := D) (ci := 1) (v := .ref (ad 9)) (C := RX1) (T := TX1) (N := 7) hx hb hts hinX1 hown hK hP 0 rfl rfl 0 (by decide) (hts (.fieldLink RX1 9 "AuditoriumKeys$Holds" "first" "[I") (List.mem_of_getElem? (i := 1) rfl)) (fun _ h9 => h9) rfl dX1_make_1 ?_
  refine lv_iload_n hx hb dX1_make_4 rfl (lv_at hl 1 rfl) ?_
  refine lv_iload_n hx hb dX1_make_5 rfl (lv_at hl 2 rfl) ?_
  refine zz_iast hx hb hK hP hD hS 1 0 rfl rfl p (by omega) (by decide) dX1_make_6 (fun H locs hP hD hS => ?_)
  have hP : va_P D vwCl (kwH ad cI (setA K 9 (upd (K 9) p (nI f)))) _ := hP
  have hD : va_D A (kwH ad cI (setA K 9 (upd (K 9) p (nI f)))) := hD
  refine lv_aload_n hx hb dX1_make_7 rfl (lv_at hl 0 rfl) ?_
  refine va_get (D := D) (ci := 1) (v := .ref (ad 10)) (C := RX1) (T := TX1) (N := 7) hx hb hts hinX1 hown hK hP 0 rfl rfl 1 (by decide) (hts (.fieldLink RX1 15 "AuditoriumKeys$Holds" "many" "[I") (List.mem_of_getElem? (i := 2) rfl)) (fun _ h9 => h9) rfl dX1_make_8 ?_
  refine lv_iload_n hx hb dX1_make_11 rfl (lv_at hl 1 rfl) ?_
  refine lv_iload_n hx hb dX1_make_12 rfl (lv_at hl 3 rfl) ?_
  refine zz_iast hx hb hK hP hD hS 2 0 rfl rfl p (by omega) (by decide) dX1_make_13 (fun H locs hP hD hS => ?_)
  have hP : va_P D vwCl (kwH ad cI (setA (setA K 9 (upd (K 9) p (nI f))) 10 (upd (K 10) p (nI m9)))) _ := hP
  have hD : va_D A (kwH ad cI (setA (setA K 9 (upd (K 9) p (nI f))) 10 (upd (K 10) p (nI m9)))) := hD
  refine lv_aload_n hx hb dX1_make_14 rfl (lv_at hl 0 rfl) ?_
  refine va_get (D := D) (ci := 1) (v := .ref (ad 11)) (C := RX1) (T := TX1) (N := 7) hx hb hts hinX1 hown hK hP 0 rfl rfl 2 (by decide) (hts (.fieldLink RX1 18 "AuditoriumKeys$Holds" "code" "[I") (List.mem_of_getElem? (i := 3) rfl)) (fun _ h9 => h9) rfl dX1_make_15 ?_
  refine lv_iload_n hx hb dX1_make_18 rfl (lv_at hl 1 rfl) ?_
  refine lv_iload hx hb dX1_make_19 (lv_at hl 4 rfl) ?_
  refine zz_iast hx hb hK hP hD hS 3 0 rfl rfl p (by omega) (by decide) dX1_make_21 (fun H locs hP hD hS => ?_)
  have hP : va_P D vwCl (kwH ad cI (setA (setA (setA K 9 (upd (K 9) p (nI f))) 10 (upd (K 10) p (nI m9))) 11 (upd (K 11) p c9))) _ := hP
  have hD : va_D A (kwH ad cI (setA (setA (setA K 9 (upd (K 9) p (nI f))) 10 (upd (K 10) p (nI m9))) 11 (upd (K 11) p c9))) := hD
  refine lv_aload_n hx hb dX1_make_22 rfl (lv_at hl 0 rfl) ?_
  refine va_get (D := D) (ci := 1) (v := .ref (ad 12)) (C := RX1) (T := TX1) (N := 7) hx hb hts hinX1 hown hK hP 0 rfl rfl 3 (by decide) (hts (.fieldLink RX1 21 "AuditoriumKeys$Holds" "cost" "[I") (List.mem_of_getElem? (i := 4) rfl)) (fun _ h9 => h9) rfl dX1_make_23 ?_
  refine lv_iload_n hx hb dX1_make_26 rfl (lv_at hl 1 rfl) ?_
  refine lv_iload hx hb dX1_make_27 (lv_at hl 5 rfl) ?_
  refine zz_iast hx hb hK hP hD hS 4 0 rfl rfl p (by omega) (by decide) dX1_make_29 (fun H locs hP hD hS => ?_)
  have hP : va_P D vwCl (kwH ad cI (setA (setA (setA (setA K 9 (upd (K 9) p (nI f))) 10 (upd (K 10) p (nI m9))) 11 (upd (K 11) p c9)) 12 (upd (K 12) p w9))) _ := hP
  have hD : va_D A (kwH ad cI (setA (setA (setA (setA K 9 (upd (K 9) p (nI f))) 10 (upd (K 10) p (nI m9))) 11 (upd (K 11) p c9)) 12 (upd (K 12) p w9))) := hD
  refine lv_aload_n hx hb dX1_make_30 rfl (lv_at hl 0 rfl) ?_
  refine va_get (D := D) (ci := 1) (v := .ref (ad 13)) (C := RX1) (T := TX1) (N := 7) hx hb hts hinX1 hown hK hP 0 rfl rfl 4 (by decide) (hts (.fieldLink RX1 24 "AuditoriumKeys$Holds" "paid" "[I") (List.mem_of_getElem? (i := 5) rfl)) (fun _ h9 => h9) rfl dX1_make_31 ?_
  refine lv_iload_n hx hb dX1_make_34 rfl (lv_at hl 1 rfl) ?_
  refine lv_iconst (v := nI 0) hx hb dX1_make_35 (by decide) ?_
  refine zz_iast hx hb hK hP hD hS 5 0 rfl rfl p (by omega) (by decide) dX1_make_36 (fun H locs hP hD hS => ?_)
  have hP : va_P D vwCl (kwH ad cI (setA (setA (setA (setA (setA K 9 (upd (K 9) p (nI f))) 10 (upd (K 10) p (nI m9))) 11 (upd (K 11) p c9)) 12 (upd (K 12) p w9)) 13 (upd (K 13) p (nI 0)))) _ := hP
  have hD : va_D A (kwH ad cI (setA (setA (setA (setA (setA K 9 (upd (K 9) p (nI f))) 10 (upd (K 10) p (nI m9))) 11 (upd (K 11) p c9)) 12 (upd (K 12) p w9)) 13 (upd (K 13) p (nI 0)))) := hD
  refine lv_aload_n hx hb dX1_make_37 rfl (lv_at hl 0 rfl) ?_
  refine va_get (D := D) (ci := 1) (v := .ref (ad 14)) (C := RX1) (T := TX1) (N := 7) hx hb hts hinX1 hown hK hP 0 rfl rfl 5 (by decide) (hts (.fieldLink RX1 27 "AuditoriumKeys$Holds" "latest" "[I") (List.mem_of_getElem? (i := 6) rfl)) (fun _ h9 => h9) rfl dX1_make_38 ?_
  refine lv_iload_n hx hb dX1_make_41 rfl (lv_at hl 1 rfl) ?_
  refine lv_iload hx hb dX1_make_42 (lv_at hl 6 rfl) ?_
  refine lv_bipush (v := nI 30) hx hb dX1_make_44 (by decide) ?_
  refine lv_iadd hx hb dX1_make_46 ?_
  refine zz_iast hx hb hK hP hD hS 6 0 rfl rfl p (by omega) (by decide) dX1_make_47 (fun H locs hP hD hS => ?_)
  have hP : va_P D vwCl (kwH ad cI (setA (setA (setA (setA (setA (setA K 9 (upd (K 9) p (nI f))) 10 (upd (K 10) p (nI m9))) 11 (upd (K 11) p c9)) 12 (upd (K 12) p w9)) 13 (upd (K 13) p (nI 0))) 14 (upd (K 14) p (n9 + (nI 30))))) _ := hP
  have hD : va_D A (kwH ad cI (setA (setA (setA (setA (setA (setA K 9 (upd (K 9) p (nI f))) 10 (upd (K 10) p (nI m9))) 11 (upd (K 11) p c9)) 12 (upd (K 12) p w9)) 13 (upd (K 13) p (nI 0))) 14 (upd (K 14) p (n9 + (nI 30))))) := hD
  refine lv_aload_n hx hb dX1_make_48 rfl (lv_at hl 0 rfl) ?_
  refine va_get (D := D) (ci := 1) (v := .ref (ad 15)) (C := RX1) (T := TX1) (N := 7) hx hb hts hinX1 hown hK hP 0 rfl rfl 6 (by decide) (hts (.fieldLink RX1 30 "AuditoriumKeys$Holds" "lapse" "[I") (List.mem_of_getElem? (i := 7) rfl)) (fun _ h9 => h9) rfl dX1_make_49 ?_
  refine lv_iload_n hx hb dX1_make_52 rfl (lv_at hl 1 rfl) ?_
  refine lv_iload hx hb dX1_make_53 (lv_at hl 6 rfl) ?_
  refine lv_bipush (v := nI 10) hx hb dX1_make_55 (by decide) ?_
  refine lv_iadd hx hb dX1_make_57 ?_
  refine zz_iast hx hb hK hP hD hS 7 0 rfl rfl p (by omega) (by decide) dX1_make_58 (fun H locs hP hD hS => ?_)
  have hP : va_P D vwCl (kwH ad cI (setA (setA (setA (setA (setA (setA (setA K 9 (upd (K 9) p (nI f))) 10 (upd (K 10) p (nI m9))) 11 (upd (K 11) p c9)) 12 (upd (K 12) p w9)) 13 (upd (K 13) p (nI 0))) 14 (upd (K 14) p (n9 + (nI 30)))) 15 (upd (K 15) p (n9 + (nI 10))))) _ := hP
  have hD : va_D A (kwH ad cI (setA (setA (setA (setA (setA (setA (setA K 9 (upd (K 9) p (nI f))) 10 (upd (K 10) p (nI m9))) 11 (upd (K 11) p c9)) 12 (upd (K 12) p w9)) 13 (upd (K 13) p (nI 0))) 14 (upd (K 14) p (n9 + (nI 30)))) 15 (upd (K 15) p (n9 + (nI 10))))) := hD
  have eK9 : (kMake K p f m9 c9 w9 n9) = (setA (setA (setA (setA (setA (setA (setA K 9 (upd (K 9) p (nI f))) 10 (upd (K 10) p (nI m9))) 11 (upd (K 11) p c9)) 12 (upd (K 12) p w9)) 13 (upd (K 13) p (nI 0))) 14 (upd (K 14) p (n9 + (nI 30)))) 15 (upd (K 15) p (n9 + (nI 10)))) := rfl
  have hP9 := hP
  have hD9 := hD
  rw [← eK9] at hP9 hD9
  exact W.vret hx hb hr (fun t ht hW => ⟨⟨(), rfl, trivial, by rw [ht]; exact hP9, va_K.moved hW.alike hK, hD9⟩, hS.F ht⟩) hS.2.2 dX1_make_59
set_option maxHeartbeats 4000000 in
set_option maxRecDepth 100000 in
theorem kX1_prolong (l : Launch) (D : va_G) (cI cZ : ClassId) (ad : Nat → Nat) (K : kS) (sz : Nat) (p : Nat) (hp : p < 8) : Met l yX1_prolong wsX1_prolong ({ frames := 1, cells := 0, slots := 0, locals := 15 }) (va_Pc [.ref (ad 8), .int (nI p)] (zPr D (zTy cI cZ) (kwH ad cI K) sz)) (va_Qv (fun _ : Unit => True) (fun _ => zPo D (zTy cI cZ) (va_A (kwH ad cI K) sz) (kwH ad cI (kProl K p))) (va_A (kwH ad cI K) sz)) 0 0 (va_A (kwH ad cI K) sz) := by
  refine Met.ofW (cc := cX1_prolong) (maxL := 2) (ret := none) (by decide) rfl ?_
  intro pP e s m args below meth c s₁ B hml hv
  obtain ⟨rfl, hsz, hP, hK, hD0⟩ := hv
  have hx := B.exec
  have hb := B.bytes
  have hr := B.returns
  have hts := atoms_spec (ws := wsX1_prolong) B.pre
  have hown : s.vm.findClass RX1 = some m.cls := findClass_of_methodNamed B.named
  have hlocks := B.notSynchronized
  subst hsz
  have hD := hD0.self (sz := s.heap.size)
  generalize hAe : va_A (kwH ad cI K) s.heap.size = A at hD ⊢
  have hA : ∀ q : Nat, s.heap.size ≤ q → A q := fun q h => by rw [← hAe]; exact Or.inr h
  have hS : va_S A s.heap s.heap [] := va_S.rf
  have hinX1 : ∀ w ∈ u_ws RX1 TX1 7, w ∈ wsX1_prolong := by decide +kernel
  have hl := lv_entry ([.ref (ad 8), .int (nI p)]) (n := 2) (Nat.le_of_ble_eq_true rfl)
  rw [lg_entry_eq]
  generalize (lg_sl ([.ref (ad 8), .int (nI p)]) ++ List.replicate (2 - (lg_sl ([.ref (ad 8), .int (nI p)])).length) Slot.unset).toArray = ls at hl ⊢
  have hl : lv_has ls 2 [(0, .ref (ad 8)), (1, .int (nI p))] := hl
  refine lv_aload_n hx hb dX1_prolong_0 rfl (lv_at hl 0 rfl) ?_
  refine va_get (D := D) (ci := 1) (v := .ref (ad 15)) (C := RX1) (T := TX1) (N := 7) hx hb hts hinX1 hown hK hP 0 rfl rfl 6 (by decide) (hts (.fieldLink RX1 30 "AuditoriumKeys$Holds" "lapse" "[I") (List.mem_of_getElem? (i := 1) rfl)) (fun _ h9 => h9) rfl dX1_prolong_1 ?_
  refine lv_iload_n hx hb dX1_prolong_4 rfl (lv_at hl 1 rfl) ?_
  refine lv_aload_n hx hb dX1_prolong_5 rfl (lv_at hl 0 rfl) ?_
  refine va_get (D := D) (ci := 1) (v := .ref (ad 15)) (C := RX1) (T := TX1) (N := 7) hx hb hts hinX1 hown hK hP 0 rfl rfl 6 (by decide) (hts (.fieldLink RX1 30 "AuditoriumKeys$Holds" "lapse" "[I") (List.mem_of_getElem? (i := 1) rfl)) (fun _ h9 => h9) rfl dX1_prolong_6 ?_
  refine lv_iload_n hx hb dX1_prolong_9 rfl (lv_at hl 1 rfl) ?_
  refine zz_iald hx hb hK hP 7 0 rfl rfl p (by omega) (by decide) dX1_prolong_10 ?_
  refine lv_iconst (v := nI 5) hx hb dX1_prolong_11 (by decide) ?_
  refine lv_iadd hx hb dX1_prolong_12 ?_
  refine lv_aload_n hx hb dX1_prolong_13 rfl (lv_at hl 0 rfl) ?_
  refine va_get (D := D) (ci := 1) (v := .ref (ad 14)) (C := RX1) (T := TX1) (N := 7) hx hb hts hinX1 hown hK hP 0 rfl rfl 5 (by decide) (hts (.fieldLink RX1 27 "AuditoriumKeys$Holds" "latest" "[I") (List.mem_of_getElem? (i := 2) rfl)) (fun _ h9 => h9) rfl dX1_prolong_14 ?_
  refine lv_iload_n hx hb dX1_prolong_17 rfl (lv_at hl 1 rfl) ?_
  refine zz_iald hx hb hK hP 6 0 rfl rfl p (by omega) (by decide) dX1_prolong_18 ?_
  refine va_mmin hx hb (by rw [hml]; exact hl.1.symm) hown (hts (.methodLink RX1 33 Lib.Math.min.name) (List.mem_of_getElem? (i := 3) rfl)) (hts (.static Lib.Math.min.name) (List.mem_of_getElem? (i := 4) rfl)) (hts (.initialized "java/lang/Math") (List.mem_of_getElem? (i := 5) rfl)) (hts (.code Lib.Math.min.name Lib.Math.min.code 2 (some .int)) (List.mem_of_getElem? (i := 6) rfl)) (Nat.le_of_ble_eq_true rfl) (Nat.le_of_ble_eq_true rfl) (Nat.zero_le _) (Nat.zero_le _) dX1_prolong_19 ?_
  refine zz_iast hx hb hK hP hD hS 7 0 rfl rfl p (by omega) (by decide) dX1_prolong_22 (fun H locs hP hD hS => ?_)
  have hP : va_P D vwCl (kwH ad cI (setA K 15 (upd (K 15) p (if K 14 p < (K 15 p) + (nI 5) then K 14 p else (K 15 p) + (nI 5))))) _ := hP
  have hD : va_D A (kwH ad cI (setA K 15 (upd (K 15) p (if K 14 p < (K 15 p) + (nI 5) then K 14 p else (K 15 p) + (nI 5))))) := hD
  have eK9 : (kProl K p) = (setA K 15 (upd (K 15) p (if K 14 p < (K 15 p) + (nI 5) then K 14 p else (K 15 p) + (nI 5)))) := rfl
  have hP9 := hP
  have hD9 := hD
  rw [← eK9] at hP9 hD9
  exact W.vret hx hb hr (fun t ht hW => ⟨⟨(), rfl, trivial, by rw [ht]; exact hP9, va_K.moved hW.alike hK, hD9⟩, hS.F ht⟩) hS.2.2 dX1_prolong_23
set_option maxHeartbeats 4000000 in
set_option maxRecDepth 100000 in
theorem kX1_end (l : Launch) (D : va_G) (cI cZ : ClassId) (ad : Nat → Nat) (K : kS) (sz : Nat) (p : Nat) (hp : p < 8) : Met l yX1_end wsX1_end ({ frames := 0, cells := 0, slots := 0, locals := 0 }) (va_Pc [.ref (ad 8), .int (nI p)] (zPr D (zTy cI cZ) (kwH ad cI K) sz)) (va_Qv (fun _ : Unit => True) (fun _ => zPo D (zTy cI cZ) (va_A (kwH ad cI K) sz) (kwH ad cI (kEnd K p))) (va_A (kwH ad cI K) sz)) 0 0 (va_A (kwH ad cI K) sz) := by
  refine Met.ofW (cc := cX1_end) (maxL := 2) (ret := none) (by decide) rfl ?_
  intro pP e s m args below meth c s₁ B hml hv
  obtain ⟨rfl, hsz, hP, hK, hD0⟩ := hv
  have hx := B.exec
  have hb := B.bytes
  have hr := B.returns
  have hts := atoms_spec (ws := wsX1_end) B.pre
  have hown : s.vm.findClass RX1 = some m.cls := findClass_of_methodNamed B.named
  have hlocks := B.notSynchronized
  subst hsz
  have hD := hD0.self (sz := s.heap.size)
  generalize hAe : va_A (kwH ad cI K) s.heap.size = A at hD ⊢
  have hA : ∀ q : Nat, s.heap.size ≤ q → A q := fun q h => by rw [← hAe]; exact Or.inr h
  have hS : va_S A s.heap s.heap [] := va_S.rf
  have hinX1 : ∀ w ∈ u_ws RX1 TX1 7, w ∈ wsX1_end := by decide +kernel
  have hl := lv_entry ([.ref (ad 8), .int (nI p)]) (n := 2) (Nat.le_of_ble_eq_true rfl)
  rw [lg_entry_eq]
  generalize (lg_sl ([.ref (ad 8), .int (nI p)]) ++ List.replicate (2 - (lg_sl ([.ref (ad 8), .int (nI p)])).length) Slot.unset).toArray = ls at hl ⊢
  have hl : lv_has ls 2 [(0, .ref (ad 8)), (1, .int (nI p))] := hl
  refine lv_aload_n hx hb dX1_end_0 rfl (lv_at hl 0 rfl) ?_
  refine va_get (D := D) (ci := 1) (v := .ref (ad 10)) (C := RX1) (T := TX1) (N := 7) hx hb hts hinX1 hown hK hP 0 rfl rfl 1 (by decide) (hts (.fieldLink RX1 15 "AuditoriumKeys$Holds" "many" "[I") (List.mem_of_getElem? (i := 1) rfl)) (fun _ h9 => h9) rfl dX1_end_1 ?_
  refine lv_iload_n hx hb dX1_end_4 rfl (lv_at hl 1 rfl) ?_
  refine lv_iconst (v := nI 0) hx hb dX1_end_5 (by decide) ?_
  refine zz_iast hx hb hK hP hD hS 2 0 rfl rfl p (by omega) (by decide) dX1_end_6 (fun H locs hP hD hS => ?_)
  have hP : va_P D vwCl (kwH ad cI (setA K 10 (upd (K 10) p (nI 0)))) _ := hP
  have hD : va_D A (kwH ad cI (setA K 10 (upd (K 10) p (nI 0)))) := hD
  have eK9 : (kEnd K p) = (setA K 10 (upd (K 10) p (nI 0))) := rfl
  have hP9 := hP
  have hD9 := hD
  rw [← eK9] at hP9 hD9
  exact W.vret hx hb hr (fun t ht hW => ⟨⟨(), rfl, trivial, by rw [ht]; exact hP9, va_K.moved hW.alike hK, hD9⟩, hS.F ht⟩) hS.2.2 dX1_end_7
set_option maxHeartbeats 4000000 in
set_option maxRecDepth 100000 in
theorem kX0_add (l : Launch) (D : va_G) (cI cZ : ClassId) (ad : Nat → Nat) (K : kS) (sz : Nat) (a9 : Int32) (b9 : Int32) (n9 : Nat) (hn9 : n9 < 10) (hc9 : K 2 0 = nI n9) : Met l yX0_add wsX0_add ({ frames := 0, cells := 0, slots := 0, locals := 0 }) (va_Pc [.ref (ad 2), .int a9, .int b9] (zPr D (zTy cI cZ) (kwC ad cI K) sz)) (va_Qi (fun r (_ : Unit) => r = nI n9) (fun _ => zPo D (zTy cI cZ) (va_A (kwC ad cI K) sz) (kwC ad cI (kCode K n9 a9 b9))) (va_A (kwC ad cI K) sz)) 0 0 (va_A (kwC ad cI K) sz) := by
  refine Met.ofW (cc := cX0_add) (maxL := 3) (ret := (some .int)) (by decide) rfl ?_
  intro pP e s m args below meth c s₁ B hml hv
  obtain ⟨rfl, hsz, hP, hK, hD0⟩ := hv
  have hx := B.exec
  have hb := B.bytes
  have hr := B.returns
  have hts := atoms_spec (ws := wsX0_add) B.pre
  have hown : s.vm.findClass RX0 = some m.cls := findClass_of_methodNamed B.named
  have hlocks := B.notSynchronized
  subst hsz
  have hD := hD0.self (sz := s.heap.size)
  generalize hAe : va_A (kwC ad cI K) s.heap.size = A at hD ⊢
  have hA : ∀ q : Nat, s.heap.size ≤ q → A q := fun q h => by rw [← hAe]; exact Or.inr h
  have hS : va_S A s.heap s.heap [] := va_S.rf
  have hinX0 : ∀ w ∈ u_ws RX0 TX0 4, w ∈ wsX0_add := by decide +kernel
  have hl := lv_entry ([.ref (ad 2), .int a9, .int b9]) (n := 3) (Nat.le_of_ble_eq_true rfl)
  rw [lg_entry_eq]
  generalize (lg_sl ([.ref (ad 2), .int a9, .int b9]) ++ List.replicate (3 - (lg_sl ([.ref (ad 2), .int a9, .int b9])).length) Slot.unset).toArray = ls at hl ⊢
  have hl : lv_has ls 3 [(0, .ref (ad 2)), (1, .int a9), (2, .int b9)] := hl
  refine lv_aload_n hx hb dX0_add_0 rfl (lv_at hl 0 rfl) ?_
  refine va_get (D := D) (ci := 0) (v := .ref (ad 3)) (C := RX0) (T := TX0) (N := 4) hx hb hts hinX0 hown hK hP 0 rfl rfl 1 (by decide) (hts (.fieldLink RX0 15 "AuditoriumKeys$Codes" "ofPerson" "[I") (List.mem_of_getElem? (i := 1) rfl)) (fun _ h9 => h9) rfl dX0_add_1 ?_
  refine lv_aload_n hx hb dX0_add_4 rfl (lv_at hl 0 rfl) ?_
  refine va_get (D := D) (ci := 0) (v := .int (K 2 0)) (C := RX0) (T := TX0) (N := 4) hx hb hts hinX0 hown hK hP 0 rfl rfl 0 (by decide) (hts (.fieldLink RX0 9 "AuditoriumKeys$Codes" "count" "I") (List.mem_of_getElem? (i := 2) rfl)) (fun _ h9 => h9) rfl dX0_add_5 ?_
  refine zz_top (y := nI n9) hc9 ?_
  refine lv_iload_n hx hb dX0_add_8 rfl (lv_at hl 1 rfl) ?_
  refine zz_iast hx hb hK hP hD hS 1 0 rfl rfl n9 (by omega) (by decide) dX0_add_9 (fun H locs hP hD hS => ?_)
  have hP : va_P D vwCl (kwC ad cI (setA K 3 (upd (K 3) n9 a9))) _ := hP
  have hD : va_D A (kwC ad cI (setA K 3 (upd (K 3) n9 a9))) := hD
  refine lv_aload_n hx hb dX0_add_10 rfl (lv_at hl 0 rfl) ?_
  refine va_get (D := D) (ci := 0) (v := .ref (ad 4)) (C := RX0) (T := TX0) (N := 4) hx hb hts hinX0 hown hK hP 0 rfl rfl 2 (by decide) (hts (.fieldLink RX0 19 "AuditoriumKeys$Codes" "ofHousehold" "[I") (List.mem_of_getElem? (i := 3) rfl)) (fun _ h9 => h9) rfl dX0_add_11 ?_
  refine lv_aload_n hx hb dX0_add_14 rfl (lv_at hl 0 rfl) ?_
  refine va_get (D := D) (ci := 0) (v := .int (K 2 0)) (C := RX0) (T := TX0) (N := 4) hx hb hts hinX0 hown hK hP 0 rfl rfl 0 (by decide) (hts (.fieldLink RX0 9 "AuditoriumKeys$Codes" "count" "I") (List.mem_of_getElem? (i := 2) rfl)) (fun _ h9 => h9) rfl dX0_add_15 ?_
  refine zz_top (y := nI n9) hc9 ?_
  refine lv_iload_n hx hb dX0_add_18 rfl (lv_at hl 2 rfl) ?_
  refine zz_iast hx hb hK hP hD hS 2 0 rfl rfl n9 (by omega) (by decide) dX0_add_19 (fun H locs hP hD hS => ?_)
  have hP : va_P D vwCl (kwC ad cI (setA (setA K 3 (upd (K 3) n9 a9)) 4 (upd (K 4) n9 b9))) _ := hP
  have hD : va_D A (kwC ad cI (setA (setA K 3 (upd (K 3) n9 a9)) 4 (upd (K 4) n9 b9))) := hD
  refine lv_aload_n hx hb dX0_add_20 rfl (lv_at hl 0 rfl) ?_
  refine lv_dup hx hb dX0_add_21 rfl ?_
  refine va_get (D := D) (ci := 0) (v := .int (K 2 0)) (C := RX0) (T := TX0) (N := 4) hx hb hts hinX0 hown hK hP 0 rfl rfl 0 (by decide) (hts (.fieldLink RX0 9 "AuditoriumKeys$Codes" "count" "I") (List.mem_of_getElem? (i := 2) rfl)) (fun _ h9 => h9) rfl dX0_add_22 ?_
  refine zz_top (y := nI n9) hc9 ?_
  refine lv_iconst (v := nI 1) hx hb dX0_add_25 (by decide) ?_
  refine lv_iadd hx hb dX0_add_26 ?_
  refine zz_top (y := nI (n9 + 1)) ((nI_add n9 1).trans (congrArg nI (by omega))) ?_
  refine va_put (D := D) (ci := 0) (v := .int (nI (n9 + 1))) (ty := .int) (C := RX0) (T := TX0) (N := 4) hx hb hts hinX0 tyX0 tyX0_ok nmX0 hown hK hP hD hS 0 rfl rfl 0 (by decide) (hts (.fieldLink RX0 9 "AuditoriumKeys$Codes" "count" "I") (List.mem_of_getElem? (i := 2) rfl)) (fun _ h9 => h9) rfl (by decide +kernel) rfl rfl (Nat.le_of_ble_eq_true rfl) dX0_add_27 (fun H locs hP hD hS => ?_)
  have hP : va_P D vwCl (kwC ad cI (setA (setA (setA K 3 (upd (K 3) n9 a9)) 4 (upd (K 4) n9 b9)) 2 (upd (K 2) 0 (nI (n9 + 1))))) _ := hP
  have hD : va_D A (kwC ad cI (setA (setA (setA K 3 (upd (K 3) n9 a9)) 4 (upd (K 4) n9 b9)) 2 (upd (K 2) 0 (nI (n9 + 1))))) := hD
  refine lv_aload_n hx hb dX0_add_30 rfl (lv_at hl 0 rfl) ?_
  refine va_get (D := D) (ci := 0) (v := .int ((upd (K 2) 0 (nI (n9 + 1))) 0)) (C := RX0) (T := TX0) (N := 4) hx hb hts hinX0 hown hK hP 0 rfl rfl 0 (by decide) (hts (.fieldLink RX0 9 "AuditoriumKeys$Codes" "count" "I") (List.mem_of_getElem? (i := 2) rfl)) (fun _ h9 => h9) rfl dX0_add_31 ?_
  refine zz_top (y := nI (n9 + 1)) rfl ?_
  refine lv_iconst (v := nI 1) hx hb dX0_add_34 (by decide) ?_
  refine lv_isub hx hb dX0_add_35 ?_
  refine zz_top (y := nI n9) (nI_pred n9) ?_
  have eK9 : (kCode K n9 a9 b9) = (setA (setA (setA K 3 (upd (K 3) n9 a9)) 4 (upd (K 4) n9 b9)) 2 (upd (K 2) 0 (nI (n9 + 1)))) := rfl
  have hP9 := hP
  have hD9 := hD
  rw [← eK9] at hP9 hD9
  exact W.iret (v := nI n9) hx hb hr (fun t ht hW => ⟨⟨nI n9, (), rfl, rfl, by rw [ht]; exact hP9, va_K.moved hW.alike hK, hD9⟩, hS.F ht⟩) hS.2.2 dX0_add_36
set_option maxHeartbeats 4000000 in
set_option maxRecDepth 100000 in
theorem kX0_seatsOf (l : Launch) (D : va_G) (cI cZ : ClassId) (ad : Nat → Nat) (K : kS) (c9 : Nat) (p : Nat) (hc9 : c9 < 10) (hp : p < 8) : Met l yX0_seatsOf wsX0_seatsOf ({ frames := 0, cells := 0, slots := 0, locals := 0 }) (va_Pc [.ref (ad 2), .int (nI c9), .int (nI p)] (zRd D (zTy cI cZ) (kwC ad cI K))) (vp_Si (fun r => r = cOf K c9 p)) 0 0 (fun _ => False) := by
  refine Met.ofW (cc := cX0_seatsOf) (maxL := 3) (ret := (some .int)) (by decide) rfl ?_
  intro pP e s m args below meth c s₁ B hml hv
  obtain ⟨rfl, hP, hK⟩ := hv
  have hx := B.exec
  have hb := B.bytes
  have hr := B.returns
  have hts := atoms_spec (ws := wsX0_seatsOf) B.pre
  have hown : s.vm.findClass RX0 = some m.cls := findClass_of_methodNamed B.named
  have hlocks := B.notSynchronized
  have hinX0 : ∀ w ∈ u_ws RX0 TX0 4, w ∈ wsX0_seatsOf := by decide +kernel
  have hl := lv_entry ([.ref (ad 2), .int (nI c9), .int (nI p)]) (n := 3) (Nat.le_of_ble_eq_true rfl)
  rw [lg_entry_eq]
  generalize (lg_sl ([.ref (ad 2), .int (nI c9), .int (nI p)]) ++ List.replicate (3 - (lg_sl ([.ref (ad 2), .int (nI c9), .int (nI p)])).length) Slot.unset).toArray = ls at hl ⊢
  have hl : lv_has ls 3 [(0, .ref (ad 2)), (1, .int (nI c9)), (2, .int (nI p))] := hl
  refine lv_aload_n hx hb dX0_seatsOf_0 rfl (lv_at hl 0 rfl) ?_
  refine va_get (D := D) (ci := 0) (v := .ref (ad 5)) (C := RX0) (T := TX0) (N := 4) hx hb hts hinX0 hown hK hP 0 rfl rfl 3 (by decide) (hts (.fieldLink RX0 22 "AuditoriumKeys$Codes" "counted" "[I") (List.mem_of_getElem? (i := 1) rfl)) (fun _ h9 => h9) rfl dX0_seatsOf_1 ?_
  refine lv_bipush (v := nI 8) hx hb dX0_seatsOf_4 (by decide) ?_
  refine lv_iload_n hx hb dX0_seatsOf_6 rfl (lv_at hl 1 rfl) ?_
  refine lv_imul hx hb dX0_seatsOf_7 ?_
  refine zz_top (y := nI (8 * c9)) ((pk_mul 8 c9).trans (congrArg nI (by first | rfl | omega | exact Nat.mul_comm _ _))) ?_
  refine lv_iload_n hx hb dX0_seatsOf_8 rfl (lv_at hl 2 rfl) ?_
  refine lv_iadd hx hb dX0_seatsOf_9 ?_
  refine zz_top (y := nI (8 * c9 + p)) ((nI_add (8 * c9) p).trans (congrArg nI (by omega))) ?_
  refine zz_iald hx hb hK hP 3 0 rfl rfl (8 * c9 + p) (by omega) (by decide) dX0_seatsOf_10 ?_
  exact W.iret (v := K 5 (8 * c9 + p)) hx hb hr (fun t ht hW => ⟨_, rfl, rfl, ht⟩) (fun _ h => nomatch h) dX0_seatsOf_11
set_option maxHeartbeats 4000000 in
set_option maxRecDepth 100000 in
theorem kX0_haveRoom (l : Launch) (D : va_G) (cI cZ : ClassId) (ad : Nat → Nat) (K : kS) (c9 : Nat) (p : Nat) (m9 : Int32) (hc9 : c9 < 10) (hp : p < 8) : Met l yX0_haveRoom wsX0_haveRoom ({ frames := 1, cells := 0, slots := 0, locals := 22 }) (va_Pc [.ref (ad 2), .int (nI c9), .int (nI p), .int m9] (zRd D (zTy cI cZ) (kwC ad cI K))) (vp_Si (fun r => r = zb (cRoom K c9 p m9))) 0 0 (fun _ => False) := by
  refine Met.ofW (cc := cX0_haveRoom) (maxL := 6) (ret := (some .boolean)) (by decide) rfl ?_
  intro pP e s m args below meth c s₁ B hml hv
  obtain ⟨rfl, hP, hK⟩ := hv
  have hx := B.exec
  have hb := B.bytes
  have hr := B.returns
  have hts := atoms_spec (ws := wsX0_haveRoom) B.pre
  have hown : s.vm.findClass RX0 = some m.cls := findClass_of_methodNamed B.named
  have hlocks := B.notSynchronized
  have hinX0 : ∀ w ∈ u_ws RX0 TX0 4, w ∈ wsX0_haveRoom := by decide +kernel
  have hl := lv_entry ([.ref (ad 2), .int (nI c9), .int (nI p), .int m9]) (n := 6) (Nat.le_of_ble_eq_true rfl)
  rw [lg_entry_eq]
  generalize (lg_sl ([.ref (ad 2), .int (nI c9), .int (nI p), .int m9]) ++ List.replicate (6 - (lg_sl ([.ref (ad 2), .int (nI c9), .int (nI p), .int m9])).length) Slot.unset).toArray = ls at hl ⊢
  have hl : lv_has ls 6 [(0, .ref (ad 2)), (1, .int (nI c9)), (2, .int (nI p)), (3, .int m9)] := hl
  have hmt := zmate_lt p hp
  refine lv_iload_n hx hb dX0_haveRoom_0 rfl (lv_at hl 2 rfl) ?_
  refine lv_iconst (v := nI 1) hx hb dX0_haveRoom_1 (by decide) ?_
  refine lv_ixor hx hb dX0_haveRoom_2 ?_
  refine zz_top (y := nI (zmate p)) (zmate_x p hp) ?_
  refine lv_istore (lv' := [(4, .int (nI (zmate p))), (0, .ref (ad 2)), (1, .int (nI c9)), (2, .int (nI p)), (3, .int m9)]) hx hb dX0_haveRoom_3 hl (by decide) rfl (fun ls hl => ?_)
  refine lv_aload_n hx hb dX0_haveRoom_5 rfl (lv_at hl 1 rfl) ?_
  refine lv_iload_n hx hb dX0_haveRoom_6 rfl (lv_at hl 2 rfl) ?_
  refine lv_iload_n hx hb dX0_haveRoom_7 rfl (lv_at hl 3 rfl) ?_
  refine zc_rV (As := [.int (nI c9), .int (nI p)]) (rest := []) ⟨hx, hb, hml, hown, hts⟩ (kX0_seatsOf l D cI cZ ad K c9 p (by omega) (by omega)) (cwV 2 hts gX0_haveRoom_X0_seatsOf rfl rfl rfl (by decide +kernel) ⟨(Nat.le_of_ble_eq_true rfl), (Nat.le_of_ble_eq_true rfl)⟩) hK hP (ci := 0) (q0 := 0) rfl rfl rfl rfl hl.1 rfl (Nat.le_of_ble_eq_true rfl) dX0_haveRoom_8 ⟨Nat.zero_le _, Nat.zero_le _⟩ ?_
  refine lv_iload_n hx hb dX0_haveRoom_11 rfl (lv_at hl 4 rfl) ?_
  refine lv_iadd hx hb dX0_haveRoom_12 ?_
  refine lv_istore (lv' := [(5, .int ((cOf K c9 p) + m9)), (4, .int (nI (zmate p))), (0, .ref (ad 2)), (1, .int (nI c9)), (2, .int (nI p)), (3, .int m9)]) hx hb dX0_haveRoom_13 hl (by decide) rfl (fun ls hl => ?_)
  refine lv_iload hx hb dX0_haveRoom_15 (lv_at hl 0 rfl) ?_
  refine lv_aload_n hx hb dX0_haveRoom_17 rfl (lv_at hl 2 rfl) ?_
  refine va_get (D := D) (ci := 0) (v := .ref (ad 3)) (C := RX0) (T := TX0) (N := 4) hx hb hts hinX0 hown hK hP 0 rfl rfl 1 (by decide) (hts (.fieldLink RX0 15 "AuditoriumKeys$Codes" "ofPerson" "[I") (List.mem_of_getElem? (i := 1) rfl)) (fun _ h9 => h9) rfl dX0_haveRoom_18 ?_
  refine lv_iload_n hx hb dX0_haveRoom_21 rfl (lv_at hl 3 rfl) ?_
  refine zz_iald hx hb hK hP 1 0 rfl rfl c9 (by omega) (by decide) dX0_haveRoom_22 ?_
  refine lv_icmp_gt (tgt := 49) hx hb dX0_haveRoom_23 (by decide) (fun c_1 => ?_) (fun c_1 => ?_)
  · skip
    have c_1 : K 3 c9 < (cOf K c9 p) + m9 := c_1
    refine lv_iconst (v := nI 0) hx hb dX0_haveRoom_49 (by decide) ?_
    exact W.zret (v := nI 0) hx hb hr rfl (fun t ht hW => ⟨_, rfl, (by simp [cRoom, zb, c_1]), ht⟩) (fun _ h => nomatch h) dX0_haveRoom_50
  · skip
    have c_1 : ¬ K 3 c9 < (cOf K c9 p) + m9 := c_1
    refine lv_iload hx hb dX0_haveRoom_26 (lv_at hl 0 rfl) ?_
    refine lv_aload_n hx hb dX0_haveRoom_28 rfl (lv_at hl 2 rfl) ?_
    refine lv_iload_n hx hb dX0_haveRoom_29 rfl (lv_at hl 3 rfl) ?_
    refine lv_iload hx hb dX0_haveRoom_30 (lv_at hl 1 rfl) ?_
    refine zc_rV (As := [.int (nI c9), .int (nI (zmate p))]) (rest := [.int ((cOf K c9 p) + m9)]) ⟨hx, hb, hml, hown, hts⟩ (kX0_seatsOf l D cI cZ ad K c9 (zmate p) (by omega) (by omega)) (cwV 2 hts gX0_haveRoom_X0_seatsOf rfl rfl rfl (by decide +kernel) ⟨(Nat.le_of_ble_eq_true rfl), (Nat.le_of_ble_eq_true rfl)⟩) hK hP (ci := 0) (q0 := 0) rfl rfl rfl rfl hl.1 rfl (Nat.le_of_ble_eq_true rfl) dX0_haveRoom_32 ⟨Nat.zero_le _, Nat.zero_le _⟩ ?_
    refine lv_iadd hx hb dX0_haveRoom_35 ?_
    refine lv_aload_n hx hb dX0_haveRoom_36 rfl (lv_at hl 2 rfl) ?_
    refine va_get (D := D) (ci := 0) (v := .ref (ad 4)) (C := RX0) (T := TX0) (N := 4) hx hb hts hinX0 hown hK hP 0 rfl rfl 2 (by decide) (hts (.fieldLink RX0 19 "AuditoriumKeys$Codes" "ofHousehold" "[I") (List.mem_of_getElem? (i := 2) rfl)) (fun _ h9 => h9) rfl dX0_haveRoom_37 ?_
    refine lv_iload_n hx hb dX0_haveRoom_40 rfl (lv_at hl 3 rfl) ?_
    refine zz_iald hx hb hK hP 2 0 rfl rfl c9 (by omega) (by decide) dX0_haveRoom_41 ?_
    refine lv_icmp_gt (tgt := 49) hx hb dX0_haveRoom_42 (by decide) (fun c_2 => ?_) (fun c_2 => ?_)
    · skip
      have c_2 : K 4 c9 < ((cOf K c9 p) + m9) + (cOf K c9 (zmate p)) := c_2
      refine lv_iconst (v := nI 0) hx hb dX0_haveRoom_49 (by decide) ?_
      exact W.zret (v := nI 0) hx hb hr rfl (fun t ht hW => ⟨_, rfl, (by simp [cRoom, zb, c_1, c_2]), ht⟩) (fun _ h => nomatch h) dX0_haveRoom_50
    · skip
      have c_2 : ¬ K 4 c9 < ((cOf K c9 p) + m9) + (cOf K c9 (zmate p)) := c_2
      refine lv_iconst (v := nI 1) hx hb dX0_haveRoom_45 (by decide) ?_
      refine lv_goto (tgt := 50) hx hb dX0_haveRoom_46 (by decide) ?_
      exact W.zret (v := nI 1) hx hb hr rfl (fun t ht hW => ⟨_, rfl, (by simp [cRoom, zb, c_1, c_2]), ht⟩) (fun _ h => nomatch h) dX0_haveRoom_50
set_option maxHeartbeats 4000000 in
set_option maxRecDepth 100000 in
theorem kX0_tally (l : Launch) (D : va_G) (cI cZ : ClassId) (ad : Nat → Nat) (K : kS) (sz : Nat) (c9 : Int32) (p : Nat) (m9 : Int32) (hp : p < 8) (hc9 : c9 = (-1) ∨ ∃ n, n < 10 ∧ c9 = nI n) : Met l yX0_tally wsX0_tally ({ frames := 0, cells := 0, slots := 0, locals := 0 }) (va_Pc [.ref (ad 2), .int c9, .int (nI p), .int m9] (zPr D (zTy cI cZ) (kwC ad cI K) sz)) (va_Qv (fun _ : Unit => True) (fun _ => zPo D (zTy cI cZ) (va_A (kwC ad cI K) sz) (kwC ad cI (kTally K c9 p m9))) (va_A (kwC ad cI K) sz)) 0 0 (va_A (kwC ad cI K) sz) := by
  refine Met.ofW (cc := cX0_tally) (maxL := 4) (ret := none) (by decide) rfl ?_
  intro pP e s m args below meth c s₁ B hml hv
  obtain ⟨rfl, hsz, hP, hK, hD0⟩ := hv
  have hx := B.exec
  have hb := B.bytes
  have hr := B.returns
  have hts := atoms_spec (ws := wsX0_tally) B.pre
  have hown : s.vm.findClass RX0 = some m.cls := findClass_of_methodNamed B.named
  have hlocks := B.notSynchronized
  subst hsz
  have hD := hD0.self (sz := s.heap.size)
  generalize hAe : va_A (kwC ad cI K) s.heap.size = A at hD ⊢
  have hA : ∀ q : Nat, s.heap.size ≤ q → A q := fun q h => by rw [← hAe]; exact Or.inr h
  have hS : va_S A s.heap s.heap [] := va_S.rf
  have hinX0 : ∀ w ∈ u_ws RX0 TX0 4, w ∈ wsX0_tally := by decide +kernel
  have hl := lv_entry ([.ref (ad 2), .int c9, .int (nI p), .int m9]) (n := 4) (Nat.le_of_ble_eq_true rfl)
  rw [lg_entry_eq]
  generalize (lg_sl ([.ref (ad 2), .int c9, .int (nI p), .int m9]) ++ List.replicate (4 - (lg_sl ([.ref (ad 2), .int c9, .int (nI p), .int m9])).length) Slot.unset).toArray = ls at hl ⊢
  have hl : lv_has ls 4 [(0, .ref (ad 2)), (1, .int c9), (2, .int (nI p)), (3, .int m9)] := hl
  refine lv_iload_n hx hb dX0_tally_0 rfl (lv_at hl 1 rfl) ?_
  refine lv_iconst (v := (-1)) hx hb dX0_tally_1 (by decide) ?_
  refine lv_icmp_eq (tgt := 20) hx hb dX0_tally_2 (by decide) (fun c_1 => ?_) (fun c_1 => ?_)
  · skip
    have c_1 : c9 = (-1) := c_1
    have eK9 : (kTally K c9 p m9) = K := (by simp only [kTally]; rw [if_pos c_1, setA_same])
    have hP9 := hP
    have hD9 := hD
    rw [← eK9] at hP9 hD9
    exact W.vret hx hb hr (fun t ht hW => ⟨⟨(), rfl, trivial, by rw [ht]; exact hP9, va_K.moved hW.alike hK, hD9⟩, hS.F ht⟩) hS.2.2 dX0_tally_20
  · skip
    have c_1 : ¬ c9 = (-1) := c_1
    obtain ⟨n9, hn9, hn8⟩ := hc9.resolve_left c_1
    have hn7 : c9.toNatClampNeg = n9 := by rw [hn8]; exact nI_clamp (by omega)
    refine lv_aload_n hx hb dX0_tally_5 rfl (lv_at hl 0 rfl) ?_
    refine va_get (D := D) (ci := 0) (v := .ref (ad 5)) (C := RX0) (T := TX0) (N := 4) hx hb hts hinX0 hown hK hP 0 rfl rfl 3 (by decide) (hts (.fieldLink RX0 22 "AuditoriumKeys$Codes" "counted" "[I") (List.mem_of_getElem? (i := 1) rfl)) (fun _ h9 => h9) rfl dX0_tally_6 ?_
    refine lv_bipush (v := nI 8) hx hb dX0_tally_9 (by decide) ?_
    refine lv_iload_n hx hb dX0_tally_11 rfl (lv_at hl 1 rfl) ?_
    refine lv_imul hx hb dX0_tally_12 ?_
    refine zz_top (y := nI (8 * n9)) (by rw [hn8]; exact pk_mul _ _) ?_
    refine lv_iload_n hx hb dX0_tally_13 rfl (lv_at hl 2 rfl) ?_
    refine lv_iadd hx hb dX0_tally_14 ?_
    refine zz_top (y := nI (8 * n9 + p)) ((nI_add (8 * n9) p).trans (congrArg nI (by omega))) ?_
    refine lv_dup2_11 hx hb dX0_tally_15 rfl rfl ?_
    refine zz_iald hx hb hK hP 3 0 rfl rfl (8 * n9 + p) (by omega) (by decide) dX0_tally_16 ?_
    refine lv_iload_n hx hb dX0_tally_17 rfl (lv_at hl 3 rfl) ?_
    refine lv_iadd hx hb dX0_tally_18 ?_
    refine zz_iast hx hb hK hP hD hS 3 0 rfl rfl (8 * n9 + p) (by omega) (by decide) dX0_tally_19 (fun H locs hP hD hS => ?_)
    have hP : va_P D vwCl (kwC ad cI (setA K 5 (upd (K 5) (8 * n9 + p) ((K 5 (8 * n9 + p)) + m9)))) _ := hP
    have hD : va_D A (kwC ad cI (setA K 5 (upd (K 5) (8 * n9 + p) ((K 5 (8 * n9 + p)) + m9)))) := hD
    have eK9 : (kTally K c9 p m9) = (setA K 5 (upd (K 5) (8 * n9 + p) ((K 5 (8 * n9 + p)) + m9))) := (by simp only [kTally, hn7]; rw [if_neg c_1])
    have hP9 := hP
    have hD9 := hD
    rw [← eK9] at hP9 hD9
    exact W.vret hx hb hr (fun t ht hW => ⟨⟨(), rfl, trivial, by rw [ht]; exact hP9, va_K.moved hW.alike hK, hD9⟩, hS.F ht⟩) hS.2.2 dX0_tally_20
set_option maxHeartbeats 4000000 in
set_option maxRecDepth 100000 in
theorem kX3_add (l : Launch) (D : va_G) (cI cZ : ClassId) (ad : Nat → Nat) (K : kS) (sz : Nat) (a9 : Int32) (b9 : Int32) (c9 : Int32) (n9 : Nat) (hn9 : n9 < 170) (hc9 : K 22 0 = nI n9) : Met l yX3_add wsX3_add ({ frames := 0, cells := 0, slots := 0, locals := 0 }) (va_Pc [.ref (ad 22), .int a9, .int b9, .int c9] (zPr D (zTy cI cZ) (kwT ad cI K) sz)) (va_Qv (fun _ : Unit => True) (fun _ => zPo D (zTy cI cZ) (va_A (kwT ad cI K) sz) (kwT ad cI (kSale K n9 a9 b9 c9))) (va_A (kwT ad cI K) sz)) 0 0 (va_A (kwT ad cI K) sz) := by
  refine Met.ofW (cc := cX3_add) (maxL := 4) (ret := none) (by decide) rfl ?_
  intro pP e s m args below meth c s₁ B hml hv
  obtain ⟨rfl, hsz, hP, hK, hD0⟩ := hv
  have hx := B.exec
  have hb := B.bytes
  have hr := B.returns
  have hts := atoms_spec (ws := wsX3_add) B.pre
  have hown : s.vm.findClass RX3 = some m.cls := findClass_of_methodNamed B.named
  have hlocks := B.notSynchronized
  subst hsz
  have hD := hD0.self (sz := s.heap.size)
  generalize hAe : va_A (kwT ad cI K) s.heap.size = A at hD ⊢
  have hA : ∀ q : Nat, s.heap.size ≤ q → A q := fun q h => by rw [← hAe]; exact Or.inr h
  have hS : va_S A s.heap s.heap [] := va_S.rf
  have hinX3 : ∀ w ∈ u_ws RX3 TX3 4, w ∈ wsX3_add := by decide +kernel
  have hl := lv_entry ([.ref (ad 22), .int a9, .int b9, .int c9]) (n := 4) (Nat.le_of_ble_eq_true rfl)
  rw [lg_entry_eq]
  generalize (lg_sl ([.ref (ad 22), .int a9, .int b9, .int c9]) ++ List.replicate (4 - (lg_sl ([.ref (ad 22), .int a9, .int b9, .int c9])).length) Slot.unset).toArray = ls at hl ⊢
  have hl : lv_has ls 4 [(0, .ref (ad 22)), (1, .int a9), (2, .int b9), (3, .int c9)] := hl
  refine lv_aload_n hx hb dX3_add_0 rfl (lv_at hl 0 rfl) ?_
  refine va_get (D := D) (ci := 3) (v := .int (K 22 0)) (C := RX3) (T := TX3) (N := 4) hx hb hts hinX3 hown hK hP 0 rfl rfl 0 (by decide) (hts (.fieldLink RX3 9 "AuditoriumKeys$Sales" "count" "I") (List.mem_of_getElem? (i := 1) rfl)) (fun _ h9 => h9) rfl dX3_add_1 ?_
  refine zz_top (y := nI n9) hc9 ?_
  refine lv_sipush (v := nI 170) hx hb dX3_add_4 (by decide) ?_
  refine lv_icmp_lt (tgt := 11) hx hb dX3_add_7 (by decide) (fun c_1 => ?_) (fun c_1 => ?_)
  · skip
    have c_1 := (nI_ltI (a := n9) (b := 170) (by omega) (by omega)).mp c_1
    refine lv_aload_n hx hb dX3_add_11 rfl (lv_at hl 0 rfl) ?_
    refine va_get (D := D) (ci := 3) (v := .ref (ad 23)) (C := RX3) (T := TX3) (N := 4) hx hb hts hinX3 hown hK hP 0 rfl rfl 1 (by decide) (hts (.fieldLink RX3 15 "AuditoriumKeys$Sales" "first" "[I") (List.mem_of_getElem? (i := 2) rfl)) (fun _ h9 => h9) rfl dX3_add_12 ?_
    refine lv_aload_n hx hb dX3_add_15 rfl (lv_at hl 0 rfl) ?_
    refine va_get (D := D) (ci := 3) (v := .int (K 22 0)) (C := RX3) (T := TX3) (N := 4) hx hb hts hinX3 hown hK hP 0 rfl rfl 0 (by decide) (hts (.fieldLink RX3 9 "AuditoriumKeys$Sales" "count" "I") (List.mem_of_getElem? (i := 1) rfl)) (fun _ h9 => h9) rfl dX3_add_16 ?_
    refine zz_top (y := nI n9) hc9 ?_
    refine lv_iload_n hx hb dX3_add_19 rfl (lv_at hl 1 rfl) ?_
    refine zz_iast hx hb hK hP hD hS 1 0 rfl rfl n9 (by omega) (by decide) dX3_add_20 (fun H locs hP hD hS => ?_)
    have hP : va_P D vwCl (kwT ad cI (setA K 23 (upd (K 23) n9 a9))) _ := hP
    have hD : va_D A (kwT ad cI (setA K 23 (upd (K 23) n9 a9))) := hD
    refine lv_aload_n hx hb dX3_add_21 rfl (lv_at hl 0 rfl) ?_
    refine va_get (D := D) (ci := 3) (v := .ref (ad 24)) (C := RX3) (T := TX3) (N := 4) hx hb hts hinX3 hown hK hP 0 rfl rfl 2 (by decide) (hts (.fieldLink RX3 19 "AuditoriumKeys$Sales" "many" "[I") (List.mem_of_getElem? (i := 3) rfl)) (fun _ h9 => h9) rfl dX3_add_22 ?_
    refine lv_aload_n hx hb dX3_add_25 rfl (lv_at hl 0 rfl) ?_
    refine va_get (D := D) (ci := 3) (v := .int (K 22 0)) (C := RX3) (T := TX3) (N := 4) hx hb hts hinX3 hown hK hP 0 rfl rfl 0 (by decide) (hts (.fieldLink RX3 9 "AuditoriumKeys$Sales" "count" "I") (List.mem_of_getElem? (i := 1) rfl)) (fun _ h9 => h9) rfl dX3_add_26 ?_
    refine zz_top (y := nI n9) hc9 ?_
    refine lv_iload_n hx hb dX3_add_29 rfl (lv_at hl 2 rfl) ?_
    refine zz_iast hx hb hK hP hD hS 2 0 rfl rfl n9 (by omega) (by decide) dX3_add_30 (fun H locs hP hD hS => ?_)
    have hP : va_P D vwCl (kwT ad cI (setA (setA K 23 (upd (K 23) n9 a9)) 24 (upd (K 24) n9 b9))) _ := hP
    have hD : va_D A (kwT ad cI (setA (setA K 23 (upd (K 23) n9 a9)) 24 (upd (K 24) n9 b9))) := hD
    refine lv_aload_n hx hb dX3_add_31 rfl (lv_at hl 0 rfl) ?_
    refine va_get (D := D) (ci := 3) (v := .ref (ad 25)) (C := RX3) (T := TX3) (N := 4) hx hb hts hinX3 hown hK hP 0 rfl rfl 3 (by decide) (hts (.fieldLink RX3 22 "AuditoriumKeys$Sales" "buyer" "[I") (List.mem_of_getElem? (i := 4) rfl)) (fun _ h9 => h9) rfl dX3_add_32 ?_
    refine lv_aload_n hx hb dX3_add_35 rfl (lv_at hl 0 rfl) ?_
    refine va_get (D := D) (ci := 3) (v := .int (K 22 0)) (C := RX3) (T := TX3) (N := 4) hx hb hts hinX3 hown hK hP 0 rfl rfl 0 (by decide) (hts (.fieldLink RX3 9 "AuditoriumKeys$Sales" "count" "I") (List.mem_of_getElem? (i := 1) rfl)) (fun _ h9 => h9) rfl dX3_add_36 ?_
    refine zz_top (y := nI n9) hc9 ?_
    refine lv_iload_n hx hb dX3_add_39 rfl (lv_at hl 3 rfl) ?_
    refine zz_iast hx hb hK hP hD hS 3 0 rfl rfl n9 (by omega) (by decide) dX3_add_40 (fun H locs hP hD hS => ?_)
    have hP : va_P D vwCl (kwT ad cI (setA (setA (setA K 23 (upd (K 23) n9 a9)) 24 (upd (K 24) n9 b9)) 25 (upd (K 25) n9 c9))) _ := hP
    have hD : va_D A (kwT ad cI (setA (setA (setA K 23 (upd (K 23) n9 a9)) 24 (upd (K 24) n9 b9)) 25 (upd (K 25) n9 c9))) := hD
    refine lv_aload_n hx hb dX3_add_41 rfl (lv_at hl 0 rfl) ?_
    refine lv_dup hx hb dX3_add_42 rfl ?_
    refine va_get (D := D) (ci := 3) (v := .int (K 22 0)) (C := RX3) (T := TX3) (N := 4) hx hb hts hinX3 hown hK hP 0 rfl rfl 0 (by decide) (hts (.fieldLink RX3 9 "AuditoriumKeys$Sales" "count" "I") (List.mem_of_getElem? (i := 1) rfl)) (fun _ h9 => h9) rfl dX3_add_43 ?_
    refine zz_top (y := nI n9) hc9 ?_
    refine lv_iconst (v := nI 1) hx hb dX3_add_46 (by decide) ?_
    refine lv_iadd hx hb dX3_add_47 ?_
    refine zz_top (y := nI (n9 + 1)) ((nI_add n9 1).trans (congrArg nI (by omega))) ?_
    refine va_put (D := D) (ci := 3) (v := .int (nI (n9 + 1))) (ty := .int) (C := RX3) (T := TX3) (N := 4) hx hb hts hinX3 tyX3 tyX3_ok nmX3 hown hK hP hD hS 0 rfl rfl 0 (by decide) (hts (.fieldLink RX3 9 "AuditoriumKeys$Sales" "count" "I") (List.mem_of_getElem? (i := 1) rfl)) (fun _ h9 => h9) rfl (by decide +kernel) rfl rfl (Nat.le_of_ble_eq_true rfl) dX3_add_48 (fun H locs hP hD hS => ?_)
    have hP : va_P D vwCl (kwT ad cI (setA (setA (setA (setA K 23 (upd (K 23) n9 a9)) 24 (upd (K 24) n9 b9)) 25 (upd (K 25) n9 c9)) 22 (upd (K 22) 0 (nI (n9 + 1))))) _ := hP
    have hD : va_D A (kwT ad cI (setA (setA (setA (setA K 23 (upd (K 23) n9 a9)) 24 (upd (K 24) n9 b9)) 25 (upd (K 25) n9 c9)) 22 (upd (K 22) 0 (nI (n9 + 1))))) := hD
    have eK9 : (kSale K n9 a9 b9 c9) = (setA (setA (setA (setA K 23 (upd (K 23) n9 a9)) 24 (upd (K 24) n9 b9)) 25 (upd (K 25) n9 c9)) 22 (upd (K 22) 0 (nI (n9 + 1)))) := rfl
    have hP9 := hP
    have hD9 := hD
    rw [← eK9] at hP9 hD9
    exact W.vret hx hb hr (fun t ht hW => ⟨⟨(), rfl, trivial, by rw [ht]; exact hP9, va_K.moved hW.alike hK, hD9⟩, hS.F ht⟩) hS.2.2 dX3_add_51
  · skip
    have c_1 : ¬ n9 < 170 := fun h => c_1 ((nI_ltI (a := n9) (b := 170) (by omega) (by omega)).mpr h)
    exact absurd hn9 c_1
set_option maxHeartbeats 4000000 in
set_option maxRecDepth 100000 in
theorem kX3_lastBuyerOf (l : Launch) (D : va_G) (cI cZ : ClassId) (ad : Nat → Nat) (K : kS) (x : Int32) (n9 : Nat) (hn9 : n9 ≤ 170) (hc9 : K 22 0 = nI n9) : Met l yX3_lastBuyerOf wsX3_lastBuyerOf ({ frames := 0, cells := 0, slots := 0, locals := 0 }) (va_Pc [.ref (ad 22), .int x] (zRd D (zTy cI cZ) (kwT ad cI K))) (vp_Si (fun r => r = tLast K x n9)) 0 0 (fun _ => False) := by
  refine Met.ofW (cc := cX3_lastBuyerOf) (maxL := 4) (ret := (some .int)) (by decide) rfl ?_
  intro pP e s m args below meth c s₁ B hml hv
  obtain ⟨rfl, hP, hK⟩ := hv
  have hx := B.exec
  have hb := B.bytes
  have hr := B.returns
  have hts := atoms_spec (ws := wsX3_lastBuyerOf) B.pre
  have hown : s.vm.findClass RX3 = some m.cls := findClass_of_methodNamed B.named
  have hlocks := B.notSynchronized
  have hinX3 : ∀ w ∈ u_ws RX3 TX3 4, w ∈ wsX3_lastBuyerOf := by decide +kernel
  have hl := lv_entry ([.ref (ad 22), .int x]) (n := 4) (Nat.le_of_ble_eq_true rfl)
  rw [lg_entry_eq]
  generalize (lg_sl ([.ref (ad 22), .int x]) ++ List.replicate (4 - (lg_sl ([.ref (ad 22), .int x])).length) Slot.unset).toArray = ls at hl ⊢
  have hl : lv_has ls 4 [(0, .ref (ad 22)), (1, .int x)] := hl
  refine lv_iconst (v := (-1)) hx hb dX3_lastBuyerOf_0 (by decide) ?_
  refine lv_istore_n (lv' := [(2, .int (-1)), (0, .ref (ad 22)), (1, .int x)]) hx hb dX3_lastBuyerOf_1 rfl hl (by decide) rfl (fun ls hl => ?_)
  refine lv_iconst (v := nI 0) hx hb dX3_lastBuyerOf_2 (by decide) ?_
  refine lv_istore_n (lv' := [(3, .int (nI 0)), (2, .int (-1)), (0, .ref (ad 22)), (1, .int x)]) hx hb dX3_lastBuyerOf_3 rfl hl (by decide) rfl (fun ls hl => ?_)
  have lp_a : ∀ (n i : Nat), 0 ≤ i → i ≤ n9 → n9 - i < n → ∀ ls : Array Slot, lv_has ls 4 [(3, .int (nI i)), (2, .int (tLast K x i)), (0, .ref (ad 22)), (1, .int x)] → W pP l e ({ frames := 0, cells := 0, slots := 0, locals := 0 } : Room) s m ([.ref (ad 22), .int x] : List Value).toArray below meth c s.heap [] 0 0 (MQ below (vp_Si (fun r => r = tLast K x n9)) ([.ref (ad 22), .int x] : List Value).toArray s 0 0 (fun _ => False)) (F0 m 4 ls []) := by
    intro n
    induction n with
    | zero => intro i _ _ h; exact absurd h (Nat.not_lt_zero _)
    | succ n ih_a =>
      intro i hlo_a hin_a hdn_a  ls hl
      refine lv_iload_n hx hb dX3_lastBuyerOf_4 rfl (lv_at hl 0 rfl) ?_
      refine lv_aload_n hx hb dX3_lastBuyerOf_5 rfl (lv_at hl 2 rfl) ?_
      refine va_get (D := D) (ci := 3) (v := .int (K 22 0)) (C := RX3) (T := TX3) (N := 4) hx hb hts hinX3 hown hK hP 0 rfl rfl 0 (by decide) (hts (.fieldLink RX3 9 "AuditoriumKeys$Sales" "count" "I") (List.mem_of_getElem? (i := 1) rfl)) (fun _ h9 => h9) rfl dX3_lastBuyerOf_6 ?_
      refine zz_top (y := nI n9) hc9 ?_
      refine lv_icmp_ge (tgt := 52) hx hb dX3_lastBuyerOf_9 (by decide) (fun c_1 => ?_) (fun c_1 => ?_)
      · skip
        have c_1 := (nI_leI (a := n9) (b := i) (by omega) (by omega)).mp c_1
        have hi8 : i = n9 := by omega
        refine lv_iload_n hx hb dX3_lastBuyerOf_52 rfl (lv_at hl 1 rfl) ?_
        exact W.iret (v := tLast K x i) hx hb hr (fun t ht hW => ⟨_, rfl, (by rw [hi8]), ht⟩) (fun _ h => nomatch h) dX3_lastBuyerOf_53
      · skip
        have c_1 : ¬ n9 ≤ i := fun h => c_1 ((nI_leI (a := n9) (b := i) (by omega) (by omega)).mpr h)
        refine lv_aload_n hx hb dX3_lastBuyerOf_12 rfl (lv_at hl 2 rfl) ?_
        refine va_get (D := D) (ci := 3) (v := .ref (ad 23)) (C := RX3) (T := TX3) (N := 4) hx hb hts hinX3 hown hK hP 0 rfl rfl 1 (by decide) (hts (.fieldLink RX3 15 "AuditoriumKeys$Sales" "first" "[I") (List.mem_of_getElem? (i := 2) rfl)) (fun _ h9 => h9) rfl dX3_lastBuyerOf_13 ?_
        refine lv_iload_n hx hb dX3_lastBuyerOf_16 rfl (lv_at hl 0 rfl) ?_
        refine zz_iald hx hb hK hP 1 0 rfl rfl i (by omega) (by decide) dX3_lastBuyerOf_17 ?_
        refine lv_iload_n hx hb dX3_lastBuyerOf_18 rfl (lv_at hl 3 rfl) ?_
        refine lv_icmp_gt (tgt := 46) hx hb dX3_lastBuyerOf_19 (by decide) (fun c_2 => ?_) (fun c_2 => ?_)
        · skip
          have c_2 : x < K 23 i := c_2
          refine lv_iinc (v := nI (i + 1)) (lv' := [(3, .int (nI (i + 1))), (2, .int (tLast K x i)), (0, .ref (ad 22)), (1, .int x)]) hx hb dX3_lastBuyerOf_46 hl (k := 0) rfl ((show nI i + Int32.ofInt 1 = nI i + nI 1 from rfl).trans (nI_add _ _)) (by decide) rfl (fun ls hl => ?_)
          refine lv_goto (tgt := 4) hx hb dX3_lastBuyerOf_49 (by decide) ?_
          have es_3 : tLast K x (i + 1) = tLast K x i := (by simp [tLast, c_1, c_2])
          exact ih_a (i + 1) (by omega) (by omega) (by omega)  ls (by rw [es_3]; exact lv_sub hl [0, 1, 2, 3] rfl)
        · skip
          have c_2 : ¬ x < K 23 i := c_2
          refine lv_iload_n hx hb dX3_lastBuyerOf_22 rfl (lv_at hl 3 rfl) ?_
          refine lv_aload_n hx hb dX3_lastBuyerOf_23 rfl (lv_at hl 2 rfl) ?_
          refine va_get (D := D) (ci := 3) (v := .ref (ad 23)) (C := RX3) (T := TX3) (N := 4) hx hb hts hinX3 hown hK hP 0 rfl rfl 1 (by decide) (hts (.fieldLink RX3 15 "AuditoriumKeys$Sales" "first" "[I") (List.mem_of_getElem? (i := 2) rfl)) (fun _ h9 => h9) rfl dX3_lastBuyerOf_24 ?_
          refine lv_iload_n hx hb dX3_lastBuyerOf_27 rfl (lv_at hl 0 rfl) ?_
          refine zz_iald hx hb hK hP 1 0 rfl rfl i (by omega) (by decide) dX3_lastBuyerOf_28 ?_
          refine lv_aload_n hx hb dX3_lastBuyerOf_29 rfl (lv_at hl 2 rfl) ?_
          refine va_get (D := D) (ci := 3) (v := .ref (ad 24)) (C := RX3) (T := TX3) (N := 4) hx hb hts hinX3 hown hK hP 0 rfl rfl 2 (by decide) (hts (.fieldLink RX3 19 "AuditoriumKeys$Sales" "many" "[I") (List.mem_of_getElem? (i := 3) rfl)) (fun _ h9 => h9) rfl dX3_lastBuyerOf_30 ?_
          refine lv_iload_n hx hb dX3_lastBuyerOf_33 rfl (lv_at hl 0 rfl) ?_
          refine zz_iald hx hb hK hP 2 0 rfl rfl i (by omega) (by decide) dX3_lastBuyerOf_34 ?_
          refine lv_iadd hx hb dX3_lastBuyerOf_35 ?_
          refine lv_icmp_ge (tgt := 46) hx hb dX3_lastBuyerOf_36 (by decide) (fun c_4 => ?_) (fun c_4 => ?_)
          · skip
            have c_4 : (K 23 i) + (K 24 i) ≤ x := c_4
            refine lv_iinc (v := nI (i + 1)) (lv' := [(3, .int (nI (i + 1))), (2, .int (tLast K x i)), (0, .ref (ad 22)), (1, .int x)]) hx hb dX3_lastBuyerOf_46 hl (k := 0) rfl ((show nI i + Int32.ofInt 1 = nI i + nI 1 from rfl).trans (nI_add _ _)) (by decide) rfl (fun ls hl => ?_)
            refine lv_goto (tgt := 4) hx hb dX3_lastBuyerOf_49 (by decide) ?_
            have es_5 : tLast K x (i + 1) = tLast K x i := (by simp [tLast, c_1, c_2, c_4])
            exact ih_a (i + 1) (by omega) (by omega) (by omega)  ls (by rw [es_5]; exact lv_sub hl [0, 1, 2, 3] rfl)
          · skip
            have c_4 : ¬ (K 23 i) + (K 24 i) ≤ x := c_4
            refine lv_aload_n hx hb dX3_lastBuyerOf_39 rfl (lv_at hl 2 rfl) ?_
            refine va_get (D := D) (ci := 3) (v := .ref (ad 25)) (C := RX3) (T := TX3) (N := 4) hx hb hts hinX3 hown hK hP 0 rfl rfl 3 (by decide) (hts (.fieldLink RX3 22 "AuditoriumKeys$Sales" "buyer" "[I") (List.mem_of_getElem? (i := 4) rfl)) (fun _ h9 => h9) rfl dX3_lastBuyerOf_40 ?_
            refine lv_iload_n hx hb dX3_lastBuyerOf_43 rfl (lv_at hl 0 rfl) ?_
            refine zz_iald hx hb hK hP 3 0 rfl rfl i (by omega) (by decide) dX3_lastBuyerOf_44 ?_
            refine lv_istore_n (lv' := [(2, .int (K 25 i)), (3, .int (nI i)), (0, .ref (ad 22)), (1, .int x)]) hx hb dX3_lastBuyerOf_45 rfl hl (by decide) rfl (fun ls hl => ?_)
            refine lv_iinc (v := nI (i + 1)) (lv' := [(3, .int (nI (i + 1))), (2, .int (K 25 i)), (0, .ref (ad 22)), (1, .int x)]) hx hb dX3_lastBuyerOf_46 hl (k := 1) rfl ((show nI i + Int32.ofInt 1 = nI i + nI 1 from rfl).trans (nI_add _ _)) (by decide) rfl (fun ls hl => ?_)
            refine lv_goto (tgt := 4) hx hb dX3_lastBuyerOf_49 (by decide) ?_
            have es_6 : tLast K x (i + 1) = K 25 i := (by simp [tLast, c_1, c_2, c_4])
            exact ih_a (i + 1) (by omega) (by omega) (by omega)  ls (by rw [es_6]; exact lv_sub hl [0, 1, 2, 3] rfl)
  have ei_a_2 : tLast K x 0 = (-1) := rfl
  exact lp_a (n9 - 0 + 1) 0 (by omega) (by omega) (by omega)  ls (by rw [ei_a_2]; exact lv_sub hl [0, 1, 2, 3] rfl)
set_option maxHeartbeats 4000000 in
set_option maxRecDepth 100000 in
theorem kX4_stateOf (l : Launch) (D : va_G) (cI cZ : ClassId) (ad : Nat → Nat) (K : kS) (s9 : Nat) (hs9 : s9 < 60) : Met l yX4_stateOf wsX4_stateOf ({ frames := 0, cells := 0, slots := 0, locals := 0 }) (va_Pc [.ref (ad 16), .int (nI s9)] (zRd D (zTy cI cZ) (kwS ad cI cZ K))) (vp_Si (fun r => r = sState K s9)) 0 0 (fun _ => False) := by
  refine Met.ofW (cc := cX4_stateOf) (maxL := 2) (ret := (some .int)) (by decide) rfl ?_
  intro pP e s m args below meth c s₁ B hml hv
  obtain ⟨rfl, hP, hK⟩ := hv
  have hx := B.exec
  have hb := B.bytes
  have hr := B.returns
  have hts := atoms_spec (ws := wsX4_stateOf) B.pre
  have hown : s.vm.findClass RX4 = some m.cls := findClass_of_methodNamed B.named
  have hlocks := B.notSynchronized
  have hinX4 : ∀ w ∈ u_ws RX4 TX4 5, w ∈ wsX4_stateOf := by decide +kernel
  have hl := lv_entry ([.ref (ad 16), .int (nI s9)]) (n := 2) (Nat.le_of_ble_eq_true rfl)
  rw [lg_entry_eq]
  generalize (lg_sl ([.ref (ad 16), .int (nI s9)]) ++ List.replicate (2 - (lg_sl ([.ref (ad 16), .int (nI s9)])).length) Slot.unset).toArray = ls at hl ⊢
  have hl : lv_has ls 2 [(0, .ref (ad 16)), (1, .int (nI s9))] := hl
  refine lv_aload_n hx hb dX4_stateOf_0 rfl (lv_at hl 0 rfl) ?_
  refine va_get (D := D) (ci := 4) (v := .ref (ad 17)) (C := RX4) (T := TX4) (N := 5) hx hb hts hinX4 hown hK hP 0 rfl rfl 0 (by decide) (hts (.fieldLink RX4 9 "AuditoriumKeys$Seats" "held" "[Z") (List.mem_of_getElem? (i := 1) rfl)) (fun _ h9 => h9) rfl dX4_stateOf_1 ?_
  refine lv_iload_n hx hb dX4_stateOf_4 rfl (lv_at hl 1 rfl) ?_
  refine zz_zald hx hb hK hP 1 1 rfl rfl s9 (by omega) (by decide) dX4_stateOf_5 ?_
  refine lv_if_eq (tgt := 11) hx hb dX4_stateOf_6 (by decide) (fun c_1 => ?_) (fun c_1 => ?_)
  · skip
    have c_1 : K 17 s9 = 0 := c_1
    refine lv_aload_n hx hb dX4_stateOf_11 rfl (lv_at hl 0 rfl) ?_
    refine va_get (D := D) (ci := 4) (v := .ref (ad 19)) (C := RX4) (T := TX4) (N := 5) hx hb hts hinX4 hown hK hP 0 rfl rfl 2 (by decide) (hts (.fieldLink RX4 18 "AuditoriumKeys$Seats" "owner" "[I") (List.mem_of_getElem? (i := 2) rfl)) (fun _ h9 => h9) rfl dX4_stateOf_12 ?_
    refine lv_iload_n hx hb dX4_stateOf_15 rfl (lv_at hl 1 rfl) ?_
    refine zz_iald hx hb hK hP 3 0 rfl rfl s9 (by omega) (by decide) dX4_stateOf_16 ?_
    refine lv_iconst (v := (-1)) hx hb dX4_stateOf_17 (by decide) ?_
    refine lv_icmp_ne (tgt := 23) hx hb dX4_stateOf_18 (by decide) (fun c_2 => ?_) (fun c_2 => ?_)
    · skip
      have c_2 : ¬ K 19 s9 = (-1) := c_2
      refine lv_aload_n hx hb dX4_stateOf_23 rfl (lv_at hl 0 rfl) ?_
      refine va_get (D := D) (ci := 4) (v := .ref (ad 18)) (C := RX4) (T := TX4) (N := 5) hx hb hts hinX4 hown hK hP 0 rfl rfl 1 (by decide) (hts (.fieldLink RX4 15 "AuditoriumKeys$Seats" "offered" "[Z") (List.mem_of_getElem? (i := 3) rfl)) (fun _ h9 => h9) rfl dX4_stateOf_24 ?_
      refine lv_iload_n hx hb dX4_stateOf_27 rfl (lv_at hl 1 rfl) ?_
      refine zz_zald hx hb hK hP 2 1 rfl rfl s9 (by omega) (by decide) dX4_stateOf_28 ?_
      refine lv_if_eq (tgt := 36) hx hb dX4_stateOf_29 (by decide) (fun c_3 => ?_) (fun c_3 => ?_)
      · skip
        have c_3 : K 18 s9 = 0 := c_3
        refine lv_iconst (v := nI 2) hx hb dX4_stateOf_36 (by decide) ?_
        exact W.iret (v := nI 2) hx hb hr (fun t ht hW => ⟨_, rfl, (by simp [sState, eq_true c_1, c_2, eq_true c_3]), ht⟩) (fun _ h => nomatch h) dX4_stateOf_37
      · skip
        have c_3 : ¬ K 18 s9 = 0 := c_3
        refine lv_iconst (v := nI 3) hx hb dX4_stateOf_32 (by decide) ?_
        refine lv_goto (tgt := 37) hx hb dX4_stateOf_33 (by decide) ?_
        exact W.iret (v := nI 3) hx hb hr (fun t ht hW => ⟨_, rfl, (by simp [sState, eq_true c_1, c_2, c_3]), ht⟩) (fun _ h => nomatch h) dX4_stateOf_37
    · skip
      have c_2 : K 19 s9 = (-1) := c_2
      refine lv_iconst (v := nI 0) hx hb dX4_stateOf_21 (by decide) ?_
      exact W.iret (v := nI 0) hx hb hr (fun t ht hW => ⟨_, rfl, (by simp [sState, eq_true c_1, eq_true c_2]), ht⟩) (fun _ h => nomatch h) dX4_stateOf_22
  · skip
    have c_1 : ¬ K 17 s9 = 0 := c_1
    refine lv_iconst (v := nI 1) hx hb dX4_stateOf_9 (by decide) ?_
    exact W.iret (v := nI 1) hx hb hr (fun t ht hW => ⟨_, rfl, (by simp [sState, c_1]), ht⟩) (fun _ h => nomatch h) dX4_stateOf_10
set_option maxHeartbeats 4000000 in
set_option maxRecDepth 100000 in
theorem kX4_isOpen (l : Launch) (D : va_G) (cI cZ : ClassId) (ad : Nat → Nat) (K : kS) (r9 : Nat) (x : Int32) (hr9 : r9 < 6) : Met l yX4_isOpen wsX4_isOpen ({ frames := 1, cells := 0, slots := 0, locals := 21 }) (va_Pc [.ref (ad 16), .int (nI r9), .int x] (zRd D (zTy cI cZ) (kwS ad cI cZ K))) (vp_Si (fun r => r = zb (sOpen K r9 x))) 0 0 (fun _ => False) := by
  refine Met.ofW (cc := cX4_isOpen) (maxL := 4) (ret := (some .boolean)) (by decide) rfl ?_
  intro pP e s m args below meth c s₁ B hml hv
  obtain ⟨rfl, hP, hK⟩ := hv
  have hx := B.exec
  have hb := B.bytes
  have hr := B.returns
  have hts := atoms_spec (ws := wsX4_isOpen) B.pre
  have hown : s.vm.findClass RX4 = some m.cls := findClass_of_methodNamed B.named
  have hlocks := B.notSynchronized
  have hl := lv_entry ([.ref (ad 16), .int (nI r9), .int x]) (n := 4) (Nat.le_of_ble_eq_true rfl)
  rw [lg_entry_eq]
  generalize (lg_sl ([.ref (ad 16), .int (nI r9), .int x]) ++ List.replicate (4 - (lg_sl ([.ref (ad 16), .int (nI r9), .int x])).length) Slot.unset).toArray = ls at hl ⊢
  have hl : lv_has ls 4 [(0, .ref (ad 16)), (1, .int (nI r9)), (2, .int x)] := hl
  refine lv_iload_n hx hb dX4_isOpen_0 rfl (lv_at hl 2 rfl) ?_
  refine lv_if_lt (tgt := 10) hx hb dX4_isOpen_1 (by decide) (fun c_1 => ?_) (fun c_1 => ?_)
  · skip
    have c_1 : x < 0 := c_1
    refine lv_iconst (v := nI 0) hx hb dX4_isOpen_10 (by decide) ?_
    exact W.zret (v := nI 0) hx hb hr rfl (fun t ht hW => ⟨_, rfl, (by simp [sOpen, zb, c_1]), ht⟩) (fun _ h => nomatch h) dX4_isOpen_11
  · skip
    have c_1 : ¬ x < 0 := c_1
    refine lv_iload_n hx hb dX4_isOpen_4 rfl (lv_at hl 2 rfl) ?_
    refine lv_bipush (v := nI 10) hx hb dX4_isOpen_5 (by decide) ?_
    refine lv_icmp_lt (tgt := 12) hx hb dX4_isOpen_7 (by decide) (fun c_2 => ?_) (fun c_2 => ?_)
    · skip
      have c_2 : x < nI 10 := c_2
      obtain ⟨q9, hq9, hq8, hq7⟩ := zn_of (by decide) c_1 c_2
      have hq6 := hq7
      refine lv_aload_n hx hb dX4_isOpen_12 rfl (lv_at hl 0 rfl) ?_
      refine lv_bipush (v := nI 10) hx hb dX4_isOpen_13 (by decide) ?_
      refine lv_iload_n hx hb dX4_isOpen_15 rfl (lv_at hl 1 rfl) ?_
      refine lv_imul hx hb dX4_isOpen_16 ?_
      refine zz_top (y := nI (10 * r9)) ((pk_mul 10 r9).trans (congrArg nI (by first | rfl | omega | exact Nat.mul_comm _ _))) ?_
      refine lv_iload_n hx hb dX4_isOpen_17 rfl (lv_at hl 2 rfl) ?_
      refine lv_iadd hx hb dX4_isOpen_18 ?_
      refine zz_top (y := nI (10 * r9 + q9)) (by rw [hq8]; exact nI_add _ _) ?_
      refine zc_rV (As := [.int (nI (10 * r9 + q9))]) (rest := []) ⟨hx, hb, hml, hown, hts⟩ (kX4_stateOf l D cI cZ ad K (10 * r9 + q9) (by omega)) (cwV 1 hts gX4_isOpen_X4_stateOf rfl rfl rfl (by decide +kernel) ⟨(Nat.le_of_ble_eq_true rfl), (Nat.le_of_ble_eq_true rfl)⟩) hK hP (ci := 4) (q0 := 0) rfl rfl rfl rfl hl.1 rfl (Nat.le_of_ble_eq_true rfl) dX4_isOpen_19 ⟨Nat.zero_le _, Nat.zero_le _⟩ ?_
      refine lv_istore_n (lv' := [(3, .int (sState K (10 * r9 + q9))), (0, .ref (ad 16)), (1, .int (nI r9)), (2, .int x)]) hx hb dX4_isOpen_22 rfl hl (by decide) rfl (fun ls hl => ?_)
      refine lv_iload_n hx hb dX4_isOpen_23 rfl (lv_at hl 0 rfl) ?_
      refine lv_if_eq (tgt := 32) hx hb dX4_isOpen_24 (by decide) (fun c_3 => ?_) (fun c_3 => ?_)
      · skip
        have c_3 : sState K (10 * r9 + q9) = 0 := c_3
        refine lv_iconst (v := nI 1) hx hb dX4_isOpen_32 (by decide) ?_
        refine lv_goto (tgt := 37) hx hb dX4_isOpen_33 (by decide) ?_
        exact W.zret (v := nI 1) hx hb hr rfl (fun t ht hW => ⟨_, rfl, (by simp [sOpen, zb, c_1, c_2, hq7, hq6, eq_true c_3]), ht⟩) (fun _ h => nomatch h) dX4_isOpen_37
      · skip
        have c_3 : ¬ sState K (10 * r9 + q9) = 0 := c_3
        refine lv_iload_n hx hb dX4_isOpen_27 rfl (lv_at hl 0 rfl) ?_
        refine lv_iconst (v := nI 3) hx hb dX4_isOpen_28 (by decide) ?_
        refine lv_icmp_ne (tgt := 36) hx hb dX4_isOpen_29 (by decide) (fun c_4 => ?_) (fun c_4 => ?_)
        · skip
          have c_4 : ¬ sState K (10 * r9 + q9) = nI 3 := c_4
          refine lv_iconst (v := nI 0) hx hb dX4_isOpen_36 (by decide) ?_
          exact W.zret (v := nI 0) hx hb hr rfl (fun t ht hW => ⟨_, rfl, (by simp [sOpen, zb, c_1, c_2, hq7, hq6, c_3, c_4]), ht⟩) (fun _ h => nomatch h) dX4_isOpen_37
        · skip
          have c_4 : sState K (10 * r9 + q9) = nI 3 := c_4
          refine lv_iconst (v := nI 1) hx hb dX4_isOpen_32 (by decide) ?_
          refine lv_goto (tgt := 37) hx hb dX4_isOpen_33 (by decide) ?_
          exact W.zret (v := nI 1) hx hb hr rfl (fun t ht hW => ⟨_, rfl, (by simp [sOpen, zb, c_1, c_2, hq7, hq6, c_3, eq_true c_4]), ht⟩) (fun _ h => nomatch h) dX4_isOpen_37
    · skip
      have c_2 : ¬ x < nI 10 := c_2
      refine lv_iconst (v := nI 0) hx hb dX4_isOpen_10 (by decide) ?_
      exact W.zret (v := nI 0) hx hb hr rfl (fun t ht hW => ⟨_, rfl, (by simp [sOpen, zb, c_1, c_2]), ht⟩) (fun _ h => nomatch h) dX4_isOpen_11
set_option maxHeartbeats 4000000 in
set_option maxRecDepth 100000 in
theorem kX4_leavesSingle (l : Launch) (D : va_G) (cI cZ : ClassId) (ad : Nat → Nat) (K : kS) (r9 : Nat) (q9 : Nat) (m9 : Nat) (hr9 : r9 < 6) : Met l yX4_leavesSingle wsX4_leavesSingle ({ frames := 2, cells := 0, slots := 0, locals := 44 }) (va_Pc [.ref (ad 16), .int (nI r9), .int (nI q9), .int (nI m9)] (zRd D (zTy cI cZ) (kwS ad cI cZ K))) (vp_Si (fun r => r = zb (sLeaves K r9 q9 m9))) 0 0 (fun _ => False) := by
  refine Met.ofW (cc := cX4_leavesSingle) (maxL := 5) (ret := (some .boolean)) (by decide) rfl ?_
  intro pP e s m args below meth c s₁ B hml hv
  obtain ⟨rfl, hP, hK⟩ := hv
  have hx := B.exec
  have hb := B.bytes
  have hr := B.returns
  have hts := atoms_spec (ws := wsX4_leavesSingle) B.pre
  have hown : s.vm.findClass RX4 = some m.cls := findClass_of_methodNamed B.named
  have hlocks := B.notSynchronized
  have hl := lv_entry ([.ref (ad 16), .int (nI r9), .int (nI q9), .int (nI m9)]) (n := 5) (Nat.le_of_ble_eq_true rfl)
  rw [lg_entry_eq]
  generalize (lg_sl ([.ref (ad 16), .int (nI r9), .int (nI q9), .int (nI m9)]) ++ List.replicate (5 - (lg_sl ([.ref (ad 16), .int (nI r9), .int (nI q9), .int (nI m9)])).length) Slot.unset).toArray = ls at hl ⊢
  have hl : lv_has ls 5 [(0, .ref (ad 16)), (1, .int (nI r9)), (2, .int (nI q9)), (3, .int (nI m9))] := hl
  refine lv_iload_n hx hb dX4_leavesSingle_0 rfl (lv_at hl 2 rfl) ?_
  refine lv_iload_n hx hb dX4_leavesSingle_1 rfl (lv_at hl 3 rfl) ?_
  refine lv_iadd hx hb dX4_leavesSingle_2 ?_
  refine zz_top (y := nI (q9 + m9)) ((nI_add q9 m9).trans (congrArg nI (by omega))) ?_
  refine lv_istore (lv' := [(4, .int (nI (q9 + m9))), (0, .ref (ad 16)), (1, .int (nI r9)), (2, .int (nI q9)), (3, .int (nI m9))]) hx hb dX4_leavesSingle_3 hl (by decide) rfl (fun ls hl => ?_)
  refine lv_aload_n hx hb dX4_leavesSingle_5 rfl (lv_at hl 1 rfl) ?_
  refine lv_iload_n hx hb dX4_leavesSingle_6 rfl (lv_at hl 2 rfl) ?_
  refine lv_iload_n hx hb dX4_leavesSingle_7 rfl (lv_at hl 3 rfl) ?_
  refine lv_iconst (v := nI 1) hx hb dX4_leavesSingle_8 (by decide) ?_
  refine lv_isub hx hb dX4_leavesSingle_9 ?_
  refine zc_rV (As := [.int (nI r9), .int ((nI q9) - (nI 1))]) (rest := []) ⟨hx, hb, hml, hown, hts⟩ (kX4_isOpen l D cI cZ ad K r9 ((nI q9) - (nI 1)) (by omega)) (cwV 2 hts gX4_leavesSingle_X4_isOpen rfl rfl rfl (by decide +kernel) ⟨(Nat.le_of_ble_eq_true rfl), (Nat.le_of_ble_eq_true rfl)⟩) hK hP (ci := 4) (q0 := 0) rfl rfl rfl rfl hl.1 rfl (Nat.le_of_ble_eq_true rfl) dX4_leavesSingle_10 ⟨Nat.zero_le _, Nat.zero_le _⟩ ?_
  refine lv_if_eq (tgt := 27) hx hb dX4_leavesSingle_13 (by decide) (fun c_1 => ?_) (fun c_1 => ?_)
  · skip
    have c_1 := zb_f c_1
    refine lv_aload_n hx hb dX4_leavesSingle_27 rfl (lv_at hl 1 rfl) ?_
    refine lv_iload_n hx hb dX4_leavesSingle_28 rfl (lv_at hl 2 rfl) ?_
    refine lv_iload hx hb dX4_leavesSingle_29 (lv_at hl 0 rfl) ?_
    refine zc_rV (As := [.int (nI r9), .int (nI (q9 + m9))]) (rest := []) ⟨hx, hb, hml, hown, hts⟩ (kX4_isOpen l D cI cZ ad K r9 (nI (q9 + m9)) (by omega)) (cwV 2 hts gX4_leavesSingle_X4_isOpen rfl rfl rfl (by decide +kernel) ⟨(Nat.le_of_ble_eq_true rfl), (Nat.le_of_ble_eq_true rfl)⟩) hK hP (ci := 4) (q0 := 0) rfl rfl rfl rfl hl.1 rfl (Nat.le_of_ble_eq_true rfl) dX4_leavesSingle_31 ⟨Nat.zero_le _, Nat.zero_le _⟩ ?_
    refine lv_if_eq (tgt := 53) hx hb dX4_leavesSingle_34 (by decide) (fun c_2 => ?_) (fun c_2 => ?_)
    · skip
      have c_2 := zb_f c_2
      refine lv_iconst (v := nI 0) hx hb dX4_leavesSingle_53 (by decide) ?_
      exact W.zret (v := nI 0) hx hb hr rfl (fun t ht hW => ⟨_, rfl, (by simp [sLeaves, zb, c_1, c_2]), ht⟩) (fun _ h => nomatch h) dX4_leavesSingle_54
    · skip
      have c_2 := zb_t c_2
      refine lv_aload_n hx hb dX4_leavesSingle_37 rfl (lv_at hl 1 rfl) ?_
      refine lv_iload_n hx hb dX4_leavesSingle_38 rfl (lv_at hl 2 rfl) ?_
      refine lv_iload hx hb dX4_leavesSingle_39 (lv_at hl 0 rfl) ?_
      refine lv_iconst (v := nI 1) hx hb dX4_leavesSingle_41 (by decide) ?_
      refine lv_iadd hx hb dX4_leavesSingle_42 ?_
      refine zz_top (y := nI ((q9 + m9) + 1)) ((nI_add (q9 + m9) 1).trans (congrArg nI (by omega))) ?_
      refine zc_rV (As := [.int (nI r9), .int (nI ((q9 + m9) + 1))]) (rest := []) ⟨hx, hb, hml, hown, hts⟩ (kX4_isOpen l D cI cZ ad K r9 (nI ((q9 + m9) + 1)) (by omega)) (cwV 2 hts gX4_leavesSingle_X4_isOpen rfl rfl rfl (by decide +kernel) ⟨(Nat.le_of_ble_eq_true rfl), (Nat.le_of_ble_eq_true rfl)⟩) hK hP (ci := 4) (q0 := 0) rfl rfl rfl rfl hl.1 rfl (Nat.le_of_ble_eq_true rfl) dX4_leavesSingle_43 ⟨Nat.zero_le _, Nat.zero_le _⟩ ?_
      refine lv_if_ne (tgt := 53) hx hb dX4_leavesSingle_46 (by decide) (fun c_3 => ?_) (fun c_3 => ?_)
      · skip
        have c_3 := zb_t c_3
        refine lv_iconst (v := nI 0) hx hb dX4_leavesSingle_53 (by decide) ?_
        exact W.zret (v := nI 0) hx hb hr rfl (fun t ht hW => ⟨_, rfl, (by simp [sLeaves, zb, c_1, c_2, c_3]), ht⟩) (fun _ h => nomatch h) dX4_leavesSingle_54
      · skip
        have c_3 := zb_f c_3
        refine lv_iconst (v := nI 1) hx hb dX4_leavesSingle_49 (by decide) ?_
        refine lv_goto (tgt := 54) hx hb dX4_leavesSingle_50 (by decide) ?_
        exact W.zret (v := nI 1) hx hb hr rfl (fun t ht hW => ⟨_, rfl, (by simp [sLeaves, zb, c_1, c_2, c_3]), ht⟩) (fun _ h => nomatch h) dX4_leavesSingle_54
  · skip
    have c_1 := zb_t c_1
    refine lv_aload_n hx hb dX4_leavesSingle_16 rfl (lv_at hl 1 rfl) ?_
    refine lv_iload_n hx hb dX4_leavesSingle_17 rfl (lv_at hl 2 rfl) ?_
    refine lv_iload_n hx hb dX4_leavesSingle_18 rfl (lv_at hl 3 rfl) ?_
    refine lv_iconst (v := nI 2) hx hb dX4_leavesSingle_19 (by decide) ?_
    refine lv_isub hx hb dX4_leavesSingle_20 ?_
    refine zc_rV (As := [.int (nI r9), .int ((nI q9) - (nI 2))]) (rest := []) ⟨hx, hb, hml, hown, hts⟩ (kX4_isOpen l D cI cZ ad K r9 ((nI q9) - (nI 2)) (by omega)) (cwV 2 hts gX4_leavesSingle_X4_isOpen rfl rfl rfl (by decide +kernel) ⟨(Nat.le_of_ble_eq_true rfl), (Nat.le_of_ble_eq_true rfl)⟩) hK hP (ci := 4) (q0 := 0) rfl rfl rfl rfl hl.1 rfl (Nat.le_of_ble_eq_true rfl) dX4_leavesSingle_21 ⟨Nat.zero_le _, Nat.zero_le _⟩ ?_
    refine lv_if_eq (tgt := 49) hx hb dX4_leavesSingle_24 (by decide) (fun c_4 => ?_) (fun c_4 => ?_)
    · skip
      have c_4 := zb_f c_4
      refine lv_iconst (v := nI 1) hx hb dX4_leavesSingle_49 (by decide) ?_
      refine lv_goto (tgt := 54) hx hb dX4_leavesSingle_50 (by decide) ?_
      exact W.zret (v := nI 1) hx hb hr rfl (fun t ht hW => ⟨_, rfl, (by simp [sLeaves, zb, c_1, c_4]), ht⟩) (fun _ h => nomatch h) dX4_leavesSingle_54
    · skip
      have c_4 := zb_t c_4
      refine lv_aload_n hx hb dX4_leavesSingle_27 rfl (lv_at hl 1 rfl) ?_
      refine lv_iload_n hx hb dX4_leavesSingle_28 rfl (lv_at hl 2 rfl) ?_
      refine lv_iload hx hb dX4_leavesSingle_29 (lv_at hl 0 rfl) ?_
      refine zc_rV (As := [.int (nI r9), .int (nI (q9 + m9))]) (rest := []) ⟨hx, hb, hml, hown, hts⟩ (kX4_isOpen l D cI cZ ad K r9 (nI (q9 + m9)) (by omega)) (cwV 2 hts gX4_leavesSingle_X4_isOpen rfl rfl rfl (by decide +kernel) ⟨(Nat.le_of_ble_eq_true rfl), (Nat.le_of_ble_eq_true rfl)⟩) hK hP (ci := 4) (q0 := 0) rfl rfl rfl rfl hl.1 rfl (Nat.le_of_ble_eq_true rfl) dX4_leavesSingle_31 ⟨Nat.zero_le _, Nat.zero_le _⟩ ?_
      refine lv_if_eq (tgt := 53) hx hb dX4_leavesSingle_34 (by decide) (fun c_5 => ?_) (fun c_5 => ?_)
      · skip
        have c_5 := zb_f c_5
        refine lv_iconst (v := nI 0) hx hb dX4_leavesSingle_53 (by decide) ?_
        exact W.zret (v := nI 0) hx hb hr rfl (fun t ht hW => ⟨_, rfl, (by simp [sLeaves, zb, c_1, c_4, c_5]), ht⟩) (fun _ h => nomatch h) dX4_leavesSingle_54
      · skip
        have c_5 := zb_t c_5
        refine lv_aload_n hx hb dX4_leavesSingle_37 rfl (lv_at hl 1 rfl) ?_
        refine lv_iload_n hx hb dX4_leavesSingle_38 rfl (lv_at hl 2 rfl) ?_
        refine lv_iload hx hb dX4_leavesSingle_39 (lv_at hl 0 rfl) ?_
        refine lv_iconst (v := nI 1) hx hb dX4_leavesSingle_41 (by decide) ?_
        refine lv_iadd hx hb dX4_leavesSingle_42 ?_
        refine zz_top (y := nI ((q9 + m9) + 1)) ((nI_add (q9 + m9) 1).trans (congrArg nI (by omega))) ?_
        refine zc_rV (As := [.int (nI r9), .int (nI ((q9 + m9) + 1))]) (rest := []) ⟨hx, hb, hml, hown, hts⟩ (kX4_isOpen l D cI cZ ad K r9 (nI ((q9 + m9) + 1)) (by omega)) (cwV 2 hts gX4_leavesSingle_X4_isOpen rfl rfl rfl (by decide +kernel) ⟨(Nat.le_of_ble_eq_true rfl), (Nat.le_of_ble_eq_true rfl)⟩) hK hP (ci := 4) (q0 := 0) rfl rfl rfl rfl hl.1 rfl (Nat.le_of_ble_eq_true rfl) dX4_leavesSingle_43 ⟨Nat.zero_le _, Nat.zero_le _⟩ ?_
        refine lv_if_ne (tgt := 53) hx hb dX4_leavesSingle_46 (by decide) (fun c_6 => ?_) (fun c_6 => ?_)
        · skip
          have c_6 := zb_t c_6
          refine lv_iconst (v := nI 0) hx hb dX4_leavesSingle_53 (by decide) ?_
          exact W.zret (v := nI 0) hx hb hr rfl (fun t ht hW => ⟨_, rfl, (by simp [sLeaves, zb, c_1, c_4, c_5, c_6]), ht⟩) (fun _ h => nomatch h) dX4_leavesSingle_54
        · skip
          have c_6 := zb_f c_6
          refine lv_iconst (v := nI 1) hx hb dX4_leavesSingle_49 (by decide) ?_
          refine lv_goto (tgt := 54) hx hb dX4_leavesSingle_50 (by decide) ?_
          exact W.zret (v := nI 1) hx hb hr rfl (fun t ht hW => ⟨_, rfl, (by simp [sLeaves, zb, c_1, c_4, c_5, c_6]), ht⟩) (fun _ h => nomatch h) dX4_leavesSingle_54
set_option maxHeartbeats 4000000 in
set_option maxRecDepth 100000 in
theorem kX4_lock (l : Launch) (D : va_G) (cI cZ : ClassId) (ad : Nat → Nat) (K : kS) (sz : Nat) (f9 : Nat) (m9 : Nat) (hf9 : f9 + m9 ≤ 60) : Met l yX4_lock wsX4_lock ({ frames := 0, cells := 0, slots := 0, locals := 0 }) (va_Pc [.ref (ad 16), .int (nI f9), .int (nI m9)] (zPr D (zTy cI cZ) (kwS ad cI cZ K) sz)) (va_Qi (fun r (_ : Unit) => r = zsm (fun j => K 20 (f9 + j)) m9) (fun _ => zPo D (zTy cI cZ) (va_A (kwS ad cI cZ K) sz) (kwS ad cI cZ (kLock K f9 m9))) (va_A (kwS ad cI cZ K) sz)) 0 0 (va_A (kwS ad cI cZ K) sz) := by
  refine Met.ofW (cc := cX4_lock) (maxL := 5) (ret := (some .int)) (by decide) rfl ?_
  intro pP e s m args below meth c s₁ B hml hv
  obtain ⟨rfl, hsz, hP, hK, hD0⟩ := hv
  have hx := B.exec
  have hb := B.bytes
  have hr := B.returns
  have hts := atoms_spec (ws := wsX4_lock) B.pre
  have hown : s.vm.findClass RX4 = some m.cls := findClass_of_methodNamed B.named
  have hlocks := B.notSynchronized
  subst hsz
  have hD := hD0.self (sz := s.heap.size)
  generalize hAe : va_A (kwS ad cI cZ K) s.heap.size = A at hD ⊢
  have hA : ∀ q : Nat, s.heap.size ≤ q → A q := fun q h => by rw [← hAe]; exact Or.inr h
  have hS : va_S A s.heap s.heap [] := va_S.rf
  have hinX4 : ∀ w ∈ u_ws RX4 TX4 5, w ∈ wsX4_lock := by decide +kernel
  have hl := lv_entry ([.ref (ad 16), .int (nI f9), .int (nI m9)]) (n := 5) (Nat.le_of_ble_eq_true rfl)
  rw [lg_entry_eq]
  generalize (lg_sl ([.ref (ad 16), .int (nI f9), .int (nI m9)]) ++ List.replicate (5 - (lg_sl ([.ref (ad 16), .int (nI f9), .int (nI m9)])).length) Slot.unset).toArray = ls at hl ⊢
  have hl : lv_has ls 5 [(0, .ref (ad 16)), (1, .int (nI f9)), (2, .int (nI m9))] := hl
  refine lv_iconst (v := nI 0) hx hb dX4_lock_0 (by decide) ?_
  refine lv_istore_n (lv' := [(3, .int (nI 0)), (0, .ref (ad 16)), (1, .int (nI f9)), (2, .int (nI m9))]) hx hb dX4_lock_1 rfl hl (by decide) rfl (fun ls hl => ?_)
  refine lv_iload_n hx hb dX4_lock_2 rfl (lv_at hl 2 rfl) ?_
  refine lv_istore (lv' := [(4, .int (nI f9)), (3, .int (nI 0)), (0, .ref (ad 16)), (1, .int (nI f9)), (2, .int (nI m9))]) hx hb dX4_lock_3 hl (by decide) rfl (fun ls hl => ?_)
  have lp_a : ∀ (n k : Nat), 0 ≤ k → k ≤ m9 → m9 - k < n → ∀ (H : Heap) (locs : List Loc), va_P D vwCl (kwS ad cI cZ (setA K 17 (zfill (K 17) f9 k (nI 1)))) H → va_D A (kwS ad cI cZ (setA K 17 (zfill (K 17) f9 k (nI 1)))) → va_S A s.heap H locs → ∀ ls : Array Slot, lv_has ls 5 [(4, .int (nI (f9 + k))), (3, .int (zsm (fun j => K 20 (f9 + j)) k)), (0, .ref (ad 16)), (1, .int (nI f9)), (2, .int (nI m9))] → W pP l e ({ frames := 0, cells := 0, slots := 0, locals := 0 } : Room) s m ([.ref (ad 16), .int (nI f9), .int (nI m9)] : List Value).toArray below meth c H locs 0 0 (MQ below (va_Qi (fun r (_ : Unit) => r = zsm (fun j => K 20 (f9 + j)) m9) (fun _ => zPo D (zTy cI cZ) A (kwS ad cI cZ (kLock K f9 m9))) A) ([.ref (ad 16), .int (nI f9), .int (nI m9)] : List Value).toArray s 0 0 A) (F0 m 5 ls []) := by
    intro n
    induction n with
    | zero => intro k _ _ h; exact absurd h (Nat.not_lt_zero _)
    | succ n ih_a =>
      intro k hlo_a hin_a hdn_a  H locs hP hD hS ls hl
      refine lv_iload hx hb dX4_lock_5 (lv_at hl 0 rfl) ?_
      refine lv_iload_n hx hb dX4_lock_7 rfl (lv_at hl 3 rfl) ?_
      refine lv_iload_n hx hb dX4_lock_8 rfl (lv_at hl 4 rfl) ?_
      refine lv_iadd hx hb dX4_lock_9 ?_
      refine zz_top (y := nI (f9 + m9)) ((nI_add f9 m9).trans (congrArg nI (by omega))) ?_
      refine lv_icmp_ge (tgt := 37) hx hb dX4_lock_10 (by decide) (fun c_1 => ?_) (fun c_1 => ?_)
      · skip
        have c_1 := (nI_leI (a := (f9 + m9)) (b := (f9 + k)) (by omega) (by omega)).mp c_1
        have hk8 : k = m9 := by omega
        refine lv_iload_n hx hb dX4_lock_37 rfl (lv_at hl 1 rfl) ?_
        have eK9 : (kLock K f9 m9) = (setA K 17 (zfill (K 17) f9 k (nI 1))) := (by rw [hk8]; rfl)
        have hP9 := hP
        have hD9 := hD
        rw [← eK9] at hP9 hD9
        exact W.iret (v := zsm (fun j => K 20 (f9 + j)) k) hx hb hr (fun t ht hW => ⟨⟨zsm (fun j => K 20 (f9 + j)) k, (), rfl, (by rw [hk8]), by rw [ht]; exact hP9, va_K.moved hW.alike hK, hD9⟩, hS.F ht⟩) hS.2.2 dX4_lock_38
      · skip
        have c_1 : ¬ (f9 + m9) ≤ (f9 + k) := fun h => c_1 ((nI_leI (a := (f9 + m9)) (b := (f9 + k)) (by omega) (by omega)).mpr h)
        refine lv_aload_n hx hb dX4_lock_13 rfl (lv_at hl 2 rfl) ?_
        refine va_get (D := D) (ci := 4) (v := .ref (ad 17)) (C := RX4) (T := TX4) (N := 5) hx hb hts hinX4 hown hK hP 0 rfl rfl 0 (by decide) (hts (.fieldLink RX4 9 "AuditoriumKeys$Seats" "held" "[Z") (List.mem_of_getElem? (i := 1) rfl)) (fun _ h9 => h9) rfl dX4_lock_14 ?_
        refine lv_iload hx hb dX4_lock_17 (lv_at hl 0 rfl) ?_
        refine lv_iconst (v := nI 1) hx hb dX4_lock_19 (by decide) ?_
        refine zz_zast hx hb hK hP hD hS 1 1 rfl rfl (f9 + k) rfl (by omega) (by decide) dX4_lock_20 (fun H locs hP hD hS => ?_)
        have hP : va_P D vwCl (kwS ad cI cZ (setA K 17 (upd (zfill (K 17) f9 k (nI 1)) (f9 + k) (nI 1)))) _ := hP
        have hD : va_D A (kwS ad cI cZ (setA K 17 (upd (zfill (K 17) f9 k (nI 1)) (f9 + k) (nI 1)))) := hD
        refine lv_iload_n hx hb dX4_lock_21 rfl (lv_at hl 1 rfl) ?_
        refine lv_aload_n hx hb dX4_lock_22 rfl (lv_at hl 2 rfl) ?_
        refine va_get (D := D) (ci := 4) (v := .ref (ad 20)) (C := RX4) (T := TX4) (N := 5) hx hb hts hinX4 hown hK hP 0 rfl rfl 3 (by decide) (hts (.fieldLink RX4 22 "AuditoriumKeys$Seats" "price" "[I") (List.mem_of_getElem? (i := 2) rfl)) (fun _ h9 => h9) rfl dX4_lock_23 ?_
        refine lv_iload hx hb dX4_lock_26 (lv_at hl 0 rfl) ?_
        refine zz_iald hx hb hK hP 4 0 rfl rfl (f9 + k) (by omega) (by decide) dX4_lock_28 ?_
        refine lv_iadd hx hb dX4_lock_29 ?_
        refine lv_istore_n (lv' := [(3, .int ((zsm (fun j => K 20 (f9 + j)) k) + (K 20 (f9 + k)))), (4, .int (nI (f9 + k))), (0, .ref (ad 16)), (1, .int (nI f9)), (2, .int (nI m9))]) hx hb dX4_lock_30 rfl hl (by decide) rfl (fun ls hl => ?_)
        refine lv_iinc (v := nI ((f9 + k) + 1)) (lv' := [(4, .int (nI ((f9 + k) + 1))), (3, .int ((zsm (fun j => K 20 (f9 + j)) k) + (K 20 (f9 + k)))), (0, .ref (ad 16)), (1, .int (nI f9)), (2, .int (nI m9))]) hx hb dX4_lock_31 hl (k := 1) rfl ((show nI (f9 + k) + Int32.ofInt 1 = nI (f9 + k) + nI 1 from rfl).trans (nI_add _ _)) (by decide) rfl (fun ls hl => ?_)
        refine lv_goto (tgt := 5) hx hb dX4_lock_34 (by decide) ?_
        have es_2 : zsm (fun j => K 20 (f9 + j)) (k + 1) = (zsm (fun j => K 20 (f9 + j)) k) + (K 20 (f9 + k)) := rfl
        have eK_3 : (setA K 17 (zfill (K 17) f9 (k + 1) (nI 1))) = (setA K 17 (upd (zfill (K 17) f9 k (nI 1)) (f9 + k) (nI 1))) := (by rw [zfill_s])
        exact ih_a (k + 1) (by omega) (by omega) (by omega)  _ _ (by rw [eK_3]; exact hP) (by rw [eK_3]; exact hD) hS ls (by rw [es_2]; exact lv_sub hl [0, 1, 2, 3, 4] rfl)
  have ei_a_3 : zsm (fun j => K 20 (f9 + j)) 0 = nI 0 := rfl
  have eK_a : (setA K 17 (zfill (K 17) f9 0 (nI 1))) = K := (by rw [zfill_0, setA_same])
  exact lp_a (m9 - 0 + 1) 0 (by omega) (by omega) (by omega)  _ _ (by rw [eK_a]; exact hP) (by rw [eK_a]; exact hD) hS ls (by rw [ei_a_3]; exact lv_sub hl [0, 1, 2, 3, 4] rfl)
set_option maxHeartbeats 4000000 in
set_option maxRecDepth 100000 in
theorem kX4_unlock (l : Launch) (D : va_G) (cI cZ : ClassId) (ad : Nat → Nat) (K : kS) (sz : Nat) (f9 : Nat) (m9 : Nat) (hf9 : f9 + m9 ≤ 60) : Met l yX4_unlock wsX4_unlock ({ frames := 0, cells := 0, slots := 0, locals := 0 }) (va_Pc [.ref (ad 16), .int (nI f9), .int (nI m9)] (zPr D (zTy cI cZ) (kwS ad cI cZ K) sz)) (va_Qv (fun _ : Unit => True) (fun _ => zPo D (zTy cI cZ) (va_A (kwS ad cI cZ K) sz) (kwS ad cI cZ (kUnlock K f9 m9))) (va_A (kwS ad cI cZ K) sz)) 0 0 (va_A (kwS ad cI cZ K) sz) := by
  refine Met.ofW (cc := cX4_unlock) (maxL := 4) (ret := none) (by decide) rfl ?_
  intro pP e s m args below meth c s₁ B hml hv
  obtain ⟨rfl, hsz, hP, hK, hD0⟩ := hv
  have hx := B.exec
  have hb := B.bytes
  have hr := B.returns
  have hts := atoms_spec (ws := wsX4_unlock) B.pre
  have hown : s.vm.findClass RX4 = some m.cls := findClass_of_methodNamed B.named
  have hlocks := B.notSynchronized
  subst hsz
  have hD := hD0.self (sz := s.heap.size)
  generalize hAe : va_A (kwS ad cI cZ K) s.heap.size = A at hD ⊢
  have hA : ∀ q : Nat, s.heap.size ≤ q → A q := fun q h => by rw [← hAe]; exact Or.inr h
  have hS : va_S A s.heap s.heap [] := va_S.rf
  have hinX4 : ∀ w ∈ u_ws RX4 TX4 5, w ∈ wsX4_unlock := by decide +kernel
  have hl := lv_entry ([.ref (ad 16), .int (nI f9), .int (nI m9)]) (n := 4) (Nat.le_of_ble_eq_true rfl)
  rw [lg_entry_eq]
  generalize (lg_sl ([.ref (ad 16), .int (nI f9), .int (nI m9)]) ++ List.replicate (4 - (lg_sl ([.ref (ad 16), .int (nI f9), .int (nI m9)])).length) Slot.unset).toArray = ls at hl ⊢
  have hl : lv_has ls 4 [(0, .ref (ad 16)), (1, .int (nI f9)), (2, .int (nI m9))] := hl
  refine lv_iload_n hx hb dX4_unlock_0 rfl (lv_at hl 1 rfl) ?_
  refine lv_istore_n (lv' := [(3, .int (nI f9)), (0, .ref (ad 16)), (1, .int (nI f9)), (2, .int (nI m9))]) hx hb dX4_unlock_1 rfl hl (by decide) rfl (fun ls hl => ?_)
  have lp_a : ∀ (n k : Nat), 0 ≤ k → k ≤ m9 → m9 - k < n → ∀ (H : Heap) (locs : List Loc), va_P D vwCl (kwS ad cI cZ (setA K 17 (zfill (K 17) f9 k (nI 0)))) H → va_D A (kwS ad cI cZ (setA K 17 (zfill (K 17) f9 k (nI 0)))) → va_S A s.heap H locs → ∀ ls : Array Slot, lv_has ls 4 [(3, .int (nI (f9 + k))), (0, .ref (ad 16)), (1, .int (nI f9)), (2, .int (nI m9))] → W pP l e ({ frames := 0, cells := 0, slots := 0, locals := 0 } : Room) s m ([.ref (ad 16), .int (nI f9), .int (nI m9)] : List Value).toArray below meth c H locs 0 0 (MQ below (va_Qv (fun _ : Unit => True) (fun _ => zPo D (zTy cI cZ) A (kwS ad cI cZ (kUnlock K f9 m9))) A) ([.ref (ad 16), .int (nI f9), .int (nI m9)] : List Value).toArray s 0 0 A) (F0 m 2 ls []) := by
    intro n
    induction n with
    | zero => intro k _ _ h; exact absurd h (Nat.not_lt_zero _)
    | succ n ih_a =>
      intro k hlo_a hin_a hdn_a  H locs hP hD hS ls hl
      refine lv_iload_n hx hb dX4_unlock_2 rfl (lv_at hl 0 rfl) ?_
      refine lv_iload_n hx hb dX4_unlock_3 rfl (lv_at hl 2 rfl) ?_
      refine lv_iload_n hx hb dX4_unlock_4 rfl (lv_at hl 3 rfl) ?_
      refine lv_iadd hx hb dX4_unlock_5 ?_
      refine zz_top (y := nI (f9 + m9)) ((nI_add f9 m9).trans (congrArg nI (by omega))) ?_
      refine lv_icmp_ge (tgt := 22) hx hb dX4_unlock_6 (by decide) (fun c_1 => ?_) (fun c_1 => ?_)
      · skip
        have c_1 := (nI_leI (a := (f9 + m9)) (b := (f9 + k)) (by omega) (by omega)).mp c_1
        have hk8 : k = m9 := by omega
        have eK9 : (kUnlock K f9 m9) = (setA K 17 (zfill (K 17) f9 k (nI 0))) := (by rw [hk8]; rfl)
        have hP9 := hP
        have hD9 := hD
        rw [← eK9] at hP9 hD9
        exact W.vret hx hb hr (fun t ht hW => ⟨⟨(), rfl, trivial, by rw [ht]; exact hP9, va_K.moved hW.alike hK, hD9⟩, hS.F ht⟩) hS.2.2 dX4_unlock_22
      · skip
        have c_1 : ¬ (f9 + m9) ≤ (f9 + k) := fun h => c_1 ((nI_leI (a := (f9 + m9)) (b := (f9 + k)) (by omega) (by omega)).mpr h)
        refine lv_aload_n hx hb dX4_unlock_9 rfl (lv_at hl 1 rfl) ?_
        refine va_get (D := D) (ci := 4) (v := .ref (ad 17)) (C := RX4) (T := TX4) (N := 5) hx hb hts hinX4 hown hK hP 0 rfl rfl 0 (by decide) (hts (.fieldLink RX4 9 "AuditoriumKeys$Seats" "held" "[Z") (List.mem_of_getElem? (i := 1) rfl)) (fun _ h9 => h9) rfl dX4_unlock_10 ?_
        refine lv_iload_n hx hb dX4_unlock_13 rfl (lv_at hl 0 rfl) ?_
        refine lv_iconst (v := nI 0) hx hb dX4_unlock_14 (by decide) ?_
        refine zz_zast hx hb hK hP hD hS 1 1 rfl rfl (f9 + k) rfl (by omega) (by decide) dX4_unlock_15 (fun H locs hP hD hS => ?_)
        have hP : va_P D vwCl (kwS ad cI cZ (setA K 17 (upd (zfill (K 17) f9 k (nI 0)) (f9 + k) (nI 0)))) _ := hP
        have hD : va_D A (kwS ad cI cZ (setA K 17 (upd (zfill (K 17) f9 k (nI 0)) (f9 + k) (nI 0)))) := hD
        refine lv_iinc (v := nI ((f9 + k) + 1)) (lv' := [(3, .int (nI ((f9 + k) + 1))), (0, .ref (ad 16)), (1, .int (nI f9)), (2, .int (nI m9))]) hx hb dX4_unlock_16 hl (k := 0) rfl ((show nI (f9 + k) + Int32.ofInt 1 = nI (f9 + k) + nI 1 from rfl).trans (nI_add _ _)) (by decide) rfl (fun ls hl => ?_)
        refine lv_goto (tgt := 2) hx hb dX4_unlock_19 (by decide) ?_
        have eK_2 : (setA K 17 (zfill (K 17) f9 (k + 1) (nI 0))) = (setA K 17 (upd (zfill (K 17) f9 k (nI 0)) (f9 + k) (nI 0))) := (by rw [zfill_s])
        exact ih_a (k + 1) (by omega) (by omega) (by omega)  _ _ (by rw [eK_2]; exact hP) (by rw [eK_2]; exact hD) hS ls (lv_sub hl [0, 1, 2, 3] rfl)
  have eK_a : (setA K 17 (zfill (K 17) f9 0 (nI 0))) = K := (by rw [zfill_0, setA_same])
  exact lp_a (m9 - 0 + 1) 0 (by omega) (by omega) (by omega)  _ _ (by rw [eK_a]; exact hP) (by rw [eK_a]; exact hD) hS ls (lv_sub hl [0, 1, 2, 3] rfl)
set_option maxHeartbeats 4000000 in
set_option maxRecDepth 100000 in
theorem kX4_giveTo (l : Launch) (D : va_G) (cI cZ : ClassId) (ad : Nat → Nat) (K : kS) (sz : Nat) (s9 : Nat) (x : Int32) (hs9 : s9 < 60) : Met l yX4_giveTo wsX4_giveTo ({ frames := 0, cells := 0, slots := 0, locals := 0 }) (va_Pc [.ref (ad 16), .int (nI s9), .int x] (zPr D (zTy cI cZ) (kwS ad cI cZ K) sz)) (va_Qv (fun _ : Unit => True) (fun _ => zPo D (zTy cI cZ) (va_A (kwS ad cI cZ K) sz) (kwS ad cI cZ (kGive K s9 x))) (va_A (kwS ad cI cZ K) sz)) 0 0 (va_A (kwS ad cI cZ K) sz) := by
  refine Met.ofW (cc := cX4_giveTo) (maxL := 3) (ret := none) (by decide) rfl ?_
  intro pP e s m args below meth c s₁ B hml hv
  obtain ⟨rfl, hsz, hP, hK, hD0⟩ := hv
  have hx := B.exec
  have hb := B.bytes
  have hr := B.returns
  have hts := atoms_spec (ws := wsX4_giveTo) B.pre
  have hown : s.vm.findClass RX4 = some m.cls := findClass_of_methodNamed B.named
  have hlocks := B.notSynchronized
  subst hsz
  have hD := hD0.self (sz := s.heap.size)
  generalize hAe : va_A (kwS ad cI cZ K) s.heap.size = A at hD ⊢
  have hA : ∀ q : Nat, s.heap.size ≤ q → A q := fun q h => by rw [← hAe]; exact Or.inr h
  have hS : va_S A s.heap s.heap [] := va_S.rf
  have hinX4 : ∀ w ∈ u_ws RX4 TX4 5, w ∈ wsX4_giveTo := by decide +kernel
  have hl := lv_entry ([.ref (ad 16), .int (nI s9), .int x]) (n := 3) (Nat.le_of_ble_eq_true rfl)
  rw [lg_entry_eq]
  generalize (lg_sl ([.ref (ad 16), .int (nI s9), .int x]) ++ List.replicate (3 - (lg_sl ([.ref (ad 16), .int (nI s9), .int x])).length) Slot.unset).toArray = ls at hl ⊢
  have hl : lv_has ls 3 [(0, .ref (ad 16)), (1, .int (nI s9)), (2, .int x)] := hl
  refine lv_aload_n hx hb dX4_giveTo_0 rfl (lv_at hl 0 rfl) ?_
  refine va_get (D := D) (ci := 4) (v := .ref (ad 17)) (C := RX4) (T := TX4) (N := 5) hx hb hts hinX4 hown hK hP 0 rfl rfl 0 (by decide) (hts (.fieldLink RX4 9 "AuditoriumKeys$Seats" "held" "[Z") (List.mem_of_getElem? (i := 1) rfl)) (fun _ h9 => h9) rfl dX4_giveTo_1 ?_
  refine lv_iload_n hx hb dX4_giveTo_4 rfl (lv_at hl 1 rfl) ?_
  refine lv_iconst (v := nI 0) hx hb dX4_giveTo_5 (by decide) ?_
  refine zz_zast hx hb hK hP hD hS 1 1 rfl rfl s9 rfl (by omega) (by decide) dX4_giveTo_6 (fun H locs hP hD hS => ?_)
  have hP : va_P D vwCl (kwS ad cI cZ (setA K 17 (upd (K 17) s9 (nI 0)))) _ := hP
  have hD : va_D A (kwS ad cI cZ (setA K 17 (upd (K 17) s9 (nI 0)))) := hD
  refine lv_aload_n hx hb dX4_giveTo_7 rfl (lv_at hl 0 rfl) ?_
  refine va_get (D := D) (ci := 4) (v := .ref (ad 18)) (C := RX4) (T := TX4) (N := 5) hx hb hts hinX4 hown hK hP 0 rfl rfl 1 (by decide) (hts (.fieldLink RX4 15 "AuditoriumKeys$Seats" "offered" "[Z") (List.mem_of_getElem? (i := 2) rfl)) (fun _ h9 => h9) rfl dX4_giveTo_8 ?_
  refine lv_iload_n hx hb dX4_giveTo_11 rfl (lv_at hl 1 rfl) ?_
  refine lv_iconst (v := nI 0) hx hb dX4_giveTo_12 (by decide) ?_
  refine zz_zast hx hb hK hP hD hS 2 1 rfl rfl s9 rfl (by omega) (by decide) dX4_giveTo_13 (fun H locs hP hD hS => ?_)
  have hP : va_P D vwCl (kwS ad cI cZ (setA (setA K 17 (upd (K 17) s9 (nI 0))) 18 (upd (K 18) s9 (nI 0)))) _ := hP
  have hD : va_D A (kwS ad cI cZ (setA (setA K 17 (upd (K 17) s9 (nI 0))) 18 (upd (K 18) s9 (nI 0)))) := hD
  refine lv_aload_n hx hb dX4_giveTo_14 rfl (lv_at hl 0 rfl) ?_
  refine va_get (D := D) (ci := 4) (v := .ref (ad 19)) (C := RX4) (T := TX4) (N := 5) hx hb hts hinX4 hown hK hP 0 rfl rfl 2 (by decide) (hts (.fieldLink RX4 18 "AuditoriumKeys$Seats" "owner" "[I") (List.mem_of_getElem? (i := 3) rfl)) (fun _ h9 => h9) rfl dX4_giveTo_15 ?_
  refine lv_iload_n hx hb dX4_giveTo_18 rfl (lv_at hl 1 rfl) ?_
  refine lv_iload_n hx hb dX4_giveTo_19 rfl (lv_at hl 2 rfl) ?_
  refine zz_iast hx hb hK hP hD hS 3 0 rfl rfl s9 (by omega) (by decide) dX4_giveTo_20 (fun H locs hP hD hS => ?_)
  have hP : va_P D vwCl (kwS ad cI cZ (setA (setA (setA K 17 (upd (K 17) s9 (nI 0))) 18 (upd (K 18) s9 (nI 0))) 19 (upd (K 19) s9 x))) _ := hP
  have hD : va_D A (kwS ad cI cZ (setA (setA (setA K 17 (upd (K 17) s9 (nI 0))) 18 (upd (K 18) s9 (nI 0))) 19 (upd (K 19) s9 x))) := hD
  refine lv_aload_n hx hb dX4_giveTo_21 rfl (lv_at hl 0 rfl) ?_
  refine va_get (D := D) (ci := 4) (v := .ref (ad 21)) (C := RX4) (T := TX4) (N := 5) hx hb hts hinX4 hown hK hP 0 rfl rfl 4 (by decide) (hts (.fieldLink RX4 25 "AuditoriumKeys$Seats" "bought" "[I") (List.mem_of_getElem? (i := 4) rfl)) (fun _ h9 => h9) rfl dX4_giveTo_22 ?_
  refine lv_iload_n hx hb dX4_giveTo_25 rfl (lv_at hl 1 rfl) ?_
  refine lv_aload_n hx hb dX4_giveTo_26 rfl (lv_at hl 0 rfl) ?_
  refine va_get (D := D) (ci := 4) (v := .ref (ad 20)) (C := RX4) (T := TX4) (N := 5) hx hb hts hinX4 hown hK hP 0 rfl rfl 3 (by decide) (hts (.fieldLink RX4 22 "AuditoriumKeys$Seats" "price" "[I") (List.mem_of_getElem? (i := 5) rfl)) (fun _ h9 => h9) rfl dX4_giveTo_27 ?_
  refine lv_iload_n hx hb dX4_giveTo_30 rfl (lv_at hl 1 rfl) ?_
  refine zz_iald hx hb hK hP 4 0 rfl rfl s9 (by omega) (by decide) dX4_giveTo_31 ?_
  refine zz_iast hx hb hK hP hD hS 5 0 rfl rfl s9 (by omega) (by decide) dX4_giveTo_32 (fun H locs hP hD hS => ?_)
  have hP : va_P D vwCl (kwS ad cI cZ (setA (setA (setA (setA K 17 (upd (K 17) s9 (nI 0))) 18 (upd (K 18) s9 (nI 0))) 19 (upd (K 19) s9 x)) 21 (upd (K 21) s9 (K 20 s9)))) _ := hP
  have hD : va_D A (kwS ad cI cZ (setA (setA (setA (setA K 17 (upd (K 17) s9 (nI 0))) 18 (upd (K 18) s9 (nI 0))) 19 (upd (K 19) s9 x)) 21 (upd (K 21) s9 (K 20 s9)))) := hD
  have eK9 : (kGive K s9 x) = (setA (setA (setA (setA K 17 (upd (K 17) s9 (nI 0))) 18 (upd (K 18) s9 (nI 0))) 19 (upd (K 19) s9 x)) 21 (upd (K 21) s9 (K 20 s9))) := rfl
  have hP9 := hP
  have hD9 := hD
  rw [← eK9] at hP9 hD9
  exact W.vret hx hb hr (fun t ht hW => ⟨⟨(), rfl, trivial, by rw [ht]; exact hP9, va_K.moved hW.alike hK, hD9⟩, hS.F ht⟩) hS.2.2 dX4_giveTo_33
set_option maxHeartbeats 4000000 in
set_option maxRecDepth 100000 in
theorem kX4_ceilingOf (l : Launch) (D : va_G) (cI cZ : ClassId) (ad : Nat → Nat) (K : kS) (s9 : Nat) (hs9 : s9 < 60) : Met l yX4_ceilingOf wsX4_ceilingOf ({ frames := 0, cells := 0, slots := 0, locals := 0 }) (va_Pc [.ref (ad 16), .int (nI s9)] (zRd D (zTy cI cZ) (kwS ad cI cZ K))) (vp_Si (fun r => r = sCeil K s9)) 0 0 (fun _ => False) := by
  refine Met.ofW (cc := cX4_ceilingOf) (maxL := 2) (ret := (some .int)) (by decide) rfl ?_
  intro pP e s m args below meth c s₁ B hml hv
  obtain ⟨rfl, hP, hK⟩ := hv
  have hx := B.exec
  have hb := B.bytes
  have hr := B.returns
  have hts := atoms_spec (ws := wsX4_ceilingOf) B.pre
  have hown : s.vm.findClass RX4 = some m.cls := findClass_of_methodNamed B.named
  have hlocks := B.notSynchronized
  have hinX4 : ∀ w ∈ u_ws RX4 TX4 5, w ∈ wsX4_ceilingOf := by decide +kernel
  have hl := lv_entry ([.ref (ad 16), .int (nI s9)]) (n := 2) (Nat.le_of_ble_eq_true rfl)
  rw [lg_entry_eq]
  generalize (lg_sl ([.ref (ad 16), .int (nI s9)]) ++ List.replicate (2 - (lg_sl ([.ref (ad 16), .int (nI s9)])).length) Slot.unset).toArray = ls at hl ⊢
  have hl : lv_has ls 2 [(0, .ref (ad 16)), (1, .int (nI s9))] := hl
  refine lv_aload_n hx hb dX4_ceilingOf_0 rfl (lv_at hl 0 rfl) ?_
  refine va_get (D := D) (ci := 4) (v := .ref (ad 21)) (C := RX4) (T := TX4) (N := 5) hx hb hts hinX4 hown hK hP 0 rfl rfl 4 (by decide) (hts (.fieldLink RX4 25 "AuditoriumKeys$Seats" "bought" "[I") (List.mem_of_getElem? (i := 1) rfl)) (fun _ h9 => h9) rfl dX4_ceilingOf_1 ?_
  refine lv_iload_n hx hb dX4_ceilingOf_4 rfl (lv_at hl 1 rfl) ?_
  refine zz_iald hx hb hK hP 5 0 rfl rfl s9 (by omega) (by decide) dX4_ceilingOf_5 ?_
  refine lv_bipush (v := nI 11) hx hb dX4_ceilingOf_6 (by decide) ?_
  refine lv_imul hx hb dX4_ceilingOf_8 ?_
  refine lv_bipush (v := nI 10) hx hb dX4_ceilingOf_9 (by decide) ?_
  refine lv_idiv hx hb dX4_ceilingOf_11 (by decide) ?_
  exact W.iret (v := ((K 21 s9) * (nI 11)) / (nI 10)) hx hb hr (fun t ht hW => ⟨_, rfl, rfl, ht⟩) (fun _ h => nomatch h) dX4_ceilingOf_12
set_option maxHeartbeats 4000000 in
set_option maxRecDepth 100000 in
theorem kX4_putUp (l : Launch) (D : va_G) (cI cZ : ClassId) (ad : Nat → Nat) (K : kS) (sz : Nat) (s9 : Nat) (x : Int32) (hs9 : s9 < 60) : Met l yX4_putUp wsX4_putUp ({ frames := 0, cells := 0, slots := 0, locals := 0 }) (va_Pc [.ref (ad 16), .int (nI s9), .int x] (zPr D (zTy cI cZ) (kwS ad cI cZ K) sz)) (va_Qv (fun _ : Unit => True) (fun _ => zPo D (zTy cI cZ) (va_A (kwS ad cI cZ K) sz) (kwS ad cI cZ (kPut K s9 x))) (va_A (kwS ad cI cZ K) sz)) 0 0 (va_A (kwS ad cI cZ K) sz) := by
  refine Met.ofW (cc := cX4_putUp) (maxL := 3) (ret := none) (by decide) rfl ?_
  intro pP e s m args below meth c s₁ B hml hv
  obtain ⟨rfl, hsz, hP, hK, hD0⟩ := hv
  have hx := B.exec
  have hb := B.bytes
  have hr := B.returns
  have hts := atoms_spec (ws := wsX4_putUp) B.pre
  have hown : s.vm.findClass RX4 = some m.cls := findClass_of_methodNamed B.named
  have hlocks := B.notSynchronized
  subst hsz
  have hD := hD0.self (sz := s.heap.size)
  generalize hAe : va_A (kwS ad cI cZ K) s.heap.size = A at hD ⊢
  have hA : ∀ q : Nat, s.heap.size ≤ q → A q := fun q h => by rw [← hAe]; exact Or.inr h
  have hS : va_S A s.heap s.heap [] := va_S.rf
  have hinX4 : ∀ w ∈ u_ws RX4 TX4 5, w ∈ wsX4_putUp := by decide +kernel
  have hl := lv_entry ([.ref (ad 16), .int (nI s9), .int x]) (n := 3) (Nat.le_of_ble_eq_true rfl)
  rw [lg_entry_eq]
  generalize (lg_sl ([.ref (ad 16), .int (nI s9), .int x]) ++ List.replicate (3 - (lg_sl ([.ref (ad 16), .int (nI s9), .int x])).length) Slot.unset).toArray = ls at hl ⊢
  have hl : lv_has ls 3 [(0, .ref (ad 16)), (1, .int (nI s9)), (2, .int x)] := hl
  refine lv_aload_n hx hb dX4_putUp_0 rfl (lv_at hl 0 rfl) ?_
  refine va_get (D := D) (ci := 4) (v := .ref (ad 18)) (C := RX4) (T := TX4) (N := 5) hx hb hts hinX4 hown hK hP 0 rfl rfl 1 (by decide) (hts (.fieldLink RX4 15 "AuditoriumKeys$Seats" "offered" "[Z") (List.mem_of_getElem? (i := 1) rfl)) (fun _ h9 => h9) rfl dX4_putUp_1 ?_
  refine lv_iload_n hx hb dX4_putUp_4 rfl (lv_at hl 1 rfl) ?_
  refine lv_iconst (v := nI 1) hx hb dX4_putUp_5 (by decide) ?_
  refine zz_zast hx hb hK hP hD hS 2 1 rfl rfl s9 rfl (by omega) (by decide) dX4_putUp_6 (fun H locs hP hD hS => ?_)
  have hP : va_P D vwCl (kwS ad cI cZ (setA K 18 (upd (K 18) s9 (nI 1)))) _ := hP
  have hD : va_D A (kwS ad cI cZ (setA K 18 (upd (K 18) s9 (nI 1)))) := hD
  refine lv_aload_n hx hb dX4_putUp_7 rfl (lv_at hl 0 rfl) ?_
  refine va_get (D := D) (ci := 4) (v := .ref (ad 20)) (C := RX4) (T := TX4) (N := 5) hx hb hts hinX4 hown hK hP 0 rfl rfl 3 (by decide) (hts (.fieldLink RX4 22 "AuditoriumKeys$Seats" "price" "[I") (List.mem_of_getElem? (i := 2) rfl)) (fun _ h9 => h9) rfl dX4_putUp_8 ?_
  refine lv_iload_n hx hb dX4_putUp_11 rfl (lv_at hl 1 rfl) ?_
  refine lv_iload_n hx hb dX4_putUp_12 rfl (lv_at hl 2 rfl) ?_
  refine zz_iast hx hb hK hP hD hS 4 0 rfl rfl s9 (by omega) (by decide) dX4_putUp_13 (fun H locs hP hD hS => ?_)
  have hP : va_P D vwCl (kwS ad cI cZ (setA (setA K 18 (upd (K 18) s9 (nI 1))) 20 (upd (K 20) s9 x))) _ := hP
  have hD : va_D A (kwS ad cI cZ (setA (setA K 18 (upd (K 18) s9 (nI 1))) 20 (upd (K 20) s9 x))) := hD
  have eK9 : (kPut K s9 x) = (setA (setA K 18 (upd (K 18) s9 (nI 1))) 20 (upd (K 20) s9 x)) := rfl
  have hP9 := hP
  have hD9 := hD
  rw [← eK9] at hP9 hD9
  exact W.vret hx hb hr (fun t ht hW => ⟨⟨(), rfl, trivial, by rw [ht]; exact hP9, va_K.moved hW.alike hK, hD9⟩, hS.F ht⟩) hS.2.2 dX4_putUp_14
