set_option maxHeartbeats 8000000 in
set_option maxRecDepth 100000 in
theorem kL_areAlike (l : Launch) (hl9 : l.stackTraces = false) (D : va_G) (cI cZ : ClassId) (ad am : Nat → Nat) (K : kS) (sz : Nat)   : zMh l yL_areAlike wsL_areAlike ({ frames := 8, cells := 4, slots := 24, locals := 126 }) [.ref (ad 0), .ref (am 0)] D (zTy cI cZ) (kwA ad cI cZ K ++ kwA am cI cZ K) (kwA ad cI cZ K ++ kwA am cI cZ K) sz (nI 1) 4 24 := by
  refine Met.ofW (cc := cL_areAlike) (maxL := 4) (ret := (some .boolean)) (by decide) rfl ?_
  intro pP e s m args below meth c s₁ B hml hv
  obtain ⟨rfl, hsz, hP, hK, hD0, hE0, hN⟩ := hv
  have hx := B.exec
  have hb := B.bytes
  have hr := B.returns
  have hts := atoms_spec (ws := wsL_areAlike) B.pre
  have hown : s.vm.findClass RL = some m.cls := findClass_of_methodNamed B.named
  subst hsz
  have hD := hD0.self (sz := s.heap.size)
  generalize hAe : va_A (kwA ad cI cZ K ++ kwA am cI cZ K) s.heap.size = A at hD hE0 ⊢
  have hE := hE0
  have hA : ∀ q : Nat, s.heap.size ≤ q → A q := fun q h => by rw [← hAe]; exact Or.inr h
  have hS : va_S A s.heap s.heap [] := va_S.rf
  have hl := lv_entry ([.ref (ad 0), .ref (am 0)]) (n := 4) (Nat.le_of_ble_eq_true rfl)
  rw [lg_entry_eq]
  generalize (lg_sl ([.ref (ad 0), .ref (am 0)]) ++ List.replicate (4 - (lg_sl ([.ref (ad 0), .ref (am 0)])).length) Slot.unset).toArray = ls at hl ⊢
  have hl : lv_has ls 4 [(0, .ref (ad 0)), (1, .ref (am 0))] := hl
  refine lv_aload_n hx hb dL_areAlike_0 rfl (lv_at hl 0 rfl) ?_
  refine zq_rV (As := []) (rest := []) ⟨hx, hb, hml, hown, hts⟩ (kQ_time l D cI cZ ad K  ) (cwV 0 hts gL_areAlike_X5_time rfl rfl rfl (by decide +kernel) ⟨(Nat.le_of_ble_eq_true rfl), (Nat.le_of_ble_eq_true rfl)⟩) hK (hP.sub (ws' := (kwA ad cI cZ K)) [0, 1, 2, 3, 4, 5, 6, 7, 8, 9, 10, 11, 12, 13, 14, 15, 16, 17, 18, 19, 20, 21, 22, 23, 24, 25] rfl) hE.1 (ci := 5) (q0 := 0) rfl rfl rfl rfl hl.1 rfl (Nat.le_of_ble_eq_true rfl) dL_areAlike_1 ⟨(Nat.le_of_ble_eq_true rfl), (Nat.le_of_ble_eq_true rfl)⟩ ?_
  refine lv_aload_n hx hb dL_areAlike_4 rfl (lv_at hl 1 rfl) ?_
  refine zq_rV (As := []) (rest := [.int (K 0 0)]) ⟨hx, hb, hml, hown, hts⟩ (kQ_time l D cI cZ am K  ) (cwV 0 hts gL_areAlike_X5_time rfl rfl rfl (by decide +kernel) ⟨(Nat.le_of_ble_eq_true rfl), (Nat.le_of_ble_eq_true rfl)⟩) hK (hP.sub (ws' := (kwA am cI cZ K)) [26, 27, 28, 29, 30, 31, 32, 33, 34, 35, 36, 37, 38, 39, 40, 41, 42, 43, 44, 45, 46, 47, 48, 49, 50, 51] rfl) hE.1 (ci := 5) (q0 := 0) rfl rfl rfl rfl hl.1 rfl (Nat.le_of_ble_eq_true rfl) dL_areAlike_5 ⟨(Nat.le_of_ble_eq_true rfl), (Nat.le_of_ble_eq_true rfl)⟩ ?_
  refine lv_icmp_ne (tgt := 63) hx hb dL_areAlike_8 (by decide) (fun c_1 => ?_) (fun c_1 => ?_)
  · skip
    have c_1 : ¬ K 0 0 = K 0 0 := c_1
    exact absurd rfl c_1
  · skip
    have c_1 : K 0 0 = K 0 0 := c_1
    refine lv_aload_n hx hb dL_areAlike_11 rfl (lv_at hl 0 rfl) ?_
    refine zq_rV (As := []) (rest := []) ⟨hx, hb, hml, hown, hts⟩ (kQ_takings l D cI cZ ad K  ) (cwV 0 hts gL_areAlike_X5_takings rfl rfl rfl (by decide +kernel) ⟨(Nat.le_of_ble_eq_true rfl), (Nat.le_of_ble_eq_true rfl)⟩) hK (hP.sub (ws' := (kwA ad cI cZ K)) [0, 1, 2, 3, 4, 5, 6, 7, 8, 9, 10, 11, 12, 13, 14, 15, 16, 17, 18, 19, 20, 21, 22, 23, 24, 25] rfl) hE.1 (ci := 5) (q0 := 0) rfl rfl rfl rfl hl.1 rfl (Nat.le_of_ble_eq_true rfl) dL_areAlike_12 ⟨(Nat.le_of_ble_eq_true rfl), (Nat.le_of_ble_eq_true rfl)⟩ ?_
    refine lv_aload_n hx hb dL_areAlike_15 rfl (lv_at hl 1 rfl) ?_
    refine zq_rV (As := []) (rest := [.int (K 0 2)]) ⟨hx, hb, hml, hown, hts⟩ (kQ_takings l D cI cZ am K  ) (cwV 0 hts gL_areAlike_X5_takings rfl rfl rfl (by decide +kernel) ⟨(Nat.le_of_ble_eq_true rfl), (Nat.le_of_ble_eq_true rfl)⟩) hK (hP.sub (ws' := (kwA am cI cZ K)) [26, 27, 28, 29, 30, 31, 32, 33, 34, 35, 36, 37, 38, 39, 40, 41, 42, 43, 44, 45, 46, 47, 48, 49, 50, 51] rfl) hE.1 (ci := 5) (q0 := 0) rfl rfl rfl rfl hl.1 rfl (Nat.le_of_ble_eq_true rfl) dL_areAlike_16 ⟨(Nat.le_of_ble_eq_true rfl), (Nat.le_of_ble_eq_true rfl)⟩ ?_
    refine lv_icmp_ne (tgt := 63) hx hb dL_areAlike_19 (by decide) (fun c_2 => ?_) (fun c_2 => ?_)
    · skip
      have c_2 : ¬ K 0 2 = K 0 2 := c_2
      exact absurd rfl c_2
    · skip
      have c_2 : K 0 2 = K 0 2 := c_2
      refine lv_aload_n hx hb dL_areAlike_22 rfl (lv_at hl 0 rfl) ?_
      refine zq_rV (As := []) (rest := []) ⟨hx, hb, hml, hown, hts⟩ (kQ_served l D cI cZ ad K  ) (cwV 0 hts gL_areAlike_X5_served rfl rfl rfl (by decide +kernel) ⟨(Nat.le_of_ble_eq_true rfl), (Nat.le_of_ble_eq_true rfl)⟩) hK (hP.sub (ws' := (kwA ad cI cZ K)) [0, 1, 2, 3, 4, 5, 6, 7, 8, 9, 10, 11, 12, 13, 14, 15, 16, 17, 18, 19, 20, 21, 22, 23, 24, 25] rfl) hE.1 (ci := 5) (q0 := 0) rfl rfl rfl rfl hl.1 rfl (Nat.le_of_ble_eq_true rfl) dL_areAlike_23 ⟨(Nat.le_of_ble_eq_true rfl), (Nat.le_of_ble_eq_true rfl)⟩ ?_
      refine lv_aload_n hx hb dL_areAlike_26 rfl (lv_at hl 1 rfl) ?_
      refine zq_rV (As := []) (rest := [.int (lServ K)]) ⟨hx, hb, hml, hown, hts⟩ (kQ_served l D cI cZ am K  ) (cwV 0 hts gL_areAlike_X5_served rfl rfl rfl (by decide +kernel) ⟨(Nat.le_of_ble_eq_true rfl), (Nat.le_of_ble_eq_true rfl)⟩) hK (hP.sub (ws' := (kwA am cI cZ K)) [26, 27, 28, 29, 30, 31, 32, 33, 34, 35, 36, 37, 38, 39, 40, 41, 42, 43, 44, 45, 46, 47, 48, 49, 50, 51] rfl) hE.1 (ci := 5) (q0 := 0) rfl rfl rfl rfl hl.1 rfl (Nat.le_of_ble_eq_true rfl) dL_areAlike_27 ⟨(Nat.le_of_ble_eq_true rfl), (Nat.le_of_ble_eq_true rfl)⟩ ?_
      refine lv_icmp_ne (tgt := 63) hx hb dL_areAlike_30 (by decide) (fun c_3 => ?_) (fun c_3 => ?_)
      · skip
        have c_3 : ¬ lServ K = lServ K := c_3
        exact absurd rfl c_3
      · skip
        have c_3 : lServ K = lServ K := c_3
        refine lv_aload_n hx hb dL_areAlike_33 rfl (lv_at hl 0 rfl) ?_
        refine lv_iconst (v := nI 0) hx hb dL_areAlike_34 (by decide) ?_
        refine zy_S (As := [.ref (ad 0), .int (nI 0)]) (rest := []) (wr := (kwA am cI cZ K)) ⟨hx, hb, hml, hown, hts⟩ (kL_queueAt l hl9 D cI cZ ad K _ (nI 0) ) (vx_cwSW 2 hts gL_areAlike_L_queueAt rfl rfl rfl (by decide +kernel) ⟨(Nat.le_of_ble_eq_true rfl), (Nat.le_of_ble_eq_true rfl)⟩) hK hP hD hS hA hE hN [0, 1, 2, 3, 4, 5, 6, 7, 8, 9, 10, 11, 12, 13, 14, 15, 16, 17, 18, 19, 20, 21, 22, 23, 24, 25] [26, 27, 28, 29, 30, 31, 32, 33, 34, 35, 36, 37, 38, 39, 40, 41, 42, 43, 44, 45, 46, 47, 48, 49, 50, 51] rfl rfl rfl rfl rfl (by decide) rfl hl.1 rfl (Nat.le_of_ble_eq_true rfl) dL_areAlike_35 ⟨(Nat.le_of_ble_eq_true rfl), (Nat.le_of_ble_eq_true rfl)⟩ (fun H locs hP hD hS => ?_)
        have hP := hP.sub (ws' := (kwA ad cI cZ K ++ kwA am cI cZ K)) [26, 27, 28, 29, 30, 31, 32, 33, 34, 35, 36, 37, 38, 39, 40, 41, 42, 43, 44, 45, 46, 47, 48, 49, 50, 51, 0, 1, 2, 3, 4, 5, 6, 7, 8, 9, 10, 11, 12, 13, 14, 15, 16, 17, 18, 19, 20, 21, 22, 23, 24, 25] rfl
        have hD := hD.sub (ws' := (kwA ad cI cZ K ++ kwA am cI cZ K)) [26, 27, 28, 29, 30, 31, 32, 33, 34, 35, 36, 37, 38, 39, 40, 41, 42, 43, 44, 45, 46, 47, 48, 49, 50, 51, 0, 1, 2, 3, 4, 5, 6, 7, 8, 9, 10, 11, 12, 13, 14, 15, 16, 17, 18, 19, 20, 21, 22, 23, 24, 25] rfl rfl
        refine lv_aload_n hx hb dL_areAlike_38 rfl (lv_at hl 1 rfl) ?_
        refine lv_iconst (v := nI 0) hx hb dL_areAlike_39 (by decide) ?_
        refine zy_S (As := [.ref (am 0), .int (nI 0)]) (rest := [.int (lAt K (nI 0))]) (wr := (kwA ad cI cZ K)) ⟨hx, hb, hml, hown, hts⟩ (kL_queueAt l hl9 D cI cZ am K _ (nI 0) ) (vx_cwSW 2 hts gL_areAlike_L_queueAt rfl rfl rfl (by decide +kernel) ⟨(Nat.le_of_ble_eq_true rfl), (Nat.le_of_ble_eq_true rfl)⟩) hK hP hD hS hA hE hN [26, 27, 28, 29, 30, 31, 32, 33, 34, 35, 36, 37, 38, 39, 40, 41, 42, 43, 44, 45, 46, 47, 48, 49, 50, 51] [0, 1, 2, 3, 4, 5, 6, 7, 8, 9, 10, 11, 12, 13, 14, 15, 16, 17, 18, 19, 20, 21, 22, 23, 24, 25] rfl rfl rfl rfl rfl (by decide) rfl hl.1 rfl (Nat.le_of_ble_eq_true rfl) dL_areAlike_40 ⟨(Nat.le_of_ble_eq_true rfl), (Nat.le_of_ble_eq_true rfl)⟩ (fun H locs hP hD hS => ?_)
        have hP := hP.sub (ws' := (kwA ad cI cZ K ++ kwA am cI cZ K)) [0, 1, 2, 3, 4, 5, 6, 7, 8, 9, 10, 11, 12, 13, 14, 15, 16, 17, 18, 19, 20, 21, 22, 23, 24, 25, 26, 27, 28, 29, 30, 31, 32, 33, 34, 35, 36, 37, 38, 39, 40, 41, 42, 43, 44, 45, 46, 47, 48, 49, 50, 51] rfl
        have hD := hD.sub (ws' := (kwA ad cI cZ K ++ kwA am cI cZ K)) [0, 1, 2, 3, 4, 5, 6, 7, 8, 9, 10, 11, 12, 13, 14, 15, 16, 17, 18, 19, 20, 21, 22, 23, 24, 25, 26, 27, 28, 29, 30, 31, 32, 33, 34, 35, 36, 37, 38, 39, 40, 41, 42, 43, 44, 45, 46, 47, 48, 49, 50, 51] rfl rfl
        refine lv_icmp_ne (tgt := 63) hx hb dL_areAlike_43 (by decide) (fun c_4 => ?_) (fun c_4 => ?_)
        · skip
          have c_4 : ¬ lAt K (nI 0) = lAt K (nI 0) := c_4
          exact absurd rfl c_4
        · skip
          have c_4 : lAt K (nI 0) = lAt K (nI 0) := c_4
          refine lv_aload_n hx hb dL_areAlike_46 rfl (lv_at hl 0 rfl) ?_
          refine lv_iconst (v := nI 2) hx hb dL_areAlike_47 (by decide) ?_
          refine zy_S (As := [.ref (ad 0), .int (nI 2)]) (rest := []) (wr := (kwA am cI cZ K)) ⟨hx, hb, hml, hown, hts⟩ (kL_queueAt l hl9 D cI cZ ad K _ (nI 2) ) (vx_cwSW 2 hts gL_areAlike_L_queueAt rfl rfl rfl (by decide +kernel) ⟨(Nat.le_of_ble_eq_true rfl), (Nat.le_of_ble_eq_true rfl)⟩) hK hP hD hS hA hE hN [0, 1, 2, 3, 4, 5, 6, 7, 8, 9, 10, 11, 12, 13, 14, 15, 16, 17, 18, 19, 20, 21, 22, 23, 24, 25] [26, 27, 28, 29, 30, 31, 32, 33, 34, 35, 36, 37, 38, 39, 40, 41, 42, 43, 44, 45, 46, 47, 48, 49, 50, 51] rfl rfl rfl rfl rfl (by decide) rfl hl.1 rfl (Nat.le_of_ble_eq_true rfl) dL_areAlike_48 ⟨(Nat.le_of_ble_eq_true rfl), (Nat.le_of_ble_eq_true rfl)⟩ (fun H locs hP hD hS => ?_)
          have hP := hP.sub (ws' := (kwA ad cI cZ K ++ kwA am cI cZ K)) [26, 27, 28, 29, 30, 31, 32, 33, 34, 35, 36, 37, 38, 39, 40, 41, 42, 43, 44, 45, 46, 47, 48, 49, 50, 51, 0, 1, 2, 3, 4, 5, 6, 7, 8, 9, 10, 11, 12, 13, 14, 15, 16, 17, 18, 19, 20, 21, 22, 23, 24, 25] rfl
          have hD := hD.sub (ws' := (kwA ad cI cZ K ++ kwA am cI cZ K)) [26, 27, 28, 29, 30, 31, 32, 33, 34, 35, 36, 37, 38, 39, 40, 41, 42, 43, 44, 45, 46, 47, 48, 49, 50, 51, 0, 1, 2, 3, 4, 5, 6, 7, 8, 9, 10, 11, 12, 13, 14, 15, 16, 17, 18, 19, 20, 21, 22, 23, 24, 25] rfl rfl
          refine lv_aload_n hx hb dL_areAlike_51 rfl (lv_at hl 1 rfl) ?_
          refine lv_iconst (v := nI 2) hx hb dL_areAlike_52 (by decide) ?_
          refine zy_S (As := [.ref (am 0), .int (nI 2)]) (rest := [.int (lAt K (nI 2))]) (wr := (kwA ad cI cZ K)) ⟨hx, hb, hml, hown, hts⟩ (kL_queueAt l hl9 D cI cZ am K _ (nI 2) ) (vx_cwSW 2 hts gL_areAlike_L_queueAt rfl rfl rfl (by decide +kernel) ⟨(Nat.le_of_ble_eq_true rfl), (Nat.le_of_ble_eq_true rfl)⟩) hK hP hD hS hA hE hN [26, 27, 28, 29, 30, 31, 32, 33, 34, 35, 36, 37, 38, 39, 40, 41, 42, 43, 44, 45, 46, 47, 48, 49, 50, 51] [0, 1, 2, 3, 4, 5, 6, 7, 8, 9, 10, 11, 12, 13, 14, 15, 16, 17, 18, 19, 20, 21, 22, 23, 24, 25] rfl rfl rfl rfl rfl (by decide) rfl hl.1 rfl (Nat.le_of_ble_eq_true rfl) dL_areAlike_53 ⟨(Nat.le_of_ble_eq_true rfl), (Nat.le_of_ble_eq_true rfl)⟩ (fun H locs hP hD hS => ?_)
          have hP := hP.sub (ws' := (kwA ad cI cZ K ++ kwA am cI cZ K)) [0, 1, 2, 3, 4, 5, 6, 7, 8, 9, 10, 11, 12, 13, 14, 15, 16, 17, 18, 19, 20, 21, 22, 23, 24, 25, 26, 27, 28, 29, 30, 31, 32, 33, 34, 35, 36, 37, 38, 39, 40, 41, 42, 43, 44, 45, 46, 47, 48, 49, 50, 51] rfl
          have hD := hD.sub (ws' := (kwA ad cI cZ K ++ kwA am cI cZ K)) [0, 1, 2, 3, 4, 5, 6, 7, 8, 9, 10, 11, 12, 13, 14, 15, 16, 17, 18, 19, 20, 21, 22, 23, 24, 25, 26, 27, 28, 29, 30, 31, 32, 33, 34, 35, 36, 37, 38, 39, 40, 41, 42, 43, 44, 45, 46, 47, 48, 49, 50, 51] rfl rfl
          refine lv_icmp_ne (tgt := 63) hx hb dL_areAlike_56 (by decide) (fun c_5 => ?_) (fun c_5 => ?_)
          · skip
            have c_5 : ¬ lAt K (nI 2) = lAt K (nI 2) := c_5
            exact absurd rfl c_5
          · skip
            have c_5 : lAt K (nI 2) = lAt K (nI 2) := c_5
            refine lv_iconst (v := nI 1) hx hb dL_areAlike_59 (by decide) ?_
            refine lv_goto (tgt := 64) hx hb dL_areAlike_60 (by decide) ?_
            refine lv_istore_n (lv' := [(2, .int (nI 1)), (0, .ref (ad 0)), (1, .ref (am 0))]) hx hb dL_areAlike_64 rfl hl (by decide) rfl (fun ls hl => ?_)
            refine lv_iconst (v := nI 0) hx hb dL_areAlike_65 (by decide) ?_
            refine lv_istore_n (lv' := [(3, .int (nI 0)), (2, .int (nI 1)), (0, .ref (ad 0)), (1, .ref (am 0))]) hx hb dL_areAlike_66 rfl hl (by decide) rfl (fun ls hl => ?_)
            have lp_a : ∀ (n i : Nat), 0 ≤ i → i ≤ 8 → 8 - i < n → ∀ (H : Heap) (locs : List Loc), va_P D vwCl (kwA ad cI cZ K ++ kwA am cI cZ K) H → va_D A (kwA ad cI cZ K ++ kwA am cI cZ K) → va_S A s.heap H locs → ∀ ls : Array Slot, lv_has ls 4 [(3, .int (nI i)), (2, .int (nI 1)), (0, .ref (ad 0)), (1, .ref (am 0))] → W pP l e ({ frames := 8, cells := 4, slots := 24, locals := 126 } : Room) s m ([.ref (ad 0), .ref (am 0)] : List Value).toArray below meth c H locs 4 24 (MQ below (va_Qi (fun r (_ : Unit) => r = nI 1) (fun _ => zPo D (zTy cI cZ) A (kwA ad cI cZ K ++ kwA am cI cZ K)) A) ([.ref (ad 0), .ref (am 0)] : List Value).toArray s 4 24 A) (F0 m 67 ls []) := by
              intro n
              induction n with
              | zero => intro i _ _ h; exact absurd h (Nat.not_lt_zero _)
              | succ n ih_a =>
                intro i hlo_a hin_a hdn_a  H locs hP hD hS ls hl
                refine lv_iload_n hx hb dL_areAlike_67 rfl (lv_at hl 0 rfl) ?_
                refine lv_bipush (v := nI 8) hx hb dL_areAlike_68 (by decide) ?_
                refine lv_icmp_ge (tgt := 115) hx hb dL_areAlike_70 (by decide) (fun c_6 => ?_) (fun c_6 => ?_)
                · skip
                  have c_6 := (nI_leI (a := 8) (b := i) (by omega) (by omega)).mp c_6
                  have hi8 : i = 8 := by omega
                  subst hi8
                  refine lv_iconst (v := nI 0) hx hb dL_areAlike_115 (by decide) ?_
                  refine lv_istore_n (lv' := [(3, .int (nI 0)), (2, .int (nI 1)), (0, .ref (ad 0)), (1, .ref (am 0))]) hx hb dL_areAlike_116 rfl hl (by decide) rfl (fun ls hl => ?_)
                  have lp_b : ∀ (n j : Nat), 0 ≤ j → j ≤ 60 → 60 - j < n → ∀ (H : Heap) (locs : List Loc), va_P D vwCl (kwA ad cI cZ K ++ kwA am cI cZ K) H → va_D A (kwA ad cI cZ K ++ kwA am cI cZ K) → va_S A s.heap H locs → ∀ ls : Array Slot, lv_has ls 4 [(3, .int (nI j)), (2, .int (nI 1)), (0, .ref (ad 0)), (1, .ref (am 0))] → W pP l e ({ frames := 8, cells := 4, slots := 24, locals := 126 } : Room) s m ([.ref (ad 0), .ref (am 0)] : List Value).toArray below meth c H locs 4 24 (MQ below (va_Qi (fun r (_ : Unit) => r = nI 1) (fun _ => zPo D (zTy cI cZ) A (kwA ad cI cZ K ++ kwA am cI cZ K)) A) ([.ref (ad 0), .ref (am 0)] : List Value).toArray s 4 24 A) (F0 m 117 ls []) := by
                    intro n
                    induction n with
                    | zero => intro j _ _ h; exact absurd h (Nat.not_lt_zero _)
                    | succ n ih_b =>
                      intro j hlo_b hin_b hdn_b  H locs hP hD hS ls hl
                      refine lv_iload_n hx hb dL_areAlike_117 rfl (lv_at hl 0 rfl) ?_
                      refine lv_bipush (v := nI 60) hx hb dL_areAlike_118 (by decide) ?_
                      refine lv_icmp_ge (tgt := 165) hx hb dL_areAlike_120 (by decide) (fun c_7 => ?_) (fun c_7 => ?_)
                      · skip
                        have c_7 := (nI_leI (a := 60) (b := j) (by omega) (by omega)).mp c_7
                        have hj8 : j = 60 := by omega
                        subst hj8
                        refine lv_iload_n hx hb dL_areAlike_165 rfl (lv_at hl 1 rfl) ?_
                        have eR9 : nI 1 = nI 1 := rfl
                        exact W.zret (v := nI 1) hx hb hr rfl (fun t ht hW => ⟨⟨nI 1, (), rfl, eR9, by rw [ht]; exact hP, va_K.moved hW.alike hK, hD⟩, hS.F ht⟩) hS.2.2 dL_areAlike_166
                      · skip
                        have c_7 : ¬ 60 ≤ j := fun h => c_7 ((nI_leI (a := 60) (b := j) (by omega) (by omega)).mpr h)
                        refine lv_iload_n hx hb dL_areAlike_123 rfl (lv_at hl 1 rfl) ?_
                        refine lv_if_eq (tgt := 165) hx hb dL_areAlike_124 (by decide) (fun c_8 => ?_) (fun c_8 => ?_)
                        · skip
                          exact absurd c_8 (by decide)
                        · skip
                          refine lv_aload_n hx hb dL_areAlike_127 rfl (lv_at hl 2 rfl) ?_
                          refine lv_iload_n hx hb dL_areAlike_128 rfl (lv_at hl 0 rfl) ?_
                          refine zq_rV (As := [.int (nI j)]) (rest := []) ⟨hx, hb, hml, hown, hts⟩ (kQ_state l D cI cZ ad K j (by omega)) (cwV 1 hts gL_areAlike_X5_state rfl rfl rfl (by decide +kernel) ⟨(Nat.le_of_ble_eq_true rfl), (Nat.le_of_ble_eq_true rfl)⟩) hK (hP.sub (ws' := (kwA ad cI cZ K)) [0, 1, 2, 3, 4, 5, 6, 7, 8, 9, 10, 11, 12, 13, 14, 15, 16, 17, 18, 19, 20, 21, 22, 23, 24, 25] rfl) hE.1 (ci := 5) (q0 := 0) rfl rfl rfl rfl hl.1 rfl (Nat.le_of_ble_eq_true rfl) dL_areAlike_129 ⟨(Nat.le_of_ble_eq_true rfl), (Nat.le_of_ble_eq_true rfl)⟩ ?_
                          refine lv_aload_n hx hb dL_areAlike_132 rfl (lv_at hl 3 rfl) ?_
                          refine lv_iload_n hx hb dL_areAlike_133 rfl (lv_at hl 0 rfl) ?_
                          refine zq_rV (As := [.int (nI j)]) (rest := [.int (sState K j)]) ⟨hx, hb, hml, hown, hts⟩ (kQ_state l D cI cZ am K j (by omega)) (cwV 1 hts gL_areAlike_X5_state rfl rfl rfl (by decide +kernel) ⟨(Nat.le_of_ble_eq_true rfl), (Nat.le_of_ble_eq_true rfl)⟩) hK (hP.sub (ws' := (kwA am cI cZ K)) [26, 27, 28, 29, 30, 31, 32, 33, 34, 35, 36, 37, 38, 39, 40, 41, 42, 43, 44, 45, 46, 47, 48, 49, 50, 51] rfl) hE.1 (ci := 5) (q0 := 0) rfl rfl rfl rfl hl.1 rfl (Nat.le_of_ble_eq_true rfl) dL_areAlike_134 ⟨(Nat.le_of_ble_eq_true rfl), (Nat.le_of_ble_eq_true rfl)⟩ ?_
                          refine lv_icmp_ne (tgt := 157) hx hb dL_areAlike_137 (by decide) (fun c_9 => ?_) (fun c_9 => ?_)
                          · skip
                            have c_9 : ¬ sState K j = sState K j := c_9
                            exact absurd rfl c_9
                          · skip
                            have c_9 : sState K j = sState K j := c_9
                            refine lv_aload_n hx hb dL_areAlike_140 rfl (lv_at hl 2 rfl) ?_
                            refine lv_iload_n hx hb dL_areAlike_141 rfl (lv_at hl 0 rfl) ?_
                            refine zq_rV (As := [.int (nI j)]) (rest := []) ⟨hx, hb, hml, hown, hts⟩ (kQ_owner l D cI cZ ad K j (by omega)) (cwV 1 hts gL_areAlike_X5_owner rfl rfl rfl (by decide +kernel) ⟨(Nat.le_of_ble_eq_true rfl), (Nat.le_of_ble_eq_true rfl)⟩) hK (hP.sub (ws' := (kwA ad cI cZ K)) [0, 1, 2, 3, 4, 5, 6, 7, 8, 9, 10, 11, 12, 13, 14, 15, 16, 17, 18, 19, 20, 21, 22, 23, 24, 25] rfl) hE.1 (ci := 5) (q0 := 0) rfl rfl rfl rfl hl.1 rfl (Nat.le_of_ble_eq_true rfl) dL_areAlike_142 ⟨(Nat.le_of_ble_eq_true rfl), (Nat.le_of_ble_eq_true rfl)⟩ ?_
                            refine lv_aload_n hx hb dL_areAlike_145 rfl (lv_at hl 3 rfl) ?_
                            refine lv_iload_n hx hb dL_areAlike_146 rfl (lv_at hl 0 rfl) ?_
                            refine zq_rV (As := [.int (nI j)]) (rest := [.int (K 19 j)]) ⟨hx, hb, hml, hown, hts⟩ (kQ_owner l D cI cZ am K j (by omega)) (cwV 1 hts gL_areAlike_X5_owner rfl rfl rfl (by decide +kernel) ⟨(Nat.le_of_ble_eq_true rfl), (Nat.le_of_ble_eq_true rfl)⟩) hK (hP.sub (ws' := (kwA am cI cZ K)) [26, 27, 28, 29, 30, 31, 32, 33, 34, 35, 36, 37, 38, 39, 40, 41, 42, 43, 44, 45, 46, 47, 48, 49, 50, 51] rfl) hE.1 (ci := 5) (q0 := 0) rfl rfl rfl rfl hl.1 rfl (Nat.le_of_ble_eq_true rfl) dL_areAlike_147 ⟨(Nat.le_of_ble_eq_true rfl), (Nat.le_of_ble_eq_true rfl)⟩ ?_
                            refine lv_icmp_ne (tgt := 157) hx hb dL_areAlike_150 (by decide) (fun c_10 => ?_) (fun c_10 => ?_)
                            · skip
                              have c_10 : ¬ K 19 j = K 19 j := c_10
                              exact absurd rfl c_10
                            · skip
                              have c_10 : K 19 j = K 19 j := c_10
                              refine lv_iconst (v := nI 1) hx hb dL_areAlike_153 (by decide) ?_
                              refine lv_goto (tgt := 158) hx hb dL_areAlike_154 (by decide) ?_
                              refine lv_istore_n (lv' := [(2, .int (nI 1)), (3, .int (nI j)), (0, .ref (ad 0)), (1, .ref (am 0))]) hx hb dL_areAlike_158 rfl hl (by decide) rfl (fun ls hl => ?_)
                              refine lv_iinc (v := nI (j + 1)) (lv' := [(3, .int (nI (j + 1))), (2, .int (nI 1)), (0, .ref (ad 0)), (1, .ref (am 0))]) hx hb dL_areAlike_159 hl (k := 1) rfl ((show nI j + Int32.ofInt 1 = nI j + nI 1 from rfl).trans (nI_add _ _)) (by decide) rfl (fun ls hl => ?_)
                              refine lv_goto (tgt := 117) hx hb dL_areAlike_162 (by decide) ?_
                              exact ih_b (j + 1) (by omega) (by omega) (by omega)  _ _ hP hD hS ls (lv_sub hl [0, 1, 2, 3] rfl)
                  exact lp_b (60 - 0 + 1) 0 (by omega) (by omega) (by omega)  _ _ hP hD hS ls (lv_sub hl [0, 1, 2, 3] rfl)
                · skip
                  have c_6 : ¬ 8 ≤ i := fun h => c_6 ((nI_leI (a := 8) (b := i) (by omega) (by omega)).mpr h)
                  refine lv_iload_n hx hb dL_areAlike_73 rfl (lv_at hl 1 rfl) ?_
                  refine lv_if_eq (tgt := 115) hx hb dL_areAlike_74 (by decide) (fun c_11 => ?_) (fun c_11 => ?_)
                  · skip
                    exact absurd c_11 (by decide)
                  · skip
                    refine lv_aload_n hx hb dL_areAlike_77 rfl (lv_at hl 2 rfl) ?_
                    refine lv_iload_n hx hb dL_areAlike_78 rfl (lv_at hl 0 rfl) ?_
                    refine zq_rV (As := [.int (nI i)]) (rest := []) ⟨hx, hb, hml, hown, hts⟩ (kQ_spent l D cI cZ ad K i (by omega)) (cwV 1 hts gL_areAlike_X5_spent rfl rfl rfl (by decide +kernel) ⟨(Nat.le_of_ble_eq_true rfl), (Nat.le_of_ble_eq_true rfl)⟩) hK (hP.sub (ws' := (kwA ad cI cZ K)) [0, 1, 2, 3, 4, 5, 6, 7, 8, 9, 10, 11, 12, 13, 14, 15, 16, 17, 18, 19, 20, 21, 22, 23, 24, 25] rfl) hE.1 (ci := 5) (q0 := 0) rfl rfl rfl rfl hl.1 rfl (Nat.le_of_ble_eq_true rfl) dL_areAlike_79 ⟨(Nat.le_of_ble_eq_true rfl), (Nat.le_of_ble_eq_true rfl)⟩ ?_
                    refine lv_aload_n hx hb dL_areAlike_82 rfl (lv_at hl 3 rfl) ?_
                    refine lv_iload_n hx hb dL_areAlike_83 rfl (lv_at hl 0 rfl) ?_
                    refine zq_rV (As := [.int (nI i)]) (rest := [.int (K 1 i)]) ⟨hx, hb, hml, hown, hts⟩ (kQ_spent l D cI cZ am K i (by omega)) (cwV 1 hts gL_areAlike_X5_spent rfl rfl rfl (by decide +kernel) ⟨(Nat.le_of_ble_eq_true rfl), (Nat.le_of_ble_eq_true rfl)⟩) hK (hP.sub (ws' := (kwA am cI cZ K)) [26, 27, 28, 29, 30, 31, 32, 33, 34, 35, 36, 37, 38, 39, 40, 41, 42, 43, 44, 45, 46, 47, 48, 49, 50, 51] rfl) hE.1 (ci := 5) (q0 := 0) rfl rfl rfl rfl hl.1 rfl (Nat.le_of_ble_eq_true rfl) dL_areAlike_84 ⟨(Nat.le_of_ble_eq_true rfl), (Nat.le_of_ble_eq_true rfl)⟩ ?_
                    refine lv_icmp_ne (tgt := 107) hx hb dL_areAlike_87 (by decide) (fun c_12 => ?_) (fun c_12 => ?_)
                    · skip
                      have c_12 : ¬ K 1 i = K 1 i := c_12
                      exact absurd rfl c_12
                    · skip
                      have c_12 : K 1 i = K 1 i := c_12
                      refine lv_aload_n hx hb dL_areAlike_90 rfl (lv_at hl 2 rfl) ?_
                      refine lv_iload_n hx hb dL_areAlike_91 rfl (lv_at hl 0 rfl) ?_
                      refine zq_rV (As := [.int (nI i)]) (rest := []) ⟨hx, hb, hml, hown, hts⟩ (kQ_lapses l D cI cZ ad K i (by omega)) (cwV 1 hts gL_areAlike_X5_lapses rfl rfl rfl (by decide +kernel) ⟨(Nat.le_of_ble_eq_true rfl), (Nat.le_of_ble_eq_true rfl)⟩) hK (hP.sub (ws' := (kwA ad cI cZ K)) [0, 1, 2, 3, 4, 5, 6, 7, 8, 9, 10, 11, 12, 13, 14, 15, 16, 17, 18, 19, 20, 21, 22, 23, 24, 25] rfl) hE.1 (ci := 5) (q0 := 0) rfl rfl rfl rfl hl.1 rfl (Nat.le_of_ble_eq_true rfl) dL_areAlike_92 ⟨(Nat.le_of_ble_eq_true rfl), (Nat.le_of_ble_eq_true rfl)⟩ ?_
                      refine lv_aload_n hx hb dL_areAlike_95 rfl (lv_at hl 3 rfl) ?_
                      refine lv_iload_n hx hb dL_areAlike_96 rfl (lv_at hl 0 rfl) ?_
                      refine zq_rV (As := [.int (nI i)]) (rest := [.int (kLapR K i)]) ⟨hx, hb, hml, hown, hts⟩ (kQ_lapses l D cI cZ am K i (by omega)) (cwV 1 hts gL_areAlike_X5_lapses rfl rfl rfl (by decide +kernel) ⟨(Nat.le_of_ble_eq_true rfl), (Nat.le_of_ble_eq_true rfl)⟩) hK (hP.sub (ws' := (kwA am cI cZ K)) [26, 27, 28, 29, 30, 31, 32, 33, 34, 35, 36, 37, 38, 39, 40, 41, 42, 43, 44, 45, 46, 47, 48, 49, 50, 51] rfl) hE.1 (ci := 5) (q0 := 0) rfl rfl rfl rfl hl.1 rfl (Nat.le_of_ble_eq_true rfl) dL_areAlike_97 ⟨(Nat.le_of_ble_eq_true rfl), (Nat.le_of_ble_eq_true rfl)⟩ ?_
                      refine lv_icmp_ne (tgt := 107) hx hb dL_areAlike_100 (by decide) (fun c_13 => ?_) (fun c_13 => ?_)
                      · skip
                        have c_13 : ¬ kLapR K i = kLapR K i := c_13
                        exact absurd rfl c_13
                      · skip
                        have c_13 : kLapR K i = kLapR K i := c_13
                        refine lv_iconst (v := nI 1) hx hb dL_areAlike_103 (by decide) ?_
                        refine lv_goto (tgt := 108) hx hb dL_areAlike_104 (by decide) ?_
                        refine lv_istore_n (lv' := [(2, .int (nI 1)), (3, .int (nI i)), (0, .ref (ad 0)), (1, .ref (am 0))]) hx hb dL_areAlike_108 rfl hl (by decide) rfl (fun ls hl => ?_)
                        refine lv_iinc (v := nI (i + 1)) (lv' := [(3, .int (nI (i + 1))), (2, .int (nI 1)), (0, .ref (ad 0)), (1, .ref (am 0))]) hx hb dL_areAlike_109 hl (k := 1) rfl ((show nI i + Int32.ofInt 1 = nI i + nI 1 from rfl).trans (nI_add _ _)) (by decide) rfl (fun ls hl => ?_)
                        refine lv_goto (tgt := 67) hx hb dL_areAlike_112 (by decide) ?_
                        exact ih_a (i + 1) (by omega) (by omega) (by omega)  _ _ hP hD hS ls (lv_sub hl [0, 1, 2, 3] rfl)
            exact lp_a (8 - 0 + 1) 0 (by omega) (by omega) (by omega)  _ _ hP hD hS ls (lv_sub hl [0, 1, 2, 3] rfl)
set_option maxHeartbeats 8000000 in
set_option maxRecDepth 100000 in
theorem kL_areSeatsSo (l : Launch) (D : va_G) (cI cZ : ClassId) (ad : Nat → Nat) (K : kS) (m9 : Nat) (t9 : Nat) (hm1 : 1 ≤ m9) (hm2 : m9 ≤ 4) (ht8 : t9 ≤ 170) (hts9 : K 22 0 = nI t9) (hse : bSeats K t9) (hho : bHolds K) (hfi : bFirst K m9) (hct : bCount K) : Met l yL_areSeatsSo wsL_areSeatsSo ({ frames := 3, cells := 0, slots := 0, locals := 68 }) (va_Pc [.ref (ad 0), .int (nI m9)] (zRe D (zTy cI cZ) (kwA ad cI cZ K))) (vp_Si (fun r => r = nI 1)) 0 0 (fun _ => False) := by
  refine Met.ofW (cc := cL_areSeatsSo) (maxL := 11) (ret := (some .boolean)) (by decide) rfl ?_
  intro pP e s m args below meth c s₁ B hml hv
  obtain ⟨rfl, hP, hK, hNW⟩ := hv
  have hx := B.exec
  have hb := B.bytes
  have hr := B.returns
  have hts := atoms_spec (ws := wsL_areSeatsSo) B.pre
  have hown : s.vm.findClass RL = some m.cls := findClass_of_methodNamed B.named
  have hE : (∀ w ∈ zNW, va_Nw w s) ∧ True := ⟨hNW, trivial⟩
  have hl := lv_entry ([.ref (ad 0), .int (nI m9)]) (n := 11) (Nat.le_of_ble_eq_true rfl)
  rw [lg_entry_eq]
  generalize (lg_sl ([.ref (ad 0), .int (nI m9)]) ++ List.replicate (11 - (lg_sl ([.ref (ad 0), .int (nI m9)])).length) Slot.unset).toArray = ls at hl ⊢
  have hl : lv_has ls 11 [(0, .ref (ad 0)), (1, .int (nI m9))] := hl
  have hb1 : gHc K 60 ≤ 60 := zcnt_le _ _
  have hb2 : gHo K 8 ≤ 8 := zcnt_le _ _
  obtain ⟨hc1, hc2⟩ := hct
  refine lv_iconst (v := nI 0) hx hb dL_areSeatsSo_0 (by decide) ?_
  refine lv_istore_n (lv' := [(2, .int (nI 0)), (0, .ref (ad 0)), (1, .int (nI m9))]) hx hb dL_areSeatsSo_1 rfl hl (by decide) rfl (fun ls hl => ?_)
  refine lv_iconst (v := nI 0) hx hb dL_areSeatsSo_2 (by decide) ?_
  refine lv_istore_n (lv' := [(3, .int (nI 0)), (2, .int (nI 0)), (0, .ref (ad 0)), (1, .int (nI m9))]) hx hb dL_areSeatsSo_3 rfl hl (by decide) rfl (fun ls hl => ?_)
  refine lv_iconst (v := nI 0) hx hb dL_areSeatsSo_4 (by decide) ?_
  refine lv_istore (lv' := [(4, .int (nI 0)), (3, .int (nI 0)), (2, .int (nI 0)), (0, .ref (ad 0)), (1, .int (nI m9))]) hx hb dL_areSeatsSo_5 hl (by decide) rfl (fun ls hl => ?_)
  have lp_a : ∀ (n i : Nat), 0 ≤ i → i ≤ 60 → 60 - i < n → ∀ ls : Array Slot, lv_has ls 11 [(4, .int (nI i)), (3, .int (nI 0)), (2, .int (nI (gHc K i))), (0, .ref (ad 0)), (1, .int (nI m9))] → W pP l e ({ frames := 3, cells := 0, slots := 0, locals := 68 } : Room) s m ([.ref (ad 0), .int (nI m9)] : List Value).toArray below meth c s.heap [] 0 0 (MQ below (vp_Si (fun r => r = nI 1)) ([.ref (ad 0), .int (nI m9)] : List Value).toArray s 0 0 (fun _ => False)) (F0 m 7 ls []) := by
    intro n
    induction n with
    | zero => intro i _ _ h; exact absurd h (Nat.not_lt_zero _)
    | succ n ih_a =>
      intro i hlo_a hin_a hdn_a  ls hl
      refine lv_iload hx hb dL_areSeatsSo_7 (lv_at hl 0 rfl) ?_
      refine lv_bipush (v := nI 60) hx hb dL_areSeatsSo_9 (by decide) ?_
      refine lv_icmp_ge (tgt := 203) hx hb dL_areSeatsSo_11 (by decide) (fun c_1 => ?_) (fun c_1 => ?_)
      · skip
        have c_1 := (nI_leI (a := 60) (b := i) (by omega) (by omega)).mp c_1
        have hi8 : i = 60 := by omega
        subst hi8
        refine lv_iconst (v := nI 0) hx hb dL_areSeatsSo_203 (by decide) ?_
        refine lv_istore (lv' := [(4, .int (nI 0)), (3, .int (nI 0)), (2, .int (nI (gHc K 60))), (0, .ref (ad 0)), (1, .int (nI m9))]) hx hb dL_areSeatsSo_204 hl (by decide) rfl (fun ls hl => ?_)
        have lp_b : ∀ (n p : Nat), 0 ≤ p → p ≤ 8 → 8 - p < n → ∀ ls : Array Slot, lv_has ls 11 [(4, .int (nI p)), (3, .int (nI (gHo K p))), (2, .int (nI (gHc K 60))), (0, .ref (ad 0)), (1, .int (nI m9))] → W pP l e ({ frames := 3, cells := 0, slots := 0, locals := 68 } : Room) s m ([.ref (ad 0), .int (nI m9)] : List Value).toArray below meth c s.heap [] 0 0 (MQ below (vp_Si (fun r => r = nI 1)) ([.ref (ad 0), .int (nI m9)] : List Value).toArray s 0 0 (fun _ => False)) (F0 m 206 ls []) := by
          intro n
          induction n with
          | zero => intro p _ _ h; exact absurd h (Nat.not_lt_zero _)
          | succ n ih_b =>
            intro p hlo_b hin_b hdn_b  ls hl
            refine lv_iload hx hb dL_areSeatsSo_206 (lv_at hl 0 rfl) ?_
            refine lv_bipush (v := nI 8) hx hb dL_areSeatsSo_208 (by decide) ?_
            refine lv_icmp_ge (tgt := 276) hx hb dL_areSeatsSo_210 (by decide) (fun c_2 => ?_) (fun c_2 => ?_)
            · skip
              have c_2 := (nI_leI (a := 8) (b := p) (by omega) (by omega)).mp c_2
              have hp8 : p = 8 := by omega
              subst hp8
              refine lv_iconst (v := nI 0) hx hb dL_areSeatsSo_276 (by decide) ?_
              refine lv_istore (lv' := [(4, .int (nI 0)), (3, .int (nI (gHo K 8))), (2, .int (nI (gHc K 60))), (0, .ref (ad 0)), (1, .int (nI m9))]) hx hb dL_areSeatsSo_277 hl (by decide) rfl (fun ls hl => ?_)
              have lp_c : ∀ (n r : Nat), 0 ≤ r → r ≤ 6 → 6 - r < n → ∀ ls : Array Slot, lv_has ls 11 [(4, .int (nI r)), (3, .int (nI (gHo K 8))), (2, .int (nI (gHc K 60))), (0, .ref (ad 0)), (1, .int (nI m9))] → W pP l e ({ frames := 3, cells := 0, slots := 0, locals := 68 } : Room) s m ([.ref (ad 0), .int (nI m9)] : List Value).toArray below meth c s.heap [] 0 0 (MQ below (vp_Si (fun r => r = nI 1)) ([.ref (ad 0), .int (nI m9)] : List Value).toArray s 0 0 (fun _ => False)) (F0 m 279 ls []) := by
                intro n
                induction n with
                | zero => intro r _ _ h; exact absurd h (Nat.not_lt_zero _)
                | succ n ih_c =>
                  intro r hlo_c hin_c hdn_c  ls hl
                  refine lv_iload hx hb dL_areSeatsSo_279 (lv_at hl 0 rfl) ?_
                  refine lv_bipush (v := nI 6) hx hb dL_areSeatsSo_281 (by decide) ?_
                  refine lv_icmp_ge (tgt := 406) hx hb dL_areSeatsSo_283 (by decide) (fun c_3 => ?_) (fun c_3 => ?_)
                  · skip
                    have c_3 := (nI_leI (a := 6) (b := r) (by omega) (by omega)).mp c_3
                    have hr8 : r = 6 := by omega
                    subst hr8
                    refine lv_iload_n hx hb dL_areSeatsSo_406 rfl (lv_at hl 2 rfl) ?_
                    refine lv_iload_n hx hb dL_areSeatsSo_407 rfl (lv_at hl 1 rfl) ?_
                    refine lv_icmp_lt (tgt := 422) hx hb dL_areSeatsSo_408 (by decide) (fun c_4 => ?_) (fun c_4 => ?_)
                    · skip
                      have c_4 := (nI_ltI (a := (gHc K 60)) (b := (gHo K 8)) (by omega) (by omega)).mp c_4
                      omega
                    · skip
                      have c_4 : ¬ (gHc K 60) < (gHo K 8) := fun h => c_4 ((nI_ltI (a := (gHc K 60)) (b := (gHo K 8)) (by omega) (by omega)).mpr h)
                      refine lv_iload_n hx hb dL_areSeatsSo_411 rfl (lv_at hl 2 rfl) ?_
                      refine lv_iconst (v := nI 4) hx hb dL_areSeatsSo_412 (by decide) ?_
                      refine lv_iload_n hx hb dL_areSeatsSo_413 rfl (lv_at hl 1 rfl) ?_
                      refine lv_imul hx hb dL_areSeatsSo_414 ?_
                      refine zz_top (y := nI (4 * (gHo K 8))) ((pk_mul 4 (gHo K 8)).trans (congrArg nI (by first | rfl | omega | exact Nat.mul_comm _ _))) ?_
                      refine lv_icmp_gt (tgt := 422) hx hb dL_areSeatsSo_415 (by decide) (fun c_5 => ?_) (fun c_5 => ?_)
                      · skip
                        have c_5 := (nI_ltI (a := (4 * (gHo K 8))) (b := (gHc K 60)) (by omega) (by omega)).mp c_5
                        omega
                      · skip
                        have c_5 : ¬ (4 * (gHo K 8)) < (gHc K 60) := fun h => c_5 ((nI_ltI (a := (4 * (gHo K 8))) (b := (gHc K 60)) (by omega) (by omega)).mpr h)
                        refine lv_iconst (v := nI 1) hx hb dL_areSeatsSo_418 (by decide) ?_
                        refine lv_goto (tgt := 423) hx hb dL_areSeatsSo_419 (by decide) ?_
                        exact W.zret (v := nI 1) hx hb hr rfl (fun t ht hW => ⟨_, rfl, rfl, ht⟩) (fun _ h => nomatch h) dL_areSeatsSo_423
                  · skip
                    have c_3 : ¬ 6 ≤ r := fun h => c_3 ((nI_leI (a := 6) (b := r) (by omega) (by omega)).mpr h)
                    refine lv_aload_n hx hb dL_areSeatsSo_286 rfl (lv_at hl 3 rfl) ?_
                    refine lv_iload hx hb dL_areSeatsSo_287 (lv_at hl 0 rfl) ?_
                    refine lv_iload_n hx hb dL_areSeatsSo_289 rfl (lv_at hl 4 rfl) ?_
                    refine zq_rV (As := [.int (nI r), .int (nI m9)]) (rest := []) ⟨hx, hb, hml, hown, hts⟩ (kQ_firstOpen l D cI cZ ad K r m9 (by omega) (by omega) (by omega)) (cwV 2 hts gL_areSeatsSo_X5_firstOpen rfl rfl rfl (by decide +kernel) ⟨(Nat.le_of_ble_eq_true rfl), (Nat.le_of_ble_eq_true rfl)⟩) hK hP hE.1 (ci := 5) (q0 := 0) rfl rfl rfl rfl hl.1 rfl (Nat.le_of_ble_eq_true rfl) dL_areSeatsSo_290 ⟨(Nat.le_of_ble_eq_true rfl), (Nat.le_of_ble_eq_true rfl)⟩ ?_
                    rcases hfi r (by omega) with hz | ⟨f, hz, hf1, hf2, hf3⟩
                    · skip
                      refine zz_top (y := (-1)) hz ?_
                      refine lv_istore (lv' := [(5, .int (-1)), (4, .int (nI r)), (3, .int (nI (gHo K 8))), (2, .int (nI (gHc K 60))), (0, .ref (ad 0)), (1, .int (nI m9))]) hx hb dL_areSeatsSo_293 hl (by decide) rfl (fun ls hl => ?_)
                      refine lv_iload hx hb dL_areSeatsSo_295 (lv_at hl 0 rfl) ?_
                      refine lv_iconst (v := (-1)) hx hb dL_areSeatsSo_297 (by decide) ?_
                      refine lv_icmp_eq (tgt := 310) hx hb dL_areSeatsSo_298 (by decide) (fun c_6 => ?_) (fun c_6 => ?_)
                      · skip
                        refine lv_iconst (v := nI 1) hx hb dL_areSeatsSo_310 (by decide) ?_
                        refine lv_goto (tgt := 315) hx hb dL_areSeatsSo_311 (by decide) ?_
                        refine lv_istore (lv' := [(6, .int (nI 1)), (5, .int (-1)), (4, .int (nI r)), (3, .int (nI (gHo K 8))), (2, .int (nI (gHc K 60))), (0, .ref (ad 0)), (1, .int (nI m9))]) hx hb dL_areSeatsSo_315 hl (by decide) rfl (fun ls hl => ?_)
                        refine lv_iconst (v := nI 0) hx hb dL_areSeatsSo_317 (by decide) ?_
                        refine lv_istore (lv' := [(7, .int (nI 0)), (6, .int (nI 1)), (5, .int (-1)), (4, .int (nI r)), (3, .int (nI (gHo K 8))), (2, .int (nI (gHc K 60))), (0, .ref (ad 0)), (1, .int (nI m9))]) hx hb dL_areSeatsSo_318 hl (by decide) rfl (fun ls hl => ?_)
                        refine lv_iload hx hb dL_areSeatsSo_320 (lv_at hl 0 rfl) ?_
                        refine lv_iload_n hx hb dL_areSeatsSo_322 rfl (lv_at hl 7 rfl) ?_
                        refine lv_icmp_ge (tgt := 369) hx hb dL_areSeatsSo_323 (by decide) (fun c_7 => ?_) (fun c_7 => ?_)
                        · skip
                          have c_7 := (nI_leI (a := m9) (b := 0) (by omega) (by omega)).mp c_7
                          omega
                        · skip
                          have c_7 : ¬ m9 ≤ 0 := fun h => c_7 ((nI_leI (a := m9) (b := 0) (by omega) (by omega)).mpr h)
                          refine lv_iload hx hb dL_areSeatsSo_326 (lv_at hl 2 rfl) ?_
                          refine lv_if_lt (tgt := 369) hx hb dL_areSeatsSo_328 (by decide) (fun c_8 => ?_) (fun c_8 => ?_)
                          · skip
                            refine lv_iload hx hb dL_areSeatsSo_369 (lv_at hl 1 rfl) ?_
                            refine lv_if_eq (tgt := 398) hx hb dL_areSeatsSo_371 (by decide) (fun c_9 => ?_) (fun c_9 => ?_)
                            · skip
                              exact absurd c_9 (by decide)
                            · skip
                              refine lv_iload hx hb dL_areSeatsSo_374 (lv_at hl 2 rfl) ?_
                              refine lv_if_le (tgt := 400) hx hb dL_areSeatsSo_376 (by decide) (fun c_10 => ?_) (fun c_10 => ?_)
                              · skip
                                refine lv_iinc (v := nI (r + 1)) (lv' := [(4, .int (nI (r + 1))), (7, .int (nI 0)), (6, .int (nI 1)), (5, .int (-1)), (3, .int (nI (gHo K 8))), (2, .int (nI (gHc K 60))), (0, .ref (ad 0)), (1, .int (nI m9))]) hx hb dL_areSeatsSo_400 hl (k := 3) rfl ((show nI r + Int32.ofInt 1 = nI r + nI 1 from rfl).trans (nI_add _ _)) (by decide) rfl (fun ls hl => ?_)
                                refine lv_goto (tgt := 279) hx hb dL_areSeatsSo_403 (by decide) ?_
                                exact ih_c (r + 1) (by omega) (by omega) (by omega)  ls (lv_sub hl [0, 4, 5, 6, 7] rfl)
                              · skip
                                exact absurd (by decide) c_10
                          · skip
                            exact absurd (by decide) c_8
                      · skip
                        exact absurd rfl c_6
                    · skip
                      refine zz_top (y := nI f) hz ?_
                      refine lv_istore (lv' := [(5, .int (nI f)), (4, .int (nI r)), (3, .int (nI (gHo K 8))), (2, .int (nI (gHc K 60))), (0, .ref (ad 0)), (1, .int (nI m9))]) hx hb dL_areSeatsSo_293 hl (by decide) rfl (fun ls hl => ?_)
                      refine lv_iload hx hb dL_areSeatsSo_295 (lv_at hl 0 rfl) ?_
                      refine lv_iconst (v := (-1)) hx hb dL_areSeatsSo_297 (by decide) ?_
                      refine lv_icmp_eq (tgt := 310) hx hb dL_areSeatsSo_298 (by decide) (fun c_11 => ?_) (fun c_11 => ?_)
                      · skip
                        have c_11 : nI f = (-1) := c_11
                        exact absurd c_11 (nI_nm1 (by omega))
                      · skip
                        have c_11 : ¬ nI f = (-1) := c_11
                        refine lv_iload hx hb dL_areSeatsSo_301 (lv_at hl 0 rfl) ?_
                        refine lv_iload_n hx hb dL_areSeatsSo_303 rfl (lv_at hl 5 rfl) ?_
                        refine lv_iadd hx hb dL_areSeatsSo_304 ?_
                        refine zz_top (y := nI (f + m9)) ((nI_add f m9).trans (congrArg nI (by omega))) ?_
                        refine lv_bipush (v := nI 10) hx hb dL_areSeatsSo_305 (by decide) ?_
                        refine lv_icmp_gt (tgt := 314) hx hb dL_areSeatsSo_307 (by decide) (fun c_12 => ?_) (fun c_12 => ?_)
                        · skip
                          have c_12 := (nI_ltI (a := 10) (b := (f + m9)) (by omega) (by omega)).mp c_12
                          omega
                        · skip
                          have c_12 : ¬ 10 < (f + m9) := fun h => c_12 ((nI_ltI (a := 10) (b := (f + m9)) (by omega) (by omega)).mpr h)
                          refine lv_iconst (v := nI 1) hx hb dL_areSeatsSo_310 (by decide) ?_
                          refine lv_goto (tgt := 315) hx hb dL_areSeatsSo_311 (by decide) ?_
                          refine lv_istore (lv' := [(6, .int (nI 1)), (5, .int (nI f)), (4, .int (nI r)), (3, .int (nI (gHo K 8))), (2, .int (nI (gHc K 60))), (0, .ref (ad 0)), (1, .int (nI m9))]) hx hb dL_areSeatsSo_315 hl (by decide) rfl (fun ls hl => ?_)
                          refine lv_iconst (v := nI 0) hx hb dL_areSeatsSo_317 (by decide) ?_
                          refine lv_istore (lv' := [(7, .int (nI 0)), (6, .int (nI 1)), (5, .int (nI f)), (4, .int (nI r)), (3, .int (nI (gHo K 8))), (2, .int (nI (gHc K 60))), (0, .ref (ad 0)), (1, .int (nI m9))]) hx hb dL_areSeatsSo_318 hl (by decide) rfl (fun ls hl => ?_)
                          have lp_d : ∀ (n k : Nat), 0 ≤ k → k ≤ m9 → m9 - k < n → ∀ ls : Array Slot, lv_has ls 11 [(7, .int (nI k)), (6, .int (nI 1)), (5, .int (nI f)), (4, .int (nI r)), (3, .int (nI (gHo K 8))), (2, .int (nI (gHc K 60))), (0, .ref (ad 0)), (1, .int (nI m9))] → W pP l e ({ frames := 3, cells := 0, slots := 0, locals := 68 } : Room) s m ([.ref (ad 0), .int (nI m9)] : List Value).toArray below meth c s.heap [] 0 0 (MQ below (vp_Si (fun r => r = nI 1)) ([.ref (ad 0), .int (nI m9)] : List Value).toArray s 0 0 (fun _ => False)) (F0 m 320 ls []) := by
                            intro n
                            induction n with
                            | zero => intro k _ _ h; exact absurd h (Nat.not_lt_zero _)
                            | succ n ih_d =>
                              intro k hlo_d hin_d hdn_d  ls hl
                              refine lv_iload hx hb dL_areSeatsSo_320 (lv_at hl 0 rfl) ?_
                              refine lv_iload_n hx hb dL_areSeatsSo_322 rfl (lv_at hl 7 rfl) ?_
                              refine lv_icmp_ge (tgt := 369) hx hb dL_areSeatsSo_323 (by decide) (fun c_13 => ?_) (fun c_13 => ?_)
                              · skip
                                have c_13 := (nI_leI (a := m9) (b := k) (by omega) (by omega)).mp c_13
                                refine lv_iload hx hb dL_areSeatsSo_369 (lv_at hl 1 rfl) ?_
                                refine lv_if_eq (tgt := 398) hx hb dL_areSeatsSo_371 (by decide) (fun c_14 => ?_) (fun c_14 => ?_)
                                · skip
                                  exact absurd c_14 (by decide)
                                · skip
                                  refine lv_iload hx hb dL_areSeatsSo_374 (lv_at hl 2 rfl) ?_
                                  refine lv_if_le (tgt := 400) hx hb dL_areSeatsSo_376 (by decide) (fun c_15 => ?_) (fun c_15 => ?_)
                                  · skip
                                    have c_15 := (nI_leI (a := f) (b := 0) (by omega) (by omega)).mp c_15
                                    refine lv_iinc (v := nI (r + 1)) (lv' := [(4, .int (nI (r + 1))), (7, .int (nI k)), (6, .int (nI 1)), (5, .int (nI f)), (3, .int (nI (gHo K 8))), (2, .int (nI (gHc K 60))), (0, .ref (ad 0)), (1, .int (nI m9))]) hx hb dL_areSeatsSo_400 hl (k := 3) rfl ((show nI r + Int32.ofInt 1 = nI r + nI 1 from rfl).trans (nI_add _ _)) (by decide) rfl (fun ls hl => ?_)
                                    refine lv_goto (tgt := 279) hx hb dL_areSeatsSo_403 (by decide) ?_
                                    exact ih_c (r + 1) (by omega) (by omega) (by omega)  ls (lv_sub hl [0, 4, 5, 6, 7] rfl)
                                  · skip
                                    have c_15 : ¬ f ≤ 0 := fun h => c_15 ((nI_leI (a := f) (b := 0) (by omega) (by omega)).mpr h)
                                    refine lv_aload_n hx hb dL_areSeatsSo_379 rfl (lv_at hl 6 rfl) ?_
                                    refine lv_bipush (v := nI 10) hx hb dL_areSeatsSo_380 (by decide) ?_
                                    refine lv_iload hx hb dL_areSeatsSo_382 (lv_at hl 3 rfl) ?_
                                    refine lv_imul hx hb dL_areSeatsSo_384 ?_
                                    refine zz_top (y := nI (10 * r)) ((pk_mul 10 r).trans (congrArg nI (by first | rfl | omega | exact Nat.mul_comm _ _))) ?_
                                    refine lv_iload hx hb dL_areSeatsSo_385 (lv_at hl 2 rfl) ?_
                                    refine lv_iadd hx hb dL_areSeatsSo_387 ?_
                                    refine zz_top (y := nI (10 * r + f)) ((nI_add (10 * r) f).trans (congrArg nI (by omega))) ?_
                                    refine lv_iconst (v := nI 1) hx hb dL_areSeatsSo_388 (by decide) ?_
                                    refine lv_isub hx hb dL_areSeatsSo_389 ?_
                                    refine zz_top (y := nI (10 * r + f - 1)) (pk_sub (by omega)) ?_
                                    refine zq_rV (As := [.int (nI (10 * r + f - 1))]) (rest := []) ⟨hx, hb, hml, hown, hts⟩ (kQ_state l D cI cZ ad K (10 * r + f - 1) (by omega)) (cwV 1 hts gL_areSeatsSo_X5_state rfl rfl rfl (by decide +kernel) ⟨(Nat.le_of_ble_eq_true rfl), (Nat.le_of_ble_eq_true rfl)⟩) hK hP hE.1 (ci := 5) (q0 := 0) rfl rfl rfl rfl hl.1 rfl (Nat.le_of_ble_eq_true rfl) dL_areSeatsSo_390 ⟨(Nat.le_of_ble_eq_true rfl), (Nat.le_of_ble_eq_true rfl)⟩ ?_
                                    refine lv_iconst (v := nI 3) hx hb dL_areSeatsSo_393 (by decide) ?_
                                    refine lv_irem hx hb dL_areSeatsSo_394 (by decide) ?_
                                    refine zz_top (y := gRem (sState K (10 * r + f - 1)) 3) rfl ?_
                                    refine lv_if_ne (tgt := 400) hx hb dL_areSeatsSo_395 (by decide) (fun c_16 => ?_) (fun c_16 => ?_)
                                    · skip
                                      have c_16 : ¬ gRem (sState K (10 * r + f - 1)) 3 = 0 := c_16
                                      refine lv_iinc (v := nI (r + 1)) (lv' := [(4, .int (nI (r + 1))), (7, .int (nI k)), (6, .int (nI 1)), (5, .int (nI f)), (3, .int (nI (gHo K 8))), (2, .int (nI (gHc K 60))), (0, .ref (ad 0)), (1, .int (nI m9))]) hx hb dL_areSeatsSo_400 hl (k := 3) rfl ((show nI r + Int32.ofInt 1 = nI r + nI 1 from rfl).trans (nI_add _ _)) (by decide) rfl (fun ls hl => ?_)
                                      refine lv_goto (tgt := 279) hx hb dL_areSeatsSo_403 (by decide) ?_
                                      exact ih_c (r + 1) (by omega) (by omega) (by omega)  ls (lv_sub hl [0, 4, 5, 6, 7] rfl)
                                    · skip
                                      have c_16 : gRem (sState K (10 * r + f - 1)) 3 = 0 := c_16
                                      exact absurd (show gOp K (10 * r + f - 1) = true from decide_eq_true c_16) (by rw [hf3 (by omega)]; decide)
                              · skip
                                have c_13 : ¬ m9 ≤ k := fun h => c_13 ((nI_leI (a := m9) (b := k) (by omega) (by omega)).mpr h)
                                refine lv_iload hx hb dL_areSeatsSo_326 (lv_at hl 2 rfl) ?_
                                refine lv_if_lt (tgt := 369) hx hb dL_areSeatsSo_328 (by decide) (fun c_17 => ?_) (fun c_17 => ?_)
                                · skip
                                  have c_17 := (nI_ltI (a := f) (b := 0) (by omega) (by omega)).mp c_17
                                  omega
                                · skip
                                  have c_17 : ¬ f < 0 := fun h => c_17 ((nI_ltI (a := f) (b := 0) (by omega) (by omega)).mpr h)
                                  refine lv_iload hx hb dL_areSeatsSo_331 (lv_at hl 1 rfl) ?_
                                  refine lv_if_eq (tgt := 369) hx hb dL_areSeatsSo_333 (by decide) (fun c_18 => ?_) (fun c_18 => ?_)
                                  · skip
                                    exact absurd c_18 (by decide)
                                  · skip
                                    refine lv_aload_n hx hb dL_areSeatsSo_336 rfl (lv_at hl 6 rfl) ?_
                                    refine lv_bipush (v := nI 10) hx hb dL_areSeatsSo_337 (by decide) ?_
                                    refine lv_iload hx hb dL_areSeatsSo_339 (lv_at hl 3 rfl) ?_
                                    refine lv_imul hx hb dL_areSeatsSo_341 ?_
                                    refine zz_top (y := nI (10 * r)) ((pk_mul 10 r).trans (congrArg nI (by first | rfl | omega | exact Nat.mul_comm _ _))) ?_
                                    refine lv_iload hx hb dL_areSeatsSo_342 (lv_at hl 2 rfl) ?_
                                    refine lv_iadd hx hb dL_areSeatsSo_344 ?_
                                    refine zz_top (y := nI (10 * r + f)) ((nI_add (10 * r) f).trans (congrArg nI (by omega))) ?_
                                    refine lv_iload hx hb dL_areSeatsSo_345 (lv_at hl 0 rfl) ?_
                                    refine lv_iadd hx hb dL_areSeatsSo_347 ?_
                                    refine zz_top (y := nI (10 * r + f + k)) ((nI_add (10 * r + f) k).trans (congrArg nI (by omega))) ?_
                                    refine zq_rV (As := [.int (nI (10 * r + f + k))]) (rest := []) ⟨hx, hb, hml, hown, hts⟩ (kQ_state l D cI cZ ad K (10 * r + f + k) (by omega)) (cwV 1 hts gL_areSeatsSo_X5_state rfl rfl rfl (by decide +kernel) ⟨(Nat.le_of_ble_eq_true rfl), (Nat.le_of_ble_eq_true rfl)⟩) hK hP hE.1 (ci := 5) (q0 := 0) rfl rfl rfl rfl hl.1 rfl (Nat.le_of_ble_eq_true rfl) dL_areSeatsSo_348 ⟨(Nat.le_of_ble_eq_true rfl), (Nat.le_of_ble_eq_true rfl)⟩ ?_
                                    refine lv_iconst (v := nI 3) hx hb dL_areSeatsSo_351 (by decide) ?_
                                    refine lv_irem hx hb dL_areSeatsSo_352 (by decide) ?_
                                    refine zz_top (y := gRem (sState K (10 * r + f + k)) 3) rfl ?_
                                    refine lv_if_ne (tgt := 360) hx hb dL_areSeatsSo_353 (by decide) (fun c_19 => ?_) (fun c_19 => ?_)
                                    · skip
                                      have c_19 : ¬ gRem (sState K (10 * r + f + k)) 3 = 0 := c_19
                                      exact absurd (of_decide_eq_true (hf2 k (by omega))) c_19
                                    · skip
                                      have c_19 : gRem (sState K (10 * r + f + k)) 3 = 0 := c_19
                                      refine lv_iconst (v := nI 1) hx hb dL_areSeatsSo_356 (by decide) ?_
                                      refine lv_goto (tgt := 361) hx hb dL_areSeatsSo_357 (by decide) ?_
                                      refine lv_istore (lv' := [(6, .int (nI 1)), (7, .int (nI k)), (5, .int (nI f)), (4, .int (nI r)), (3, .int (nI (gHo K 8))), (2, .int (nI (gHc K 60))), (0, .ref (ad 0)), (1, .int (nI m9))]) hx hb dL_areSeatsSo_361 hl (by decide) rfl (fun ls hl => ?_)
                                      refine lv_iinc (v := nI (k + 1)) (lv' := [(7, .int (nI (k + 1))), (6, .int (nI 1)), (5, .int (nI f)), (4, .int (nI r)), (3, .int (nI (gHo K 8))), (2, .int (nI (gHc K 60))), (0, .ref (ad 0)), (1, .int (nI m9))]) hx hb dL_areSeatsSo_363 hl (k := 1) rfl ((show nI k + Int32.ofInt 1 = nI k + nI 1 from rfl).trans (nI_add _ _)) (by decide) rfl (fun ls hl => ?_)
                                      refine lv_goto (tgt := 320) hx hb dL_areSeatsSo_366 (by decide) ?_
                                      exact ih_d (k + 1) (by omega) (by omega) (by omega)  ls (lv_sub hl [0, 1, 2, 3, 4, 5, 6, 7] rfl)
                          exact lp_d (m9 - 0 + 1) 0 (by omega) (by omega) (by omega)  ls (lv_sub hl [0, 1, 2, 3, 4, 5, 6, 7] rfl)
              exact lp_c (6 - 0 + 1) 0 (by omega) (by omega) (by omega)  ls (lv_sub hl [0, 1, 2, 3, 4] rfl)
            · skip
              have c_2 : ¬ 8 ≤ p := fun h => c_2 ((nI_leI (a := 8) (b := p) (by omega) (by omega)).mpr h)
              refine lv_iload_n hx hb dL_areSeatsSo_213 rfl (lv_at hl 1 rfl) ?_
              have j228 : ∀ ls : Array Slot, lv_has ls 11 [(4, .int (nI p)), (3, .int (nI (gHo K p))), (2, .int (nI (gHc K 60))), (0, .ref (ad 0)), (1, .int (nI m9))] → W pP l e ({ frames := 3, cells := 0, slots := 0, locals := 68 } : Room) s m ([.ref (ad 0), .int (nI m9)] : List Value).toArray below meth c s.heap [] 0 0 (MQ below (vp_Si (fun r => r = nI 1)) ([.ref (ad 0), .int (nI m9)] : List Value).toArray s 0 0 (fun _ => False)) (F0 m 228 ls [.int (nI (if kLapR K p < 0 then 0 else 1)), .int (nI (gHo K p))]) := by
                intro ls hl
                refine lv_iadd hx hb dL_areSeatsSo_228 ?_
                refine zz_top (y := nI ((gHo K p) + (if kLapR K p < 0 then 0 else 1))) ((nI_add (gHo K p) (if kLapR K p < 0 then 0 else 1)).trans (congrArg nI (by omega))) ?_
                refine lv_istore_n (lv' := [(3, .int (nI ((gHo K p) + (if kLapR K p < 0 then 0 else 1)))), (4, .int (nI p)), (2, .int (nI (gHc K 60))), (0, .ref (ad 0)), (1, .int (nI m9))]) hx hb dL_areSeatsSo_229 rfl hl (by decide) rfl (fun ls hl => ?_)
                refine lv_aload_n hx hb dL_areSeatsSo_230 rfl (lv_at hl 3 rfl) ?_
                refine lv_iload hx hb dL_areSeatsSo_231 (lv_at hl 1 rfl) ?_
                refine zq_rV (As := [.int (nI p)]) (rest := []) ⟨hx, hb, hml, hown, hts⟩ (kQ_lapses l D cI cZ ad K p (by omega)) (cwV 1 hts gL_areSeatsSo_X5_lapses rfl rfl rfl (by decide +kernel) ⟨(Nat.le_of_ble_eq_true rfl), (Nat.le_of_ble_eq_true rfl)⟩) hK hP hE.1 (ci := 5) (q0 := 0) rfl rfl rfl rfl hl.1 rfl (Nat.le_of_ble_eq_true rfl) dL_areSeatsSo_233 ⟨(Nat.le_of_ble_eq_true rfl), (Nat.le_of_ble_eq_true rfl)⟩ ?_
                refine lv_if_lt (tgt := 270) hx hb dL_areSeatsSo_236 (by decide) (fun c_20 => ?_) (fun c_20 => ?_)
                · skip
                  have c_20 : kLapR K p < 0 := c_20
                  refine lv_iinc (v := nI (p + 1)) (lv' := [(4, .int (nI (p + 1))), (3, .int (nI ((gHo K p) + (if kLapR K p < 0 then 0 else 1)))), (2, .int (nI (gHc K 60))), (0, .ref (ad 0)), (1, .int (nI m9))]) hx hb dL_areSeatsSo_270 hl (k := 1) rfl ((show nI p + Int32.ofInt 1 = nI p + nI 1 from rfl).trans (nI_add _ _)) (by decide) rfl (fun ls hl => ?_)
                  refine lv_goto (tgt := 206) hx hb dL_areSeatsSo_273 (by decide) ?_
                  have es_21 : nI (gHo K (p + 1)) = nI ((gHo K p) + (if kLapR K p < 0 then 0 else 1)) := (congrArg nI (gHo_s K p))
                  exact ih_b (p + 1) (by omega) (by omega) (by omega)  ls (by rw [es_21]; exact lv_sub hl [0, 1, 2, 3, 4] rfl)
                · skip
                  have c_20 : ¬ kLapR K p < 0 := c_20
                  refine lv_aload_n hx hb dL_areSeatsSo_239 rfl (lv_at hl 3 rfl) ?_
                  refine lv_iload hx hb dL_areSeatsSo_240 (lv_at hl 1 rfl) ?_
                  refine zq_rV (As := [.int (nI p)]) (rest := []) ⟨hx, hb, hml, hown, hts⟩ (kQ_lapses l D cI cZ ad K p (by omega)) (cwV 1 hts gL_areSeatsSo_X5_lapses rfl rfl rfl (by decide +kernel) ⟨(Nat.le_of_ble_eq_true rfl), (Nat.le_of_ble_eq_true rfl)⟩) hK hP hE.1 (ci := 5) (q0 := 0) rfl rfl rfl rfl hl.1 rfl (Nat.le_of_ble_eq_true rfl) dL_areSeatsSo_242 ⟨(Nat.le_of_ble_eq_true rfl), (Nat.le_of_ble_eq_true rfl)⟩ ?_
                  refine lv_aload_n hx hb dL_areSeatsSo_245 rfl (lv_at hl 3 rfl) ?_
                  refine zq_rV (As := []) (rest := [.int (kLapR K p)]) ⟨hx, hb, hml, hown, hts⟩ (kQ_time l D cI cZ ad K  ) (cwV 0 hts gL_areSeatsSo_X5_time rfl rfl rfl (by decide +kernel) ⟨(Nat.le_of_ble_eq_true rfl), (Nat.le_of_ble_eq_true rfl)⟩) hK hP hE.1 (ci := 5) (q0 := 0) rfl rfl rfl rfl hl.1 rfl (Nat.le_of_ble_eq_true rfl) dL_areSeatsSo_246 ⟨(Nat.le_of_ble_eq_true rfl), (Nat.le_of_ble_eq_true rfl)⟩ ?_
                  refine lv_icmp_le (tgt := 268) hx hb dL_areSeatsSo_249 (by decide) (fun c_22 => ?_) (fun c_22 => ?_)
                  · skip
                    have c_22 : kLapR K p ≤ K 0 0 := c_22
                    exact absurd c_22 (Int32.not_le.mpr ((hho p (by omega)).resolve_left c_20).1)
                  · skip
                    have c_22 : ¬ kLapR K p ≤ K 0 0 := c_22
                    refine lv_aload_n hx hb dL_areSeatsSo_252 rfl (lv_at hl 3 rfl) ?_
                    refine lv_iload hx hb dL_areSeatsSo_253 (lv_at hl 1 rfl) ?_
                    refine zq_rV (As := [.int (nI p)]) (rest := []) ⟨hx, hb, hml, hown, hts⟩ (kQ_lapses l D cI cZ ad K p (by omega)) (cwV 1 hts gL_areSeatsSo_X5_lapses rfl rfl rfl (by decide +kernel) ⟨(Nat.le_of_ble_eq_true rfl), (Nat.le_of_ble_eq_true rfl)⟩) hK hP hE.1 (ci := 5) (q0 := 0) rfl rfl rfl rfl hl.1 rfl (Nat.le_of_ble_eq_true rfl) dL_areSeatsSo_255 ⟨(Nat.le_of_ble_eq_true rfl), (Nat.le_of_ble_eq_true rfl)⟩ ?_
                    refine lv_aload_n hx hb dL_areSeatsSo_258 rfl (lv_at hl 3 rfl) ?_
                    refine zq_rV (As := []) (rest := [.int (kLapR K p)]) ⟨hx, hb, hml, hown, hts⟩ (kQ_time l D cI cZ ad K  ) (cwV 0 hts gL_areSeatsSo_X5_time rfl rfl rfl (by decide +kernel) ⟨(Nat.le_of_ble_eq_true rfl), (Nat.le_of_ble_eq_true rfl)⟩) hK hP hE.1 (ci := 5) (q0 := 0) rfl rfl rfl rfl hl.1 rfl (Nat.le_of_ble_eq_true rfl) dL_areSeatsSo_259 ⟨(Nat.le_of_ble_eq_true rfl), (Nat.le_of_ble_eq_true rfl)⟩ ?_
                    refine lv_bipush (v := nI 30) hx hb dL_areSeatsSo_262 (by decide) ?_
                    refine lv_iadd hx hb dL_areSeatsSo_264 ?_
                    refine lv_icmp_le (tgt := 270) hx hb dL_areSeatsSo_265 (by decide) (fun c_23 => ?_) (fun c_23 => ?_)
                    · skip
                      have c_23 : kLapR K p ≤ (K 0 0) + (nI 30) := c_23
                      refine lv_iinc (v := nI (p + 1)) (lv' := [(4, .int (nI (p + 1))), (3, .int (nI ((gHo K p) + (if kLapR K p < 0 then 0 else 1)))), (2, .int (nI (gHc K 60))), (0, .ref (ad 0)), (1, .int (nI m9))]) hx hb dL_areSeatsSo_270 hl (k := 1) rfl ((show nI p + Int32.ofInt 1 = nI p + nI 1 from rfl).trans (nI_add _ _)) (by decide) rfl (fun ls hl => ?_)
                      refine lv_goto (tgt := 206) hx hb dL_areSeatsSo_273 (by decide) ?_
                      have es_24 : nI (gHo K (p + 1)) = nI ((gHo K p) + (if kLapR K p < 0 then 0 else 1)) := (congrArg nI (gHo_s K p))
                      exact ih_b (p + 1) (by omega) (by omega) (by omega)  ls (by rw [es_24]; exact lv_sub hl [0, 1, 2, 3, 4] rfl)
                    · skip
                      have c_23 : ¬ kLapR K p ≤ (K 0 0) + (nI 30) := c_23
                      exact absurd ((hho p (by omega)).resolve_left c_20).2 c_23
              refine lv_aload_n hx hb dL_areSeatsSo_214 rfl (lv_at hl 3 rfl) ?_
              refine lv_iload hx hb dL_areSeatsSo_215 (lv_at hl 0 rfl) ?_
              refine zq_rV (As := [.int (nI p)]) (rest := [.int (nI (gHo K p))]) ⟨hx, hb, hml, hown, hts⟩ (kQ_lapses l D cI cZ ad K p (by omega)) (cwV 1 hts gL_areSeatsSo_X5_lapses rfl rfl rfl (by decide +kernel) ⟨(Nat.le_of_ble_eq_true rfl), (Nat.le_of_ble_eq_true rfl)⟩) hK hP hE.1 (ci := 5) (q0 := 0) rfl rfl rfl rfl hl.1 rfl (Nat.le_of_ble_eq_true rfl) dL_areSeatsSo_217 ⟨(Nat.le_of_ble_eq_true rfl), (Nat.le_of_ble_eq_true rfl)⟩ ?_
              refine lv_if_lt (tgt := 227) hx hb dL_areSeatsSo_220 (by decide) (fun c_25 => ?_) (fun c_25 => ?_)
              · skip
                have c_25 : kLapR K p < 0 := c_25
                refine lv_iconst (v := nI 0) hx hb dL_areSeatsSo_227 (by decide) ?_
                have ej_26 : nI (if kLapR K p < 0 then 0 else 1) = nI 0 := (congrArg nI (if_pos c_25))
                refine zz_top ej_26.symm ?_
                exact j228 ls (lv_sub hl [0, 1, 2, 3, 4] rfl)
              · skip
                have c_25 : ¬ kLapR K p < 0 := c_25
                refine lv_iconst (v := nI 1) hx hb dL_areSeatsSo_223 (by decide) ?_
                refine lv_goto (tgt := 228) hx hb dL_areSeatsSo_224 (by decide) ?_
                have ej_27 : nI (if kLapR K p < 0 then 0 else 1) = nI 1 := (congrArg nI (if_neg c_25))
                refine zz_top ej_27.symm ?_
                exact j228 ls (lv_sub hl [0, 1, 2, 3, 4] rfl)
        have ei_b_3 : nI (gHo K 0) = nI 0 := rfl
        exact lp_b (8 - 0 + 1) 0 (by omega) (by omega) (by omega)  ls (by rw [ei_b_3]; exact lv_sub hl [0, 1, 2, 3, 4] rfl)
      · skip
        have c_1 : ¬ 60 ≤ i := fun h => c_1 ((nI_leI (a := 60) (b := i) (by omega) (by omega)).mpr h)
        refine lv_aload_n hx hb dL_areSeatsSo_14 rfl (lv_at hl 3 rfl) ?_
        refine lv_iload hx hb dL_areSeatsSo_15 (lv_at hl 0 rfl) ?_
        refine zq_rV (As := [.int (nI i)]) (rest := []) ⟨hx, hb, hml, hown, hts⟩ (kQ_state l D cI cZ ad K i (by omega)) (cwV 1 hts gL_areSeatsSo_X5_state rfl rfl rfl (by decide +kernel) ⟨(Nat.le_of_ble_eq_true rfl), (Nat.le_of_ble_eq_true rfl)⟩) hK hP hE.1 (ci := 5) (q0 := 0) rfl rfl rfl rfl hl.1 rfl (Nat.le_of_ble_eq_true rfl) dL_areSeatsSo_17 ⟨(Nat.le_of_ble_eq_true rfl), (Nat.le_of_ble_eq_true rfl)⟩ ?_
        refine lv_istore (lv' := [(5, .int (sState K i)), (4, .int (nI i)), (3, .int (nI 0)), (2, .int (nI (gHc K i))), (0, .ref (ad 0)), (1, .int (nI m9))]) hx hb dL_areSeatsSo_20 hl (by decide) rfl (fun ls hl => ?_)
        refine lv_iload hx hb dL_areSeatsSo_22 (lv_at hl 1 rfl) ?_
        refine lv_bipush (v := nI 10) hx hb dL_areSeatsSo_24 (by decide) ?_
        refine lv_irem hx hb dL_areSeatsSo_26 (by decide) ?_
        refine zz_top (y := nI (i % 10)) (pk_rem (by omega) (by decide) (by decide)) ?_
        refine lv_istore (lv' := [(6, .int (nI (i % 10))), (5, .int (sState K i)), (4, .int (nI i)), (3, .int (nI 0)), (2, .int (nI (gHc K i))), (0, .ref (ad 0)), (1, .int (nI m9))]) hx hb dL_areSeatsSo_27 hl (by decide) rfl (fun ls hl => ?_)
        have j41 : ∀ ls : Array Slot, lv_has ls 11 [(6, .int (nI (i % 10))), (5, .int (sState K i)), (4, .int (nI i)), (3, .int (nI 0)), (2, .int (nI (gHc K i))), (0, .ref (ad 0)), (1, .int (nI m9))] → W pP l e ({ frames := 3, cells := 0, slots := 0, locals := 68 } : Room) s m ([.ref (ad 0), .int (nI m9)] : List Value).toArray below meth c s.heap [] 0 0 (MQ below (vp_Si (fun r => r = nI 1)) ([.ref (ad 0), .int (nI m9)] : List Value).toArray s 0 0 (fun _ => False)) (F0 m 41 ls [.int (zb (gOp K i))]) := by
          intro ls hl
          refine lv_istore (lv' := [(7, .int (zb (gOp K i))), (6, .int (nI (i % 10))), (5, .int (sState K i)), (4, .int (nI i)), (3, .int (nI 0)), (2, .int (nI (gHc K i))), (0, .ref (ad 0)), (1, .int (nI m9))]) hx hb dL_areSeatsSo_41 hl (by decide) rfl (fun ls hl => ?_)
          have j66 : ∀ ls : Array Slot, lv_has ls 11 [(7, .int (zb (gOp K i))), (6, .int (nI (i % 10))), (5, .int (sState K i)), (4, .int (nI i)), (3, .int (nI 0)), (2, .int (nI (gHc K i))), (0, .ref (ad 0)), (1, .int (nI m9))] → W pP l e ({ frames := 3, cells := 0, slots := 0, locals := 68 } : Room) s m ([.ref (ad 0), .int (nI m9)] : List Value).toArray below meth c s.heap [] 0 0 (MQ below (vp_Si (fun r => r = nI 1)) ([.ref (ad 0), .int (nI m9)] : List Value).toArray s 0 0 (fun _ => False)) (F0 m 66 ls [.int (zb (gLf K i))]) := by
            intro ls hl
            refine lv_istore (lv' := [(8, .int (zb (gLf K i))), (7, .int (zb (gOp K i))), (6, .int (nI (i % 10))), (5, .int (sState K i)), (4, .int (nI i)), (3, .int (nI 0)), (2, .int (nI (gHc K i))), (0, .ref (ad 0)), (1, .int (nI m9))]) hx hb dL_areSeatsSo_66 hl (by decide) rfl (fun ls hl => ?_)
            have j93 : ∀ ls : Array Slot, lv_has ls 11 [(8, .int (zb (gLf K i))), (7, .int (zb (gOp K i))), (6, .int (nI (i % 10))), (5, .int (sState K i)), (4, .int (nI i)), (3, .int (nI 0)), (2, .int (nI (gHc K i))), (0, .ref (ad 0)), (1, .int (nI m9))] → W pP l e ({ frames := 3, cells := 0, slots := 0, locals := 68 } : Room) s m ([.ref (ad 0), .int (nI m9)] : List Value).toArray below meth c s.heap [] 0 0 (MQ below (vp_Si (fun r => r = nI 1)) ([.ref (ad 0), .int (nI m9)] : List Value).toArray s 0 0 (fun _ => False)) (F0 m 93 ls [.int (zb (gRt K i))]) := by
              intro ls hl
              refine lv_istore (lv' := [(9, .int (zb (gRt K i))), (8, .int (zb (gLf K i))), (7, .int (zb (gOp K i))), (6, .int (nI (i % 10))), (5, .int (sState K i)), (4, .int (nI i)), (3, .int (nI 0)), (2, .int (nI (gHc K i))), (0, .ref (ad 0)), (1, .int (nI m9))]) hx hb dL_areSeatsSo_93 hl (by decide) rfl (fun ls hl => ?_)
              refine lv_aload_n hx hb dL_areSeatsSo_95 rfl (lv_at hl 8 rfl) ?_
              refine lv_iload hx hb dL_areSeatsSo_96 (lv_at hl 5 rfl) ?_
              refine zq_rV (As := [.int (nI i)]) (rest := []) ⟨hx, hb, hml, hown, hts⟩ (kQ_owner l D cI cZ ad K i (by omega)) (cwV 1 hts gL_areSeatsSo_X5_owner rfl rfl rfl (by decide +kernel) ⟨(Nat.le_of_ble_eq_true rfl), (Nat.le_of_ble_eq_true rfl)⟩) hK hP hE.1 (ci := 5) (q0 := 0) rfl rfl rfl rfl hl.1 rfl (Nat.le_of_ble_eq_true rfl) dL_areSeatsSo_98 ⟨(Nat.le_of_ble_eq_true rfl), (Nat.le_of_ble_eq_true rfl)⟩ ?_
              refine lv_aload_n hx hb dL_areSeatsSo_101 rfl (lv_at hl 8 rfl) ?_
              refine lv_iload hx hb dL_areSeatsSo_102 (lv_at hl 5 rfl) ?_
              refine zq_rV (As := [.int (nI i)]) (rest := [.int (K 19 i)]) ⟨hx, hb, hml, hown, hts⟩ (kQ_ownerBySales l D cI cZ ad K i t9 (by omega) (by omega) hts9) (cwV 1 hts gL_areSeatsSo_X5_ownerBySales rfl rfl rfl (by decide +kernel) ⟨(Nat.le_of_ble_eq_true rfl), (Nat.le_of_ble_eq_true rfl)⟩) hK hP hE.1 (ci := 5) (q0 := 0) rfl rfl rfl rfl hl.1 rfl (Nat.le_of_ble_eq_true rfl) dL_areSeatsSo_104 ⟨(Nat.le_of_ble_eq_true rfl), (Nat.le_of_ble_eq_true rfl)⟩ ?_
              refine lv_icmp_ne (tgt := 173) hx hb dL_areSeatsSo_107 (by decide) (fun c_28 => ?_) (fun c_28 => ?_)
              · skip
                have c_28 : ¬ K 19 i = tLast K (nI i) t9 := c_28
                exact absurd (hse i (by omega)).1 c_28
              · skip
                have c_28 : K 19 i = tLast K (nI i) t9 := c_28
                have j125 : ∀ ls : Array Slot, lv_has ls 11 [(9, .int (zb (gRt K i))), (8, .int (zb (gLf K i))), (7, .int (zb (gOp K i))), (6, .int (nI (i % 10))), (5, .int (sState K i)), (4, .int (nI i)), (3, .int (nI 0)), (2, .int (nI (gHc K i))), (0, .ref (ad 0)), (1, .int (nI m9))] → W pP l e ({ frames := 3, cells := 0, slots := 0, locals := 68 } : Room) s m ([.ref (ad 0), .int (nI m9)] : List Value).toArray below meth c s.heap [] 0 0 (MQ below (vp_Si (fun r => r = nI 1)) ([.ref (ad 0), .int (nI m9)] : List Value).toArray s 0 0 (fun _ => False)) (F0 m 125 ls []) := by
                  intro ls hl
                  have j140 : ∀ ls : Array Slot, lv_has ls 11 [(9, .int (zb (gRt K i))), (8, .int (zb (gLf K i))), (7, .int (zb (gOp K i))), (6, .int (nI (i % 10))), (5, .int (sState K i)), (4, .int (nI i)), (3, .int (nI 0)), (2, .int (nI (gHc K i))), (0, .ref (ad 0)), (1, .int (nI m9))] → W pP l e ({ frames := 3, cells := 0, slots := 0, locals := 68 } : Room) s m ([.ref (ad 0), .int (nI m9)] : List Value).toArray below meth c s.heap [] 0 0 (MQ below (vp_Si (fun r => r = nI 1)) ([.ref (ad 0), .int (nI m9)] : List Value).toArray s 0 0 (fun _ => False)) (F0 m 140 ls []) := by
                    intro ls hl
                    refine lv_aload_n hx hb dL_areSeatsSo_140 rfl (lv_at hl 8 rfl) ?_
                    refine lv_iload hx hb dL_areSeatsSo_141 (lv_at hl 5 rfl) ?_
                    refine zq_rV (As := [.int (nI i)]) (rest := []) ⟨hx, hb, hml, hown, hts⟩ (kQ_isSingle l D cI cZ ad K i (by omega)) (cwV 1 hts gL_areSeatsSo_X5_isSingle rfl rfl rfl (by decide +kernel) ⟨(Nat.le_of_ble_eq_true rfl), (Nat.le_of_ble_eq_true rfl)⟩) hK hP hE.1 (ci := 5) (q0 := 0) rfl rfl rfl rfl hl.1 rfl (Nat.le_of_ble_eq_true rfl) dL_areSeatsSo_143 ⟨(Nat.le_of_ble_eq_true rfl), (Nat.le_of_ble_eq_true rfl)⟩ ?_
                    have j166 : ∀ ls : Array Slot, lv_has ls 11 [(9, .int (zb (gRt K i))), (8, .int (zb (gLf K i))), (7, .int (zb (gOp K i))), (6, .int (nI (i % 10))), (5, .int (sState K i)), (4, .int (nI i)), (3, .int (nI 0)), (2, .int (nI (gHc K i))), (0, .ref (ad 0)), (1, .int (nI m9))] → W pP l e ({ frames := 3, cells := 0, slots := 0, locals := 68 } : Room) s m ([.ref (ad 0), .int (nI m9)] : List Value).toArray below meth c s.heap [] 0 0 (MQ below (vp_Si (fun r => r = nI 1)) ([.ref (ad 0), .int (nI m9)] : List Value).toArray s 0 0 (fun _ => False)) (F0 m 166 ls [.int (zb (gSi K i)), .int (zb (kSinR K i))]) := by
                      intro ls hl
                      refine lv_icmp_ne (tgt := 173) hx hb dL_areSeatsSo_166 (by decide) (fun c_29 => ?_) (fun c_29 => ?_)
                      · skip
                        have c_29 : ¬ zb (kSinR K i) = zb (gSi K i) := c_29
                        exact absurd (congrArg zb (hse i (by omega)).2.2.2) c_29
                      · skip
                        have c_29 : zb (kSinR K i) = zb (gSi K i) := c_29
                        refine lv_iconst (v := nI 1) hx hb dL_areSeatsSo_169 (by decide) ?_
                        refine lv_goto (tgt := 174) hx hb dL_areSeatsSo_170 (by decide) ?_
                        refine lv_istore (lv' := [(10, .int (nI 1)), (9, .int (zb (gRt K i))), (8, .int (zb (gLf K i))), (7, .int (zb (gOp K i))), (6, .int (nI (i % 10))), (5, .int (sState K i)), (4, .int (nI i)), (3, .int (nI 0)), (2, .int (nI (gHc K i))), (0, .ref (ad 0)), (1, .int (nI m9))]) hx hb dL_areSeatsSo_174 hl (by decide) rfl (fun ls hl => ?_)
                        refine lv_iload_n hx hb dL_areSeatsSo_176 rfl (lv_at hl 8 rfl) ?_
                        refine lv_iload hx hb dL_areSeatsSo_177 (lv_at hl 5 rfl) ?_
                        refine lv_iconst (v := nI 1) hx hb dL_areSeatsSo_179 (by decide) ?_
                        refine lv_icmp_ne (tgt := 187) hx hb dL_areSeatsSo_180 (by decide) (fun c_30 => ?_) (fun c_30 => ?_)
                        · skip
                          have c_30 : ¬ sState K i = nI 1 := c_30
                          refine lv_iconst (v := nI 0) hx hb dL_areSeatsSo_187 (by decide) ?_
                          refine lv_iadd hx hb dL_areSeatsSo_188 ?_
                          refine zz_top (y := nI (gHc K i)) ((nI_add (gHc K i) 0).trans (congrArg nI (by omega))) ?_
                          refine lv_istore_n (lv' := [(2, .int (nI (gHc K i))), (10, .int (nI 1)), (9, .int (zb (gRt K i))), (8, .int (zb (gLf K i))), (7, .int (zb (gOp K i))), (6, .int (nI (i % 10))), (5, .int (sState K i)), (4, .int (nI i)), (3, .int (nI 0)), (0, .ref (ad 0)), (1, .int (nI m9))]) hx hb dL_areSeatsSo_189 rfl hl (by decide) rfl (fun ls hl => ?_)
                          refine lv_iload hx hb dL_areSeatsSo_190 (lv_at hl 1 rfl) ?_
                          refine lv_if_ne (tgt := 197) hx hb dL_areSeatsSo_192 (by decide) (fun c_31 => ?_) (fun c_31 => ?_)
                          · skip
                            refine lv_iinc (v := nI (i + 1)) (lv' := [(4, .int (nI (i + 1))), (2, .int (nI (gHc K i))), (10, .int (nI 1)), (9, .int (zb (gRt K i))), (8, .int (zb (gLf K i))), (7, .int (zb (gOp K i))), (6, .int (nI (i % 10))), (5, .int (sState K i)), (3, .int (nI 0)), (0, .ref (ad 0)), (1, .int (nI m9))]) hx hb dL_areSeatsSo_197 hl (k := 7) rfl ((show nI i + Int32.ofInt 1 = nI i + nI 1 from rfl).trans (nI_add _ _)) (by decide) rfl (fun ls hl => ?_)
                            refine lv_goto (tgt := 7) hx hb dL_areSeatsSo_200 (by decide) ?_
                            have es_32 : nI (gHc K (i + 1)) = nI (gHc K i) := (congrArg nI (gHc_0 c_30))
                            exact ih_a (i + 1) (by omega) (by omega) (by omega)  ls (by rw [es_32]; exact lv_sub hl [0, 8, 1, 9, 10] rfl)
                          · skip
                            exact absurd c_31 (by decide)
                        · skip
                          have c_30 : sState K i = nI 1 := c_30
                          refine lv_iconst (v := nI 1) hx hb dL_areSeatsSo_183 (by decide) ?_
                          refine lv_goto (tgt := 188) hx hb dL_areSeatsSo_184 (by decide) ?_
                          refine lv_iadd hx hb dL_areSeatsSo_188 ?_
                          refine zz_top (y := nI ((gHc K i) + 1)) ((nI_add (gHc K i) 1).trans (congrArg nI (by omega))) ?_
                          refine lv_istore_n (lv' := [(2, .int (nI ((gHc K i) + 1))), (10, .int (nI 1)), (9, .int (zb (gRt K i))), (8, .int (zb (gLf K i))), (7, .int (zb (gOp K i))), (6, .int (nI (i % 10))), (5, .int (sState K i)), (4, .int (nI i)), (3, .int (nI 0)), (0, .ref (ad 0)), (1, .int (nI m9))]) hx hb dL_areSeatsSo_189 rfl hl (by decide) rfl (fun ls hl => ?_)
                          refine lv_iload hx hb dL_areSeatsSo_190 (lv_at hl 1 rfl) ?_
                          refine lv_if_ne (tgt := 197) hx hb dL_areSeatsSo_192 (by decide) (fun c_33 => ?_) (fun c_33 => ?_)
                          · skip
                            refine lv_iinc (v := nI (i + 1)) (lv' := [(4, .int (nI (i + 1))), (2, .int (nI ((gHc K i) + 1))), (10, .int (nI 1)), (9, .int (zb (gRt K i))), (8, .int (zb (gLf K i))), (7, .int (zb (gOp K i))), (6, .int (nI (i % 10))), (5, .int (sState K i)), (3, .int (nI 0)), (0, .ref (ad 0)), (1, .int (nI m9))]) hx hb dL_areSeatsSo_197 hl (k := 7) rfl ((show nI i + Int32.ofInt 1 = nI i + nI 1 from rfl).trans (nI_add _ _)) (by decide) rfl (fun ls hl => ?_)
                            refine lv_goto (tgt := 7) hx hb dL_areSeatsSo_200 (by decide) ?_
                            have es_34 : nI (gHc K (i + 1)) = nI ((gHc K i) + 1) := (congrArg nI (gHc_1 c_30))
                            exact ih_a (i + 1) (by omega) (by omega) (by omega)  ls (by rw [es_34]; exact lv_sub hl [0, 8, 1, 9, 10] rfl)
                          · skip
                            exact absurd c_33 (by decide)
                    refine lv_iload hx hb dL_areSeatsSo_146 (lv_at hl 2 rfl) ?_
                    refine lv_if_eq (tgt := 165) hx hb dL_areSeatsSo_148 (by decide) (fun c_35 => ?_) (fun c_35 => ?_)
                    · skip
                      have c_35 := zb_f c_35
                      refine lv_iconst (v := nI 0) hx hb dL_areSeatsSo_165 (by decide) ?_
                      have ej_36 : zb (gSi K i) = nI 0 := (by unfold gSi; rw [c_35]; rfl)
                      refine zz_top ej_36.symm ?_
                      exact j166 ls (lv_sub hl [0, 1, 2, 3, 4, 5, 6, 7, 8, 9] rfl)
                    · skip
                      have c_35 := zb_t c_35
                      refine lv_iload hx hb dL_areSeatsSo_151 (lv_at hl 1 rfl) ?_
                      refine lv_if_ne (tgt := 165) hx hb dL_areSeatsSo_153 (by decide) (fun c_37 => ?_) (fun c_37 => ?_)
                      · skip
                        have c_37 := zb_t c_37
                        refine lv_iconst (v := nI 0) hx hb dL_areSeatsSo_165 (by decide) ?_
                        have ej_38 : zb (gSi K i) = nI 0 := (by unfold gSi; rw [c_35, c_37]; rfl)
                        refine zz_top ej_38.symm ?_
                        exact j166 ls (lv_sub hl [0, 1, 2, 3, 4, 5, 6, 7, 8, 9] rfl)
                      · skip
                        have c_37 := zb_f c_37
                        refine lv_iload hx hb dL_areSeatsSo_156 (lv_at hl 0 rfl) ?_
                        refine lv_if_ne (tgt := 165) hx hb dL_areSeatsSo_158 (by decide) (fun c_39 => ?_) (fun c_39 => ?_)
                        · skip
                          have c_39 := zb_t c_39
                          refine lv_iconst (v := nI 0) hx hb dL_areSeatsSo_165 (by decide) ?_
                          have ej_40 : zb (gSi K i) = nI 0 := (by unfold gSi; rw [c_35, c_37, c_39]; rfl)
                          refine zz_top ej_40.symm ?_
                          exact j166 ls (lv_sub hl [0, 1, 2, 3, 4, 5, 6, 7, 8, 9] rfl)
                        · skip
                          have c_39 := zb_f c_39
                          refine lv_iconst (v := nI 1) hx hb dL_areSeatsSo_161 (by decide) ?_
                          refine lv_goto (tgt := 166) hx hb dL_areSeatsSo_162 (by decide) ?_
                          have ej_41 : zb (gSi K i) = nI 1 := (by unfold gSi; rw [c_35, c_37, c_39]; rfl)
                          refine zz_top ej_41.symm ?_
                          exact j166 ls (lv_sub hl [0, 1, 2, 3, 4, 5, 6, 7, 8, 9] rfl)
                  refine lv_iload hx hb dL_areSeatsSo_125 (lv_at hl 4 rfl) ?_
                  refine lv_iconst (v := nI 2) hx hb dL_areSeatsSo_127 (by decide) ?_
                  refine lv_icmp_lt (tgt := 140) hx hb dL_areSeatsSo_128 (by decide) (fun c_42 => ?_) (fun c_42 => ?_)
                  · skip
                    have c_42 : sState K i < nI 2 := c_42
                    exact j140 ls (lv_sub hl [0, 1, 2, 3, 4, 5, 6, 7, 8, 9] rfl)
                  · skip
                    have c_42 : ¬ sState K i < nI 2 := c_42
                    refine lv_aload_n hx hb dL_areSeatsSo_131 rfl (lv_at hl 8 rfl) ?_
                    refine lv_iload hx hb dL_areSeatsSo_132 (lv_at hl 5 rfl) ?_
                    refine zq_rV (As := [.int (nI i)]) (rest := []) ⟨hx, hb, hml, hown, hts⟩ (kQ_owner l D cI cZ ad K i (by omega)) (cwV 1 hts gL_areSeatsSo_X5_owner rfl rfl rfl (by decide +kernel) ⟨(Nat.le_of_ble_eq_true rfl), (Nat.le_of_ble_eq_true rfl)⟩) hK hP hE.1 (ci := 5) (q0 := 0) rfl rfl rfl rfl hl.1 rfl (Nat.le_of_ble_eq_true rfl) dL_areSeatsSo_134 ⟨(Nat.le_of_ble_eq_true rfl), (Nat.le_of_ble_eq_true rfl)⟩ ?_
                    refine lv_if_lt (tgt := 173) hx hb dL_areSeatsSo_137 (by decide) (fun c_43 => ?_) (fun c_43 => ?_)
                    · skip
                      have c_43 : K 19 i < 0 := c_43
                      exact absurd c_43 ((hse i (by omega)).2.2.1 c_42)
                    · skip
                      have c_43 : ¬ K 19 i < 0 := c_43
                      exact j140 ls (lv_sub hl [0, 1, 2, 3, 4, 5, 6, 7, 8, 9] rfl)
                refine lv_iload hx hb dL_areSeatsSo_110 (lv_at hl 4 rfl) ?_
                refine lv_if_ne (tgt := 125) hx hb dL_areSeatsSo_112 (by decide) (fun c_44 => ?_) (fun c_44 => ?_)
                · skip
                  have c_44 : ¬ sState K i = 0 := c_44
                  exact j125 ls (lv_sub hl [0, 1, 2, 3, 4, 5, 6, 7, 8, 9] rfl)
                · skip
                  have c_44 : sState K i = 0 := c_44
                  refine lv_aload_n hx hb dL_areSeatsSo_115 rfl (lv_at hl 8 rfl) ?_
                  refine lv_iload hx hb dL_areSeatsSo_116 (lv_at hl 5 rfl) ?_
                  refine zq_rV (As := [.int (nI i)]) (rest := []) ⟨hx, hb, hml, hown, hts⟩ (kQ_owner l D cI cZ ad K i (by omega)) (cwV 1 hts gL_areSeatsSo_X5_owner rfl rfl rfl (by decide +kernel) ⟨(Nat.le_of_ble_eq_true rfl), (Nat.le_of_ble_eq_true rfl)⟩) hK hP hE.1 (ci := 5) (q0 := 0) rfl rfl rfl rfl hl.1 rfl (Nat.le_of_ble_eq_true rfl) dL_areSeatsSo_118 ⟨(Nat.le_of_ble_eq_true rfl), (Nat.le_of_ble_eq_true rfl)⟩ ?_
                  refine lv_iconst (v := (-1)) hx hb dL_areSeatsSo_121 (by decide) ?_
                  refine lv_icmp_ne (tgt := 173) hx hb dL_areSeatsSo_122 (by decide) (fun c_45 => ?_) (fun c_45 => ?_)
                  · skip
                    have c_45 : ¬ K 19 i = (-1) := c_45
                    exact absurd ((hse i (by omega)).2.1 c_44) c_45
                  · skip
                    have c_45 : K 19 i = (-1) := c_45
                    exact j125 ls (lv_sub hl [0, 1, 2, 3, 4, 5, 6, 7, 8, 9] rfl)
            refine lv_iload hx hb dL_areSeatsSo_68 (lv_at hl 2 rfl) ?_
            refine lv_bipush (v := nI 9) hx hb dL_areSeatsSo_70 (by decide) ?_
            refine lv_icmp_ge (tgt := 92) hx hb dL_areSeatsSo_72 (by decide) (fun c_46 => ?_) (fun c_46 => ?_)
            · skip
              have c_46 := (nI_leI (a := 9) (b := (i % 10)) (by omega) (by omega)).mp c_46
              refine lv_iconst (v := nI 0) hx hb dL_areSeatsSo_92 (by decide) ?_
              have ej_47 : zb (gRt K i) = nI 0 := (by unfold gRt; rw [decide_eq_false (fun h => h c_46)]; rfl)
              refine zz_top ej_47.symm ?_
              exact j93 ls (lv_sub hl [0, 1, 2, 3, 4, 5, 6, 7, 8] rfl)
            · skip
              have c_46 : ¬ 9 ≤ (i % 10) := fun h => c_46 ((nI_leI (a := 9) (b := (i % 10)) (by omega) (by omega)).mpr h)
              refine lv_aload_n hx hb dL_areSeatsSo_75 rfl (lv_at hl 7 rfl) ?_
              refine lv_iload hx hb dL_areSeatsSo_76 (lv_at hl 4 rfl) ?_
              refine lv_iconst (v := nI 1) hx hb dL_areSeatsSo_78 (by decide) ?_
              refine lv_iadd hx hb dL_areSeatsSo_79 ?_
              refine zz_top (y := nI (i + 1)) ((nI_add i 1).trans (congrArg nI (by omega))) ?_
              refine zq_rV (As := [.int (nI (i + 1))]) (rest := []) ⟨hx, hb, hml, hown, hts⟩ (kQ_state l D cI cZ ad K (i + 1) (by omega)) (cwV 1 hts gL_areSeatsSo_X5_state rfl rfl rfl (by decide +kernel) ⟨(Nat.le_of_ble_eq_true rfl), (Nat.le_of_ble_eq_true rfl)⟩) hK hP hE.1 (ci := 5) (q0 := 0) rfl rfl rfl rfl hl.1 rfl (Nat.le_of_ble_eq_true rfl) dL_areSeatsSo_80 ⟨(Nat.le_of_ble_eq_true rfl), (Nat.le_of_ble_eq_true rfl)⟩ ?_
              refine lv_iconst (v := nI 3) hx hb dL_areSeatsSo_83 (by decide) ?_
              refine lv_irem hx hb dL_areSeatsSo_84 (by decide) ?_
              refine zz_top (y := gRem (sState K (i + 1)) 3) rfl ?_
              refine lv_if_ne (tgt := 92) hx hb dL_areSeatsSo_85 (by decide) (fun c_48 => ?_) (fun c_48 => ?_)
              · skip
                have c_48 : ¬ gRem (sState K (i + 1)) 3 = 0 := c_48
                refine lv_iconst (v := nI 0) hx hb dL_areSeatsSo_92 (by decide) ?_
                have ej_49 : zb (gRt K i) = nI 0 := (by unfold gRt; rw [decide_eq_true c_46, show gOp K (i + 1) = false from decide_eq_false c_48]; rfl)
                refine zz_top ej_49.symm ?_
                exact j93 ls (lv_sub hl [0, 1, 2, 3, 4, 5, 6, 7, 8] rfl)
              · skip
                have c_48 : gRem (sState K (i + 1)) 3 = 0 := c_48
                refine lv_iconst (v := nI 1) hx hb dL_areSeatsSo_88 (by decide) ?_
                refine lv_goto (tgt := 93) hx hb dL_areSeatsSo_89 (by decide) ?_
                have ej_50 : zb (gRt K i) = nI 1 := (by unfold gRt; rw [decide_eq_true c_46, show gOp K (i + 1) = true from decide_eq_true c_48]; rfl)
                refine zz_top ej_50.symm ?_
                exact j93 ls (lv_sub hl [0, 1, 2, 3, 4, 5, 6, 7, 8] rfl)
          refine lv_iload hx hb dL_areSeatsSo_43 (lv_at hl 1 rfl) ?_
          refine lv_if_le (tgt := 65) hx hb dL_areSeatsSo_45 (by decide) (fun c_51 => ?_) (fun c_51 => ?_)
          · skip
            have c_51 := (nI_leI (a := (i % 10)) (b := 0) (by omega) (by omega)).mp c_51
            refine lv_iconst (v := nI 0) hx hb dL_areSeatsSo_65 (by decide) ?_
            have ej_52 : zb (gLf K i) = nI 0 := (by unfold gLf; rw [decide_eq_false (fun h => h c_51)]; rfl)
            refine zz_top ej_52.symm ?_
            exact j66 ls (lv_sub hl [0, 1, 2, 3, 4, 5, 6, 7] rfl)
          · skip
            have c_51 : ¬ (i % 10) ≤ 0 := fun h => c_51 ((nI_leI (a := (i % 10)) (b := 0) (by omega) (by omega)).mpr h)
            refine lv_aload_n hx hb dL_areSeatsSo_48 rfl (lv_at hl 6 rfl) ?_
            refine lv_iload hx hb dL_areSeatsSo_49 (lv_at hl 3 rfl) ?_
            refine lv_iconst (v := nI 1) hx hb dL_areSeatsSo_51 (by decide) ?_
            refine lv_isub hx hb dL_areSeatsSo_52 ?_
            refine zz_top (y := nI (i - 1)) (pk_sub (by omega)) ?_
            refine zq_rV (As := [.int (nI (i - 1))]) (rest := []) ⟨hx, hb, hml, hown, hts⟩ (kQ_state l D cI cZ ad K (i - 1) (by omega)) (cwV 1 hts gL_areSeatsSo_X5_state rfl rfl rfl (by decide +kernel) ⟨(Nat.le_of_ble_eq_true rfl), (Nat.le_of_ble_eq_true rfl)⟩) hK hP hE.1 (ci := 5) (q0 := 0) rfl rfl rfl rfl hl.1 rfl (Nat.le_of_ble_eq_true rfl) dL_areSeatsSo_53 ⟨(Nat.le_of_ble_eq_true rfl), (Nat.le_of_ble_eq_true rfl)⟩ ?_
            refine lv_iconst (v := nI 3) hx hb dL_areSeatsSo_56 (by decide) ?_
            refine lv_irem hx hb dL_areSeatsSo_57 (by decide) ?_
            refine zz_top (y := gRem (sState K (i - 1)) 3) rfl ?_
            refine lv_if_ne (tgt := 65) hx hb dL_areSeatsSo_58 (by decide) (fun c_53 => ?_) (fun c_53 => ?_)
            · skip
              have c_53 : ¬ gRem (sState K (i - 1)) 3 = 0 := c_53
              refine lv_iconst (v := nI 0) hx hb dL_areSeatsSo_65 (by decide) ?_
              have ej_54 : zb (gLf K i) = nI 0 := (by unfold gLf; rw [decide_eq_true c_51, show gOp K (i - 1) = false from decide_eq_false c_53]; rfl)
              refine zz_top ej_54.symm ?_
              exact j66 ls (lv_sub hl [0, 1, 2, 3, 4, 5, 6, 7] rfl)
            · skip
              have c_53 : gRem (sState K (i - 1)) 3 = 0 := c_53
              refine lv_iconst (v := nI 1) hx hb dL_areSeatsSo_61 (by decide) ?_
              refine lv_goto (tgt := 66) hx hb dL_areSeatsSo_62 (by decide) ?_
              have ej_55 : zb (gLf K i) = nI 1 := (by unfold gLf; rw [decide_eq_true c_51, show gOp K (i - 1) = true from decide_eq_true c_53]; rfl)
              refine zz_top ej_55.symm ?_
              exact j66 ls (lv_sub hl [0, 1, 2, 3, 4, 5, 6, 7] rfl)
        refine lv_iload hx hb dL_areSeatsSo_29 (lv_at hl 1 rfl) ?_
        refine lv_iconst (v := nI 3) hx hb dL_areSeatsSo_31 (by decide) ?_
        refine lv_irem hx hb dL_areSeatsSo_32 (by decide) ?_
        refine zz_top (y := gRem (sState K i) 3) rfl ?_
        refine lv_if_ne (tgt := 40) hx hb dL_areSeatsSo_33 (by decide) (fun c_56 => ?_) (fun c_56 => ?_)
        · skip
          have c_56 : ¬ gRem (sState K i) 3 = 0 := c_56
          refine lv_iconst (v := nI 0) hx hb dL_areSeatsSo_40 (by decide) ?_
          have ej_57 : zb (gOp K i) = nI 0 := (congrArg zb (show gOp K i = false from decide_eq_false c_56))
          refine zz_top ej_57.symm ?_
          exact j41 ls (lv_sub hl [0, 1, 2, 3, 4, 5, 6] rfl)
        · skip
          have c_56 : gRem (sState K i) 3 = 0 := c_56
          refine lv_iconst (v := nI 1) hx hb dL_areSeatsSo_36 (by decide) ?_
          refine lv_goto (tgt := 41) hx hb dL_areSeatsSo_37 (by decide) ?_
          have ej_58 : zb (gOp K i) = nI 1 := (congrArg zb (show gOp K i = true from decide_eq_true c_56))
          refine zz_top ej_58.symm ?_
          exact j41 ls (lv_sub hl [0, 1, 2, 3, 4, 5, 6] rfl)
  have ei_a_2 : nI (gHc K 0) = nI 0 := rfl
  exact lp_a (60 - 0 + 1) 0 (by omega) (by omega) (by omega)  ls (by rw [ei_a_2]; exact lv_sub hl [0, 1, 2, 3, 4] rfl)
set_option maxHeartbeats 8000000 in
set_option maxRecDepth 100000 in
theorem kL_isQueueSo (l : Launch) (hl9 : l.stackTraces = false) (D : va_G) (cI cZ : ClassId) (ad : Nat → Nat) (K : kS) (sz : Nat)  (hqu : bQueue K) (hmo : ¬ zsm (K 1) 8 < K 0 2) : zMh l yL_isQueueSo wsL_isQueueSo ({ frames := 8, cells := 9, slots := 54, locals := 126 }) [.ref (ad 0)] D (zTy cI cZ) (kwA ad cI cZ K) (kwA ad cI cZ K) sz (nI 1) 9 54 := by
  refine Met.ofW (cc := cL_isQueueSo) (maxL := 5) (ret := (some .boolean)) (by decide) rfl ?_
  intro pP e s m args below meth c s₁ B hml hv
  obtain ⟨rfl, hsz, hP, hK, hD0, hE0, hN⟩ := hv
  have hx := B.exec
  have hb := B.bytes
  have hr := B.returns
  have hts := atoms_spec (ws := wsL_isQueueSo) B.pre
  have hown : s.vm.findClass RL = some m.cls := findClass_of_methodNamed B.named
  subst hsz
  have hD := hD0.self (sz := s.heap.size)
  generalize hAe : va_A (kwA ad cI cZ K) s.heap.size = A at hD hE0 ⊢
  have hE := hE0
  have hA : ∀ q : Nat, s.heap.size ≤ q → A q := fun q h => by rw [← hAe]; exact Or.inr h
  have hS : va_S A s.heap s.heap [] := va_S.rf
  have hl := lv_entry ([.ref (ad 0)]) (n := 5) (Nat.le_of_ble_eq_true rfl)
  rw [lg_entry_eq]
  generalize (lg_sl ([.ref (ad 0)]) ++ List.replicate (5 - (lg_sl ([.ref (ad 0)])).length) Slot.unset).toArray = ls at hl ⊢
  have hl : lv_has ls 5 [(0, .ref (ad 0))] := hl
  refine lv_iconst (v := nI 0) hx hb dL_isQueueSo_0 (by decide) ?_
  refine lv_istore_n (lv' := [(1, .int (nI 0)), (0, .ref (ad 0))]) hx hb dL_isQueueSo_1 rfl hl (by decide) rfl (fun ls hl => ?_)
  refine lv_iconst (v := nI 0) hx hb dL_isQueueSo_2 (by decide) ?_
  refine lv_istore_n (lv' := [(2, .int (nI 0)), (1, .int (nI 0)), (0, .ref (ad 0))]) hx hb dL_isQueueSo_3 rfl hl (by decide) rfl (fun ls hl => ?_)
  have lp_a : ∀ (n i : Nat), 0 ≤ i → i ≤ 8 → 8 - i < n → (∀ j, j < i → ¬ lAt K (nI j) = (-1)) → ∀ (H : Heap) (locs : List Loc), va_P D vwCl (kwA ad cI cZ K) H → va_D A (kwA ad cI cZ K) → va_S A s.heap H locs → ∀ ls : Array Slot, lv_has ls 5 [(2, .int (nI (gB K i))), (1, .int (nI i)), (0, .ref (ad 0))] → W pP l e ({ frames := 8, cells := 9, slots := 54, locals := 126 } : Room) s m ([.ref (ad 0)] : List Value).toArray below meth c H locs (0 + 1 * i) (0 + 6 * i) (MQ below (va_Qi (fun r (_ : Unit) => r = nI 1) (fun _ => zPo D (zTy cI cZ) A (kwA ad cI cZ K)) A) ([.ref (ad 0)] : List Value).toArray s 9 54 A) (F0 m 4 ls []) := by
    intro n
    induction n with
    | zero => intro i _ _ h; exact absurd h (Nat.not_lt_zero _)
    | succ n ih_a =>
      intro i hlo_a hin_a hdn_a hno H locs hP hD hS ls hl
      refine lv_aload_n hx hb dL_isQueueSo_4 rfl (lv_at hl 2 rfl) ?_
      refine lv_iload_n hx hb dL_isQueueSo_5 rfl (lv_at hl 1 rfl) ?_
      refine zy_S (As := [.ref (ad 0), .int (nI i)]) (rest := []) (wr := []) ⟨hx, hb, hml, hown, hts⟩ (kL_queueAt l hl9 D cI cZ ad K _ (nI i) ) (vx_cwSW 2 hts gL_isQueueSo_L_queueAt rfl rfl rfl (by decide +kernel) ⟨(Nat.le_of_ble_eq_true rfl), (Nat.le_of_ble_eq_true rfl)⟩) hK hP hD hS hA hE hN [0, 1, 2, 3, 4, 5, 6, 7, 8, 9, 10, 11, 12, 13, 14, 15, 16, 17, 18, 19, 20, 21, 22, 23, 24, 25] [] rfl rfl rfl rfl rfl (by decide) rfl hl.1 rfl (Nat.le_of_ble_eq_true rfl) dL_isQueueSo_6 ⟨show _ ≤ 9 by omega, show _ ≤ 54 by omega⟩ (fun H locs hP hD hS => ?_)
      have hP : va_P D vwCl (kwA ad cI cZ K) H := hP
      have hD : va_D A (kwA ad cI cZ K) := hD
      refine lv_if_lt (tgt := 28) hx hb dL_isQueueSo_9 (by decide) (fun c_1 => ?_) (fun c_1 => ?_)
      · skip
        have c_1 : lAt K (nI i) < 0 := c_1
        refine lv_iconst (v := nI 0) hx hb dL_isQueueSo_28 (by decide) ?_
        refine lv_istore_n (lv' := [(3, .int (nI 0)), (2, .int (nI (gB K i))), (1, .int (nI i)), (0, .ref (ad 0))]) hx hb dL_isQueueSo_29 rfl hl (by decide) rfl (fun ls hl => ?_)
        refine lv_iconst (v := nI 0) hx hb dL_isQueueSo_30 (by decide) ?_
        refine lv_istore (lv' := [(4, .int (nI 0)), (3, .int (nI 0)), (2, .int (nI (gB K i))), (1, .int (nI i)), (0, .ref (ad 0))]) hx hb dL_isQueueSo_31 hl (by decide) rfl (fun ls hl => ?_)
        have lp_b : ∀ (n p : Nat), 0 ≤ p → p ≤ 8 → 8 - p < n → ∀ (H : Heap) (locs : List Loc), va_P D vwCl (kwA ad cI cZ K) H → va_D A (kwA ad cI cZ K) → va_S A s.heap H locs → ∀ ls : Array Slot, lv_has ls 5 [(4, .int (nI p)), (3, .int (zsm (K 1) p)), (2, .int (nI (gB K i))), (1, .int (nI i)), (0, .ref (ad 0))] → W pP l e ({ frames := 8, cells := 9, slots := 54, locals := 126 } : Room) s m ([.ref (ad 0)] : List Value).toArray below meth c H locs (0 + 1 * i + 1) (0 + 6 * i + 6) (MQ below (va_Qi (fun r (_ : Unit) => r = nI 1) (fun _ => zPo D (zTy cI cZ) A (kwA ad cI cZ K)) A) ([.ref (ad 0)] : List Value).toArray s 9 54 A) (F0 m 33 ls []) := by
          intro n
          induction n with
          | zero => intro p _ _ h; exact absurd h (Nat.not_lt_zero _)
          | succ n ih_b =>
            intro p hlo_b hin_b hdn_b  H locs hP hD hS ls hl
            refine lv_iload hx hb dL_isQueueSo_33 (lv_at hl 0 rfl) ?_
            refine lv_bipush (v := nI 8) hx hb dL_isQueueSo_35 (by decide) ?_
            refine lv_icmp_ge (tgt := 76) hx hb dL_isQueueSo_37 (by decide) (fun c_2 => ?_) (fun c_2 => ?_)
            · skip
              have c_2 := (nI_leI (a := 8) (b := p) (by omega) (by omega)).mp c_2
              have hp8 : p = 8 := by omega
              subst hp8
              refine lv_aload_n hx hb dL_isQueueSo_76 rfl (lv_at hl 4 rfl) ?_
              refine zq_rV (As := []) (rest := []) ⟨hx, hb, hml, hown, hts⟩ (kQ_served l D cI cZ ad K  ) (cwV 0 hts gL_isQueueSo_X5_served rfl rfl rfl (by decide +kernel) ⟨(Nat.le_of_ble_eq_true rfl), (Nat.le_of_ble_eq_true rfl)⟩) hK hP hE.1 (ci := 5) (q0 := 0) rfl rfl rfl rfl hl.1 rfl (Nat.le_of_ble_eq_true rfl) dL_isQueueSo_77 ⟨show _ ≤ 9 by omega, show _ ≤ 54 by omega⟩ ?_
              refine lv_istore (lv' := [(4, .int (lServ K)), (3, .int (zsm (K 1) 8)), (2, .int (nI (gB K i))), (1, .int (nI i)), (0, .ref (ad 0))]) hx hb dL_isQueueSo_80 hl (by decide) rfl (fun ls hl => ?_)
              refine lv_iload_n hx hb dL_isQueueSo_82 rfl (lv_at hl 3 rfl) ?_
              refine lv_bipush (v := nI 8) hx hb dL_isQueueSo_83 (by decide) ?_
              refine lv_icmp_gt (tgt := 116) hx hb dL_isQueueSo_85 (by decide) (fun c_3 => ?_) (fun c_3 => ?_)
              · skip
                have c_3 := (nI_ltI (a := 8) (b := i) (by omega) (by omega)).mp c_3
                omega
              · skip
                have c_3 : ¬ 8 < i := fun h => c_3 ((nI_ltI (a := 8) (b := i) (by omega) (by omega)).mpr h)
                refine lv_iload_n hx hb dL_isQueueSo_88 rfl (lv_at hl 1 rfl) ?_
                refine lv_aload_n hx hb dL_isQueueSo_89 rfl (lv_at hl 4 rfl) ?_
                refine zq_rV (As := []) (rest := [.int (zsm (K 1) 8)]) ⟨hx, hb, hml, hown, hts⟩ (kQ_takings l D cI cZ ad K  ) (cwV 0 hts gL_isQueueSo_X5_takings rfl rfl rfl (by decide +kernel) ⟨(Nat.le_of_ble_eq_true rfl), (Nat.le_of_ble_eq_true rfl)⟩) hK hP hE.1 (ci := 5) (q0 := 0) rfl rfl rfl rfl hl.1 rfl (Nat.le_of_ble_eq_true rfl) dL_isQueueSo_90 ⟨show _ ≤ 9 by omega, show _ ≤ 54 by omega⟩ ?_
                refine lv_icmp_lt (tgt := 116) hx hb dL_isQueueSo_93 (by decide) (fun c_4 => ?_) (fun c_4 => ?_)
                · skip
                  have c_4 : zsm (K 1) 8 < K 0 2 := c_4
                  exact absurd c_4 hmo
                · skip
                  have c_4 : ¬ zsm (K 1) 8 < K 0 2 := c_4
                  refine lv_iload hx hb dL_isQueueSo_96 (lv_at hl 0 rfl) ?_
                  refine lv_iconst (v := (-1)) hx hb dL_isQueueSo_98 (by decide) ?_
                  refine lv_icmp_eq (tgt := 112) hx hb dL_isQueueSo_99 (by decide) (fun c_5 => ?_) (fun c_5 => ?_)
                  · skip
                    have c_5 : lServ K = (-1) := c_5
                    refine lv_iconst (v := nI 1) hx hb dL_isQueueSo_112 (by decide) ?_
                    refine lv_goto (tgt := 117) hx hb dL_isQueueSo_113 (by decide) ?_
                    refine W.widen (k := 9) (n := 54) (by omega) (by omega) ?_
                    have eR9 : nI 1 = nI 1 := rfl
                    exact W.zret (v := nI 1) hx hb hr rfl (fun t ht hW => ⟨⟨nI 1, (), rfl, eR9, by rw [ht]; exact hP, va_K.moved hW.alike hK, hD⟩, hS.F ht⟩) hS.2.2 dL_isQueueSo_117
                  · skip
                    have c_5 : ¬ lServ K = (-1) := c_5
                    have hsv := lServ_at c_5
                    refine lv_iload hx hb dL_isQueueSo_102 (lv_at hl 0 rfl) ?_
                    refine lv_aload_n hx hb dL_isQueueSo_104 rfl (lv_at hl 4 rfl) ?_
                    refine lv_iconst (v := nI 0) hx hb dL_isQueueSo_105 (by decide) ?_
                    refine zq_rV (As := [.int (nI 0)]) (rest := [.int (lServ K)]) ⟨hx, hb, hml, hown, hts⟩ (kQ_queueAt l D cI cZ ad K (nI 0) hsv.2) (cwV 1 hts gL_isQueueSo_X5_queueAt rfl rfl rfl (by decide +kernel) ⟨(Nat.le_of_ble_eq_true rfl), (Nat.le_of_ble_eq_true rfl)⟩) hK hP hE.1 (ci := 5) (q0 := 0) rfl rfl rfl rfl hl.1 rfl (Nat.le_of_ble_eq_true rfl) dL_isQueueSo_106 ⟨show _ ≤ 9 by omega, show _ ≤ 54 by omega⟩ ?_
                    refine lv_icmp_ne (tgt := 116) hx hb dL_isQueueSo_109 (by decide) (fun c_6 => ?_) (fun c_6 => ?_)
                    · skip
                      have c_6 : ¬ lServ K = lAt K (nI 0) := c_6
                      exact absurd hsv.1 c_6
                    · skip
                      have c_6 : lServ K = lAt K (nI 0) := c_6
                      refine lv_iconst (v := nI 1) hx hb dL_isQueueSo_112 (by decide) ?_
                      refine lv_goto (tgt := 117) hx hb dL_isQueueSo_113 (by decide) ?_
                      refine W.widen (k := 9) (n := 54) (by omega) (by omega) ?_
                      have eR9 : nI 1 = nI 1 := rfl
                      exact W.zret (v := nI 1) hx hb hr rfl (fun t ht hW => ⟨⟨nI 1, (), rfl, eR9, by rw [ht]; exact hP, va_K.moved hW.alike hK, hD⟩, hS.F ht⟩) hS.2.2 dL_isQueueSo_117
            · skip
              have c_2 : ¬ 8 ≤ p := fun h => c_2 ((nI_leI (a := 8) (b := p) (by omega) (by omega)).mpr h)
              refine lv_iload_n hx hb dL_isQueueSo_40 rfl (lv_at hl 1 rfl) ?_
              refine lv_aload_n hx hb dL_isQueueSo_41 rfl (lv_at hl 4 rfl) ?_
              refine lv_iload hx hb dL_isQueueSo_42 (lv_at hl 0 rfl) ?_
              refine zq_rV (As := [.int (nI p)]) (rest := [.int (zsm (K 1) p)]) ⟨hx, hb, hml, hown, hts⟩ (kQ_spent l D cI cZ ad K p (by omega)) (cwV 1 hts gL_isQueueSo_X5_spent rfl rfl rfl (by decide +kernel) ⟨(Nat.le_of_ble_eq_true rfl), (Nat.le_of_ble_eq_true rfl)⟩) hK hP hE.1 (ci := 5) (q0 := 0) rfl rfl rfl rfl hl.1 rfl (Nat.le_of_ble_eq_true rfl) dL_isQueueSo_44 ⟨show _ ≤ 9 by omega, show _ ≤ 54 by omega⟩ ?_
              refine lv_iadd hx hb dL_isQueueSo_47 ?_
              refine lv_istore_n (lv' := [(3, .int ((zsm (K 1) p) + (K 1 p))), (4, .int (nI p)), (2, .int (nI (gB K i))), (1, .int (nI i)), (0, .ref (ad 0))]) hx hb dL_isQueueSo_48 rfl hl (by decide) rfl (fun ls hl => ?_)
              refine lv_iload_n hx hb dL_isQueueSo_49 rfl (lv_at hl 2 rfl) ?_
              refine lv_iload hx hb dL_isQueueSo_50 (lv_at hl 1 rfl) ?_
              refine lv_ishr hx hb dL_isQueueSo_52 ?_
              refine lv_iconst (v := nI 1) hx hb dL_isQueueSo_53 (by decide) ?_
              refine lv_iand hx hb dL_isQueueSo_54 ?_
              refine zz_top (y := nI (gT K i p)) (gT_at hno (by omega)) ?_
              refine lv_iconst (v := nI 1) hx hb dL_isQueueSo_55 (by decide) ?_
              refine lv_icmp_ne (tgt := 70) hx hb dL_isQueueSo_56 (by decide) (fun c_7 => ?_) (fun c_7 => ?_)
              · skip
                have c_7 : ¬ nI (gT K i p) = nI 1 := c_7
                refine lv_iinc (v := nI (p + 1)) (lv' := [(4, .int (nI (p + 1))), (3, .int ((zsm (K 1) p) + (K 1 p))), (2, .int (nI (gB K i))), (1, .int (nI i)), (0, .ref (ad 0))]) hx hb dL_isQueueSo_70 hl (k := 1) rfl ((show nI p + Int32.ofInt 1 = nI p + nI 1 from rfl).trans (nI_add _ _)) (by decide) rfl (fun ls hl => ?_)
                refine lv_goto (tgt := 33) hx hb dL_isQueueSo_73 (by decide) ?_
                have es_8 : zsm (K 1) (p + 1) = (zsm (K 1) p) + (K 1 p) := rfl
                exact ih_b (p + 1) (by omega) (by omega) (by omega)  _ _ hP hD hS ls (by rw [es_8]; exact lv_sub hl [0, 1, 2, 3, 4] rfl)
              · skip
                have c_7 : nI (gT K i p) = nI 1 := c_7
                refine lv_aload_n hx hb dL_isQueueSo_59 rfl (lv_at hl 4 rfl) ?_
                refine lv_iload hx hb dL_isQueueSo_60 (lv_at hl 1 rfl) ?_
                refine zq_rV (As := [.int (nI p)]) (rest := []) ⟨hx, hb, hml, hown, hts⟩ (kQ_lapses l D cI cZ ad K p (by omega)) (cwV 1 hts gL_isQueueSo_X5_lapses rfl rfl rfl (by decide +kernel) ⟨(Nat.le_of_ble_eq_true rfl), (Nat.le_of_ble_eq_true rfl)⟩) hK hP hE.1 (ci := 5) (q0 := 0) rfl rfl rfl rfl hl.1 rfl (Nat.le_of_ble_eq_true rfl) dL_isQueueSo_62 ⟨show _ ≤ 9 by omega, show _ ≤ 54 by omega⟩ ?_
                refine lv_if_lt (tgt := 70) hx hb dL_isQueueSo_65 (by decide) (fun c_9 => ?_) (fun c_9 => ?_)
                · skip
                  have c_9 : kLapR K p < 0 := c_9
                  refine lv_iinc (v := nI (p + 1)) (lv' := [(4, .int (nI (p + 1))), (3, .int ((zsm (K 1) p) + (K 1 p))), (2, .int (nI (gB K i))), (1, .int (nI i)), (0, .ref (ad 0))]) hx hb dL_isQueueSo_70 hl (k := 1) rfl ((show nI p + Int32.ofInt 1 = nI p + nI 1 from rfl).trans (nI_add _ _)) (by decide) rfl (fun ls hl => ?_)
                  refine lv_goto (tgt := 33) hx hb dL_isQueueSo_73 (by decide) ?_
                  have es_10 : zsm (K 1) (p + 1) = (zsm (K 1) p) + (K 1 p) := rfl
                  exact ih_b (p + 1) (by omega) (by omega) (by omega)  _ _ hP hD hS ls (by rw [es_10]; exact lv_sub hl [0, 1, 2, 3, 4] rfl)
                · skip
                  have c_9 : ¬ kLapR K p < 0 := c_9
                  exact absurd (hqu p (by omega) (gB_in i hno p (gT_of c_7))) c_9
        have ei_b_3 : zsm (K 1) 0 = nI 0 := rfl
        exact lp_b (8 - 0 + 1) 0 (by omega) (by omega) (by omega)  _ _ hP hD hS ls (by rw [ei_b_3]; exact lv_sub hl [0, 1, 2, 3, 4] rfl)
      · skip
        have c_1 : ¬ lAt K (nI i) < 0 := c_1
        have hi7 : i < 8 := (Nat.lt_or_ge i 8).elim (fun h => h) (fun h => by have e : i = 8 := (by omega); rw [e, lAt_8] at c_1; exact absurd (by decide) c_1)
        have hne : ¬ lAt K (nI i) = (-1) := fun h => c_1 (lAt_neg.mpr h)
        have hno2 : ∀ j, j < i + 1 → ¬ lAt K (nI j) = (-1) := lt_succ_all hno hne
        refine lv_iload_n hx hb dL_isQueueSo_12 rfl (lv_at hl 0 rfl) ?_
        refine lv_iconst (v := nI 1) hx hb dL_isQueueSo_13 (by decide) ?_
        refine lv_aload_n hx hb dL_isQueueSo_14 rfl (lv_at hl 2 rfl) ?_
        refine lv_iload_n hx hb dL_isQueueSo_15 rfl (lv_at hl 1 rfl) ?_
        refine zq_rV (As := [.int (nI i)]) (rest := [.int (nI 1), .int (nI (gB K i))]) ⟨hx, hb, hml, hown, hts⟩ (kQ_queueAt l D cI cZ ad K (nI i) hne) (cwV 1 hts gL_isQueueSo_X5_queueAt rfl rfl rfl (by decide +kernel) ⟨(Nat.le_of_ble_eq_true rfl), (Nat.le_of_ble_eq_true rfl)⟩) hK hP hE.1 (ci := 5) (q0 := 0) rfl rfl rfl rfl hl.1 rfl (Nat.le_of_ble_eq_true rfl) dL_isQueueSo_16 ⟨show _ ≤ 9 by omega, show _ ≤ 54 by omega⟩ ?_
        refine lv_ishl hx hb dL_isQueueSo_19 ?_
        refine lv_ior hx hb dL_isQueueSo_20 ?_
        refine zz_top (y := nI (gB K (i + 1))) (gB_st hno2) ?_
        refine lv_istore_n (lv' := [(2, .int (nI (gB K (i + 1)))), (1, .int (nI i)), (0, .ref (ad 0))]) hx hb dL_isQueueSo_21 rfl hl (by decide) rfl (fun ls hl => ?_)
        refine lv_iinc (v := nI (i + 1)) (lv' := [(1, .int (nI (i + 1))), (2, .int (nI (gB K (i + 1)))), (0, .ref (ad 0))]) hx hb dL_isQueueSo_22 hl (k := 1) rfl ((show nI i + Int32.ofInt 1 = nI i + nI 1 from rfl).trans (nI_add _ _)) (by decide) rfl (fun ls hl => ?_)
        refine lv_goto (tgt := 4) hx hb dL_isQueueSo_25 (by decide) ?_
        refine W.widen (k := 0 + 1 * (i + 1)) (n := 0 + 6 * (i + 1)) (by omega) (by omega) ?_
        exact ih_a (i + 1) (by omega) (by omega) (by omega) hno2 _ _ hP hD hS ls (lv_sub hl [1, 0, 2] rfl)
  have ei_a_2 : nI (gB K 0) = nI 0 := rfl
  exact lp_a (8 - 0 + 1) 0 (by omega) (by omega) (by omega) (fun j hj => absurd hj (Nat.not_lt_zero j)) _ _ hP hD hS ls (by rw [ei_a_2]; exact lv_sub hl [0, 1, 2] rfl)
