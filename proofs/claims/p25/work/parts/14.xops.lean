set_option maxHeartbeats 4000000 in
set_option maxRecDepth 100000 in
theorem kX5_pass (l : Launch) (hl9 : l.stackTraces = false) (D : va_G) (cI cZ : ClassId) (ad : Nat → Nat) (K : kS) (sz : Nat) (x : Int32) (hok : kHok K) : zMi l yX5_pass wsX5_pass ({ frames := 6, cells := 1, slots := 6, locals := 82 }) [.ref (ad 0), .int x] D (zTy cI cZ) (kwA ad cI cZ K) (kwA ad cI cZ (kPassS (kPassB K x) 8)) sz (kPassT K x) (nI (kPassN (kPassB K x) 8)) 1 6 := by
  refine vx_ofW (cc := cX5_pass) (maxL := 4) (ret := (some .int)) (by decide) rfl ?_
  intro pP e s m args below meth c s₁ B hml ht9 hv
  obtain ⟨rfl, hsz, hP, hK, hD0, hE0⟩ := hv
  have hx := B.exec
  have hb := B.bytes
  have hr := B.returns
  have hts := atoms_spec (ws := wsX5_pass) B.pre
  have hown : s.vm.findClass RX5 = some m.cls := findClass_of_methodNamed B.named
  have hlocks := B.notSynchronized
  subst hsz
  have hD := hD0.self (sz := s.heap.size)
  generalize hAe : va_A (kwA ad cI cZ K) s.heap.size = A at hD hE0 ⊢
  have hE := hE0
  have hA : ∀ q : Nat, s.heap.size ≤ q → A q := fun q h => by rw [← hAe]; exact Or.inr h
  have hS : va_S A s.heap s.heap [] := va_S.rf
  have hinX1 : ∀ w ∈ u_ws RX1 TX1 7, w ∈ wsX5_pass := by decide +kernel
  have hinX5 : ∀ w ∈ u_ws RX5 TX5 9, w ∈ wsX5_pass := by decide +kernel
  have hl := lv_entry ([.ref (ad 0), .int x]) (n := 4) (Nat.le_of_ble_eq_true rfl)
  rw [lg_entry_eq]
  generalize (lg_sl ([.ref (ad 0), .int x]) ++ List.replicate (4 - (lg_sl ([.ref (ad 0), .int x])).length) Slot.unset).toArray = ls at hl ⊢
  have hl : lv_has ls 4 [(0, .ref (ad 0)), (1, .int x)] := hl
  refine lv_iload_n hx hb dX5_pass_0 rfl (lv_at hl 1 rfl) ?_
  refine lv_iconst (v := nI 1) hx hb dX5_pass_1 (by decide) ?_
  refine lv_icmp_lt (tgt := 12) hx hb dX5_pass_2 (by decide) (fun c_1 => ?_) (fun c_1 => ?_)
  · skip
    have c_1 : x < nI 1 := c_1
    have hT9 : kPassT K x = nI 2 := (by simp [kPassT, zseq, c_1])
    exact zx_throw (own := RX5) (cls := "java/lang/IllegalArgumentException") (text := "minutes is out of range") (names := ["java/lang/RuntimeException", "java/lang/Exception"]) hx hb hl9 hown (by decide +kernel) (by decide +kernel) (hts (.classLink RX5 58 "java/lang/IllegalArgumentException") (List.mem_of_getElem? (i := 1) rfl)) (hts (.initialized "java/lang/IllegalArgumentException") (List.mem_of_getElem? (i := 2) rfl)) (hE.2.1 (60, "minutes is out of range") (List.mem_of_getElem? (i := 0) rfl)) (vx_hat (L := vx_atS RX5 62 "java/lang/IllegalArgumentException" ["java/lang/RuntimeException", "java/lang/Exception"]) (B := [.castable "java/lang/IllegalArgumentException" "java/lang/IllegalArgumentException", .declares ⟨"java/lang/RuntimeException", "<init>", "(Ljava/lang/String;)V"⟩, .declares ⟨"java/lang/Exception", "<init>", "(Ljava/lang/String;)V"⟩, .declares ⟨"java/lang/Throwable", "<init>", "(Ljava/lang/String;)V"⟩]) (fun w hw => hts w ((by decide +kernel : ∀ w ∈ (vx_atS RX5 62 "java/lang/IllegalArgumentException" ["java/lang/RuntimeException", "java/lang/Exception"]).filter goodWord, w ∈ wsX5_pass) w hw)) (by decide +kernel) (vx_c (va_Nw.use rfl (hE.1 (.castable "java/lang/IllegalArgumentException" "java/lang/IllegalArgumentException") (List.mem_of_getElem? (i := 39) rfl))) (vx_c (va_Nw.use rfl (hE.1 (.declares ⟨"java/lang/RuntimeException", "<init>", "(Ljava/lang/String;)V"⟩) (List.mem_of_getElem? (i := 41) rfl))) (vx_c (va_Nw.use rfl (hE.1 (.declares ⟨"java/lang/Exception", "<init>", "(Ljava/lang/String;)V"⟩) (List.mem_of_getElem? (i := 42) rfl))) (vx_c (va_Nw.use rfl (hE.1 (.declares ⟨"java/lang/Throwable", "<init>", "(Ljava/lang/String;)V"⟩) (List.mem_of_getElem? (i := 43) rfl))) (vx_n)))))) (by decide +kernel) hE hP hK hD hS (hl.1.trans hml.symm) dX5_pass_12 dX5_pass_15 dX5_pass_16 dX5_pass_18 dX5_pass_21 ht9 (Nat.le_of_ble_eq_true rfl) (Nat.le_of_ble_eq_true rfl) (Nat.le_of_ble_eq_true rfl) (Nat.le_of_ble_eq_true rfl) hlocks (by rw [hT9]; decide) (by rw [hT9, zN_2]) (Nat.le_of_ble_eq_true rfl) (Nat.le_of_ble_eq_true rfl)
  · skip
    have c_1 : ¬ x < nI 1 := c_1
    refine lv_iload_n hx hb dX5_pass_5 rfl (lv_at hl 1 rfl) ?_
    refine lv_sipush (v := nI 500) hx hb dX5_pass_6 (by decide) ?_
    refine lv_icmp_le (tgt := 22) hx hb dX5_pass_9 (by decide) (fun c_2 => ?_) (fun c_2 => ?_)
    · skip
      have c_2 : x ≤ nI 500 := c_2
      refine lv_aload_n hx hb dX5_pass_22 rfl (lv_at hl 0 rfl) ?_
      refine va_get (D := D) (ci := 5) (v := .int (K 0 0)) (C := RX5) (T := TX5) (N := 9) hx hb hts hinX5 hown hK hP 0 rfl rfl 0 (by decide) (hts (.fieldLink RX5 9 "AuditoriumKeys" "now" "I") (List.mem_of_getElem? (i := 5) rfl)) (fun _ h9 => h9) rfl dX5_pass_23 ?_
      refine lv_iload_n hx hb dX5_pass_26 rfl (lv_at hl 1 rfl) ?_
      refine lv_iadd hx hb dX5_pass_27 ?_
      refine lv_sipush (v := nI 10000) hx hb dX5_pass_28 (by decide) ?_
      refine lv_icmp_le (tgt := 44) hx hb dX5_pass_31 (by decide) (fun c_3 => ?_) (fun c_3 => ?_)
      · skip
        have c_3 : (K 0 0) + x ≤ nI 10000 := c_3
        refine lv_aload_n hx hb dX5_pass_44 rfl (lv_at hl 0 rfl) ?_
        refine lv_dup hx hb dX5_pass_45 rfl ?_
        refine va_get (D := D) (ci := 5) (v := .int (K 0 0)) (C := RX5) (T := TX5) (N := 9) hx hb hts hinX5 hown hK hP 0 rfl rfl 0 (by decide) (hts (.fieldLink RX5 9 "AuditoriumKeys" "now" "I") (List.mem_of_getElem? (i := 5) rfl)) (fun _ h9 => h9) rfl dX5_pass_46 ?_
        refine lv_iload_n hx hb dX5_pass_49 rfl (lv_at hl 1 rfl) ?_
        refine lv_iadd hx hb dX5_pass_50 ?_
        refine va_put (D := D) (ci := 5) (v := .int ((K 0 0) + x)) (ty := .int) (C := RX5) (T := TX5) (N := 9) hx hb hts hinX5 tyX5 tyX5_ok nmX5 hown hK hP hD hS 0 rfl rfl 0 (by decide) (hts (.fieldLink RX5 9 "AuditoriumKeys" "now" "I") (List.mem_of_getElem? (i := 5) rfl)) (fun _ h9 => h9) rfl (by decide +kernel) rfl rfl (Nat.le_of_ble_eq_true rfl) dX5_pass_51 (fun H locs hP hD hS => ?_)
        have hP : va_P D vwCl (kwA ad cI cZ (setA K 0 (upd (K 0) 0 ((K 0 0) + x)))) _ := hP
        have hD : va_D A (kwA ad cI cZ (setA K 0 (upd (K 0) 0 ((K 0 0) + x)))) := hD
        refine lv_iconst (v := nI 0) hx hb dX5_pass_54 (by decide) ?_
        refine lv_istore_n (lv' := [(2, .int (nI 0)), (0, .ref (ad 0)), (1, .int x)]) hx hb dX5_pass_55 rfl hl (by decide) rfl (fun ls hl => ?_)
        refine lv_iconst (v := nI 0) hx hb dX5_pass_56 (by decide) ?_
        refine lv_istore_n (lv' := [(3, .int (nI 0)), (2, .int (nI 0)), (0, .ref (ad 0)), (1, .int x)]) hx hb dX5_pass_57 rfl hl (by decide) rfl (fun ls hl => ?_)
        have lp_a : ∀ (n i : Nat), 0 ≤ i → i ≤ 8 → 8 - i < n → (kHok (kPassS (kPassB K x) i)) → ∀ (H : Heap) (locs : List Loc), va_P D vwCl (kwA ad cI cZ (kPassS (kPassB K x) i)) H → va_D A (kwA ad cI cZ (kPassS (kPassB K x) i)) → va_S A s.heap H locs → ∀ ls : Array Slot, lv_has ls 4 [(3, .int (nI i)), (2, .int (nI (kPassN (kPassB K x) i))), (0, .ref (ad 0)), (1, .int x)] → W pP l e ({ frames := 6, cells := 1, slots := 6, locals := 82 } : Room) s m ([.ref (ad 0), .int x] : List Value).toArray below meth c H locs 0 0 (vx_MQ below (va_Qi (fun r (_ : Unit) => kPassT K x = nI 0 ∧ r = nI (kPassN (kPassB K x) 8)) (fun _ => zPo D (zTy cI cZ) A (kwA ad cI cZ (kPassS (kPassB K x) 8))) A) (vx_X (fun _ : Unit => True) (zXc (kPassT K x) D (zTy cI cZ) A (kwA ad cI cZ K)) A) ([.ref (ad 0), .int x] : List Value).toArray s 1 6 A) (F0 m 58 ls []) := by
          intro n
          induction n with
          | zero => intro i _ _ h; exact absurd h (Nat.not_lt_zero _)
          | succ n ih_a =>
            intro i hlo_a hin_a hdn_a hok2 H locs hP hD hS ls hl
            refine lv_iload_n hx hb dX5_pass_58 rfl (lv_at hl 0 rfl) ?_
            refine lv_bipush (v := nI 8) hx hb dX5_pass_59 (by decide) ?_
            refine lv_icmp_ge (tgt := 106) hx hb dX5_pass_61 (by decide) (fun c_4 => ?_) (fun c_4 => ?_)
            · skip
              have c_4 := (nI_leI (a := 8) (b := i) (by omega) (by omega)).mp c_4
              have hi8 : i = 8 := by omega
              subst hi8
              refine lv_iload_n hx hb dX5_pass_106 rfl (lv_at hl 1 rfl) ?_
              have hT9 : kPassT K x = nI 0 := (by simp [kPassT, zseq, c_1, c_2, c_3, hok2, hin_a, c_4])
              have hP9 := hP
              have hD9 := hD
              refine W.widen (k := 1) (n := 6) (Nat.le_of_ble_eq_true rfl) (Nat.le_of_ble_eq_true rfl) ?_
              have eR9 : nI (kPassN (kPassB K x) 8) = nI (kPassN (kPassB K x) 8) := rfl
              exact vx_ret (W.iret (v := nI (kPassN (kPassB K x) 8)) hx hb hr (fun t ht hW => ⟨⟨nI (kPassN (kPassB K x) 8), (), rfl, ⟨hT9, eR9⟩, by rw [ht]; exact hP9, va_K.moved hW.alike hK, hD9⟩, hS.F ht⟩) hS.2.2 dX5_pass_107)
            · skip
              have c_4 : ¬ 8 ≤ i := fun h => c_4 ((nI_leI (a := 8) (b := i) (by omega) (by omega)).mpr h)
              refine lv_aload_n hx hb dX5_pass_64 rfl (lv_at hl 2 rfl) ?_
              refine va_get (D := D) (ci := 5) (v := .ref (ad 8)) (C := RX5) (T := TX5) (N := 9) hx hb hts hinX5 hown hK hP 0 rfl rfl 6 (by decide) (hts (.fieldLink RX5 40 "AuditoriumKeys" "holds" "LAuditoriumKeys$Holds;") (List.mem_of_getElem? (i := 6) rfl)) (fun _ h9 => h9) rfl dX5_pass_65 ?_
              refine lv_iload_n hx hb dX5_pass_68 rfl (lv_at hl 0 rfl) ?_
              refine zc_rVN (As := [.int (nI i)]) (rest := []) ⟨hx, hb, hml, hown, hts⟩ (kX1_isThere l D cI cZ ad (kPassS (kPassB K x) i) i (by omega)) ⟨va_cnB 1 hts gX5_pass_X1_isThere_n70 rfl rfl rfl (hE.1 (.methodLinkNest RX5 70 yX1_isThere "AuditoriumKeys") (List.mem_of_getElem? (i := 15) rfl)) (hts (.initialized RX1) (List.mem_of_getElem? (i := 8) rfl)) (by decide +kernel) ⟨(Nat.le_of_ble_eq_true rfl), (Nat.le_of_ble_eq_true rfl)⟩, (hts (.instanceMethod yX1_isThere) (List.mem_of_getElem? (i := 7) rfl)), (hts (.selects RX1 yX1_isThere yX1_isThere) (List.mem_of_getElem? (i := 9) rfl))⟩ hK (hP.sub (ws' := (kwH ad cI (kPassS (kPassB K x) i))) [8, 9, 10, 11, 12, 13, 14, 15] rfl) (ci := 1) (q0 := 0) rfl rfl rfl rfl hl.1 rfl (Nat.le_of_ble_eq_true rfl) dX5_pass_69 ⟨Nat.le_of_ble_eq_true rfl, Nat.le_of_ble_eq_true rfl⟩ ?_
              refine lv_if_eq (tgt := 100) hx hb dX5_pass_72 (by decide) (fun c_5 => ?_) (fun c_5 => ?_)
              · skip
                have c_5 := zb_f c_5
                have hok3 : kHok (kPassS (kPassB K x) (i + 1)) := by simp only [kPassS]; rw [if_neg (by rw [c_5]; decide)]; exact hok2
                refine lv_iinc (v := nI (i + 1)) (lv' := [(3, .int (nI (i + 1))), (2, .int (nI (kPassN (kPassB K x) i))), (0, .ref (ad 0)), (1, .int x)]) hx hb dX5_pass_100 hl (k := 0) rfl ((show nI i + Int32.ofInt 1 = nI i + nI 1 from rfl).trans (nI_add _ _)) (by decide) rfl (fun ls hl => ?_)
                refine lv_goto (tgt := 58) hx hb dX5_pass_103 (by decide) ?_
                have es_6 : nI (kPassN (kPassB K x) (i + 1)) = nI (kPassN (kPassB K x) i) := (by simp only [kPassN]; rw [if_neg (by rw [c_5]; decide)])
                have eK_7 : (kPassS (kPassB K x) (i + 1)) = (kPassS (kPassB K x) i) := (by simp only [kPassS]; rw [if_neg (by rw [c_5]; decide)])
                exact ih_a (i + 1) (by omega) (by omega) (by omega) hok3 _ _ (by rw [eK_7]; exact hP) (by rw [eK_7]; exact hD) hS ls (by rw [es_6]; exact lv_sub hl [0, 1, 2, 3] rfl)
              · skip
                have c_5 := zb_t c_5
                obtain ⟨f9, m9, hf9, hm9, hfm9, hbc9⟩ := hok2 i (by omega) c_5
                refine lv_aload_n hx hb dX5_pass_75 rfl (lv_at hl 2 rfl) ?_
                refine va_get (D := D) (ci := 5) (v := .ref (ad 8)) (C := RX5) (T := TX5) (N := 9) hx hb hts hinX5 hown hK hP 0 rfl rfl 6 (by decide) (hts (.fieldLink RX5 40 "AuditoriumKeys" "holds" "LAuditoriumKeys$Holds;") (List.mem_of_getElem? (i := 6) rfl)) (fun _ h9 => h9) rfl dX5_pass_76 ?_
                refine va_getN (D := D) (ci := 1) (v := .ref (ad 15)) (C := RX1) (T := TX1) (N := 7) hx hb hts hinX1 hown hK hP 8 rfl rfl 6 (by decide) (va_Nw.use rfl (hE.1 (.fieldLinkNest RX5 74 "AuditoriumKeys$Holds" "lapse" "[I" "AuditoriumKeys") (List.mem_of_getElem? (i := 0) rfl))) (fun _ h9 => h9) rfl dX5_pass_79 ?_
                refine lv_iload_n hx hb dX5_pass_82 rfl (lv_at hl 0 rfl) ?_
                refine zz_iald hx hb hK hP 15 0 rfl rfl i (by omega) (by decide) dX5_pass_83 ?_
                refine lv_aload_n hx hb dX5_pass_84 rfl (lv_at hl 2 rfl) ?_
                refine va_get (D := D) (ci := 5) (v := .int ((kPassS (kPassB K x) i) 0 0)) (C := RX5) (T := TX5) (N := 9) hx hb hts hinX5 hown hK hP 0 rfl rfl 0 (by decide) (hts (.fieldLink RX5 9 "AuditoriumKeys" "now" "I") (List.mem_of_getElem? (i := 5) rfl)) (fun _ h9 => h9) rfl dX5_pass_85 ?_
                refine lv_icmp_gt (tgt := 100) hx hb dX5_pass_88 (by decide) (fun c_8 => ?_) (fun c_8 => ?_)
                · skip
                  have c_8 : (kPassS (kPassB K x) i) 0 0 < (kPassS (kPassB K x) i) 15 i := c_8
                  have hok3 : kHok (kPassS (kPassB K x) (i + 1)) := by simp only [kPassS]; rw [if_pos c_5, if_pos c_8]; exact hok2
                  refine lv_iinc (v := nI (i + 1)) (lv' := [(3, .int (nI (i + 1))), (2, .int (nI (kPassN (kPassB K x) i))), (0, .ref (ad 0)), (1, .int x)]) hx hb dX5_pass_100 hl (k := 0) rfl ((show nI i + Int32.ofInt 1 = nI i + nI 1 from rfl).trans (nI_add _ _)) (by decide) rfl (fun ls hl => ?_)
                  refine lv_goto (tgt := 58) hx hb dX5_pass_103 (by decide) ?_
                  have es_9 : nI (kPassN (kPassB K x) (i + 1)) = nI (kPassN (kPassB K x) i) := (by simp only [kPassN]; rw [if_pos c_5, if_pos c_8])
                  have eK_10 : (kPassS (kPassB K x) (i + 1)) = (kPassS (kPassB K x) i) := (by simp only [kPassS]; rw [if_pos c_5, if_pos c_8])
                  exact ih_a (i + 1) (by omega) (by omega) (by omega) hok3 _ _ (by rw [eK_10]; exact hP) (by rw [eK_10]; exact hD) hS ls (by rw [es_9]; exact lv_sub hl [0, 1, 2, 3] rfl)
                · skip
                  have c_8 : ¬ (kPassS (kPassB K x) i) 0 0 < (kPassS (kPassB K x) i) 15 i := c_8
                  have hok3 : kHok (kPassS (kPassB K x) (i + 1)) := by simp only [kPassS]; rw [if_pos c_5, if_neg c_8]; exact kHok_back hok2
                  have hf7 : (kPassS (kPassB K x) i 9 i).toNatClampNeg = f9 := by rw [hf9]; exact nI_clamp (by omega)
                  have hm7 : (kPassS (kPassB K x) i 10 i).toNatClampNeg = m9 := by rw [hm9]; exact nI_clamp (by omega)
                  refine lv_aload_n hx hb dX5_pass_91 rfl (lv_at hl 2 rfl) ?_
                  refine lv_iload_n hx hb dX5_pass_92 rfl (lv_at hl 0 rfl) ?_
                  refine zx_Vi (As := [.int (nI i)]) (rest := []) (wr := []) ⟨hx, hb, hml, hown, hts⟩ (kX5_giveBack l hl9 D cI cZ ad (kPassS (kPassB K x) i) _ i f9 m9 (by omega) hf9 hm9 hfm9 hbc9) (cwV 1 hts gX5_pass_X5_giveBack rfl rfl rfl (by decide +kernel) ⟨(Nat.le_of_ble_eq_true rfl), (Nat.le_of_ble_eq_true rfl)⟩) hK hP hD hS hA hE [0, 1, 2, 3, 4, 5, 6, 7, 8, 9, 10, 11, 12, 13, 14, 15, 16, 17, 18, 19, 20, 21, 22, 23, 24, 25] [] rfl rfl rfl rfl rfl (by decide) (ci := 5) (q0 := 0) rfl rfl rfl rfl hl.1 rfl (Nat.le_of_ble_eq_true rfl) dX5_pass_93 ⟨(Nat.le_of_ble_eq_true rfl), (Nat.le_of_ble_eq_true rfl)⟩ (fun E ce q9 H locs h0 hE9 hP hD hS hce hcv hcl => ?_) (fun ht_11 H locs hP hD hS => ?_)
                  · skip
                    exact absurd rfl h0
                  · skip
                    have hP : va_P D vwCl (kwA ad cI cZ (kBack (kPassS (kPassB K x) i) i f9 m9)) _ := hP
                    have hD : va_D A (kwA ad cI cZ (kBack (kPassS (kPassB K x) i) i f9 m9)) := hD
                    refine lv_pop hx hb dX5_pass_96 rfl ?_
                    refine lv_iinc (v := nI ((kPassN (kPassB K x) i) + 1)) (lv' := [(2, .int (nI ((kPassN (kPassB K x) i) + 1))), (3, .int (nI i)), (0, .ref (ad 0)), (1, .int x)]) hx hb dX5_pass_97 hl (k := 1) rfl ((show nI (kPassN (kPassB K x) i) + Int32.ofInt 1 = nI (kPassN (kPassB K x) i) + nI 1 from rfl).trans (nI_add _ _)) (by decide) rfl (fun ls hl => ?_)
                    refine lv_iinc (v := nI (i + 1)) (lv' := [(3, .int (nI (i + 1))), (2, .int (nI ((kPassN (kPassB K x) i) + 1))), (0, .ref (ad 0)), (1, .int x)]) hx hb dX5_pass_100 hl (k := 1) rfl ((show nI i + Int32.ofInt 1 = nI i + nI 1 from rfl).trans (nI_add _ _)) (by decide) rfl (fun ls hl => ?_)
                    refine lv_goto (tgt := 58) hx hb dX5_pass_103 (by decide) ?_
                    have es_12 : nI (kPassN (kPassB K x) (i + 1)) = nI ((kPassN (kPassB K x) i) + 1) := (by simp only [kPassN]; rw [if_pos c_5, if_neg c_8])
                    have eK_13 : (kPassS (kPassB K x) (i + 1)) = (kBack (kPassS (kPassB K x) i) i f9 m9) := (by simp only [kPassS]; rw [if_pos c_5, if_neg c_8]; unfold kBackAt; rw [hf7, hm7])
                    exact ih_a (i + 1) (by omega) (by omega) (by omega) hok3 _ _ (by rw [eK_13]; exact hP) (by rw [eK_13]; exact hD) hS ls (by rw [es_12]; exact lv_sub hl [0, 1, 2, 3] rfl)
        have ei_a_2 : nI (kPassN (kPassB K x) 0) = nI 0 := rfl
        have eK_a : (kPassS (kPassB K x) 0) = (setA K 0 (upd (K 0) 0 ((K 0 0) + x))) := rfl
        exact lp_a (8 - 0 + 1) 0 (by omega) (by omega) (by omega) hok _ _ (by rw [eK_a]; exact hP) (by rw [eK_a]; exact hD) hS ls (by rw [ei_a_2]; exact lv_sub hl [0, 1, 2, 3] rfl)
      · skip
        have c_3 : ¬ (K 0 0) + x ≤ nI 10000 := c_3
        have hT9 : kPassT K x = nI 3 := (by simp [kPassT, zseq, c_1, c_2, c_3])
        exact zx_throw (own := RX5) (cls := "java/lang/IllegalStateException") (text := "the time would be above 10000") (names := ["java/lang/RuntimeException", "java/lang/Exception"]) hx hb hl9 hown (by decide +kernel) (by decide +kernel) (hts (.classLink RX5 65 "java/lang/IllegalStateException") (List.mem_of_getElem? (i := 3) rfl)) (hts (.initialized "java/lang/IllegalStateException") (List.mem_of_getElem? (i := 4) rfl)) (hE.2.1 (67, "the time would be above 10000") (List.mem_of_getElem? (i := 1) rfl)) (vx_hat (L := vx_atS RX5 69 "java/lang/IllegalStateException" ["java/lang/RuntimeException", "java/lang/Exception"]) (B := [.castable "java/lang/IllegalStateException" "java/lang/IllegalStateException", .declares ⟨"java/lang/RuntimeException", "<init>", "(Ljava/lang/String;)V"⟩, .declares ⟨"java/lang/Exception", "<init>", "(Ljava/lang/String;)V"⟩, .declares ⟨"java/lang/Throwable", "<init>", "(Ljava/lang/String;)V"⟩]) (fun w hw => hts w ((by decide +kernel : ∀ w ∈ (vx_atS RX5 69 "java/lang/IllegalStateException" ["java/lang/RuntimeException", "java/lang/Exception"]).filter goodWord, w ∈ wsX5_pass) w hw)) (by decide +kernel) (vx_c (va_Nw.use rfl (hE.1 (.castable "java/lang/IllegalStateException" "java/lang/IllegalStateException") (List.mem_of_getElem? (i := 40) rfl))) (vx_c (va_Nw.use rfl (hE.1 (.declares ⟨"java/lang/RuntimeException", "<init>", "(Ljava/lang/String;)V"⟩) (List.mem_of_getElem? (i := 41) rfl))) (vx_c (va_Nw.use rfl (hE.1 (.declares ⟨"java/lang/Exception", "<init>", "(Ljava/lang/String;)V"⟩) (List.mem_of_getElem? (i := 42) rfl))) (vx_c (va_Nw.use rfl (hE.1 (.declares ⟨"java/lang/Throwable", "<init>", "(Ljava/lang/String;)V"⟩) (List.mem_of_getElem? (i := 43) rfl))) (vx_n)))))) (by decide +kernel) hE hP hK hD hS (hl.1.trans hml.symm) dX5_pass_34 dX5_pass_37 dX5_pass_38 dX5_pass_40 dX5_pass_43 ht9 (Nat.le_of_ble_eq_true rfl) (Nat.le_of_ble_eq_true rfl) (Nat.le_of_ble_eq_true rfl) (Nat.le_of_ble_eq_true rfl) hlocks (by rw [hT9]; decide) (by rw [hT9, zN_3]) (Nat.le_of_ble_eq_true rfl) (Nat.le_of_ble_eq_true rfl)
    · skip
      have c_2 : ¬ x ≤ nI 500 := c_2
      have hT9 : kPassT K x = nI 2 := (by simp [kPassT, zseq, c_1, c_2])
      exact zx_throw (own := RX5) (cls := "java/lang/IllegalArgumentException") (text := "minutes is out of range") (names := ["java/lang/RuntimeException", "java/lang/Exception"]) hx hb hl9 hown (by decide +kernel) (by decide +kernel) (hts (.classLink RX5 58 "java/lang/IllegalArgumentException") (List.mem_of_getElem? (i := 1) rfl)) (hts (.initialized "java/lang/IllegalArgumentException") (List.mem_of_getElem? (i := 2) rfl)) (hE.2.1 (60, "minutes is out of range") (List.mem_of_getElem? (i := 0) rfl)) (vx_hat (L := vx_atS RX5 62 "java/lang/IllegalArgumentException" ["java/lang/RuntimeException", "java/lang/Exception"]) (B := [.castable "java/lang/IllegalArgumentException" "java/lang/IllegalArgumentException", .declares ⟨"java/lang/RuntimeException", "<init>", "(Ljava/lang/String;)V"⟩, .declares ⟨"java/lang/Exception", "<init>", "(Ljava/lang/String;)V"⟩, .declares ⟨"java/lang/Throwable", "<init>", "(Ljava/lang/String;)V"⟩]) (fun w hw => hts w ((by decide +kernel : ∀ w ∈ (vx_atS RX5 62 "java/lang/IllegalArgumentException" ["java/lang/RuntimeException", "java/lang/Exception"]).filter goodWord, w ∈ wsX5_pass) w hw)) (by decide +kernel) (vx_c (va_Nw.use rfl (hE.1 (.castable "java/lang/IllegalArgumentException" "java/lang/IllegalArgumentException") (List.mem_of_getElem? (i := 39) rfl))) (vx_c (va_Nw.use rfl (hE.1 (.declares ⟨"java/lang/RuntimeException", "<init>", "(Ljava/lang/String;)V"⟩) (List.mem_of_getElem? (i := 41) rfl))) (vx_c (va_Nw.use rfl (hE.1 (.declares ⟨"java/lang/Exception", "<init>", "(Ljava/lang/String;)V"⟩) (List.mem_of_getElem? (i := 42) rfl))) (vx_c (va_Nw.use rfl (hE.1 (.declares ⟨"java/lang/Throwable", "<init>", "(Ljava/lang/String;)V"⟩) (List.mem_of_getElem? (i := 43) rfl))) (vx_n)))))) (by decide +kernel) hE hP hK hD hS (hl.1.trans hml.symm) dX5_pass_12 dX5_pass_15 dX5_pass_16 dX5_pass_18 dX5_pass_21 ht9 (Nat.le_of_ble_eq_true rfl) (Nat.le_of_ble_eq_true rfl) (Nat.le_of_ble_eq_true rfl) (Nat.le_of_ble_eq_true rfl) hlocks (by rw [hT9]; decide) (by rw [hT9, zN_2]) (Nat.le_of_ble_eq_true rfl) (Nat.le_of_ble_eq_true rfl)
set_option maxHeartbeats 4000000 in
set_option maxRecDepth 100000 in
theorem kX5_setOpening (l : Launch) (hl9 : l.stackTraces = false) (D : va_G) (cI cZ : ClassId) (ad : Nat → Nat) (K : kS) (sz : Nat) (x : Int32)  : zMi l yX5_setOpening wsX5_setOpening ({ frames := 6, cells := 1, slots := 6, locals := 82 }) [.ref (ad 0), .int x] D (zTy cI cZ) (kwA ad cI cZ K) (kwA ad cI cZ (kSetE K x)) sz (kSetT x) (K 0 1) 1 6 := by
  refine vx_ofW (cc := cX5_setOpening) (maxL := 3) (ret := (some .int)) (by decide) rfl ?_
  intro pP e s m args below meth c s₁ B hml ht9 hv
  obtain ⟨rfl, hsz, hP, hK, hD0, hE0⟩ := hv
  have hx := B.exec
  have hb := B.bytes
  have hr := B.returns
  have hts := atoms_spec (ws := wsX5_setOpening) B.pre
  have hown : s.vm.findClass RX5 = some m.cls := findClass_of_methodNamed B.named
  have hlocks := B.notSynchronized
  subst hsz
  have hD := hD0.self (sz := s.heap.size)
  generalize hAe : va_A (kwA ad cI cZ K) s.heap.size = A at hD hE0 ⊢
  have hE := hE0
  have hA : ∀ q : Nat, s.heap.size ≤ q → A q := fun q h => by rw [← hAe]; exact Or.inr h
  have hS : va_S A s.heap s.heap [] := va_S.rf
  have hinX5 : ∀ w ∈ u_ws RX5 TX5 9, w ∈ wsX5_setOpening := by decide +kernel
  have hl := lv_entry ([.ref (ad 0), .int x]) (n := 3) (Nat.le_of_ble_eq_true rfl)
  rw [lg_entry_eq]
  generalize (lg_sl ([.ref (ad 0), .int x]) ++ List.replicate (3 - (lg_sl ([.ref (ad 0), .int x])).length) Slot.unset).toArray = ls at hl ⊢
  have hl : lv_has ls 3 [(0, .ref (ad 0)), (1, .int x)] := hl
  refine lv_iload_n hx hb dX5_setOpening_0 rfl (lv_at hl 1 rfl) ?_
  refine lv_if_lt (tgt := 11) hx hb dX5_setOpening_1 (by decide) (fun c_1 => ?_) (fun c_1 => ?_)
  · skip
    have c_1 : x < 0 := c_1
    have hT9 : kSetT x = nI 2 := (by simp [kSetT, zseq, c_1])
    exact zx_throw (own := RX5) (cls := "java/lang/IllegalArgumentException") (text := "minute is out of range") (names := ["java/lang/RuntimeException", "java/lang/Exception"]) hx hb hl9 hown (by decide +kernel) (by decide +kernel) (hts (.classLink RX5 58 "java/lang/IllegalArgumentException") (List.mem_of_getElem? (i := 1) rfl)) (hts (.initialized "java/lang/IllegalArgumentException") (List.mem_of_getElem? (i := 2) rfl)) (hE.2.1 (81, "minute is out of range") (List.mem_of_getElem? (i := 2) rfl)) (vx_hat (L := vx_atS RX5 62 "java/lang/IllegalArgumentException" ["java/lang/RuntimeException", "java/lang/Exception"]) (B := [.castable "java/lang/IllegalArgumentException" "java/lang/IllegalArgumentException", .declares ⟨"java/lang/RuntimeException", "<init>", "(Ljava/lang/String;)V"⟩, .declares ⟨"java/lang/Exception", "<init>", "(Ljava/lang/String;)V"⟩, .declares ⟨"java/lang/Throwable", "<init>", "(Ljava/lang/String;)V"⟩]) (fun w hw => hts w ((by decide +kernel : ∀ w ∈ (vx_atS RX5 62 "java/lang/IllegalArgumentException" ["java/lang/RuntimeException", "java/lang/Exception"]).filter goodWord, w ∈ wsX5_setOpening) w hw)) (by decide +kernel) (vx_c (va_Nw.use rfl (hE.1 (.castable "java/lang/IllegalArgumentException" "java/lang/IllegalArgumentException") (List.mem_of_getElem? (i := 39) rfl))) (vx_c (va_Nw.use rfl (hE.1 (.declares ⟨"java/lang/RuntimeException", "<init>", "(Ljava/lang/String;)V"⟩) (List.mem_of_getElem? (i := 41) rfl))) (vx_c (va_Nw.use rfl (hE.1 (.declares ⟨"java/lang/Exception", "<init>", "(Ljava/lang/String;)V"⟩) (List.mem_of_getElem? (i := 42) rfl))) (vx_c (va_Nw.use rfl (hE.1 (.declares ⟨"java/lang/Throwable", "<init>", "(Ljava/lang/String;)V"⟩) (List.mem_of_getElem? (i := 43) rfl))) (vx_n)))))) (by decide +kernel) hE hP hK hD hS (hl.1.trans hml.symm) dX5_setOpening_11 dX5_setOpening_14 dX5_setOpening_15 dX5_setOpening_17 dX5_setOpening_20 ht9 (Nat.le_of_ble_eq_true rfl) (Nat.le_of_ble_eq_true rfl) (Nat.le_of_ble_eq_true rfl) (Nat.le_of_ble_eq_true rfl) hlocks (by rw [hT9]; decide) (by rw [hT9, zN_2]) (Nat.le_of_ble_eq_true rfl) (Nat.le_of_ble_eq_true rfl)
  · skip
    have c_1 : ¬ x < 0 := c_1
    refine lv_iload_n hx hb dX5_setOpening_4 rfl (lv_at hl 1 rfl) ?_
    refine lv_sipush (v := nI 10000) hx hb dX5_setOpening_5 (by decide) ?_
    refine lv_icmp_le (tgt := 21) hx hb dX5_setOpening_8 (by decide) (fun c_2 => ?_) (fun c_2 => ?_)
    · skip
      have c_2 : x ≤ nI 10000 := c_2
      refine lv_aload_n hx hb dX5_setOpening_21 rfl (lv_at hl 0 rfl) ?_
      refine va_get (D := D) (ci := 5) (v := .int (K 0 1)) (C := RX5) (T := TX5) (N := 9) hx hb hts hinX5 hown hK hP 0 rfl rfl 1 (by decide) (hts (.fieldLink RX5 13 "AuditoriumKeys" "opening" "I") (List.mem_of_getElem? (i := 3) rfl)) (fun _ h9 => h9) rfl dX5_setOpening_22 ?_
      refine lv_istore_n (lv' := [(2, .int (K 0 1)), (0, .ref (ad 0)), (1, .int x)]) hx hb dX5_setOpening_25 rfl hl (by decide) rfl (fun ls hl => ?_)
      refine lv_aload_n hx hb dX5_setOpening_26 rfl (lv_at hl 1 rfl) ?_
      refine lv_iload_n hx hb dX5_setOpening_27 rfl (lv_at hl 2 rfl) ?_
      refine va_put (D := D) (ci := 5) (v := .int x) (ty := .int) (C := RX5) (T := TX5) (N := 9) hx hb hts hinX5 tyX5 tyX5_ok nmX5 hown hK hP hD hS 0 rfl rfl 1 (by decide) (hts (.fieldLink RX5 13 "AuditoriumKeys" "opening" "I") (List.mem_of_getElem? (i := 3) rfl)) (fun _ h9 => h9) rfl (by decide +kernel) rfl rfl (Nat.le_of_ble_eq_true rfl) dX5_setOpening_28 (fun H locs hP hD hS => ?_)
      have hP : va_P D vwCl (kwA ad cI cZ (setA K 0 (upd (K 0) 1 x))) _ := hP
      have hD : va_D A (kwA ad cI cZ (setA K 0 (upd (K 0) 1 x))) := hD
      refine lv_iload_n hx hb dX5_setOpening_31 rfl (lv_at hl 0 rfl) ?_
      have hT9 : kSetT x = nI 0 := (by simp [kSetT, zseq, c_1, c_2])
      have hP9 := hP
      have hD9 := hD
      have eK9 : (kSetE K x) = (setA K 0 (upd (K 0) 1 x)) := rfl
      rw [← eK9] at hP9 hD9
      refine W.widen (k := 1) (n := 6) (Nat.le_of_ble_eq_true rfl) (Nat.le_of_ble_eq_true rfl) ?_
      have eR9 : K 0 1 = K 0 1 := rfl
      exact vx_ret (W.iret (v := K 0 1) hx hb hr (fun t ht hW => ⟨⟨K 0 1, (), rfl, ⟨hT9, eR9⟩, by rw [ht]; exact hP9, va_K.moved hW.alike hK, hD9⟩, hS.F ht⟩) hS.2.2 dX5_setOpening_32)
    · skip
      have c_2 : ¬ x ≤ nI 10000 := c_2
      have hT9 : kSetT x = nI 2 := (by simp [kSetT, zseq, c_1, c_2])
      exact zx_throw (own := RX5) (cls := "java/lang/IllegalArgumentException") (text := "minute is out of range") (names := ["java/lang/RuntimeException", "java/lang/Exception"]) hx hb hl9 hown (by decide +kernel) (by decide +kernel) (hts (.classLink RX5 58 "java/lang/IllegalArgumentException") (List.mem_of_getElem? (i := 1) rfl)) (hts (.initialized "java/lang/IllegalArgumentException") (List.mem_of_getElem? (i := 2) rfl)) (hE.2.1 (81, "minute is out of range") (List.mem_of_getElem? (i := 2) rfl)) (vx_hat (L := vx_atS RX5 62 "java/lang/IllegalArgumentException" ["java/lang/RuntimeException", "java/lang/Exception"]) (B := [.castable "java/lang/IllegalArgumentException" "java/lang/IllegalArgumentException", .declares ⟨"java/lang/RuntimeException", "<init>", "(Ljava/lang/String;)V"⟩, .declares ⟨"java/lang/Exception", "<init>", "(Ljava/lang/String;)V"⟩, .declares ⟨"java/lang/Throwable", "<init>", "(Ljava/lang/String;)V"⟩]) (fun w hw => hts w ((by decide +kernel : ∀ w ∈ (vx_atS RX5 62 "java/lang/IllegalArgumentException" ["java/lang/RuntimeException", "java/lang/Exception"]).filter goodWord, w ∈ wsX5_setOpening) w hw)) (by decide +kernel) (vx_c (va_Nw.use rfl (hE.1 (.castable "java/lang/IllegalArgumentException" "java/lang/IllegalArgumentException") (List.mem_of_getElem? (i := 39) rfl))) (vx_c (va_Nw.use rfl (hE.1 (.declares ⟨"java/lang/RuntimeException", "<init>", "(Ljava/lang/String;)V"⟩) (List.mem_of_getElem? (i := 41) rfl))) (vx_c (va_Nw.use rfl (hE.1 (.declares ⟨"java/lang/Exception", "<init>", "(Ljava/lang/String;)V"⟩) (List.mem_of_getElem? (i := 42) rfl))) (vx_c (va_Nw.use rfl (hE.1 (.declares ⟨"java/lang/Throwable", "<init>", "(Ljava/lang/String;)V"⟩) (List.mem_of_getElem? (i := 43) rfl))) (vx_n)))))) (by decide +kernel) hE hP hK hD hS (hl.1.trans hml.symm) dX5_setOpening_11 dX5_setOpening_14 dX5_setOpening_15 dX5_setOpening_17 dX5_setOpening_20 ht9 (Nat.le_of_ble_eq_true rfl) (Nat.le_of_ble_eq_true rfl) (Nat.le_of_ble_eq_true rfl) (Nat.le_of_ble_eq_true rfl) hlocks (by rw [hT9]; decide) (by rw [hT9, zN_2]) (Nat.le_of_ble_eq_true rfl) (Nat.le_of_ble_eq_true rfl)
set_option maxHeartbeats 4000000 in
set_option maxRecDepth 100000 in
theorem kX5_code (l : Launch) (hl9 : l.stackTraces = false) (D : va_G) (cI cZ : ClassId) (ad : Nat → Nat) (K : kS) (sz : Nat) (a1 : Int32) (b1 : Int32) (n9 : Nat) (hn9 : n9 ≤ 10) (hc8 : K 2 0 = nI n9) : zMi l yX5_code wsX5_code ({ frames := 6, cells := 1, slots := 6, locals := 82 }) [.ref (ad 0), .int a1, .int b1] D (zTy cI cZ) (kwA ad cI cZ K) (kwA ad cI cZ (kCode K n9 a1 b1)) sz (kCodeT K a1 b1) (nI n9) 1 6 := by
  refine vx_ofW (cc := cX5_code) (maxL := 3) (ret := (some .int)) (by decide) rfl ?_
  intro pP e s m args below meth c s₁ B hml ht9 hv
  obtain ⟨rfl, hsz, hP, hK, hD0, hE0⟩ := hv
  have hx := B.exec
  have hb := B.bytes
  have hr := B.returns
  have hts := atoms_spec (ws := wsX5_code) B.pre
  have hown : s.vm.findClass RX5 = some m.cls := findClass_of_methodNamed B.named
  have hlocks := B.notSynchronized
  subst hsz
  have hD := hD0.self (sz := s.heap.size)
  generalize hAe : va_A (kwA ad cI cZ K) s.heap.size = A at hD hE0 ⊢
  have hE := hE0
  have hA : ∀ q : Nat, s.heap.size ≤ q → A q := fun q h => by rw [← hAe]; exact Or.inr h
  have hS : va_S A s.heap s.heap [] := va_S.rf
  have hinX0 : ∀ w ∈ u_ws RX0 TX0 4, w ∈ wsX5_code := by decide +kernel
  have hinX5 : ∀ w ∈ u_ws RX5 TX5 9, w ∈ wsX5_code := by decide +kernel
  have hl := lv_entry ([.ref (ad 0), .int a1, .int b1]) (n := 3) (Nat.le_of_ble_eq_true rfl)
  rw [lg_entry_eq]
  generalize (lg_sl ([.ref (ad 0), .int a1, .int b1]) ++ List.replicate (3 - (lg_sl ([.ref (ad 0), .int a1, .int b1])).length) Slot.unset).toArray = ls at hl ⊢
  have hl : lv_has ls 3 [(0, .ref (ad 0)), (1, .int a1), (2, .int b1)] := hl
  refine lv_iload_n hx hb dX5_code_0 rfl (lv_at hl 1 rfl) ?_
  refine lv_iconst (v := nI 1) hx hb dX5_code_1 (by decide) ?_
  refine lv_icmp_lt (tgt := 11) hx hb dX5_code_2 (by decide) (fun c_1 => ?_) (fun c_1 => ?_)
  · skip
    have c_1 : a1 < nI 1 := c_1
    have hT9 : kCodeT K a1 b1 = nI 2 := (by simp [kCodeT, hc8, zseq, c_1])
    exact zx_throw (own := RX5) (cls := "java/lang/IllegalArgumentException") (text := "the limit for each person is out of range") (names := ["java/lang/RuntimeException", "java/lang/Exception"]) hx hb hl9 hown (by decide +kernel) (by decide +kernel) (hts (.classLink RX5 58 "java/lang/IllegalArgumentException") (List.mem_of_getElem? (i := 1) rfl)) (hts (.initialized "java/lang/IllegalArgumentException") (List.mem_of_getElem? (i := 2) rfl)) (hE.2.1 (83, "the limit for each person is out of range") (List.mem_of_getElem? (i := 3) rfl)) (vx_hat (L := vx_atS RX5 62 "java/lang/IllegalArgumentException" ["java/lang/RuntimeException", "java/lang/Exception"]) (B := [.castable "java/lang/IllegalArgumentException" "java/lang/IllegalArgumentException", .declares ⟨"java/lang/RuntimeException", "<init>", "(Ljava/lang/String;)V"⟩, .declares ⟨"java/lang/Exception", "<init>", "(Ljava/lang/String;)V"⟩, .declares ⟨"java/lang/Throwable", "<init>", "(Ljava/lang/String;)V"⟩]) (fun w hw => hts w ((by decide +kernel : ∀ w ∈ (vx_atS RX5 62 "java/lang/IllegalArgumentException" ["java/lang/RuntimeException", "java/lang/Exception"]).filter goodWord, w ∈ wsX5_code) w hw)) (by decide +kernel) (vx_c (va_Nw.use rfl (hE.1 (.castable "java/lang/IllegalArgumentException" "java/lang/IllegalArgumentException") (List.mem_of_getElem? (i := 39) rfl))) (vx_c (va_Nw.use rfl (hE.1 (.declares ⟨"java/lang/RuntimeException", "<init>", "(Ljava/lang/String;)V"⟩) (List.mem_of_getElem? (i := 41) rfl))) (vx_c (va_Nw.use rfl (hE.1 (.declares ⟨"java/lang/Exception", "<init>", "(Ljava/lang/String;)V"⟩) (List.mem_of_getElem? (i := 42) rfl))) (vx_c (va_Nw.use rfl (hE.1 (.declares ⟨"java/lang/Throwable", "<init>", "(Ljava/lang/String;)V"⟩) (List.mem_of_getElem? (i := 43) rfl))) (vx_n)))))) (by decide +kernel) hE hP hK hD hS (hl.1.trans hml.symm) dX5_code_11 dX5_code_14 dX5_code_15 dX5_code_17 dX5_code_20 ht9 (Nat.le_of_ble_eq_true rfl) (Nat.le_of_ble_eq_true rfl) (Nat.le_of_ble_eq_true rfl) (Nat.le_of_ble_eq_true rfl) hlocks (by rw [hT9]; decide) (by rw [hT9, zN_2]) (Nat.le_of_ble_eq_true rfl) (Nat.le_of_ble_eq_true rfl)
  · skip
    have c_1 : ¬ a1 < nI 1 := c_1
    refine lv_iload_n hx hb dX5_code_5 rfl (lv_at hl 1 rfl) ?_
    refine lv_bipush (v := nI 10) hx hb dX5_code_6 (by decide) ?_
    refine lv_icmp_le (tgt := 21) hx hb dX5_code_8 (by decide) (fun c_2 => ?_) (fun c_2 => ?_)
    · skip
      have c_2 : a1 ≤ nI 10 := c_2
      refine lv_iload_n hx hb dX5_code_21 rfl (lv_at hl 2 rfl) ?_
      refine lv_iconst (v := nI 1) hx hb dX5_code_22 (by decide) ?_
      refine lv_icmp_lt (tgt := 32) hx hb dX5_code_23 (by decide) (fun c_3 => ?_) (fun c_3 => ?_)
      · skip
        have c_3 : b1 < nI 1 := c_3
        have hT9 : kCodeT K a1 b1 = nI 2 := (by simp [kCodeT, hc8, zseq, c_1, c_2, c_3])
        exact zx_throw (own := RX5) (cls := "java/lang/IllegalArgumentException") (text := "the limit for each household is out of range") (names := ["java/lang/RuntimeException", "java/lang/Exception"]) hx hb hl9 hown (by decide +kernel) (by decide +kernel) (hts (.classLink RX5 58 "java/lang/IllegalArgumentException") (List.mem_of_getElem? (i := 1) rfl)) (hts (.initialized "java/lang/IllegalArgumentException") (List.mem_of_getElem? (i := 2) rfl)) (hE.2.1 (85, "the limit for each household is out of range") (List.mem_of_getElem? (i := 4) rfl)) (vx_hat (L := vx_atS RX5 62 "java/lang/IllegalArgumentException" ["java/lang/RuntimeException", "java/lang/Exception"]) (B := [.castable "java/lang/IllegalArgumentException" "java/lang/IllegalArgumentException", .declares ⟨"java/lang/RuntimeException", "<init>", "(Ljava/lang/String;)V"⟩, .declares ⟨"java/lang/Exception", "<init>", "(Ljava/lang/String;)V"⟩, .declares ⟨"java/lang/Throwable", "<init>", "(Ljava/lang/String;)V"⟩]) (fun w hw => hts w ((by decide +kernel : ∀ w ∈ (vx_atS RX5 62 "java/lang/IllegalArgumentException" ["java/lang/RuntimeException", "java/lang/Exception"]).filter goodWord, w ∈ wsX5_code) w hw)) (by decide +kernel) (vx_c (va_Nw.use rfl (hE.1 (.castable "java/lang/IllegalArgumentException" "java/lang/IllegalArgumentException") (List.mem_of_getElem? (i := 39) rfl))) (vx_c (va_Nw.use rfl (hE.1 (.declares ⟨"java/lang/RuntimeException", "<init>", "(Ljava/lang/String;)V"⟩) (List.mem_of_getElem? (i := 41) rfl))) (vx_c (va_Nw.use rfl (hE.1 (.declares ⟨"java/lang/Exception", "<init>", "(Ljava/lang/String;)V"⟩) (List.mem_of_getElem? (i := 42) rfl))) (vx_c (va_Nw.use rfl (hE.1 (.declares ⟨"java/lang/Throwable", "<init>", "(Ljava/lang/String;)V"⟩) (List.mem_of_getElem? (i := 43) rfl))) (vx_n)))))) (by decide +kernel) hE hP hK hD hS (hl.1.trans hml.symm) dX5_code_32 dX5_code_35 dX5_code_36 dX5_code_38 dX5_code_41 ht9 (Nat.le_of_ble_eq_true rfl) (Nat.le_of_ble_eq_true rfl) (Nat.le_of_ble_eq_true rfl) (Nat.le_of_ble_eq_true rfl) hlocks (by rw [hT9]; decide) (by rw [hT9, zN_2]) (Nat.le_of_ble_eq_true rfl) (Nat.le_of_ble_eq_true rfl)
      · skip
        have c_3 : ¬ b1 < nI 1 := c_3
        refine lv_iload_n hx hb dX5_code_26 rfl (lv_at hl 2 rfl) ?_
        refine lv_bipush (v := nI 20) hx hb dX5_code_27 (by decide) ?_
        refine lv_icmp_le (tgt := 42) hx hb dX5_code_29 (by decide) (fun c_4 => ?_) (fun c_4 => ?_)
        · skip
          have c_4 : b1 ≤ nI 20 := c_4
          refine lv_aload_n hx hb dX5_code_42 rfl (lv_at hl 0 rfl) ?_
          refine va_get (D := D) (ci := 5) (v := .ref (ad 2)) (C := RX5) (T := TX5) (N := 9) hx hb hts hinX5 hown hK hP 0 rfl rfl 4 (by decide) (hts (.fieldLink RX5 26 "AuditoriumKeys" "codes" "LAuditoriumKeys$Codes;") (List.mem_of_getElem? (i := 5) rfl)) (fun _ h9 => h9) rfl dX5_code_43 ?_
          refine va_getN (D := D) (ci := 0) (v := .int (K 2 0)) (C := RX0) (T := TX0) (N := 4) hx hb hts hinX0 hown hK hP 2 rfl rfl 0 (by decide) (va_Nw.use rfl (hE.1 (.fieldLinkNest RX5 87 "AuditoriumKeys$Codes" "count" "I" "AuditoriumKeys") (List.mem_of_getElem? (i := 1) rfl))) (fun _ h9 => h9) rfl dX5_code_46 ?_
          refine zz_top (y := nI n9) hc8 ?_
          refine lv_bipush (v := nI 10) hx hb dX5_code_49 (by decide) ?_
          refine lv_icmp_lt (tgt := 64) hx hb dX5_code_51 (by decide) (fun c_5 => ?_) (fun c_5 => ?_)
          · skip
            have c_5 := (nI_ltI (a := n9) (b := 10) (by omega) (by omega)).mp c_5
            have hx9 : nI n9 < nI 10 := (nI_ltI (by omega) (by decide)).mpr c_5
            refine lv_aload_n hx hb dX5_code_64 rfl (lv_at hl 0 rfl) ?_
            refine va_get (D := D) (ci := 5) (v := .ref (ad 2)) (C := RX5) (T := TX5) (N := 9) hx hb hts hinX5 hown hK hP 0 rfl rfl 4 (by decide) (hts (.fieldLink RX5 26 "AuditoriumKeys" "codes" "LAuditoriumKeys$Codes;") (List.mem_of_getElem? (i := 5) rfl)) (fun _ h9 => h9) rfl dX5_code_65 ?_
            refine lv_iload_n hx hb dX5_code_68 rfl (lv_at hl 1 rfl) ?_
            refine lv_iload_n hx hb dX5_code_69 rfl (lv_at hl 2 rfl) ?_
            refine zc_wVNi (As := [.int a1, .int b1]) (rest := []) (wr := [kc0 ad K, kc1 ad cI K, kc6 ad, kc7 ad cI K, kc8 ad, kc9 ad cI K, kc10 ad cI K, kc11 ad cI K, kc12 ad cI K, kc13 ad cI K, kc14 ad cI K, kc15 ad cI K, kc16 ad, kc17 ad cZ K, kc18 ad cZ K, kc19 ad cI K, kc20 ad cI K, kc21 ad cI K, kc22 ad K, kc23 ad cI K, kc24 ad cI K, kc25 ad cI K]) ⟨hx, hb, hml, hown, hts⟩ (kX0_add l D cI cZ ad K _ a1 b1 n9 (by omega) hc8) ⟨va_cnB 2 hts gX5_code_X0_add_n92 rfl rfl rfl (hE.1 (.methodLinkNest RX5 92 yX0_add "AuditoriumKeys") (List.mem_of_getElem? (i := 16) rfl)) (hts (.initialized RX0) (List.mem_of_getElem? (i := 7) rfl)) (by decide +kernel) ⟨(Nat.le_of_ble_eq_true rfl), (Nat.le_of_ble_eq_true rfl)⟩, (hts (.instanceMethod yX0_add) (List.mem_of_getElem? (i := 6) rfl)), (hts (.selects RX0 yX0_add yX0_add) (List.mem_of_getElem? (i := 8) rfl))⟩ hK hP hD hS hA [2, 3, 4, 5] [0, 1, 6, 7, 8, 9, 10, 11, 12, 13, 14, 15, 16, 17, 18, 19, 20, 21, 22, 23, 24, 25] rfl rfl rfl rfl rfl (by decide) (ci := 0) (q0 := 0) rfl rfl rfl rfl hl.1 rfl (Nat.le_of_ble_eq_true rfl) dX5_code_70 ⟨Nat.le_of_ble_eq_true rfl, Nat.le_of_ble_eq_true rfl⟩ (fun H locs hP hD hS => ?_)
            have hP := hP.sub (ws' := [kc0 ad K, kc1 ad cI K, kc2 ad (kCode K n9 a1 b1), kc3 ad cI (kCode K n9 a1 b1), kc4 ad cI (kCode K n9 a1 b1), kc5 ad cI (kCode K n9 a1 b1), kc6 ad, kc7 ad cI K, kc8 ad, kc9 ad cI K, kc10 ad cI K, kc11 ad cI K, kc12 ad cI K, kc13 ad cI K, kc14 ad cI K, kc15 ad cI K, kc16 ad, kc17 ad cZ K, kc18 ad cZ K, kc19 ad cI K, kc20 ad cI K, kc21 ad cI K, kc22 ad K, kc23 ad cI K, kc24 ad cI K, kc25 ad cI K]) [0, 1, 22, 23, 24, 25, 2, 3, 4, 5, 6, 7, 8, 9, 10, 11, 12, 13, 14, 15, 16, 17, 18, 19, 20, 21] rfl
            have hD := hD.sub (ws' := [kc0 ad K, kc1 ad cI K, kc2 ad (kCode K n9 a1 b1), kc3 ad cI (kCode K n9 a1 b1), kc4 ad cI (kCode K n9 a1 b1), kc5 ad cI (kCode K n9 a1 b1), kc6 ad, kc7 ad cI K, kc8 ad, kc9 ad cI K, kc10 ad cI K, kc11 ad cI K, kc12 ad cI K, kc13 ad cI K, kc14 ad cI K, kc15 ad cI K, kc16 ad, kc17 ad cZ K, kc18 ad cZ K, kc19 ad cI K, kc20 ad cI K, kc21 ad cI K, kc22 ad K, kc23 ad cI K, kc24 ad cI K, kc25 ad cI K]) [0, 1, 22, 23, 24, 25, 2, 3, 4, 5, 6, 7, 8, 9, 10, 11, 12, 13, 14, 15, 16, 17, 18, 19, 20, 21] rfl rfl
            have hP : va_P D vwCl (kwA ad cI cZ (kCode K n9 a1 b1)) _ := hP
            have hD : va_D A (kwA ad cI cZ (kCode K n9 a1 b1)) := hD
            have hT9 : kCodeT K a1 b1 = nI 0 := (by simp [kCodeT, hc8, zseq, c_1, c_2, c_3, c_4, c_5, hx9])
            have hP9 := hP
            have hD9 := hD
            refine W.widen (k := 1) (n := 6) (Nat.le_of_ble_eq_true rfl) (Nat.le_of_ble_eq_true rfl) ?_
            have eR9 : nI n9 = nI n9 := rfl
            exact vx_ret (W.iret (v := nI n9) hx hb hr (fun t ht hW => ⟨⟨nI n9, (), rfl, ⟨hT9, eR9⟩, by rw [ht]; exact hP9, va_K.moved hW.alike hK, hD9⟩, hS.F ht⟩) hS.2.2 dX5_code_73)
          · skip
            have c_5 : ¬ n9 < 10 := fun h => c_5 ((nI_ltI (a := n9) (b := 10) (by omega) (by omega)).mpr h)
            have hx9 : ¬ nI n9 < nI 10 := fun h => c_5 ((nI_ltI (by omega) (by decide)).mp h)
            have hT9 : kCodeT K a1 b1 = nI 3 := (by simp [kCodeT, hc8, zseq, c_1, c_2, c_3, c_4, c_5, hx9])
            exact zx_throw (own := RX5) (cls := "java/lang/IllegalStateException") (text := "there are 10 codes") (names := ["java/lang/RuntimeException", "java/lang/Exception"]) hx hb hl9 hown (by decide +kernel) (by decide +kernel) (hts (.classLink RX5 65 "java/lang/IllegalStateException") (List.mem_of_getElem? (i := 3) rfl)) (hts (.initialized "java/lang/IllegalStateException") (List.mem_of_getElem? (i := 4) rfl)) (hE.2.1 (90, "there are 10 codes") (List.mem_of_getElem? (i := 5) rfl)) (vx_hat (L := vx_atS RX5 69 "java/lang/IllegalStateException" ["java/lang/RuntimeException", "java/lang/Exception"]) (B := [.castable "java/lang/IllegalStateException" "java/lang/IllegalStateException", .declares ⟨"java/lang/RuntimeException", "<init>", "(Ljava/lang/String;)V"⟩, .declares ⟨"java/lang/Exception", "<init>", "(Ljava/lang/String;)V"⟩, .declares ⟨"java/lang/Throwable", "<init>", "(Ljava/lang/String;)V"⟩]) (fun w hw => hts w ((by decide +kernel : ∀ w ∈ (vx_atS RX5 69 "java/lang/IllegalStateException" ["java/lang/RuntimeException", "java/lang/Exception"]).filter goodWord, w ∈ wsX5_code) w hw)) (by decide +kernel) (vx_c (va_Nw.use rfl (hE.1 (.castable "java/lang/IllegalStateException" "java/lang/IllegalStateException") (List.mem_of_getElem? (i := 40) rfl))) (vx_c (va_Nw.use rfl (hE.1 (.declares ⟨"java/lang/RuntimeException", "<init>", "(Ljava/lang/String;)V"⟩) (List.mem_of_getElem? (i := 41) rfl))) (vx_c (va_Nw.use rfl (hE.1 (.declares ⟨"java/lang/Exception", "<init>", "(Ljava/lang/String;)V"⟩) (List.mem_of_getElem? (i := 42) rfl))) (vx_c (va_Nw.use rfl (hE.1 (.declares ⟨"java/lang/Throwable", "<init>", "(Ljava/lang/String;)V"⟩) (List.mem_of_getElem? (i := 43) rfl))) (vx_n)))))) (by decide +kernel) hE hP hK hD hS (hl.1.trans hml.symm) dX5_code_54 dX5_code_57 dX5_code_58 dX5_code_60 dX5_code_63 ht9 (Nat.le_of_ble_eq_true rfl) (Nat.le_of_ble_eq_true rfl) (Nat.le_of_ble_eq_true rfl) (Nat.le_of_ble_eq_true rfl) hlocks (by rw [hT9]; decide) (by rw [hT9, zN_3]) (Nat.le_of_ble_eq_true rfl) (Nat.le_of_ble_eq_true rfl)
        · skip
          have c_4 : ¬ b1 ≤ nI 20 := c_4
          have hT9 : kCodeT K a1 b1 = nI 2 := (by simp [kCodeT, hc8, zseq, c_1, c_2, c_3, c_4])
          exact zx_throw (own := RX5) (cls := "java/lang/IllegalArgumentException") (text := "the limit for each household is out of range") (names := ["java/lang/RuntimeException", "java/lang/Exception"]) hx hb hl9 hown (by decide +kernel) (by decide +kernel) (hts (.classLink RX5 58 "java/lang/IllegalArgumentException") (List.mem_of_getElem? (i := 1) rfl)) (hts (.initialized "java/lang/IllegalArgumentException") (List.mem_of_getElem? (i := 2) rfl)) (hE.2.1 (85, "the limit for each household is out of range") (List.mem_of_getElem? (i := 4) rfl)) (vx_hat (L := vx_atS RX5 62 "java/lang/IllegalArgumentException" ["java/lang/RuntimeException", "java/lang/Exception"]) (B := [.castable "java/lang/IllegalArgumentException" "java/lang/IllegalArgumentException", .declares ⟨"java/lang/RuntimeException", "<init>", "(Ljava/lang/String;)V"⟩, .declares ⟨"java/lang/Exception", "<init>", "(Ljava/lang/String;)V"⟩, .declares ⟨"java/lang/Throwable", "<init>", "(Ljava/lang/String;)V"⟩]) (fun w hw => hts w ((by decide +kernel : ∀ w ∈ (vx_atS RX5 62 "java/lang/IllegalArgumentException" ["java/lang/RuntimeException", "java/lang/Exception"]).filter goodWord, w ∈ wsX5_code) w hw)) (by decide +kernel) (vx_c (va_Nw.use rfl (hE.1 (.castable "java/lang/IllegalArgumentException" "java/lang/IllegalArgumentException") (List.mem_of_getElem? (i := 39) rfl))) (vx_c (va_Nw.use rfl (hE.1 (.declares ⟨"java/lang/RuntimeException", "<init>", "(Ljava/lang/String;)V"⟩) (List.mem_of_getElem? (i := 41) rfl))) (vx_c (va_Nw.use rfl (hE.1 (.declares ⟨"java/lang/Exception", "<init>", "(Ljava/lang/String;)V"⟩) (List.mem_of_getElem? (i := 42) rfl))) (vx_c (va_Nw.use rfl (hE.1 (.declares ⟨"java/lang/Throwable", "<init>", "(Ljava/lang/String;)V"⟩) (List.mem_of_getElem? (i := 43) rfl))) (vx_n)))))) (by decide +kernel) hE hP hK hD hS (hl.1.trans hml.symm) dX5_code_32 dX5_code_35 dX5_code_36 dX5_code_38 dX5_code_41 ht9 (Nat.le_of_ble_eq_true rfl) (Nat.le_of_ble_eq_true rfl) (Nat.le_of_ble_eq_true rfl) (Nat.le_of_ble_eq_true rfl) hlocks (by rw [hT9]; decide) (by rw [hT9, zN_2]) (Nat.le_of_ble_eq_true rfl) (Nat.le_of_ble_eq_true rfl)
    · skip
      have c_2 : ¬ a1 ≤ nI 10 := c_2
      have hT9 : kCodeT K a1 b1 = nI 2 := (by simp [kCodeT, hc8, zseq, c_1, c_2])
      exact zx_throw (own := RX5) (cls := "java/lang/IllegalArgumentException") (text := "the limit for each person is out of range") (names := ["java/lang/RuntimeException", "java/lang/Exception"]) hx hb hl9 hown (by decide +kernel) (by decide +kernel) (hts (.classLink RX5 58 "java/lang/IllegalArgumentException") (List.mem_of_getElem? (i := 1) rfl)) (hts (.initialized "java/lang/IllegalArgumentException") (List.mem_of_getElem? (i := 2) rfl)) (hE.2.1 (83, "the limit for each person is out of range") (List.mem_of_getElem? (i := 3) rfl)) (vx_hat (L := vx_atS RX5 62 "java/lang/IllegalArgumentException" ["java/lang/RuntimeException", "java/lang/Exception"]) (B := [.castable "java/lang/IllegalArgumentException" "java/lang/IllegalArgumentException", .declares ⟨"java/lang/RuntimeException", "<init>", "(Ljava/lang/String;)V"⟩, .declares ⟨"java/lang/Exception", "<init>", "(Ljava/lang/String;)V"⟩, .declares ⟨"java/lang/Throwable", "<init>", "(Ljava/lang/String;)V"⟩]) (fun w hw => hts w ((by decide +kernel : ∀ w ∈ (vx_atS RX5 62 "java/lang/IllegalArgumentException" ["java/lang/RuntimeException", "java/lang/Exception"]).filter goodWord, w ∈ wsX5_code) w hw)) (by decide +kernel) (vx_c (va_Nw.use rfl (hE.1 (.castable "java/lang/IllegalArgumentException" "java/lang/IllegalArgumentException") (List.mem_of_getElem? (i := 39) rfl))) (vx_c (va_Nw.use rfl (hE.1 (.declares ⟨"java/lang/RuntimeException", "<init>", "(Ljava/lang/String;)V"⟩) (List.mem_of_getElem? (i := 41) rfl))) (vx_c (va_Nw.use rfl (hE.1 (.declares ⟨"java/lang/Exception", "<init>", "(Ljava/lang/String;)V"⟩) (List.mem_of_getElem? (i := 42) rfl))) (vx_c (va_Nw.use rfl (hE.1 (.declares ⟨"java/lang/Throwable", "<init>", "(Ljava/lang/String;)V"⟩) (List.mem_of_getElem? (i := 43) rfl))) (vx_n)))))) (by decide +kernel) hE hP hK hD hS (hl.1.trans hml.symm) dX5_code_11 dX5_code_14 dX5_code_15 dX5_code_17 dX5_code_20 ht9 (Nat.le_of_ble_eq_true rfl) (Nat.le_of_ble_eq_true rfl) (Nat.le_of_ble_eq_true rfl) (Nat.le_of_ble_eq_true rfl) hlocks (by rw [hT9]; decide) (by rw [hT9, zN_2]) (Nat.le_of_ble_eq_true rfl) (Nat.le_of_ble_eq_true rfl)
set_option maxHeartbeats 4000000 in
set_option maxRecDepth 100000 in
theorem kX5_join (l : Launch) (hl9 : l.stackTraces = false) (D : va_G) (cI cZ : ClassId) (ad : Nat → Nat) (K : kS) (sz : Nat) (x : Int32)  : zMi l yX5_join wsX5_join ({ frames := 7, cells := 2, slots := 12, locals := 102 }) [.ref (ad 0), .int x] D (zTy cI cZ) (kwA ad cI cZ K) (kwA ad cI cZ (kEnter K x.toNatClampNeg (K 0 0))) sz (kJoinT K x) (nI (lLen (kEnter K x.toNatClampNeg (K 0 0)))) 2 12 := by
  refine vx_ofW (cc := cX5_join) (maxL := 2) (ret := (some .int)) (by decide) rfl ?_
  intro pP e s m args below meth c s₁ B hml ht9 hv
  obtain ⟨rfl, hsz, hP, hK, hD0, hE0⟩ := hv
  have hx := B.exec
  have hb := B.bytes
  have hr := B.returns
  have hts := atoms_spec (ws := wsX5_join) B.pre
  have hown : s.vm.findClass RX5 = some m.cls := findClass_of_methodNamed B.named
  have hlocks := B.notSynchronized
  subst hsz
  have hD := hD0.self (sz := s.heap.size)
  generalize hAe : va_A (kwA ad cI cZ K) s.heap.size = A at hD hE0 ⊢
  have hE := hE0
  have hA : ∀ q : Nat, s.heap.size ≤ q → A q := fun q h => by rw [← hAe]; exact Or.inr h
  have hS : va_S A s.heap s.heap [] := va_S.rf
  have hinX5 : ∀ w ∈ u_ws RX5 TX5 9, w ∈ wsX5_join := by decide +kernel
  have hl := lv_entry ([.ref (ad 0), .int x]) (n := 2) (Nat.le_of_ble_eq_true rfl)
  rw [lg_entry_eq]
  generalize (lg_sl ([.ref (ad 0), .int x]) ++ List.replicate (2 - (lg_sl ([.ref (ad 0), .int x])).length) Slot.unset).toArray = ls at hl ⊢
  have hl : lv_has ls 2 [(0, .ref (ad 0)), (1, .int x)] := hl
  refine lv_iload_n hx hb dX5_join_0 rfl (lv_at hl 1 rfl) ?_
  refine zx_Sv (As := [.int x]) (rest := []) (wr := (kwA ad cI cZ K)) ⟨hx, hb, hml, hown, hts⟩ (kX5_needPerson l hl9 D cI cZ ad K _ x ) (va_cwS 1 hts gX5_join_X5_needPerson rfl rfl rfl (by decide +kernel) ⟨(Nat.le_of_ble_eq_true rfl), (Nat.le_of_ble_eq_true rfl)⟩) hK hP hD hS hA hE [] [0, 1, 2, 3, 4, 5, 6, 7, 8, 9, 10, 11, 12, 13, 14, 15, 16, 17, 18, 19, 20, 21, 22, 23, 24, 25] rfl rfl rfl rfl rfl (by decide) rfl hl.1 rfl (Nat.le_of_ble_eq_true rfl) dX5_join_1 ⟨(Nat.le_of_ble_eq_true rfl), (Nat.le_of_ble_eq_true rfl)⟩ (fun E ce q9 H locs h0 hE9 hP hD hS hce hcv hcl => ?_) (fun ht_1 H locs hP hD hS => ?_)
  · skip
    have hP : va_P D vwCl (kwA ad cI cZ K) _ := hP
    have hD : va_D A (kwA ad cI cZ K) := hD
    exact zx_out ht9 hlocks hce hcv hcl h0 hE9 (by simp [kJoinT, zseq, h0]) hP hK hD hS (Nat.le_of_ble_eq_true rfl) (Nat.le_of_ble_eq_true rfl)
  · skip
    have hP : va_P D vwCl (kwA ad cI cZ K) _ := hP
    have hD : va_D A (kwA ad cI cZ K) := hD
    have ht_1 : kNeedP x = nI 0 := ht_1
    obtain ⟨p9, hp9, hp8, hp7⟩ := kNeedP_of ht_1
    refine lv_aload_n hx hb dX5_join_4 rfl (lv_at hl 0 rfl) ?_
    refine va_get (D := D) (ci := 5) (v := .ref (ad 6)) (C := RX5) (T := TX5) (N := 9) hx hb hts hinX5 hown hK hP 0 rfl rfl 5 (by decide) (hts (.fieldLink RX5 33 "AuditoriumKeys" "line" "LAuditoriumKeys$Line;") (List.mem_of_getElem? (i := 3) rfl)) (fun _ h9 => h9) rfl dX5_join_5 ?_
    refine lv_iload_n hx hb dX5_join_8 rfl (lv_at hl 1 rfl) ?_
    refine zz_top (y := nI p9) hp8 ?_
    refine zc_rVN (As := [.int (nI p9)]) (rest := []) ⟨hx, hb, hml, hown, hts⟩ (kX2_isIn l D cI cZ ad K p9 (by omega)) ⟨va_cnB 1 hts gX5_join_X2_isIn_n106 rfl rfl rfl (hE.1 (.methodLinkNest RX5 106 yX2_isIn "AuditoriumKeys") (List.mem_of_getElem? (i := 17) rfl)) (hts (.initialized RX2) (List.mem_of_getElem? (i := 13) rfl)) (by decide +kernel) ⟨(Nat.le_of_ble_eq_true rfl), (Nat.le_of_ble_eq_true rfl)⟩, (hts (.instanceMethod yX2_isIn) (List.mem_of_getElem? (i := 12) rfl)), (hts (.selects RX2 yX2_isIn yX2_isIn) (List.mem_of_getElem? (i := 14) rfl))⟩ hK (hP.sub (ws' := (kwL ad cI K)) [6, 7] rfl) (ci := 2) (q0 := 0) rfl rfl rfl rfl hl.1 rfl (Nat.le_of_ble_eq_true rfl) dX5_join_9 ⟨Nat.le_of_ble_eq_true rfl, Nat.le_of_ble_eq_true rfl⟩ ?_
    refine lv_if_eq (tgt := 25) hx hb dX5_join_12 (by decide) (fun c_2 => ?_) (fun c_2 => ?_)
    · skip
      have c_2 := zb_f c_2
      refine lv_aload_n hx hb dX5_join_25 rfl (lv_at hl 0 rfl) ?_
      refine va_get (D := D) (ci := 5) (v := .ref (ad 8)) (C := RX5) (T := TX5) (N := 9) hx hb hts hinX5 hown hK hP 0 rfl rfl 6 (by decide) (hts (.fieldLink RX5 40 "AuditoriumKeys" "holds" "LAuditoriumKeys$Holds;") (List.mem_of_getElem? (i := 4) rfl)) (fun _ h9 => h9) rfl dX5_join_26 ?_
      refine lv_iload_n hx hb dX5_join_29 rfl (lv_at hl 1 rfl) ?_
      refine zz_top (y := nI p9) hp8 ?_
      refine zc_rVN (As := [.int (nI p9)]) (rest := []) ⟨hx, hb, hml, hown, hts⟩ (kX1_isThere l D cI cZ ad K p9 (by omega)) ⟨va_cnB 1 hts gX5_join_X1_isThere_n70 rfl rfl rfl (hE.1 (.methodLinkNest RX5 70 yX1_isThere "AuditoriumKeys") (List.mem_of_getElem? (i := 15) rfl)) (hts (.initialized RX1) (List.mem_of_getElem? (i := 18) rfl)) (by decide +kernel) ⟨(Nat.le_of_ble_eq_true rfl), (Nat.le_of_ble_eq_true rfl)⟩, (hts (.instanceMethod yX1_isThere) (List.mem_of_getElem? (i := 17) rfl)), (hts (.selects RX1 yX1_isThere yX1_isThere) (List.mem_of_getElem? (i := 19) rfl))⟩ hK (hP.sub (ws' := (kwH ad cI K)) [8, 9, 10, 11, 12, 13, 14, 15] rfl) (ci := 1) (q0 := 0) rfl rfl rfl rfl hl.1 rfl (Nat.le_of_ble_eq_true rfl) dX5_join_30 ⟨Nat.le_of_ble_eq_true rfl, Nat.le_of_ble_eq_true rfl⟩ ?_
      refine lv_if_eq (tgt := 46) hx hb dX5_join_33 (by decide) (fun c_3 => ?_) (fun c_3 => ?_)
      · skip
        have c_3 := zb_f c_3
        refine lv_aload_n hx hb dX5_join_46 rfl (lv_at hl 0 rfl) ?_
        refine va_get (D := D) (ci := 5) (v := .ref (ad 6)) (C := RX5) (T := TX5) (N := 9) hx hb hts hinX5 hown hK hP 0 rfl rfl 5 (by decide) (hts (.fieldLink RX5 33 "AuditoriumKeys" "line" "LAuditoriumKeys$Line;") (List.mem_of_getElem? (i := 3) rfl)) (fun _ h9 => h9) rfl dX5_join_47 ?_
        refine lv_iload_n hx hb dX5_join_50 rfl (lv_at hl 1 rfl) ?_
        refine zz_top (y := nI p9) hp8 ?_
        refine lv_aload_n hx hb dX5_join_51 rfl (lv_at hl 0 rfl) ?_
        refine va_get (D := D) (ci := 5) (v := .int (K 0 0)) (C := RX5) (T := TX5) (N := 9) hx hb hts hinX5 hown hK hP 0 rfl rfl 0 (by decide) (hts (.fieldLink RX5 9 "AuditoriumKeys" "now" "I") (List.mem_of_getElem? (i := 5) rfl)) (fun _ h9 => h9) rfl dX5_join_52 ?_
        refine zc_wVNv (As := [.int (nI p9), .int (K 0 0)]) (rest := []) (wr := [kc0 ad K, kc1 ad cI K, kc2 ad K, kc3 ad cI K, kc4 ad cI K, kc5 ad cI K, kc8 ad, kc9 ad cI K, kc10 ad cI K, kc11 ad cI K, kc12 ad cI K, kc13 ad cI K, kc14 ad cI K, kc15 ad cI K, kc16 ad, kc17 ad cZ K, kc18 ad cZ K, kc19 ad cI K, kc20 ad cI K, kc21 ad cI K, kc22 ad K, kc23 ad cI K, kc24 ad cI K, kc25 ad cI K]) ⟨hx, hb, hml, hown, hts⟩ (kX2_enter l D cI cZ ad K _ p9 (K 0 0) (by omega)) ⟨va_cnB 2 hts gX5_join_X2_enter_n113 rfl rfl rfl (hE.1 (.methodLinkNest RX5 113 yX2_enter "AuditoriumKeys") (List.mem_of_getElem? (i := 18) rfl)) (hts (.initialized RX2) (List.mem_of_getElem? (i := 13) rfl)) (by decide +kernel) ⟨(Nat.le_of_ble_eq_true rfl), (Nat.le_of_ble_eq_true rfl)⟩, (hts (.instanceMethod yX2_enter) (List.mem_of_getElem? (i := 22) rfl)), (hts (.selects RX2 yX2_enter yX2_enter) (List.mem_of_getElem? (i := 23) rfl))⟩ hK hP hD hS hA [6, 7] [0, 1, 2, 3, 4, 5, 8, 9, 10, 11, 12, 13, 14, 15, 16, 17, 18, 19, 20, 21, 22, 23, 24, 25] rfl rfl rfl rfl rfl (by decide) (ci := 2) (q0 := 0) rfl rfl rfl rfl hl.1 rfl (Nat.le_of_ble_eq_true rfl) dX5_join_55 ⟨Nat.le_of_ble_eq_true rfl, Nat.le_of_ble_eq_true rfl⟩ (fun H locs hP hD hS => ?_)
        have hP := hP.sub (ws' := [kc0 ad K, kc1 ad cI K, kc2 ad K, kc3 ad cI K, kc4 ad cI K, kc5 ad cI K, kc6 ad, kc7 ad cI (kEnter K p9 (K 0 0)), kc8 ad, kc9 ad cI K, kc10 ad cI K, kc11 ad cI K, kc12 ad cI K, kc13 ad cI K, kc14 ad cI K, kc15 ad cI K, kc16 ad, kc17 ad cZ K, kc18 ad cZ K, kc19 ad cI K, kc20 ad cI K, kc21 ad cI K, kc22 ad K, kc23 ad cI K, kc24 ad cI K, kc25 ad cI K]) [0, 1, 2, 3, 4, 5, 24, 25, 6, 7, 8, 9, 10, 11, 12, 13, 14, 15, 16, 17, 18, 19, 20, 21, 22, 23] rfl
        have hD := hD.sub (ws' := [kc0 ad K, kc1 ad cI K, kc2 ad K, kc3 ad cI K, kc4 ad cI K, kc5 ad cI K, kc6 ad, kc7 ad cI (kEnter K p9 (K 0 0)), kc8 ad, kc9 ad cI K, kc10 ad cI K, kc11 ad cI K, kc12 ad cI K, kc13 ad cI K, kc14 ad cI K, kc15 ad cI K, kc16 ad, kc17 ad cZ K, kc18 ad cZ K, kc19 ad cI K, kc20 ad cI K, kc21 ad cI K, kc22 ad K, kc23 ad cI K, kc24 ad cI K, kc25 ad cI K]) [0, 1, 2, 3, 4, 5, 24, 25, 6, 7, 8, 9, 10, 11, 12, 13, 14, 15, 16, 17, 18, 19, 20, 21, 22, 23] rfl rfl
        have hP : va_P D vwCl (kwA ad cI cZ (kEnter K p9 (K 0 0))) _ := hP
        have hD : va_D A (kwA ad cI cZ (kEnter K p9 (K 0 0))) := hD
        refine lv_aload_n hx hb dX5_join_58 rfl (lv_at hl 0 rfl) ?_
        refine va_get (D := D) (ci := 5) (v := .ref (ad 6)) (C := RX5) (T := TX5) (N := 9) hx hb hts hinX5 hown hK hP 0 rfl rfl 5 (by decide) (hts (.fieldLink RX5 33 "AuditoriumKeys" "line" "LAuditoriumKeys$Line;") (List.mem_of_getElem? (i := 3) rfl)) (fun _ h9 => h9) rfl dX5_join_59 ?_
        refine zc_rVN (As := []) (rest := []) ⟨hx, hb, hml, hown, hts⟩ (kX2_length l D cI cZ ad (kEnter K p9 (K 0 0))  ) ⟨va_cnB 0 hts gX5_join_X2_length_n117 rfl rfl rfl (hE.1 (.methodLinkNest RX5 117 yX2_length "AuditoriumKeys") (List.mem_of_getElem? (i := 19) rfl)) (hts (.initialized RX2) (List.mem_of_getElem? (i := 13) rfl)) (by decide +kernel) ⟨(Nat.le_of_ble_eq_true rfl), (Nat.le_of_ble_eq_true rfl)⟩, (hts (.instanceMethod yX2_length) (List.mem_of_getElem? (i := 25) rfl)), (hts (.selects RX2 yX2_length yX2_length) (List.mem_of_getElem? (i := 26) rfl))⟩ hK (hP.sub (ws' := (kwL ad cI (kEnter K p9 (K 0 0)))) [6, 7] rfl) (ci := 2) (q0 := 0) rfl rfl rfl rfl hl.1 rfl (Nat.le_of_ble_eq_true rfl) dX5_join_62 ⟨Nat.le_of_ble_eq_true rfl, Nat.le_of_ble_eq_true rfl⟩ ?_
        have hT9 : kJoinT K x = nI 0 := (by simp [kJoinT, zseq, eq_true ht_1, hp7, c_2, c_3])
        have hP9 := hP
        have hD9 := hD
        have eK9 : (kEnter K x.toNatClampNeg (K 0 0)) = (kEnter K p9 (K 0 0)) := (by rw [hp7])
        rw [← eK9] at hP9 hD9
        refine W.widen (k := 2) (n := 12) (Nat.le_of_ble_eq_true rfl) (Nat.le_of_ble_eq_true rfl) ?_
        have eR9 : nI (lLen (kEnter K p9 (K 0 0))) = nI (lLen (kEnter K x.toNatClampNeg (K 0 0))) := (by rw [hp7])
        exact vx_ret (W.iret (v := nI (lLen (kEnter K p9 (K 0 0)))) hx hb hr (fun t ht hW => ⟨⟨nI (lLen (kEnter K p9 (K 0 0))), (), rfl, ⟨hT9, eR9⟩, by rw [ht]; exact hP9, va_K.moved hW.alike hK, hD9⟩, hS.F ht⟩) hS.2.2 dX5_join_65)
      · skip
        have c_3 := zb_t c_3
        have hT9 : kJoinT K x = nI 3 := (by simp [kJoinT, zseq, eq_true ht_1, hp7, c_2, c_3])
        exact zx_throw (own := RX5) (cls := "java/lang/IllegalStateException") (text := "the person has a hold") (names := ["java/lang/RuntimeException", "java/lang/Exception"]) hx hb hl9 hown (by decide +kernel) (by decide +kernel) (hts (.classLink RX5 65 "java/lang/IllegalStateException") (List.mem_of_getElem? (i := 1) rfl)) (hts (.initialized "java/lang/IllegalStateException") (List.mem_of_getElem? (i := 2) rfl)) (hE.2.1 (111, "the person has a hold") (List.mem_of_getElem? (i := 7) rfl)) (vx_hat (L := vx_atS RX5 69 "java/lang/IllegalStateException" ["java/lang/RuntimeException", "java/lang/Exception"]) (B := [.castable "java/lang/IllegalStateException" "java/lang/IllegalStateException", .declares ⟨"java/lang/RuntimeException", "<init>", "(Ljava/lang/String;)V"⟩, .declares ⟨"java/lang/Exception", "<init>", "(Ljava/lang/String;)V"⟩, .declares ⟨"java/lang/Throwable", "<init>", "(Ljava/lang/String;)V"⟩]) (fun w hw => hts w ((by decide +kernel : ∀ w ∈ (vx_atS RX5 69 "java/lang/IllegalStateException" ["java/lang/RuntimeException", "java/lang/Exception"]).filter goodWord, w ∈ wsX5_join) w hw)) (by decide +kernel) (vx_c (va_Nw.use rfl (hE.1 (.castable "java/lang/IllegalStateException" "java/lang/IllegalStateException") (List.mem_of_getElem? (i := 40) rfl))) (vx_c (va_Nw.use rfl (hE.1 (.declares ⟨"java/lang/RuntimeException", "<init>", "(Ljava/lang/String;)V"⟩) (List.mem_of_getElem? (i := 41) rfl))) (vx_c (va_Nw.use rfl (hE.1 (.declares ⟨"java/lang/Exception", "<init>", "(Ljava/lang/String;)V"⟩) (List.mem_of_getElem? (i := 42) rfl))) (vx_c (va_Nw.use rfl (hE.1 (.declares ⟨"java/lang/Throwable", "<init>", "(Ljava/lang/String;)V"⟩) (List.mem_of_getElem? (i := 43) rfl))) (vx_n)))))) (by decide +kernel) hE hP hK hD hS (hl.1.trans hml.symm) dX5_join_36 dX5_join_39 dX5_join_40 dX5_join_42 dX5_join_45 ht9 (Nat.le_of_ble_eq_true rfl) (Nat.le_of_ble_eq_true rfl) (Nat.le_of_ble_eq_true rfl) (Nat.le_of_ble_eq_true rfl) hlocks (by rw [hT9]; decide) (by rw [hT9, zN_3]) (Nat.le_of_ble_eq_true rfl) (Nat.le_of_ble_eq_true rfl)
    · skip
      have c_2 := zb_t c_2
      have hT9 : kJoinT K x = nI 3 := (by simp [kJoinT, zseq, eq_true ht_1, hp7, c_2])
      exact zx_throw (own := RX5) (cls := "java/lang/IllegalStateException") (text := "the person is in the queue") (names := ["java/lang/RuntimeException", "java/lang/Exception"]) hx hb hl9 hown (by decide +kernel) (by decide +kernel) (hts (.classLink RX5 65 "java/lang/IllegalStateException") (List.mem_of_getElem? (i := 1) rfl)) (hts (.initialized "java/lang/IllegalStateException") (List.mem_of_getElem? (i := 2) rfl)) (hE.2.1 (109, "the person is in the queue") (List.mem_of_getElem? (i := 6) rfl)) (vx_hat (L := vx_atS RX5 69 "java/lang/IllegalStateException" ["java/lang/RuntimeException", "java/lang/Exception"]) (B := [.castable "java/lang/IllegalStateException" "java/lang/IllegalStateException", .declares ⟨"java/lang/RuntimeException", "<init>", "(Ljava/lang/String;)V"⟩, .declares ⟨"java/lang/Exception", "<init>", "(Ljava/lang/String;)V"⟩, .declares ⟨"java/lang/Throwable", "<init>", "(Ljava/lang/String;)V"⟩]) (fun w hw => hts w ((by decide +kernel : ∀ w ∈ (vx_atS RX5 69 "java/lang/IllegalStateException" ["java/lang/RuntimeException", "java/lang/Exception"]).filter goodWord, w ∈ wsX5_join) w hw)) (by decide +kernel) (vx_c (va_Nw.use rfl (hE.1 (.castable "java/lang/IllegalStateException" "java/lang/IllegalStateException") (List.mem_of_getElem? (i := 40) rfl))) (vx_c (va_Nw.use rfl (hE.1 (.declares ⟨"java/lang/RuntimeException", "<init>", "(Ljava/lang/String;)V"⟩) (List.mem_of_getElem? (i := 41) rfl))) (vx_c (va_Nw.use rfl (hE.1 (.declares ⟨"java/lang/Exception", "<init>", "(Ljava/lang/String;)V"⟩) (List.mem_of_getElem? (i := 42) rfl))) (vx_c (va_Nw.use rfl (hE.1 (.declares ⟨"java/lang/Throwable", "<init>", "(Ljava/lang/String;)V"⟩) (List.mem_of_getElem? (i := 43) rfl))) (vx_n)))))) (by decide +kernel) hE hP hK hD hS (hl.1.trans hml.symm) dX5_join_15 dX5_join_18 dX5_join_19 dX5_join_21 dX5_join_24 ht9 (Nat.le_of_ble_eq_true rfl) (Nat.le_of_ble_eq_true rfl) (Nat.le_of_ble_eq_true rfl) (Nat.le_of_ble_eq_true rfl) hlocks (by rw [hT9]; decide) (by rw [hT9, zN_3]) (Nat.le_of_ble_eq_true rfl) (Nat.le_of_ble_eq_true rfl)
set_option maxHeartbeats 4000000 in
set_option maxRecDepth 100000 in
theorem kX5_quit (l : Launch) (hl9 : l.stackTraces = false) (D : va_G) (cI cZ : ClassId) (ad : Nat → Nat) (K : kS) (sz : Nat) (x : Int32)  : zMi l yX5_quit wsX5_quit ({ frames := 7, cells := 2, slots := 12, locals := 102 }) [.ref (ad 0), .int x] D (zTy cI cZ) (kwA ad cI cZ K) (kwA ad cI cZ (kLeave K x.toNatClampNeg)) sz (kQuitT K x) (nI (lLen (kLeave K x.toNatClampNeg))) 2 12 := by
  refine vx_ofW (cc := cX5_quit) (maxL := 2) (ret := (some .int)) (by decide) rfl ?_
  intro pP e s m args below meth c s₁ B hml ht9 hv
  obtain ⟨rfl, hsz, hP, hK, hD0, hE0⟩ := hv
  have hx := B.exec
  have hb := B.bytes
  have hr := B.returns
  have hts := atoms_spec (ws := wsX5_quit) B.pre
  have hown : s.vm.findClass RX5 = some m.cls := findClass_of_methodNamed B.named
  have hlocks := B.notSynchronized
  subst hsz
  have hD := hD0.self (sz := s.heap.size)
  generalize hAe : va_A (kwA ad cI cZ K) s.heap.size = A at hD hE0 ⊢
  have hE := hE0
  have hA : ∀ q : Nat, s.heap.size ≤ q → A q := fun q h => by rw [← hAe]; exact Or.inr h
  have hS : va_S A s.heap s.heap [] := va_S.rf
  have hinX5 : ∀ w ∈ u_ws RX5 TX5 9, w ∈ wsX5_quit := by decide +kernel
  have hl := lv_entry ([.ref (ad 0), .int x]) (n := 2) (Nat.le_of_ble_eq_true rfl)
  rw [lg_entry_eq]
  generalize (lg_sl ([.ref (ad 0), .int x]) ++ List.replicate (2 - (lg_sl ([.ref (ad 0), .int x])).length) Slot.unset).toArray = ls at hl ⊢
  have hl : lv_has ls 2 [(0, .ref (ad 0)), (1, .int x)] := hl
  refine lv_iload_n hx hb dX5_quit_0 rfl (lv_at hl 1 rfl) ?_
  refine zx_Sv (As := [.int x]) (rest := []) (wr := (kwA ad cI cZ K)) ⟨hx, hb, hml, hown, hts⟩ (kX5_needPerson l hl9 D cI cZ ad K _ x ) (va_cwS 1 hts gX5_quit_X5_needPerson rfl rfl rfl (by decide +kernel) ⟨(Nat.le_of_ble_eq_true rfl), (Nat.le_of_ble_eq_true rfl)⟩) hK hP hD hS hA hE [] [0, 1, 2, 3, 4, 5, 6, 7, 8, 9, 10, 11, 12, 13, 14, 15, 16, 17, 18, 19, 20, 21, 22, 23, 24, 25] rfl rfl rfl rfl rfl (by decide) rfl hl.1 rfl (Nat.le_of_ble_eq_true rfl) dX5_quit_1 ⟨(Nat.le_of_ble_eq_true rfl), (Nat.le_of_ble_eq_true rfl)⟩ (fun E ce q9 H locs h0 hE9 hP hD hS hce hcv hcl => ?_) (fun ht_1 H locs hP hD hS => ?_)
  · skip
    have hP : va_P D vwCl (kwA ad cI cZ K) _ := hP
    have hD : va_D A (kwA ad cI cZ K) := hD
    exact zx_out ht9 hlocks hce hcv hcl h0 hE9 (by simp [kQuitT, zseq, h0]) hP hK hD hS (Nat.le_of_ble_eq_true rfl) (Nat.le_of_ble_eq_true rfl)
  · skip
    have hP : va_P D vwCl (kwA ad cI cZ K) _ := hP
    have hD : va_D A (kwA ad cI cZ K) := hD
    have ht_1 : kNeedP x = nI 0 := ht_1
    obtain ⟨p9, hp9, hp8, hp7⟩ := kNeedP_of ht_1
    refine lv_aload_n hx hb dX5_quit_4 rfl (lv_at hl 0 rfl) ?_
    refine va_get (D := D) (ci := 5) (v := .ref (ad 6)) (C := RX5) (T := TX5) (N := 9) hx hb hts hinX5 hown hK hP 0 rfl rfl 5 (by decide) (hts (.fieldLink RX5 33 "AuditoriumKeys" "line" "LAuditoriumKeys$Line;") (List.mem_of_getElem? (i := 3) rfl)) (fun _ h9 => h9) rfl dX5_quit_5 ?_
    refine lv_iload_n hx hb dX5_quit_8 rfl (lv_at hl 1 rfl) ?_
    refine zz_top (y := nI p9) hp8 ?_
    refine zc_rVN (As := [.int (nI p9)]) (rest := []) ⟨hx, hb, hml, hown, hts⟩ (kX2_isIn l D cI cZ ad K p9 (by omega)) ⟨va_cnB 1 hts gX5_quit_X2_isIn_n106 rfl rfl rfl (hE.1 (.methodLinkNest RX5 106 yX2_isIn "AuditoriumKeys") (List.mem_of_getElem? (i := 17) rfl)) (hts (.initialized RX2) (List.mem_of_getElem? (i := 11) rfl)) (by decide +kernel) ⟨(Nat.le_of_ble_eq_true rfl), (Nat.le_of_ble_eq_true rfl)⟩, (hts (.instanceMethod yX2_isIn) (List.mem_of_getElem? (i := 10) rfl)), (hts (.selects RX2 yX2_isIn yX2_isIn) (List.mem_of_getElem? (i := 12) rfl))⟩ hK (hP.sub (ws' := (kwL ad cI K)) [6, 7] rfl) (ci := 2) (q0 := 0) rfl rfl rfl rfl hl.1 rfl (Nat.le_of_ble_eq_true rfl) dX5_quit_9 ⟨Nat.le_of_ble_eq_true rfl, Nat.le_of_ble_eq_true rfl⟩ ?_
    refine lv_if_ne (tgt := 25) hx hb dX5_quit_12 (by decide) (fun c_2 => ?_) (fun c_2 => ?_)
    · skip
      have c_2 := zb_t c_2
      refine lv_aload_n hx hb dX5_quit_25 rfl (lv_at hl 0 rfl) ?_
      refine va_get (D := D) (ci := 5) (v := .ref (ad 6)) (C := RX5) (T := TX5) (N := 9) hx hb hts hinX5 hown hK hP 0 rfl rfl 5 (by decide) (hts (.fieldLink RX5 33 "AuditoriumKeys" "line" "LAuditoriumKeys$Line;") (List.mem_of_getElem? (i := 3) rfl)) (fun _ h9 => h9) rfl dX5_quit_26 ?_
      refine lv_iload_n hx hb dX5_quit_29 rfl (lv_at hl 1 rfl) ?_
      refine zz_top (y := nI p9) hp8 ?_
      refine zc_wVNv (As := [.int (nI p9)]) (rest := []) (wr := [kc0 ad K, kc1 ad cI K, kc2 ad K, kc3 ad cI K, kc4 ad cI K, kc5 ad cI K, kc8 ad, kc9 ad cI K, kc10 ad cI K, kc11 ad cI K, kc12 ad cI K, kc13 ad cI K, kc14 ad cI K, kc15 ad cI K, kc16 ad, kc17 ad cZ K, kc18 ad cZ K, kc19 ad cI K, kc20 ad cI K, kc21 ad cI K, kc22 ad K, kc23 ad cI K, kc24 ad cI K, kc25 ad cI K]) ⟨hx, hb, hml, hown, hts⟩ (kX2_leave l D cI cZ ad K _ p9 (by omega)) ⟨va_cnB 1 hts gX5_quit_X2_leave_n123 rfl rfl rfl (hE.1 (.methodLinkNest RX5 123 yX2_leave "AuditoriumKeys") (List.mem_of_getElem? (i := 20) rfl)) (hts (.initialized RX2) (List.mem_of_getElem? (i := 11) rfl)) (by decide +kernel) ⟨(Nat.le_of_ble_eq_true rfl), (Nat.le_of_ble_eq_true rfl)⟩, (hts (.instanceMethod yX2_leave) (List.mem_of_getElem? (i := 15) rfl)), (hts (.selects RX2 yX2_leave yX2_leave) (List.mem_of_getElem? (i := 16) rfl))⟩ hK hP hD hS hA [6, 7] [0, 1, 2, 3, 4, 5, 8, 9, 10, 11, 12, 13, 14, 15, 16, 17, 18, 19, 20, 21, 22, 23, 24, 25] rfl rfl rfl rfl rfl (by decide) (ci := 2) (q0 := 0) rfl rfl rfl rfl hl.1 rfl (Nat.le_of_ble_eq_true rfl) dX5_quit_30 ⟨Nat.le_of_ble_eq_true rfl, Nat.le_of_ble_eq_true rfl⟩ (fun H locs hP hD hS => ?_)
      have hP := hP.sub (ws' := [kc0 ad K, kc1 ad cI K, kc2 ad K, kc3 ad cI K, kc4 ad cI K, kc5 ad cI K, kc6 ad, kc7 ad cI (kLeave K p9), kc8 ad, kc9 ad cI K, kc10 ad cI K, kc11 ad cI K, kc12 ad cI K, kc13 ad cI K, kc14 ad cI K, kc15 ad cI K, kc16 ad, kc17 ad cZ K, kc18 ad cZ K, kc19 ad cI K, kc20 ad cI K, kc21 ad cI K, kc22 ad K, kc23 ad cI K, kc24 ad cI K, kc25 ad cI K]) [0, 1, 2, 3, 4, 5, 24, 25, 6, 7, 8, 9, 10, 11, 12, 13, 14, 15, 16, 17, 18, 19, 20, 21, 22, 23] rfl
      have hD := hD.sub (ws' := [kc0 ad K, kc1 ad cI K, kc2 ad K, kc3 ad cI K, kc4 ad cI K, kc5 ad cI K, kc6 ad, kc7 ad cI (kLeave K p9), kc8 ad, kc9 ad cI K, kc10 ad cI K, kc11 ad cI K, kc12 ad cI K, kc13 ad cI K, kc14 ad cI K, kc15 ad cI K, kc16 ad, kc17 ad cZ K, kc18 ad cZ K, kc19 ad cI K, kc20 ad cI K, kc21 ad cI K, kc22 ad K, kc23 ad cI K, kc24 ad cI K, kc25 ad cI K]) [0, 1, 2, 3, 4, 5, 24, 25, 6, 7, 8, 9, 10, 11, 12, 13, 14, 15, 16, 17, 18, 19, 20, 21, 22, 23] rfl rfl
      have hP : va_P D vwCl (kwA ad cI cZ (kLeave K p9)) _ := hP
      have hD : va_D A (kwA ad cI cZ (kLeave K p9)) := hD
      refine lv_aload_n hx hb dX5_quit_33 rfl (lv_at hl 0 rfl) ?_
      refine va_get (D := D) (ci := 5) (v := .ref (ad 6)) (C := RX5) (T := TX5) (N := 9) hx hb hts hinX5 hown hK hP 0 rfl rfl 5 (by decide) (hts (.fieldLink RX5 33 "AuditoriumKeys" "line" "LAuditoriumKeys$Line;") (List.mem_of_getElem? (i := 3) rfl)) (fun _ h9 => h9) rfl dX5_quit_34 ?_
      refine zc_rVN (As := []) (rest := []) ⟨hx, hb, hml, hown, hts⟩ (kX2_length l D cI cZ ad (kLeave K p9)  ) ⟨va_cnB 0 hts gX5_quit_X2_length_n117 rfl rfl rfl (hE.1 (.methodLinkNest RX5 117 yX2_length "AuditoriumKeys") (List.mem_of_getElem? (i := 19) rfl)) (hts (.initialized RX2) (List.mem_of_getElem? (i := 11) rfl)) (by decide +kernel) ⟨(Nat.le_of_ble_eq_true rfl), (Nat.le_of_ble_eq_true rfl)⟩, (hts (.instanceMethod yX2_length) (List.mem_of_getElem? (i := 18) rfl)), (hts (.selects RX2 yX2_length yX2_length) (List.mem_of_getElem? (i := 19) rfl))⟩ hK (hP.sub (ws' := (kwL ad cI (kLeave K p9))) [6, 7] rfl) (ci := 2) (q0 := 0) rfl rfl rfl rfl hl.1 rfl (Nat.le_of_ble_eq_true rfl) dX5_quit_37 ⟨Nat.le_of_ble_eq_true rfl, Nat.le_of_ble_eq_true rfl⟩ ?_
      have hT9 : kQuitT K x = nI 0 := (by simp [kQuitT, zseq, eq_true ht_1, hp7, c_2])
      have hP9 := hP
      have hD9 := hD
      have eK9 : (kLeave K x.toNatClampNeg) = (kLeave K p9) := (by rw [hp7])
      rw [← eK9] at hP9 hD9
      refine W.widen (k := 2) (n := 12) (Nat.le_of_ble_eq_true rfl) (Nat.le_of_ble_eq_true rfl) ?_
      have eR9 : nI (lLen (kLeave K p9)) = nI (lLen (kLeave K x.toNatClampNeg)) := (by rw [hp7])
      exact vx_ret (W.iret (v := nI (lLen (kLeave K p9))) hx hb hr (fun t ht hW => ⟨⟨nI (lLen (kLeave K p9)), (), rfl, ⟨hT9, eR9⟩, by rw [ht]; exact hP9, va_K.moved hW.alike hK, hD9⟩, hS.F ht⟩) hS.2.2 dX5_quit_40)
    · skip
      have c_2 := zb_f c_2
      have hT9 : kQuitT K x = nI 3 := (by simp [kQuitT, zseq, eq_true ht_1, hp7, c_2])
      exact zx_throw (own := RX5) (cls := "java/lang/IllegalStateException") (text := "the person is not in the queue") (names := ["java/lang/RuntimeException", "java/lang/Exception"]) hx hb hl9 hown (by decide +kernel) (by decide +kernel) (hts (.classLink RX5 65 "java/lang/IllegalStateException") (List.mem_of_getElem? (i := 1) rfl)) (hts (.initialized "java/lang/IllegalStateException") (List.mem_of_getElem? (i := 2) rfl)) (hE.2.1 (121, "the person is not in the queue") (List.mem_of_getElem? (i := 8) rfl)) (vx_hat (L := vx_atS RX5 69 "java/lang/IllegalStateException" ["java/lang/RuntimeException", "java/lang/Exception"]) (B := [.castable "java/lang/IllegalStateException" "java/lang/IllegalStateException", .declares ⟨"java/lang/RuntimeException", "<init>", "(Ljava/lang/String;)V"⟩, .declares ⟨"java/lang/Exception", "<init>", "(Ljava/lang/String;)V"⟩, .declares ⟨"java/lang/Throwable", "<init>", "(Ljava/lang/String;)V"⟩]) (fun w hw => hts w ((by decide +kernel : ∀ w ∈ (vx_atS RX5 69 "java/lang/IllegalStateException" ["java/lang/RuntimeException", "java/lang/Exception"]).filter goodWord, w ∈ wsX5_quit) w hw)) (by decide +kernel) (vx_c (va_Nw.use rfl (hE.1 (.castable "java/lang/IllegalStateException" "java/lang/IllegalStateException") (List.mem_of_getElem? (i := 40) rfl))) (vx_c (va_Nw.use rfl (hE.1 (.declares ⟨"java/lang/RuntimeException", "<init>", "(Ljava/lang/String;)V"⟩) (List.mem_of_getElem? (i := 41) rfl))) (vx_c (va_Nw.use rfl (hE.1 (.declares ⟨"java/lang/Exception", "<init>", "(Ljava/lang/String;)V"⟩) (List.mem_of_getElem? (i := 42) rfl))) (vx_c (va_Nw.use rfl (hE.1 (.declares ⟨"java/lang/Throwable", "<init>", "(Ljava/lang/String;)V"⟩) (List.mem_of_getElem? (i := 43) rfl))) (vx_n)))))) (by decide +kernel) hE hP hK hD hS (hl.1.trans hml.symm) dX5_quit_15 dX5_quit_18 dX5_quit_19 dX5_quit_21 dX5_quit_24 ht9 (Nat.le_of_ble_eq_true rfl) (Nat.le_of_ble_eq_true rfl) (Nat.le_of_ble_eq_true rfl) (Nat.le_of_ble_eq_true rfl) hlocks (by rw [hT9]; decide) (by rw [hT9, zN_3]) (Nat.le_of_ble_eq_true rfl) (Nat.le_of_ble_eq_true rfl)
set_option maxHeartbeats 4000000 in
set_option maxRecDepth 100000 in
theorem kX5_queueAt (l : Launch) (hl9 : l.stackTraces = false) (D : va_G) (cI cZ : ClassId) (ad : Nat → Nat) (K : kS) (sz : Nat) (x : Int32)  : zMi l yX5_queueAt wsX5_queueAt ({ frames := 6, cells := 1, slots := 6, locals := 82 }) [.ref (ad 0), .int x] D (zTy cI cZ) (kwA ad cI cZ K) (kwA ad cI cZ K) sz (kQueT K x) (lAt K x) 1 6 := by
  refine vx_ofW (cc := cX5_queueAt) (maxL := 3) (ret := (some .int)) (by decide) rfl ?_
  intro pP e s m args below meth c s₁ B hml ht9 hv
  obtain ⟨rfl, hsz, hP, hK, hD0, hE0⟩ := hv
  have hx := B.exec
  have hb := B.bytes
  have hr := B.returns
  have hts := atoms_spec (ws := wsX5_queueAt) B.pre
  have hown : s.vm.findClass RX5 = some m.cls := findClass_of_methodNamed B.named
  have hlocks := B.notSynchronized
  subst hsz
  have hD := hD0.self (sz := s.heap.size)
  generalize hAe : va_A (kwA ad cI cZ K) s.heap.size = A at hD hE0 ⊢
  have hE := hE0
  have hA : ∀ q : Nat, s.heap.size ≤ q → A q := fun q h => by rw [← hAe]; exact Or.inr h
  have hS : va_S A s.heap s.heap [] := va_S.rf
  have hinX5 : ∀ w ∈ u_ws RX5 TX5 9, w ∈ wsX5_queueAt := by decide +kernel
  have hl := lv_entry ([.ref (ad 0), .int x]) (n := 3) (Nat.le_of_ble_eq_true rfl)
  rw [lg_entry_eq]
  generalize (lg_sl ([.ref (ad 0), .int x]) ++ List.replicate (3 - (lg_sl ([.ref (ad 0), .int x])).length) Slot.unset).toArray = ls at hl ⊢
  have hl : lv_has ls 3 [(0, .ref (ad 0)), (1, .int x)] := hl
  refine lv_aload_n hx hb dX5_queueAt_0 rfl (lv_at hl 0 rfl) ?_
  refine va_get (D := D) (ci := 5) (v := .ref (ad 6)) (C := RX5) (T := TX5) (N := 9) hx hb hts hinX5 hown hK hP 0 rfl rfl 5 (by decide) (hts (.fieldLink RX5 33 "AuditoriumKeys" "line" "LAuditoriumKeys$Line;") (List.mem_of_getElem? (i := 3) rfl)) (fun _ h9 => h9) rfl dX5_queueAt_1 ?_
  refine lv_iload_n hx hb dX5_queueAt_4 rfl (lv_at hl 1 rfl) ?_
  refine zc_rVN (As := [.int x]) (rest := []) ⟨hx, hb, hml, hown, hts⟩ (kX2_personAt l D cI cZ ad K x ) ⟨va_cnB 1 hts gX5_queueAt_X2_personAt_n126 rfl rfl rfl (hE.1 (.methodLinkNest RX5 126 yX2_personAt "AuditoriumKeys") (List.mem_of_getElem? (i := 21) rfl)) (hts (.initialized RX2) (List.mem_of_getElem? (i := 5) rfl)) (by decide +kernel) ⟨(Nat.le_of_ble_eq_true rfl), (Nat.le_of_ble_eq_true rfl)⟩, (hts (.instanceMethod yX2_personAt) (List.mem_of_getElem? (i := 4) rfl)), (hts (.selects RX2 yX2_personAt yX2_personAt) (List.mem_of_getElem? (i := 6) rfl))⟩ hK (hP.sub (ws' := (kwL ad cI K)) [6, 7] rfl) (ci := 2) (q0 := 0) rfl rfl rfl rfl hl.1 rfl (Nat.le_of_ble_eq_true rfl) dX5_queueAt_5 ⟨Nat.le_of_ble_eq_true rfl, Nat.le_of_ble_eq_true rfl⟩ ?_
  refine lv_istore_n (lv' := [(2, .int (lAt K x)), (0, .ref (ad 0)), (1, .int x)]) hx hb dX5_queueAt_8 rfl hl (by decide) rfl (fun ls hl => ?_)
  refine lv_iload_n hx hb dX5_queueAt_9 rfl (lv_at hl 0 rfl) ?_
  refine lv_iconst (v := (-1)) hx hb dX5_queueAt_10 (by decide) ?_
  refine lv_icmp_ne (tgt := 24) hx hb dX5_queueAt_11 (by decide) (fun c_1 => ?_) (fun c_1 => ?_)
  · skip
    have c_1 : ¬ lAt K x = (-1) := c_1
    refine lv_iload_n hx hb dX5_queueAt_24 rfl (lv_at hl 0 rfl) ?_
    have hT9 : kQueT K x = nI 0 := (by simp [kQueT, zseq, c_1])
    have hP9 := hP
    have hD9 := hD
    refine W.widen (k := 1) (n := 6) (Nat.le_of_ble_eq_true rfl) (Nat.le_of_ble_eq_true rfl) ?_
    have eR9 : lAt K x = lAt K x := rfl
    exact vx_ret (W.iret (v := lAt K x) hx hb hr (fun t ht hW => ⟨⟨lAt K x, (), rfl, ⟨hT9, eR9⟩, by rw [ht]; exact hP9, va_K.moved hW.alike hK, hD9⟩, hS.F ht⟩) hS.2.2 dX5_queueAt_25)
  · skip
    have c_1 : lAt K x = (-1) := c_1
    have hT9 : kQueT K x = nI 1 := (by simp [kQueT, zseq, eq_true c_1])
    exact zx_throw (own := RX5) (cls := "java/lang/IndexOutOfBoundsException") (text := "no such place in the queue") (names := ["java/lang/RuntimeException", "java/lang/Exception"]) hx hb hl9 hown (by decide +kernel) (by decide +kernel) (hts (.classLink RX5 129 "java/lang/IndexOutOfBoundsException") (List.mem_of_getElem? (i := 1) rfl)) (hts (.initialized "java/lang/IndexOutOfBoundsException") (List.mem_of_getElem? (i := 2) rfl)) (hE.2.1 (131, "no such place in the queue") (List.mem_of_getElem? (i := 9) rfl)) (vx_hat (L := vx_atS RX5 133 "java/lang/IndexOutOfBoundsException" ["java/lang/RuntimeException", "java/lang/Exception"]) (B := [.castable "java/lang/IndexOutOfBoundsException" "java/lang/IndexOutOfBoundsException", .declares ⟨"java/lang/RuntimeException", "<init>", "(Ljava/lang/String;)V"⟩, .declares ⟨"java/lang/Exception", "<init>", "(Ljava/lang/String;)V"⟩, .declares ⟨"java/lang/Throwable", "<init>", "(Ljava/lang/String;)V"⟩]) (fun w hw => hts w ((by decide +kernel : ∀ w ∈ (vx_atS RX5 133 "java/lang/IndexOutOfBoundsException" ["java/lang/RuntimeException", "java/lang/Exception"]).filter goodWord, w ∈ wsX5_queueAt) w hw)) (by decide +kernel) (vx_c (va_Nw.use rfl (hE.1 (.castable "java/lang/IndexOutOfBoundsException" "java/lang/IndexOutOfBoundsException") (List.mem_of_getElem? (i := 38) rfl))) (vx_c (va_Nw.use rfl (hE.1 (.declares ⟨"java/lang/RuntimeException", "<init>", "(Ljava/lang/String;)V"⟩) (List.mem_of_getElem? (i := 41) rfl))) (vx_c (va_Nw.use rfl (hE.1 (.declares ⟨"java/lang/Exception", "<init>", "(Ljava/lang/String;)V"⟩) (List.mem_of_getElem? (i := 42) rfl))) (vx_c (va_Nw.use rfl (hE.1 (.declares ⟨"java/lang/Throwable", "<init>", "(Ljava/lang/String;)V"⟩) (List.mem_of_getElem? (i := 43) rfl))) (vx_n)))))) (by decide +kernel) hE hP hK hD hS (hl.1.trans hml.symm) dX5_queueAt_14 dX5_queueAt_17 dX5_queueAt_18 dX5_queueAt_20 dX5_queueAt_23 ht9 (Nat.le_of_ble_eq_true rfl) (Nat.le_of_ble_eq_true rfl) (Nat.le_of_ble_eq_true rfl) (Nat.le_of_ble_eq_true rfl) hlocks (by rw [hT9]; decide) (by rw [hT9, zN_1]) (Nat.le_of_ble_eq_true rfl) (Nat.le_of_ble_eq_true rfl)
set_option maxHeartbeats 4000000 in
set_option maxRecDepth 100000 in
theorem kX5_letGo (l : Launch) (hl9 : l.stackTraces = false) (D : va_G) (cI cZ : ClassId) (ad : Nat → Nat) (K : kS) (sz : Nat) (x : Int32) (hok : kHok K) : zMi l yX5_letGo wsX5_letGo ({ frames := 7, cells := 2, slots := 12, locals := 103 }) [.ref (ad 0), .int x] D (zTy cI cZ) (kwA ad cI cZ K) (kwA ad cI cZ (kBackAt K x.toNatClampNeg)) sz (kGoT K x) (K 13 x.toNatClampNeg) 2 12 := by
  refine vx_ofW (cc := cX5_letGo) (maxL := 2) (ret := (some .int)) (by decide) rfl ?_
  intro pP e s m args below meth c s₁ B hml ht9 hv
  obtain ⟨rfl, hsz, hP, hK, hD0, hE0⟩ := hv
  have hx := B.exec
  have hb := B.bytes
  have hr := B.returns
  have hts := atoms_spec (ws := wsX5_letGo) B.pre
  have hown : s.vm.findClass RX5 = some m.cls := findClass_of_methodNamed B.named
  have hlocks := B.notSynchronized
  subst hsz
  have hD := hD0.self (sz := s.heap.size)
  generalize hAe : va_A (kwA ad cI cZ K) s.heap.size = A at hD hE0 ⊢
  have hE := hE0
  have hA : ∀ q : Nat, s.heap.size ≤ q → A q := fun q h => by rw [← hAe]; exact Or.inr h
  have hS : va_S A s.heap s.heap [] := va_S.rf
  have hl := lv_entry ([.ref (ad 0), .int x]) (n := 2) (Nat.le_of_ble_eq_true rfl)
  rw [lg_entry_eq]
  generalize (lg_sl ([.ref (ad 0), .int x]) ++ List.replicate (2 - (lg_sl ([.ref (ad 0), .int x])).length) Slot.unset).toArray = ls at hl ⊢
  have hl : lv_has ls 2 [(0, .ref (ad 0)), (1, .int x)] := hl
  refine lv_iload_n hx hb dX5_letGo_0 rfl (lv_at hl 1 rfl) ?_
  refine zx_Sv (As := [.int x]) (rest := []) (wr := (kwA ad cI cZ K)) ⟨hx, hb, hml, hown, hts⟩ (kX5_needPerson l hl9 D cI cZ ad K _ x ) (va_cwS 1 hts gX5_letGo_X5_needPerson rfl rfl rfl (by decide +kernel) ⟨(Nat.le_of_ble_eq_true rfl), (Nat.le_of_ble_eq_true rfl)⟩) hK hP hD hS hA hE [] [0, 1, 2, 3, 4, 5, 6, 7, 8, 9, 10, 11, 12, 13, 14, 15, 16, 17, 18, 19, 20, 21, 22, 23, 24, 25] rfl rfl rfl rfl rfl (by decide) rfl hl.1 rfl (Nat.le_of_ble_eq_true rfl) dX5_letGo_1 ⟨(Nat.le_of_ble_eq_true rfl), (Nat.le_of_ble_eq_true rfl)⟩ (fun E ce q9 H locs h0 hE9 hP hD hS hce hcv hcl => ?_) (fun ht_1 H locs hP hD hS => ?_)
  · skip
    have hP : va_P D vwCl (kwA ad cI cZ K) _ := hP
    have hD : va_D A (kwA ad cI cZ K) := hD
    exact zx_out ht9 hlocks hce hcv hcl h0 hE9 (by simp [kGoT, zseq, h0]) hP hK hD hS (Nat.le_of_ble_eq_true rfl) (Nat.le_of_ble_eq_true rfl)
  · skip
    have hP : va_P D vwCl (kwA ad cI cZ K) _ := hP
    have hD : va_D A (kwA ad cI cZ K) := hD
    have ht_1 : kNeedP x = nI 0 := ht_1
    obtain ⟨p9, hp9, hp8, hp7⟩ := kNeedP_of ht_1
    refine lv_aload_n hx hb dX5_letGo_4 rfl (lv_at hl 0 rfl) ?_
    refine lv_iload_n hx hb dX5_letGo_5 rfl (lv_at hl 1 rfl) ?_
    refine zz_top (y := nI p9) hp8 ?_
    refine zx_Vv (As := [.int (nI p9)]) (rest := []) (wr := []) ⟨hx, hb, hml, hown, hts⟩ (kX5_needHold l hl9 D cI cZ ad K _ p9 (by omega)) (cwV 1 hts gX5_letGo_X5_needHold rfl rfl rfl (by decide +kernel) ⟨(Nat.le_of_ble_eq_true rfl), (Nat.le_of_ble_eq_true rfl)⟩) hK hP hD hS hA hE [0, 1, 2, 3, 4, 5, 6, 7, 8, 9, 10, 11, 12, 13, 14, 15, 16, 17, 18, 19, 20, 21, 22, 23, 24, 25] [] rfl rfl rfl rfl rfl (by decide) (ci := 5) (q0 := 0) rfl rfl rfl rfl hl.1 rfl (Nat.le_of_ble_eq_true rfl) dX5_letGo_6 ⟨(Nat.le_of_ble_eq_true rfl), (Nat.le_of_ble_eq_true rfl)⟩ (fun E ce q9 H locs h0 hE9 hP hD hS hce hcv hcl => ?_) (fun ht_2 H locs hP hD hS => ?_)
    · skip
      have hP : va_P D vwCl (kwA ad cI cZ K) _ := hP
      have hD : va_D A (kwA ad cI cZ K) := hD
      exact zx_out ht9 hlocks hce hcv hcl h0 hE9 (by simp [kGoT, zseq, eq_true ht_1, hp7, h0]) hP hK hD hS (Nat.le_of_ble_eq_true rfl) (Nat.le_of_ble_eq_true rfl)
    · skip
      have hP : va_P D vwCl (kwA ad cI cZ K) _ := hP
      have hD : va_D A (kwA ad cI cZ K) := hD
      have ht_2 : kNeedH K p9 = nI 0 := ht_2
      obtain ⟨f9, m9, hf9, hm9, hfm9, hbc9⟩ := hok p9 hp9 (kNeedH_of ht_2)
      have hf6 : (K 9 p9).toNatClampNeg = f9 := by rw [hf9]; exact nI_clamp (by omega)
      have hm6 : (K 10 p9).toNatClampNeg = m9 := by rw [hm9]; exact nI_clamp (by omega)
      refine lv_aload_n hx hb dX5_letGo_9 rfl (lv_at hl 0 rfl) ?_
      refine lv_iload_n hx hb dX5_letGo_10 rfl (lv_at hl 1 rfl) ?_
      refine zz_top (y := nI p9) hp8 ?_
      refine zx_Vi (As := [.int (nI p9)]) (rest := []) (wr := []) ⟨hx, hb, hml, hown, hts⟩ (kX5_giveBack l hl9 D cI cZ ad K _ p9 f9 m9 (by omega) hf9 hm9 hfm9 hbc9) (cwV 1 hts gX5_letGo_X5_giveBack rfl rfl rfl (by decide +kernel) ⟨(Nat.le_of_ble_eq_true rfl), (Nat.le_of_ble_eq_true rfl)⟩) hK hP hD hS hA hE [0, 1, 2, 3, 4, 5, 6, 7, 8, 9, 10, 11, 12, 13, 14, 15, 16, 17, 18, 19, 20, 21, 22, 23, 24, 25] [] rfl rfl rfl rfl rfl (by decide) (ci := 5) (q0 := 0) rfl rfl rfl rfl hl.1 rfl (Nat.le_of_ble_eq_true rfl) dX5_letGo_11 ⟨(Nat.le_of_ble_eq_true rfl), (Nat.le_of_ble_eq_true rfl)⟩ (fun E ce q9 H locs h0 hE9 hP hD hS hce hcv hcl => ?_) (fun ht_3 H locs hP hD hS => ?_)
      · skip
        exact absurd rfl h0
      · skip
        have hP : va_P D vwCl (kwA ad cI cZ (kBack K p9 f9 m9)) _ := hP
        have hD : va_D A (kwA ad cI cZ (kBack K p9 f9 m9)) := hD
        have hT9 : kGoT K x = nI 0 := (by simp [kGoT, zseq, eq_true ht_1, hp7, eq_true ht_2, hf6, hm6])
        have hP9 := hP
        have hD9 := hD
        have eK9 : (kBackAt K x.toNatClampNeg) = (kBack K p9 f9 m9) := (by rw [hp7]; unfold kBackAt; rw [hf6, hm6])
        rw [← eK9] at hP9 hD9
        have eR9 : K 13 p9 = K 13 x.toNatClampNeg := (by rw [hp7])
        exact vx_ret (W.iret (v := K 13 p9) hx hb hr (fun t ht hW => ⟨⟨K 13 p9, (), rfl, ⟨hT9, eR9⟩, by rw [ht]; exact hP9, va_K.moved hW.alike hK, hD9⟩, hS.F ht⟩) hS.2.2 dX5_letGo_14)
set_option maxHeartbeats 4000000 in
set_option maxRecDepth 100000 in
theorem kX5_lapses (l : Launch) (hl9 : l.stackTraces = false) (D : va_G) (cI cZ : ClassId) (ad : Nat → Nat) (K : kS) (sz : Nat) (x : Int32)  : zMi l yX5_lapses wsX5_lapses ({ frames := 7, cells := 1, slots := 6, locals := 102 }) [.ref (ad 0), .int x] D (zTy cI cZ) (kwA ad cI cZ K) (kwA ad cI cZ K) sz (kLapT x) (kLapR K x.toNatClampNeg) 1 6 := by
  refine vx_ofW (cc := cX5_lapses) (maxL := 2) (ret := (some .int)) (by decide) rfl ?_
  intro pP e s m args below meth c s₁ B hml ht9 hv
  obtain ⟨rfl, hsz, hP, hK, hD0, hE0⟩ := hv
  have hx := B.exec
  have hb := B.bytes
  have hr := B.returns
  have hts := atoms_spec (ws := wsX5_lapses) B.pre
  have hown : s.vm.findClass RX5 = some m.cls := findClass_of_methodNamed B.named
  have hlocks := B.notSynchronized
  subst hsz
  have hD := hD0.self (sz := s.heap.size)
  generalize hAe : va_A (kwA ad cI cZ K) s.heap.size = A at hD hE0 ⊢
  have hE := hE0
  have hA : ∀ q : Nat, s.heap.size ≤ q → A q := fun q h => by rw [← hAe]; exact Or.inr h
  have hS : va_S A s.heap s.heap [] := va_S.rf
  have hinX1 : ∀ w ∈ u_ws RX1 TX1 7, w ∈ wsX5_lapses := by decide +kernel
  have hinX5 : ∀ w ∈ u_ws RX5 TX5 9, w ∈ wsX5_lapses := by decide +kernel
  have hl := lv_entry ([.ref (ad 0), .int x]) (n := 2) (Nat.le_of_ble_eq_true rfl)
  rw [lg_entry_eq]
  generalize (lg_sl ([.ref (ad 0), .int x]) ++ List.replicate (2 - (lg_sl ([.ref (ad 0), .int x])).length) Slot.unset).toArray = ls at hl ⊢
  have hl : lv_has ls 2 [(0, .ref (ad 0)), (1, .int x)] := hl
  refine lv_iload_n hx hb dX5_lapses_0 rfl (lv_at hl 1 rfl) ?_
  refine zx_Sv (As := [.int x]) (rest := []) (wr := (kwA ad cI cZ K)) ⟨hx, hb, hml, hown, hts⟩ (kX5_needPerson l hl9 D cI cZ ad K _ x ) (va_cwS 1 hts gX5_lapses_X5_needPerson rfl rfl rfl (by decide +kernel) ⟨(Nat.le_of_ble_eq_true rfl), (Nat.le_of_ble_eq_true rfl)⟩) hK hP hD hS hA hE [] [0, 1, 2, 3, 4, 5, 6, 7, 8, 9, 10, 11, 12, 13, 14, 15, 16, 17, 18, 19, 20, 21, 22, 23, 24, 25] rfl rfl rfl rfl rfl (by decide) rfl hl.1 rfl (Nat.le_of_ble_eq_true rfl) dX5_lapses_1 ⟨(Nat.le_of_ble_eq_true rfl), (Nat.le_of_ble_eq_true rfl)⟩ (fun E ce q9 H locs h0 hE9 hP hD hS hce hcv hcl => ?_) (fun ht_1 H locs hP hD hS => ?_)
  · skip
    have hP : va_P D vwCl (kwA ad cI cZ K) _ := hP
    have hD : va_D A (kwA ad cI cZ K) := hD
    exact zx_out ht9 hlocks hce hcv hcl h0 hE9 (by simp [kLapT, zseq, h0]) hP hK hD hS (Nat.le_of_ble_eq_true rfl) (Nat.le_of_ble_eq_true rfl)
  · skip
    have hP : va_P D vwCl (kwA ad cI cZ K) _ := hP
    have hD : va_D A (kwA ad cI cZ K) := hD
    have ht_1 : kNeedP x = nI 0 := ht_1
    obtain ⟨p9, hp9, hp8, hp7⟩ := kNeedP_of ht_1
    refine lv_aload_n hx hb dX5_lapses_4 rfl (lv_at hl 0 rfl) ?_
    refine va_get (D := D) (ci := 5) (v := .ref (ad 8)) (C := RX5) (T := TX5) (N := 9) hx hb hts hinX5 hown hK hP 0 rfl rfl 6 (by decide) (hts (.fieldLink RX5 40 "AuditoriumKeys" "holds" "LAuditoriumKeys$Holds;") (List.mem_of_getElem? (i := 1) rfl)) (fun _ h9 => h9) rfl dX5_lapses_5 ?_
    refine lv_iload_n hx hb dX5_lapses_8 rfl (lv_at hl 1 rfl) ?_
    refine zz_top (y := nI p9) hp8 ?_
    refine zc_rVN (As := [.int (nI p9)]) (rest := []) ⟨hx, hb, hml, hown, hts⟩ (kX1_isThere l D cI cZ ad K p9 (by omega)) ⟨va_cnB 1 hts gX5_lapses_X1_isThere_n70 rfl rfl rfl (hE.1 (.methodLinkNest RX5 70 yX1_isThere "AuditoriumKeys") (List.mem_of_getElem? (i := 15) rfl)) (hts (.initialized RX1) (List.mem_of_getElem? (i := 9) rfl)) (by decide +kernel) ⟨(Nat.le_of_ble_eq_true rfl), (Nat.le_of_ble_eq_true rfl)⟩, (hts (.instanceMethod yX1_isThere) (List.mem_of_getElem? (i := 8) rfl)), (hts (.selects RX1 yX1_isThere yX1_isThere) (List.mem_of_getElem? (i := 10) rfl))⟩ hK (hP.sub (ws' := (kwH ad cI K)) [8, 9, 10, 11, 12, 13, 14, 15] rfl) (ci := 1) (q0 := 0) rfl rfl rfl rfl hl.1 rfl (Nat.le_of_ble_eq_true rfl) dX5_lapses_9 ⟨Nat.le_of_ble_eq_true rfl, Nat.le_of_ble_eq_true rfl⟩ ?_
    refine lv_if_eq (tgt := 27) hx hb dX5_lapses_12 (by decide) (fun c_2 => ?_) (fun c_2 => ?_)
    · skip
      have c_2 := zb_f c_2
      refine lv_iconst (v := (-1)) hx hb dX5_lapses_27 (by decide) ?_
      have hT9 : kLapT x = nI 0 := (by simp [kLapT, zseq, eq_true ht_1, hp7, c_2])
      have hP9 := hP
      have hD9 := hD
      have eR9 : (-1) = kLapR K x.toNatClampNeg := (by simp [kLapR, eq_true ht_1, hp7, c_2])
      exact vx_ret (W.iret (v := (-1)) hx hb hr (fun t ht hW => ⟨⟨(-1), (), rfl, ⟨hT9, eR9⟩, by rw [ht]; exact hP9, va_K.moved hW.alike hK, hD9⟩, hS.F ht⟩) hS.2.2 dX5_lapses_28)
    · skip
      have c_2 := zb_t c_2
      refine lv_aload_n hx hb dX5_lapses_15 rfl (lv_at hl 0 rfl) ?_
      refine va_get (D := D) (ci := 5) (v := .ref (ad 8)) (C := RX5) (T := TX5) (N := 9) hx hb hts hinX5 hown hK hP 0 rfl rfl 6 (by decide) (hts (.fieldLink RX5 40 "AuditoriumKeys" "holds" "LAuditoriumKeys$Holds;") (List.mem_of_getElem? (i := 1) rfl)) (fun _ h9 => h9) rfl dX5_lapses_16 ?_
      refine va_getN (D := D) (ci := 1) (v := .ref (ad 15)) (C := RX1) (T := TX1) (N := 7) hx hb hts hinX1 hown hK hP 8 rfl rfl 6 (by decide) (va_Nw.use rfl (hE.1 (.fieldLinkNest RX5 74 "AuditoriumKeys$Holds" "lapse" "[I" "AuditoriumKeys") (List.mem_of_getElem? (i := 0) rfl))) (fun _ h9 => h9) rfl dX5_lapses_19 ?_
      refine lv_iload_n hx hb dX5_lapses_22 rfl (lv_at hl 1 rfl) ?_
      refine zz_top (y := nI p9) hp8 ?_
      refine zz_iald hx hb hK hP 15 0 rfl rfl p9 (by omega) (by decide) dX5_lapses_23 ?_
      refine lv_goto (tgt := 28) hx hb dX5_lapses_24 (by decide) ?_
      have hT9 : kLapT x = nI 0 := (by simp [kLapT, zseq, eq_true ht_1, hp7, c_2])
      have hP9 := hP
      have hD9 := hD
      have eR9 : K 15 p9 = kLapR K x.toNatClampNeg := (by simp [kLapR, eq_true ht_1, hp7, c_2])
      exact vx_ret (W.iret (v := K 15 p9) hx hb hr (fun t ht hW => ⟨⟨K 15 p9, (), rfl, ⟨hT9, eR9⟩, by rw [ht]; exact hP9, va_K.moved hW.alike hK, hD9⟩, hS.F ht⟩) hS.2.2 dX5_lapses_28)
set_option maxHeartbeats 4000000 in
set_option maxRecDepth 100000 in
theorem kX5_state (l : Launch) (hl9 : l.stackTraces = false) (D : va_G) (cI cZ : ClassId) (ad : Nat → Nat) (K : kS) (sz : Nat) (x : Int32)  : zMi l yX5_state wsX5_state ({ frames := 7, cells := 1, slots := 6, locals := 102 }) [.ref (ad 0), .int x] D (zTy cI cZ) (kwA ad cI cZ K) (kwA ad cI cZ K) sz (kSeaT x) (sState K x.toNatClampNeg) 1 6 := by
  refine vx_ofW (cc := cX5_state) (maxL := 2) (ret := (some .int)) (by decide) rfl ?_
  intro pP e s m args below meth c s₁ B hml ht9 hv
  obtain ⟨rfl, hsz, hP, hK, hD0, hE0⟩ := hv
  have hx := B.exec
  have hb := B.bytes
  have hr := B.returns
  have hts := atoms_spec (ws := wsX5_state) B.pre
  have hown : s.vm.findClass RX5 = some m.cls := findClass_of_methodNamed B.named
  have hlocks := B.notSynchronized
  subst hsz
  have hD := hD0.self (sz := s.heap.size)
  generalize hAe : va_A (kwA ad cI cZ K) s.heap.size = A at hD hE0 ⊢
  have hE := hE0
  have hA : ∀ q : Nat, s.heap.size ≤ q → A q := fun q h => by rw [← hAe]; exact Or.inr h
  have hS : va_S A s.heap s.heap [] := va_S.rf
  have hinX5 : ∀ w ∈ u_ws RX5 TX5 9, w ∈ wsX5_state := by decide +kernel
  have hl := lv_entry ([.ref (ad 0), .int x]) (n := 2) (Nat.le_of_ble_eq_true rfl)
  rw [lg_entry_eq]
  generalize (lg_sl ([.ref (ad 0), .int x]) ++ List.replicate (2 - (lg_sl ([.ref (ad 0), .int x])).length) Slot.unset).toArray = ls at hl ⊢
  have hl : lv_has ls 2 [(0, .ref (ad 0)), (1, .int x)] := hl
  refine lv_iload_n hx hb dX5_state_0 rfl (lv_at hl 1 rfl) ?_
  refine zx_Sv (As := [.int x]) (rest := []) (wr := (kwA ad cI cZ K)) ⟨hx, hb, hml, hown, hts⟩ (kX5_needSeat l hl9 D cI cZ ad K _ x ) (va_cwS 1 hts gX5_state_X5_needSeat rfl rfl rfl (by decide +kernel) ⟨(Nat.le_of_ble_eq_true rfl), (Nat.le_of_ble_eq_true rfl)⟩) hK hP hD hS hA hE [] [0, 1, 2, 3, 4, 5, 6, 7, 8, 9, 10, 11, 12, 13, 14, 15, 16, 17, 18, 19, 20, 21, 22, 23, 24, 25] rfl rfl rfl rfl rfl (by decide) rfl hl.1 rfl (Nat.le_of_ble_eq_true rfl) dX5_state_1 ⟨(Nat.le_of_ble_eq_true rfl), (Nat.le_of_ble_eq_true rfl)⟩ (fun E ce q9 H locs h0 hE9 hP hD hS hce hcv hcl => ?_) (fun ht_1 H locs hP hD hS => ?_)
  · skip
    have hP : va_P D vwCl (kwA ad cI cZ K) _ := hP
    have hD : va_D A (kwA ad cI cZ K) := hD
    exact zx_out ht9 hlocks hce hcv hcl h0 hE9 (by simp [kSeaT, zseq, h0]) hP hK hD hS (Nat.le_of_ble_eq_true rfl) (Nat.le_of_ble_eq_true rfl)
  · skip
    have hP : va_P D vwCl (kwA ad cI cZ K) _ := hP
    have hD : va_D A (kwA ad cI cZ K) := hD
    have ht_1 : kNeedS x = nI 0 := ht_1
    obtain ⟨p9, hp9, hp8, hp7⟩ := kNeedS_of ht_1
    refine lv_aload_n hx hb dX5_state_4 rfl (lv_at hl 0 rfl) ?_
    refine va_get (D := D) (ci := 5) (v := .ref (ad 16)) (C := RX5) (T := TX5) (N := 9) hx hb hts hinX5 hown hK hP 0 rfl rfl 7 (by decide) (hts (.fieldLink RX5 47 "AuditoriumKeys" "seats" "LAuditoriumKeys$Seats;") (List.mem_of_getElem? (i := 1) rfl)) (fun _ h9 => h9) rfl dX5_state_5 ?_
    refine lv_iload_n hx hb dX5_state_8 rfl (lv_at hl 1 rfl) ?_
    refine zz_top (y := nI p9) hp8 ?_
    refine zc_rVN (As := [.int (nI p9)]) (rest := []) ⟨hx, hb, hml, hown, hts⟩ (kX4_stateOf l D cI cZ ad K p9 (by omega)) ⟨va_cnB 1 hts gX5_state_X4_stateOf_n189 rfl rfl rfl (hE.1 (.methodLinkNest RX5 189 yX4_stateOf "AuditoriumKeys") (List.mem_of_getElem? (i := 27) rfl)) (hts (.initialized RX4) (List.mem_of_getElem? (i := 9) rfl)) (by decide +kernel) ⟨(Nat.le_of_ble_eq_true rfl), (Nat.le_of_ble_eq_true rfl)⟩, (hts (.instanceMethod yX4_stateOf) (List.mem_of_getElem? (i := 8) rfl)), (hts (.selects RX4 yX4_stateOf yX4_stateOf) (List.mem_of_getElem? (i := 10) rfl))⟩ hK (hP.sub (ws' := (kwS ad cI cZ K)) [16, 17, 18, 19, 20, 21] rfl) (ci := 4) (q0 := 0) rfl rfl rfl rfl hl.1 rfl (Nat.le_of_ble_eq_true rfl) dX5_state_9 ⟨Nat.le_of_ble_eq_true rfl, Nat.le_of_ble_eq_true rfl⟩ ?_
    have hT9 : kSeaT x = nI 0 := (by simp [kSeaT, zseq, eq_true ht_1, hp7])
    have hP9 := hP
    have hD9 := hD
    have eR9 : sState K p9 = sState K x.toNatClampNeg := (by rw [hp7])
    exact vx_ret (W.iret (v := sState K p9) hx hb hr (fun t ht hW => ⟨⟨sState K p9, (), rfl, ⟨hT9, eR9⟩, by rw [ht]; exact hP9, va_K.moved hW.alike hK, hD9⟩, hS.F ht⟩) hS.2.2 dX5_state_12)
set_option maxHeartbeats 4000000 in
set_option maxRecDepth 100000 in
theorem kX5_owner (l : Launch) (hl9 : l.stackTraces = false) (D : va_G) (cI cZ : ClassId) (ad : Nat → Nat) (K : kS) (sz : Nat) (x : Int32)  : zMi l yX5_owner wsX5_owner ({ frames := 7, cells := 1, slots := 6, locals := 102 }) [.ref (ad 0), .int x] D (zTy cI cZ) (kwA ad cI cZ K) (kwA ad cI cZ K) sz (kSeaT x) (K 19 x.toNatClampNeg) 1 6 := by
  refine vx_ofW (cc := cX5_owner) (maxL := 2) (ret := (some .int)) (by decide) rfl ?_
  intro pP e s m args below meth c s₁ B hml ht9 hv
  obtain ⟨rfl, hsz, hP, hK, hD0, hE0⟩ := hv
  have hx := B.exec
  have hb := B.bytes
  have hr := B.returns
  have hts := atoms_spec (ws := wsX5_owner) B.pre
  have hown : s.vm.findClass RX5 = some m.cls := findClass_of_methodNamed B.named
  have hlocks := B.notSynchronized
  subst hsz
  have hD := hD0.self (sz := s.heap.size)
  generalize hAe : va_A (kwA ad cI cZ K) s.heap.size = A at hD hE0 ⊢
  have hE := hE0
  have hA : ∀ q : Nat, s.heap.size ≤ q → A q := fun q h => by rw [← hAe]; exact Or.inr h
  have hS : va_S A s.heap s.heap [] := va_S.rf
  have hinX4 : ∀ w ∈ u_ws RX4 TX4 5, w ∈ wsX5_owner := by decide +kernel
  have hinX5 : ∀ w ∈ u_ws RX5 TX5 9, w ∈ wsX5_owner := by decide +kernel
  have hl := lv_entry ([.ref (ad 0), .int x]) (n := 2) (Nat.le_of_ble_eq_true rfl)
  rw [lg_entry_eq]
  generalize (lg_sl ([.ref (ad 0), .int x]) ++ List.replicate (2 - (lg_sl ([.ref (ad 0), .int x])).length) Slot.unset).toArray = ls at hl ⊢
  have hl : lv_has ls 2 [(0, .ref (ad 0)), (1, .int x)] := hl
  refine lv_iload_n hx hb dX5_owner_0 rfl (lv_at hl 1 rfl) ?_
  refine zx_Sv (As := [.int x]) (rest := []) (wr := (kwA ad cI cZ K)) ⟨hx, hb, hml, hown, hts⟩ (kX5_needSeat l hl9 D cI cZ ad K _ x ) (va_cwS 1 hts gX5_owner_X5_needSeat rfl rfl rfl (by decide +kernel) ⟨(Nat.le_of_ble_eq_true rfl), (Nat.le_of_ble_eq_true rfl)⟩) hK hP hD hS hA hE [] [0, 1, 2, 3, 4, 5, 6, 7, 8, 9, 10, 11, 12, 13, 14, 15, 16, 17, 18, 19, 20, 21, 22, 23, 24, 25] rfl rfl rfl rfl rfl (by decide) rfl hl.1 rfl (Nat.le_of_ble_eq_true rfl) dX5_owner_1 ⟨(Nat.le_of_ble_eq_true rfl), (Nat.le_of_ble_eq_true rfl)⟩ (fun E ce q9 H locs h0 hE9 hP hD hS hce hcv hcl => ?_) (fun ht_1 H locs hP hD hS => ?_)
  · skip
    have hP : va_P D vwCl (kwA ad cI cZ K) _ := hP
    have hD : va_D A (kwA ad cI cZ K) := hD
    exact zx_out ht9 hlocks hce hcv hcl h0 hE9 (by simp [kSeaT, zseq, h0]) hP hK hD hS (Nat.le_of_ble_eq_true rfl) (Nat.le_of_ble_eq_true rfl)
  · skip
    have hP : va_P D vwCl (kwA ad cI cZ K) _ := hP
    have hD : va_D A (kwA ad cI cZ K) := hD
    have ht_1 : kNeedS x = nI 0 := ht_1
    obtain ⟨p9, hp9, hp8, hp7⟩ := kNeedS_of ht_1
    refine lv_aload_n hx hb dX5_owner_4 rfl (lv_at hl 0 rfl) ?_
    refine va_get (D := D) (ci := 5) (v := .ref (ad 16)) (C := RX5) (T := TX5) (N := 9) hx hb hts hinX5 hown hK hP 0 rfl rfl 7 (by decide) (hts (.fieldLink RX5 47 "AuditoriumKeys" "seats" "LAuditoriumKeys$Seats;") (List.mem_of_getElem? (i := 1) rfl)) (fun _ h9 => h9) rfl dX5_owner_5 ?_
    refine va_getN (D := D) (ci := 4) (v := .ref (ad 19)) (C := RX4) (T := TX4) (N := 5) hx hb hts hinX4 hown hK hP 16 rfl rfl 2 (by decide) (va_Nw.use rfl (hE.1 (.fieldLinkNest RX5 192 "AuditoriumKeys$Seats" "owner" "[I" "AuditoriumKeys") (List.mem_of_getElem? (i := 4) rfl))) (fun _ h9 => h9) rfl dX5_owner_8 ?_
    refine lv_iload_n hx hb dX5_owner_11 rfl (lv_at hl 1 rfl) ?_
    refine zz_top (y := nI p9) hp8 ?_
    refine zz_iald hx hb hK hP 19 0 rfl rfl p9 (by omega) (by decide) dX5_owner_12 ?_
    have hT9 : kSeaT x = nI 0 := (by simp [kSeaT, zseq, eq_true ht_1, hp7])
    have hP9 := hP
    have hD9 := hD
    have eR9 : K 19 p9 = K 19 x.toNatClampNeg := (by rw [hp7])
    exact vx_ret (W.iret (v := K 19 p9) hx hb hr (fun t ht hW => ⟨⟨K 19 p9, (), rfl, ⟨hT9, eR9⟩, by rw [ht]; exact hP9, va_K.moved hW.alike hK, hD9⟩, hS.F ht⟩) hS.2.2 dX5_owner_13)
set_option maxHeartbeats 4000000 in
set_option maxRecDepth 100000 in
theorem kX5_ownerBySales (l : Launch) (hl9 : l.stackTraces = false) (D : va_G) (cI cZ : ClassId) (ad : Nat → Nat) (K : kS) (sz : Nat) (x : Int32) (t9 : Nat) (ht8 : t9 ≤ 170) (hts9 : K 22 0 = nI t9) : zMi l yX5_ownerBySales wsX5_ownerBySales ({ frames := 7, cells := 1, slots := 6, locals := 102 }) [.ref (ad 0), .int x] D (zTy cI cZ) (kwA ad cI cZ K) (kwA ad cI cZ K) sz (kSeaT x) (tLast K x t9) 1 6 := by
  refine vx_ofW (cc := cX5_ownerBySales) (maxL := 2) (ret := (some .int)) (by decide) rfl ?_
  intro pP e s m args below meth c s₁ B hml ht9 hv
  obtain ⟨rfl, hsz, hP, hK, hD0, hE0⟩ := hv
  have hx := B.exec
  have hb := B.bytes
  have hr := B.returns
  have hts := atoms_spec (ws := wsX5_ownerBySales) B.pre
  have hown : s.vm.findClass RX5 = some m.cls := findClass_of_methodNamed B.named
  have hlocks := B.notSynchronized
  subst hsz
  have hD := hD0.self (sz := s.heap.size)
  generalize hAe : va_A (kwA ad cI cZ K) s.heap.size = A at hD hE0 ⊢
  have hE := hE0
  have hA : ∀ q : Nat, s.heap.size ≤ q → A q := fun q h => by rw [← hAe]; exact Or.inr h
  have hS : va_S A s.heap s.heap [] := va_S.rf
  have hinX5 : ∀ w ∈ u_ws RX5 TX5 9, w ∈ wsX5_ownerBySales := by decide +kernel
  have hl := lv_entry ([.ref (ad 0), .int x]) (n := 2) (Nat.le_of_ble_eq_true rfl)
  rw [lg_entry_eq]
  generalize (lg_sl ([.ref (ad 0), .int x]) ++ List.replicate (2 - (lg_sl ([.ref (ad 0), .int x])).length) Slot.unset).toArray = ls at hl ⊢
  have hl : lv_has ls 2 [(0, .ref (ad 0)), (1, .int x)] := hl
  refine lv_iload_n hx hb dX5_ownerBySales_0 rfl (lv_at hl 1 rfl) ?_
  refine zx_Sv (As := [.int x]) (rest := []) (wr := (kwA ad cI cZ K)) ⟨hx, hb, hml, hown, hts⟩ (kX5_needSeat l hl9 D cI cZ ad K _ x ) (va_cwS 1 hts gX5_ownerBySales_X5_needSeat rfl rfl rfl (by decide +kernel) ⟨(Nat.le_of_ble_eq_true rfl), (Nat.le_of_ble_eq_true rfl)⟩) hK hP hD hS hA hE [] [0, 1, 2, 3, 4, 5, 6, 7, 8, 9, 10, 11, 12, 13, 14, 15, 16, 17, 18, 19, 20, 21, 22, 23, 24, 25] rfl rfl rfl rfl rfl (by decide) rfl hl.1 rfl (Nat.le_of_ble_eq_true rfl) dX5_ownerBySales_1 ⟨(Nat.le_of_ble_eq_true rfl), (Nat.le_of_ble_eq_true rfl)⟩ (fun E ce q9 H locs h0 hE9 hP hD hS hce hcv hcl => ?_) (fun ht_1 H locs hP hD hS => ?_)
  · skip
    have hP : va_P D vwCl (kwA ad cI cZ K) _ := hP
    have hD : va_D A (kwA ad cI cZ K) := hD
    exact zx_out ht9 hlocks hce hcv hcl h0 hE9 (by simp [kSeaT, zseq, h0]) hP hK hD hS (Nat.le_of_ble_eq_true rfl) (Nat.le_of_ble_eq_true rfl)
  · skip
    have hP : va_P D vwCl (kwA ad cI cZ K) _ := hP
    have hD : va_D A (kwA ad cI cZ K) := hD
    have ht_1 : kNeedS x = nI 0 := ht_1
    obtain ⟨p9, hp9, hp8, hp7⟩ := kNeedS_of ht_1
    refine lv_aload_n hx hb dX5_ownerBySales_4 rfl (lv_at hl 0 rfl) ?_
    refine va_get (D := D) (ci := 5) (v := .ref (ad 22)) (C := RX5) (T := TX5) (N := 9) hx hb hts hinX5 hown hK hP 0 rfl rfl 8 (by decide) (hts (.fieldLink RX5 54 "AuditoriumKeys" "sales" "LAuditoriumKeys$Sales;") (List.mem_of_getElem? (i := 1) rfl)) (fun _ h9 => h9) rfl dX5_ownerBySales_5 ?_
    refine lv_iload_n hx hb dX5_ownerBySales_8 rfl (lv_at hl 1 rfl) ?_
    refine zc_rVN (As := [.int x]) (rest := []) ⟨hx, hb, hml, hown, hts⟩ (kX3_lastBuyerOf l D cI cZ ad K x t9 ht8 hts9) ⟨va_cnB 1 hts gX5_ownerBySales_X3_lastBuyerOf_n195 rfl rfl rfl (hE.1 (.methodLinkNest RX5 195 yX3_lastBuyerOf "AuditoriumKeys") (List.mem_of_getElem? (i := 28) rfl)) (hts (.initialized RX3) (List.mem_of_getElem? (i := 9) rfl)) (by decide +kernel) ⟨(Nat.le_of_ble_eq_true rfl), (Nat.le_of_ble_eq_true rfl)⟩, (hts (.instanceMethod yX3_lastBuyerOf) (List.mem_of_getElem? (i := 8) rfl)), (hts (.selects RX3 yX3_lastBuyerOf yX3_lastBuyerOf) (List.mem_of_getElem? (i := 10) rfl))⟩ hK (hP.sub (ws' := (kwT ad cI K)) [22, 23, 24, 25] rfl) (ci := 3) (q0 := 0) rfl rfl rfl rfl hl.1 rfl (Nat.le_of_ble_eq_true rfl) dX5_ownerBySales_9 ⟨Nat.le_of_ble_eq_true rfl, Nat.le_of_ble_eq_true rfl⟩ ?_
    have hT9 : kSeaT x = nI 0 := (by simp [kSeaT, zseq, eq_true ht_1, hp7])
    have hP9 := hP
    have hD9 := hD
    have eR9 : tLast K x t9 = tLast K x t9 := rfl
    exact vx_ret (W.iret (v := tLast K x t9) hx hb hr (fun t ht hW => ⟨⟨tLast K x t9, (), rfl, ⟨hT9, eR9⟩, by rw [ht]; exact hP9, va_K.moved hW.alike hK, hD9⟩, hS.F ht⟩) hS.2.2 dX5_ownerBySales_12)
set_option maxHeartbeats 4000000 in
set_option maxRecDepth 100000 in
theorem kX5_isSingle (l : Launch) (hl9 : l.stackTraces = false) (D : va_G) (cI cZ : ClassId) (ad : Nat → Nat) (K : kS) (sz : Nat) (x : Int32)  : zMi l yX5_isSingle wsX5_isSingle ({ frames := 7, cells := 1, slots := 6, locals := 102 }) [.ref (ad 0), .int x] D (zTy cI cZ) (kwA ad cI cZ K) (kwA ad cI cZ K) sz (kSeaT x) (zb (kSinR K x.toNatClampNeg)) 1 6 := by
  refine vx_ofW (cc := cX5_isSingle) (maxL := 4) (ret := (some .boolean)) (by decide) rfl ?_
  intro pP e s m args below meth c s₁ B hml ht9 hv
  obtain ⟨rfl, hsz, hP, hK, hD0, hE0⟩ := hv
  have hx := B.exec
  have hb := B.bytes
  have hr := B.returns
  have hts := atoms_spec (ws := wsX5_isSingle) B.pre
  have hown : s.vm.findClass RX5 = some m.cls := findClass_of_methodNamed B.named
  have hlocks := B.notSynchronized
  subst hsz
  have hD := hD0.self (sz := s.heap.size)
  generalize hAe : va_A (kwA ad cI cZ K) s.heap.size = A at hD hE0 ⊢
  have hE := hE0
  have hA : ∀ q : Nat, s.heap.size ≤ q → A q := fun q h => by rw [← hAe]; exact Or.inr h
  have hS : va_S A s.heap s.heap [] := va_S.rf
  have hinX5 : ∀ w ∈ u_ws RX5 TX5 9, w ∈ wsX5_isSingle := by decide +kernel
  have hl := lv_entry ([.ref (ad 0), .int x]) (n := 4) (Nat.le_of_ble_eq_true rfl)
  rw [lg_entry_eq]
  generalize (lg_sl ([.ref (ad 0), .int x]) ++ List.replicate (4 - (lg_sl ([.ref (ad 0), .int x])).length) Slot.unset).toArray = ls at hl ⊢
  have hl : lv_has ls 4 [(0, .ref (ad 0)), (1, .int x)] := hl
  refine lv_iload_n hx hb dX5_isSingle_0 rfl (lv_at hl 1 rfl) ?_
  refine zx_Sv (As := [.int x]) (rest := []) (wr := (kwA ad cI cZ K)) ⟨hx, hb, hml, hown, hts⟩ (kX5_needSeat l hl9 D cI cZ ad K _ x ) (va_cwS 1 hts gX5_isSingle_X5_needSeat rfl rfl rfl (by decide +kernel) ⟨(Nat.le_of_ble_eq_true rfl), (Nat.le_of_ble_eq_true rfl)⟩) hK hP hD hS hA hE [] [0, 1, 2, 3, 4, 5, 6, 7, 8, 9, 10, 11, 12, 13, 14, 15, 16, 17, 18, 19, 20, 21, 22, 23, 24, 25] rfl rfl rfl rfl rfl (by decide) rfl hl.1 rfl (Nat.le_of_ble_eq_true rfl) dX5_isSingle_1 ⟨(Nat.le_of_ble_eq_true rfl), (Nat.le_of_ble_eq_true rfl)⟩ (fun E ce q9 H locs h0 hE9 hP hD hS hce hcv hcl => ?_) (fun ht_1 H locs hP hD hS => ?_)
  · skip
    have hP : va_P D vwCl (kwA ad cI cZ K) _ := hP
    have hD : va_D A (kwA ad cI cZ K) := hD
    exact zx_out ht9 hlocks hce hcv hcl h0 hE9 (by simp [kSeaT, zseq, h0]) hP hK hD hS (Nat.le_of_ble_eq_true rfl) (Nat.le_of_ble_eq_true rfl)
  · skip
    have hP : va_P D vwCl (kwA ad cI cZ K) _ := hP
    have hD : va_D A (kwA ad cI cZ K) := hD
    have ht_1 : kNeedS x = nI 0 := ht_1
    obtain ⟨p9, hp9, hp8, hp7⟩ := kNeedS_of ht_1
    refine lv_iload_n hx hb dX5_isSingle_4 rfl (lv_at hl 1 rfl) ?_
    refine zz_top (y := nI p9) hp8 ?_
    refine lv_bipush (v := nI 10) hx hb dX5_isSingle_5 (by decide) ?_
    refine lv_idiv hx hb dX5_isSingle_7 (by decide) ?_
    refine zz_top (y := nI (p9 / 10)) (pk_div (by omega) (by decide) (by decide)) ?_
    refine lv_istore_n (lv' := [(2, .int (nI (p9 / 10))), (0, .ref (ad 0)), (1, .int x)]) hx hb dX5_isSingle_8 rfl hl (by decide) rfl (fun ls hl => ?_)
    refine lv_iload_n hx hb dX5_isSingle_9 rfl (lv_at hl 2 rfl) ?_
    refine zz_top (y := nI p9) hp8 ?_
    refine lv_bipush (v := nI 10) hx hb dX5_isSingle_10 (by decide) ?_
    refine lv_irem hx hb dX5_isSingle_12 (by decide) ?_
    refine zz_top (y := nI (p9 % 10)) (pk_rem (by omega) (by decide) (by decide)) ?_
    refine lv_istore_n (lv' := [(3, .int (nI (p9 % 10))), (2, .int (nI (p9 / 10))), (0, .ref (ad 0)), (1, .int x)]) hx hb dX5_isSingle_13 rfl hl (by decide) rfl (fun ls hl => ?_)
    refine lv_aload_n hx hb dX5_isSingle_14 rfl (lv_at hl 2 rfl) ?_
    refine va_get (D := D) (ci := 5) (v := .ref (ad 16)) (C := RX5) (T := TX5) (N := 9) hx hb hts hinX5 hown hK hP 0 rfl rfl 7 (by decide) (hts (.fieldLink RX5 47 "AuditoriumKeys" "seats" "LAuditoriumKeys$Seats;") (List.mem_of_getElem? (i := 1) rfl)) (fun _ h9 => h9) rfl dX5_isSingle_15 ?_
    refine lv_iload_n hx hb dX5_isSingle_18 rfl (lv_at hl 1 rfl) ?_
    refine lv_iload_n hx hb dX5_isSingle_19 rfl (lv_at hl 0 rfl) ?_
    refine zc_rVN (As := [.int (nI (p9 / 10)), .int (nI (p9 % 10))]) (rest := []) ⟨hx, hb, hml, hown, hts⟩ (kX4_isOpen l D cI cZ ad K (p9 / 10) (nI (p9 % 10)) (by omega)) ⟨va_cnB 2 hts gX5_isSingle_X4_isOpen_n198 rfl rfl rfl (hE.1 (.methodLinkNest RX5 198 yX4_isOpen "AuditoriumKeys") (List.mem_of_getElem? (i := 29) rfl)) (hts (.initialized RX4) (List.mem_of_getElem? (i := 9) rfl)) (by decide +kernel) ⟨(Nat.le_of_ble_eq_true rfl), (Nat.le_of_ble_eq_true rfl)⟩, (hts (.instanceMethod yX4_isOpen) (List.mem_of_getElem? (i := 8) rfl)), (hts (.selects RX4 yX4_isOpen yX4_isOpen) (List.mem_of_getElem? (i := 10) rfl))⟩ hK (hP.sub (ws' := (kwS ad cI cZ K)) [16, 17, 18, 19, 20, 21] rfl) (ci := 4) (q0 := 0) rfl rfl rfl rfl hl.1 rfl (Nat.le_of_ble_eq_true rfl) dX5_isSingle_20 ⟨Nat.le_of_ble_eq_true rfl, Nat.le_of_ble_eq_true rfl⟩ ?_
    refine lv_if_eq (tgt := 58) hx hb dX5_isSingle_23 (by decide) (fun c_2 => ?_) (fun c_2 => ?_)
    · skip
      have c_2 := zb_f c_2
      refine lv_iconst (v := nI 0) hx hb dX5_isSingle_58 (by decide) ?_
      have hT9 : kSeaT x = nI 0 := (by simp [kSeaT, zseq, eq_true ht_1, hp7, c_2])
      have hP9 := hP
      have hD9 := hD
      have eR9 : nI 0 = zb (kSinR K x.toNatClampNeg) := (by simp [kSinR, zb, eq_true ht_1, hp7, c_2])
      exact vx_ret (W.zret (v := nI 0) hx hb hr rfl (fun t ht hW => ⟨⟨nI 0, (), rfl, ⟨hT9, eR9⟩, by rw [ht]; exact hP9, va_K.moved hW.alike hK, hD9⟩, hS.F ht⟩) hS.2.2 dX5_isSingle_59)
    · skip
      have c_2 := zb_t c_2
      refine lv_aload_n hx hb dX5_isSingle_26 rfl (lv_at hl 2 rfl) ?_
      refine va_get (D := D) (ci := 5) (v := .ref (ad 16)) (C := RX5) (T := TX5) (N := 9) hx hb hts hinX5 hown hK hP 0 rfl rfl 7 (by decide) (hts (.fieldLink RX5 47 "AuditoriumKeys" "seats" "LAuditoriumKeys$Seats;") (List.mem_of_getElem? (i := 1) rfl)) (fun _ h9 => h9) rfl dX5_isSingle_27 ?_
      refine lv_iload_n hx hb dX5_isSingle_30 rfl (lv_at hl 1 rfl) ?_
      refine lv_iload_n hx hb dX5_isSingle_31 rfl (lv_at hl 0 rfl) ?_
      refine lv_iconst (v := nI 1) hx hb dX5_isSingle_32 (by decide) ?_
      refine lv_isub hx hb dX5_isSingle_33 ?_
      refine zc_rVN (As := [.int (nI (p9 / 10)), .int ((nI (p9 % 10)) - (nI 1))]) (rest := []) ⟨hx, hb, hml, hown, hts⟩ (kX4_isOpen l D cI cZ ad K (p9 / 10) ((nI (p9 % 10)) - (nI 1)) (by omega)) ⟨va_cnB 2 hts gX5_isSingle_X4_isOpen_n198 rfl rfl rfl (hE.1 (.methodLinkNest RX5 198 yX4_isOpen "AuditoriumKeys") (List.mem_of_getElem? (i := 29) rfl)) (hts (.initialized RX4) (List.mem_of_getElem? (i := 9) rfl)) (by decide +kernel) ⟨(Nat.le_of_ble_eq_true rfl), (Nat.le_of_ble_eq_true rfl)⟩, (hts (.instanceMethod yX4_isOpen) (List.mem_of_getElem? (i := 8) rfl)), (hts (.selects RX4 yX4_isOpen yX4_isOpen) (List.mem_of_getElem? (i := 10) rfl))⟩ hK (hP.sub (ws' := (kwS ad cI cZ K)) [16, 17, 18, 19, 20, 21] rfl) (ci := 4) (q0 := 0) rfl rfl rfl rfl hl.1 rfl (Nat.le_of_ble_eq_true rfl) dX5_isSingle_34 ⟨Nat.le_of_ble_eq_true rfl, Nat.le_of_ble_eq_true rfl⟩ ?_
      refine lv_if_ne (tgt := 58) hx hb dX5_isSingle_37 (by decide) (fun c_3 => ?_) (fun c_3 => ?_)
      · skip
        have c_3 := zb_t c_3
        refine lv_iconst (v := nI 0) hx hb dX5_isSingle_58 (by decide) ?_
        have hT9 : kSeaT x = nI 0 := (by simp [kSeaT, zseq, eq_true ht_1, hp7, c_2, c_3])
        have hP9 := hP
        have hD9 := hD
        have eR9 : nI 0 = zb (kSinR K x.toNatClampNeg) := (by simp [kSinR, zb, eq_true ht_1, hp7, c_2, c_3])
        exact vx_ret (W.zret (v := nI 0) hx hb hr rfl (fun t ht hW => ⟨⟨nI 0, (), rfl, ⟨hT9, eR9⟩, by rw [ht]; exact hP9, va_K.moved hW.alike hK, hD9⟩, hS.F ht⟩) hS.2.2 dX5_isSingle_59)
      · skip
        have c_3 := zb_f c_3
        refine lv_aload_n hx hb dX5_isSingle_40 rfl (lv_at hl 2 rfl) ?_
        refine va_get (D := D) (ci := 5) (v := .ref (ad 16)) (C := RX5) (T := TX5) (N := 9) hx hb hts hinX5 hown hK hP 0 rfl rfl 7 (by decide) (hts (.fieldLink RX5 47 "AuditoriumKeys" "seats" "LAuditoriumKeys$Seats;") (List.mem_of_getElem? (i := 1) rfl)) (fun _ h9 => h9) rfl dX5_isSingle_41 ?_
        refine lv_iload_n hx hb dX5_isSingle_44 rfl (lv_at hl 1 rfl) ?_
        refine lv_iload_n hx hb dX5_isSingle_45 rfl (lv_at hl 0 rfl) ?_
        refine lv_iconst (v := nI 1) hx hb dX5_isSingle_46 (by decide) ?_
        refine lv_iadd hx hb dX5_isSingle_47 ?_
        refine zz_top (y := nI ((p9 % 10) + 1)) ((nI_add (p9 % 10) 1).trans (congrArg nI (by omega))) ?_
        refine zc_rVN (As := [.int (nI (p9 / 10)), .int (nI ((p9 % 10) + 1))]) (rest := []) ⟨hx, hb, hml, hown, hts⟩ (kX4_isOpen l D cI cZ ad K (p9 / 10) (nI ((p9 % 10) + 1)) (by omega)) ⟨va_cnB 2 hts gX5_isSingle_X4_isOpen_n198 rfl rfl rfl (hE.1 (.methodLinkNest RX5 198 yX4_isOpen "AuditoriumKeys") (List.mem_of_getElem? (i := 29) rfl)) (hts (.initialized RX4) (List.mem_of_getElem? (i := 9) rfl)) (by decide +kernel) ⟨(Nat.le_of_ble_eq_true rfl), (Nat.le_of_ble_eq_true rfl)⟩, (hts (.instanceMethod yX4_isOpen) (List.mem_of_getElem? (i := 8) rfl)), (hts (.selects RX4 yX4_isOpen yX4_isOpen) (List.mem_of_getElem? (i := 10) rfl))⟩ hK (hP.sub (ws' := (kwS ad cI cZ K)) [16, 17, 18, 19, 20, 21] rfl) (ci := 4) (q0 := 0) rfl rfl rfl rfl hl.1 rfl (Nat.le_of_ble_eq_true rfl) dX5_isSingle_48 ⟨Nat.le_of_ble_eq_true rfl, Nat.le_of_ble_eq_true rfl⟩ ?_
        refine lv_if_ne (tgt := 58) hx hb dX5_isSingle_51 (by decide) (fun c_4 => ?_) (fun c_4 => ?_)
        · skip
          have c_4 := zb_t c_4
          refine lv_iconst (v := nI 0) hx hb dX5_isSingle_58 (by decide) ?_
          have hT9 : kSeaT x = nI 0 := (by simp [kSeaT, zseq, eq_true ht_1, hp7, c_2, c_3, c_4])
          have hP9 := hP
          have hD9 := hD
          have eR9 : nI 0 = zb (kSinR K x.toNatClampNeg) := (by simp [kSinR, zb, eq_true ht_1, hp7, c_2, c_3, c_4])
          exact vx_ret (W.zret (v := nI 0) hx hb hr rfl (fun t ht hW => ⟨⟨nI 0, (), rfl, ⟨hT9, eR9⟩, by rw [ht]; exact hP9, va_K.moved hW.alike hK, hD9⟩, hS.F ht⟩) hS.2.2 dX5_isSingle_59)
        · skip
          have c_4 := zb_f c_4
          refine lv_iconst (v := nI 1) hx hb dX5_isSingle_54 (by decide) ?_
          refine lv_goto (tgt := 59) hx hb dX5_isSingle_55 (by decide) ?_
          have hT9 : kSeaT x = nI 0 := (by simp [kSeaT, zseq, eq_true ht_1, hp7, c_2, c_3, c_4])
          have hP9 := hP
          have hD9 := hD
          have eR9 : nI 1 = zb (kSinR K x.toNatClampNeg) := (by simp [kSinR, zb, eq_true ht_1, hp7, c_2, c_3, c_4])
          exact vx_ret (W.zret (v := nI 1) hx hb hr rfl (fun t ht hW => ⟨⟨nI 1, (), rfl, ⟨hT9, eR9⟩, by rw [ht]; exact hP9, va_K.moved hW.alike hK, hD9⟩, hS.F ht⟩) hS.2.2 dX5_isSingle_59)
set_option maxHeartbeats 4000000 in
set_option maxRecDepth 100000 in
theorem kX5_firstOpen (l : Launch) (hl9 : l.stackTraces = false) (D : va_G) (cI cZ : ClassId) (ad : Nat → Nat) (K : kS) (sz : Nat) (r1 : Int32) (m1 : Int32)  : zMi l yX5_firstOpen wsX5_firstOpen ({ frames := 7, cells := 2, slots := 12, locals := 102 }) [.ref (ad 0), .int r1, .int m1] D (zTy cI cZ) (kwA ad cI cZ K) (kwA ad cI cZ K) sz (kFirT r1 m1) (kFirR K r1.toNatClampNeg m1) 2 12 := by
  refine vx_ofW (cc := cX5_firstOpen) (maxL := 5) (ret := (some .int)) (by decide) rfl ?_
  intro pP e s m args below meth c s₁ B hml ht9 hv
  obtain ⟨rfl, hsz, hP, hK, hD0, hE0⟩ := hv
  have hx := B.exec
  have hb := B.bytes
  have hr := B.returns
  have hts := atoms_spec (ws := wsX5_firstOpen) B.pre
  have hown : s.vm.findClass RX5 = some m.cls := findClass_of_methodNamed B.named
  have hlocks := B.notSynchronized
  subst hsz
  have hD := hD0.self (sz := s.heap.size)
  generalize hAe : va_A (kwA ad cI cZ K) s.heap.size = A at hD hE0 ⊢
  have hE := hE0
  have hA : ∀ q : Nat, s.heap.size ≤ q → A q := fun q h => by rw [← hAe]; exact Or.inr h
  have hS : va_S A s.heap s.heap [] := va_S.rf
  have hinX5 : ∀ w ∈ u_ws RX5 TX5 9, w ∈ wsX5_firstOpen := by decide +kernel
  have hl := lv_entry ([.ref (ad 0), .int r1, .int m1]) (n := 5) (Nat.le_of_ble_eq_true rfl)
  rw [lg_entry_eq]
  generalize (lg_sl ([.ref (ad 0), .int r1, .int m1]) ++ List.replicate (5 - (lg_sl ([.ref (ad 0), .int r1, .int m1])).length) Slot.unset).toArray = ls at hl ⊢
  have hl : lv_has ls 5 [(0, .ref (ad 0)), (1, .int r1), (2, .int m1)] := hl
  refine lv_iload_n hx hb dX5_firstOpen_0 rfl (lv_at hl 1 rfl) ?_
  refine zx_Sv (As := [.int r1]) (rest := []) (wr := (kwA ad cI cZ K)) ⟨hx, hb, hml, hown, hts⟩ (kX5_needRow l hl9 D cI cZ ad K _ r1 ) (va_cwS 1 hts gX5_firstOpen_X5_needRow rfl rfl rfl (by decide +kernel) ⟨(Nat.le_of_ble_eq_true rfl), (Nat.le_of_ble_eq_true rfl)⟩) hK hP hD hS hA hE [] [0, 1, 2, 3, 4, 5, 6, 7, 8, 9, 10, 11, 12, 13, 14, 15, 16, 17, 18, 19, 20, 21, 22, 23, 24, 25] rfl rfl rfl rfl rfl (by decide) rfl hl.1 rfl (Nat.le_of_ble_eq_true rfl) dX5_firstOpen_1 ⟨(Nat.le_of_ble_eq_true rfl), (Nat.le_of_ble_eq_true rfl)⟩ (fun E ce q9 H locs h0 hE9 hP hD hS hce hcv hcl => ?_) (fun ht_1 H locs hP hD hS => ?_)
  · skip
    have hP : va_P D vwCl (kwA ad cI cZ K) _ := hP
    have hD : va_D A (kwA ad cI cZ K) := hD
    exact zx_out ht9 hlocks hce hcv hcl h0 hE9 (by simp [kFirT, zseq, h0]) hP hK hD hS (Nat.le_of_ble_eq_true rfl) (Nat.le_of_ble_eq_true rfl)
  · skip
    have hP : va_P D vwCl (kwA ad cI cZ K) _ := hP
    have hD : va_D A (kwA ad cI cZ K) := hD
    have ht_1 : kNeedR r1 = nI 0 := ht_1
    obtain ⟨p9, hp9, hp8, hp7⟩ := kNeedR_of ht_1
    refine lv_iload_n hx hb dX5_firstOpen_4 rfl (lv_at hl 2 rfl) ?_
    refine lv_iconst (v := nI 1) hx hb dX5_firstOpen_5 (by decide) ?_
    refine lv_icmp_lt (tgt := 15) hx hb dX5_firstOpen_6 (by decide) (fun c_2 => ?_) (fun c_2 => ?_)
    · skip
      have c_2 : m1 < nI 1 := c_2
      have hT9 : kFirT r1 m1 = nI 2 := (by simp [kFirT, zseq, eq_true ht_1, hp7, c_2])
      exact zx_throw (own := RX5) (cls := "java/lang/IllegalArgumentException") (text := "many is out of range") (names := ["java/lang/RuntimeException", "java/lang/Exception"]) hx hb hl9 hown (by decide +kernel) (by decide +kernel) (hts (.classLink RX5 58 "java/lang/IllegalArgumentException") (List.mem_of_getElem? (i := 1) rfl)) (hts (.initialized "java/lang/IllegalArgumentException") (List.mem_of_getElem? (i := 2) rfl)) (hE.2.1 (142, "many is out of range") (List.mem_of_getElem? (i := 11) rfl)) (vx_hat (L := vx_atS RX5 62 "java/lang/IllegalArgumentException" ["java/lang/RuntimeException", "java/lang/Exception"]) (B := [.castable "java/lang/IllegalArgumentException" "java/lang/IllegalArgumentException", .declares ⟨"java/lang/RuntimeException", "<init>", "(Ljava/lang/String;)V"⟩, .declares ⟨"java/lang/Exception", "<init>", "(Ljava/lang/String;)V"⟩, .declares ⟨"java/lang/Throwable", "<init>", "(Ljava/lang/String;)V"⟩]) (fun w hw => hts w ((by decide +kernel : ∀ w ∈ (vx_atS RX5 62 "java/lang/IllegalArgumentException" ["java/lang/RuntimeException", "java/lang/Exception"]).filter goodWord, w ∈ wsX5_firstOpen) w hw)) (by decide +kernel) (vx_c (va_Nw.use rfl (hE.1 (.castable "java/lang/IllegalArgumentException" "java/lang/IllegalArgumentException") (List.mem_of_getElem? (i := 39) rfl))) (vx_c (va_Nw.use rfl (hE.1 (.declares ⟨"java/lang/RuntimeException", "<init>", "(Ljava/lang/String;)V"⟩) (List.mem_of_getElem? (i := 41) rfl))) (vx_c (va_Nw.use rfl (hE.1 (.declares ⟨"java/lang/Exception", "<init>", "(Ljava/lang/String;)V"⟩) (List.mem_of_getElem? (i := 42) rfl))) (vx_c (va_Nw.use rfl (hE.1 (.declares ⟨"java/lang/Throwable", "<init>", "(Ljava/lang/String;)V"⟩) (List.mem_of_getElem? (i := 43) rfl))) (vx_n)))))) (by decide +kernel) hE hP hK hD hS (hl.1.trans hml.symm) dX5_firstOpen_15 dX5_firstOpen_18 dX5_firstOpen_19 dX5_firstOpen_21 dX5_firstOpen_24 ht9 (Nat.le_of_ble_eq_true rfl) (Nat.le_of_ble_eq_true rfl) (Nat.le_of_ble_eq_true rfl) (Nat.le_of_ble_eq_true rfl) hlocks (by rw [hT9]; decide) (by rw [hT9, zN_2]) (Nat.le_of_ble_eq_true rfl) (Nat.le_of_ble_eq_true rfl)
    · skip
      have c_2 : ¬ m1 < nI 1 := c_2
      refine lv_iload_n hx hb dX5_firstOpen_9 rfl (lv_at hl 2 rfl) ?_
      refine lv_bipush (v := nI 10) hx hb dX5_firstOpen_10 (by decide) ?_
      refine lv_icmp_le (tgt := 25) hx hb dX5_firstOpen_12 (by decide) (fun c_3 => ?_) (fun c_3 => ?_)
      · skip
        have c_3 : m1 ≤ nI 10 := c_3
        refine lv_iconst (v := nI 0) hx hb dX5_firstOpen_25 (by decide) ?_
        refine lv_istore_n (lv' := [(3, .int (nI 0)), (0, .ref (ad 0)), (1, .int r1), (2, .int m1)]) hx hb dX5_firstOpen_26 rfl hl (by decide) rfl (fun ls hl => ?_)
        refine lv_iconst (v := nI 0) hx hb dX5_firstOpen_27 (by decide) ?_
        refine lv_istore (lv' := [(4, .int (nI 0)), (3, .int (nI 0)), (0, .ref (ad 0)), (1, .int r1), (2, .int m1)]) hx hb dX5_firstOpen_28 hl (by decide) rfl (fun ls hl => ?_)
        have lp_a : ∀ (n i : Nat), 0 ≤ i → i ≤ 10 → 10 - i < n → (∀ j, j < i → decide (kFirL K p9 (j + 1) = m1) = false) → ∀ (H : Heap) (locs : List Loc), va_P D vwCl (kwA ad cI cZ K) H → va_D A (kwA ad cI cZ K) → va_S A s.heap H locs → ∀ ls : Array Slot, lv_has ls 5 [(4, .int (nI i)), (3, .int (kFirL K p9 i)), (0, .ref (ad 0)), (1, .int r1), (2, .int m1)] → W pP l e ({ frames := 7, cells := 2, slots := 12, locals := 102 } : Room) s m ([.ref (ad 0), .int r1, .int m1] : List Value).toArray below meth c H locs 1 6 (vx_MQ below (va_Qi (fun r (_ : Unit) => kFirT r1 m1 = nI 0 ∧ r = kFirR K r1.toNatClampNeg m1) (fun _ => zPo D (zTy cI cZ) A (kwA ad cI cZ K)) A) (vx_X (fun _ : Unit => True) (zXc (kFirT r1 m1) D (zTy cI cZ) A (kwA ad cI cZ K)) A) ([.ref (ad 0), .int r1, .int m1] : List Value).toArray s 2 12 A) (F0 m 30 ls []) := by
          intro n
          induction n with
          | zero => intro i _ _ h; exact absurd h (Nat.not_lt_zero _)
          | succ n ih_a =>
            intro i hlo_a hin_a hdn_a hno H locs hP hD hS ls hl
            refine lv_iload hx hb dX5_firstOpen_30 (lv_at hl 0 rfl) ?_
            refine lv_bipush (v := nI 10) hx hb dX5_firstOpen_32 (by decide) ?_
            refine lv_icmp_ge (tgt := 76) hx hb dX5_firstOpen_34 (by decide) (fun c_4 => ?_) (fun c_4 => ?_)
            · skip
              have c_4 := (nI_leI (a := 10) (b := i) (by omega) (by omega)).mp c_4
              have hi8 : i = 10 := by omega
              refine lv_iconst (v := (-1)) hx hb dX5_firstOpen_76 (by decide) ?_
              have hT9 : kFirT r1 m1 = nI 0 := (by simp [kFirT, zseq, eq_true ht_1, hp7, c_2, c_3, hno, hin_a, c_4, hi8])
              have hP9 := hP
              have hD9 := hD
              refine W.widen (k := 2) (n := 12) (Nat.le_of_ble_eq_true rfl) (Nat.le_of_ble_eq_true rfl) ?_
              have eR9 : (-1) = kFirR K r1.toNatClampNeg m1 := (by rw [hp7]; unfold kFirR; rw [hi8] at hno; rw [show kFirI K p9 m1 = -1 from zfind_no hno, if_pos rfl])
              exact vx_ret (W.iret (v := (-1)) hx hb hr (fun t ht hW => ⟨⟨(-1), (), rfl, ⟨hT9, eR9⟩, by rw [ht]; exact hP9, va_K.moved hW.alike hK, hD9⟩, hS.F ht⟩) hS.2.2 dX5_firstOpen_77)
            · skip
              have c_4 : ¬ 10 ≤ i := fun h => c_4 ((nI_leI (a := 10) (b := i) (by omega) (by omega)).mpr h)
              refine lv_aload_n hx hb dX5_firstOpen_37 rfl (lv_at hl 2 rfl) ?_
              refine va_get (D := D) (ci := 5) (v := .ref (ad 16)) (C := RX5) (T := TX5) (N := 9) hx hb hts hinX5 hown hK hP 0 rfl rfl 7 (by decide) (hts (.fieldLink RX5 47 "AuditoriumKeys" "seats" "LAuditoriumKeys$Seats;") (List.mem_of_getElem? (i := 3) rfl)) (fun _ h9 => h9) rfl dX5_firstOpen_38 ?_
              refine lv_iload_n hx hb dX5_firstOpen_41 rfl (lv_at hl 3 rfl) ?_
              refine zz_top (y := nI p9) hp8 ?_
              refine lv_iload hx hb dX5_firstOpen_42 (lv_at hl 0 rfl) ?_
              refine zc_rVN (As := [.int (nI p9), .int (nI i)]) (rest := []) ⟨hx, hb, hml, hown, hts⟩ (kX4_isOpen l D cI cZ ad K p9 (nI i) (by omega)) ⟨va_cnB 2 hts gX5_firstOpen_X4_isOpen_n198 rfl rfl rfl (hE.1 (.methodLinkNest RX5 198 yX4_isOpen "AuditoriumKeys") (List.mem_of_getElem? (i := 29) rfl)) (hts (.initialized RX4) (List.mem_of_getElem? (i := 11) rfl)) (by decide +kernel) ⟨(Nat.le_of_ble_eq_true rfl), (Nat.le_of_ble_eq_true rfl)⟩, (hts (.instanceMethod yX4_isOpen) (List.mem_of_getElem? (i := 10) rfl)), (hts (.selects RX4 yX4_isOpen yX4_isOpen) (List.mem_of_getElem? (i := 12) rfl))⟩ hK (hP.sub (ws' := (kwS ad cI cZ K)) [16, 17, 18, 19, 20, 21] rfl) (ci := 4) (q0 := 0) rfl rfl rfl rfl hl.1 rfl (Nat.le_of_ble_eq_true rfl) dX5_firstOpen_44 ⟨Nat.le_of_ble_eq_true rfl, Nat.le_of_ble_eq_true rfl⟩ ?_
              refine lv_if_eq (tgt := 56) hx hb dX5_firstOpen_47 (by decide) (fun c_5 => ?_) (fun c_5 => ?_)
              · skip
                have c_5 := zb_f c_5
                refine lv_iconst (v := nI 0) hx hb dX5_firstOpen_56 (by decide) ?_
                refine lv_istore_n (lv' := [(3, .int (nI 0)), (4, .int (nI i)), (0, .ref (ad 0)), (1, .int r1), (2, .int m1)]) hx hb dX5_firstOpen_57 rfl hl (by decide) rfl (fun ls hl => ?_)
                refine lv_iload_n hx hb dX5_firstOpen_58 rfl (lv_at hl 0 rfl) ?_
                refine lv_iload_n hx hb dX5_firstOpen_59 rfl (lv_at hl 4 rfl) ?_
                refine lv_icmp_ne (tgt := 70) hx hb dX5_firstOpen_60 (by decide) (fun c_6 => ?_) (fun c_6 => ?_)
                · skip
                  have c_6 : ¬ nI 0 = m1 := c_6
                  refine lv_iinc (v := nI (i + 1)) (lv' := [(4, .int (nI (i + 1))), (3, .int (nI 0)), (0, .ref (ad 0)), (1, .int r1), (2, .int m1)]) hx hb dX5_firstOpen_70 hl (k := 1) rfl ((show nI i + Int32.ofInt 1 = nI i + nI 1 from rfl).trans (nI_add _ _)) (by decide) rfl (fun ls hl => ?_)
                  refine lv_goto (tgt := 30) hx hb dX5_firstOpen_73 (by decide) ?_
                  have es_7 : kFirL K p9 (i + 1) = nI 0 := (by simp [kFirL, c_5])
                  exact ih_a (i + 1) (by omega) (by omega) (by omega) (lt_succ_all hno (by simp [kFirL, c_5, c_6])) _ _ hP hD hS ls (by rw [es_7]; exact lv_sub hl [0, 1, 2, 3, 4] rfl)
                · skip
                  have c_6 : nI 0 = m1 := c_6
                  refine lv_iload hx hb dX5_firstOpen_63 (lv_at hl 1 rfl) ?_
                  refine lv_iload_n hx hb dX5_firstOpen_65 rfl (lv_at hl 4 rfl) ?_
                  refine lv_isub hx hb dX5_firstOpen_66 ?_
                  refine lv_iconst (v := nI 1) hx hb dX5_firstOpen_67 (by decide) ?_
                  refine lv_iadd hx hb dX5_firstOpen_68 ?_
                  have hT9 : kFirT r1 m1 = nI 0 := (by simp [kFirT, zseq, eq_true ht_1, hp7, c_2, c_3, hno, hin_a, c_4, c_5, eq_true c_6])
                  have hP9 := hP
                  have hD9 := hD
                  refine W.widen (k := 2) (n := 12) (Nat.le_of_ble_eq_true rfl) (Nat.le_of_ble_eq_true rfl) ?_
                  have eR9 : ((nI i) - m1) + (nI 1) = kFirR K r1.toNatClampNeg m1 := (by rw [hp7]; unfold kFirR; rw [show kFirI K p9 m1 = nI i from zfind_at (by omega) hno (by simp [kFirL, c_5, eq_true c_6]), if_neg (nI_nm1 (by omega))])
                  exact vx_ret (W.iret (v := ((nI i) - m1) + (nI 1)) hx hb hr (fun t ht hW => ⟨⟨((nI i) - m1) + (nI 1), (), rfl, ⟨hT9, eR9⟩, by rw [ht]; exact hP9, va_K.moved hW.alike hK, hD9⟩, hS.F ht⟩) hS.2.2 dX5_firstOpen_69)
              · skip
                have c_5 := zb_t c_5
                refine lv_iload_n hx hb dX5_firstOpen_50 rfl (lv_at hl 1 rfl) ?_
                refine lv_iconst (v := nI 1) hx hb dX5_firstOpen_51 (by decide) ?_
                refine lv_iadd hx hb dX5_firstOpen_52 ?_
                refine lv_goto (tgt := 57) hx hb dX5_firstOpen_53 (by decide) ?_
                refine lv_istore_n (lv' := [(3, .int ((kFirL K p9 i) + (nI 1))), (4, .int (nI i)), (0, .ref (ad 0)), (1, .int r1), (2, .int m1)]) hx hb dX5_firstOpen_57 rfl hl (by decide) rfl (fun ls hl => ?_)
                refine lv_iload_n hx hb dX5_firstOpen_58 rfl (lv_at hl 0 rfl) ?_
                refine lv_iload_n hx hb dX5_firstOpen_59 rfl (lv_at hl 4 rfl) ?_
                refine lv_icmp_ne (tgt := 70) hx hb dX5_firstOpen_60 (by decide) (fun c_8 => ?_) (fun c_8 => ?_)
                · skip
                  have c_8 : ¬ (kFirL K p9 i) + (nI 1) = m1 := c_8
                  refine lv_iinc (v := nI (i + 1)) (lv' := [(4, .int (nI (i + 1))), (3, .int ((kFirL K p9 i) + (nI 1))), (0, .ref (ad 0)), (1, .int r1), (2, .int m1)]) hx hb dX5_firstOpen_70 hl (k := 1) rfl ((show nI i + Int32.ofInt 1 = nI i + nI 1 from rfl).trans (nI_add _ _)) (by decide) rfl (fun ls hl => ?_)
                  refine lv_goto (tgt := 30) hx hb dX5_firstOpen_73 (by decide) ?_
                  have es_9 : kFirL K p9 (i + 1) = (kFirL K p9 i) + (nI 1) := (by simp [kFirL, c_5])
                  exact ih_a (i + 1) (by omega) (by omega) (by omega) (lt_succ_all hno (by simp [kFirL, c_5, c_8])) _ _ hP hD hS ls (by rw [es_9]; exact lv_sub hl [0, 1, 2, 3, 4] rfl)
                · skip
                  have c_8 : (kFirL K p9 i) + (nI 1) = m1 := c_8
                  refine lv_iload hx hb dX5_firstOpen_63 (lv_at hl 1 rfl) ?_
                  refine lv_iload_n hx hb dX5_firstOpen_65 rfl (lv_at hl 4 rfl) ?_
                  refine lv_isub hx hb dX5_firstOpen_66 ?_
                  refine lv_iconst (v := nI 1) hx hb dX5_firstOpen_67 (by decide) ?_
                  refine lv_iadd hx hb dX5_firstOpen_68 ?_
                  have hT9 : kFirT r1 m1 = nI 0 := (by simp [kFirT, zseq, eq_true ht_1, hp7, c_2, c_3, hno, hin_a, c_4, c_5, eq_true c_8])
                  have hP9 := hP
                  have hD9 := hD
                  refine W.widen (k := 2) (n := 12) (Nat.le_of_ble_eq_true rfl) (Nat.le_of_ble_eq_true rfl) ?_
                  have eR9 : ((nI i) - m1) + (nI 1) = kFirR K r1.toNatClampNeg m1 := (by rw [hp7]; unfold kFirR; rw [show kFirI K p9 m1 = nI i from zfind_at (by omega) hno (by simp [kFirL, c_5, eq_true c_8]), if_neg (nI_nm1 (by omega))])
                  exact vx_ret (W.iret (v := ((nI i) - m1) + (nI 1)) hx hb hr (fun t ht hW => ⟨⟨((nI i) - m1) + (nI 1), (), rfl, ⟨hT9, eR9⟩, by rw [ht]; exact hP9, va_K.moved hW.alike hK, hD9⟩, hS.F ht⟩) hS.2.2 dX5_firstOpen_69)
        have ei_a_3 : kFirL K p9 0 = nI 0 := rfl
        exact lp_a (10 - 0 + 1) 0 (by omega) (by omega) (by omega) (fun j hj => absurd hj (Nat.not_lt_zero j)) _ _ hP hD hS ls (by rw [ei_a_3]; exact lv_sub hl [0, 1, 2, 3, 4] rfl)
      · skip
        have c_3 : ¬ m1 ≤ nI 10 := c_3
        have hT9 : kFirT r1 m1 = nI 2 := (by simp [kFirT, zseq, eq_true ht_1, hp7, c_2, c_3])
        exact zx_throw (own := RX5) (cls := "java/lang/IllegalArgumentException") (text := "many is out of range") (names := ["java/lang/RuntimeException", "java/lang/Exception"]) hx hb hl9 hown (by decide +kernel) (by decide +kernel) (hts (.classLink RX5 58 "java/lang/IllegalArgumentException") (List.mem_of_getElem? (i := 1) rfl)) (hts (.initialized "java/lang/IllegalArgumentException") (List.mem_of_getElem? (i := 2) rfl)) (hE.2.1 (142, "many is out of range") (List.mem_of_getElem? (i := 11) rfl)) (vx_hat (L := vx_atS RX5 62 "java/lang/IllegalArgumentException" ["java/lang/RuntimeException", "java/lang/Exception"]) (B := [.castable "java/lang/IllegalArgumentException" "java/lang/IllegalArgumentException", .declares ⟨"java/lang/RuntimeException", "<init>", "(Ljava/lang/String;)V"⟩, .declares ⟨"java/lang/Exception", "<init>", "(Ljava/lang/String;)V"⟩, .declares ⟨"java/lang/Throwable", "<init>", "(Ljava/lang/String;)V"⟩]) (fun w hw => hts w ((by decide +kernel : ∀ w ∈ (vx_atS RX5 62 "java/lang/IllegalArgumentException" ["java/lang/RuntimeException", "java/lang/Exception"]).filter goodWord, w ∈ wsX5_firstOpen) w hw)) (by decide +kernel) (vx_c (va_Nw.use rfl (hE.1 (.castable "java/lang/IllegalArgumentException" "java/lang/IllegalArgumentException") (List.mem_of_getElem? (i := 39) rfl))) (vx_c (va_Nw.use rfl (hE.1 (.declares ⟨"java/lang/RuntimeException", "<init>", "(Ljava/lang/String;)V"⟩) (List.mem_of_getElem? (i := 41) rfl))) (vx_c (va_Nw.use rfl (hE.1 (.declares ⟨"java/lang/Exception", "<init>", "(Ljava/lang/String;)V"⟩) (List.mem_of_getElem? (i := 42) rfl))) (vx_c (va_Nw.use rfl (hE.1 (.declares ⟨"java/lang/Throwable", "<init>", "(Ljava/lang/String;)V"⟩) (List.mem_of_getElem? (i := 43) rfl))) (vx_n)))))) (by decide +kernel) hE hP hK hD hS (hl.1.trans hml.symm) dX5_firstOpen_15 dX5_firstOpen_18 dX5_firstOpen_19 dX5_firstOpen_21 dX5_firstOpen_24 ht9 (Nat.le_of_ble_eq_true rfl) (Nat.le_of_ble_eq_true rfl) (Nat.le_of_ble_eq_true rfl) (Nat.le_of_ble_eq_true rfl) hlocks (by rw [hT9]; decide) (by rw [hT9, zN_2]) (Nat.le_of_ble_eq_true rfl) (Nat.le_of_ble_eq_true rfl)
set_option maxHeartbeats 4000000 in
set_option maxRecDepth 100000 in
theorem kX5_spent (l : Launch) (hl9 : l.stackTraces = false) (D : va_G) (cI cZ : ClassId) (ad : Nat → Nat) (K : kS) (sz : Nat) (x : Int32)  : zMi l yX5_spent wsX5_spent ({ frames := 7, cells := 1, slots := 6, locals := 102 }) [.ref (ad 0), .int x] D (zTy cI cZ) (kwA ad cI cZ K) (kwA ad cI cZ K) sz (kLapT x) (K 1 x.toNatClampNeg) 1 6 := by
  refine vx_ofW (cc := cX5_spent) (maxL := 2) (ret := (some .int)) (by decide) rfl ?_
  intro pP e s m args below meth c s₁ B hml ht9 hv
  obtain ⟨rfl, hsz, hP, hK, hD0, hE0⟩ := hv
  have hx := B.exec
  have hb := B.bytes
  have hr := B.returns
  have hts := atoms_spec (ws := wsX5_spent) B.pre
  have hown : s.vm.findClass RX5 = some m.cls := findClass_of_methodNamed B.named
  have hlocks := B.notSynchronized
  subst hsz
  have hD := hD0.self (sz := s.heap.size)
  generalize hAe : va_A (kwA ad cI cZ K) s.heap.size = A at hD hE0 ⊢
  have hE := hE0
  have hA : ∀ q : Nat, s.heap.size ≤ q → A q := fun q h => by rw [← hAe]; exact Or.inr h
  have hS : va_S A s.heap s.heap [] := va_S.rf
  have hinX5 : ∀ w ∈ u_ws RX5 TX5 9, w ∈ wsX5_spent := by decide +kernel
  have hl := lv_entry ([.ref (ad 0), .int x]) (n := 2) (Nat.le_of_ble_eq_true rfl)
  rw [lg_entry_eq]
  generalize (lg_sl ([.ref (ad 0), .int x]) ++ List.replicate (2 - (lg_sl ([.ref (ad 0), .int x])).length) Slot.unset).toArray = ls at hl ⊢
  have hl : lv_has ls 2 [(0, .ref (ad 0)), (1, .int x)] := hl
  refine lv_iload_n hx hb dX5_spent_0 rfl (lv_at hl 1 rfl) ?_
  refine zx_Sv (As := [.int x]) (rest := []) (wr := (kwA ad cI cZ K)) ⟨hx, hb, hml, hown, hts⟩ (kX5_needPerson l hl9 D cI cZ ad K _ x ) (va_cwS 1 hts gX5_spent_X5_needPerson rfl rfl rfl (by decide +kernel) ⟨(Nat.le_of_ble_eq_true rfl), (Nat.le_of_ble_eq_true rfl)⟩) hK hP hD hS hA hE [] [0, 1, 2, 3, 4, 5, 6, 7, 8, 9, 10, 11, 12, 13, 14, 15, 16, 17, 18, 19, 20, 21, 22, 23, 24, 25] rfl rfl rfl rfl rfl (by decide) rfl hl.1 rfl (Nat.le_of_ble_eq_true rfl) dX5_spent_1 ⟨(Nat.le_of_ble_eq_true rfl), (Nat.le_of_ble_eq_true rfl)⟩ (fun E ce q9 H locs h0 hE9 hP hD hS hce hcv hcl => ?_) (fun ht_1 H locs hP hD hS => ?_)
  · skip
    have hP : va_P D vwCl (kwA ad cI cZ K) _ := hP
    have hD : va_D A (kwA ad cI cZ K) := hD
    exact zx_out ht9 hlocks hce hcv hcl h0 hE9 (by simp [kLapT, zseq, h0]) hP hK hD hS (Nat.le_of_ble_eq_true rfl) (Nat.le_of_ble_eq_true rfl)
  · skip
    have hP : va_P D vwCl (kwA ad cI cZ K) _ := hP
    have hD : va_D A (kwA ad cI cZ K) := hD
    have ht_1 : kNeedP x = nI 0 := ht_1
    obtain ⟨p9, hp9, hp8, hp7⟩ := kNeedP_of ht_1
    refine lv_aload_n hx hb dX5_spent_4 rfl (lv_at hl 0 rfl) ?_
    refine va_get (D := D) (ci := 5) (v := .ref (ad 1)) (C := RX5) (T := TX5) (N := 9) hx hb hts hinX5 hown hK hP 0 rfl rfl 3 (by decide) (hts (.fieldLink RX5 19 "AuditoriumKeys" "outlay" "[I") (List.mem_of_getElem? (i := 1) rfl)) (fun _ h9 => h9) rfl dX5_spent_5 ?_
    refine lv_iload_n hx hb dX5_spent_8 rfl (lv_at hl 1 rfl) ?_
    refine zz_top (y := nI p9) hp8 ?_
    refine zz_iald hx hb hK hP 1 0 rfl rfl p9 (by omega) (by decide) dX5_spent_9 ?_
    have hT9 : kLapT x = nI 0 := (by simp [kLapT, zseq, eq_true ht_1, hp7])
    have hP9 := hP
    have hD9 := hD
    have eR9 : K 1 p9 = K 1 x.toNatClampNeg := (by rw [hp7])
    exact vx_ret (W.iret (v := K 1 p9) hx hb hr (fun t ht hW => ⟨⟨K 1 p9, (), rfl, ⟨hT9, eR9⟩, by rw [ht]; exact hP9, va_K.moved hW.alike hK, hD9⟩, hS.F ht⟩) hS.2.2 dX5_spent_10)
set_option maxHeartbeats 4000000 in
set_option maxRecDepth 100000 in
theorem kX5_retract (l : Launch) (hl9 : l.stackTraces = false) (D : va_G) (cI cZ : ClassId) (ad : Nat → Nat) (K : kS) (sz : Nat) (x : Int32)  : zMi l yX5_retract wsX5_retract ({ frames := 7, cells := 2, slots := 12, locals := 102 }) [.ref (ad 0), .int x] D (zTy cI cZ) (kwA ad cI cZ K) (kwA ad cI cZ (kRetE K x.toNatClampNeg)) sz (kRetT K x) (K 20 x.toNatClampNeg) 2 12 := by
  refine vx_ofW (cc := cX5_retract) (maxL := 2) (ret := (some .int)) (by decide) rfl ?_
  intro pP e s m args below meth c s₁ B hml ht9 hv
  obtain ⟨rfl, hsz, hP, hK, hD0, hE0⟩ := hv
  have hx := B.exec
  have hb := B.bytes
  have hr := B.returns
  have hts := atoms_spec (ws := wsX5_retract) B.pre
  have hown : s.vm.findClass RX5 = some m.cls := findClass_of_methodNamed B.named
  have hlocks := B.notSynchronized
  subst hsz
  have hD := hD0.self (sz := s.heap.size)
  generalize hAe : va_A (kwA ad cI cZ K) s.heap.size = A at hD hE0 ⊢
  have hE := hE0
  have hA : ∀ q : Nat, s.heap.size ≤ q → A q := fun q h => by rw [← hAe]; exact Or.inr h
  have hS : va_S A s.heap s.heap [] := va_S.rf
  have hinX4 : ∀ w ∈ u_ws RX4 TX4 5, w ∈ wsX5_retract := by decide +kernel
  have hinX5 : ∀ w ∈ u_ws RX5 TX5 9, w ∈ wsX5_retract := by decide +kernel
  have hl := lv_entry ([.ref (ad 0), .int x]) (n := 2) (Nat.le_of_ble_eq_true rfl)
  rw [lg_entry_eq]
  generalize (lg_sl ([.ref (ad 0), .int x]) ++ List.replicate (2 - (lg_sl ([.ref (ad 0), .int x])).length) Slot.unset).toArray = ls at hl ⊢
  have hl : lv_has ls 2 [(0, .ref (ad 0)), (1, .int x)] := hl
  refine lv_iload_n hx hb dX5_retract_0 rfl (lv_at hl 1 rfl) ?_
  refine zx_Sv (As := [.int x]) (rest := []) (wr := (kwA ad cI cZ K)) ⟨hx, hb, hml, hown, hts⟩ (kX5_needSeat l hl9 D cI cZ ad K _ x ) (va_cwS 1 hts gX5_retract_X5_needSeat rfl rfl rfl (by decide +kernel) ⟨(Nat.le_of_ble_eq_true rfl), (Nat.le_of_ble_eq_true rfl)⟩) hK hP hD hS hA hE [] [0, 1, 2, 3, 4, 5, 6, 7, 8, 9, 10, 11, 12, 13, 14, 15, 16, 17, 18, 19, 20, 21, 22, 23, 24, 25] rfl rfl rfl rfl rfl (by decide) rfl hl.1 rfl (Nat.le_of_ble_eq_true rfl) dX5_retract_1 ⟨(Nat.le_of_ble_eq_true rfl), (Nat.le_of_ble_eq_true rfl)⟩ (fun E ce q9 H locs h0 hE9 hP hD hS hce hcv hcl => ?_) (fun ht_1 H locs hP hD hS => ?_)
  · skip
    have hP : va_P D vwCl (kwA ad cI cZ K) _ := hP
    have hD : va_D A (kwA ad cI cZ K) := hD
    exact zx_out ht9 hlocks hce hcv hcl h0 hE9 (by simp [kRetT, zseq, h0]) hP hK hD hS (Nat.le_of_ble_eq_true rfl) (Nat.le_of_ble_eq_true rfl)
  · skip
    have hP : va_P D vwCl (kwA ad cI cZ K) _ := hP
    have hD : va_D A (kwA ad cI cZ K) := hD
    have ht_1 : kNeedS x = nI 0 := ht_1
    obtain ⟨p9, hp9, hp8, hp7⟩ := kNeedS_of ht_1
    refine lv_aload_n hx hb dX5_retract_4 rfl (lv_at hl 0 rfl) ?_
    refine va_get (D := D) (ci := 5) (v := .ref (ad 16)) (C := RX5) (T := TX5) (N := 9) hx hb hts hinX5 hown hK hP 0 rfl rfl 7 (by decide) (hts (.fieldLink RX5 47 "AuditoriumKeys" "seats" "LAuditoriumKeys$Seats;") (List.mem_of_getElem? (i := 3) rfl)) (fun _ h9 => h9) rfl dX5_retract_5 ?_
    refine lv_iload_n hx hb dX5_retract_8 rfl (lv_at hl 1 rfl) ?_
    refine zz_top (y := nI p9) hp8 ?_
    refine zc_rVN (As := [.int (nI p9)]) (rest := []) ⟨hx, hb, hml, hown, hts⟩ (kX4_stateOf l D cI cZ ad K p9 (by omega)) ⟨va_cnB 1 hts gX5_retract_X4_stateOf_n189 rfl rfl rfl (hE.1 (.methodLinkNest RX5 189 yX4_stateOf "AuditoriumKeys") (List.mem_of_getElem? (i := 27) rfl)) (hts (.initialized RX4) (List.mem_of_getElem? (i := 11) rfl)) (by decide +kernel) ⟨(Nat.le_of_ble_eq_true rfl), (Nat.le_of_ble_eq_true rfl)⟩, (hts (.instanceMethod yX4_stateOf) (List.mem_of_getElem? (i := 10) rfl)), (hts (.selects RX4 yX4_stateOf yX4_stateOf) (List.mem_of_getElem? (i := 12) rfl))⟩ hK (hP.sub (ws' := (kwS ad cI cZ K)) [16, 17, 18, 19, 20, 21] rfl) (ci := 4) (q0 := 0) rfl rfl rfl rfl hl.1 rfl (Nat.le_of_ble_eq_true rfl) dX5_retract_9 ⟨Nat.le_of_ble_eq_true rfl, Nat.le_of_ble_eq_true rfl⟩ ?_
    refine lv_iconst (v := nI 3) hx hb dX5_retract_12 (by decide) ?_
    refine lv_icmp_eq (tgt := 26) hx hb dX5_retract_13 (by decide) (fun c_2 => ?_) (fun c_2 => ?_)
    · skip
      have c_2 : sState K p9 = nI 3 := c_2
      refine lv_aload_n hx hb dX5_retract_26 rfl (lv_at hl 0 rfl) ?_
      refine va_get (D := D) (ci := 5) (v := .ref (ad 16)) (C := RX5) (T := TX5) (N := 9) hx hb hts hinX5 hown hK hP 0 rfl rfl 7 (by decide) (hts (.fieldLink RX5 47 "AuditoriumKeys" "seats" "LAuditoriumKeys$Seats;") (List.mem_of_getElem? (i := 3) rfl)) (fun _ h9 => h9) rfl dX5_retract_27 ?_
      refine va_getN (D := D) (ci := 4) (v := .ref (ad 18)) (C := RX4) (T := TX4) (N := 5) hx hb hts hinX4 hown hK hP 16 rfl rfl 1 (by decide) (va_Nw.use rfl (hE.1 (.fieldLinkNest RX5 218 "AuditoriumKeys$Seats" "offered" "[Z" "AuditoriumKeys") (List.mem_of_getElem? (i := 5) rfl))) (fun _ h9 => h9) rfl dX5_retract_30 ?_
      refine lv_iload_n hx hb dX5_retract_33 rfl (lv_at hl 1 rfl) ?_
      refine zz_top (y := nI p9) hp8 ?_
      refine lv_iconst (v := nI 0) hx hb dX5_retract_34 (by decide) ?_
      refine zz_zast hx hb hK hP hD hS 18 1 rfl rfl p9 rfl (by omega) (by decide) dX5_retract_35 (fun H locs hP hD hS => ?_)
      have hP : va_P D vwCl (kwA ad cI cZ (setA K 18 (upd (K 18) p9 (nI 0)))) _ := hP
      have hD : va_D A (kwA ad cI cZ (setA K 18 (upd (K 18) p9 (nI 0)))) := hD
      refine lv_aload_n hx hb dX5_retract_36 rfl (lv_at hl 0 rfl) ?_
      refine va_get (D := D) (ci := 5) (v := .ref (ad 16)) (C := RX5) (T := TX5) (N := 9) hx hb hts hinX5 hown hK hP 0 rfl rfl 7 (by decide) (hts (.fieldLink RX5 47 "AuditoriumKeys" "seats" "LAuditoriumKeys$Seats;") (List.mem_of_getElem? (i := 3) rfl)) (fun _ h9 => h9) rfl dX5_retract_37 ?_
      refine va_getN (D := D) (ci := 4) (v := .ref (ad 20)) (C := RX4) (T := TX4) (N := 5) hx hb hts hinX4 hown hK hP 16 rfl rfl 3 (by decide) (va_Nw.use rfl (hE.1 (.fieldLinkNest RX5 222 "AuditoriumKeys$Seats" "price" "[I" "AuditoriumKeys") (List.mem_of_getElem? (i := 6) rfl))) (fun _ h9 => h9) rfl dX5_retract_40 ?_
      refine lv_iload_n hx hb dX5_retract_43 rfl (lv_at hl 1 rfl) ?_
      refine zz_top (y := nI p9) hp8 ?_
      refine zz_iald hx hb hK hP 20 0 rfl rfl p9 (by omega) (by decide) dX5_retract_44 ?_
      have hT9 : kRetT K x = nI 0 := (by simp [kRetT, zseq, eq_true ht_1, hp7, eq_true c_2])
      have hP9 := hP
      have hD9 := hD
      have eK9 : (kRetE K x.toNatClampNeg) = (setA K 18 (upd (K 18) p9 (nI 0))) := (by rw [hp7]; rfl)
      rw [← eK9] at hP9 hD9
      refine W.widen (k := 2) (n := 12) (Nat.le_of_ble_eq_true rfl) (Nat.le_of_ble_eq_true rfl) ?_
      have eR9 : K 20 p9 = K 20 x.toNatClampNeg := (by rw [hp7])
      exact vx_ret (W.iret (v := K 20 p9) hx hb hr (fun t ht hW => ⟨⟨K 20 p9, (), rfl, ⟨hT9, eR9⟩, by rw [ht]; exact hP9, va_K.moved hW.alike hK, hD9⟩, hS.F ht⟩) hS.2.2 dX5_retract_45)
    · skip
      have c_2 : ¬ sState K p9 = nI 3 := c_2
      have hT9 : kRetT K x = nI 3 := (by simp [kRetT, zseq, eq_true ht_1, hp7, c_2])
      exact zx_throw (own := RX5) (cls := "java/lang/IllegalStateException") (text := "the seat is not OFFERED") (names := ["java/lang/RuntimeException", "java/lang/Exception"]) hx hb hl9 hown (by decide +kernel) (by decide +kernel) (hts (.classLink RX5 65 "java/lang/IllegalStateException") (List.mem_of_getElem? (i := 1) rfl)) (hts (.initialized "java/lang/IllegalStateException") (List.mem_of_getElem? (i := 2) rfl)) (hE.2.1 (216, "the seat is not OFFERED") (List.mem_of_getElem? (i := 19) rfl)) (vx_hat (L := vx_atS RX5 69 "java/lang/IllegalStateException" ["java/lang/RuntimeException", "java/lang/Exception"]) (B := [.castable "java/lang/IllegalStateException" "java/lang/IllegalStateException", .declares ⟨"java/lang/RuntimeException", "<init>", "(Ljava/lang/String;)V"⟩, .declares ⟨"java/lang/Exception", "<init>", "(Ljava/lang/String;)V"⟩, .declares ⟨"java/lang/Throwable", "<init>", "(Ljava/lang/String;)V"⟩]) (fun w hw => hts w ((by decide +kernel : ∀ w ∈ (vx_atS RX5 69 "java/lang/IllegalStateException" ["java/lang/RuntimeException", "java/lang/Exception"]).filter goodWord, w ∈ wsX5_retract) w hw)) (by decide +kernel) (vx_c (va_Nw.use rfl (hE.1 (.castable "java/lang/IllegalStateException" "java/lang/IllegalStateException") (List.mem_of_getElem? (i := 40) rfl))) (vx_c (va_Nw.use rfl (hE.1 (.declares ⟨"java/lang/RuntimeException", "<init>", "(Ljava/lang/String;)V"⟩) (List.mem_of_getElem? (i := 41) rfl))) (vx_c (va_Nw.use rfl (hE.1 (.declares ⟨"java/lang/Exception", "<init>", "(Ljava/lang/String;)V"⟩) (List.mem_of_getElem? (i := 42) rfl))) (vx_c (va_Nw.use rfl (hE.1 (.declares ⟨"java/lang/Throwable", "<init>", "(Ljava/lang/String;)V"⟩) (List.mem_of_getElem? (i := 43) rfl))) (vx_n)))))) (by decide +kernel) hE hP hK hD hS (hl.1.trans hml.symm) dX5_retract_16 dX5_retract_19 dX5_retract_20 dX5_retract_22 dX5_retract_25 ht9 (Nat.le_of_ble_eq_true rfl) (Nat.le_of_ble_eq_true rfl) (Nat.le_of_ble_eq_true rfl) (Nat.le_of_ble_eq_true rfl) hlocks (by rw [hT9]; decide) (by rw [hT9, zN_3]) (Nat.le_of_ble_eq_true rfl) (Nat.le_of_ble_eq_true rfl)
