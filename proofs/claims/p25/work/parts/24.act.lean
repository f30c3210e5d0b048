set_option maxHeartbeats 8000000 in
set_option maxRecDepth 100000 in
theorem kL_act (l : Launch) (hl9 : l.stackTraces = false) (D : va_G) (cI cZ : ClassId) (ad : Nat → Nat) (K : kS) (sz : Nat) (v : Int32) (n9 : Nat) (t9 : Nat) (hok : kHok K) (how : kOwn K) (hn9 : n9 ≤ 10) (hc8 : K 2 0 = nI n9) (ht8 : t9 < 170) (hts9 : K 22 0 = nI t9) : zMh l yL_act wsL_act ({ frames := 9, cells := 5, slots := 30, locals := 160 }) [.ref (ad 0), .int v] D (zTy cI cZ) (kwA ad cI cZ K) (kwA ad cI cZ (aOut K v n9 t9).2) sz ((aOut K v n9 t9).1) 5 30 := by
  refine Met.ofW (cc := cL_act) (maxL := 10) (ret := (some .int)) (by decide) rfl ?_
  intro pP e s m args below meth c s₁ B hml hv
  obtain ⟨rfl, hsz, hP, hK, hD0, hE0, hN⟩ := hv
  have hx := B.exec
  have hb := B.bytes
  have hr := B.returns
  have hts := atoms_spec (ws := wsL_act) B.pre
  have hown : s.vm.findClass RL = some m.cls := findClass_of_methodNamed B.named
  subst hsz
  have hD := hD0.self (sz := s.heap.size)
  generalize hAe : va_A (kwA ad cI cZ K) s.heap.size = A at hD hE0 ⊢
  have hE := hE0
  have hA : ∀ q : Nat, s.heap.size ≤ q → A q := fun q h => by rw [← hAe]; exact Or.inr h
  have hS : va_S A s.heap s.heap [] := va_S.rf
  have hl := lv_entry ([.ref (ad 0), .int v]) (n := 10) (Nat.le_of_ble_eq_true rfl)
  rw [lg_entry_eq]
  generalize (lg_sl ([.ref (ad 0), .int v]) ++ List.replicate (10 - (lg_sl ([.ref (ad 0), .int v])).length) Slot.unset).toArray = ls at hl ⊢
  have hl : lv_has ls 10 [(0, .ref (ad 0)), (1, .int v)] := hl
  have j17 : ∀ (H : Heap) (locs : List Loc), va_P D vwCl (kwA ad cI cZ K) H → va_D A (kwA ad cI cZ K) → va_S A s.heap H locs → ∀ ls : Array Slot, lv_has ls 10 [(0, .ref (ad 0)), (1, .int v)] → W pP l e ({ frames := 9, cells := 5, slots := 30, locals := 160 } : Room) s m ([.ref (ad 0), .int v] : List Value).toArray below meth c H locs 0 0 (MQ below (va_Qi (fun r (_ : Unit) => r = (aOut K v n9 t9).1) (fun _ => zPo D (zTy cI cZ) A (kwA ad cI cZ (aOut K v n9 t9).2)) A) ([.ref (ad 0), .int v] : List Value).toArray s 5 30 A) (F0 m 17 ls [.int (zb (aOdd v))]) := by
    intro H locs hP hD hS ls hl
    refine lv_istore_n (lv' := [(2, .int (zb (aOdd v))), (0, .ref (ad 0)), (1, .int v)]) hx hb dL_act_17 rfl hl (by decide) rfl (fun ls hl => ?_)
    have j43 : ∀ (H : Heap) (locs : List Loc), va_P D vwCl (kwA ad cI cZ K) H → va_D A (kwA ad cI cZ K) → va_S A s.heap H locs → ∀ ls : Array Slot, lv_has ls 10 [(2, .int (zb (aOdd v))), (0, .ref (ad 0)), (1, .int v)] → W pP l e ({ frames := 9, cells := 5, slots := 30, locals := 160 } : Room) s m ([.ref (ad 0), .int v] : List Value).toArray below meth c H locs 0 0 (MQ below (va_Qi (fun r (_ : Unit) => r = (aOut K v n9 t9).1) (fun _ => zPo D (zTy cI cZ) A (kwA ad cI cZ (aOut K v n9 t9).2)) A) ([.ref (ad 0), .int v] : List Value).toArray s 5 30 A) (F0 m 43 ls [.int (aPer v)]) := by
      intro H locs hP hD hS ls hl
      refine lv_istore_n (lv' := [(3, .int (aPer v)), (2, .int (zb (aOdd v))), (0, .ref (ad 0)), (1, .int v)]) hx hb dL_act_43 rfl hl (by decide) rfl (fun ls hl => ?_)
      refine lv_aload_n hx hb dL_act_44 rfl (lv_at hl 2 rfl) ?_
      refine zq_rV (As := []) (rest := []) ⟨hx, hb, hml, hown, hts⟩ (kQ_served l D cI cZ ad K  ) (cwV 0 hts gL_act_X5_served rfl rfl rfl (by decide +kernel) ⟨(Nat.le_of_ble_eq_true rfl), (Nat.le_of_ble_eq_true rfl)⟩) hK hP hE.1 (ci := 5) (q0 := 0) rfl rfl rfl rfl hl.1 rfl (Nat.le_of_ble_eq_true rfl) dL_act_45 ⟨(Nat.le_of_ble_eq_true rfl), (Nat.le_of_ble_eq_true rfl)⟩ ?_
      refine lv_istore (lv' := [(4, .int (lServ K)), (3, .int (aPer v)), (2, .int (zb (aOdd v))), (0, .ref (ad 0)), (1, .int v)]) hx hb dL_act_48 hl (by decide) rfl (fun ls hl => ?_)
      have j65 : ∀ (H : Heap) (locs : List Loc), va_P D vwCl (kwA ad cI cZ K) H → va_D A (kwA ad cI cZ K) → va_S A s.heap H locs → ∀ ls : Array Slot, lv_has ls 10 [(4, .int (lServ K)), (3, .int (aPer v)), (2, .int (zb (aOdd v))), (0, .ref (ad 0)), (1, .int v)] → W pP l e ({ frames := 9, cells := 5, slots := 30, locals := 160 } : Room) s m ([.ref (ad 0), .int v] : List Value).toArray below meth c H locs 0 0 (MQ below (va_Qi (fun r (_ : Unit) => r = (aOut K v n9 t9).1) (fun _ => zPo D (zTy cI cZ) A (kwA ad cI cZ (aOut K v n9 t9).2)) A) ([.ref (ad 0), .int v] : List Value).toArray s 5 30 A) (F0 m 65 ls [.int (aHol K v)]) := by
        intro H locs hP hD hS ls hl
        refine lv_istore (lv' := [(5, .int (aHol K v)), (4, .int (lServ K)), (3, .int (aPer v)), (2, .int (zb (aOdd v))), (0, .ref (ad 0)), (1, .int v)]) hx hb dL_act_65 hl (by decide) rfl (fun ls hl => ?_)
        have j93 : ∀ (H : Heap) (locs : List Loc), va_P D vwCl (kwA ad cI cZ K) H → va_D A (kwA ad cI cZ K) → va_S A s.heap H locs → ∀ ls : Array Slot, lv_has ls 10 [(5, .int (aHol K v)), (4, .int (lServ K)), (3, .int (aPer v)), (2, .int (zb (aOdd v))), (0, .ref (ad 0)), (1, .int v)] → W pP l e ({ frames := 9, cells := 5, slots := 30, locals := 160 } : Room) s m ([.ref (ad 0), .int v] : List Value).toArray below meth c H locs 0 0 (MQ below (va_Qi (fun r (_ : Unit) => r = (aOut K v n9 t9).1) (fun _ => zPo D (zTy cI cZ) A (kwA ad cI cZ (aOut K v n9 t9).2)) A) ([.ref (ad 0), .int v] : List Value).toArray s 5 30 A) (F0 m 93 ls [.int (aRow v)]) := by
          intro H locs hP hD hS ls hl
          refine lv_istore (lv' := [(6, .int (aRow v)), (5, .int (aHol K v)), (4, .int (lServ K)), (3, .int (aPer v)), (2, .int (zb (aOdd v))), (0, .ref (ad 0)), (1, .int v)]) hx hb dL_act_93 hl (by decide) rfl (fun ls hl => ?_)
          have j122 : ∀ (H : Heap) (locs : List Loc), va_P D vwCl (kwA ad cI cZ K) H → va_D A (kwA ad cI cZ K) → va_S A s.heap H locs → ∀ ls : Array Slot, lv_has ls 10 [(6, .int (aRow v)), (5, .int (aHol K v)), (4, .int (lServ K)), (3, .int (aPer v)), (2, .int (zb (aOdd v))), (0, .ref (ad 0)), (1, .int v)] → W pP l e ({ frames := 9, cells := 5, slots := 30, locals := 160 } : Room) s m ([.ref (ad 0), .int v] : List Value).toArray below meth c H locs 0 0 (MQ below (va_Qi (fun r (_ : Unit) => r = (aOut K v n9 t9).1) (fun _ => zPo D (zTy cI cZ) A (kwA ad cI cZ (aOut K v n9 t9).2)) A) ([.ref (ad 0), .int v] : List Value).toArray s 5 30 A) (F0 m 122 ls [.int (aPlc v)]) := by
            intro H locs hP hD hS ls hl
            refine lv_istore (lv' := [(7, .int (aPlc v)), (6, .int (aRow v)), (5, .int (aHol K v)), (4, .int (lServ K)), (3, .int (aPer v)), (2, .int (zb (aOdd v))), (0, .ref (ad 0)), (1, .int v)]) hx hb dL_act_122 hl (by decide) rfl (fun ls hl => ?_)
            have j150 : ∀ (H : Heap) (locs : List Loc), va_P D vwCl (kwA ad cI cZ K) H → va_D A (kwA ad cI cZ K) → va_S A s.heap H locs → ∀ ls : Array Slot, lv_has ls 10 [(7, .int (aPlc v)), (6, .int (aRow v)), (5, .int (aHol K v)), (4, .int (lServ K)), (3, .int (aPer v)), (2, .int (zb (aOdd v))), (0, .ref (ad 0)), (1, .int v)] → W pP l e ({ frames := 9, cells := 5, slots := 30, locals := 160 } : Room) s m ([.ref (ad 0), .int v] : List Value).toArray below meth c H locs 0 0 (MQ below (va_Qi (fun r (_ : Unit) => r = (aOut K v n9 t9).1) (fun _ => zPo D (zTy cI cZ) A (kwA ad cI cZ (aOut K v n9 t9).2)) A) ([.ref (ad 0), .int v] : List Value).toArray s 5 30 A) (F0 m 150 ls [.int (aSea v)]) := by
              intro H locs hP hD hS ls hl
              refine lv_istore (lv' := [(8, .int (aSea v)), (7, .int (aPlc v)), (6, .int (aRow v)), (5, .int (aHol K v)), (4, .int (lServ K)), (3, .int (aPer v)), (2, .int (zb (aOdd v))), (0, .ref (ad 0)), (1, .int v)]) hx hb dL_act_150 hl (by decide) rfl (fun ls hl => ?_)
              have j213 : ∀ (H : Heap) (locs : List Loc), va_P D vwCl (kwA ad cI cZ K) H → va_D A (kwA ad cI cZ K) → va_S A s.heap H locs → ∀ ls : Array Slot, lv_has ls 10 [(8, .int (aSea v)), (7, .int (aPlc v)), (6, .int (aRow v)), (5, .int (aHol K v)), (4, .int (lServ K)), (3, .int (aPer v)), (2, .int (zb (aOdd v))), (0, .ref (ad 0)), (1, .int v)] → W pP l e ({ frames := 9, cells := 5, slots := 30, locals := 160 } : Room) s m ([.ref (ad 0), .int v] : List Value).toArray below meth c H locs 0 0 (MQ below (va_Qi (fun r (_ : Unit) => r = (aOut K v n9 t9).1) (fun _ => zPo D (zTy cI cZ) A (kwA ad cI cZ (aOut K v n9 t9).2)) A) ([.ref (ad 0), .int v] : List Value).toArray s 5 30 A) (F0 m 213 ls [.int (aOwn K v)]) := by
                intro H locs hP hD hS ls hl
                refine lv_istore (lv' := [(9, .int (aOwn K v)), (8, .int (aSea v)), (7, .int (aPlc v)), (6, .int (aRow v)), (5, .int (aHol K v)), (4, .int (lServ K)), (3, .int (aPer v)), (2, .int (zb (aOdd v))), (0, .ref (ad 0)), (1, .int v)]) hx hb dL_act_213 hl (by decide) rfl (fun ls hl => ?_)
                refine lv_iload_n hx hb dL_act_215 rfl (lv_at hl 9 rfl) ?_
                refine lv_bipush (v := nI 24) hx hb dL_act_216 (by decide) ?_
                refine zc_rS (As := [.int v, .int (nI 24)]) (rest := []) ⟨hx, hb, hml, hown, hts⟩ (kL_low l v (nI 24) (by decide)) (va_cwS 2 hts gL_act_L_low rfl rfl rfl (by decide +kernel) ⟨(Nat.le_of_ble_eq_true rfl), (Nat.le_of_ble_eq_true rfl)⟩) rfl hl.1 rfl (Nat.le_of_ble_eq_true rfl) dL_act_218 ⟨(Nat.le_of_ble_eq_true rfl), (Nat.le_of_ble_eq_true rfl)⟩ ?_
                refine zz_top (y := nI (aKd v)) (aKd_eq v) ?_
                rcases aKd_cs v with h21 | h21 | h21 | h21 | h21 | h21 | h21 | h21 | h21 | h21
                · skip
                  rw [h21]
                  refine lv_tableIn (off := 83) (tgt := 304) hx hb dL_act_221 (by decide +kernel) (by decide +kernel) (by decide +kernel) (by decide) ?_
                  refine lv_aload_n hx hb dL_act_304 rfl (lv_at hl 8 rfl) ?_
                  have j331 : ∀ (H : Heap) (locs : List Loc), va_P D vwCl (kwA ad cI cZ K) H → va_D A (kwA ad cI cZ K) → va_S A s.heap H locs → ∀ ls : Array Slot, lv_has ls 10 [(9, .int (aOwn K v)), (8, .int (aSea v)), (7, .int (aPlc v)), (6, .int (aRow v)), (5, .int (aHol K v)), (4, .int (lServ K)), (3, .int (aPer v)), (2, .int (zb (aOdd v))), (0, .ref (ad 0)), (1, .int v)] → W pP l e ({ frames := 9, cells := 5, slots := 30, locals := 160 } : Room) s m ([.ref (ad 0), .int v] : List Value).toArray below meth c H locs 0 0 (MQ below (va_Qi (fun r (_ : Unit) => r = (aOut K v n9 t9).1) (fun _ => zPo D (zTy cI cZ) A (kwA ad cI cZ (aOut K v n9 t9).2)) A) ([.ref (ad 0), .int v] : List Value).toArray s 5 30 A) (F0 m 331 ls [.int (a0 v), .ref (ad 0)]) := by
                    intro H locs hP hD hS ls hl
                    refine zy_S (As := [.ref (ad 0), .int (a0 v)]) (rest := []) (wr := []) ⟨hx, hb, hml, hown, hts⟩ (kL_setOpening l hl9 D cI cZ ad K _ (a0 v) ) (vx_cwSW 2 hts gL_act_L_setOpening rfl rfl rfl (by decide +kernel) ⟨(Nat.le_of_ble_eq_true rfl), (Nat.le_of_ble_eq_true rfl)⟩) hK hP hD hS hA hE hN [0, 1, 2, 3, 4, 5, 6, 7, 8, 9, 10, 11, 12, 13, 14, 15, 16, 17, 18, 19, 20, 21, 22, 23, 24, 25] [] rfl rfl rfl rfl rfl (by decide) rfl hl.1 rfl (Nat.le_of_ble_eq_true rfl) dL_act_331 ⟨(Nat.le_of_ble_eq_true rfl), (Nat.le_of_ble_eq_true rfl)⟩ (fun H locs hP hD hS => ?_)
                    refine W.widen (k := 5) (n := 30) (Nat.le_of_ble_eq_true rfl) (Nat.le_of_ble_eq_true rfl) ?_
                    have e9 : aOut K v n9 t9 = aMk (kSetT (a0 v)) (K 0 1) (kSetE K (a0 v)) K := aOut_0 h21
                    have hP : va_P D vwCl (kwA ad cI cZ (zEK (kSetT (a0 v)) (kSetE K (a0 v)) K)) H := hP
                    have hD : va_D A (kwA ad cI cZ (zEK (kSetT (a0 v)) (kSetE K (a0 v)) K)) := hD
                    have hP : va_P D vwCl (kwA ad cI cZ (aOut K v n9 t9).2) H := by rw [e9, aMk_2]; exact hP
                    have hD : va_D A (kwA ad cI cZ (aOut K v n9 t9).2) := by rw [e9, aMk_2]; exact hD
                    have eR9 : zAn (kSetT (a0 v)) (K 0 1) = (aOut K v n9 t9).1 := by rw [e9, aMk_1]
                    exact W.iret (v := zAn (kSetT (a0 v)) (K 0 1)) hx hb hr (fun t ht hW => ⟨⟨zAn (kSetT (a0 v)) (K 0 1), (), rfl, eR9, by rw [ht]; exact hP, va_K.moved hW.alike hK, hD⟩, hS.F ht⟩) hS.2.2 dL_act_334
                  refine lv_iload_n hx hb dL_act_305 rfl (lv_at hl 7 rfl) ?_
                  refine lv_if_eq (tgt := 323) hx hb dL_act_306 (by decide) (fun c_1 => ?_) (fun c_1 => ?_)
                  · skip
                    have c_1 := zb_f c_1
                    refine lv_iload_n hx hb dL_act_323 rfl (lv_at hl 9 rfl) ?_
                    refine lv_iconst (v := nI 4) hx hb dL_act_324 (by decide) ?_
                    refine lv_ishr hx hb dL_act_325 ?_
                    refine zz_top (y := aS v 4) rfl ?_
                    refine lv_bipush (v := nI 60) hx hb dL_act_326 (by decide) ?_
                    refine zc_rS (As := [.int (aS v 4), .int (nI 60)]) (rest := [.ref (ad 0)]) ⟨hx, hb, hml, hown, hts⟩ (kL_low l (aS v 4) (nI 60) (by decide)) (va_cwS 2 hts gL_act_L_low rfl rfl rfl (by decide +kernel) ⟨(Nat.le_of_ble_eq_true rfl), (Nat.le_of_ble_eq_true rfl)⟩) rfl hl.1 rfl (Nat.le_of_ble_eq_true rfl) dL_act_328 ⟨(Nat.le_of_ble_eq_true rfl), (Nat.le_of_ble_eq_true rfl)⟩ ?_
                    have ej_2 : a0 v = aLow (aS v 4) (nI 60) := (by unfold a0; rw [c_1]; rfl)
                    refine zz_top ej_2.symm ?_
                    exact j331 _ _ hP hD hS ls (lv_sub hl [0, 1, 2, 3, 4, 5, 6, 7, 8, 9] rfl)
                  · skip
                    have c_1 := zb_t c_1
                    refine lv_iload_n hx hb dL_act_309 rfl (lv_at hl 9 rfl) ?_
                    refine lv_iconst (v := nI 4) hx hb dL_act_310 (by decide) ?_
                    refine lv_ishr hx hb dL_act_311 ?_
                    refine zz_top (y := aS v 4) rfl ?_
                    refine lv_sipush (v := nI 10003) hx hb dL_act_312 (by decide) ?_
                    refine zc_rS (As := [.int (aS v 4), .int (nI 10003)]) (rest := [.ref (ad 0)]) ⟨hx, hb, hml, hown, hts⟩ (kL_low l (aS v 4) (nI 10003) (by decide)) (va_cwS 2 hts gL_act_L_low rfl rfl rfl (by decide +kernel) ⟨(Nat.le_of_ble_eq_true rfl), (Nat.le_of_ble_eq_true rfl)⟩) rfl hl.1 rfl (Nat.le_of_ble_eq_true rfl) dL_act_315 ⟨(Nat.le_of_ble_eq_true rfl), (Nat.le_of_ble_eq_true rfl)⟩ ?_
                    refine lv_iconst (v := nI 1) hx hb dL_act_318 (by decide) ?_
                    refine lv_isub hx hb dL_act_319 ?_
                    refine lv_goto (tgt := 331) hx hb dL_act_320 (by decide) ?_
                    have ej_3 : a0 v = (aLow (aS v 4) (nI 10003)) - (nI 1) := (by unfold a0; rw [c_1]; rfl)
                    refine zz_top ej_3.symm ?_
                    exact j331 _ _ hP hD hS ls (lv_sub hl [0, 1, 2, 3, 4, 5, 6, 7, 8, 9] rfl)
                · skip
                  rw [h21]
                  refine lv_tableIn (off := 114) (tgt := 335) hx hb dL_act_221 (by decide +kernel) (by decide +kernel) (by decide +kernel) (by decide) ?_
                  refine lv_aload_n hx hb dL_act_335 rfl (lv_at hl 8 rfl) ?_
                  have j360 : ∀ (H : Heap) (locs : List Loc), va_P D vwCl (kwA ad cI cZ K) H → va_D A (kwA ad cI cZ K) → va_S A s.heap H locs → ∀ ls : Array Slot, lv_has ls 10 [(9, .int (aOwn K v)), (8, .int (aSea v)), (7, .int (aPlc v)), (6, .int (aRow v)), (5, .int (aHol K v)), (4, .int (lServ K)), (3, .int (aPer v)), (2, .int (zb (aOdd v))), (0, .ref (ad 0)), (1, .int v)] → W pP l e ({ frames := 9, cells := 5, slots := 30, locals := 160 } : Room) s m ([.ref (ad 0), .int v] : List Value).toArray below meth c H locs 0 0 (MQ below (va_Qi (fun r (_ : Unit) => r = (aOut K v n9 t9).1) (fun _ => zPo D (zTy cI cZ) A (kwA ad cI cZ (aOut K v n9 t9).2)) A) ([.ref (ad 0), .int v] : List Value).toArray s 5 30 A) (F0 m 360 ls [.int (a1 v), .ref (ad 0)]) := by
                    intro H locs hP hD hS ls hl
                    have j386 : ∀ (H : Heap) (locs : List Loc), va_P D vwCl (kwA ad cI cZ K) H → va_D A (kwA ad cI cZ K) → va_S A s.heap H locs → ∀ ls : Array Slot, lv_has ls 10 [(9, .int (aOwn K v)), (8, .int (aSea v)), (7, .int (aPlc v)), (6, .int (aRow v)), (5, .int (aHol K v)), (4, .int (lServ K)), (3, .int (aPer v)), (2, .int (zb (aOdd v))), (0, .ref (ad 0)), (1, .int v)] → W pP l e ({ frames := 9, cells := 5, slots := 30, locals := 160 } : Room) s m ([.ref (ad 0), .int v] : List Value).toArray below meth c H locs 0 0 (MQ below (va_Qi (fun r (_ : Unit) => r = (aOut K v n9 t9).1) (fun _ => zPo D (zTy cI cZ) A (kwA ad cI cZ (aOut K v n9 t9).2)) A) ([.ref (ad 0), .int v] : List Value).toArray s 5 30 A) (F0 m 386 ls [.int (a2 v), .int (a1 v), .ref (ad 0)]) := by
                      intro H locs hP hD hS ls hl
                      refine zy_S (As := [.ref (ad 0), .int (a1 v), .int (a2 v)]) (rest := []) (wr := []) ⟨hx, hb, hml, hown, hts⟩ (kL_code l hl9 D cI cZ ad K _ (a1 v) (a2 v) n9 hn9 hc8) (vx_cwSW 3 hts gL_act_L_code rfl rfl rfl (by decide +kernel) ⟨(Nat.le_of_ble_eq_true rfl), (Nat.le_of_ble_eq_true rfl)⟩) hK hP hD hS hA hE hN [0, 1, 2, 3, 4, 5, 6, 7, 8, 9, 10, 11, 12, 13, 14, 15, 16, 17, 18, 19, 20, 21, 22, 23, 24, 25] [] rfl rfl rfl rfl rfl (by decide) rfl hl.1 rfl (Nat.le_of_ble_eq_true rfl) dL_act_386 ⟨(Nat.le_of_ble_eq_true rfl), (Nat.le_of_ble_eq_true rfl)⟩ (fun H locs hP hD hS => ?_)
                      refine W.widen (k := 5) (n := 30) (Nat.le_of_ble_eq_true rfl) (Nat.le_of_ble_eq_true rfl) ?_
                      have e9 : aOut K v n9 t9 = aMk (kCodeT K (a1 v) (a2 v)) (nI n9) (kCode K n9 (a1 v) (a2 v)) K := aOut_1 h21
                      have hP : va_P D vwCl (kwA ad cI cZ (zEK (kCodeT K (a1 v) (a2 v)) (kCode K n9 (a1 v) (a2 v)) K)) H := hP
                      have hD : va_D A (kwA ad cI cZ (zEK (kCodeT K (a1 v) (a2 v)) (kCode K n9 (a1 v) (a2 v)) K)) := hD
                      have hP : va_P D vwCl (kwA ad cI cZ (aOut K v n9 t9).2) H := by rw [e9, aMk_2]; exact hP
                      have hD : va_D A (kwA ad cI cZ (aOut K v n9 t9).2) := by rw [e9, aMk_2]; exact hD
                      have eR9 : zAn (kCodeT K (a1 v) (a2 v)) (nI n9) = (aOut K v n9 t9).1 := by rw [e9, aMk_1]
                      exact W.iret (v := zAn (kCodeT K (a1 v) (a2 v)) (nI n9)) hx hb hr (fun t ht hW => ⟨⟨zAn (kCodeT K (a1 v) (a2 v)) (nI n9), (), rfl, eR9, by rw [ht]; exact hP, va_K.moved hW.alike hK, hD⟩, hS.F ht⟩) hS.2.2 dL_act_389
                    refine lv_iload_n hx hb dL_act_360 rfl (lv_at hl 7 rfl) ?_
                    refine lv_if_eq (tgt := 376) hx hb dL_act_361 (by decide) (fun c_4 => ?_) (fun c_4 => ?_)
                    · skip
                      have c_4 := zb_f c_4
                      refine lv_iconst (v := nI 3) hx hb dL_act_376 (by decide) ?_
                      refine lv_iload_n hx hb dL_act_377 rfl (lv_at hl 9 rfl) ?_
                      refine lv_bipush (v := nI 9) hx hb dL_act_378 (by decide) ?_
                      refine lv_ishr hx hb dL_act_380 ?_
                      refine zz_top (y := aS v 9) rfl ?_
                      refine lv_iconst (v := nI 5) hx hb dL_act_381 (by decide) ?_
                      refine zc_rS (As := [.int (aS v 9), .int (nI 5)]) (rest := [.int (nI 3), .int (a1 v), .ref (ad 0)]) ⟨hx, hb, hml, hown, hts⟩ (kL_low l (aS v 9) (nI 5) (by decide)) (va_cwS 2 hts gL_act_L_low rfl rfl rfl (by decide +kernel) ⟨(Nat.le_of_ble_eq_true rfl), (Nat.le_of_ble_eq_true rfl)⟩) rfl hl.1 rfl (Nat.le_of_ble_eq_true rfl) dL_act_382 ⟨(Nat.le_of_ble_eq_true rfl), (Nat.le_of_ble_eq_true rfl)⟩ ?_
                      refine lv_iadd hx hb dL_act_385 ?_
                      have ej_5 : a2 v = (nI 3) + (aLow (aS v 9) (nI 5)) := (by unfold a2; rw [c_4]; rfl)
                      refine zz_top ej_5.symm ?_
                      exact j386 _ _ hP hD hS ls (lv_sub hl [0, 1, 2, 3, 4, 5, 6, 7, 8, 9] rfl)
                    · skip
                      have c_4 := zb_t c_4
                      refine lv_iload_n hx hb dL_act_364 rfl (lv_at hl 9 rfl) ?_
                      refine lv_bipush (v := nI 9) hx hb dL_act_365 (by decide) ?_
                      refine lv_ishr hx hb dL_act_367 ?_
                      refine zz_top (y := aS v 9) rfl ?_
                      refine lv_bipush (v := nI 23) hx hb dL_act_368 (by decide) ?_
                      refine zc_rS (As := [.int (aS v 9), .int (nI 23)]) (rest := [.int (a1 v), .ref (ad 0)]) ⟨hx, hb, hml, hown, hts⟩ (kL_low l (aS v 9) (nI 23) (by decide)) (va_cwS 2 hts gL_act_L_low rfl rfl rfl (by decide +kernel) ⟨(Nat.le_of_ble_eq_true rfl), (Nat.le_of_ble_eq_true rfl)⟩) rfl hl.1 rfl (Nat.le_of_ble_eq_true rfl) dL_act_370 ⟨(Nat.le_of_ble_eq_true rfl), (Nat.le_of_ble_eq_true rfl)⟩ ?_
                      refine lv_goto (tgt := 386) hx hb dL_act_373 (by decide) ?_
                      have ej_6 : a2 v = aLow (aS v 9) (nI 23) := (by unfold a2; rw [c_4]; rfl)
                      refine zz_top ej_6.symm ?_
                      exact j386 _ _ hP hD hS ls (lv_sub hl [0, 1, 2, 3, 4, 5, 6, 7, 8, 9] rfl)
                  refine lv_iload_n hx hb dL_act_336 rfl (lv_at hl 7 rfl) ?_
                  refine lv_if_eq (tgt := 351) hx hb dL_act_337 (by decide) (fun c_7 => ?_) (fun c_7 => ?_)
                  · skip
                    have c_7 := zb_f c_7
                    refine lv_iconst (v := nI 2) hx hb dL_act_351 (by decide) ?_
                    refine lv_iload_n hx hb dL_act_352 rfl (lv_at hl 9 rfl) ?_
                    refine lv_iconst (v := nI 4) hx hb dL_act_353 (by decide) ?_
                    refine lv_ishr hx hb dL_act_354 ?_
                    refine zz_top (y := aS v 4) rfl ?_
                    refine lv_iconst (v := nI 4) hx hb dL_act_355 (by decide) ?_
                    refine zc_rS (As := [.int (aS v 4), .int (nI 4)]) (rest := [.int (nI 2), .ref (ad 0)]) ⟨hx, hb, hml, hown, hts⟩ (kL_low l (aS v 4) (nI 4) (by decide)) (va_cwS 2 hts gL_act_L_low rfl rfl rfl (by decide +kernel) ⟨(Nat.le_of_ble_eq_true rfl), (Nat.le_of_ble_eq_true rfl)⟩) rfl hl.1 rfl (Nat.le_of_ble_eq_true rfl) dL_act_356 ⟨(Nat.le_of_ble_eq_true rfl), (Nat.le_of_ble_eq_true rfl)⟩ ?_
                    refine lv_iadd hx hb dL_act_359 ?_
                    have ej_8 : a1 v = (nI 2) + (aLow (aS v 4) (nI 4)) := (by unfold a1; rw [c_7]; rfl)
                    refine zz_top ej_8.symm ?_
                    exact j360 _ _ hP hD hS ls (lv_sub hl [0, 1, 2, 3, 4, 5, 6, 7, 8, 9] rfl)
                  · skip
                    have c_7 := zb_t c_7
                    refine lv_iload_n hx hb dL_act_340 rfl (lv_at hl 9 rfl) ?_
                    refine lv_iconst (v := nI 4) hx hb dL_act_341 (by decide) ?_
                    refine lv_ishr hx hb dL_act_342 ?_
                    refine zz_top (y := aS v 4) rfl ?_
                    refine lv_bipush (v := nI 13) hx hb dL_act_343 (by decide) ?_
                    refine zc_rS (As := [.int (aS v 4), .int (nI 13)]) (rest := [.ref (ad 0)]) ⟨hx, hb, hml, hown, hts⟩ (kL_low l (aS v 4) (nI 13) (by decide)) (va_cwS 2 hts gL_act_L_low rfl rfl rfl (by decide +kernel) ⟨(Nat.le_of_ble_eq_true rfl), (Nat.le_of_ble_eq_true rfl)⟩) rfl hl.1 rfl (Nat.le_of_ble_eq_true rfl) dL_act_345 ⟨(Nat.le_of_ble_eq_true rfl), (Nat.le_of_ble_eq_true rfl)⟩ ?_
                    refine lv_goto (tgt := 360) hx hb dL_act_348 (by decide) ?_
                    have ej_9 : a1 v = aLow (aS v 4) (nI 13) := (by unfold a1; rw [c_7]; rfl)
                    refine zz_top ej_9.symm ?_
                    exact j360 _ _ hP hD hS ls (lv_sub hl [0, 1, 2, 3, 4, 5, 6, 7, 8, 9] rfl)
                · skip
                  rw [h21]
                  refine lv_tableIn (off := 169) (tgt := 390) hx hb dL_act_221 (by decide +kernel) (by decide +kernel) (by decide +kernel) (by decide) ?_
                  refine lv_aload_n hx hb dL_act_390 rfl (lv_at hl 8 rfl) ?_
                  refine lv_iload_n hx hb dL_act_391 rfl (lv_at hl 6 rfl) ?_
                  refine zy_S (As := [.ref (ad 0), .int (aPer v)]) (rest := []) (wr := []) ⟨hx, hb, hml, hown, hts⟩ (kL_quit l hl9 D cI cZ ad K _ (aPer v) ) (vx_cwSW 2 hts gL_act_L_quit rfl rfl rfl (by decide +kernel) ⟨(Nat.le_of_ble_eq_true rfl), (Nat.le_of_ble_eq_true rfl)⟩) hK hP hD hS hA hE hN [0, 1, 2, 3, 4, 5, 6, 7, 8, 9, 10, 11, 12, 13, 14, 15, 16, 17, 18, 19, 20, 21, 22, 23, 24, 25] [] rfl rfl rfl rfl rfl (by decide) rfl hl.1 rfl (Nat.le_of_ble_eq_true rfl) dL_act_392 ⟨(Nat.le_of_ble_eq_true rfl), (Nat.le_of_ble_eq_true rfl)⟩ (fun H locs hP hD hS => ?_)
                  refine W.widen (k := 5) (n := 30) (Nat.le_of_ble_eq_true rfl) (Nat.le_of_ble_eq_true rfl) ?_
                  have e9 : aOut K v n9 t9 = aMk (kQuitT K (aPer v)) (nI (lLen (kLeave K (aPer v).toNatClampNeg))) (kLeave K (aPer v).toNatClampNeg) K := aOut_2 h21
                  have hP : va_P D vwCl (kwA ad cI cZ (zEK (kQuitT K (aPer v)) (kLeave K (aPer v).toNatClampNeg) K)) H := hP
                  have hD : va_D A (kwA ad cI cZ (zEK (kQuitT K (aPer v)) (kLeave K (aPer v).toNatClampNeg) K)) := hD
                  have hP : va_P D vwCl (kwA ad cI cZ (aOut K v n9 t9).2) H := by rw [e9, aMk_2]; exact hP
                  have hD : va_D A (kwA ad cI cZ (aOut K v n9 t9).2) := by rw [e9, aMk_2]; exact hD
                  have eR9 : zAn (kQuitT K (aPer v)) (nI (lLen (kLeave K (aPer v).toNatClampNeg))) = (aOut K v n9 t9).1 := by rw [e9, aMk_1]
                  exact W.iret (v := zAn (kQuitT K (aPer v)) (nI (lLen (kLeave K (aPer v).toNatClampNeg)))) hx hb hr (fun t ht hW => ⟨⟨zAn (kQuitT K (aPer v)) (nI (lLen (kLeave K (aPer v).toNatClampNeg))), (), rfl, eR9, by rw [ht]; exact hP, va_K.moved hW.alike hK, hD⟩, hS.F ht⟩) hS.2.2 dL_act_395
                · skip
                  rw [h21]
                  refine lv_tableIn (off := 175) (tgt := 396) hx hb dL_act_221 (by decide +kernel) (by decide +kernel) (by decide +kernel) (by decide) ?_
                  refine lv_aload_n hx hb dL_act_396 rfl (lv_at hl 8 rfl) ?_
                  refine lv_iload_n hx hb dL_act_397 rfl (lv_at hl 6 rfl) ?_
                  refine zy_S (As := [.ref (ad 0), .int (aPer v)]) (rest := []) (wr := []) ⟨hx, hb, hml, hown, hts⟩ (kL_letGo l hl9 D cI cZ ad K _ (aPer v) hok) (vx_cwSW 2 hts gL_act_L_letGo rfl rfl rfl (by decide +kernel) ⟨(Nat.le_of_ble_eq_true rfl), (Nat.le_of_ble_eq_true rfl)⟩) hK hP hD hS hA hE hN [0, 1, 2, 3, 4, 5, 6, 7, 8, 9, 10, 11, 12, 13, 14, 15, 16, 17, 18, 19, 20, 21, 22, 23, 24, 25] [] rfl rfl rfl rfl rfl (by decide) rfl hl.1 rfl (Nat.le_of_ble_eq_true rfl) dL_act_398 ⟨(Nat.le_of_ble_eq_true rfl), (Nat.le_of_ble_eq_true rfl)⟩ (fun H locs hP hD hS => ?_)
                  refine W.widen (k := 5) (n := 30) (Nat.le_of_ble_eq_true rfl) (Nat.le_of_ble_eq_true rfl) ?_
                  have e9 : aOut K v n9 t9 = aMk (kGoT K (aPer v)) (K 13 (aPer v).toNatClampNeg) (kBackAt K (aPer v).toNatClampNeg) K := aOut_3 h21
                  have hP : va_P D vwCl (kwA ad cI cZ (zEK (kGoT K (aPer v)) (kBackAt K (aPer v).toNatClampNeg) K)) H := hP
                  have hD : va_D A (kwA ad cI cZ (zEK (kGoT K (aPer v)) (kBackAt K (aPer v).toNatClampNeg) K)) := hD
                  have hP : va_P D vwCl (kwA ad cI cZ (aOut K v n9 t9).2) H := by rw [e9, aMk_2]; exact hP
                  have hD : va_D A (kwA ad cI cZ (aOut K v n9 t9).2) := by rw [e9, aMk_2]; exact hD
                  have eR9 : zAn (kGoT K (aPer v)) (K 13 (aPer v).toNatClampNeg) = (aOut K v n9 t9).1 := by rw [e9, aMk_1]
                  exact W.iret (v := zAn (kGoT K (aPer v)) (K 13 (aPer v).toNatClampNeg)) hx hb hr (fun t ht hW => ⟨⟨zAn (kGoT K (aPer v)) (K 13 (aPer v).toNatClampNeg), (), rfl, eR9, by rw [ht]; exact hP, va_K.moved hW.alike hK, hD⟩, hS.F ht⟩) hS.2.2 dL_act_401
                · skip
                  have g9 : W pP l e ({ frames := 9, cells := 5, slots := 30, locals := 160 } : Room) s m ([.ref (ad 0), .int v] : List Value).toArray below meth c H locs 0 0 (MQ below (va_Qi (fun r (_ : Unit) => r = (aOut K v n9 t9).1) (fun _ => zPo D (zTy cI cZ) A (kwA ad cI cZ (aOut K v n9 t9).2)) A) ([.ref (ad 0), .int v] : List Value).toArray s 5 30 A) (F0 m 402 ls []) := by
                    skip
                    refine lv_aload_n hx hb dL_act_402 rfl (lv_at hl 8 rfl) ?_
                    refine lv_iload_n hx hb dL_act_403 rfl (lv_at hl 6 rfl) ?_
                    refine zy_S (As := [.ref (ad 0), .int (aPer v)]) (rest := []) (wr := []) ⟨hx, hb, hml, hown, hts⟩ (kL_join l hl9 D cI cZ ad K _ (aPer v) ) (vx_cwSW 2 hts gL_act_L_join rfl rfl rfl (by decide +kernel) ⟨(Nat.le_of_ble_eq_true rfl), (Nat.le_of_ble_eq_true rfl)⟩) hK hP hD hS hA hE hN [0, 1, 2, 3, 4, 5, 6, 7, 8, 9, 10, 11, 12, 13, 14, 15, 16, 17, 18, 19, 20, 21, 22, 23, 24, 25] [] rfl rfl rfl rfl rfl (by decide) rfl hl.1 rfl (Nat.le_of_ble_eq_true rfl) dL_act_404 ⟨(Nat.le_of_ble_eq_true rfl), (Nat.le_of_ble_eq_true rfl)⟩ (fun H locs hP hD hS => ?_)
                    refine W.widen (k := 5) (n := 30) (Nat.le_of_ble_eq_true rfl) (Nat.le_of_ble_eq_true rfl) ?_
                    have e9 : aOut K v n9 t9 = aMk (kJoinT K (aPer v)) (nI (lLen (kEnter K (aPer v).toNatClampNeg (K 0 0)))) (kEnter K (aPer v).toNatClampNeg (K 0 0)) K := aOut_4 h21
                    have hP : va_P D vwCl (kwA ad cI cZ (zEK (kJoinT K (aPer v)) (kEnter K (aPer v).toNatClampNeg (K 0 0)) K)) H := hP
                    have hD : va_D A (kwA ad cI cZ (zEK (kJoinT K (aPer v)) (kEnter K (aPer v).toNatClampNeg (K 0 0)) K)) := hD
                    have hP : va_P D vwCl (kwA ad cI cZ (aOut K v n9 t9).2) H := by rw [e9, aMk_2]; exact hP
                    have hD : va_D A (kwA ad cI cZ (aOut K v n9 t9).2) := by rw [e9, aMk_2]; exact hD
                    have eR9 : zAn (kJoinT K (aPer v)) (nI (lLen (kEnter K (aPer v).toNatClampNeg (K 0 0)))) = (aOut K v n9 t9).1 := by rw [e9, aMk_1]
                    exact W.iret (v := zAn (kJoinT K (aPer v)) (nI (lLen (kEnter K (aPer v).toNatClampNeg (K 0 0))))) hx hb hr (fun t ht hW => ⟨⟨zAn (kJoinT K (aPer v)) (nI (lLen (kEnter K (aPer v).toNatClampNeg (K 0 0)))), (), rfl, eR9, by rw [ht]; exact hP, va_K.moved hW.alike hK, hD⟩, hS.F ht⟩) hS.2.2 dL_act_407
                  rcases h21 with h20 | h20 | h20 <;> (rw [h20]; exact lv_tableIn (off := 181) (tgt := 402) hx hb dL_act_221 (by decide +kernel) (by decide +kernel) (by decide +kernel) (by decide) g9)
                · skip
                  have g9 : W pP l e ({ frames := 9, cells := 5, slots := 30, locals := 160 } : Room) s m ([.ref (ad 0), .int v] : List Value).toArray below meth c H locs 0 0 (MQ below (va_Qi (fun r (_ : Unit) => r = (aOut K v n9 t9).1) (fun _ => zPo D (zTy cI cZ) A (kwA ad cI cZ (aOut K v n9 t9).2)) A) ([.ref (ad 0), .int v] : List Value).toArray s 5 30 A) (F0 m 408 ls []) := by
                    skip
                    refine lv_aload_n hx hb dL_act_408 rfl (lv_at hl 8 rfl) ?_
                    have j434 : ∀ (H : Heap) (locs : List Loc), va_P D vwCl (kwA ad cI cZ K) H → va_D A (kwA ad cI cZ K) → va_S A s.heap H locs → ∀ ls : Array Slot, lv_has ls 10 [(9, .int (aOwn K v)), (8, .int (aSea v)), (7, .int (aPlc v)), (6, .int (aRow v)), (5, .int (aHol K v)), (4, .int (lServ K)), (3, .int (aPer v)), (2, .int (zb (aOdd v))), (0, .ref (ad 0)), (1, .int v)] → W pP l e ({ frames := 9, cells := 5, slots := 30, locals := 160 } : Room) s m ([.ref (ad 0), .int v] : List Value).toArray below meth c H locs 0 0 (MQ below (va_Qi (fun r (_ : Unit) => r = (aOut K v n9 t9).1) (fun _ => zPo D (zTy cI cZ) A (kwA ad cI cZ (aOut K v n9 t9).2)) A) ([.ref (ad 0), .int v] : List Value).toArray s 5 30 A) (F0 m 434 ls [.int (a7 v), .ref (ad 0)]) := by
                      intro H locs hP hD hS ls hl
                      refine zy_S (As := [.ref (ad 0), .int (a7 v)]) (rest := []) (wr := []) ⟨hx, hb, hml, hown, hts⟩ (kL_pass l hl9 D cI cZ ad K _ (a7 v) hok) (vx_cwSW 2 hts gL_act_L_pass rfl rfl rfl (by decide +kernel) ⟨(Nat.le_of_ble_eq_true rfl), (Nat.le_of_ble_eq_true rfl)⟩) hK hP hD hS hA hE hN [0, 1, 2, 3, 4, 5, 6, 7, 8, 9, 10, 11, 12, 13, 14, 15, 16, 17, 18, 19, 20, 21, 22, 23, 24, 25] [] rfl rfl rfl rfl rfl (by decide) rfl hl.1 rfl (Nat.le_of_ble_eq_true rfl) dL_act_434 ⟨(Nat.le_of_ble_eq_true rfl), (Nat.le_of_ble_eq_true rfl)⟩ (fun H locs hP hD hS => ?_)
                      refine W.widen (k := 5) (n := 30) (Nat.le_of_ble_eq_true rfl) (Nat.le_of_ble_eq_true rfl) ?_
                      have e9 : aOut K v n9 t9 = aMk (kPassT K (a7 v)) (nI (kPassN (kPassB K (a7 v)) 8)) (kPassS (kPassB K (a7 v)) 8) K := aOut_5 h21
                      have hP : va_P D vwCl (kwA ad cI cZ (zEK (kPassT K (a7 v)) (kPassS (kPassB K (a7 v)) 8) K)) H := hP
                      have hD : va_D A (kwA ad cI cZ (zEK (kPassT K (a7 v)) (kPassS (kPassB K (a7 v)) 8) K)) := hD
                      have hP : va_P D vwCl (kwA ad cI cZ (aOut K v n9 t9).2) H := by rw [e9, aMk_2]; exact hP
                      have hD : va_D A (kwA ad cI cZ (aOut K v n9 t9).2) := by rw [e9, aMk_2]; exact hD
                      have eR9 : zAn (kPassT K (a7 v)) (nI (kPassN (kPassB K (a7 v)) 8)) = (aOut K v n9 t9).1 := by rw [e9, aMk_1]
                      exact W.iret (v := zAn (kPassT K (a7 v)) (nI (kPassN (kPassB K (a7 v)) 8))) hx hb hr (fun t ht hW => ⟨⟨zAn (kPassT K (a7 v)) (nI (kPassN (kPassB K (a7 v)) 8)), (), rfl, eR9, by rw [ht]; exact hP, va_K.moved hW.alike hK, hD⟩, hS.F ht⟩) hS.2.2 dL_act_437
                    refine lv_iload_n hx hb dL_act_409 rfl (lv_at hl 7 rfl) ?_
                    refine lv_if_eq (tgt := 425) hx hb dL_act_410 (by decide) (fun c_10 => ?_) (fun c_10 => ?_)
                    · skip
                      have c_10 := zb_f c_10
                      refine lv_iconst (v := nI 1) hx hb dL_act_425 (by decide) ?_
                      refine lv_iload_n hx hb dL_act_426 rfl (lv_at hl 9 rfl) ?_
                      refine lv_iconst (v := nI 4) hx hb dL_act_427 (by decide) ?_
                      refine lv_ishr hx hb dL_act_428 ?_
                      refine zz_top (y := aS v 4) rfl ?_
                      refine lv_iconst (v := nI 4) hx hb dL_act_429 (by decide) ?_
                      refine zc_rS (As := [.int (aS v 4), .int (nI 4)]) (rest := [.int (nI 1), .ref (ad 0)]) ⟨hx, hb, hml, hown, hts⟩ (kL_low l (aS v 4) (nI 4) (by decide)) (va_cwS 2 hts gL_act_L_low rfl rfl rfl (by decide +kernel) ⟨(Nat.le_of_ble_eq_true rfl), (Nat.le_of_ble_eq_true rfl)⟩) rfl hl.1 rfl (Nat.le_of_ble_eq_true rfl) dL_act_430 ⟨(Nat.le_of_ble_eq_true rfl), (Nat.le_of_ble_eq_true rfl)⟩ ?_
                      refine lv_iadd hx hb dL_act_433 ?_
                      have ej_11 : a7 v = (nI 1) + (aLow (aS v 4) (nI 4)) := (by unfold a7; rw [c_10]; rfl)
                      refine zz_top ej_11.symm ?_
                      exact j434 _ _ hP hD hS ls (lv_sub hl [0, 1, 2, 3, 4, 5, 6, 7, 8, 9] rfl)
                    · skip
                      have c_10 := zb_t c_10
                      refine lv_iload_n hx hb dL_act_413 rfl (lv_at hl 9 rfl) ?_
                      refine lv_iconst (v := nI 4) hx hb dL_act_414 (by decide) ?_
                      refine lv_ishr hx hb dL_act_415 ?_
                      refine zz_top (y := aS v 4) rfl ?_
                      refine lv_sipush (v := nI 503) hx hb dL_act_416 (by decide) ?_
                      refine zc_rS (As := [.int (aS v 4), .int (nI 503)]) (rest := [.ref (ad 0)]) ⟨hx, hb, hml, hown, hts⟩ (kL_low l (aS v 4) (nI 503) (by decide)) (va_cwS 2 hts gL_act_L_low rfl rfl rfl (by decide +kernel) ⟨(Nat.le_of_ble_eq_true rfl), (Nat.le_of_ble_eq_true rfl)⟩) rfl hl.1 rfl (Nat.le_of_ble_eq_true rfl) dL_act_419 ⟨(Nat.le_of_ble_eq_true rfl), (Nat.le_of_ble_eq_true rfl)⟩ ?_
                      refine lv_goto (tgt := 434) hx hb dL_act_422 (by decide) ?_
                      have ej_12 : a7 v = aLow (aS v 4) (nI 503) := (by unfold a7; rw [c_10]; rfl)
                      refine zz_top ej_12.symm ?_
                      exact j434 _ _ hP hD hS ls (lv_sub hl [0, 1, 2, 3, 4, 5, 6, 7, 8, 9] rfl)
                  rcases h21 with h20 | h20 | h20 | h20 <;> (rw [h20]; exact lv_tableIn (off := 187) (tgt := 408) hx hb dL_act_221 (by decide +kernel) (by decide +kernel) (by decide +kernel) (by decide) g9)
                · skip
                  have g9 : W pP l e ({ frames := 9, cells := 5, slots := 30, locals := 160 } : Room) s m ([.ref (ad 0), .int v] : List Value).toArray below meth c H locs 0 0 (MQ below (va_Qi (fun r (_ : Unit) => r = (aOut K v n9 t9).1) (fun _ => zPo D (zTy cI cZ) A (kwA ad cI cZ (aOut K v n9 t9).2)) A) ([.ref (ad 0), .int v] : List Value).toArray s 5 30 A) (F0 m 438 ls []) := by
                    skip
                    refine lv_aload_n hx hb dL_act_438 rfl (lv_at hl 8 rfl) ?_
                    refine lv_iload_n hx hb dL_act_439 rfl (lv_at hl 6 rfl) ?_
                    have j471 : ∀ (H : Heap) (locs : List Loc), va_P D vwCl (kwA ad cI cZ K) H → va_D A (kwA ad cI cZ K) → va_S A s.heap H locs → ∀ ls : Array Slot, lv_has ls 10 [(9, .int (aOwn K v)), (8, .int (aSea v)), (7, .int (aPlc v)), (6, .int (aRow v)), (5, .int (aHol K v)), (4, .int (lServ K)), (3, .int (aPer v)), (2, .int (zb (aOdd v))), (0, .ref (ad 0)), (1, .int v)] → W pP l e ({ frames := 9, cells := 5, slots := 30, locals := 160 } : Room) s m ([.ref (ad 0), .int v] : List Value).toArray below meth c H locs 0 0 (MQ below (va_Qi (fun r (_ : Unit) => r = (aOut K v n9 t9).1) (fun _ => zPo D (zTy cI cZ) A (kwA ad cI cZ (aOut K v n9 t9).2)) A) ([.ref (ad 0), .int v] : List Value).toArray s 5 30 A) (F0 m 471 ls [.int (a11 v), .int (aPer v), .ref (ad 0)]) := by
                      intro H locs hP hD hS ls hl
                      refine zy_S (As := [.ref (ad 0), .int (aPer v), .int (a11 v)]) (rest := []) (wr := []) ⟨hx, hb, hml, hown, hts⟩ (kL_pay l hl9 D cI cZ ad K _ (aPer v) (a11 v) t9 hok how (fun _ => ht8) hts9) (vx_cwSW 3 hts gL_act_L_pay rfl rfl rfl (by decide +kernel) ⟨(Nat.le_of_ble_eq_true rfl), (Nat.le_of_ble_eq_true rfl)⟩) hK hP hD hS hA hE hN [0, 1, 2, 3, 4, 5, 6, 7, 8, 9, 10, 11, 12, 13, 14, 15, 16, 17, 18, 19, 20, 21, 22, 23, 24, 25] [] rfl rfl rfl rfl rfl (by decide) rfl hl.1 rfl (Nat.le_of_ble_eq_true rfl) dL_act_471 ⟨(Nat.le_of_ble_eq_true rfl), (Nat.le_of_ble_eq_true rfl)⟩ (fun H locs hP hD hS => ?_)
                      refine W.widen (k := 5) (n := 30) (Nat.le_of_ble_eq_true rfl) (Nat.le_of_ble_eq_true rfl) ?_
                      have e9 : aOut K v n9 t9 = aMk (kPayT K (aPer v) (a11 v)) (hLeft (kPayB K (aPer v).toNatClampNeg (a11 v)) (aPer v).toNatClampNeg) (kPayE K (aPer v).toNatClampNeg t9 (a11 v)) K := aOut_6 h21
                      have hP : va_P D vwCl (kwA ad cI cZ (zEK (kPayT K (aPer v) (a11 v)) (kPayE K (aPer v).toNatClampNeg t9 (a11 v)) K)) H := hP
                      have hD : va_D A (kwA ad cI cZ (zEK (kPayT K (aPer v) (a11 v)) (kPayE K (aPer v).toNatClampNeg t9 (a11 v)) K)) := hD
                      have hP : va_P D vwCl (kwA ad cI cZ (aOut K v n9 t9).2) H := by rw [e9, aMk_2]; exact hP
                      have hD : va_D A (kwA ad cI cZ (aOut K v n9 t9).2) := by rw [e9, aMk_2]; exact hD
                      have eR9 : zAn (kPayT K (aPer v) (a11 v)) (hLeft (kPayB K (aPer v).toNatClampNeg (a11 v)) (aPer v).toNatClampNeg) = (aOut K v n9 t9).1 := by rw [e9, aMk_1]
                      exact W.iret (v := zAn (kPayT K (aPer v) (a11 v)) (hLeft (kPayB K (aPer v).toNatClampNeg (a11 v)) (aPer v).toNatClampNeg)) hx hb hr (fun t ht hW => ⟨⟨zAn (kPayT K (aPer v) (a11 v)) (hLeft (kPayB K (aPer v).toNatClampNeg (a11 v)) (aPer v).toNatClampNeg), (), rfl, eR9, by rw [ht]; exact hP, va_K.moved hW.alike hK, hD⟩, hS.F ht⟩) hS.2.2 dL_act_474
                    refine lv_iload_n hx hb dL_act_440 rfl (lv_at hl 7 rfl) ?_
                    refine lv_if_eq (tgt := 457) hx hb dL_act_441 (by decide) (fun c_13 => ?_) (fun c_13 => ?_)
                    · skip
                      have c_13 := zb_f c_13
                      refine lv_bipush (v := nI 10) hx hb dL_act_457 (by decide) ?_
                      refine lv_iconst (v := nI 1) hx hb dL_act_459 (by decide) ?_
                      refine lv_iload_n hx hb dL_act_460 rfl (lv_at hl 9 rfl) ?_
                      refine lv_bipush (v := nI 7) hx hb dL_act_461 (by decide) ?_
                      refine lv_ishr hx hb dL_act_463 ?_
                      refine zz_top (y := aS v 7) rfl ?_
                      refine lv_bipush (v := nI 20) hx hb dL_act_464 (by decide) ?_
                      refine zc_rS (As := [.int (aS v 7), .int (nI 20)]) (rest := [.int (nI 1), .int (nI 10), .int (aPer v), .ref (ad 0)]) ⟨hx, hb, hml, hown, hts⟩ (kL_low l (aS v 7) (nI 20) (by decide)) (va_cwS 2 hts gL_act_L_low rfl rfl rfl (by decide +kernel) ⟨(Nat.le_of_ble_eq_true rfl), (Nat.le_of_ble_eq_true rfl)⟩) rfl hl.1 rfl (Nat.le_of_ble_eq_true rfl) dL_act_466 ⟨(Nat.le_of_ble_eq_true rfl), (Nat.le_of_ble_eq_true rfl)⟩ ?_
                      refine lv_iadd hx hb dL_act_469 ?_
                      refine lv_imul hx hb dL_act_470 ?_
                      have ej_14 : a11 v = (nI 10) * ((nI 1) + (aLow (aS v 7) (nI 20))) := (by unfold a11; rw [c_13]; rfl)
                      refine zz_top ej_14.symm ?_
                      exact j471 _ _ hP hD hS ls (lv_sub hl [0, 1, 2, 3, 4, 5, 6, 7, 8, 9] rfl)
                    · skip
                      have c_13 := zb_t c_13
                      refine lv_iload_n hx hb dL_act_444 rfl (lv_at hl 9 rfl) ?_
                      refine lv_bipush (v := nI 7) hx hb dL_act_445 (by decide) ?_
                      refine lv_ishr hx hb dL_act_447 ?_
                      refine zz_top (y := aS v 7) rfl ?_
                      refine lv_sipush (v := nI 1003) hx hb dL_act_448 (by decide) ?_
                      refine zc_rS (As := [.int (aS v 7), .int (nI 1003)]) (rest := [.int (aPer v), .ref (ad 0)]) ⟨hx, hb, hml, hown, hts⟩ (kL_low l (aS v 7) (nI 1003) (by decide)) (va_cwS 2 hts gL_act_L_low rfl rfl rfl (by decide +kernel) ⟨(Nat.le_of_ble_eq_true rfl), (Nat.le_of_ble_eq_true rfl)⟩) rfl hl.1 rfl (Nat.le_of_ble_eq_true rfl) dL_act_451 ⟨(Nat.le_of_ble_eq_true rfl), (Nat.le_of_ble_eq_true rfl)⟩ ?_
                      refine lv_goto (tgt := 471) hx hb dL_act_454 (by decide) ?_
                      have ej_15 : a11 v = aLow (aS v 7) (nI 1003) := (by unfold a11; rw [c_13]; rfl)
                      refine zz_top ej_15.symm ?_
                      exact j471 _ _ hP hD hS ls (lv_sub hl [0, 1, 2, 3, 4, 5, 6, 7, 8, 9] rfl)
                  rcases h21 with h20 | h20 | h20 <;> (rw [h20]; exact lv_tableIn (off := 217) (tgt := 438) hx hb dL_act_221 (by decide +kernel) (by decide +kernel) (by decide +kernel) (by decide) g9)
                · skip
                  have g9 : W pP l e ({ frames := 9, cells := 5, slots := 30, locals := 160 } : Room) s m ([.ref (ad 0), .int v] : List Value).toArray below meth c H locs 0 0 (MQ below (va_Qi (fun r (_ : Unit) => r = (aOut K v n9 t9).1) (fun _ => zPo D (zTy cI cZ) A (kwA ad cI cZ (aOut K v n9 t9).2)) A) ([.ref (ad 0), .int v] : List Value).toArray s 5 30 A) (F0 m 475 ls []) := by
                    skip
                    refine lv_aload_n hx hb dL_act_475 rfl (lv_at hl 8 rfl) ?_
                    refine lv_iload hx hb dL_act_476 (lv_at hl 0 rfl) ?_
                    refine lv_iload hx hb dL_act_478 (lv_at hl 1 rfl) ?_
                    have j509 : ∀ (H : Heap) (locs : List Loc), va_P D vwCl (kwA ad cI cZ K) H → va_D A (kwA ad cI cZ K) → va_S A s.heap H locs → ∀ ls : Array Slot, lv_has ls 10 [(9, .int (aOwn K v)), (8, .int (aSea v)), (7, .int (aPlc v)), (6, .int (aRow v)), (5, .int (aHol K v)), (4, .int (lServ K)), (3, .int (aPer v)), (2, .int (zb (aOdd v))), (0, .ref (ad 0)), (1, .int v)] → W pP l e ({ frames := 9, cells := 5, slots := 30, locals := 160 } : Room) s m ([.ref (ad 0), .int v] : List Value).toArray below meth c H locs 0 0 (MQ below (va_Qi (fun r (_ : Unit) => r = (aOut K v n9 t9).1) (fun _ => zPo D (zTy cI cZ) A (kwA ad cI cZ (aOut K v n9 t9).2)) A) ([.ref (ad 0), .int v] : List Value).toArray s 5 30 A) (F0 m 509 ls [.int (a14 v), .int (aSea v), .int (aOwn K v), .ref (ad 0)]) := by
                      intro H locs hP hD hS ls hl
                      refine zy_S (As := [.ref (ad 0), .int (aOwn K v), .int (aSea v), .int (a14 v)]) (rest := []) (wr := []) ⟨hx, hb, hml, hown, hts⟩ (kL_offer l hl9 D cI cZ ad K _ (aOwn K v) (aSea v) (a14 v) ) (vx_cwSW 4 hts gL_act_L_offer rfl rfl rfl (by decide +kernel) ⟨(Nat.le_of_ble_eq_true rfl), (Nat.le_of_ble_eq_true rfl)⟩) hK hP hD hS hA hE hN [0, 1, 2, 3, 4, 5, 6, 7, 8, 9, 10, 11, 12, 13, 14, 15, 16, 17, 18, 19, 20, 21, 22, 23, 24, 25] [] rfl rfl rfl rfl rfl (by decide) rfl hl.1 rfl (Nat.le_of_ble_eq_true rfl) dL_act_509 ⟨(Nat.le_of_ble_eq_true rfl), (Nat.le_of_ble_eq_true rfl)⟩ (fun H locs hP hD hS => ?_)
                      refine W.widen (k := 5) (n := 30) (Nat.le_of_ble_eq_true rfl) (Nat.le_of_ble_eq_true rfl) ?_
                      have e9 : aOut K v n9 t9 = aMk (kOffT K (aOwn K v) (aSea v) (a14 v)) (sCeil K (aSea v).toNatClampNeg) (kPut K (aSea v).toNatClampNeg (a14 v)) K := aOut_7 h21
                      have hP : va_P D vwCl (kwA ad cI cZ (zEK (kOffT K (aOwn K v) (aSea v) (a14 v)) (kPut K (aSea v).toNatClampNeg (a14 v)) K)) H := hP
                      have hD : va_D A (kwA ad cI cZ (zEK (kOffT K (aOwn K v) (aSea v) (a14 v)) (kPut K (aSea v).toNatClampNeg (a14 v)) K)) := hD
                      have hP : va_P D vwCl (kwA ad cI cZ (aOut K v n9 t9).2) H := by rw [e9, aMk_2]; exact hP
                      have hD : va_D A (kwA ad cI cZ (aOut K v n9 t9).2) := by rw [e9, aMk_2]; exact hD
                      have eR9 : zAn (kOffT K (aOwn K v) (aSea v) (a14 v)) (sCeil K (aSea v).toNatClampNeg) = (aOut K v n9 t9).1 := by rw [e9, aMk_1]
                      exact W.iret (v := zAn (kOffT K (aOwn K v) (aSea v) (a14 v)) (sCeil K (aSea v).toNatClampNeg)) hx hb hr (fun t ht hW => ⟨⟨zAn (kOffT K (aOwn K v) (aSea v) (a14 v)) (sCeil K (aSea v).toNatClampNeg), (), rfl, eR9, by rw [ht]; exact hP, va_K.moved hW.alike hK, hD⟩, hS.F ht⟩) hS.2.2 dL_act_512
                    refine lv_iload_n hx hb dL_act_480 rfl (lv_at hl 7 rfl) ?_
                    refine lv_if_eq (tgt := 497) hx hb dL_act_481 (by decide) (fun c_16 => ?_) (fun c_16 => ?_)
                    · skip
                      have c_16 := zb_f c_16
                      refine lv_bipush (v := nI 50) hx hb dL_act_497 (by decide) ?_
                      refine lv_iload_n hx hb dL_act_499 rfl (lv_at hl 9 rfl) ?_
                      refine lv_bipush (v := nI 13) hx hb dL_act_500 (by decide) ?_
                      refine lv_ishr hx hb dL_act_502 ?_
                      refine zz_top (y := aS v 13) rfl ?_
                      refine lv_bipush (v := nI 65) hx hb dL_act_503 (by decide) ?_
                      refine zc_rS (As := [.int (aS v 13), .int (nI 65)]) (rest := [.int (nI 50), .int (aSea v), .int (aOwn K v), .ref (ad 0)]) ⟨hx, hb, hml, hown, hts⟩ (kL_low l (aS v 13) (nI 65) (by decide)) (va_cwS 2 hts gL_act_L_low rfl rfl rfl (by decide +kernel) ⟨(Nat.le_of_ble_eq_true rfl), (Nat.le_of_ble_eq_true rfl)⟩) rfl hl.1 rfl (Nat.le_of_ble_eq_true rfl) dL_act_505 ⟨(Nat.le_of_ble_eq_true rfl), (Nat.le_of_ble_eq_true rfl)⟩ ?_
                      refine lv_iadd hx hb dL_act_508 ?_
                      have ej_17 : a14 v = (nI 50) + (aLow (aS v 13) (nI 65)) := (by unfold a14; rw [c_16]; rfl)
                      refine zz_top ej_17.symm ?_
                      exact j509 _ _ hP hD hS ls (lv_sub hl [0, 1, 2, 3, 4, 5, 6, 7, 8, 9] rfl)
                    · skip
                      have c_16 := zb_t c_16
                      refine lv_iload_n hx hb dL_act_484 rfl (lv_at hl 9 rfl) ?_
                      refine lv_bipush (v := nI 13) hx hb dL_act_485 (by decide) ?_
                      refine lv_ishr hx hb dL_act_487 ?_
                      refine zz_top (y := aS v 13) rfl ?_
                      refine lv_sipush (v := nI 10003) hx hb dL_act_488 (by decide) ?_
                      refine zc_rS (As := [.int (aS v 13), .int (nI 10003)]) (rest := [.int (aSea v), .int (aOwn K v), .ref (ad 0)]) ⟨hx, hb, hml, hown, hts⟩ (kL_low l (aS v 13) (nI 10003) (by decide)) (va_cwS 2 hts gL_act_L_low rfl rfl rfl (by decide +kernel) ⟨(Nat.le_of_ble_eq_true rfl), (Nat.le_of_ble_eq_true rfl)⟩) rfl hl.1 rfl (Nat.le_of_ble_eq_true rfl) dL_act_491 ⟨(Nat.le_of_ble_eq_true rfl), (Nat.le_of_ble_eq_true rfl)⟩ ?_
                      refine lv_goto (tgt := 509) hx hb dL_act_494 (by decide) ?_
                      have ej_18 : a14 v = aLow (aS v 13) (nI 10003) := (by unfold a14; rw [c_16]; rfl)
                      refine zz_top ej_18.symm ?_
                      exact j509 _ _ hP hD hS ls (lv_sub hl [0, 1, 2, 3, 4, 5, 6, 7, 8, 9] rfl)
                  rcases h21 with h20 | h20 <;> (rw [h20]; exact lv_tableIn (off := 254) (tgt := 475) hx hb dL_act_221 (by decide +kernel) (by decide +kernel) (by decide +kernel) (by decide) g9)
                · skip
                  rw [h21]
                  refine lv_tableIn (off := 292) (tgt := 513) hx hb dL_act_221 (by decide +kernel) (by decide +kernel) (by decide +kernel) (by decide) ?_
                  refine lv_aload_n hx hb dL_act_513 rfl (lv_at hl 8 rfl) ?_
                  refine lv_iload hx hb dL_act_514 (lv_at hl 1 rfl) ?_
                  refine zy_S (As := [.ref (ad 0), .int (aSea v)]) (rest := []) (wr := []) ⟨hx, hb, hml, hown, hts⟩ (kL_retract l hl9 D cI cZ ad K _ (aSea v) ) (vx_cwSW 2 hts gL_act_L_retract rfl rfl rfl (by decide +kernel) ⟨(Nat.le_of_ble_eq_true rfl), (Nat.le_of_ble_eq_true rfl)⟩) hK hP hD hS hA hE hN [0, 1, 2, 3, 4, 5, 6, 7, 8, 9, 10, 11, 12, 13, 14, 15, 16, 17, 18, 19, 20, 21, 22, 23, 24, 25] [] rfl rfl rfl rfl rfl (by decide) rfl hl.1 rfl (Nat.le_of_ble_eq_true rfl) dL_act_516 ⟨(Nat.le_of_ble_eq_true rfl), (Nat.le_of_ble_eq_true rfl)⟩ (fun H locs hP hD hS => ?_)
                  refine W.widen (k := 5) (n := 30) (Nat.le_of_ble_eq_true rfl) (Nat.le_of_ble_eq_true rfl) ?_
                  have e9 : aOut K v n9 t9 = aMk (kRetT K (aSea v)) (K 20 (aSea v).toNatClampNeg) (kRetE K (aSea v).toNatClampNeg) K := aOut_8 h21
                  have hP : va_P D vwCl (kwA ad cI cZ (zEK (kRetT K (aSea v)) (kRetE K (aSea v).toNatClampNeg) K)) H := hP
                  have hD : va_D A (kwA ad cI cZ (zEK (kRetT K (aSea v)) (kRetE K (aSea v).toNatClampNeg) K)) := hD
                  have hP : va_P D vwCl (kwA ad cI cZ (aOut K v n9 t9).2) H := by rw [e9, aMk_2]; exact hP
                  have hD : va_D A (kwA ad cI cZ (aOut K v n9 t9).2) := by rw [e9, aMk_2]; exact hD
                  have eR9 : zAn (kRetT K (aSea v)) (K 20 (aSea v).toNatClampNeg) = (aOut K v n9 t9).1 := by rw [e9, aMk_1]
                  exact W.iret (v := zAn (kRetT K (aSea v)) (K 20 (aSea v).toNatClampNeg)) hx hb hr (fun t ht hW => ⟨⟨zAn (kRetT K (aSea v)) (K 20 (aSea v).toNatClampNeg), (), rfl, eR9, by rw [ht]; exact hP, va_K.moved hW.alike hK, hD⟩, hS.F ht⟩) hS.2.2 dL_act_519
                · skip
                  have h22 := aKd_lt v
                  refine lv_tableOut (tgt := 520) hx hb dL_act_221 (Or.inr ?_) (by decide) ?_
                  · rw [nI_toInt (by omega)]; omega
                  · skip
                    refine lv_aload_n hx hb dL_act_520 rfl (lv_at hl 8 rfl) ?_
                    refine lv_iload hx hb dL_act_521 (lv_at hl 4 rfl) ?_
                    refine lv_iload hx hb dL_act_523 (lv_at hl 3 rfl) ?_
                    refine lv_iload hx hb dL_act_525 (lv_at hl 2 rfl) ?_
                    have j553 : ∀ (H : Heap) (locs : List Loc), va_P D vwCl (kwA ad cI cZ K) H → va_D A (kwA ad cI cZ K) → va_S A s.heap H locs → ∀ ls : Array Slot, lv_has ls 10 [(9, .int (aOwn K v)), (8, .int (aSea v)), (7, .int (aPlc v)), (6, .int (aRow v)), (5, .int (aHol K v)), (4, .int (lServ K)), (3, .int (aPer v)), (2, .int (zb (aOdd v))), (0, .ref (ad 0)), (1, .int v)] → W pP l e ({ frames := 9, cells := 5, slots := 30, locals := 160 } : Room) s m ([.ref (ad 0), .int v] : List Value).toArray below meth c H locs 0 0 (MQ below (va_Qi (fun r (_ : Unit) => r = (aOut K v n9 t9).1) (fun _ => zPo D (zTy cI cZ) A (kwA ad cI cZ (aOut K v n9 t9).2)) A) ([.ref (ad 0), .int v] : List Value).toArray s 5 30 A) (F0 m 553 ls [.int (a17 v), .int (aPlc v), .int (aRow v), .int (aHol K v), .ref (ad 0)]) := by
                      intro H locs hP hD hS ls hl
                      have j585 : ∀ (H : Heap) (locs : List Loc), va_P D vwCl (kwA ad cI cZ K) H → va_D A (kwA ad cI cZ K) → va_S A s.heap H locs → ∀ ls : Array Slot, lv_has ls 10 [(9, .int (aOwn K v)), (8, .int (aSea v)), (7, .int (aPlc v)), (6, .int (aRow v)), (5, .int (aHol K v)), (4, .int (lServ K)), (3, .int (aPer v)), (2, .int (zb (aOdd v))), (0, .ref (ad 0)), (1, .int v)] → W pP l e ({ frames := 9, cells := 5, slots := 30, locals := 160 } : Room) s m ([.ref (ad 0), .int v] : List Value).toArray below meth c H locs 0 0 (MQ below (va_Qi (fun r (_ : Unit) => r = (aOut K v n9 t9).1) (fun _ => zPo D (zTy cI cZ) A (kwA ad cI cZ (aOut K v n9 t9).2)) A) ([.ref (ad 0), .int v] : List Value).toArray s 5 30 A) (F0 m 585 ls [.int (a18 v), .int (a17 v), .int (aPlc v), .int (aRow v), .int (aHol K v), .ref (ad 0)]) := by
                        intro H locs hP hD hS ls hl
                        refine zy_S (As := [.ref (ad 0), .int (aHol K v), .int (aRow v), .int (aPlc v), .int (a17 v), .int (a18 v)]) (rest := []) (wr := []) ⟨hx, hb, hml, hown, hts⟩ (kL_hold l hl9 D cI cZ ad K _ (aHol K v) (aRow v) (aPlc v) (a17 v) (a18 v) n9 hn9 hc8) (vx_cwSW 6 hts gL_act_L_hold rfl rfl rfl (by decide +kernel) ⟨(Nat.le_of_ble_eq_true rfl), (Nat.le_of_ble_eq_true rfl)⟩) hK hP hD hS hA hE hN [0, 1, 2, 3, 4, 5, 6, 7, 8, 9, 10, 11, 12, 13, 14, 15, 16, 17, 18, 19, 20, 21, 22, 23, 24, 25] [] rfl rfl rfl rfl rfl (by decide) rfl hl.1 rfl (Nat.le_of_ble_eq_true rfl) dL_act_585 ⟨(Nat.le_of_ble_eq_true rfl), (Nat.le_of_ble_eq_true rfl)⟩ (fun H locs hP hD hS => ?_)
                        have e9 : aOut K v n9 t9 = aMk (kHoldT K (aHol K v) (aRow v) (aPlc v) (a17 v) (a18 v)) (kHoldR K (mHF (aRow v) (aPlc v)) (a17 v).toNatClampNeg) (kHoldE K (aHol K v).toNatClampNeg (mHF (aRow v) (aPlc v)) (a17 v).toNatClampNeg (a18 v)) K := aOut_9 h21
                        have hP : va_P D vwCl (kwA ad cI cZ (zEK (kHoldT K (aHol K v) (aRow v) (aPlc v) (a17 v) (a18 v)) (kHoldE K (aHol K v).toNatClampNeg (mHF (aRow v) (aPlc v)) (a17 v).toNatClampNeg (a18 v)) K)) H := hP
                        have hD : va_D A (kwA ad cI cZ (zEK (kHoldT K (aHol K v) (aRow v) (aPlc v) (a17 v) (a18 v)) (kHoldE K (aHol K v).toNatClampNeg (mHF (aRow v) (aPlc v)) (a17 v).toNatClampNeg (a18 v)) K)) := hD
                        have hP : va_P D vwCl (kwA ad cI cZ (aOut K v n9 t9).2) H := by rw [e9, aMk_2]; exact hP
                        have hD : va_D A (kwA ad cI cZ (aOut K v n9 t9).2) := by rw [e9, aMk_2]; exact hD
                        have eR9 : zAn (kHoldT K (aHol K v) (aRow v) (aPlc v) (a17 v) (a18 v)) (kHoldR K (mHF (aRow v) (aPlc v)) (a17 v).toNatClampNeg) = (aOut K v n9 t9).1 := by rw [e9, aMk_1]
                        exact W.iret (v := zAn (kHoldT K (aHol K v) (aRow v) (aPlc v) (a17 v) (a18 v)) (kHoldR K (mHF (aRow v) (aPlc v)) (a17 v).toNatClampNeg)) hx hb hr (fun t ht hW => ⟨⟨zAn (kHoldT K (aHol K v) (aRow v) (aPlc v) (a17 v) (a18 v)) (kHoldR K (mHF (aRow v) (aPlc v)) (a17 v).toNatClampNeg), (), rfl, eR9, by rw [ht]; exact hP, va_K.moved hW.alike hK, hD⟩, hS.F ht⟩) hS.2.2 dL_act_588
                      refine lv_iload_n hx hb dL_act_553 rfl (lv_at hl 9 rfl) ?_
                      refine lv_bipush (v := nI 17) hx hb dL_act_554 (by decide) ?_
                      refine lv_ishr hx hb dL_act_556 ?_
                      refine zz_top (y := aS v 17) rfl ?_
                      refine lv_iconst (v := nI 3) hx hb dL_act_557 (by decide) ?_
                      refine zc_rS (As := [.int (aS v 17), .int (nI 3)]) (rest := [.int (a17 v), .int (aPlc v), .int (aRow v), .int (aHol K v), .ref (ad 0)]) ⟨hx, hb, hml, hown, hts⟩ (kL_low l (aS v 17) (nI 3) (by decide)) (va_cwS 2 hts gL_act_L_low rfl rfl rfl (by decide +kernel) ⟨(Nat.le_of_ble_eq_true rfl), (Nat.le_of_ble_eq_true rfl)⟩) rfl hl.1 rfl (Nat.le_of_ble_eq_true rfl) dL_act_558 ⟨(Nat.le_of_ble_eq_true rfl), (Nat.le_of_ble_eq_true rfl)⟩ ?_
                      refine lv_if_ne (tgt := 568) hx hb dL_act_561 (by decide) (fun c_19 => ?_) (fun c_19 => ?_)
                      · skip
                        have c_19 : ¬ aLow (aS v 17) (nI 3) = 0 := c_19
                        refine lv_iload_n hx hb dL_act_568 rfl (lv_at hl 9 rfl) ?_
                        refine lv_bipush (v := nI 17) hx hb dL_act_569 (by decide) ?_
                        refine lv_ishr hx hb dL_act_571 ?_
                        refine zz_top (y := aS v 17) rfl ?_
                        have j582 : ∀ (H : Heap) (locs : List Loc), va_P D vwCl (kwA ad cI cZ K) H → va_D A (kwA ad cI cZ K) → va_S A s.heap H locs → ∀ ls : Array Slot, lv_has ls 10 [(9, .int (aOwn K v)), (8, .int (aSea v)), (7, .int (aPlc v)), (6, .int (aRow v)), (5, .int (aHol K v)), (4, .int (lServ K)), (3, .int (aPer v)), (2, .int (zb (aOdd v))), (0, .ref (ad 0)), (1, .int v)] → W pP l e ({ frames := 9, cells := 5, slots := 30, locals := 160 } : Room) s m ([.ref (ad 0), .int v] : List Value).toArray below meth c H locs 0 0 (MQ below (va_Qi (fun r (_ : Unit) => r = (aOut K v n9 t9).1) (fun _ => zPo D (zTy cI cZ) A (kwA ad cI cZ (aOut K v n9 t9).2)) A) ([.ref (ad 0), .int v] : List Value).toArray s 5 30 A) (F0 m 582 ls [.int (a19 v), .int (aS v 17), .int (a17 v), .int (aPlc v), .int (aRow v), .int (aHol K v), .ref (ad 0)]) := by
                          intro H locs hP hD hS ls hl
                          refine zc_rS (As := [.int (aS v 17), .int (a19 v)]) (rest := [.int (a17 v), .int (aPlc v), .int (aRow v), .int (aHol K v), .ref (ad 0)]) ⟨hx, hb, hml, hown, hts⟩ (kL_low l (aS v 17) (a19 v) (a19_n v)) (va_cwS 2 hts gL_act_L_low rfl rfl rfl (by decide +kernel) ⟨(Nat.le_of_ble_eq_true rfl), (Nat.le_of_ble_eq_true rfl)⟩) rfl hl.1 rfl (Nat.le_of_ble_eq_true rfl) dL_act_582 ⟨(Nat.le_of_ble_eq_true rfl), (Nat.le_of_ble_eq_true rfl)⟩ ?_
                          have ej_20 : a18 v = aLow (aS v 17) (a19 v) := (if_neg c_19)
                          refine zz_top ej_20.symm ?_
                          exact j585 _ _ hP hD hS ls (lv_sub hl [0, 1, 2, 3, 4, 5, 6, 7, 8, 9] rfl)
                        refine lv_iload_n hx hb dL_act_572 rfl (lv_at hl 7 rfl) ?_
                        refine lv_if_eq (tgt := 581) hx hb dL_act_573 (by decide) (fun c_21 => ?_) (fun c_21 => ?_)
                        · skip
                          have c_21 := zb_f c_21
                          refine lv_iconst (v := nI 2) hx hb dL_act_581 (by decide) ?_
                          have ej_22 : a19 v = nI 2 := (by unfold a19; rw [c_21]; rfl)
                          refine zz_top ej_22.symm ?_
                          exact j582 _ _ hP hD hS ls (lv_sub hl [0, 1, 2, 3, 4, 5, 6, 7, 8, 9] rfl)
                        · skip
                          have c_21 := zb_t c_21
                          refine lv_bipush (v := nI 12) hx hb dL_act_576 (by decide) ?_
                          refine lv_goto (tgt := 582) hx hb dL_act_578 (by decide) ?_
                          have ej_23 : a19 v = nI 12 := (by unfold a19; rw [c_21]; rfl)
                          refine zz_top ej_23.symm ?_
                          exact j582 _ _ hP hD hS ls (lv_sub hl [0, 1, 2, 3, 4, 5, 6, 7, 8, 9] rfl)
                      · skip
                        have c_19 : aLow (aS v 17) (nI 3) = 0 := c_19
                        refine lv_iconst (v := (-1)) hx hb dL_act_564 (by decide) ?_
                        refine lv_goto (tgt := 585) hx hb dL_act_565 (by decide) ?_
                        have ej_24 : a18 v = (-1) := (if_pos c_19).symm.symm
                        refine zz_top ej_24.symm ?_
                        exact j585 _ _ hP hD hS ls (lv_sub hl [0, 1, 2, 3, 4, 5, 6, 7, 8, 9] rfl)
                    refine lv_iload_n hx hb dL_act_527 rfl (lv_at hl 7 rfl) ?_
                    refine lv_if_eq (tgt := 543) hx hb dL_act_528 (by decide) (fun c_25 => ?_) (fun c_25 => ?_)
                    · skip
                      have c_25 := zb_f c_25
                      refine lv_iconst (v := nI 1) hx hb dL_act_543 (by decide) ?_
                      refine lv_iload_n hx hb dL_act_544 rfl (lv_at hl 9 rfl) ?_
                      refine lv_bipush (v := nI 14) hx hb dL_act_545 (by decide) ?_
                      refine lv_ishr hx hb dL_act_547 ?_
                      refine zz_top (y := aS v 14) rfl ?_
                      refine lv_iconst (v := nI 4) hx hb dL_act_548 (by decide) ?_
                      refine zc_rS (As := [.int (aS v 14), .int (nI 4)]) (rest := [.int (nI 1), .int (aPlc v), .int (aRow v), .int (aHol K v), .ref (ad 0)]) ⟨hx, hb, hml, hown, hts⟩ (kL_low l (aS v 14) (nI 4) (by decide)) (va_cwS 2 hts gL_act_L_low rfl rfl rfl (by decide +kernel) ⟨(Nat.le_of_ble_eq_true rfl), (Nat.le_of_ble_eq_true rfl)⟩) rfl hl.1 rfl (Nat.le_of_ble_eq_true rfl) dL_act_549 ⟨(Nat.le_of_ble_eq_true rfl), (Nat.le_of_ble_eq_true rfl)⟩ ?_
                      refine lv_iadd hx hb dL_act_552 ?_
                      have ej_26 : a17 v = (nI 1) + (aLow (aS v 14) (nI 4)) := (by unfold a17; rw [c_25]; rfl)
                      refine zz_top ej_26.symm ?_
                      exact j553 _ _ hP hD hS ls (lv_sub hl [0, 1, 2, 3, 4, 5, 6, 7, 8, 9] rfl)
                    · skip
                      have c_25 := zb_t c_25
                      refine lv_iload_n hx hb dL_act_531 rfl (lv_at hl 9 rfl) ?_
                      refine lv_bipush (v := nI 14) hx hb dL_act_532 (by decide) ?_
                      refine lv_ishr hx hb dL_act_534 ?_
                      refine zz_top (y := aS v 14) rfl ?_
                      refine lv_bipush (v := nI 7) hx hb dL_act_535 (by decide) ?_
                      refine zc_rS (As := [.int (aS v 14), .int (nI 7)]) (rest := [.int (aPlc v), .int (aRow v), .int (aHol K v), .ref (ad 0)]) ⟨hx, hb, hml, hown, hts⟩ (kL_low l (aS v 14) (nI 7) (by decide)) (va_cwS 2 hts gL_act_L_low rfl rfl rfl (by decide +kernel) ⟨(Nat.le_of_ble_eq_true rfl), (Nat.le_of_ble_eq_true rfl)⟩) rfl hl.1 rfl (Nat.le_of_ble_eq_true rfl) dL_act_537 ⟨(Nat.le_of_ble_eq_true rfl), (Nat.le_of_ble_eq_true rfl)⟩ ?_
                      refine lv_goto (tgt := 553) hx hb dL_act_540 (by decide) ?_
                      have ej_27 : a17 v = aLow (aS v 14) (nI 7) := (by unfold a17; rw [c_25]; rfl)
                      refine zz_top ej_27.symm ?_
                      exact j553 _ _ hP hD hS ls (lv_sub hl [0, 1, 2, 3, 4, 5, 6, 7, 8, 9] rfl)
              refine lv_iload_n hx hb dL_act_152 rfl (lv_at hl 6 rfl) ?_
              refine lv_if_ne (tgt := 212) hx hb dL_act_153 (by decide) (fun c_28 => ?_) (fun c_28 => ?_)
              · skip
                have c_28 := zb_t c_28
                refine lv_iload_n hx hb dL_act_212 rfl (lv_at hl 5 rfl) ?_
                have ej_29 : aOwn K v = aPer v := (by unfold aOwn; rw [c_28]; first | rfl)
                refine zz_top ej_29.symm ?_
                exact j213 _ _ hP hD hS ls (lv_sub hl [0, 1, 2, 3, 4, 5, 6, 7, 8] rfl)
              · skip
                have c_28 := zb_f c_28
                refine lv_aload_n hx hb dL_act_156 rfl (lv_at hl 7 rfl) ?_
                refine lv_bipush (v := nI 10) hx hb dL_act_157 (by decide) ?_
                refine lv_iload_n hx hb dL_act_159 rfl (lv_at hl 8 rfl) ?_
                refine lv_bipush (v := nI 7) hx hb dL_act_160 (by decide) ?_
                refine lv_ishr hx hb dL_act_162 ?_
                refine zz_top (y := aS v 7) rfl ?_
                refine lv_iconst (v := nI 2) hx hb dL_act_163 (by decide) ?_
                refine zc_rS (As := [.int (aS v 7), .int (nI 2)]) (rest := [.int (nI 10), .ref (ad 0)]) ⟨hx, hb, hml, hown, hts⟩ (kL_low l (aS v 7) (nI 2) (by decide)) (va_cwS 2 hts gL_act_L_low rfl rfl rfl (by decide +kernel) ⟨(Nat.le_of_ble_eq_true rfl), (Nat.le_of_ble_eq_true rfl)⟩) rfl hl.1 rfl (Nat.le_of_ble_eq_true rfl) dL_act_164 ⟨(Nat.le_of_ble_eq_true rfl), (Nat.le_of_ble_eq_true rfl)⟩ ?_
                refine lv_imul hx hb dL_act_167 ?_
                refine lv_iload_n hx hb dL_act_168 rfl (lv_at hl 8 rfl) ?_
                refine lv_bipush (v := nI 10) hx hb dL_act_169 (by decide) ?_
                refine lv_ishr hx hb dL_act_171 ?_
                refine zz_top (y := aS v 10) rfl ?_
                refine lv_bipush (v := nI 10) hx hb dL_act_172 (by decide) ?_
                refine zc_rS (As := [.int (aS v 10), .int (nI 10)]) (rest := [.int ((nI 10) * (aLow (aS v 7) (nI 2))), .ref (ad 0)]) ⟨hx, hb, hml, hown, hts⟩ (kL_low l (aS v 10) (nI 10) (by decide)) (va_cwS 2 hts gL_act_L_low rfl rfl rfl (by decide +kernel) ⟨(Nat.le_of_ble_eq_true rfl), (Nat.le_of_ble_eq_true rfl)⟩) rfl hl.1 rfl (Nat.le_of_ble_eq_true rfl) dL_act_174 ⟨(Nat.le_of_ble_eq_true rfl), (Nat.le_of_ble_eq_true rfl)⟩ ?_
                refine lv_iadd hx hb dL_act_177 ?_
                refine zz_top (y := nI (aSn v)) (aSn_eq v) ?_
                refine zq_rV (As := [.int (nI (aSn v))]) (rest := []) ⟨hx, hb, hml, hown, hts⟩ (kQ_owner l D cI cZ ad K (aSn v) (aSn_lt v)) (cwV 1 hts gL_act_X5_owner rfl rfl rfl (by decide +kernel) ⟨(Nat.le_of_ble_eq_true rfl), (Nat.le_of_ble_eq_true rfl)⟩) hK hP hE.1 (ci := 5) (q0 := 0) rfl rfl rfl rfl hl.1 rfl (Nat.le_of_ble_eq_true rfl) dL_act_178 ⟨(Nat.le_of_ble_eq_true rfl), (Nat.le_of_ble_eq_true rfl)⟩ ?_
                refine lv_if_lt (tgt := 212) hx hb dL_act_181 (by decide) (fun c_30 => ?_) (fun c_30 => ?_)
                · skip
                  have c_30 : K 19 (aSn v) < 0 := c_30
                  refine lv_iload_n hx hb dL_act_212 rfl (lv_at hl 5 rfl) ?_
                  have ej_31 : aOwn K v = aPer v := (by unfold aOwn; rw [c_28]; first | rfl | exact if_pos c_30 | exact if_neg c_30)
                  refine zz_top ej_31.symm ?_
                  exact j213 _ _ hP hD hS ls (lv_sub hl [0, 1, 2, 3, 4, 5, 6, 7, 8] rfl)
                · skip
                  have c_30 : ¬ K 19 (aSn v) < 0 := c_30
                  refine lv_aload_n hx hb dL_act_184 rfl (lv_at hl 7 rfl) ?_
                  refine lv_bipush (v := nI 10) hx hb dL_act_185 (by decide) ?_
                  refine lv_iload_n hx hb dL_act_187 rfl (lv_at hl 8 rfl) ?_
                  refine lv_bipush (v := nI 7) hx hb dL_act_188 (by decide) ?_
                  refine lv_ishr hx hb dL_act_190 ?_
                  refine zz_top (y := aS v 7) rfl ?_
                  refine lv_iconst (v := nI 2) hx hb dL_act_191 (by decide) ?_
                  refine zc_rS (As := [.int (aS v 7), .int (nI 2)]) (rest := [.int (nI 10), .ref (ad 0)]) ⟨hx, hb, hml, hown, hts⟩ (kL_low l (aS v 7) (nI 2) (by decide)) (va_cwS 2 hts gL_act_L_low rfl rfl rfl (by decide +kernel) ⟨(Nat.le_of_ble_eq_true rfl), (Nat.le_of_ble_eq_true rfl)⟩) rfl hl.1 rfl (Nat.le_of_ble_eq_true rfl) dL_act_192 ⟨(Nat.le_of_ble_eq_true rfl), (Nat.le_of_ble_eq_true rfl)⟩ ?_
                  refine lv_imul hx hb dL_act_195 ?_
                  refine lv_iload_n hx hb dL_act_196 rfl (lv_at hl 8 rfl) ?_
                  refine lv_bipush (v := nI 10) hx hb dL_act_197 (by decide) ?_
                  refine lv_ishr hx hb dL_act_199 ?_
                  refine zz_top (y := aS v 10) rfl ?_
                  refine lv_bipush (v := nI 10) hx hb dL_act_200 (by decide) ?_
                  refine zc_rS (As := [.int (aS v 10), .int (nI 10)]) (rest := [.int ((nI 10) * (aLow (aS v 7) (nI 2))), .ref (ad 0)]) ⟨hx, hb, hml, hown, hts⟩ (kL_low l (aS v 10) (nI 10) (by decide)) (va_cwS 2 hts gL_act_L_low rfl rfl rfl (by decide +kernel) ⟨(Nat.le_of_ble_eq_true rfl), (Nat.le_of_ble_eq_true rfl)⟩) rfl hl.1 rfl (Nat.le_of_ble_eq_true rfl) dL_act_202 ⟨(Nat.le_of_ble_eq_true rfl), (Nat.le_of_ble_eq_true rfl)⟩ ?_
                  refine lv_iadd hx hb dL_act_205 ?_
                  refine zz_top (y := nI (aSn v)) (aSn_eq v) ?_
                  refine zq_rV (As := [.int (nI (aSn v))]) (rest := []) ⟨hx, hb, hml, hown, hts⟩ (kQ_owner l D cI cZ ad K (aSn v) (aSn_lt v)) (cwV 1 hts gL_act_X5_owner rfl rfl rfl (by decide +kernel) ⟨(Nat.le_of_ble_eq_true rfl), (Nat.le_of_ble_eq_true rfl)⟩) hK hP hE.1 (ci := 5) (q0 := 0) rfl rfl rfl rfl hl.1 rfl (Nat.le_of_ble_eq_true rfl) dL_act_206 ⟨(Nat.le_of_ble_eq_true rfl), (Nat.le_of_ble_eq_true rfl)⟩ ?_
                  refine lv_goto (tgt := 213) hx hb dL_act_209 (by decide) ?_
                  have ej_32 : aOwn K v = K 19 (aSn v) := (by unfold aOwn; rw [c_28]; first | rfl | exact if_pos c_30 | exact if_neg c_30)
                  refine zz_top ej_32.symm ?_
                  exact j213 _ _ hP hD hS ls (lv_sub hl [0, 1, 2, 3, 4, 5, 6, 7, 8] rfl)
            refine lv_iload_n hx hb dL_act_124 rfl (lv_at hl 5 rfl) ?_
            refine lv_if_eq (tgt := 142) hx hb dL_act_125 (by decide) (fun c_33 => ?_) (fun c_33 => ?_)
            · skip
              have c_33 := zb_f c_33
              refine lv_bipush (v := nI 10) hx hb dL_act_142 (by decide) ?_
              refine lv_iload hx hb dL_act_144 (lv_at hl 1 rfl) ?_
              refine lv_imul hx hb dL_act_146 ?_
              refine lv_iload hx hb dL_act_147 (lv_at hl 0 rfl) ?_
              refine lv_iadd hx hb dL_act_149 ?_
              have ej_34 : aSea v = ((nI 10) * (aRow v)) + (aPlc v) := (by unfold aSea; rw [c_33]; rfl)
              refine zz_top ej_34.symm ?_
              exact j150 _ _ hP hD hS ls (lv_sub hl [0, 1, 2, 3, 4, 5, 6, 7] rfl)
            · skip
              have c_33 := zb_t c_33
              refine lv_iload_n hx hb dL_act_128 rfl (lv_at hl 7 rfl) ?_
              refine lv_bipush (v := nI 7) hx hb dL_act_129 (by decide) ?_
              refine lv_ishr hx hb dL_act_131 ?_
              refine zz_top (y := aS v 7) rfl ?_
              refine lv_bipush (v := nI 62) hx hb dL_act_132 (by decide) ?_
              refine zc_rS (As := [.int (aS v 7), .int (nI 62)]) (rest := []) ⟨hx, hb, hml, hown, hts⟩ (kL_low l (aS v 7) (nI 62) (by decide)) (va_cwS 2 hts gL_act_L_low rfl rfl rfl (by decide +kernel) ⟨(Nat.le_of_ble_eq_true rfl), (Nat.le_of_ble_eq_true rfl)⟩) rfl hl.1 rfl (Nat.le_of_ble_eq_true rfl) dL_act_134 ⟨(Nat.le_of_ble_eq_true rfl), (Nat.le_of_ble_eq_true rfl)⟩ ?_
              refine lv_iconst (v := nI 1) hx hb dL_act_137 (by decide) ?_
              refine lv_isub hx hb dL_act_138 ?_
              refine lv_goto (tgt := 150) hx hb dL_act_139 (by decide) ?_
              have ej_35 : aSea v = (aLow (aS v 7) (nI 62)) - (nI 1) := (by unfold aSea; rw [c_33]; rfl)
              refine zz_top ej_35.symm ?_
              exact j150 _ _ hP hD hS ls (lv_sub hl [0, 1, 2, 3, 4, 5, 6, 7] rfl)
          refine lv_iload_n hx hb dL_act_95 rfl (lv_at hl 4 rfl) ?_
          refine lv_if_eq (tgt := 113) hx hb dL_act_96 (by decide) (fun c_36 => ?_) (fun c_36 => ?_)
          · skip
            have c_36 := zb_f c_36
            refine lv_iload_n hx hb dL_act_113 rfl (lv_at hl 6 rfl) ?_
            refine lv_bipush (v := nI 10) hx hb dL_act_114 (by decide) ?_
            refine lv_ishr hx hb dL_act_116 ?_
            refine zz_top (y := aS v 10) rfl ?_
            refine lv_bipush (v := nI 10) hx hb dL_act_117 (by decide) ?_
            refine zc_rS (As := [.int (aS v 10), .int (nI 10)]) (rest := []) ⟨hx, hb, hml, hown, hts⟩ (kL_low l (aS v 10) (nI 10) (by decide)) (va_cwS 2 hts gL_act_L_low rfl rfl rfl (by decide +kernel) ⟨(Nat.le_of_ble_eq_true rfl), (Nat.le_of_ble_eq_true rfl)⟩) rfl hl.1 rfl (Nat.le_of_ble_eq_true rfl) dL_act_119 ⟨(Nat.le_of_ble_eq_true rfl), (Nat.le_of_ble_eq_true rfl)⟩ ?_
            have ej_37 : aPlc v = aLow (aS v 10) (nI 10) := (by unfold aPlc; rw [c_36]; rfl)
            refine zz_top ej_37.symm ?_
            exact j122 _ _ hP hD hS ls (lv_sub hl [0, 1, 2, 3, 4, 5, 6] rfl)
          · skip
            have c_36 := zb_t c_36
            refine lv_iload_n hx hb dL_act_99 rfl (lv_at hl 6 rfl) ?_
            refine lv_bipush (v := nI 10) hx hb dL_act_100 (by decide) ?_
            refine lv_ishr hx hb dL_act_102 ?_
            refine zz_top (y := aS v 10) rfl ?_
            refine lv_bipush (v := nI 12) hx hb dL_act_103 (by decide) ?_
            refine zc_rS (As := [.int (aS v 10), .int (nI 12)]) (rest := []) ⟨hx, hb, hml, hown, hts⟩ (kL_low l (aS v 10) (nI 12) (by decide)) (va_cwS 2 hts gL_act_L_low rfl rfl rfl (by decide +kernel) ⟨(Nat.le_of_ble_eq_true rfl), (Nat.le_of_ble_eq_true rfl)⟩) rfl hl.1 rfl (Nat.le_of_ble_eq_true rfl) dL_act_105 ⟨(Nat.le_of_ble_eq_true rfl), (Nat.le_of_ble_eq_true rfl)⟩ ?_
            refine lv_iconst (v := nI 1) hx hb dL_act_108 (by decide) ?_
            refine lv_isub hx hb dL_act_109 ?_
            refine lv_goto (tgt := 122) hx hb dL_act_110 (by decide) ?_
            have ej_38 : aPlc v = (aLow (aS v 10) (nI 12)) - (nI 1) := (by unfold aPlc; rw [c_36]; rfl)
            refine zz_top ej_38.symm ?_
            exact j122 _ _ hP hD hS ls (lv_sub hl [0, 1, 2, 3, 4, 5, 6] rfl)
        refine lv_iload_n hx hb dL_act_67 rfl (lv_at hl 3 rfl) ?_
        refine lv_if_eq (tgt := 85) hx hb dL_act_68 (by decide) (fun c_39 => ?_) (fun c_39 => ?_)
        · skip
          have c_39 := zb_f c_39
          refine lv_iload_n hx hb dL_act_85 rfl (lv_at hl 5 rfl) ?_
          refine lv_bipush (v := nI 7) hx hb dL_act_86 (by decide) ?_
          refine lv_ishr hx hb dL_act_88 ?_
          refine zz_top (y := aS v 7) rfl ?_
          refine lv_iconst (v := nI 2) hx hb dL_act_89 (by decide) ?_
          refine zc_rS (As := [.int (aS v 7), .int (nI 2)]) (rest := []) ⟨hx, hb, hml, hown, hts⟩ (kL_low l (aS v 7) (nI 2) (by decide)) (va_cwS 2 hts gL_act_L_low rfl rfl rfl (by decide +kernel) ⟨(Nat.le_of_ble_eq_true rfl), (Nat.le_of_ble_eq_true rfl)⟩) rfl hl.1 rfl (Nat.le_of_ble_eq_true rfl) dL_act_90 ⟨(Nat.le_of_ble_eq_true rfl), (Nat.le_of_ble_eq_true rfl)⟩ ?_
          have ej_40 : aRow v = aLow (aS v 7) (nI 2) := (by unfold aRow; rw [c_39]; rfl)
          refine zz_top ej_40.symm ?_
          exact j93 _ _ hP hD hS ls (lv_sub hl [0, 1, 2, 3, 4, 5] rfl)
        · skip
          have c_39 := zb_t c_39
          refine lv_iload_n hx hb dL_act_71 rfl (lv_at hl 5 rfl) ?_
          refine lv_bipush (v := nI 7) hx hb dL_act_72 (by decide) ?_
          refine lv_ishr hx hb dL_act_74 ?_
          refine zz_top (y := aS v 7) rfl ?_
          refine lv_bipush (v := nI 8) hx hb dL_act_75 (by decide) ?_
          refine zc_rS (As := [.int (aS v 7), .int (nI 8)]) (rest := []) ⟨hx, hb, hml, hown, hts⟩ (kL_low l (aS v 7) (nI 8) (by decide)) (va_cwS 2 hts gL_act_L_low rfl rfl rfl (by decide +kernel) ⟨(Nat.le_of_ble_eq_true rfl), (Nat.le_of_ble_eq_true rfl)⟩) rfl hl.1 rfl (Nat.le_of_ble_eq_true rfl) dL_act_77 ⟨(Nat.le_of_ble_eq_true rfl), (Nat.le_of_ble_eq_true rfl)⟩ ?_
          refine lv_iconst (v := nI 1) hx hb dL_act_80 (by decide) ?_
          refine lv_isub hx hb dL_act_81 ?_
          refine lv_goto (tgt := 93) hx hb dL_act_82 (by decide) ?_
          have ej_41 : aRow v = (aLow (aS v 7) (nI 8)) - (nI 1) := (by unfold aRow; rw [c_39]; rfl)
          refine zz_top ej_41.symm ?_
          exact j93 _ _ hP hD hS ls (lv_sub hl [0, 1, 2, 3, 4, 5] rfl)
      refine lv_iload_n hx hb dL_act_50 rfl (lv_at hl 2 rfl) ?_
      refine lv_if_ne (tgt := 64) hx hb dL_act_51 (by decide) (fun c_42 => ?_) (fun c_42 => ?_)
      · skip
        have c_42 := zb_t c_42
        refine lv_iload_n hx hb dL_act_64 rfl (lv_at hl 1 rfl) ?_
        have ej_43 : aHol K v = aPer v := (by unfold aHol; rw [c_42]; first | rfl)
        refine zz_top ej_43.symm ?_
        exact j65 _ _ hP hD hS ls (lv_sub hl [0, 1, 2, 3, 4] rfl)
      · skip
        have c_42 := zb_f c_42
        refine lv_iload hx hb dL_act_54 (lv_at hl 0 rfl) ?_
        refine lv_if_lt (tgt := 64) hx hb dL_act_56 (by decide) (fun c_44 => ?_) (fun c_44 => ?_)
        · skip
          have c_44 : lServ K < 0 := c_44
          refine lv_iload_n hx hb dL_act_64 rfl (lv_at hl 1 rfl) ?_
          have ej_45 : aHol K v = aPer v := (by unfold aHol; rw [c_42]; first | rfl | exact if_pos c_44 | exact if_neg c_44)
          refine zz_top ej_45.symm ?_
          exact j65 _ _ hP hD hS ls (lv_sub hl [0, 1, 2, 3, 4] rfl)
        · skip
          have c_44 : ¬ lServ K < 0 := c_44
          refine lv_iload hx hb dL_act_59 (lv_at hl 0 rfl) ?_
          refine lv_goto (tgt := 65) hx hb dL_act_61 (by decide) ?_
          have ej_46 : aHol K v = lServ K := (by unfold aHol; rw [c_42]; first | rfl | exact if_pos c_44 | exact if_neg c_44)
          refine zz_top ej_46.symm ?_
          exact j65 _ _ hP hD hS ls (lv_sub hl [0, 1, 2, 3, 4] rfl)
    refine lv_iload_n hx hb dL_act_18 rfl (lv_at hl 0 rfl) ?_
    refine lv_if_eq (tgt := 35) hx hb dL_act_19 (by decide) (fun c_47 => ?_) (fun c_47 => ?_)
    · skip
      have c_47 := zb_f c_47
      refine lv_iload_n hx hb dL_act_35 rfl (lv_at hl 2 rfl) ?_
      refine lv_iconst (v := nI 4) hx hb dL_act_36 (by decide) ?_
      refine lv_ishr hx hb dL_act_37 ?_
      refine zz_top (y := aS v 4) rfl ?_
      refine lv_bipush (v := nI 8) hx hb dL_act_38 (by decide) ?_
      refine zc_rS (As := [.int (aS v 4), .int (nI 8)]) (rest := []) ⟨hx, hb, hml, hown, hts⟩ (kL_low l (aS v 4) (nI 8) (by decide)) (va_cwS 2 hts gL_act_L_low rfl rfl rfl (by decide +kernel) ⟨(Nat.le_of_ble_eq_true rfl), (Nat.le_of_ble_eq_true rfl)⟩) rfl hl.1 rfl (Nat.le_of_ble_eq_true rfl) dL_act_40 ⟨(Nat.le_of_ble_eq_true rfl), (Nat.le_of_ble_eq_true rfl)⟩ ?_
      have ej_48 : aPer v = aLow (aS v 4) (nI 8) := (by unfold aPer; rw [c_47]; rfl)
      refine zz_top ej_48.symm ?_
      exact j43 _ _ hP hD hS ls (lv_sub hl [0, 1, 2] rfl)
    · skip
      have c_47 := zb_t c_47
      refine lv_iload_n hx hb dL_act_22 rfl (lv_at hl 2 rfl) ?_
      refine lv_iconst (v := nI 4) hx hb dL_act_23 (by decide) ?_
      refine lv_ishr hx hb dL_act_24 ?_
      refine zz_top (y := aS v 4) rfl ?_
      refine lv_bipush (v := nI 10) hx hb dL_act_25 (by decide) ?_
      refine zc_rS (As := [.int (aS v 4), .int (nI 10)]) (rest := []) ⟨hx, hb, hml, hown, hts⟩ (kL_low l (aS v 4) (nI 10) (by decide)) (va_cwS 2 hts gL_act_L_low rfl rfl rfl (by decide +kernel) ⟨(Nat.le_of_ble_eq_true rfl), (Nat.le_of_ble_eq_true rfl)⟩) rfl hl.1 rfl (Nat.le_of_ble_eq_true rfl) dL_act_27 ⟨(Nat.le_of_ble_eq_true rfl), (Nat.le_of_ble_eq_true rfl)⟩ ?_
      refine lv_iconst (v := nI 1) hx hb dL_act_30 (by decide) ?_
      refine lv_isub hx hb dL_act_31 ?_
      refine lv_goto (tgt := 43) hx hb dL_act_32 (by decide) ?_
      have ej_49 : aPer v = (aLow (aS v 4) (nI 10)) - (nI 1) := (by unfold aPer; rw [c_47]; rfl)
      refine zz_top ej_49.symm ?_
      exact j43 _ _ hP hD hS ls (lv_sub hl [0, 1, 2] rfl)
  refine lv_iload_n hx hb dL_act_0 rfl (lv_at hl 1 rfl) ?_
  refine lv_bipush (v := nI 24) hx hb dL_act_1 (by decide) ?_
  refine lv_ishr hx hb dL_act_3 ?_
  refine zz_top (y := aS v 24) rfl ?_
  refine lv_bipush (v := nI 9) hx hb dL_act_4 (by decide) ?_
  refine zc_rS (As := [.int (aS v 24), .int (nI 9)]) (rest := []) ⟨hx, hb, hml, hown, hts⟩ (kL_low l (aS v 24) (nI 9) (by decide)) (va_cwS 2 hts gL_act_L_low rfl rfl rfl (by decide +kernel) ⟨(Nat.le_of_ble_eq_true rfl), (Nat.le_of_ble_eq_true rfl)⟩) rfl hl.1 rfl (Nat.le_of_ble_eq_true rfl) dL_act_6 ⟨(Nat.le_of_ble_eq_true rfl), (Nat.le_of_ble_eq_true rfl)⟩ ?_
  refine lv_if_ne (tgt := 16) hx hb dL_act_9 (by decide) (fun c_50 => ?_) (fun c_50 => ?_)
  · skip
    have c_50 : ¬ aLow (aS v 24) (nI 9) = 0 := c_50
    refine lv_iconst (v := nI 0) hx hb dL_act_16 (by decide) ?_
    have ej_51 : zb (aOdd v) = nI 0 := (by simp [zb, aOdd, c_50])
    refine zz_top ej_51.symm ?_
    exact j17 _ _ hP hD hS ls (lv_sub hl [0, 1] rfl)
  · skip
    have c_50 : aLow (aS v 24) (nI 9) = 0 := c_50
    refine lv_iconst (v := nI 1) hx hb dL_act_12 (by decide) ?_
    refine lv_goto (tgt := 17) hx hb dL_act_13 (by decide) ?_
    have ej_52 : zb (aOdd v) = nI 1 := (by simp [zb, aOdd, c_50])
    refine zz_top ej_52.symm ?_
    exact j17 _ _ hP hD hS ls (lv_sub hl [0, 1] rfl)
