set_option maxHeartbeats 4000000 in
set_option maxRecDepth 100000 in
theorem kX6_firstOpen (l : Launch) (D : va_G) (cI cZ : ClassId) (ad : Nat → Nat) (K : kS) (sz : Nat) (r1 : Int32) (m9 : Int32)  : Met l yX6_firstOpen wsX6_firstOpen ({ frames := 3, cells := 0, slots := 0, locals := 66 }) (va_Pc [.ref (ad 0), .int r1, .int m9] (zPr D (zTy cI cZ) (mwA ad cI cZ K) sz)) (va_Qi (fun r (_ : Unit) => r = mRes (mFirT r1 m9) (mFirR K r1.toNatClampNeg m9)) (fun _ => zPo D (zTy cI cZ) (va_A (mwA ad cI cZ K) sz) (mwA ad cI cZ (mPost (mFirT r1 m9) K (mGoes K (nI 0))))) (va_A (mwA ad cI cZ K) sz)) 0 0 (va_A (mwA ad cI cZ K) sz) := by
  refine Met.ofW (cc := cX6_firstOpen) (maxL := 6) (ret := (some .int)) (by decide) rfl ?_
  intro pP e s m args below meth c s₁ B hml hv
  obtain ⟨rfl, hsz, hP, hK, hD0⟩ := hv
  have hx := B.exec
  have hb := B.bytes
  have hr := B.returns
  have hts := atoms_spec (ws := wsX6_firstOpen) B.pre
  have hown : s.vm.findClass RX6 = some m.cls := findClass_of_methodNamed B.named
  have hlocks := B.notSynchronized
  subst hsz
  have hD := hD0.self (sz := s.heap.size)
  generalize hAe : va_A (mwA ad cI cZ K) s.heap.size = A at hD ⊢
  have hA : ∀ q : Nat, s.heap.size ≤ q → A q := fun q h => by rw [← hAe]; exact Or.inr h
  have hS : va_S A s.heap s.heap [] := va_S.rf
  have hl := lv_entry ([.ref (ad 0), .int r1, .int m9]) (n := 6) (Nat.le_of_ble_eq_true rfl)
  rw [lg_entry_eq]
  generalize (lg_sl ([.ref (ad 0), .int r1, .int m9]) ++ List.replicate (6 - (lg_sl ([.ref (ad 0), .int r1, .int m9])).length) Slot.unset).toArray = ls at hl ⊢
  have hl : lv_has ls 6 [(0, .ref (ad 0)), (1, .int r1), (2, .int m9)] := hl
  refine lv_iload_n hx hb dX6_firstOpen_0 rfl (lv_at hl 1 rfl) ?_
  refine zc_rS (As := [.int r1]) (rest := []) ⟨hx, hb, hml, hown, hts⟩ (kX6_isRow l r1 ) (va_cwS 1 hts gX6_firstOpen_X6_isRow rfl rfl rfl (by decide +kernel) ⟨(Nat.le_of_ble_eq_true rfl), (Nat.le_of_ble_eq_true rfl)⟩) rfl hl.1 rfl (Nat.le_of_ble_eq_true rfl) dX6_firstOpen_1 ⟨Nat.zero_le _, Nat.zero_le _⟩ ?_
  refine lv_istore_n (lv' := [(3, .int (zb (mIsR r1))), (0, .ref (ad 0)), (1, .int r1), (2, .int m9)]) hx hb dX6_firstOpen_4 rfl hl (by decide) rfl (fun ls hl => ?_)
  refine lv_aload_n hx hb dX6_firstOpen_5 rfl (lv_at hl 1 rfl) ?_
  refine lv_iload_n hx hb dX6_firstOpen_6 rfl (lv_at hl 0 rfl) ?_
  refine lv_if_ne (tgt := 14) hx hb dX6_firstOpen_7 (by decide) (fun c_1 => ?_) (fun c_1 => ?_)
  · skip
    have c_1 := zb_t c_1
    obtain ⟨p9, hp9, hp8, hp7⟩ := mIsR_of c_1
    refine lv_iload_n hx hb dX6_firstOpen_14 rfl (lv_at hl 3 rfl) ?_
    refine lv_iconst (v := nI 1) hx hb dX6_firstOpen_15 (by decide) ?_
    refine lv_bipush (v := nI 10) hx hb dX6_firstOpen_16 (by decide) ?_
    refine zc_rS (As := [.int m9, .int (nI 1), .int (nI 10)]) (rest := [.ref (ad 0)]) ⟨hx, hb, hml, hown, hts⟩ (kX6_in l m9 (nI 1) (nI 10) ) (va_cwS 3 hts gX6_firstOpen_X6_in rfl rfl rfl (by decide +kernel) ⟨(Nat.le_of_ble_eq_true rfl), (Nat.le_of_ble_eq_true rfl)⟩) rfl hl.1 rfl (Nat.le_of_ble_eq_true rfl) dX6_firstOpen_18 ⟨Nat.zero_le _, Nat.zero_le _⟩ ?_
    refine lv_if_eq (tgt := 28) hx hb dX6_firstOpen_21 (by decide) (fun c_2 => ?_) (fun c_2 => ?_)
    · skip
      have c_2 := zb_f c_2
      refine lv_iconst (v := nI 2) hx hb dX6_firstOpen_28 (by decide) ?_
      refine zc_wVi (As := [.int (nI 2)]) (rest := []) (wr := []) ⟨hx, hb, hml, hown, hts⟩ (kX6_goesWell l D cI cZ ad K _ (nI 2) ) (cwV 1 hts gX6_firstOpen_X6_goesWell rfl rfl rfl (by decide +kernel) ⟨(Nat.le_of_ble_eq_true rfl), (Nat.le_of_ble_eq_true rfl)⟩) hK hP hD hS hA [0, 1, 2, 3, 4, 5, 6, 7, 8, 9, 10, 11, 12, 13, 14, 15, 16] [] rfl rfl rfl rfl rfl (by decide) (ci := 6) (q0 := 0) rfl rfl rfl rfl hl.1 rfl (Nat.le_of_ble_eq_true rfl) dX6_firstOpen_29 ⟨Nat.zero_le _, Nat.zero_le _⟩ (fun H locs hP hD hS => ?_)
      have hP : va_P D vwCl (mwA ad cI cZ (mGoes K (nI 2))) _ := hP
      have hD : va_D A (mwA ad cI cZ (mGoes K (nI 2))) := hD
      refine zz_top (y := nI 0) (by decide) ?_
      refine lv_if_ne (tgt := 37) hx hb dX6_firstOpen_32 (by decide) (fun c_3 => ?_) (fun c_3 => ?_)
      · skip
        exact absurd (show nI 0 = 0 from rfl) c_3
      · skip
        refine lv_iconst (v := nI 0) hx hb dX6_firstOpen_35 (by decide) ?_
        have hT9 : mFirT r1 m9 = nI 2 := by simp [mFirT, c_1, hp7, c_2, eq_true c_3]
        have eK9 : (mPost (mFirT r1 m9) K (mGoes K (nI 0))) = (mGoes K (nI 2)) := by rw [hT9, mPost_2] <;> rfl
        have hP9 := hP
        have hD9 := hD
        rw [← eK9] at hP9 hD9
        have eR9 : nI 0 = mRes (mFirT r1 m9) (mFirR K r1.toNatClampNeg m9) := by rw [hT9, mRes_2] <;> rfl
        exact W.iret (v := nI 0) hx hb hr (fun t ht hW => ⟨⟨nI 0, (), rfl, eR9, by rw [ht]; exact hP9, va_K.moved hW.alike hK, hD9⟩, hS.F ht⟩) hS.2.2 dX6_firstOpen_36
    · skip
      have c_2 := zb_t c_2
      refine lv_iconst (v := nI 0) hx hb dX6_firstOpen_24 (by decide) ?_
      refine lv_goto (tgt := 29) hx hb dX6_firstOpen_25 (by decide) ?_
      refine zc_wVi (As := [.int (nI 0)]) (rest := []) (wr := []) ⟨hx, hb, hml, hown, hts⟩ (kX6_goesWell l D cI cZ ad K _ (nI 0) ) (cwV 1 hts gX6_firstOpen_X6_goesWell rfl rfl rfl (by decide +kernel) ⟨(Nat.le_of_ble_eq_true rfl), (Nat.le_of_ble_eq_true rfl)⟩) hK hP hD hS hA [0, 1, 2, 3, 4, 5, 6, 7, 8, 9, 10, 11, 12, 13, 14, 15, 16] [] rfl rfl rfl rfl rfl (by decide) (ci := 6) (q0 := 0) rfl rfl rfl rfl hl.1 rfl (Nat.le_of_ble_eq_true rfl) dX6_firstOpen_29 ⟨Nat.zero_le _, Nat.zero_le _⟩ (fun H locs hP hD hS => ?_)
      have hP : va_P D vwCl (mwA ad cI cZ (mGoes K (nI 0))) _ := hP
      have hD : va_D A (mwA ad cI cZ (mGoes K (nI 0))) := hD
      refine zz_top (y := nI 1) (by decide) ?_
      refine lv_if_ne (tgt := 37) hx hb dX6_firstOpen_32 (by decide) (fun c_4 => ?_) (fun c_4 => ?_)
      · skip
        refine lv_iconst (v := nI 0) hx hb dX6_firstOpen_37 (by decide) ?_
        refine lv_istore (lv' := [(4, .int (nI 0)), (3, .int (zb (mIsR r1))), (0, .ref (ad 0)), (1, .int r1), (2, .int m9)]) hx hb dX6_firstOpen_38 hl (by decide) rfl (fun ls hl => ?_)
        refine lv_iconst (v := nI 0) hx hb dX6_firstOpen_40 (by decide) ?_
        refine lv_istore (lv' := [(5, .int (nI 0)), (4, .int (nI 0)), (3, .int (zb (mIsR r1))), (0, .ref (ad 0)), (1, .int r1), (2, .int m9)]) hx hb dX6_firstOpen_41 hl (by decide) rfl (fun ls hl => ?_)
        have lp_a : ∀ (n i : Nat), 0 ≤ i → i ≤ 10 → 10 - i < n → (∀ j, j < i → decide (mFirL K p9 (j + 1) = m9) = false) → ∀ (H : Heap) (locs : List Loc), va_P D vwCl (mwA ad cI cZ (mGoes K (nI 0))) H → va_D A (mwA ad cI cZ (mGoes K (nI 0))) → va_S A s.heap H locs → ∀ ls : Array Slot, lv_has ls 6 [(5, .int (nI i)), (4, .int (mFirL K p9 i)), (3, .int (zb (mIsR r1))), (0, .ref (ad 0)), (1, .int r1), (2, .int m9)] → W pP l e ({ frames := 3, cells := 0, slots := 0, locals := 66 } : Room) s m ([.ref (ad 0), .int r1, .int m9] : List Value).toArray below meth c H locs 0 0 (MQ below (va_Qi (fun r (_ : Unit) => r = mRes (mFirT r1 m9) (mFirR K r1.toNatClampNeg m9)) (fun _ => zPo D (zTy cI cZ) A (mwA ad cI cZ (mPost (mFirT r1 m9) K (mGoes K (nI 0))))) A) ([.ref (ad 0), .int r1, .int m9] : List Value).toArray s 0 0 A) (F0 m 43 ls []) := by
          intro n
          induction n with
          | zero => intro i _ _ h; exact absurd h (Nat.not_lt_zero _)
          | succ n ih_a =>
            intro i hlo_a hin_a hdn_a hno H locs hP hD hS ls hl
            refine lv_iload hx hb dX6_firstOpen_43 (lv_at hl 0 rfl) ?_
            refine lv_bipush (v := nI 10) hx hb dX6_firstOpen_45 (by decide) ?_
            refine lv_icmp_ge (tgt := 93) hx hb dX6_firstOpen_47 (by decide) (fun c_5 => ?_) (fun c_5 => ?_)
            · skip
              have c_5 := (nI_leI (a := 10) (b := i) (by omega) (by omega)).mp c_5
              have hi8 : i = 10 := by omega
              refine lv_iconst (v := (-1)) hx hb dX6_firstOpen_93 (by decide) ?_
              have hT9 : mFirT r1 m9 = nI 0 := by simp [mFirT, c_1, hp7, c_2, c_4, hno, hin_a, c_5, hi8]
              have eK9 : (mPost (mFirT r1 m9) K (mGoes K (nI 0))) = (mGoes K (nI 0)) := by rw [hT9, mPost_0] <;> rfl
              have hP9 := hP
              have hD9 := hD
              rw [← eK9] at hP9 hD9
              have eR9 : (-1) = mRes (mFirT r1 m9) (mFirR K r1.toNatClampNeg m9) := by rw [hT9, mRes_0, hp7] <;> (unfold mFirR; rw [hi8] at hno; rw [show mFirI K p9 m9 = -1 from zfind_no hno, if_pos rfl])
              exact W.iret (v := (-1)) hx hb hr (fun t ht hW => ⟨⟨(-1), (), rfl, eR9, by rw [ht]; exact hP9, va_K.moved hW.alike hK, hD9⟩, hS.F ht⟩) hS.2.2 dX6_firstOpen_94
            · skip
              have c_5 : ¬ 10 ≤ i := fun h => c_5 ((nI_leI (a := 10) (b := i) (by omega) (by omega)).mpr h)
              refine lv_aload_n hx hb dX6_firstOpen_50 rfl (lv_at hl 3 rfl) ?_
              refine lv_bipush (v := nI 10) hx hb dX6_firstOpen_51 (by decide) ?_
              refine lv_iload_n hx hb dX6_firstOpen_53 rfl (lv_at hl 4 rfl) ?_
              refine zz_top (y := nI p9) hp8 ?_
              refine lv_imul hx hb dX6_firstOpen_54 ?_
              refine zz_top (y := nI (10 * p9)) ((pk_mul 10 p9).trans (congrArg nI (by first | rfl | omega | exact Nat.mul_comm _ _))) ?_
              refine lv_iload hx hb dX6_firstOpen_55 (lv_at hl 0 rfl) ?_
              refine lv_iadd hx hb dX6_firstOpen_57 ?_
              refine zz_top (y := nI (10 * p9 + i)) ((nI_add (10 * p9) i).trans (congrArg nI (by omega))) ?_
              refine zc_rV (As := [.int (nI (10 * p9 + i))]) (rest := []) ⟨hx, hb, hml, hown, hts⟩ (kX6_isOpen l D cI cZ ad (mGoes K (nI 0)) (10 * p9 + i) (by omega)) (cwV 1 hts gX6_firstOpen_X6_isOpen rfl rfl rfl (by decide +kernel) ⟨(Nat.le_of_ble_eq_true rfl), (Nat.le_of_ble_eq_true rfl)⟩) hK hP (ci := 6) (q0 := 0) rfl rfl rfl rfl hl.1 rfl (Nat.le_of_ble_eq_true rfl) dX6_firstOpen_58 ⟨Nat.zero_le _, Nat.zero_le _⟩ ?_
              refine lv_if_eq (tgt := 71) hx hb dX6_firstOpen_61 (by decide) (fun c_6 => ?_) (fun c_6 => ?_)
              · skip
                have c_6 := zb_f c_6
                have c_6 : mOpen K (10 * p9 + i) = false := c_6
                refine lv_iconst (v := nI 0) hx hb dX6_firstOpen_71 (by decide) ?_
                refine lv_istore (lv' := [(4, .int (nI 0)), (5, .int (nI i)), (3, .int (zb (mIsR r1))), (0, .ref (ad 0)), (1, .int r1), (2, .int m9)]) hx hb dX6_firstOpen_72 hl (by decide) rfl (fun ls hl => ?_)
                refine lv_iload hx hb dX6_firstOpen_74 (lv_at hl 0 rfl) ?_
                refine lv_iload_n hx hb dX6_firstOpen_76 rfl (lv_at hl 5 rfl) ?_
                refine lv_icmp_ne (tgt := 87) hx hb dX6_firstOpen_77 (by decide) (fun c_7 => ?_) (fun c_7 => ?_)
                · skip
                  have c_7 : ¬ nI 0 = m9 := c_7
                  refine lv_iinc (v := nI (i + 1)) (lv' := [(5, .int (nI (i + 1))), (4, .int (nI 0)), (3, .int (zb (mIsR r1))), (0, .ref (ad 0)), (1, .int r1), (2, .int m9)]) hx hb dX6_firstOpen_87 hl (k := 1) rfl ((show nI i + Int32.ofInt 1 = nI i + nI 1 from rfl).trans (nI_add _ _)) (by decide) rfl (fun ls hl => ?_)
                  refine lv_goto (tgt := 43) hx hb dX6_firstOpen_90 (by decide) ?_
                  have es_8 : mFirL K p9 (i + 1) = nI 0 := (by simp [mFirL, c_6])
                  exact ih_a (i + 1) (by omega) (by omega) (by omega) (lt_succ_all hno (by simp [mFirL, c_6, c_7])) _ _ hP hD hS ls (by rw [es_8]; exact lv_sub hl [0, 1, 2, 3, 4, 5] rfl)
                · skip
                  have c_7 : nI 0 = m9 := c_7
                  refine lv_iload hx hb dX6_firstOpen_80 (lv_at hl 1 rfl) ?_
                  refine lv_iload_n hx hb dX6_firstOpen_82 rfl (lv_at hl 5 rfl) ?_
                  refine lv_isub hx hb dX6_firstOpen_83 ?_
                  refine lv_iconst (v := nI 1) hx hb dX6_firstOpen_84 (by decide) ?_
                  refine lv_iadd hx hb dX6_firstOpen_85 ?_
                  have hT9 : mFirT r1 m9 = nI 0 := by simp [mFirT, c_1, hp7, c_2, c_4, hno, hin_a, c_5, c_6, eq_true c_7]
                  have eK9 : (mPost (mFirT r1 m9) K (mGoes K (nI 0))) = (mGoes K (nI 0)) := by rw [hT9, mPost_0] <;> rfl
                  have hP9 := hP
                  have hD9 := hD
                  rw [← eK9] at hP9 hD9
                  have eR9 : ((nI i) - m9) + (nI 1) = mRes (mFirT r1 m9) (mFirR K r1.toNatClampNeg m9) := by rw [hT9, mRes_0, hp7] <;> (unfold mFirR; rw [show mFirI K p9 m9 = nI i from zfind_at (by omega) hno (by simp [mFirL, c_6, eq_true c_7]), if_neg (nI_nm1 (by omega))])
                  exact W.iret (v := ((nI i) - m9) + (nI 1)) hx hb hr (fun t ht hW => ⟨⟨((nI i) - m9) + (nI 1), (), rfl, eR9, by rw [ht]; exact hP9, va_K.moved hW.alike hK, hD9⟩, hS.F ht⟩) hS.2.2 dX6_firstOpen_86
              · skip
                have c_6 := zb_t c_6
                have c_6 : mOpen K (10 * p9 + i) = true := c_6
                refine lv_iload hx hb dX6_firstOpen_64 (lv_at hl 1 rfl) ?_
                refine lv_iconst (v := nI 1) hx hb dX6_firstOpen_66 (by decide) ?_
                refine lv_iadd hx hb dX6_firstOpen_67 ?_
                refine lv_goto (tgt := 72) hx hb dX6_firstOpen_68 (by decide) ?_
                refine lv_istore (lv' := [(4, .int ((mFirL K p9 i) + (nI 1))), (5, .int (nI i)), (3, .int (zb (mIsR r1))), (0, .ref (ad 0)), (1, .int r1), (2, .int m9)]) hx hb dX6_firstOpen_72 hl (by decide) rfl (fun ls hl => ?_)
                refine lv_iload hx hb dX6_firstOpen_74 (lv_at hl 0 rfl) ?_
                refine lv_iload_n hx hb dX6_firstOpen_76 rfl (lv_at hl 5 rfl) ?_
                refine lv_icmp_ne (tgt := 87) hx hb dX6_firstOpen_77 (by decide) (fun c_9 => ?_) (fun c_9 => ?_)
                · skip
                  have c_9 : ¬ (mFirL K p9 i) + (nI 1) = m9 := c_9
                  refine lv_iinc (v := nI (i + 1)) (lv' := [(5, .int (nI (i + 1))), (4, .int ((mFirL K p9 i) + (nI 1))), (3, .int (zb (mIsR r1))), (0, .ref (ad 0)), (1, .int r1), (2, .int m9)]) hx hb dX6_firstOpen_87 hl (k := 1) rfl ((show nI i + Int32.ofInt 1 = nI i + nI 1 from rfl).trans (nI_add _ _)) (by decide) rfl (fun ls hl => ?_)
                  refine lv_goto (tgt := 43) hx hb dX6_firstOpen_90 (by decide) ?_
                  have es_10 : mFirL K p9 (i + 1) = (mFirL K p9 i) + (nI 1) := (by simp [mFirL, c_6])
                  exact ih_a (i + 1) (by omega) (by omega) (by omega) (lt_succ_all hno (by simp [mFirL, c_6, c_9])) _ _ hP hD hS ls (by rw [es_10]; exact lv_sub hl [0, 1, 2, 3, 4, 5] rfl)
                · skip
                  have c_9 : (mFirL K p9 i) + (nI 1) = m9 := c_9
                  refine lv_iload hx hb dX6_firstOpen_80 (lv_at hl 1 rfl) ?_
                  refine lv_iload_n hx hb dX6_firstOpen_82 rfl (lv_at hl 5 rfl) ?_
                  refine lv_isub hx hb dX6_firstOpen_83 ?_
                  refine lv_iconst (v := nI 1) hx hb dX6_firstOpen_84 (by decide) ?_
                  refine lv_iadd hx hb dX6_firstOpen_85 ?_
                  have hT9 : mFirT r1 m9 = nI 0 := by simp [mFirT, c_1, hp7, c_2, c_4, hno, hin_a, c_5, c_6, eq_true c_9]
                  have eK9 : (mPost (mFirT r1 m9) K (mGoes K (nI 0))) = (mGoes K (nI 0)) := by rw [hT9, mPost_0] <;> rfl
                  have hP9 := hP
                  have hD9 := hD
                  rw [← eK9] at hP9 hD9
                  have eR9 : ((nI i) - m9) + (nI 1) = mRes (mFirT r1 m9) (mFirR K r1.toNatClampNeg m9) := by rw [hT9, mRes_0, hp7] <;> (unfold mFirR; rw [show mFirI K p9 m9 = nI i from zfind_at (by omega) hno (by simp [mFirL, c_6, eq_true c_9]), if_neg (nI_nm1 (by omega))])
                  exact W.iret (v := ((nI i) - m9) + (nI 1)) hx hb hr (fun t ht hW => ⟨⟨((nI i) - m9) + (nI 1), (), rfl, eR9, by rw [ht]; exact hP9, va_K.moved hW.alike hK, hD9⟩, hS.F ht⟩) hS.2.2 dX6_firstOpen_86
        have ei_a_4 : mFirL K p9 0 = nI 0 := rfl
        exact lp_a (10 - 0 + 1) 0 (by omega) (by omega) (by omega) (fun j hj => absurd hj (Nat.not_lt_zero j)) _ _ hP hD hS ls (by rw [ei_a_4]; exact lv_sub hl [0, 1, 2, 3, 4, 5] rfl)
      · skip
        exact absurd c_4 (by decide)
  · skip
    have c_1 := zb_f c_1
    refine lv_iconst (v := nI 1) hx hb dX6_firstOpen_10 (by decide) ?_
    refine lv_goto (tgt := 29) hx hb dX6_firstOpen_11 (by decide) ?_
    refine zc_wVi (As := [.int (nI 1)]) (rest := []) (wr := []) ⟨hx, hb, hml, hown, hts⟩ (kX6_goesWell l D cI cZ ad K _ (nI 1) ) (cwV 1 hts gX6_firstOpen_X6_goesWell rfl rfl rfl (by decide +kernel) ⟨(Nat.le_of_ble_eq_true rfl), (Nat.le_of_ble_eq_true rfl)⟩) hK hP hD hS hA [0, 1, 2, 3, 4, 5, 6, 7, 8, 9, 10, 11, 12, 13, 14, 15, 16] [] rfl rfl rfl rfl rfl (by decide) (ci := 6) (q0 := 0) rfl rfl rfl rfl hl.1 rfl (Nat.le_of_ble_eq_true rfl) dX6_firstOpen_29 ⟨Nat.zero_le _, Nat.zero_le _⟩ (fun H locs hP hD hS => ?_)
    have hP : va_P D vwCl (mwA ad cI cZ (mGoes K (nI 1))) _ := hP
    have hD : va_D A (mwA ad cI cZ (mGoes K (nI 1))) := hD
    refine zz_top (y := nI 0) (by decide) ?_
    refine lv_if_ne (tgt := 37) hx hb dX6_firstOpen_32 (by decide) (fun c_11 => ?_) (fun c_11 => ?_)
    · skip
      exact absurd (show nI 0 = 0 from rfl) c_11
    · skip
      refine lv_iconst (v := nI 0) hx hb dX6_firstOpen_35 (by decide) ?_
      have hT9 : mFirT r1 m9 = nI 1 := by simp [mFirT, c_1, eq_true c_11]
      have eK9 : (mPost (mFirT r1 m9) K (mGoes K (nI 0))) = (mGoes K (nI 1)) := by rw [hT9, mPost_1] <;> rfl
      have hP9 := hP
      have hD9 := hD
      rw [← eK9] at hP9 hD9
      have eR9 : nI 0 = mRes (mFirT r1 m9) (mFirR K r1.toNatClampNeg m9) := by rw [hT9, mRes_1] <;> rfl
      exact W.iret (v := nI 0) hx hb hr (fun t ht hW => ⟨⟨nI 0, (), rfl, eR9, by rw [ht]; exact hP9, va_K.moved hW.alike hK, hD9⟩, hS.F ht⟩) hS.2.2 dX6_firstOpen_36
set_option maxHeartbeats 4000000 in
set_option maxRecDepth 100000 in
theorem kX6_sell (l : Launch) (D : va_G) (cI cZ : ClassId) (ad : Nat → Nat) (K : kS) (sz : Nat) (p : Nat) (f9 : Nat) (m9 : Nat) (hp : p < 8) (hf : K 5 p = nI f9) (hm : K 6 p = nI m9) (hfm : f9 + m9 ≤ 60) (how : mOwn K) (hbc : K 7 p = (-1) ∨ ∃ c, c < 10 ∧ K 7 p = nI c) : Met l yX6_sell wsX6_sell ({ frames := 1, cells := 0, slots := 0, locals := 21 }) (va_Pc [.ref (ad 0), .int (nI p)] (zPr D (zTy cI cZ) (mwA ad cI cZ K) sz)) (va_Qv (fun _ : Unit => True) (fun _ => zPo D (zTy cI cZ) (va_A (mwA ad cI cZ K) sz) (mwA ad cI cZ (mSold K p f9 m9))) (va_A (mwA ad cI cZ K) sz)) 0 0 (va_A (mwA ad cI cZ K) sz) := by
  refine Met.ofW (cc := cX6_sell) (maxL := 5) (ret := none) (by decide) rfl ?_
  intro pP e s m args below meth c s₁ B hml hv
  obtain ⟨rfl, hsz, hP, hK, hD0⟩ := hv
  have hx := B.exec
  have hb := B.bytes
  have hr := B.returns
  have hts := atoms_spec (ws := wsX6_sell) B.pre
  have hown : s.vm.findClass RX6 = some m.cls := findClass_of_methodNamed B.named
  have hlocks := B.notSynchronized
  subst hsz
  have hD := hD0.self (sz := s.heap.size)
  generalize hAe : va_A (mwA ad cI cZ K) s.heap.size = A at hD ⊢
  have hA : ∀ q : Nat, s.heap.size ≤ q → A q := fun q h => by rw [← hAe]; exact Or.inr h
  have hS : va_S A s.heap s.heap [] := va_S.rf
  have hinX6 : ∀ w ∈ u_ws RX6 TX6 21, w ∈ wsX6_sell := by decide +kernel
  have hl := lv_entry ([.ref (ad 0), .int (nI p)]) (n := 5) (Nat.le_of_ble_eq_true rfl)
  rw [lg_entry_eq]
  generalize (lg_sl ([.ref (ad 0), .int (nI p)]) ++ List.replicate (5 - (lg_sl ([.ref (ad 0), .int (nI p)])).length) Slot.unset).toArray = ls at hl ⊢
  have hl : lv_has ls 5 [(0, .ref (ad 0)), (1, .int (nI p))] := hl
  refine lv_aload_n hx hb dX6_sell_0 rfl (lv_at hl 0 rfl) ?_
  refine va_get (D := D) (ci := 6) (v := .ref (ad 5)) (C := RX6) (T := TX6) (N := 21) hx hb hts hinX6 hown hK hP 0 rfl rfl 8 (by decide) (hts (.fieldLink RX6 26 "AuditoriumKeysModel" "firsts" "[I") (List.mem_of_getElem? (i := 1) rfl)) (fun _ h9 => h9) rfl dX6_sell_1 ?_
  refine lv_iload_n hx hb dX6_sell_4 rfl (lv_at hl 1 rfl) ?_
  refine zz_iald hx hb hK hP 5 0 rfl rfl p (by omega) (by decide) dX6_sell_5 ?_
  refine zz_top (y := nI f9) hf ?_
  refine lv_istore_n (lv' := [(2, .int (nI f9)), (0, .ref (ad 0)), (1, .int (nI p))]) hx hb dX6_sell_6 rfl hl (by decide) rfl (fun ls hl => ?_)
  refine lv_aload_n hx hb dX6_sell_7 rfl (lv_at hl 1 rfl) ?_
  refine va_get (D := D) (ci := 6) (v := .ref (ad 5)) (C := RX6) (T := TX6) (N := 21) hx hb hts hinX6 hown hK hP 0 rfl rfl 8 (by decide) (hts (.fieldLink RX6 26 "AuditoriumKeysModel" "firsts" "[I") (List.mem_of_getElem? (i := 1) rfl)) (fun _ h9 => h9) rfl dX6_sell_8 ?_
  refine lv_iload_n hx hb dX6_sell_11 rfl (lv_at hl 2 rfl) ?_
  refine lv_iconst (v := (-1)) hx hb dX6_sell_12 (by decide) ?_
  refine zz_iast hx hb hK hP hD hS 5 0 rfl rfl p (by omega) (by decide) dX6_sell_13 (fun H locs hP hD hS => ?_)
  have hP : va_P D vwCl (mwA ad cI cZ (setA K 5 (upd (K 5) p (-1)))) _ := hP
  have hD : va_D A (mwA ad cI cZ (setA K 5 (upd (K 5) p (-1)))) := hD
  refine lv_iload_n hx hb dX6_sell_14 rfl (lv_at hl 0 rfl) ?_
  refine lv_istore_n (lv' := [(3, .int (nI f9)), (2, .int (nI f9)), (0, .ref (ad 0)), (1, .int (nI p))]) hx hb dX6_sell_15 rfl hl (by decide) rfl (fun ls hl => ?_)
  have lp_a : ∀ (n k : Nat), 0 ≤ k → k ≤ m9 → m9 - k < n → (mOwn (mSellS (setA K 5 (upd (K 5) p (-1))) p f9 k)) → ∀ (H : Heap) (locs : List Loc), va_P D vwCl (mwA ad cI cZ (mSellS (setA K 5 (upd (K 5) p (-1))) p f9 k)) H → va_D A (mwA ad cI cZ (mSellS (setA K 5 (upd (K 5) p (-1))) p f9 k)) → va_S A s.heap H locs → ∀ ls : Array Slot, lv_has ls 5 [(3, .int (nI (f9 + k))), (2, .int (nI f9)), (0, .ref (ad 0)), (1, .int (nI p))] → W pP l e ({ frames := 1, cells := 0, slots := 0, locals := 21 } : Room) s m ([.ref (ad 0), .int (nI p)] : List Value).toArray below meth c H locs 0 0 (MQ below (va_Qv (fun _ : Unit => True) (fun _ => zPo D (zTy cI cZ) A (mwA ad cI cZ (mSold K p f9 m9))) A) ([.ref (ad 0), .int (nI p)] : List Value).toArray s 0 0 A) (F0 m 16 ls []) := by
    intro n
    induction n with
    | zero => intro k _ _ h; exact absurd h (Nat.not_lt_zero _)
    | succ n ih_a =>
      intro k hlo_a hin_a hdn_a hown2 H locs hP hD hS ls hl
      refine lv_iload_n hx hb dX6_sell_16 rfl (lv_at hl 0 rfl) ?_
      refine lv_iload_n hx hb dX6_sell_17 rfl (lv_at hl 1 rfl) ?_
      refine lv_aload_n hx hb dX6_sell_18 rfl (lv_at hl 2 rfl) ?_
      refine va_get (D := D) (ci := 6) (v := .ref (ad 6)) (C := RX6) (T := TX6) (N := 21) hx hb hts hinX6 hown hK hP 0 rfl rfl 9 (by decide) (hts (.fieldLink RX6 29 "AuditoriumKeysModel" "manies" "[I") (List.mem_of_getElem? (i := 2) rfl)) (fun _ h9 => h9) rfl dX6_sell_19 ?_
      refine lv_iload_n hx hb dX6_sell_22 rfl (lv_at hl 3 rfl) ?_
      refine zz_iald hx hb hK hP 6 0 rfl rfl p (by omega) (by decide) dX6_sell_23 ?_
      refine zz_top (y := nI m9) (by rw [mSellS_6]; exact hm) ?_
      refine lv_iadd hx hb dX6_sell_24 ?_
      refine zz_top (y := nI (f9 + m9)) ((nI_add f9 m9).trans (congrArg nI (by omega))) ?_
      refine lv_icmp_ge (tgt := 103) hx hb dX6_sell_25 (by decide) (fun c_1 => ?_) (fun c_1 => ?_)
      · skip
        have c_1 := (nI_leI (a := (f9 + m9)) (b := (f9 + k)) (by omega) (by omega)).mp c_1
        have hk8 : m9 = k := by omega
        subst hk8
        refine lv_aload_n hx hb dX6_sell_103 rfl (lv_at hl 2 rfl) ?_
        refine va_get (D := D) (ci := 6) (v := .ref (ad 7)) (C := RX6) (T := TX6) (N := 21) hx hb hts hinX6 hown hK hP 0 rfl rfl 10 (by decide) (hts (.fieldLink RX6 32 "AuditoriumKeysModel" "byCode" "[I") (List.mem_of_getElem? (i := 8) rfl)) (fun _ h9 => h9) rfl dX6_sell_104 ?_
        refine lv_iload_n hx hb dX6_sell_107 rfl (lv_at hl 3 rfl) ?_
        refine zz_iald hx hb hK hP 7 0 rfl rfl p (by omega) (by decide) dX6_sell_108 ?_
        refine lv_iconst (v := (-1)) hx hb dX6_sell_109 (by decide) ?_
        refine lv_icmp_eq (tgt := 138) hx hb dX6_sell_110 (by decide) (fun c_2 => ?_) (fun c_2 => ?_)
        · skip
          have c_2 : (mSellS (setA K 5 (upd (K 5) p (-1))) p f9 m9) 7 p = (-1) := c_2
          have c_2 : K 7 p = (-1) := by rw [mSellS_7] at c_2; exact c_2
          have eK9 : (mSold K p f9 m9) = (mSellS (setA K 5 (upd (K 5) p (-1))) p f9 m9) := (mSold_a c_2)
          have hP9 := hP
          have hD9 := hD
          rw [← eK9] at hP9 hD9
          exact W.vret hx hb hr (fun t ht hW => ⟨⟨(), rfl, trivial, by rw [ht]; exact hP9, va_K.moved hW.alike hK, hD9⟩, hS.F ht⟩) hS.2.2 dX6_sell_138
        · skip
          have c_2 : ¬ (mSellS (setA K 5 (upd (K 5) p (-1))) p f9 m9) 7 p = (-1) := c_2
          have c_2 : ¬ K 7 p = (-1) := by rw [mSellS_7] at c_2; exact c_2
          obtain ⟨c9, hc9, hc8⟩ := hbc.resolve_left c_2
          refine lv_aload_n hx hb dX6_sell_113 rfl (lv_at hl 2 rfl) ?_
          refine va_get (D := D) (ci := 6) (v := .ref (ad 3)) (C := RX6) (T := TX6) (N := 21) hx hb hts hinX6 hown hK hP 0 rfl rfl 6 (by decide) (hts (.fieldLink RX6 20 "AuditoriumKeysModel" "used" "[I") (List.mem_of_getElem? (i := 9) rfl)) (fun _ h9 => h9) rfl dX6_sell_114 ?_
          refine lv_bipush (v := nI 8) hx hb dX6_sell_117 (by decide) ?_
          refine lv_aload_n hx hb dX6_sell_119 rfl (lv_at hl 2 rfl) ?_
          refine va_get (D := D) (ci := 6) (v := .ref (ad 7)) (C := RX6) (T := TX6) (N := 21) hx hb hts hinX6 hown hK hP 0 rfl rfl 10 (by decide) (hts (.fieldLink RX6 32 "AuditoriumKeysModel" "byCode" "[I") (List.mem_of_getElem? (i := 8) rfl)) (fun _ h9 => h9) rfl dX6_sell_120 ?_
          refine lv_iload_n hx hb dX6_sell_123 rfl (lv_at hl 3 rfl) ?_
          refine zz_iald hx hb hK hP 7 0 rfl rfl p (by omega) (by decide) dX6_sell_124 ?_
          refine zz_top (y := nI c9) (by rw [mSellS_7]; exact hc8) ?_
          refine lv_imul hx hb dX6_sell_125 ?_
          refine zz_top (y := nI (8 * c9)) ((pk_mul 8 c9).trans (congrArg nI (by first | rfl | omega | exact Nat.mul_comm _ _))) ?_
          refine lv_iload_n hx hb dX6_sell_126 rfl (lv_at hl 3 rfl) ?_
          refine lv_iadd hx hb dX6_sell_127 ?_
          refine zz_top (y := nI (8 * c9 + p)) ((nI_add (8 * c9) p).trans (congrArg nI (by omega))) ?_
          refine lv_dup2_11 hx hb dX6_sell_128 rfl rfl ?_
          refine zz_iald hx hb hK hP 3 0 rfl rfl (8 * c9 + p) (by omega) (by decide) dX6_sell_129 ?_
          refine lv_aload_n hx hb dX6_sell_130 rfl (lv_at hl 2 rfl) ?_
          refine va_get (D := D) (ci := 6) (v := .ref (ad 6)) (C := RX6) (T := TX6) (N := 21) hx hb hts hinX6 hown hK hP 0 rfl rfl 9 (by decide) (hts (.fieldLink RX6 29 "AuditoriumKeysModel" "manies" "[I") (List.mem_of_getElem? (i := 2) rfl)) (fun _ h9 => h9) rfl dX6_sell_131 ?_
          refine lv_iload_n hx hb dX6_sell_134 rfl (lv_at hl 3 rfl) ?_
          refine zz_iald hx hb hK hP 6 0 rfl rfl p (by omega) (by decide) dX6_sell_135 ?_
          refine zz_top (y := nI m9) (by rw [mSellS_6]; exact hm) ?_
          refine lv_iadd hx hb dX6_sell_136 ?_
          refine zz_iast hx hb hK hP hD hS 3 0 rfl rfl (8 * c9 + p) (by omega) (by decide) dX6_sell_137 (fun H locs hP hD hS => ?_)
          have hP : va_P D vwCl (mwA ad cI cZ (setA (mSellS (setA K 5 (upd (K 5) p (-1))) p f9 m9) 3 (upd ((mSellS (setA K 5 (upd (K 5) p (-1))) p f9 m9) 3) (8 * c9 + p) (((mSellS (setA K 5 (upd (K 5) p (-1))) p f9 m9) 3 (8 * c9 + p)) + (nI m9))))) _ := hP
          have hD : va_D A (mwA ad cI cZ (setA (mSellS (setA K 5 (upd (K 5) p (-1))) p f9 m9) 3 (upd ((mSellS (setA K 5 (upd (K 5) p (-1))) p f9 m9) 3) (8 * c9 + p) (((mSellS (setA K 5 (upd (K 5) p (-1))) p f9 m9) 3 (8 * c9 + p)) + (nI m9))))) := hD
          have eK9 : (mSold K p f9 m9) = (setA (mSellS (setA K 5 (upd (K 5) p (-1))) p f9 m9) 3 (upd ((mSellS (setA K 5 (upd (K 5) p (-1))) p f9 m9) 3) (8 * c9 + p) (((mSellS (setA K 5 (upd (K 5) p (-1))) p f9 m9) 3 (8 * c9 + p)) + (nI m9)))) := (mSold_b c_2 hc8 hc9)
          have hP9 := hP
          have hD9 := hD
          rw [← eK9] at hP9 hD9
          exact W.vret hx hb hr (fun t ht hW => ⟨⟨(), rfl, trivial, by rw [ht]; exact hP9, va_K.moved hW.alike hK, hD9⟩, hS.F ht⟩) hS.2.2 dX6_sell_138
      · skip
        have c_1 : ¬ (f9 + m9) ≤ (f9 + k) := fun h => c_1 ((nI_leI (a := (f9 + m9)) (b := (f9 + k)) (by omega) (by omega)).mpr h)
        refine lv_aload_n hx hb dX6_sell_28 rfl (lv_at hl 2 rfl) ?_
        refine lv_iload_n hx hb dX6_sell_29 rfl (lv_at hl 0 rfl) ?_
        refine zc_rV (As := [.int (nI (f9 + k))]) (rest := []) ⟨hx, hb, hml, hown, hts⟩ (kX6_priceOf l D cI cZ ad (mSellS (setA K 5 (upd (K 5) p (-1))) p f9 k) (f9 + k) (by omega)) (cwV 1 hts gX6_sell_X6_priceOf rfl rfl rfl (by decide +kernel) ⟨(Nat.le_of_ble_eq_true rfl), (Nat.le_of_ble_eq_true rfl)⟩) hK hP (ci := 6) (q0 := 0) rfl rfl rfl rfl hl.1 rfl (Nat.le_of_ble_eq_true rfl) dX6_sell_30 ⟨Nat.zero_le _, Nat.zero_le _⟩ ?_
        refine lv_istore (lv' := [(4, .int (mPrice (mSellS (setA K 5 (upd (K 5) p (-1))) p f9 k) (f9 + k))), (3, .int (nI (f9 + k))), (2, .int (nI f9)), (0, .ref (ad 0)), (1, .int (nI p))]) hx hb dX6_sell_33 hl (by decide) rfl (fun ls hl => ?_)
        refine lv_aload_n hx hb dX6_sell_35 rfl (lv_at hl 3 rfl) ?_
        refine va_get (D := D) (ci := 6) (v := .ref (ad 13)) (C := RX6) (T := TX6) (N := 21) hx hb hts hinX6 hown hK hP 0 rfl rfl 16 (by decide) (hts (.fieldLink RX6 50 "AuditoriumKeysModel" "owners" "[I") (List.mem_of_getElem? (i := 3) rfl)) (fun _ h9 => h9) rfl dX6_sell_36 ?_
        refine lv_iload_n hx hb dX6_sell_39 rfl (lv_at hl 1 rfl) ?_
        refine zz_iald hx hb hK hP 13 0 rfl rfl (f9 + k) (by omega) (by decide) dX6_sell_40 ?_
        refine lv_iconst (v := (-1)) hx hb dX6_sell_41 (by decide) ?_
        refine lv_icmp_ne (tgt := 59) hx hb dX6_sell_42 (by decide) (fun c_3 => ?_) (fun c_3 => ?_)
        · skip
          have c_3 : ¬ (mSellS (setA K 5 (upd (K 5) p (-1))) p f9 k) 13 (f9 + k) = (-1) := c_3
          obtain ⟨o9, ho9, ho8⟩ := (hown2 (f9 + k) (by omega)).resolve_left c_3
          have ho7 : (mSellS (setA K 5 (upd (K 5) p (-1))) p f9 k 13 (f9 + k)).toNatClampNeg = o9 := by rw [ho8]; exact nI_clamp (by omega)
          refine lv_aload_n hx hb dX6_sell_59 rfl (lv_at hl 3 rfl) ?_
          refine va_get (D := D) (ci := 6) (v := .ref (ad 12)) (C := RX6) (T := TX6) (N := 21) hx hb hts hinX6 hown hK hP 0 rfl rfl 15 (by decide) (hts (.fieldLink RX6 47 "AuditoriumKeysModel" "spent" "[I") (List.mem_of_getElem? (i := 5) rfl)) (fun _ h9 => h9) rfl dX6_sell_60 ?_
          refine lv_aload_n hx hb dX6_sell_63 rfl (lv_at hl 3 rfl) ?_
          refine va_get (D := D) (ci := 6) (v := .ref (ad 13)) (C := RX6) (T := TX6) (N := 21) hx hb hts hinX6 hown hK hP 0 rfl rfl 16 (by decide) (hts (.fieldLink RX6 50 "AuditoriumKeysModel" "owners" "[I") (List.mem_of_getElem? (i := 3) rfl)) (fun _ h9 => h9) rfl dX6_sell_64 ?_
          refine lv_iload_n hx hb dX6_sell_67 rfl (lv_at hl 1 rfl) ?_
          refine zz_iald hx hb hK hP 13 0 rfl rfl (f9 + k) (by omega) (by decide) dX6_sell_68 ?_
          refine zz_top (y := nI o9) ho8 ?_
          refine lv_dup2_11 hx hb dX6_sell_69 rfl rfl ?_
          refine zz_iald hx hb hK hP 12 0 rfl rfl o9 (by omega) (by decide) dX6_sell_70 ?_
          refine lv_iload hx hb dX6_sell_71 (lv_at hl 0 rfl) ?_
          refine lv_isub hx hb dX6_sell_73 ?_
          refine zz_iast hx hb hK hP hD hS 12 0 rfl rfl o9 (by omega) (by decide) dX6_sell_74 (fun H locs hP hD hS => ?_)
          have hP : va_P D vwCl (mwA ad cI cZ (setA (mSellS (setA K 5 (upd (K 5) p (-1))) p f9 k) 12 (upd ((mSellS (setA K 5 (upd (K 5) p (-1))) p f9 k) 12) o9 (((mSellS (setA K 5 (upd (K 5) p (-1))) p f9 k) 12 o9) - (mPrice (mSellS (setA K 5 (upd (K 5) p (-1))) p f9 k) (f9 + k)))))) _ := hP
          have hD : va_D A (mwA ad cI cZ (setA (mSellS (setA K 5 (upd (K 5) p (-1))) p f9 k) 12 (upd ((mSellS (setA K 5 (upd (K 5) p (-1))) p f9 k) 12) o9 (((mSellS (setA K 5 (upd (K 5) p (-1))) p f9 k) 12 o9) - (mPrice (mSellS (setA K 5 (upd (K 5) p (-1))) p f9 k) (f9 + k)))))) := hD
          refine lv_aload_n hx hb dX6_sell_75 rfl (lv_at hl 3 rfl) ?_
          refine va_get (D := D) (ci := 6) (v := .ref (ad 13)) (C := RX6) (T := TX6) (N := 21) hx hb hts hinX6 hown hK hP 0 rfl rfl 16 (by decide) (hts (.fieldLink RX6 50 "AuditoriumKeysModel" "owners" "[I") (List.mem_of_getElem? (i := 3) rfl)) (fun _ h9 => h9) rfl dX6_sell_76 ?_
          refine lv_iload_n hx hb dX6_sell_79 rfl (lv_at hl 1 rfl) ?_
          refine lv_iload_n hx hb dX6_sell_80 rfl (lv_at hl 4 rfl) ?_
          refine zz_iast hx hb hK hP hD hS 13 0 rfl rfl (f9 + k) (by omega) (by decide) dX6_sell_81 (fun H locs hP hD hS => ?_)
          have hP : va_P D vwCl (mwA ad cI cZ (setA (setA (mSellS (setA K 5 (upd (K 5) p (-1))) p f9 k) 12 (upd ((mSellS (setA K 5 (upd (K 5) p (-1))) p f9 k) 12) o9 (((mSellS (setA K 5 (upd (K 5) p (-1))) p f9 k) 12 o9) - (mPrice (mSellS (setA K 5 (upd (K 5) p (-1))) p f9 k) (f9 + k))))) 13 (upd ((mSellS (setA K 5 (upd (K 5) p (-1))) p f9 k) 13) (f9 + k) (nI p)))) _ := hP
          have hD : va_D A (mwA ad cI cZ (setA (setA (mSellS (setA K 5 (upd (K 5) p (-1))) p f9 k) 12 (upd ((mSellS (setA K 5 (upd (K 5) p (-1))) p f9 k) 12) o9 (((mSellS (setA K 5 (upd (K 5) p (-1))) p f9 k) 12 o9) - (mPrice (mSellS (setA K 5 (upd (K 5) p (-1))) p f9 k) (f9 + k))))) 13 (upd ((mSellS (setA K 5 (upd (K 5) p (-1))) p f9 k) 13) (f9 + k) (nI p)))) := hD
          refine lv_aload_n hx hb dX6_sell_82 rfl (lv_at hl 3 rfl) ?_
          refine va_get (D := D) (ci := 6) (v := .ref (ad 14)) (C := RX6) (T := TX6) (N := 21) hx hb hts hinX6 hown hK hP 0 rfl rfl 17 (by decide) (hts (.fieldLink RX6 53 "AuditoriumKeysModel" "worth" "[I") (List.mem_of_getElem? (i := 6) rfl)) (fun _ h9 => h9) rfl dX6_sell_83 ?_
          refine lv_iload_n hx hb dX6_sell_86 rfl (lv_at hl 1 rfl) ?_
          refine lv_iload hx hb dX6_sell_87 (lv_at hl 0 rfl) ?_
          refine zz_iast hx hb hK hP hD hS 14 0 rfl rfl (f9 + k) (by omega) (by decide) dX6_sell_89 (fun H locs hP hD hS => ?_)
          have hP : va_P D vwCl (mwA ad cI cZ (setA (setA (setA (mSellS (setA K 5 (upd (K 5) p (-1))) p f9 k) 12 (upd ((mSellS (setA K 5 (upd (K 5) p (-1))) p f9 k) 12) o9 (((mSellS (setA K 5 (upd (K 5) p (-1))) p f9 k) 12 o9) - (mPrice (mSellS (setA K 5 (upd (K 5) p (-1))) p f9 k) (f9 + k))))) 13 (upd ((mSellS (setA K 5 (upd (K 5) p (-1))) p f9 k) 13) (f9 + k) (nI p))) 14 (upd ((mSellS (setA K 5 (upd (K 5) p (-1))) p f9 k) 14) (f9 + k) (mPrice (mSellS (setA K 5 (upd (K 5) p (-1))) p f9 k) (f9 + k))))) _ := hP
          have hD : va_D A (mwA ad cI cZ (setA (setA (setA (mSellS (setA K 5 (upd (K 5) p (-1))) p f9 k) 12 (upd ((mSellS (setA K 5 (upd (K 5) p (-1))) p f9 k) 12) o9 (((mSellS (setA K 5 (upd (K 5) p (-1))) p f9 k) 12 o9) - (mPrice (mSellS (setA K 5 (upd (K 5) p (-1))) p f9 k) (f9 + k))))) 13 (upd ((mSellS (setA K 5 (upd (K 5) p (-1))) p f9 k) 13) (f9 + k) (nI p))) 14 (upd ((mSellS (setA K 5 (upd (K 5) p (-1))) p f9 k) 14) (f9 + k) (mPrice (mSellS (setA K 5 (upd (K 5) p (-1))) p f9 k) (f9 + k))))) := hD
          refine lv_aload_n hx hb dX6_sell_90 rfl (lv_at hl 3 rfl) ?_
          refine va_get (D := D) (ci := 6) (v := .ref (ad 15)) (C := RX6) (T := TX6) (N := 21) hx hb hts hinX6 hown hK hP 0 rfl rfl 18 (by decide) (hts (.fieldLink RX6 56 "AuditoriumKeysModel" "offered" "[I") (List.mem_of_getElem? (i := 7) rfl)) (fun _ h9 => h9) rfl dX6_sell_91 ?_
          refine lv_iload_n hx hb dX6_sell_94 rfl (lv_at hl 1 rfl) ?_
          refine lv_iconst (v := (-1)) hx hb dX6_sell_95 (by decide) ?_
          refine zz_iast hx hb hK hP hD hS 15 0 rfl rfl (f9 + k) (by omega) (by decide) dX6_sell_96 (fun H locs hP hD hS => ?_)
          have hP : va_P D vwCl (mwA ad cI cZ (setA (setA (setA (setA (mSellS (setA K 5 (upd (K 5) p (-1))) p f9 k) 12 (upd ((mSellS (setA K 5 (upd (K 5) p (-1))) p f9 k) 12) o9 (((mSellS (setA K 5 (upd (K 5) p (-1))) p f9 k) 12 o9) - (mPrice (mSellS (setA K 5 (upd (K 5) p (-1))) p f9 k) (f9 + k))))) 13 (upd ((mSellS (setA K 5 (upd (K 5) p (-1))) p f9 k) 13) (f9 + k) (nI p))) 14 (upd ((mSellS (setA K 5 (upd (K 5) p (-1))) p f9 k) 14) (f9 + k) (mPrice (mSellS (setA K 5 (upd (K 5) p (-1))) p f9 k) (f9 + k)))) 15 (upd ((mSellS (setA K 5 (upd (K 5) p (-1))) p f9 k) 15) (f9 + k) (-1)))) _ := hP
          have hD : va_D A (mwA ad cI cZ (setA (setA (setA (setA (mSellS (setA K 5 (upd (K 5) p (-1))) p f9 k) 12 (upd ((mSellS (setA K 5 (upd (K 5) p (-1))) p f9 k) 12) o9 (((mSellS (setA K 5 (upd (K 5) p (-1))) p f9 k) 12 o9) - (mPrice (mSellS (setA K 5 (upd (K 5) p (-1))) p f9 k) (f9 + k))))) 13 (upd ((mSellS (setA K 5 (upd (K 5) p (-1))) p f9 k) 13) (f9 + k) (nI p))) 14 (upd ((mSellS (setA K 5 (upd (K 5) p (-1))) p f9 k) 14) (f9 + k) (mPrice (mSellS (setA K 5 (upd (K 5) p (-1))) p f9 k) (f9 + k)))) 15 (upd ((mSellS (setA K 5 (upd (K 5) p (-1))) p f9 k) 15) (f9 + k) (-1)))) := hD
          refine lv_iinc (v := nI ((f9 + k) + 1)) (lv' := [(3, .int (nI ((f9 + k) + 1))), (4, .int (mPrice (mSellS (setA K 5 (upd (K 5) p (-1))) p f9 k) (f9 + k))), (2, .int (nI f9)), (0, .ref (ad 0)), (1, .int (nI p))]) hx hb dX6_sell_97 hl (k := 1) rfl ((show nI (f9 + k) + Int32.ofInt 1 = nI (f9 + k) + nI 1 from rfl).trans (nI_add _ _)) (by decide) rfl (fun ls hl => ?_)
          refine lv_goto (tgt := 16) hx hb dX6_sell_100 (by decide) ?_
          have eK_4 : (mSellS (setA K 5 (upd (K 5) p (-1))) p f9 (k + 1)) = (setA (setA (setA (setA (mSellS (setA K 5 (upd (K 5) p (-1))) p f9 k) 12 (upd ((mSellS (setA K 5 (upd (K 5) p (-1))) p f9 k) 12) o9 (((mSellS (setA K 5 (upd (K 5) p (-1))) p f9 k) 12 o9) - (mPrice (mSellS (setA K 5 (upd (K 5) p (-1))) p f9 k) (f9 + k))))) 13 (upd ((mSellS (setA K 5 (upd (K 5) p (-1))) p f9 k) 13) (f9 + k) (nI p))) 14 (upd ((mSellS (setA K 5 (upd (K 5) p (-1))) p f9 k) 14) (f9 + k) (mPrice (mSellS (setA K 5 (upd (K 5) p (-1))) p f9 k) (f9 + k)))) 15 (upd ((mSellS (setA K 5 (upd (K 5) p (-1))) p f9 k) 15) (f9 + k) (-1))) := (by simp only [mSellS, mSell1]; rw [if_neg c_3, ho7])
          exact ih_a (k + 1) (by omega) (by omega) (by omega) (mOwn_1 hp hown2) _ _ (by rw [eK_4]; exact hP) (by rw [eK_4]; exact hD) hS ls (lv_sub hl [0, 2, 3, 4] rfl)
        · skip
          have c_3 : (mSellS (setA K 5 (upd (K 5) p (-1))) p f9 k) 13 (f9 + k) = (-1) := c_3
          refine lv_aload_n hx hb dX6_sell_45 rfl (lv_at hl 3 rfl) ?_
          refine lv_dup hx hb dX6_sell_46 rfl ?_
          refine va_get (D := D) (ci := 6) (v := .int ((mSellS (setA K 5 (upd (K 5) p (-1))) p f9 k) 0 4)) (C := RX6) (T := TX6) (N := 21) hx hb hts hinX6 hown hK hP 0 rfl rfl 20 (by decide) (hts (.fieldLink RX6 133 "AuditoriumKeysModel" "takings" "I") (List.mem_of_getElem? (i := 4) rfl)) (fun _ h9 => h9) rfl dX6_sell_47 ?_
          refine lv_iload hx hb dX6_sell_50 (lv_at hl 0 rfl) ?_
          refine lv_iadd hx hb dX6_sell_52 ?_
          refine va_put (D := D) (ci := 6) (v := .int (((mSellS (setA K 5 (upd (K 5) p (-1))) p f9 k) 0 4) + (mPrice (mSellS (setA K 5 (upd (K 5) p (-1))) p f9 k) (f9 + k)))) (ty := .int) (C := RX6) (T := TX6) (N := 21) hx hb hts hinX6 tyX6 tyX6_ok nmX6 hown hK hP hD hS 0 rfl rfl 20 (by decide) (hts (.fieldLink RX6 133 "AuditoriumKeysModel" "takings" "I") (List.mem_of_getElem? (i := 4) rfl)) (fun _ h9 => h9) rfl (by decide +kernel) rfl rfl (Nat.le_of_ble_eq_true rfl) dX6_sell_53 (fun H locs hP hD hS => ?_)
          have hP : va_P D vwCl (mwA ad cI cZ (setA (mSellS (setA K 5 (upd (K 5) p (-1))) p f9 k) 0 (upd ((mSellS (setA K 5 (upd (K 5) p (-1))) p f9 k) 0) 4 (((mSellS (setA K 5 (upd (K 5) p (-1))) p f9 k) 0 4) + (mPrice (mSellS (setA K 5 (upd (K 5) p (-1))) p f9 k) (f9 + k)))))) _ := hP
          have hD : va_D A (mwA ad cI cZ (setA (mSellS (setA K 5 (upd (K 5) p (-1))) p f9 k) 0 (upd ((mSellS (setA K 5 (upd (K 5) p (-1))) p f9 k) 0) 4 (((mSellS (setA K 5 (upd (K 5) p (-1))) p f9 k) 0 4) + (mPrice (mSellS (setA K 5 (upd (K 5) p (-1))) p f9 k) (f9 + k)))))) := hD
          refine lv_goto (tgt := 75) hx hb dX6_sell_56 (by decide) ?_
          refine lv_aload_n hx hb dX6_sell_75 rfl (lv_at hl 3 rfl) ?_
          refine va_get (D := D) (ci := 6) (v := .ref (ad 13)) (C := RX6) (T := TX6) (N := 21) hx hb hts hinX6 hown hK hP 0 rfl rfl 16 (by decide) (hts (.fieldLink RX6 50 "AuditoriumKeysModel" "owners" "[I") (List.mem_of_getElem? (i := 3) rfl)) (fun _ h9 => h9) rfl dX6_sell_76 ?_
          refine lv_iload_n hx hb dX6_sell_79 rfl (lv_at hl 1 rfl) ?_
          refine lv_iload_n hx hb dX6_sell_80 rfl (lv_at hl 4 rfl) ?_
          refine zz_iast hx hb hK hP hD hS 13 0 rfl rfl (f9 + k) (by omega) (by decide) dX6_sell_81 (fun H locs hP hD hS => ?_)
          have hP : va_P D vwCl (mwA ad cI cZ (setA (setA (mSellS (setA K 5 (upd (K 5) p (-1))) p f9 k) 0 (upd ((mSellS (setA K 5 (upd (K 5) p (-1))) p f9 k) 0) 4 (((mSellS (setA K 5 (upd (K 5) p (-1))) p f9 k) 0 4) + (mPrice (mSellS (setA K 5 (upd (K 5) p (-1))) p f9 k) (f9 + k))))) 13 (upd ((mSellS (setA K 5 (upd (K 5) p (-1))) p f9 k) 13) (f9 + k) (nI p)))) _ := hP
          have hD : va_D A (mwA ad cI cZ (setA (setA (mSellS (setA K 5 (upd (K 5) p (-1))) p f9 k) 0 (upd ((mSellS (setA K 5 (upd (K 5) p (-1))) p f9 k) 0) 4 (((mSellS (setA K 5 (upd (K 5) p (-1))) p f9 k) 0 4) + (mPrice (mSellS (setA K 5 (upd (K 5) p (-1))) p f9 k) (f9 + k))))) 13 (upd ((mSellS (setA K 5 (upd (K 5) p (-1))) p f9 k) 13) (f9 + k) (nI p)))) := hD
          refine lv_aload_n hx hb dX6_sell_82 rfl (lv_at hl 3 rfl) ?_
          refine va_get (D := D) (ci := 6) (v := .ref (ad 14)) (C := RX6) (T := TX6) (N := 21) hx hb hts hinX6 hown hK hP 0 rfl rfl 17 (by decide) (hts (.fieldLink RX6 53 "AuditoriumKeysModel" "worth" "[I") (List.mem_of_getElem? (i := 6) rfl)) (fun _ h9 => h9) rfl dX6_sell_83 ?_
          refine lv_iload_n hx hb dX6_sell_86 rfl (lv_at hl 1 rfl) ?_
          refine lv_iload hx hb dX6_sell_87 (lv_at hl 0 rfl) ?_
          refine zz_iast hx hb hK hP hD hS 14 0 rfl rfl (f9 + k) (by omega) (by decide) dX6_sell_89 (fun H locs hP hD hS => ?_)
          have hP : va_P D vwCl (mwA ad cI cZ (setA (setA (setA (mSellS (setA K 5 (upd (K 5) p (-1))) p f9 k) 0 (upd ((mSellS (setA K 5 (upd (K 5) p (-1))) p f9 k) 0) 4 (((mSellS (setA K 5 (upd (K 5) p (-1))) p f9 k) 0 4) + (mPrice (mSellS (setA K 5 (upd (K 5) p (-1))) p f9 k) (f9 + k))))) 13 (upd ((mSellS (setA K 5 (upd (K 5) p (-1))) p f9 k) 13) (f9 + k) (nI p))) 14 (upd ((mSellS (setA K 5 (upd (K 5) p (-1))) p f9 k) 14) (f9 + k) (mPrice (mSellS (setA K 5 (upd (K 5) p (-1))) p f9 k) (f9 + k))))) _ := hP
          have hD : va_D A (mwA ad cI cZ (setA (setA (setA (mSellS (setA K 5 (upd (K 5) p (-1))) p f9 k) 0 (upd ((mSellS (setA K 5 (upd (K 5) p (-1))) p f9 k) 0) 4 (((mSellS (setA K 5 (upd (K 5) p (-1))) p f9 k) 0 4) + (mPrice (mSellS (setA K 5 (upd (K 5) p (-1))) p f9 k) (f9 + k))))) 13 (upd ((mSellS (setA K 5 (upd (K 5) p (-1))) p f9 k) 13) (f9 + k) (nI p))) 14 (upd ((mSellS (setA K 5 (upd (K 5) p (-1))) p f9 k) 14) (f9 + k) (mPrice (mSellS (setA K 5 (upd (K 5) p (-1))) p f9 k) (f9 + k))))) := hD
          refine lv_aload_n hx hb dX6_sell_90 rfl (lv_at hl 3 rfl) ?_
          refine va_get (D := D) (ci := 6) (v := .ref (ad 15)) (C := RX6) (T := TX6) (N := 21) hx hb hts hinX6 hown hK hP 0 rfl rfl 18 (by decide) (hts (.fieldLink RX6 56 "AuditoriumKeysModel" "offered" "[I") (List.mem_of_getElem? (i := 7) rfl)) (fun _ h9 => h9) rfl dX6_sell_91 ?_
          refine lv_iload_n hx hb dX6_sell_94 rfl (lv_at hl 1 rfl) ?_
          refine lv_iconst (v := (-1)) hx hb dX6_sell_95 (by decide) ?_
          refine zz_iast hx hb hK hP hD hS 15 0 rfl rfl (f9 + k) (by omega) (by decide) dX6_sell_96 (fun H locs hP hD hS => ?_)
          have hP : va_P D vwCl (mwA ad cI cZ (setA (setA (setA (setA (mSellS (setA K 5 (upd (K 5) p (-1))) p f9 k) 0 (upd ((mSellS (setA K 5 (upd (K 5) p (-1))) p f9 k) 0) 4 (((mSellS (setA K 5 (upd (K 5) p (-1))) p f9 k) 0 4) + (mPrice (mSellS (setA K 5 (upd (K 5) p (-1))) p f9 k) (f9 + k))))) 13 (upd ((mSellS (setA K 5 (upd (K 5) p (-1))) p f9 k) 13) (f9 + k) (nI p))) 14 (upd ((mSellS (setA K 5 (upd (K 5) p (-1))) p f9 k) 14) (f9 + k) (mPrice (mSellS (setA K 5 (upd (K 5) p (-1))) p f9 k) (f9 + k)))) 15 (upd ((mSellS (setA K 5 (upd (K 5) p (-1))) p f9 k) 15) (f9 + k) (-1)))) _ := hP
          have hD : va_D A (mwA ad cI cZ (setA (setA (setA (setA (mSellS (setA K 5 (upd (K 5) p (-1))) p f9 k) 0 (upd ((mSellS (setA K 5 (upd (K 5) p (-1))) p f9 k) 0) 4 (((mSellS (setA K 5 (upd (K 5) p (-1))) p f9 k) 0 4) + (mPrice (mSellS (setA K 5 (upd (K 5) p (-1))) p f9 k) (f9 + k))))) 13 (upd ((mSellS (setA K 5 (upd (K 5) p (-1))) p f9 k) 13) (f9 + k) (nI p))) 14 (upd ((mSellS (setA K 5 (upd (K 5) p (-1))) p f9 k) 14) (f9 + k) (mPrice (mSellS (setA K 5 (upd (K 5) p (-1))) p f9 k) (f9 + k)))) 15 (upd ((mSellS (setA K 5 (upd (K 5) p (-1))) p f9 k) 15) (f9 + k) (-1)))) := hD
          refine lv_iinc (v := nI ((f9 + k) + 1)) (lv' := [(3, .int (nI ((f9 + k) + 1))), (4, .int (mPrice (mSellS (setA K 5 (upd (K 5) p (-1))) p f9 k) (f9 + k))), (2, .int (nI f9)), (0, .ref (ad 0)), (1, .int (nI p))]) hx hb dX6_sell_97 hl (k := 1) rfl ((show nI (f9 + k) + Int32.ofInt 1 = nI (f9 + k) + nI 1 from rfl).trans (nI_add _ _)) (by decide) rfl (fun ls hl => ?_)
          refine lv_goto (tgt := 16) hx hb dX6_sell_100 (by decide) ?_
          have eK_5 : (mSellS (setA K 5 (upd (K 5) p (-1))) p f9 (k + 1)) = (setA (setA (setA (setA (mSellS (setA K 5 (upd (K 5) p (-1))) p f9 k) 0 (upd ((mSellS (setA K 5 (upd (K 5) p (-1))) p f9 k) 0) 4 (((mSellS (setA K 5 (upd (K 5) p (-1))) p f9 k) 0 4) + (mPrice (mSellS (setA K 5 (upd (K 5) p (-1))) p f9 k) (f9 + k))))) 13 (upd ((mSellS (setA K 5 (upd (K 5) p (-1))) p f9 k) 13) (f9 + k) (nI p))) 14 (upd ((mSellS (setA K 5 (upd (K 5) p (-1))) p f9 k) 14) (f9 + k) (mPrice (mSellS (setA K 5 (upd (K 5) p (-1))) p f9 k) (f9 + k)))) 15 (upd ((mSellS (setA K 5 (upd (K 5) p (-1))) p f9 k) 15) (f9 + k) (-1))) := (by simp only [mSellS, mSell1]; rw [if_pos c_3])
          exact ih_a (k + 1) (by omega) (by omega) (by omega) (mOwn_1 hp hown2) _ _ (by rw [eK_5]; exact hP) (by rw [eK_5]; exact hD) hS ls (lv_sub hl [0, 2, 3, 4] rfl)
  have eK_a : (mSellS (setA K 5 (upd (K 5) p (-1))) p f9 0) = (setA K 5 (upd (K 5) p (-1))) := rfl
  exact lp_a (m9 - 0 + 1) 0 (by omega) (by omega) (by omega) how _ _ (by rw [eK_a]; exact hP) (by rw [eK_a]; exact hD) hS ls (lv_sub hl [0, 1, 2, 3] rfl)
set_option maxHeartbeats 4000000 in
set_option maxRecDepth 100000 in
theorem kX6_pay (l : Launch) (D : va_G) (cI cZ : ClassId) (ad : Nat → Nat) (K : kS) (sz : Nat) (a9 : Int32) (x : Int32) (hok : mHok K) (how : mOwn K) : Met l yX6_pay wsX6_pay ({ frames := 2, cells := 0, slots := 0, locals := 45 }) (va_Pc [.ref (ad 0), .int a9, .int x] (zPr D (zTy cI cZ) (mwA ad cI cZ K) sz)) (va_Qi (fun r (_ : Unit) => r = mRes (mPayT K a9 x) (mPayL K a9.toNatClampNeg x)) (fun _ => zPo D (zTy cI cZ) (va_A (mwA ad cI cZ K) sz) (mwA ad cI cZ (mPost (mPayT K a9 x) K (mPayE K a9.toNatClampNeg x)))) (va_A (mwA ad cI cZ K) sz)) 0 0 (va_A (mwA ad cI cZ K) sz) := by
  refine Met.ofW (cc := cX6_pay) (maxL := 8) (ret := (some .int)) (by decide) rfl ?_
  intro pP e s m args below meth c s₁ B hml hv
  obtain ⟨rfl, hsz, hP, hK, hD0⟩ := hv
  have hx := B.exec
  have hb := B.bytes
  have hr := B.returns
  have hts := atoms_spec (ws := wsX6_pay) B.pre
  have hown : s.vm.findClass RX6 = some m.cls := findClass_of_methodNamed B.named
  have hlocks := B.notSynchronized
  subst hsz
  have hD := hD0.self (sz := s.heap.size)
  generalize hAe : va_A (mwA ad cI cZ K) s.heap.size = A at hD ⊢
  have hA : ∀ q : Nat, s.heap.size ≤ q → A q := fun q h => by rw [← hAe]; exact Or.inr h
  have hS : va_S A s.heap s.heap [] := va_S.rf
  have hinX6 : ∀ w ∈ u_ws RX6 TX6 21, w ∈ wsX6_pay := by decide +kernel
  have hl := lv_entry ([.ref (ad 0), .int a9, .int x]) (n := 8) (Nat.le_of_ble_eq_true rfl)
  rw [lg_entry_eq]
  generalize (lg_sl ([.ref (ad 0), .int a9, .int x]) ++ List.replicate (8 - (lg_sl ([.ref (ad 0), .int a9, .int x])).length) Slot.unset).toArray = ls at hl ⊢
  have hl : lv_has ls 8 [(0, .ref (ad 0)), (1, .int a9), (2, .int x)] := hl
  refine lv_iload_n hx hb dX6_pay_0 rfl (lv_at hl 1 rfl) ?_
  refine zc_rS (As := [.int a9]) (rest := []) ⟨hx, hb, hml, hown, hts⟩ (kX6_isPerson l a9 ) (va_cwS 1 hts gX6_pay_X6_isPerson rfl rfl rfl (by decide +kernel) ⟨(Nat.le_of_ble_eq_true rfl), (Nat.le_of_ble_eq_true rfl)⟩) rfl hl.1 rfl (Nat.le_of_ble_eq_true rfl) dX6_pay_1 ⟨Nat.zero_le _, Nat.zero_le _⟩ ?_
  refine lv_istore_n (lv' := [(3, .int (zb (mIsP a9))), (0, .ref (ad 0)), (1, .int a9), (2, .int x)]) hx hb dX6_pay_4 rfl hl (by decide) rfl (fun ls hl => ?_)
  refine lv_iload_n hx hb dX6_pay_5 rfl (lv_at hl 3 rfl) ?_
  refine lv_iconst (v := nI 1) hx hb dX6_pay_6 (by decide) ?_
  refine lv_sipush (v := nI 1000) hx hb dX6_pay_7 (by decide) ?_
  refine zc_rS (As := [.int x, .int (nI 1), .int (nI 1000)]) (rest := []) ⟨hx, hb, hml, hown, hts⟩ (kX6_in l x (nI 1) (nI 1000) ) (va_cwS 3 hts gX6_pay_X6_in rfl rfl rfl (by decide +kernel) ⟨(Nat.le_of_ble_eq_true rfl), (Nat.le_of_ble_eq_true rfl)⟩) rfl hl.1 rfl (Nat.le_of_ble_eq_true rfl) dX6_pay_10 ⟨Nat.zero_le _, Nat.zero_le _⟩ ?_
  refine lv_istore (lv' := [(4, .int (zb (mIn x (nI 1) (nI 1000)))), (3, .int (zb (mIsP a9))), (0, .ref (ad 0)), (1, .int a9), (2, .int x)]) hx hb dX6_pay_13 hl (by decide) rfl (fun ls hl => ?_)
  have j56 : ∀ (H : Heap) (locs : List Loc), va_P D vwCl (mwA ad cI cZ K) H → va_D A (mwA ad cI cZ K) → va_S A s.heap H locs → ∀ ls : Array Slot, lv_has ls 8 [(4, .int (zb (mIn x (nI 1) (nI 1000)))), (3, .int (zb (mIsP a9))), (0, .ref (ad 0)), (1, .int a9), (2, .int x)] → W pP l e ({ frames := 2, cells := 0, slots := 0, locals := 45 } : Room) s m ([.ref (ad 0), .int a9, .int x] : List Value).toArray below meth c H locs 0 0 (MQ below (va_Qi (fun r (_ : Unit) => r = mRes (mPayT K a9 x) (mPayL K a9.toNatClampNeg x)) (fun _ => zPo D (zTy cI cZ) A (mwA ad cI cZ (mPost (mPayT K a9 x) K (mPayE K a9.toNatClampNeg x)))) A) ([.ref (ad 0), .int a9, .int x] : List Value).toArray s 0 0 A) (F0 m 56 ls [.int (zb (mPayOk K a9 x))]) := by
    intro H locs hP hD hS ls hl
    refine lv_istore (lv' := [(5, .int (zb (mPayOk K a9 x))), (4, .int (zb (mIn x (nI 1) (nI 1000)))), (3, .int (zb (mIsP a9))), (0, .ref (ad 0)), (1, .int a9), (2, .int x)]) hx hb dX6_pay_56 hl (by decide) rfl (fun ls hl => ?_)
    refine lv_aload_n hx hb dX6_pay_58 rfl (lv_at hl 3 rfl) ?_
    refine lv_iload_n hx hb dX6_pay_59 rfl (lv_at hl 2 rfl) ?_
    refine lv_if_ne (tgt := 67) hx hb dX6_pay_60 (by decide) (fun c_1 => ?_) (fun c_1 => ?_)
    · skip
      have c_1 := zb_t c_1
      obtain ⟨p9, hp9, hp8, hp7⟩ := mIsP_of c_1
      refine lv_iload hx hb dX6_pay_67 (lv_at hl 1 rfl) ?_
      refine lv_if_ne (tgt := 76) hx hb dX6_pay_69 (by decide) (fun c_2 => ?_) (fun c_2 => ?_)
      · skip
        have c_2 := zb_t c_2
        refine lv_iload hx hb dX6_pay_76 (lv_at hl 0 rfl) ?_
        refine lv_if_eq (tgt := 85) hx hb dX6_pay_78 (by decide) (fun c_3 => ?_) (fun c_3 => ?_)
        · skip
          have c_3 := zb_f c_3
          refine lv_iconst (v := nI 3) hx hb dX6_pay_85 (by decide) ?_
          refine zc_wVi (As := [.int (nI 3)]) (rest := []) (wr := []) ⟨hx, hb, hml, hown, hts⟩ (kX6_goesWell l D cI cZ ad K _ (nI 3) ) (cwV 1 hts gX6_pay_X6_goesWell rfl rfl rfl (by decide +kernel) ⟨(Nat.le_of_ble_eq_true rfl), (Nat.le_of_ble_eq_true rfl)⟩) hK hP hD hS hA [0, 1, 2, 3, 4, 5, 6, 7, 8, 9, 10, 11, 12, 13, 14, 15, 16] [] rfl rfl rfl rfl rfl (by decide) (ci := 6) (q0 := 0) rfl rfl rfl rfl hl.1 rfl (Nat.le_of_ble_eq_true rfl) dX6_pay_86 ⟨Nat.zero_le _, Nat.zero_le _⟩ (fun H locs hP hD hS => ?_)
          have hP : va_P D vwCl (mwA ad cI cZ (mGoes K (nI 3))) _ := hP
          have hD : va_D A (mwA ad cI cZ (mGoes K (nI 3))) := hD
          refine zz_top (y := nI 0) (by decide) ?_
          refine lv_if_ne (tgt := 94) hx hb dX6_pay_89 (by decide) (fun c_4 => ?_) (fun c_4 => ?_)
          · skip
            exact absurd (show nI 0 = 0 from rfl) c_4
          · skip
            refine lv_iconst (v := nI 0) hx hb dX6_pay_92 (by decide) ?_
            have hT9 : mPayT K a9 x = nI 3 := by simp [mPayT, c_1, hp7, c_2, c_3, eq_true c_4]
            have eK9 : (mPost (mPayT K a9 x) K (mPayE K a9.toNatClampNeg x)) = (mGoes K (nI 3)) := by rw [hT9, mPost_3] <;> rfl
            have hP9 := hP
            have hD9 := hD
            rw [← eK9] at hP9 hD9
            have eR9 : nI 0 = mRes (mPayT K a9 x) (mPayL K a9.toNatClampNeg x) := by rw [hT9, mRes_3] <;> rfl
            exact W.iret (v := nI 0) hx hb hr (fun t ht hW => ⟨⟨nI 0, (), rfl, eR9, by rw [ht]; exact hP9, va_K.moved hW.alike hK, hD9⟩, hS.F ht⟩) hS.2.2 dX6_pay_93
        · skip
          have c_3 := zb_t c_3
          have hpo := c_3
          simp only [mPayOk, hp7, Bool.and_eq_true, decide_eq_true_eq] at hpo
          obtain ⟨f9, m9, hf9, hm9, hfm9, hbc9⟩ := (hok p9 hp9).resolve_left hpo.1.2
          have hf7 : (K 5 p9).toNatClampNeg = f9 := by rw [hf9]; exact nI_clamp (by omega)
          have hm7 : (K 6 p9).toNatClampNeg = m9 := by rw [hm9]; exact nI_clamp (by omega)
          refine lv_iconst (v := nI 0) hx hb dX6_pay_81 (by decide) ?_
          refine lv_goto (tgt := 86) hx hb dX6_pay_82 (by decide) ?_
          refine zc_wVi (As := [.int (nI 0)]) (rest := []) (wr := []) ⟨hx, hb, hml, hown, hts⟩ (kX6_goesWell l D cI cZ ad K _ (nI 0) ) (cwV 1 hts gX6_pay_X6_goesWell rfl rfl rfl (by decide +kernel) ⟨(Nat.le_of_ble_eq_true rfl), (Nat.le_of_ble_eq_true rfl)⟩) hK hP hD hS hA [0, 1, 2, 3, 4, 5, 6, 7, 8, 9, 10, 11, 12, 13, 14, 15, 16] [] rfl rfl rfl rfl rfl (by decide) (ci := 6) (q0 := 0) rfl rfl rfl rfl hl.1 rfl (Nat.le_of_ble_eq_true rfl) dX6_pay_86 ⟨Nat.zero_le _, Nat.zero_le _⟩ (fun H locs hP hD hS => ?_)
          have hP : va_P D vwCl (mwA ad cI cZ (mGoes K (nI 0))) _ := hP
          have hD : va_D A (mwA ad cI cZ (mGoes K (nI 0))) := hD
          refine zz_top (y := nI 1) (by decide) ?_
          refine lv_if_ne (tgt := 94) hx hb dX6_pay_89 (by decide) (fun c_5 => ?_) (fun c_5 => ?_)
          · skip
            refine lv_aload_n hx hb dX6_pay_94 rfl (lv_at hl 3 rfl) ?_
            refine va_get (D := D) (ci := 6) (v := .ref (ad 9)) (C := RX6) (T := TX6) (N := 21) hx hb hts hinX6 hown hK hP 0 rfl rfl 12 (by decide) (hts (.fieldLink RX6 38 "AuditoriumKeysModel" "paid" "[I") (List.mem_of_getElem? (i := 3) rfl)) (fun _ h9 => h9) rfl dX6_pay_95 ?_
            refine lv_iload_n hx hb dX6_pay_98 rfl (lv_at hl 4 rfl) ?_
            refine zz_top (y := nI p9) hp8 ?_
            refine lv_dup2_11 hx hb dX6_pay_99 rfl rfl ?_
            refine zz_iald hx hb hK hP 9 0 rfl rfl p9 (by omega) (by decide) dX6_pay_100 ?_
            refine lv_iload_n hx hb dX6_pay_101 rfl (lv_at hl 5 rfl) ?_
            refine lv_iadd hx hb dX6_pay_102 ?_
            refine zz_iast hx hb hK hP hD hS 9 0 rfl rfl p9 (by omega) (by decide) dX6_pay_103 (fun H locs hP hD hS => ?_)
            have hP : va_P D vwCl (mwA ad cI cZ (setA (mGoes K (nI 0)) 9 (upd ((mGoes K (nI 0)) 9) p9 (((mGoes K (nI 0)) 9 p9) + x)))) _ := hP
            have hD : va_D A (mwA ad cI cZ (setA (mGoes K (nI 0)) 9 (upd ((mGoes K (nI 0)) 9) p9 (((mGoes K (nI 0)) 9 p9) + x)))) := hD
            refine lv_aload_n hx hb dX6_pay_104 rfl (lv_at hl 3 rfl) ?_
            refine va_get (D := D) (ci := 6) (v := .ref (ad 12)) (C := RX6) (T := TX6) (N := 21) hx hb hts hinX6 hown hK hP 0 rfl rfl 15 (by decide) (hts (.fieldLink RX6 47 "AuditoriumKeysModel" "spent" "[I") (List.mem_of_getElem? (i := 4) rfl)) (fun _ h9 => h9) rfl dX6_pay_105 ?_
            refine lv_iload_n hx hb dX6_pay_108 rfl (lv_at hl 4 rfl) ?_
            refine zz_top (y := nI p9) hp8 ?_
            refine lv_dup2_11 hx hb dX6_pay_109 rfl rfl ?_
            refine zz_iald hx hb hK hP 12 0 rfl rfl p9 (by omega) (by decide) dX6_pay_110 ?_
            refine lv_iload_n hx hb dX6_pay_111 rfl (lv_at hl 5 rfl) ?_
            refine lv_iadd hx hb dX6_pay_112 ?_
            refine zz_iast hx hb hK hP hD hS 12 0 rfl rfl p9 (by omega) (by decide) dX6_pay_113 (fun H locs hP hD hS => ?_)
            have hP : va_P D vwCl (mwA ad cI cZ (setA (setA (mGoes K (nI 0)) 9 (upd ((mGoes K (nI 0)) 9) p9 (((mGoes K (nI 0)) 9 p9) + x))) 12 (upd ((mGoes K (nI 0)) 12) p9 (((mGoes K (nI 0)) 12 p9) + x)))) _ := hP
            have hD : va_D A (mwA ad cI cZ (setA (setA (mGoes K (nI 0)) 9 (upd ((mGoes K (nI 0)) 9) p9 (((mGoes K (nI 0)) 9 p9) + x))) 12 (upd ((mGoes K (nI 0)) 12) p9 (((mGoes K (nI 0)) 12 p9) + x)))) := hD
            have hP : va_P D vwCl (mwA ad cI cZ (mPayB K p9 x)) _ := hP
            have hD : va_D A (mwA ad cI cZ (mPayB K p9 x)) := hD
            refine lv_aload_n hx hb dX6_pay_114 rfl (lv_at hl 3 rfl) ?_
            refine va_get (D := D) (ci := 6) (v := .ref (ad 8)) (C := RX6) (T := TX6) (N := 21) hx hb hts hinX6 hown hK hP 0 rfl rfl 11 (by decide) (hts (.fieldLink RX6 35 "AuditoriumKeysModel" "costs" "[I") (List.mem_of_getElem? (i := 2) rfl)) (fun _ h9 => h9) rfl dX6_pay_115 ?_
            refine lv_iload_n hx hb dX6_pay_118 rfl (lv_at hl 4 rfl) ?_
            refine zz_top (y := nI p9) hp8 ?_
            refine zz_iald hx hb hK hP 8 0 rfl rfl p9 (by omega) (by decide) dX6_pay_119 ?_
            refine lv_aload_n hx hb dX6_pay_120 rfl (lv_at hl 3 rfl) ?_
            refine va_get (D := D) (ci := 6) (v := .ref (ad 9)) (C := RX6) (T := TX6) (N := 21) hx hb hts hinX6 hown hK hP 0 rfl rfl 12 (by decide) (hts (.fieldLink RX6 38 "AuditoriumKeysModel" "paid" "[I") (List.mem_of_getElem? (i := 3) rfl)) (fun _ h9 => h9) rfl dX6_pay_121 ?_
            refine lv_iload_n hx hb dX6_pay_124 rfl (lv_at hl 4 rfl) ?_
            refine zz_top (y := nI p9) hp8 ?_
            refine zz_iald hx hb hK hP 9 0 rfl rfl p9 (by omega) (by decide) dX6_pay_125 ?_
            refine lv_isub hx hb dX6_pay_126 ?_
            refine zz_top (y := mPayL K p9 x) (by show K 8 p9 - upd (K 9) p9 (K 9 p9 + x) p9 = _; rw [pk_us]; rfl) ?_
            refine lv_istore (lv' := [(6, .int (mPayL K p9 x)), (5, .int (zb (mPayOk K a9 x))), (4, .int (zb (mIn x (nI 1) (nI 1000)))), (3, .int (zb (mIsP a9))), (0, .ref (ad 0)), (1, .int a9), (2, .int x)]) hx hb dX6_pay_127 hl (by decide) rfl (fun ls hl => ?_)
            refine lv_iload hx hb dX6_pay_129 (lv_at hl 0 rfl) ?_
            refine lv_if_ne (tgt := 142) hx hb dX6_pay_131 (by decide) (fun c_6 => ?_) (fun c_6 => ?_)
            · skip
              have c_6 : ¬ mPayL K p9 x = 0 := c_6
              refine lv_aload_n hx hb dX6_pay_142 rfl (lv_at hl 4 rfl) ?_
              refine va_get (D := D) (ci := 6) (v := .ref (ad 11)) (C := RX6) (T := TX6) (N := 21) hx hb hts hinX6 hown hK hP 0 rfl rfl 14 (by decide) (hts (.fieldLink RX6 44 "AuditoriumKeysModel" "lapsesAt" "[I") (List.mem_of_getElem? (i := 5) rfl)) (fun _ h9 => h9) rfl dX6_pay_143 ?_
              refine lv_iload_n hx hb dX6_pay_146 rfl (lv_at hl 5 rfl) ?_
              refine zz_top (y := nI p9) hp8 ?_
              refine zz_iald hx hb hK hP 11 0 rfl rfl p9 (by omega) (by decide) dX6_pay_147 ?_
              refine lv_iconst (v := nI 5) hx hb dX6_pay_148 (by decide) ?_
              refine lv_iadd hx hb dX6_pay_149 ?_
              refine lv_istore (lv' := [(7, .int (((mPayB K p9 x) 11 p9) + (nI 5))), (6, .int (mPayL K p9 x)), (5, .int (zb (mPayOk K a9 x))), (4, .int (zb (mIn x (nI 1) (nI 1000)))), (3, .int (zb (mIsP a9))), (0, .ref (ad 0)), (1, .int a9), (2, .int x)]) hx hb dX6_pay_150 hl (by decide) rfl (fun ls hl => ?_)
              refine lv_aload_n hx hb dX6_pay_152 rfl (lv_at hl 5 rfl) ?_
              refine va_get (D := D) (ci := 6) (v := .ref (ad 11)) (C := RX6) (T := TX6) (N := 21) hx hb hts hinX6 hown hK hP 0 rfl rfl 14 (by decide) (hts (.fieldLink RX6 44 "AuditoriumKeysModel" "lapsesAt" "[I") (List.mem_of_getElem? (i := 5) rfl)) (fun _ h9 => h9) rfl dX6_pay_153 ?_
              refine lv_iload_n hx hb dX6_pay_156 rfl (lv_at hl 6 rfl) ?_
              refine zz_top (y := nI p9) hp8 ?_
              refine lv_iload hx hb dX6_pay_157 (lv_at hl 0 rfl) ?_
              refine lv_aload_n hx hb dX6_pay_159 rfl (lv_at hl 5 rfl) ?_
              refine va_get (D := D) (ci := 6) (v := .ref (ad 10)) (C := RX6) (T := TX6) (N := 21) hx hb hts hinX6 hown hK hP 0 rfl rfl 13 (by decide) (hts (.fieldLink RX6 41 "AuditoriumKeysModel" "madeAt" "[I") (List.mem_of_getElem? (i := 6) rfl)) (fun _ h9 => h9) rfl dX6_pay_160 ?_
              refine lv_iload_n hx hb dX6_pay_163 rfl (lv_at hl 6 rfl) ?_
              refine zz_top (y := nI p9) hp8 ?_
              refine zz_iald hx hb hK hP 10 0 rfl rfl p9 (by omega) (by decide) dX6_pay_164 ?_
              refine lv_bipush (v := nI 30) hx hb dX6_pay_165 (by decide) ?_
              refine lv_iadd hx hb dX6_pay_167 ?_
              refine lv_icmp_le (tgt := 183) hx hb dX6_pay_168 (by decide) (fun c_7 => ?_) (fun c_7 => ?_)
              · skip
                have c_7 : ((mPayB K p9 x) 11 p9) + (nI 5) ≤ ((mPayB K p9 x) 10 p9) + (nI 30) := c_7
                refine lv_iload hx hb dX6_pay_183 (lv_at hl 0 rfl) ?_
                refine zz_iast hx hb hK hP hD hS 11 0 rfl rfl p9 (by omega) (by decide) dX6_pay_185 (fun H locs hP hD hS => ?_)
                have hP : va_P D vwCl (mwA ad cI cZ (setA (mPayB K p9 x) 11 (upd ((mPayB K p9 x) 11) p9 (((mPayB K p9 x) 11 p9) + (nI 5))))) _ := hP
                have hD : va_D A (mwA ad cI cZ (setA (mPayB K p9 x) 11 (upd ((mPayB K p9 x) 11) p9 (((mPayB K p9 x) 11 p9) + (nI 5))))) := hD
                refine lv_iload hx hb dX6_pay_186 (lv_at hl 1 rfl) ?_
                have hT9 : mPayT K a9 x = nI 0 := by simp [mPayT, c_1, hp7, c_2, c_3, hpo, hf7, hm7, c_5, c_6, c_7]
                have eK9 : (mPost (mPayT K a9 x) K (mPayE K a9.toNatClampNeg x)) = (setA (mPayB K p9 x) 11 (upd ((mPayB K p9 x) 11) p9 (((mPayB K p9 x) 11 p9) + (nI 5)))) := by rw [hT9, mPost_0, hp7] <;> (unfold mPayE; rw [if_neg c_6]; unfold mProl; rw [if_pos (show _ ≤ _ from c_7)]; try rfl)
                have hP9 := hP
                have hD9 := hD
                rw [← eK9] at hP9 hD9
                have eR9 : mPayL K p9 x = mRes (mPayT K a9 x) (mPayL K a9.toNatClampNeg x) := by rw [hT9, mRes_0, hp7] <;> rfl
                exact W.iret (v := mPayL K p9 x) hx hb hr (fun t ht hW => ⟨⟨mPayL K p9 x, (), rfl, eR9, by rw [ht]; exact hP9, va_K.moved hW.alike hK, hD9⟩, hS.F ht⟩) hS.2.2 dX6_pay_188
              · skip
                have c_7 : ¬ ((mPayB K p9 x) 11 p9) + (nI 5) ≤ ((mPayB K p9 x) 10 p9) + (nI 30) := c_7
                refine lv_aload_n hx hb dX6_pay_171 rfl (lv_at hl 5 rfl) ?_
                refine va_get (D := D) (ci := 6) (v := .ref (ad 10)) (C := RX6) (T := TX6) (N := 21) hx hb hts hinX6 hown hK hP 0 rfl rfl 13 (by decide) (hts (.fieldLink RX6 41 "AuditoriumKeysModel" "madeAt" "[I") (List.mem_of_getElem? (i := 6) rfl)) (fun _ h9 => h9) rfl dX6_pay_172 ?_
                refine lv_iload_n hx hb dX6_pay_175 rfl (lv_at hl 6 rfl) ?_
                refine zz_top (y := nI p9) hp8 ?_
                refine zz_iald hx hb hK hP 10 0 rfl rfl p9 (by omega) (by decide) dX6_pay_176 ?_
                refine lv_bipush (v := nI 30) hx hb dX6_pay_177 (by decide) ?_
                refine lv_iadd hx hb dX6_pay_179 ?_
                refine lv_goto (tgt := 185) hx hb dX6_pay_180 (by decide) ?_
                refine zz_iast hx hb hK hP hD hS 11 0 rfl rfl p9 (by omega) (by decide) dX6_pay_185 (fun H locs hP hD hS => ?_)
                have hP : va_P D vwCl (mwA ad cI cZ (setA (mPayB K p9 x) 11 (upd ((mPayB K p9 x) 11) p9 (((mPayB K p9 x) 10 p9) + (nI 30))))) _ := hP
                have hD : va_D A (mwA ad cI cZ (setA (mPayB K p9 x) 11 (upd ((mPayB K p9 x) 11) p9 (((mPayB K p9 x) 10 p9) + (nI 30))))) := hD
                refine lv_iload hx hb dX6_pay_186 (lv_at hl 1 rfl) ?_
                have hT9 : mPayT K a9 x = nI 0 := by simp [mPayT, c_1, hp7, c_2, c_3, hpo, hf7, hm7, c_5, c_6, c_7]
                have eK9 : (mPost (mPayT K a9 x) K (mPayE K a9.toNatClampNeg x)) = (setA (mPayB K p9 x) 11 (upd ((mPayB K p9 x) 11) p9 (((mPayB K p9 x) 10 p9) + (nI 30)))) := by rw [hT9, mPost_0, hp7] <;> (unfold mPayE; rw [if_neg c_6]; unfold mProl; rw [if_neg (show ¬ _ ≤ _ from c_7)]; try rfl)
                have hP9 := hP
                have hD9 := hD
                rw [← eK9] at hP9 hD9
                have eR9 : mPayL K p9 x = mRes (mPayT K a9 x) (mPayL K a9.toNatClampNeg x) := by rw [hT9, mRes_0, hp7] <;> rfl
                exact W.iret (v := mPayL K p9 x) hx hb hr (fun t ht hW => ⟨⟨mPayL K p9 x, (), rfl, eR9, by rw [ht]; exact hP9, va_K.moved hW.alike hK, hD9⟩, hS.F ht⟩) hS.2.2 dX6_pay_188
            · skip
              have c_6 : mPayL K p9 x = 0 := c_6
              refine lv_aload_n hx hb dX6_pay_134 rfl (lv_at hl 4 rfl) ?_
              refine lv_iload_n hx hb dX6_pay_135 rfl (lv_at hl 5 rfl) ?_
              refine zz_top (y := nI p9) hp8 ?_
              refine zc_wVv (As := [.int (nI p9)]) (rest := []) (wr := []) ⟨hx, hb, hml, hown, hts⟩ (kX6_sell l D cI cZ ad (mPayB K p9 x) _ p9 f9 m9 (by omega) hf9 hm9 hfm9 how hbc9) (cwV 1 hts gX6_pay_X6_sell rfl rfl rfl (by decide +kernel) ⟨(Nat.le_of_ble_eq_true rfl), (Nat.le_of_ble_eq_true rfl)⟩) hK hP hD hS hA [0, 1, 2, 3, 4, 5, 6, 7, 8, 9, 10, 11, 12, 13, 14, 15, 16] [] rfl rfl rfl rfl rfl (by decide) (ci := 6) (q0 := 0) rfl rfl rfl rfl hl.1 rfl (Nat.le_of_ble_eq_true rfl) dX6_pay_136 ⟨Nat.zero_le _, Nat.zero_le _⟩ (fun H locs hP hD hS => ?_)
              have hP : va_P D vwCl (mwA ad cI cZ (mSold (mPayB K p9 x) p9 f9 m9)) _ := hP
              have hD : va_D A (mwA ad cI cZ (mSold (mPayB K p9 x) p9 f9 m9)) := hD
              refine lv_goto (tgt := 186) hx hb dX6_pay_139 (by decide) ?_
              refine lv_iload hx hb dX6_pay_186 (lv_at hl 0 rfl) ?_
              have hT9 : mPayT K a9 x = nI 0 := by simp [mPayT, c_1, hp7, c_2, c_3, hpo, hf7, hm7, c_5, eq_true c_6]
              have eK9 : (mPost (mPayT K a9 x) K (mPayE K a9.toNatClampNeg x)) = (mSold (mPayB K p9 x) p9 f9 m9) := by rw [hT9, mPost_0, hp7] <;> (unfold mPayE; rw [if_pos c_6, hf7, hm7])
              have hP9 := hP
              have hD9 := hD
              rw [← eK9] at hP9 hD9
              have eR9 : mPayL K p9 x = mRes (mPayT K a9 x) (mPayL K a9.toNatClampNeg x) := by rw [hT9, mRes_0, hp7] <;> rfl
              exact W.iret (v := mPayL K p9 x) hx hb hr (fun t ht hW => ⟨⟨mPayL K p9 x, (), rfl, eR9, by rw [ht]; exact hP9, va_K.moved hW.alike hK, hD9⟩, hS.F ht⟩) hS.2.2 dX6_pay_188
          · skip
            exact absurd c_5 (by decide)
      · skip
        have c_2 := zb_f c_2
        refine lv_iconst (v := nI 2) hx hb dX6_pay_72 (by decide) ?_
        refine lv_goto (tgt := 86) hx hb dX6_pay_73 (by decide) ?_
        refine zc_wVi (As := [.int (nI 2)]) (rest := []) (wr := []) ⟨hx, hb, hml, hown, hts⟩ (kX6_goesWell l D cI cZ ad K _ (nI 2) ) (cwV 1 hts gX6_pay_X6_goesWell rfl rfl rfl (by decide +kernel) ⟨(Nat.le_of_ble_eq_true rfl), (Nat.le_of_ble_eq_true rfl)⟩) hK hP hD hS hA [0, 1, 2, 3, 4, 5, 6, 7, 8, 9, 10, 11, 12, 13, 14, 15, 16] [] rfl rfl rfl rfl rfl (by decide) (ci := 6) (q0 := 0) rfl rfl rfl rfl hl.1 rfl (Nat.le_of_ble_eq_true rfl) dX6_pay_86 ⟨Nat.zero_le _, Nat.zero_le _⟩ (fun H locs hP hD hS => ?_)
        have hP : va_P D vwCl (mwA ad cI cZ (mGoes K (nI 2))) _ := hP
        have hD : va_D A (mwA ad cI cZ (mGoes K (nI 2))) := hD
        refine zz_top (y := nI 0) (by decide) ?_
        refine lv_if_ne (tgt := 94) hx hb dX6_pay_89 (by decide) (fun c_8 => ?_) (fun c_8 => ?_)
        · skip
          exact absurd (show nI 0 = 0 from rfl) c_8
        · skip
          refine lv_iconst (v := nI 0) hx hb dX6_pay_92 (by decide) ?_
          have hT9 : mPayT K a9 x = nI 2 := by simp [mPayT, c_1, hp7, c_2, eq_true c_8]
          have eK9 : (mPost (mPayT K a9 x) K (mPayE K a9.toNatClampNeg x)) = (mGoes K (nI 2)) := by rw [hT9, mPost_2] <;> rfl
          have hP9 := hP
          have hD9 := hD
          rw [← eK9] at hP9 hD9
          have eR9 : nI 0 = mRes (mPayT K a9 x) (mPayL K a9.toNatClampNeg x) := by rw [hT9, mRes_2] <;> rfl
          exact W.iret (v := nI 0) hx hb hr (fun t ht hW => ⟨⟨nI 0, (), rfl, eR9, by rw [ht]; exact hP9, va_K.moved hW.alike hK, hD9⟩, hS.F ht⟩) hS.2.2 dX6_pay_93
    · skip
      have c_1 := zb_f c_1
      refine lv_iconst (v := nI 1) hx hb dX6_pay_63 (by decide) ?_
      refine lv_goto (tgt := 86) hx hb dX6_pay_64 (by decide) ?_
      refine zc_wVi (As := [.int (nI 1)]) (rest := []) (wr := []) ⟨hx, hb, hml, hown, hts⟩ (kX6_goesWell l D cI cZ ad K _ (nI 1) ) (cwV 1 hts gX6_pay_X6_goesWell rfl rfl rfl (by decide +kernel) ⟨(Nat.le_of_ble_eq_true rfl), (Nat.le_of_ble_eq_true rfl)⟩) hK hP hD hS hA [0, 1, 2, 3, 4, 5, 6, 7, 8, 9, 10, 11, 12, 13, 14, 15, 16] [] rfl rfl rfl rfl rfl (by decide) (ci := 6) (q0 := 0) rfl rfl rfl rfl hl.1 rfl (Nat.le_of_ble_eq_true rfl) dX6_pay_86 ⟨Nat.zero_le _, Nat.zero_le _⟩ (fun H locs hP hD hS => ?_)
      have hP : va_P D vwCl (mwA ad cI cZ (mGoes K (nI 1))) _ := hP
      have hD : va_D A (mwA ad cI cZ (mGoes K (nI 1))) := hD
      refine zz_top (y := nI 0) (by decide) ?_
      refine lv_if_ne (tgt := 94) hx hb dX6_pay_89 (by decide) (fun c_9 => ?_) (fun c_9 => ?_)
      · skip
        exact absurd (show nI 0 = 0 from rfl) c_9
      · skip
        refine lv_iconst (v := nI 0) hx hb dX6_pay_92 (by decide) ?_
        have hT9 : mPayT K a9 x = nI 1 := by simp [mPayT, c_1, eq_true c_9]
        have eK9 : (mPost (mPayT K a9 x) K (mPayE K a9.toNatClampNeg x)) = (mGoes K (nI 1)) := by rw [hT9, mPost_1] <;> rfl
        have hP9 := hP
        have hD9 := hD
        rw [← eK9] at hP9 hD9
        have eR9 : nI 0 = mRes (mPayT K a9 x) (mPayL K a9.toNatClampNeg x) := by rw [hT9, mRes_1] <;> rfl
        exact W.iret (v := nI 0) hx hb hr (fun t ht hW => ⟨⟨nI 0, (), rfl, eR9, by rw [ht]; exact hP9, va_K.moved hW.alike hK, hD9⟩, hS.F ht⟩) hS.2.2 dX6_pay_93
  refine lv_iload_n hx hb dX6_pay_15 rfl (lv_at hl 1 rfl) ?_
  refine lv_if_eq (tgt := 55) hx hb dX6_pay_16 (by decide) (fun c_10 => ?_) (fun c_10 => ?_)
  · skip
    have c_10 := zb_f c_10
    refine lv_iconst (v := nI 0) hx hb dX6_pay_55 (by decide) ?_
    have ej_11 : zb (mPayOk K a9 x) = nI 0 := (by simp [mPayOk, zb, c_10])
    refine zz_top ej_11.symm ?_
    exact j56 _ _ hP hD hS ls (lv_sub hl [0, 1, 2, 3, 4] rfl)
  · skip
    have c_10 := zb_t c_10
    obtain ⟨p9, hp9, hp8, hp7⟩ := mIsP_of c_10
    refine lv_iload hx hb dX6_pay_19 (lv_at hl 0 rfl) ?_
    refine lv_if_eq (tgt := 55) hx hb dX6_pay_21 (by decide) (fun c_12 => ?_) (fun c_12 => ?_)
    · skip
      have c_12 := zb_f c_12
      refine lv_iconst (v := nI 0) hx hb dX6_pay_55 (by decide) ?_
      have ej_13 : zb (mPayOk K a9 x) = nI 0 := (by simp [mPayOk, zb, c_10, hp7, c_12])
      refine zz_top ej_13.symm ?_
      exact j56 _ _ hP hD hS ls (lv_sub hl [0, 1, 2, 3, 4] rfl)
    · skip
      have c_12 := zb_t c_12
      refine lv_aload_n hx hb dX6_pay_24 rfl (lv_at hl 2 rfl) ?_
      refine va_get (D := D) (ci := 6) (v := .ref (ad 5)) (C := RX6) (T := TX6) (N := 21) hx hb hts hinX6 hown hK hP 0 rfl rfl 8 (by decide) (hts (.fieldLink RX6 26 "AuditoriumKeysModel" "firsts" "[I") (List.mem_of_getElem? (i := 1) rfl)) (fun _ h9 => h9) rfl dX6_pay_25 ?_
      refine lv_iload_n hx hb dX6_pay_28 rfl (lv_at hl 3 rfl) ?_
      refine zz_top (y := nI p9) hp8 ?_
      refine zz_iald hx hb hK hP 5 0 rfl rfl p9 (by omega) (by decide) dX6_pay_29 ?_
      refine lv_iconst (v := (-1)) hx hb dX6_pay_30 (by decide) ?_
      refine lv_icmp_eq (tgt := 55) hx hb dX6_pay_31 (by decide) (fun c_14 => ?_) (fun c_14 => ?_)
      · skip
        have c_14 : K 5 p9 = (-1) := c_14
        refine lv_iconst (v := nI 0) hx hb dX6_pay_55 (by decide) ?_
        have ej_15 : zb (mPayOk K a9 x) = nI 0 := (by simp [mPayOk, zb, c_10, hp7, c_12, eq_true c_14])
        refine zz_top ej_15.symm ?_
        exact j56 _ _ hP hD hS ls (lv_sub hl [0, 1, 2, 3, 4] rfl)
      · skip
        have c_14 : ¬ K 5 p9 = (-1) := c_14
        refine lv_iload_n hx hb dX6_pay_34 rfl (lv_at hl 4 rfl) ?_
        refine lv_aload_n hx hb dX6_pay_35 rfl (lv_at hl 2 rfl) ?_
        refine va_get (D := D) (ci := 6) (v := .ref (ad 8)) (C := RX6) (T := TX6) (N := 21) hx hb hts hinX6 hown hK hP 0 rfl rfl 11 (by decide) (hts (.fieldLink RX6 35 "AuditoriumKeysModel" "costs" "[I") (List.mem_of_getElem? (i := 2) rfl)) (fun _ h9 => h9) rfl dX6_pay_36 ?_
        refine lv_iload_n hx hb dX6_pay_39 rfl (lv_at hl 3 rfl) ?_
        refine zz_top (y := nI p9) hp8 ?_
        refine zz_iald hx hb hK hP 8 0 rfl rfl p9 (by omega) (by decide) dX6_pay_40 ?_
        refine lv_aload_n hx hb dX6_pay_41 rfl (lv_at hl 2 rfl) ?_
        refine va_get (D := D) (ci := 6) (v := .ref (ad 9)) (C := RX6) (T := TX6) (N := 21) hx hb hts hinX6 hown hK hP 0 rfl rfl 12 (by decide) (hts (.fieldLink RX6 38 "AuditoriumKeysModel" "paid" "[I") (List.mem_of_getElem? (i := 3) rfl)) (fun _ h9 => h9) rfl dX6_pay_42 ?_
        refine lv_iload_n hx hb dX6_pay_45 rfl (lv_at hl 3 rfl) ?_
        refine zz_top (y := nI p9) hp8 ?_
        refine zz_iald hx hb hK hP 9 0 rfl rfl p9 (by omega) (by decide) dX6_pay_46 ?_
        refine lv_isub hx hb dX6_pay_47 ?_
        refine lv_icmp_gt (tgt := 55) hx hb dX6_pay_48 (by decide) (fun c_16 => ?_) (fun c_16 => ?_)
        · skip
          have c_16 : (K 8 p9) - (K 9 p9) < x := c_16
          refine lv_iconst (v := nI 0) hx hb dX6_pay_55 (by decide) ?_
          have ej_17 : zb (mPayOk K a9 x) = nI 0 := (by simp [mPayOk, zb, c_10, hp7, c_12, c_14, c_16])
          refine zz_top ej_17.symm ?_
          exact j56 _ _ hP hD hS ls (lv_sub hl [0, 1, 2, 3, 4] rfl)
        · skip
          have c_16 : ¬ (K 8 p9) - (K 9 p9) < x := c_16
          refine lv_iconst (v := nI 1) hx hb dX6_pay_51 (by decide) ?_
          refine lv_goto (tgt := 56) hx hb dX6_pay_52 (by decide) ?_
          have ej_18 : zb (mPayOk K a9 x) = nI 1 := (by simp [mPayOk, zb, c_10, hp7, c_12, c_14, c_16])
          refine zz_top ej_18.symm ?_
          exact j56 _ _ hP hD hS ls (lv_sub hl [0, 1, 2, 3, 4] rfl)
set_option maxHeartbeats 4000000 in
set_option maxRecDepth 100000 in
theorem kX6_offer (l : Launch) (D : va_G) (cI cZ : ClassId) (ad : Nat → Nat) (K : kS) (sz : Nat) (a9 : Int32) (s9 : Int32) (x : Int32)  : Met l yX6_offer wsX6_offer ({ frames := 3, cells := 0, slots := 0, locals := 66 }) (va_Pc [.ref (ad 0), .int a9, .int s9, .int x] (zPr D (zTy cI cZ) (mwA ad cI cZ K) sz)) (va_Qi (fun r (_ : Unit) => r = mRes (mOffT K a9 s9 x) (mOffC K a9 s9)) (fun _ => zPo D (zTy cI cZ) (va_A (mwA ad cI cZ K) sz) (mwA ad cI cZ (mPost (mOffT K a9 s9 x) K (mOffE K s9.toNatClampNeg x)))) (va_A (mwA ad cI cZ K) sz)) 0 0 (va_A (mwA ad cI cZ K) sz) := by
  refine Met.ofW (cc := cX6_offer) (maxL := 8) (ret := (some .int)) (by decide) rfl ?_
  intro pP e s m args below meth c s₁ B hml hv
  obtain ⟨rfl, hsz, hP, hK, hD0⟩ := hv
  have hx := B.exec
  have hb := B.bytes
  have hr := B.returns
  have hts := atoms_spec (ws := wsX6_offer) B.pre
  have hown : s.vm.findClass RX6 = some m.cls := findClass_of_methodNamed B.named
  have hlocks := B.notSynchronized
  subst hsz
  have hD := hD0.self (sz := s.heap.size)
  generalize hAe : va_A (mwA ad cI cZ K) s.heap.size = A at hD ⊢
  have hA : ∀ q : Nat, s.heap.size ≤ q → A q := fun q h => by rw [← hAe]; exact Or.inr h
  have hS : va_S A s.heap s.heap [] := va_S.rf
  have hinX6 : ∀ w ∈ u_ws RX6 TX6 21, w ∈ wsX6_offer := by decide +kernel
  have hl := lv_entry ([.ref (ad 0), .int a9, .int s9, .int x]) (n := 8) (Nat.le_of_ble_eq_true rfl)
  rw [lg_entry_eq]
  generalize (lg_sl ([.ref (ad 0), .int a9, .int s9, .int x]) ++ List.replicate (8 - (lg_sl ([.ref (ad 0), .int a9, .int s9, .int x])).length) Slot.unset).toArray = ls at hl ⊢
  have hl : lv_has ls 8 [(0, .ref (ad 0)), (1, .int a9), (2, .int s9), (3, .int x)] := hl
  have j19 : ∀ (H : Heap) (locs : List Loc), va_P D vwCl (mwA ad cI cZ K) H → va_D A (mwA ad cI cZ K) → va_S A s.heap H locs → ∀ ls : Array Slot, lv_has ls 8 [(0, .ref (ad 0)), (1, .int a9), (2, .int s9), (3, .int x)] → W pP l e ({ frames := 3, cells := 0, slots := 0, locals := 66 } : Room) s m ([.ref (ad 0), .int a9, .int s9, .int x] : List Value).toArray below meth c H locs 0 0 (MQ below (va_Qi (fun r (_ : Unit) => r = mRes (mOffT K a9 s9 x) (mOffC K a9 s9)) (fun _ => zPo D (zTy cI cZ) A (mwA ad cI cZ (mPost (mOffT K a9 s9 x) K (mOffE K s9.toNatClampNeg x)))) A) ([.ref (ad 0), .int a9, .int s9, .int x] : List Value).toArray s 0 0 A) (F0 m 19 ls [.int (zb (mOffA a9 s9))]) := by
    intro H locs hP hD hS ls hl
    refine lv_istore (lv' := [(4, .int (zb (mOffA a9 s9))), (0, .ref (ad 0)), (1, .int a9), (2, .int s9), (3, .int x)]) hx hb dX6_offer_19 hl (by decide) rfl (fun ls hl => ?_)
    refine lv_iload_n hx hb dX6_offer_21 rfl (lv_at hl 4 rfl) ?_
    refine lv_iconst (v := nI 1) hx hb dX6_offer_22 (by decide) ?_
    refine lv_sipush (v := nI 10000) hx hb dX6_offer_23 (by decide) ?_
    refine zc_rS (As := [.int x, .int (nI 1), .int (nI 10000)]) (rest := []) ⟨hx, hb, hml, hown, hts⟩ (kX6_in l x (nI 1) (nI 10000) ) (va_cwS 3 hts gX6_offer_X6_in rfl rfl rfl (by decide +kernel) ⟨(Nat.le_of_ble_eq_true rfl), (Nat.le_of_ble_eq_true rfl)⟩) rfl hl.1 rfl (Nat.le_of_ble_eq_true rfl) dX6_offer_26 ⟨Nat.zero_le _, Nat.zero_le _⟩ ?_
    refine lv_istore (lv' := [(5, .int (zb (mIn x (nI 1) (nI 10000)))), (4, .int (zb (mOffA a9 s9))), (0, .ref (ad 0)), (1, .int a9), (2, .int s9), (3, .int x)]) hx hb dX6_offer_29 hl (by decide) rfl (fun ls hl => ?_)
    have j52 : ∀ (H : Heap) (locs : List Loc), va_P D vwCl (mwA ad cI cZ K) H → va_D A (mwA ad cI cZ K) → va_S A s.heap H locs → ∀ ls : Array Slot, lv_has ls 8 [(5, .int (zb (mIn x (nI 1) (nI 10000)))), (4, .int (zb (mOffA a9 s9))), (0, .ref (ad 0)), (1, .int a9), (2, .int s9), (3, .int x)] → W pP l e ({ frames := 3, cells := 0, slots := 0, locals := 66 } : Room) s m ([.ref (ad 0), .int a9, .int s9, .int x] : List Value).toArray below meth c H locs 0 0 (MQ below (va_Qi (fun r (_ : Unit) => r = mRes (mOffT K a9 s9 x) (mOffC K a9 s9)) (fun _ => zPo D (zTy cI cZ) A (mwA ad cI cZ (mPost (mOffT K a9 s9 x) K (mOffE K s9.toNatClampNeg x)))) A) ([.ref (ad 0), .int a9, .int s9, .int x] : List Value).toArray s 0 0 A) (F0 m 52 ls [.int (mOffC K a9 s9)]) := by
      intro H locs hP hD hS ls hl
      refine lv_istore (lv' := [(6, .int (mOffC K a9 s9)), (5, .int (zb (mIn x (nI 1) (nI 10000)))), (4, .int (zb (mOffA a9 s9))), (0, .ref (ad 0)), (1, .int a9), (2, .int s9), (3, .int x)]) hx hb dX6_offer_52 hl (by decide) rfl (fun ls hl => ?_)
      have j94 : ∀ (H : Heap) (locs : List Loc), va_P D vwCl (mwA ad cI cZ K) H → va_D A (mwA ad cI cZ K) → va_S A s.heap H locs → ∀ ls : Array Slot, lv_has ls 8 [(6, .int (mOffC K a9 s9)), (5, .int (zb (mIn x (nI 1) (nI 10000)))), (4, .int (zb (mOffA a9 s9))), (0, .ref (ad 0)), (1, .int a9), (2, .int s9), (3, .int x)] → W pP l e ({ frames := 3, cells := 0, slots := 0, locals := 66 } : Room) s m ([.ref (ad 0), .int a9, .int s9, .int x] : List Value).toArray below meth c H locs 0 0 (MQ below (va_Qi (fun r (_ : Unit) => r = mRes (mOffT K a9 s9 x) (mOffC K a9 s9)) (fun _ => zPo D (zTy cI cZ) A (mwA ad cI cZ (mPost (mOffT K a9 s9 x) K (mOffE K s9.toNatClampNeg x)))) A) ([.ref (ad 0), .int a9, .int s9, .int x] : List Value).toArray s 0 0 A) (F0 m 94 ls [.int (zb (mOffOk K a9 s9 x))]) := by
        intro H locs hP hD hS ls hl
        refine lv_istore (lv' := [(7, .int (zb (mOffOk K a9 s9 x))), (6, .int (mOffC K a9 s9)), (5, .int (zb (mIn x (nI 1) (nI 10000)))), (4, .int (zb (mOffA a9 s9))), (0, .ref (ad 0)), (1, .int a9), (2, .int s9), (3, .int x)]) hx hb dX6_offer_94 hl (by decide) rfl (fun ls hl => ?_)
        refine lv_aload_n hx hb dX6_offer_96 rfl (lv_at hl 4 rfl) ?_
        refine lv_iload hx hb dX6_offer_97 (lv_at hl 3 rfl) ?_
        refine lv_if_ne (tgt := 106) hx hb dX6_offer_99 (by decide) (fun c_1 => ?_) (fun c_1 => ?_)
        · skip
          have c_1 := zb_t c_1
          obtain ⟨hAA, hBB⟩ : mIsP a9 = true ∧ mIsS s9 = true := by simpa [mOffA] using c_1
          obtain ⟨q9, hq9, hq8, hq7⟩ := mIsS_of hBB
          refine lv_iload hx hb dX6_offer_106 (lv_at hl 2 rfl) ?_
          refine lv_if_ne (tgt := 115) hx hb dX6_offer_108 (by decide) (fun c_2 => ?_) (fun c_2 => ?_)
          · skip
            have c_2 := zb_t c_2
            refine lv_iload hx hb dX6_offer_115 (lv_at hl 0 rfl) ?_
            refine lv_if_eq (tgt := 124) hx hb dX6_offer_117 (by decide) (fun c_3 => ?_) (fun c_3 => ?_)
            · skip
              have c_3 := zb_f c_3
              refine lv_iconst (v := nI 3) hx hb dX6_offer_124 (by decide) ?_
              refine zc_wVi (As := [.int (nI 3)]) (rest := []) (wr := []) ⟨hx, hb, hml, hown, hts⟩ (kX6_goesWell l D cI cZ ad K _ (nI 3) ) (cwV 1 hts gX6_offer_X6_goesWell rfl rfl rfl (by decide +kernel) ⟨(Nat.le_of_ble_eq_true rfl), (Nat.le_of_ble_eq_true rfl)⟩) hK hP hD hS hA [0, 1, 2, 3, 4, 5, 6, 7, 8, 9, 10, 11, 12, 13, 14, 15, 16] [] rfl rfl rfl rfl rfl (by decide) (ci := 6) (q0 := 0) rfl rfl rfl rfl hl.1 rfl (Nat.le_of_ble_eq_true rfl) dX6_offer_125 ⟨Nat.zero_le _, Nat.zero_le _⟩ (fun H locs hP hD hS => ?_)
              have hP : va_P D vwCl (mwA ad cI cZ (mGoes K (nI 3))) _ := hP
              have hD : va_D A (mwA ad cI cZ (mGoes K (nI 3))) := hD
              refine zz_top (y := nI 0) (by decide) ?_
              refine lv_if_ne (tgt := 133) hx hb dX6_offer_128 (by decide) (fun c_4 => ?_) (fun c_4 => ?_)
              · skip
                exact absurd (show nI 0 = 0 from rfl) c_4
              · skip
                refine lv_iconst (v := nI 0) hx hb dX6_offer_131 (by decide) ?_
                have hT9 : mOffT K a9 s9 x = nI 3 := by simp [mOffT, c_1, hq7, c_2, c_3, eq_true c_4]
                have eK9 : (mPost (mOffT K a9 s9 x) K (mOffE K s9.toNatClampNeg x)) = (mGoes K (nI 3)) := by rw [hT9, mPost_3] <;> rfl
                have hP9 := hP
                have hD9 := hD
                rw [← eK9] at hP9 hD9
                have eR9 : nI 0 = mRes (mOffT K a9 s9 x) (mOffC K a9 s9) := by rw [hT9, mRes_3] <;> rfl
                exact W.iret (v := nI 0) hx hb hr (fun t ht hW => ⟨⟨nI 0, (), rfl, eR9, by rw [ht]; exact hP9, va_K.moved hW.alike hK, hD9⟩, hS.F ht⟩) hS.2.2 dX6_offer_132
            · skip
              have c_3 := zb_t c_3
              refine lv_iconst (v := nI 0) hx hb dX6_offer_120 (by decide) ?_
              refine lv_goto (tgt := 125) hx hb dX6_offer_121 (by decide) ?_
              refine zc_wVi (As := [.int (nI 0)]) (rest := []) (wr := []) ⟨hx, hb, hml, hown, hts⟩ (kX6_goesWell l D cI cZ ad K _ (nI 0) ) (cwV 1 hts gX6_offer_X6_goesWell rfl rfl rfl (by decide +kernel) ⟨(Nat.le_of_ble_eq_true rfl), (Nat.le_of_ble_eq_true rfl)⟩) hK hP hD hS hA [0, 1, 2, 3, 4, 5, 6, 7, 8, 9, 10, 11, 12, 13, 14, 15, 16] [] rfl rfl rfl rfl rfl (by decide) (ci := 6) (q0 := 0) rfl rfl rfl rfl hl.1 rfl (Nat.le_of_ble_eq_true rfl) dX6_offer_125 ⟨Nat.zero_le _, Nat.zero_le _⟩ (fun H locs hP hD hS => ?_)
              have hP : va_P D vwCl (mwA ad cI cZ (mGoes K (nI 0))) _ := hP
              have hD : va_D A (mwA ad cI cZ (mGoes K (nI 0))) := hD
              refine zz_top (y := nI 1) (by decide) ?_
              refine lv_if_ne (tgt := 133) hx hb dX6_offer_128 (by decide) (fun c_5 => ?_) (fun c_5 => ?_)
              · skip
                refine lv_aload_n hx hb dX6_offer_133 rfl (lv_at hl 4 rfl) ?_
                refine va_get (D := D) (ci := 6) (v := .ref (ad 15)) (C := RX6) (T := TX6) (N := 21) hx hb hts hinX6 hown hK hP 0 rfl rfl 18 (by decide) (hts (.fieldLink RX6 56 "AuditoriumKeysModel" "offered" "[I") (List.mem_of_getElem? (i := 3) rfl)) (fun _ h9 => h9) rfl dX6_offer_134 ?_
                refine lv_iload_n hx hb dX6_offer_137 rfl (lv_at hl 6 rfl) ?_
                refine zz_top (y := nI q9) hq8 ?_
                refine lv_iload_n hx hb dX6_offer_138 rfl (lv_at hl 7 rfl) ?_
                refine zz_iast hx hb hK hP hD hS 15 0 rfl rfl q9 (by omega) (by decide) dX6_offer_139 (fun H locs hP hD hS => ?_)
                have hP : va_P D vwCl (mwA ad cI cZ (setA (mGoes K (nI 0)) 15 (upd ((mGoes K (nI 0)) 15) q9 x))) _ := hP
                have hD : va_D A (mwA ad cI cZ (setA (mGoes K (nI 0)) 15 (upd ((mGoes K (nI 0)) 15) q9 x))) := hD
                refine lv_iload hx hb dX6_offer_140 (lv_at hl 1 rfl) ?_
                have hT9 : mOffT K a9 s9 x = nI 0 := by simp [mOffT, c_1, hq7, c_2, c_3, c_5]
                have eK9 : (mPost (mOffT K a9 s9 x) K (mOffE K s9.toNatClampNeg x)) = (setA (mGoes K (nI 0)) 15 (upd ((mGoes K (nI 0)) 15) q9 x)) := by rw [hT9, mPost_0, hq7] <;> rfl
                have hP9 := hP
                have hD9 := hD
                rw [← eK9] at hP9 hD9
                have eR9 : mOffC K a9 s9 = mRes (mOffT K a9 s9 x) (mOffC K a9 s9) := by rw [hT9, mRes_0] <;> rfl
                exact W.iret (v := mOffC K a9 s9) hx hb hr (fun t ht hW => ⟨⟨mOffC K a9 s9, (), rfl, eR9, by rw [ht]; exact hP9, va_K.moved hW.alike hK, hD9⟩, hS.F ht⟩) hS.2.2 dX6_offer_142
              · skip
                exact absurd c_5 (by decide)
          · skip
            have c_2 := zb_f c_2
            refine lv_iconst (v := nI 2) hx hb dX6_offer_111 (by decide) ?_
            refine lv_goto (tgt := 125) hx hb dX6_offer_112 (by decide) ?_
            refine zc_wVi (As := [.int (nI 2)]) (rest := []) (wr := []) ⟨hx, hb, hml, hown, hts⟩ (kX6_goesWell l D cI cZ ad K _ (nI 2) ) (cwV 1 hts gX6_offer_X6_goesWell rfl rfl rfl (by decide +kernel) ⟨(Nat.le_of_ble_eq_true rfl), (Nat.le_of_ble_eq_true rfl)⟩) hK hP hD hS hA [0, 1, 2, 3, 4, 5, 6, 7, 8, 9, 10, 11, 12, 13, 14, 15, 16] [] rfl rfl rfl rfl rfl (by decide) (ci := 6) (q0 := 0) rfl rfl rfl rfl hl.1 rfl (Nat.le_of_ble_eq_true rfl) dX6_offer_125 ⟨Nat.zero_le _, Nat.zero_le _⟩ (fun H locs hP hD hS => ?_)
            have hP : va_P D vwCl (mwA ad cI cZ (mGoes K (nI 2))) _ := hP
            have hD : va_D A (mwA ad cI cZ (mGoes K (nI 2))) := hD
            refine zz_top (y := nI 0) (by decide) ?_
            refine lv_if_ne (tgt := 133) hx hb dX6_offer_128 (by decide) (fun c_6 => ?_) (fun c_6 => ?_)
            · skip
              exact absurd (show nI 0 = 0 from rfl) c_6
            · skip
              refine lv_iconst (v := nI 0) hx hb dX6_offer_131 (by decide) ?_
              have hT9 : mOffT K a9 s9 x = nI 2 := by simp [mOffT, c_1, hq7, c_2, eq_true c_6]
              have eK9 : (mPost (mOffT K a9 s9 x) K (mOffE K s9.toNatClampNeg x)) = (mGoes K (nI 2)) := by rw [hT9, mPost_2] <;> rfl
              have hP9 := hP
              have hD9 := hD
              rw [← eK9] at hP9 hD9
              have eR9 : nI 0 = mRes (mOffT K a9 s9 x) (mOffC K a9 s9) := by rw [hT9, mRes_2] <;> rfl
              exact W.iret (v := nI 0) hx hb hr (fun t ht hW => ⟨⟨nI 0, (), rfl, eR9, by rw [ht]; exact hP9, va_K.moved hW.alike hK, hD9⟩, hS.F ht⟩) hS.2.2 dX6_offer_132
        · skip
          have c_1 := zb_f c_1
          refine lv_iconst (v := nI 1) hx hb dX6_offer_102 (by decide) ?_
          refine lv_goto (tgt := 125) hx hb dX6_offer_103 (by decide) ?_
          refine zc_wVi (As := [.int (nI 1)]) (rest := []) (wr := []) ⟨hx, hb, hml, hown, hts⟩ (kX6_goesWell l D cI cZ ad K _ (nI 1) ) (cwV 1 hts gX6_offer_X6_goesWell rfl rfl rfl (by decide +kernel) ⟨(Nat.le_of_ble_eq_true rfl), (Nat.le_of_ble_eq_true rfl)⟩) hK hP hD hS hA [0, 1, 2, 3, 4, 5, 6, 7, 8, 9, 10, 11, 12, 13, 14, 15, 16] [] rfl rfl rfl rfl rfl (by decide) (ci := 6) (q0 := 0) rfl rfl rfl rfl hl.1 rfl (Nat.le_of_ble_eq_true rfl) dX6_offer_125 ⟨Nat.zero_le _, Nat.zero_le _⟩ (fun H locs hP hD hS => ?_)
          have hP : va_P D vwCl (mwA ad cI cZ (mGoes K (nI 1))) _ := hP
          have hD : va_D A (mwA ad cI cZ (mGoes K (nI 1))) := hD
          refine zz_top (y := nI 0) (by decide) ?_
          refine lv_if_ne (tgt := 133) hx hb dX6_offer_128 (by decide) (fun c_7 => ?_) (fun c_7 => ?_)
          · skip
            exact absurd (show nI 0 = 0 from rfl) c_7
          · skip
            refine lv_iconst (v := nI 0) hx hb dX6_offer_131 (by decide) ?_
            have hT9 : mOffT K a9 s9 x = nI 1 := by simp [mOffT, c_1, eq_true c_7]
            have eK9 : (mPost (mOffT K a9 s9 x) K (mOffE K s9.toNatClampNeg x)) = (mGoes K (nI 1)) := by rw [hT9, mPost_1] <;> rfl
            have hP9 := hP
            have hD9 := hD
            rw [← eK9] at hP9 hD9
            have eR9 : nI 0 = mRes (mOffT K a9 s9 x) (mOffC K a9 s9) := by rw [hT9, mRes_1] <;> rfl
            exact W.iret (v := nI 0) hx hb hr (fun t ht hW => ⟨⟨nI 0, (), rfl, eR9, by rw [ht]; exact hP9, va_K.moved hW.alike hK, hD9⟩, hS.F ht⟩) hS.2.2 dX6_offer_132
      refine lv_iload hx hb dX6_offer_54 (lv_at hl 2 rfl) ?_
      refine lv_if_eq (tgt := 93) hx hb dX6_offer_56 (by decide) (fun c_8 => ?_) (fun c_8 => ?_)
      · skip
        have c_8 := zb_f c_8
        refine lv_iconst (v := nI 0) hx hb dX6_offer_93 (by decide) ?_
        have ej_9 : zb (mOffOk K a9 s9 x) = nI 0 := (by simp [mOffOk, zb, c_8])
        refine zz_top ej_9.symm ?_
        exact j94 _ _ hP hD hS ls (lv_sub hl [0, 1, 2, 3, 4, 5, 6] rfl)
      · skip
        have c_8 := zb_t c_8
        obtain ⟨hAA, hBB⟩ : mIsP a9 = true ∧ mIsS s9 = true := by simpa [mOffA] using c_8
        obtain ⟨q9, hq9, hq8, hq7⟩ := mIsS_of hBB
        refine lv_iload hx hb dX6_offer_59 (lv_at hl 1 rfl) ?_
        refine lv_if_eq (tgt := 93) hx hb dX6_offer_61 (by decide) (fun c_10 => ?_) (fun c_10 => ?_)
        · skip
          have c_10 := zb_f c_10
          refine lv_iconst (v := nI 0) hx hb dX6_offer_93 (by decide) ?_
          have ej_11 : zb (mOffOk K a9 s9 x) = nI 0 := (by simp [mOffOk, zb, c_8, hq7, c_10])
          refine zz_top ej_11.symm ?_
          exact j94 _ _ hP hD hS ls (lv_sub hl [0, 1, 2, 3, 4, 5, 6] rfl)
        · skip
          have c_10 := zb_t c_10
          refine lv_aload_n hx hb dX6_offer_64 rfl (lv_at hl 3 rfl) ?_
          refine lv_iload_n hx hb dX6_offer_65 rfl (lv_at hl 5 rfl) ?_
          refine zz_top (y := nI q9) hq8 ?_
          refine zc_rV (As := [.int (nI q9)]) (rest := []) ⟨hx, hb, hml, hown, hts⟩ (kX6_stateOf l D cI cZ ad K q9 (by omega)) (cwV 1 hts gX6_offer_X6_stateOf rfl rfl rfl (by decide +kernel) ⟨(Nat.le_of_ble_eq_true rfl), (Nat.le_of_ble_eq_true rfl)⟩) hK hP (ci := 6) (q0 := 0) rfl rfl rfl rfl hl.1 rfl (Nat.le_of_ble_eq_true rfl) dX6_offer_66 ⟨Nat.zero_le _, Nat.zero_le _⟩ ?_
          refine lv_iconst (v := nI 2) hx hb dX6_offer_69 (by decide) ?_
          refine lv_icmp_ne (tgt := 93) hx hb dX6_offer_70 (by decide) (fun c_12 => ?_) (fun c_12 => ?_)
          · skip
            have c_12 : ¬ mState K q9 = nI 2 := c_12
            refine lv_iconst (v := nI 0) hx hb dX6_offer_93 (by decide) ?_
            have ej_13 : zb (mOffOk K a9 s9 x) = nI 0 := (by simp [mOffOk, zb, c_8, hq7, c_10, c_12])
            refine zz_top ej_13.symm ?_
            exact j94 _ _ hP hD hS ls (lv_sub hl [0, 1, 2, 3, 4, 5, 6] rfl)
          · skip
            have c_12 : mState K q9 = nI 2 := c_12
            refine lv_aload_n hx hb dX6_offer_73 rfl (lv_at hl 3 rfl) ?_
            refine va_get (D := D) (ci := 6) (v := .ref (ad 13)) (C := RX6) (T := TX6) (N := 21) hx hb hts hinX6 hown hK hP 0 rfl rfl 16 (by decide) (hts (.fieldLink RX6 50 "AuditoriumKeysModel" "owners" "[I") (List.mem_of_getElem? (i := 2) rfl)) (fun _ h9 => h9) rfl dX6_offer_74 ?_
            refine lv_iload_n hx hb dX6_offer_77 rfl (lv_at hl 5 rfl) ?_
            refine zz_top (y := nI q9) hq8 ?_
            refine zz_iald hx hb hK hP 13 0 rfl rfl q9 (by omega) (by decide) dX6_offer_78 ?_
            refine lv_iload_n hx hb dX6_offer_79 rfl (lv_at hl 4 rfl) ?_
            refine lv_icmp_ne (tgt := 93) hx hb dX6_offer_80 (by decide) (fun c_14 => ?_) (fun c_14 => ?_)
            · skip
              have c_14 : ¬ K 13 q9 = a9 := c_14
              refine lv_iconst (v := nI 0) hx hb dX6_offer_93 (by decide) ?_
              have ej_15 : zb (mOffOk K a9 s9 x) = nI 0 := (by simp [mOffOk, zb, c_8, hq7, c_10, eq_true c_12, c_14])
              refine zz_top ej_15.symm ?_
              exact j94 _ _ hP hD hS ls (lv_sub hl [0, 1, 2, 3, 4, 5, 6] rfl)
            · skip
              have c_14 : K 13 q9 = a9 := c_14
              refine lv_iload_n hx hb dX6_offer_83 rfl (lv_at hl 6 rfl) ?_
              refine lv_iload hx hb dX6_offer_84 (lv_at hl 0 rfl) ?_
              refine lv_icmp_gt (tgt := 93) hx hb dX6_offer_86 (by decide) (fun c_16 => ?_) (fun c_16 => ?_)
              · skip
                have c_16 : mOffC K a9 s9 < x := c_16
                refine lv_iconst (v := nI 0) hx hb dX6_offer_93 (by decide) ?_
                have ej_17 : zb (mOffOk K a9 s9 x) = nI 0 := (by simp [mOffOk, zb, c_8, hq7, c_10, eq_true c_12, eq_true c_14, c_16])
                refine zz_top ej_17.symm ?_
                exact j94 _ _ hP hD hS ls (lv_sub hl [0, 1, 2, 3, 4, 5, 6] rfl)
              · skip
                have c_16 : ¬ mOffC K a9 s9 < x := c_16
                refine lv_iconst (v := nI 1) hx hb dX6_offer_89 (by decide) ?_
                refine lv_goto (tgt := 94) hx hb dX6_offer_90 (by decide) ?_
                have ej_18 : zb (mOffOk K a9 s9 x) = nI 1 := (by simp [mOffOk, zb, c_8, hq7, c_10, eq_true c_12, eq_true c_14, c_16])
                refine zz_top ej_18.symm ?_
                exact j94 _ _ hP hD hS ls (lv_sub hl [0, 1, 2, 3, 4, 5, 6] rfl)
    refine lv_iload hx hb dX6_offer_31 (lv_at hl 1 rfl) ?_
    refine lv_if_eq (tgt := 51) hx hb dX6_offer_33 (by decide) (fun c_19 => ?_) (fun c_19 => ?_)
    · skip
      have c_19 := zb_f c_19
      refine lv_iconst (v := nI 0) hx hb dX6_offer_51 (by decide) ?_
      have ej_20 : mOffC K a9 s9 = nI 0 := (by simp [mOffC, c_19])
      refine zz_top ej_20.symm ?_
      exact j52 _ _ hP hD hS ls (lv_sub hl [0, 1, 2, 3, 4, 5] rfl)
    · skip
      have c_19 := zb_t c_19
      obtain ⟨hAA, hBB⟩ : mIsP a9 = true ∧ mIsS s9 = true := by simpa [mOffA] using c_19
      obtain ⟨q9, hq9, hq8, hq7⟩ := mIsS_of hBB
      refine lv_aload_n hx hb dX6_offer_36 rfl (lv_at hl 2 rfl) ?_
      refine va_get (D := D) (ci := 6) (v := .ref (ad 14)) (C := RX6) (T := TX6) (N := 21) hx hb hts hinX6 hown hK hP 0 rfl rfl 17 (by decide) (hts (.fieldLink RX6 53 "AuditoriumKeysModel" "worth" "[I") (List.mem_of_getElem? (i := 1) rfl)) (fun _ h9 => h9) rfl dX6_offer_37 ?_
      refine lv_iload_n hx hb dX6_offer_40 rfl (lv_at hl 4 rfl) ?_
      refine zz_top (y := nI q9) hq8 ?_
      refine zz_iald hx hb hK hP 14 0 rfl rfl q9 (by omega) (by decide) dX6_offer_41 ?_
      refine lv_bipush (v := nI 11) hx hb dX6_offer_42 (by decide) ?_
      refine lv_imul hx hb dX6_offer_44 ?_
      refine lv_bipush (v := nI 10) hx hb dX6_offer_45 (by decide) ?_
      refine lv_idiv hx hb dX6_offer_47 (by decide) ?_
      refine lv_goto (tgt := 52) hx hb dX6_offer_48 (by decide) ?_
      have ej_21 : mOffC K a9 s9 = ((K 14 q9) * (nI 11)) / (nI 10) := (by simp [mOffC, c_19, hq7])
      refine zz_top ej_21.symm ?_
      exact j52 _ _ hP hD hS ls (lv_sub hl [0, 1, 2, 3, 4, 5] rfl)
  refine lv_iload_n hx hb dX6_offer_0 rfl (lv_at hl 1 rfl) ?_
  refine zc_rS (As := [.int a9]) (rest := []) ⟨hx, hb, hml, hown, hts⟩ (kX6_isPerson l a9 ) (va_cwS 1 hts gX6_offer_X6_isPerson rfl rfl rfl (by decide +kernel) ⟨(Nat.le_of_ble_eq_true rfl), (Nat.le_of_ble_eq_true rfl)⟩) rfl hl.1 rfl (Nat.le_of_ble_eq_true rfl) dX6_offer_1 ⟨Nat.zero_le _, Nat.zero_le _⟩ ?_
  refine lv_if_eq (tgt := 18) hx hb dX6_offer_4 (by decide) (fun c_22 => ?_) (fun c_22 => ?_)
  · skip
    have c_22 := zb_f c_22
    refine lv_iconst (v := nI 0) hx hb dX6_offer_18 (by decide) ?_
    have ej_23 : zb (mOffA a9 s9) = nI 0 := (by simp [mOffA, zb, c_22])
    refine zz_top ej_23.symm ?_
    exact j19 _ _ hP hD hS ls (lv_sub hl [0, 1, 2, 3] rfl)
  · skip
    have c_22 := zb_t c_22
    refine lv_iload_n hx hb dX6_offer_7 rfl (lv_at hl 2 rfl) ?_
    refine zc_rS (As := [.int s9]) (rest := []) ⟨hx, hb, hml, hown, hts⟩ (kX6_isSeat l s9 ) (va_cwS 1 hts gX6_offer_X6_isSeat rfl rfl rfl (by decide +kernel) ⟨(Nat.le_of_ble_eq_true rfl), (Nat.le_of_ble_eq_true rfl)⟩) rfl hl.1 rfl (Nat.le_of_ble_eq_true rfl) dX6_offer_8 ⟨Nat.zero_le _, Nat.zero_le _⟩ ?_
    refine lv_if_eq (tgt := 18) hx hb dX6_offer_11 (by decide) (fun c_24 => ?_) (fun c_24 => ?_)
    · skip
      have c_24 := zb_f c_24
      refine lv_iconst (v := nI 0) hx hb dX6_offer_18 (by decide) ?_
      have ej_25 : zb (mOffA a9 s9) = nI 0 := (by simp [mOffA, zb, c_22, c_24])
      refine zz_top ej_25.symm ?_
      exact j19 _ _ hP hD hS ls (lv_sub hl [0, 1, 2, 3] rfl)
    · skip
      have c_24 := zb_t c_24
      refine lv_iconst (v := nI 1) hx hb dX6_offer_14 (by decide) ?_
      refine lv_goto (tgt := 19) hx hb dX6_offer_15 (by decide) ?_
      have ej_26 : zb (mOffA a9 s9) = nI 1 := (by simp [mOffA, zb, c_22, c_24])
      refine zz_top ej_26.symm ?_
      exact j19 _ _ hP hD hS ls (lv_sub hl [0, 1, 2, 3] rfl)
set_option maxHeartbeats 4000000 in
set_option maxRecDepth 100000 in
theorem kX6_hold (l : Launch) (D : va_G) (cI cZ : ClassId) (ad : Nat → Nat) (K : kS) (sz : Nat) (a1 : Int32) (r1 : Int32) (q1 : Int32) (m1 : Int32) (c1 : Int32) (n9 : Nat) (hn9 : n9 ≤ 10) (hc8 : K 0 3 = nI n9) : Met l yX6_hold wsX6_hold ({ frames := 5, cells := 0, slots := 0, locals := 115 }) (va_Pc [.ref (ad 0), .int a1, .int r1, .int q1, .int m1, .int c1] (zPr D (zTy cI cZ) (mwA ad cI cZ K) sz)) (va_Qi (fun r (_ : Unit) => r = mRes (mHoldT K a1 r1 q1 m1 c1) (mHCost (mGoes (mTry K a1.toNatClampNeg (mHF r1 q1) m1.toNatClampNeg) (nI 0)) (mHF r1 q1) m1.toNatClampNeg)) (fun _ => zPo D (zTy cI cZ) (va_A (mwA ad cI cZ K) sz) (mwA ad cI cZ (mPost (mHoldT K a1 r1 q1 m1 c1) (mHK K a1 r1 q1 m1 c1) (mHoldE K a1.toNatClampNeg (mHF r1 q1) m1.toNatClampNeg c1)))) (va_A (mwA ad cI cZ K) sz)) 0 0 (va_A (mwA ad cI cZ K) sz) := by
  refine Met.ofW (cc := cX6_hold) (maxL := 12) (ret := (some .int)) (by decide) rfl ?_
  intro pP e s m args below meth c s₁ B hml hv
  obtain ⟨rfl, hsz, hP, hK, hD0⟩ := hv
  have hx := B.exec
  have hb := B.bytes
  have hr := B.returns
  have hts := atoms_spec (ws := wsX6_hold) B.pre
  have hown : s.vm.findClass RX6 = some m.cls := findClass_of_methodNamed B.named
  have hlocks := B.notSynchronized
  subst hsz
  have hD := hD0.self (sz := s.heap.size)
  generalize hAe : va_A (mwA ad cI cZ K) s.heap.size = A at hD ⊢
  have hA : ∀ q : Nat, s.heap.size ≤ q → A q := fun q h => by rw [← hAe]; exact Or.inr h
  have hS : va_S A s.heap s.heap [] := va_S.rf
  have hinX6 : ∀ w ∈ u_ws RX6 TX6 21, w ∈ wsX6_hold := by decide +kernel
  have hl := lv_entry ([.ref (ad 0), .int a1, .int r1, .int q1, .int m1, .int c1]) (n := 12) (Nat.le_of_ble_eq_true rfl)
  rw [lg_entry_eq]
  generalize (lg_sl ([.ref (ad 0), .int a1, .int r1, .int q1, .int m1, .int c1]) ++ List.replicate (12 - (lg_sl ([.ref (ad 0), .int a1, .int r1, .int q1, .int m1, .int c1])).length) Slot.unset).toArray = ls at hl ⊢
  have hl : lv_has ls 12 [(0, .ref (ad 0)), (1, .int a1), (2, .int r1), (3, .int q1), (4, .int m1), (5, .int c1)] := hl
  have j44 : ∀ (H : Heap) (locs : List Loc), va_P D vwCl (mwA ad cI cZ K) H → va_D A (mwA ad cI cZ K) → va_S A s.heap H locs → ∀ ls : Array Slot, lv_has ls 12 [(0, .ref (ad 0)), (1, .int a1), (2, .int r1), (3, .int q1), (4, .int m1), (5, .int c1)] → W pP l e ({ frames := 5, cells := 0, slots := 0, locals := 115 } : Room) s m ([.ref (ad 0), .int a1, .int r1, .int q1, .int m1, .int c1] : List Value).toArray below meth c H locs 0 0 (MQ below (va_Qi (fun r (_ : Unit) => r = mRes (mHoldT K a1 r1 q1 m1 c1) (mHCost (mGoes (mTry K a1.toNatClampNeg (mHF r1 q1) m1.toNatClampNeg) (nI 0)) (mHF r1 q1) m1.toNatClampNeg)) (fun _ => zPo D (zTy cI cZ) A (mwA ad cI cZ (mPost (mHoldT K a1 r1 q1 m1 c1) (mHK K a1 r1 q1 m1 c1) (mHoldE K a1.toNatClampNeg (mHF r1 q1) m1.toNatClampNeg c1)))) A) ([.ref (ad 0), .int a1, .int r1, .int q1, .int m1, .int c1] : List Value).toArray s 0 0 A) (F0 m 44 ls [.int (zb (mHAre K a1 r1 q1 c1))]) := by
    intro H locs hP hD hS ls hl
    refine lv_istore (lv' := [(6, .int (zb (mHAre K a1 r1 q1 c1))), (0, .ref (ad 0)), (1, .int a1), (2, .int r1), (3, .int q1), (4, .int m1), (5, .int c1)]) hx hb dX6_hold_44 hl (by decide) rfl (fun ls hl => ?_)
    have j70 : ∀ (H : Heap) (locs : List Loc), va_P D vwCl (mwA ad cI cZ K) H → va_D A (mwA ad cI cZ K) → va_S A s.heap H locs → ∀ ls : Array Slot, lv_has ls 12 [(6, .int (zb (mHAre K a1 r1 q1 c1))), (0, .ref (ad 0)), (1, .int a1), (2, .int r1), (3, .int q1), (4, .int m1), (5, .int c1)] → W pP l e ({ frames := 5, cells := 0, slots := 0, locals := 115 } : Room) s m ([.ref (ad 0), .int a1, .int r1, .int q1, .int m1, .int c1] : List Value).toArray below meth c H locs 0 0 (MQ below (va_Qi (fun r (_ : Unit) => r = mRes (mHoldT K a1 r1 q1 m1 c1) (mHCost (mGoes (mTry K a1.toNatClampNeg (mHF r1 q1) m1.toNatClampNeg) (nI 0)) (mHF r1 q1) m1.toNatClampNeg)) (fun _ => zPo D (zTy cI cZ) A (mwA ad cI cZ (mPost (mHoldT K a1 r1 q1 m1 c1) (mHK K a1 r1 q1 m1 c1) (mHoldE K a1.toNatClampNeg (mHF r1 q1) m1.toNatClampNeg c1)))) A) ([.ref (ad 0), .int a1, .int r1, .int q1, .int m1, .int c1] : List Value).toArray s 0 0 A) (F0 m 70 ls [.int (zb (mHRng q1 m1))]) := by
      intro H locs hP hD hS ls hl
      refine lv_istore (lv' := [(7, .int (zb (mHRng q1 m1))), (6, .int (zb (mHAre K a1 r1 q1 c1))), (0, .ref (ad 0)), (1, .int a1), (2, .int r1), (3, .int q1), (4, .int m1), (5, .int c1)]) hx hb dX6_hold_70 hl (by decide) rfl (fun ls hl => ?_)
      have j87 : ∀ (H : Heap) (locs : List Loc), va_P D vwCl (mwA ad cI cZ K) H → va_D A (mwA ad cI cZ K) → va_S A s.heap H locs → ∀ ls : Array Slot, lv_has ls 12 [(7, .int (zb (mHRng q1 m1))), (6, .int (zb (mHAre K a1 r1 q1 c1))), (0, .ref (ad 0)), (1, .int a1), (2, .int r1), (3, .int q1), (4, .int m1), (5, .int c1)] → W pP l e ({ frames := 5, cells := 0, slots := 0, locals := 115 } : Room) s m ([.ref (ad 0), .int a1, .int r1, .int q1, .int m1, .int c1] : List Value).toArray below meth c H locs 0 0 (MQ below (va_Qi (fun r (_ : Unit) => r = mRes (mHoldT K a1 r1 q1 m1 c1) (mHCost (mGoes (mTry K a1.toNatClampNeg (mHF r1 q1) m1.toNatClampNeg) (nI 0)) (mHF r1 q1) m1.toNatClampNeg)) (fun _ => zPo D (zTy cI cZ) A (mwA ad cI cZ (mPost (mHoldT K a1 r1 q1 m1 c1) (mHK K a1 r1 q1 m1 c1) (mHoldE K a1.toNatClampNeg (mHF r1 q1) m1.toNatClampNeg c1)))) A) ([.ref (ad 0), .int a1, .int r1, .int q1, .int m1, .int c1] : List Value).toArray s 0 0 A) (F0 m 87 ls [.int (mHFst K a1 r1 q1 c1)]) := by
        intro H locs hP hD hS ls hl
        refine lv_istore (lv' := [(8, .int (mHFst K a1 r1 q1 c1)), (7, .int (zb (mHRng q1 m1))), (6, .int (zb (mHAre K a1 r1 q1 c1))), (0, .ref (ad 0)), (1, .int a1), (2, .int r1), (3, .int q1), (4, .int m1), (5, .int c1)]) hx hb dX6_hold_87 hl (by decide) rfl (fun ls hl => ?_)
        have j124 : ∀ (H : Heap) (locs : List Loc), va_P D vwCl (mwA ad cI cZ K) H → va_D A (mwA ad cI cZ K) → va_S A s.heap H locs → ∀ ls : Array Slot, lv_has ls 12 [(8, .int (mHFst K a1 r1 q1 c1)), (7, .int (zb (mHRng q1 m1))), (6, .int (zb (mHAre K a1 r1 q1 c1))), (0, .ref (ad 0)), (1, .int a1), (2, .int r1), (3, .int q1), (4, .int m1), (5, .int c1)] → W pP l e ({ frames := 5, cells := 0, slots := 0, locals := 115 } : Room) s m ([.ref (ad 0), .int a1, .int r1, .int q1, .int m1, .int c1] : List Value).toArray below meth c H locs 0 0 (MQ below (va_Qi (fun r (_ : Unit) => r = mRes (mHoldT K a1 r1 q1 m1 c1) (mHCost (mGoes (mTry K a1.toNatClampNeg (mHF r1 q1) m1.toNatClampNeg) (nI 0)) (mHF r1 q1) m1.toNatClampNeg)) (fun _ => zPo D (zTy cI cZ) A (mwA ad cI cZ (mPost (mHoldT K a1 r1 q1 m1 c1) (mHK K a1 r1 q1 m1 c1) (mHoldE K a1.toNatClampNeg (mHF r1 q1) m1.toNatClampNeg c1)))) A) ([.ref (ad 0), .int a1, .int r1, .int q1, .int m1, .int c1] : List Value).toArray s 0 0 A) (F0 m 124 ls [.int (zb (mHCan K a1 r1 q1 m1 c1))]) := by
          intro H locs hP hD hS ls hl
          refine lv_istore (lv' := [(9, .int (zb (mHCan K a1 r1 q1 m1 c1))), (8, .int (mHFst K a1 r1 q1 c1)), (7, .int (zb (mHRng q1 m1))), (6, .int (zb (mHAre K a1 r1 q1 c1))), (0, .ref (ad 0)), (1, .int a1), (2, .int r1), (3, .int q1), (4, .int m1), (5, .int c1)]) hx hb dX6_hold_124 hl (by decide) rfl (fun ls hl => ?_)
          have j160 : ∀ (H : Heap) (locs : List Loc), va_P D vwCl (mwA ad cI cZ (mHK K a1 r1 q1 m1 c1)) H → va_D A (mwA ad cI cZ (mHK K a1 r1 q1 m1 c1)) → va_S A s.heap H locs → ∀ ls : Array Slot, lv_has ls 12 [(9, .int (zb (mHCan K a1 r1 q1 m1 c1))), (8, .int (mHFst K a1 r1 q1 c1)), (7, .int (zb (mHRng q1 m1))), (6, .int (zb (mHAre K a1 r1 q1 c1))), (0, .ref (ad 0)), (1, .int a1), (2, .int r1), (3, .int q1), (4, .int m1), (5, .int c1)] → W pP l e ({ frames := 5, cells := 0, slots := 0, locals := 115 } : Room) s m ([.ref (ad 0), .int a1, .int r1, .int q1, .int m1, .int c1] : List Value).toArray below meth c H locs 0 0 (MQ below (va_Qi (fun r (_ : Unit) => r = mRes (mHoldT K a1 r1 q1 m1 c1) (mHCost (mGoes (mTry K a1.toNatClampNeg (mHF r1 q1) m1.toNatClampNeg) (nI 0)) (mHF r1 q1) m1.toNatClampNeg)) (fun _ => zPo D (zTy cI cZ) A (mwA ad cI cZ (mPost (mHoldT K a1 r1 q1 m1 c1) (mHK K a1 r1 q1 m1 c1) (mHoldE K a1.toNatClampNeg (mHF r1 q1) m1.toNatClampNeg c1)))) A) ([.ref (ad 0), .int a1, .int r1, .int q1, .int m1, .int c1] : List Value).toArray s 0 0 A) (F0 m 160 ls [.int (zb (mHOk K a1 r1 q1 m1 c1))]) := by
            intro H locs hP hD hS ls hl
            refine lv_istore (lv' := [(9, .int (zb (mHOk K a1 r1 q1 m1 c1))), (8, .int (mHFst K a1 r1 q1 c1)), (7, .int (zb (mHRng q1 m1))), (6, .int (zb (mHAre K a1 r1 q1 c1))), (0, .ref (ad 0)), (1, .int a1), (2, .int r1), (3, .int q1), (4, .int m1), (5, .int c1)]) hx hb dX6_hold_160 hl (by decide) rfl (fun ls hl => ?_)
            refine lv_aload_n hx hb dX6_hold_162 rfl (lv_at hl 4 rfl) ?_
            refine lv_iload hx hb dX6_hold_163 (lv_at hl 3 rfl) ?_
            refine lv_if_ne (tgt := 172) hx hb dX6_hold_165 (by decide) (fun c_1 => ?_) (fun c_1 => ?_)
            · skip
              have c_1 := zb_t c_1
              refine lv_iload hx hb dX6_hold_172 (lv_at hl 2 rfl) ?_
              refine lv_if_ne (tgt := 181) hx hb dX6_hold_174 (by decide) (fun c_2 => ?_) (fun c_2 => ?_)
              · skip
                have c_2 := zb_t c_2
                refine lv_iload hx hb dX6_hold_181 (lv_at hl 0 rfl) ?_
                refine lv_if_eq (tgt := 190) hx hb dX6_hold_183 (by decide) (fun c_3 => ?_) (fun c_3 => ?_)
                · skip
                  have c_3 := zb_f c_3
                  refine lv_iconst (v := nI 3) hx hb dX6_hold_190 (by decide) ?_
                  refine zc_wVi (As := [.int (nI 3)]) (rest := []) (wr := []) ⟨hx, hb, hml, hown, hts⟩ (kX6_goesWell l D cI cZ ad (mHK K a1 r1 q1 m1 c1) _ (nI 3) ) (cwV 1 hts gX6_hold_X6_goesWell rfl rfl rfl (by decide +kernel) ⟨(Nat.le_of_ble_eq_true rfl), (Nat.le_of_ble_eq_true rfl)⟩) hK hP hD hS hA [0, 1, 2, 3, 4, 5, 6, 7, 8, 9, 10, 11, 12, 13, 14, 15, 16] [] rfl rfl rfl rfl rfl (by decide) (ci := 6) (q0 := 0) rfl rfl rfl rfl hl.1 rfl (Nat.le_of_ble_eq_true rfl) dX6_hold_191 ⟨Nat.zero_le _, Nat.zero_le _⟩ (fun H locs hP hD hS => ?_)
                  have hP : va_P D vwCl (mwA ad cI cZ (mGoes (mHK K a1 r1 q1 m1 c1) (nI 3))) _ := hP
                  have hD : va_D A (mwA ad cI cZ (mGoes (mHK K a1 r1 q1 m1 c1) (nI 3))) := hD
                  refine zz_top (y := nI 0) (by decide) ?_
                  refine lv_if_ne (tgt := 199) hx hb dX6_hold_194 (by decide) (fun c_4 => ?_) (fun c_4 => ?_)
                  · skip
                    exact absurd (show nI 0 = 0 from rfl) c_4
                  · skip
                    refine lv_iconst (v := nI 0) hx hb dX6_hold_197 (by decide) ?_
                    have hT9 : mHoldT K a1 r1 q1 m1 c1 = nI 3 := by simp [mHoldT, c_1, c_2, c_3, eq_true c_4]
                    have eK9 : (mPost (mHoldT K a1 r1 q1 m1 c1) (mHK K a1 r1 q1 m1 c1) (mHoldE K a1.toNatClampNeg (mHF r1 q1) m1.toNatClampNeg c1)) = (mGoes (mHK K a1 r1 q1 m1 c1) (nI 3)) := by rw [hT9, mPost_3] <;> rfl
                    have hP9 := hP
                    have hD9 := hD
                    rw [← eK9] at hP9 hD9
                    have eR9 : nI 0 = mRes (mHoldT K a1 r1 q1 m1 c1) (mHCost (mGoes (mTry K a1.toNatClampNeg (mHF r1 q1) m1.toNatClampNeg) (nI 0)) (mHF r1 q1) m1.toNatClampNeg) := by rw [hT9, mRes_3] <;> rfl
                    exact W.iret (v := nI 0) hx hb hr (fun t ht hW => ⟨⟨nI 0, (), rfl, eR9, by rw [ht]; exact hP9, va_K.moved hW.alike hK, hD9⟩, hS.F ht⟩) hS.2.2 dX6_hold_198
                · skip
                  have c_3 := zb_t c_3
                  refine lv_iconst (v := nI 0) hx hb dX6_hold_186 (by decide) ?_
                  refine lv_goto (tgt := 191) hx hb dX6_hold_187 (by decide) ?_
                  refine zc_wVi (As := [.int (nI 0)]) (rest := []) (wr := []) ⟨hx, hb, hml, hown, hts⟩ (kX6_goesWell l D cI cZ ad (mHK K a1 r1 q1 m1 c1) _ (nI 0) ) (cwV 1 hts gX6_hold_X6_goesWell rfl rfl rfl (by decide +kernel) ⟨(Nat.le_of_ble_eq_true rfl), (Nat.le_of_ble_eq_true rfl)⟩) hK hP hD hS hA [0, 1, 2, 3, 4, 5, 6, 7, 8, 9, 10, 11, 12, 13, 14, 15, 16] [] rfl rfl rfl rfl rfl (by decide) (ci := 6) (q0 := 0) rfl rfl rfl rfl hl.1 rfl (Nat.le_of_ble_eq_true rfl) dX6_hold_191 ⟨Nat.zero_le _, Nat.zero_le _⟩ (fun H locs hP hD hS => ?_)
                  have hP : va_P D vwCl (mwA ad cI cZ (mGoes (mHK K a1 r1 q1 m1 c1) (nI 0))) _ := hP
                  have hD : va_D A (mwA ad cI cZ (mGoes (mHK K a1 r1 q1 m1 c1) (nI 0))) := hD
                  refine zz_top (y := nI 1) (by decide) ?_
                  refine lv_if_ne (tgt := 199) hx hb dX6_hold_194 (by decide) (fun c_5 => ?_) (fun c_5 => ?_)
                  · skip
                    have hok9 := c_3
                    have htr := mHOk_of hok9
                    have hcn := mHTry_of htr
                    obtain ⟨hAA, hBB⟩ := mHCan_of hcn
                    obtain ⟨p9, r9, q9, hp9, hr9, hq9, hp8, hr8, hq8, hp7, hr7, hq7, hcc⟩ := mHAre_of hAA
                    have hF8 := mHFst_at hAA hr8 hq8
                    have hrg : mHRng (nI q9) m1 = true := by rw [← hq8]; exact hBB
                    obtain ⟨m9, hm9, hm6, hm8, hm7, hqm⟩ := mHRng_of hq9 hrg
                    have hF7 : mHF r1 q1 = 10 * r9 + q9 := by unfold mHF; rw [hr7, hq7]
                    have hKK : mHK K a1 r1 q1 m1 c1 = mTry K p9 (10 * r9 + q9) m9 := by unfold mHK; rw [if_pos htr, hp7, hF7, hm7]
                    rw [hKK] at hP hD
                    have hl : lv_has ls 12 [(8, .int (mHFst K a1 r1 q1 c1)), (0, .ref (ad 0)), (1, .int a1), (4, .int m1), (5, .int c1)] := lv_sub hl [1, 4, 5, 8, 9] rfl
                    rw [hF8, hm8] at hl
                    refine lv_iconst (v := nI 0) hx hb dX6_hold_199 (by decide) ?_
                    refine lv_istore (lv' := [(10, .int (nI 0)), (8, .int (nI (10 * r9 + q9))), (0, .ref (ad 0)), (1, .int a1), (4, .int (nI m9)), (5, .int c1)]) hx hb dX6_hold_200 hl (by decide) rfl (fun ls hl => ?_)
                    refine lv_iload hx hb dX6_hold_202 (lv_at hl 1 rfl) ?_
                    refine lv_istore (lv' := [(11, .int (nI (10 * r9 + q9))), (10, .int (nI 0)), (8, .int (nI (10 * r9 + q9))), (0, .ref (ad 0)), (1, .int a1), (4, .int (nI m9)), (5, .int c1)]) hx hb dX6_hold_204 hl (by decide) rfl (fun ls hl => ?_)
                    have lp_a : ∀ (n k : Nat), 0 ≤ k → k ≤ m9 → m9 - k < n → ∀ (H : Heap) (locs : List Loc), va_P D vwCl (mwA ad cI cZ (mGoes (mTry K p9 (10 * r9 + q9) m9) (nI 0))) H → va_D A (mwA ad cI cZ (mGoes (mTry K p9 (10 * r9 + q9) m9) (nI 0))) → va_S A s.heap H locs → ∀ ls : Array Slot, lv_has ls 12 [(11, .int (nI (10 * r9 + q9 + k))), (10, .int (mHCost (mGoes (mTry K p9 (10 * r9 + q9) m9) (nI 0)) (10 * r9 + q9) k)), (8, .int (nI (10 * r9 + q9))), (0, .ref (ad 0)), (1, .int a1), (4, .int (nI m9)), (5, .int c1)] → W pP l e ({ frames := 5, cells := 0, slots := 0, locals := 115 } : Room) s m ([.ref (ad 0), .int a1, .int r1, .int q1, .int m1, .int c1] : List Value).toArray below meth c H locs 0 0 (MQ below (va_Qi (fun r (_ : Unit) => r = mRes (mHoldT K a1 r1 q1 m1 c1) (mHCost (mGoes (mTry K a1.toNatClampNeg (mHF r1 q1) m1.toNatClampNeg) (nI 0)) (mHF r1 q1) m1.toNatClampNeg)) (fun _ => zPo D (zTy cI cZ) A (mwA ad cI cZ (mPost (mHoldT K a1 r1 q1 m1 c1) (mHK K a1 r1 q1 m1 c1) (mHoldE K a1.toNatClampNeg (mHF r1 q1) m1.toNatClampNeg c1)))) A) ([.ref (ad 0), .int a1, .int r1, .int q1, .int m1, .int c1] : List Value).toArray s 0 0 A) (F0 m 206 ls []) := by
                      intro n
                      induction n with
                      | zero => intro k _ _ h; exact absurd h (Nat.not_lt_zero _)
                      | succ n ih_a =>
                        intro k hlo_a hin_a hdn_a  H locs hP hD hS ls hl
                        refine lv_iload hx hb dX6_hold_206 (lv_at hl 0 rfl) ?_
                        refine lv_iload hx hb dX6_hold_208 (lv_at hl 2 rfl) ?_
                        refine lv_iload hx hb dX6_hold_210 (lv_at hl 5 rfl) ?_
                        refine lv_iadd hx hb dX6_hold_212 ?_
                        refine zz_top (y := nI (10 * r9 + q9 + m9)) ((nI_add (10 * r9 + q9) m9).trans (congrArg nI (by omega))) ?_
                        refine lv_icmp_ge (tgt := 233) hx hb dX6_hold_213 (by decide) (fun c_6 => ?_) (fun c_6 => ?_)
                        · skip
                          have c_6 := (nI_leI (a := (10 * r9 + q9 + m9)) (b := (10 * r9 + q9 + k)) (by omega) (by omega)).mp c_6
                          have hk8 : m9 = k := by omega
                          subst hk8
                          refine lv_aload_n hx hb dX6_hold_233 rfl (lv_at hl 3 rfl) ?_
                          refine va_get (D := D) (ci := 6) (v := .ref (ad 4)) (C := RX6) (T := TX6) (N := 21) hx hb hts hinX6 hown hK hP 0 rfl rfl 7 (by decide) (hts (.fieldLink RX6 23 "AuditoriumKeysModel" "cameAt" "[I") (List.mem_of_getElem? (i := 1) rfl)) (fun _ h9 => h9) rfl dX6_hold_234 ?_
                          refine lv_iload_n hx hb dX6_hold_237 rfl (lv_at hl 4 rfl) ?_
                          refine zz_top (y := nI p9) hp8 ?_
                          refine lv_iconst (v := (-1)) hx hb dX6_hold_238 (by decide) ?_
                          refine zz_iast hx hb hK hP hD hS 4 0 rfl rfl p9 (by omega) (by decide) dX6_hold_239 (fun H locs hP hD hS => ?_)
                          have hP : va_P D vwCl (mwA ad cI cZ (setA (mGoes (mTry K p9 (10 * r9 + q9) m9) (nI 0)) 4 (upd ((mGoes (mTry K p9 (10 * r9 + q9) m9) (nI 0)) 4) p9 (-1)))) _ := hP
                          have hD : va_D A (mwA ad cI cZ (setA (mGoes (mTry K p9 (10 * r9 + q9) m9) (nI 0)) 4 (upd ((mGoes (mTry K p9 (10 * r9 + q9) m9) (nI 0)) 4) p9 (-1)))) := hD
                          refine lv_aload_n hx hb dX6_hold_240 rfl (lv_at hl 3 rfl) ?_
                          refine va_get (D := D) (ci := 6) (v := .ref (ad 5)) (C := RX6) (T := TX6) (N := 21) hx hb hts hinX6 hown hK hP 0 rfl rfl 8 (by decide) (hts (.fieldLink RX6 26 "AuditoriumKeysModel" "firsts" "[I") (List.mem_of_getElem? (i := 2) rfl)) (fun _ h9 => h9) rfl dX6_hold_241 ?_
                          refine lv_iload_n hx hb dX6_hold_244 rfl (lv_at hl 4 rfl) ?_
                          refine zz_top (y := nI p9) hp8 ?_
                          refine lv_iload hx hb dX6_hold_245 (lv_at hl 2 rfl) ?_
                          refine zz_iast hx hb hK hP hD hS 5 0 rfl rfl p9 (by omega) (by decide) dX6_hold_247 (fun H locs hP hD hS => ?_)
                          have hP : va_P D vwCl (mwA ad cI cZ (setA (setA (mGoes (mTry K p9 (10 * r9 + q9) m9) (nI 0)) 4 (upd ((mGoes (mTry K p9 (10 * r9 + q9) m9) (nI 0)) 4) p9 (-1))) 5 (upd ((mGoes (mTry K p9 (10 * r9 + q9) m9) (nI 0)) 5) p9 (nI (10 * r9 + q9))))) _ := hP
                          have hD : va_D A (mwA ad cI cZ (setA (setA (mGoes (mTry K p9 (10 * r9 + q9) m9) (nI 0)) 4 (upd ((mGoes (mTry K p9 (10 * r9 + q9) m9) (nI 0)) 4) p9 (-1))) 5 (upd ((mGoes (mTry K p9 (10 * r9 + q9) m9) (nI 0)) 5) p9 (nI (10 * r9 + q9))))) := hD
                          refine lv_aload_n hx hb dX6_hold_248 rfl (lv_at hl 3 rfl) ?_
                          refine va_get (D := D) (ci := 6) (v := .ref (ad 6)) (C := RX6) (T := TX6) (N := 21) hx hb hts hinX6 hown hK hP 0 rfl rfl 9 (by decide) (hts (.fieldLink RX6 29 "AuditoriumKeysModel" "manies" "[I") (List.mem_of_getElem? (i := 3) rfl)) (fun _ h9 => h9) rfl dX6_hold_249 ?_
                          refine lv_iload_n hx hb dX6_hold_252 rfl (lv_at hl 4 rfl) ?_
                          refine zz_top (y := nI p9) hp8 ?_
                          refine lv_iload hx hb dX6_hold_253 (lv_at hl 5 rfl) ?_
                          refine zz_iast hx hb hK hP hD hS 6 0 rfl rfl p9 (by omega) (by decide) dX6_hold_255 (fun H locs hP hD hS => ?_)
                          have hP : va_P D vwCl (mwA ad cI cZ (setA (setA (setA (mGoes (mTry K p9 (10 * r9 + q9) m9) (nI 0)) 4 (upd ((mGoes (mTry K p9 (10 * r9 + q9) m9) (nI 0)) 4) p9 (-1))) 5 (upd ((mGoes (mTry K p9 (10 * r9 + q9) m9) (nI 0)) 5) p9 (nI (10 * r9 + q9)))) 6 (upd ((mGoes (mTry K p9 (10 * r9 + q9) m9) (nI 0)) 6) p9 (nI m9)))) _ := hP
                          have hD : va_D A (mwA ad cI cZ (setA (setA (setA (mGoes (mTry K p9 (10 * r9 + q9) m9) (nI 0)) 4 (upd ((mGoes (mTry K p9 (10 * r9 + q9) m9) (nI 0)) 4) p9 (-1))) 5 (upd ((mGoes (mTry K p9 (10 * r9 + q9) m9) (nI 0)) 5) p9 (nI (10 * r9 + q9)))) 6 (upd ((mGoes (mTry K p9 (10 * r9 + q9) m9) (nI 0)) 6) p9 (nI m9)))) := hD
                          refine lv_aload_n hx hb dX6_hold_256 rfl (lv_at hl 3 rfl) ?_
                          refine va_get (D := D) (ci := 6) (v := .ref (ad 7)) (C := RX6) (T := TX6) (N := 21) hx hb hts hinX6 hown hK hP 0 rfl rfl 10 (by decide) (hts (.fieldLink RX6 32 "AuditoriumKeysModel" "byCode" "[I") (List.mem_of_getElem? (i := 4) rfl)) (fun _ h9 => h9) rfl dX6_hold_257 ?_
                          refine lv_iload_n hx hb dX6_hold_260 rfl (lv_at hl 4 rfl) ?_
                          refine zz_top (y := nI p9) hp8 ?_
                          refine lv_iload hx hb dX6_hold_261 (lv_at hl 6 rfl) ?_
                          refine zz_iast hx hb hK hP hD hS 7 0 rfl rfl p9 (by omega) (by decide) dX6_hold_263 (fun H locs hP hD hS => ?_)
                          have hP : va_P D vwCl (mwA ad cI cZ (setA (setA (setA (setA (mGoes (mTry K p9 (10 * r9 + q9) m9) (nI 0)) 4 (upd ((mGoes (mTry K p9 (10 * r9 + q9) m9) (nI 0)) 4) p9 (-1))) 5 (upd ((mGoes (mTry K p9 (10 * r9 + q9) m9) (nI 0)) 5) p9 (nI (10 * r9 + q9)))) 6 (upd ((mGoes (mTry K p9 (10 * r9 + q9) m9) (nI 0)) 6) p9 (nI m9))) 7 (upd ((mGoes (mTry K p9 (10 * r9 + q9) m9) (nI 0)) 7) p9 c1))) _ := hP
                          have hD : va_D A (mwA ad cI cZ (setA (setA (setA (setA (mGoes (mTry K p9 (10 * r9 + q9) m9) (nI 0)) 4 (upd ((mGoes (mTry K p9 (10 * r9 + q9) m9) (nI 0)) 4) p9 (-1))) 5 (upd ((mGoes (mTry K p9 (10 * r9 + q9) m9) (nI 0)) 5) p9 (nI (10 * r9 + q9)))) 6 (upd ((mGoes (mTry K p9 (10 * r9 + q9) m9) (nI 0)) 6) p9 (nI m9))) 7 (upd ((mGoes (mTry K p9 (10 * r9 + q9) m9) (nI 0)) 7) p9 c1))) := hD
                          refine lv_aload_n hx hb dX6_hold_264 rfl (lv_at hl 3 rfl) ?_
                          refine va_get (D := D) (ci := 6) (v := .ref (ad 8)) (C := RX6) (T := TX6) (N := 21) hx hb hts hinX6 hown hK hP 0 rfl rfl 11 (by decide) (hts (.fieldLink RX6 35 "AuditoriumKeysModel" "costs" "[I") (List.mem_of_getElem? (i := 5) rfl)) (fun _ h9 => h9) rfl dX6_hold_265 ?_
                          refine lv_iload_n hx hb dX6_hold_268 rfl (lv_at hl 4 rfl) ?_
                          refine zz_top (y := nI p9) hp8 ?_
                          refine lv_iload hx hb dX6_hold_269 (lv_at hl 1 rfl) ?_
                          refine zz_iast hx hb hK hP hD hS 8 0 rfl rfl p9 (by omega) (by decide) dX6_hold_271 (fun H locs hP hD hS => ?_)
                          have hP : va_P D vwCl (mwA ad cI cZ (setA (setA (setA (setA (setA (mGoes (mTry K p9 (10 * r9 + q9) m9) (nI 0)) 4 (upd ((mGoes (mTry K p9 (10 * r9 + q9) m9) (nI 0)) 4) p9 (-1))) 5 (upd ((mGoes (mTry K p9 (10 * r9 + q9) m9) (nI 0)) 5) p9 (nI (10 * r9 + q9)))) 6 (upd ((mGoes (mTry K p9 (10 * r9 + q9) m9) (nI 0)) 6) p9 (nI m9))) 7 (upd ((mGoes (mTry K p9 (10 * r9 + q9) m9) (nI 0)) 7) p9 c1)) 8 (upd ((mGoes (mTry K p9 (10 * r9 + q9) m9) (nI 0)) 8) p9 (mHCost (mGoes (mTry K p9 (10 * r9 + q9) m9) (nI 0)) (10 * r9 + q9) m9)))) _ := hP
                          have hD : va_D A (mwA ad cI cZ (setA (setA (setA (setA (setA (mGoes (mTry K p9 (10 * r9 + q9) m9) (nI 0)) 4 (upd ((mGoes (mTry K p9 (10 * r9 + q9) m9) (nI 0)) 4) p9 (-1))) 5 (upd ((mGoes (mTry K p9 (10 * r9 + q9) m9) (nI 0)) 5) p9 (nI (10 * r9 + q9)))) 6 (upd ((mGoes (mTry K p9 (10 * r9 + q9) m9) (nI 0)) 6) p9 (nI m9))) 7 (upd ((mGoes (mTry K p9 (10 * r9 + q9) m9) (nI 0)) 7) p9 c1)) 8 (upd ((mGoes (mTry K p9 (10 * r9 + q9) m9) (nI 0)) 8) p9 (mHCost (mGoes (mTry K p9 (10 * r9 + q9) m9) (nI 0)) (10 * r9 + q9) m9)))) := hD
                          refine lv_aload_n hx hb dX6_hold_272 rfl (lv_at hl 3 rfl) ?_
                          refine va_get (D := D) (ci := 6) (v := .ref (ad 9)) (C := RX6) (T := TX6) (N := 21) hx hb hts hinX6 hown hK hP 0 rfl rfl 12 (by decide) (hts (.fieldLink RX6 38 "AuditoriumKeysModel" "paid" "[I") (List.mem_of_getElem? (i := 6) rfl)) (fun _ h9 => h9) rfl dX6_hold_273 ?_
                          refine lv_iload_n hx hb dX6_hold_276 rfl (lv_at hl 4 rfl) ?_
                          refine zz_top (y := nI p9) hp8 ?_
                          refine lv_iconst (v := nI 0) hx hb dX6_hold_277 (by decide) ?_
                          refine zz_iast hx hb hK hP hD hS 9 0 rfl rfl p9 (by omega) (by decide) dX6_hold_278 (fun H locs hP hD hS => ?_)
                          have hP : va_P D vwCl (mwA ad cI cZ (setA (setA (setA (setA (setA (setA (mGoes (mTry K p9 (10 * r9 + q9) m9) (nI 0)) 4 (upd ((mGoes (mTry K p9 (10 * r9 + q9) m9) (nI 0)) 4) p9 (-1))) 5 (upd ((mGoes (mTry K p9 (10 * r9 + q9) m9) (nI 0)) 5) p9 (nI (10 * r9 + q9)))) 6 (upd ((mGoes (mTry K p9 (10 * r9 + q9) m9) (nI 0)) 6) p9 (nI m9))) 7 (upd ((mGoes (mTry K p9 (10 * r9 + q9) m9) (nI 0)) 7) p9 c1)) 8 (upd ((mGoes (mTry K p9 (10 * r9 + q9) m9) (nI 0)) 8) p9 (mHCost (mGoes (mTry K p9 (10 * r9 + q9) m9) (nI 0)) (10 * r9 + q9) m9))) 9 (upd ((mGoes (mTry K p9 (10 * r9 + q9) m9) (nI 0)) 9) p9 (nI 0)))) _ := hP
                          have hD : va_D A (mwA ad cI cZ (setA (setA (setA (setA (setA (setA (mGoes (mTry K p9 (10 * r9 + q9) m9) (nI 0)) 4 (upd ((mGoes (mTry K p9 (10 * r9 + q9) m9) (nI 0)) 4) p9 (-1))) 5 (upd ((mGoes (mTry K p9 (10 * r9 + q9) m9) (nI 0)) 5) p9 (nI (10 * r9 + q9)))) 6 (upd ((mGoes (mTry K p9 (10 * r9 + q9) m9) (nI 0)) 6) p9 (nI m9))) 7 (upd ((mGoes (mTry K p9 (10 * r9 + q9) m9) (nI 0)) 7) p9 c1)) 8 (upd ((mGoes (mTry K p9 (10 * r9 + q9) m9) (nI 0)) 8) p9 (mHCost (mGoes (mTry K p9 (10 * r9 + q9) m9) (nI 0)) (10 * r9 + q9) m9))) 9 (upd ((mGoes (mTry K p9 (10 * r9 + q9) m9) (nI 0)) 9) p9 (nI 0)))) := hD
                          refine lv_aload_n hx hb dX6_hold_279 rfl (lv_at hl 3 rfl) ?_
                          refine va_get (D := D) (ci := 6) (v := .ref (ad 10)) (C := RX6) (T := TX6) (N := 21) hx hb hts hinX6 hown hK hP 0 rfl rfl 13 (by decide) (hts (.fieldLink RX6 41 "AuditoriumKeysModel" "madeAt" "[I") (List.mem_of_getElem? (i := 7) rfl)) (fun _ h9 => h9) rfl dX6_hold_280 ?_
                          refine lv_iload_n hx hb dX6_hold_283 rfl (lv_at hl 4 rfl) ?_
                          refine zz_top (y := nI p9) hp8 ?_
                          refine lv_aload_n hx hb dX6_hold_284 rfl (lv_at hl 3 rfl) ?_
                          refine va_get (D := D) (ci := 6) (v := .int ((mGoes (mTry K p9 (10 * r9 + q9) m9) (nI 0)) 0 1)) (C := RX6) (T := TX6) (N := 21) hx hb hts hinX6 hown hK hP 0 rfl rfl 1 (by decide) (hts (.fieldLink RX6 80 "AuditoriumKeysModel" "time" "I") (List.mem_of_getElem? (i := 8) rfl)) (fun _ h9 => h9) rfl dX6_hold_285 ?_
                          refine zz_iast hx hb hK hP hD hS 10 0 rfl rfl p9 (by omega) (by decide) dX6_hold_288 (fun H locs hP hD hS => ?_)
                          have hP : va_P D vwCl (mwA ad cI cZ (setA (setA (setA (setA (setA (setA (setA (mGoes (mTry K p9 (10 * r9 + q9) m9) (nI 0)) 4 (upd ((mGoes (mTry K p9 (10 * r9 + q9) m9) (nI 0)) 4) p9 (-1))) 5 (upd ((mGoes (mTry K p9 (10 * r9 + q9) m9) (nI 0)) 5) p9 (nI (10 * r9 + q9)))) 6 (upd ((mGoes (mTry K p9 (10 * r9 + q9) m9) (nI 0)) 6) p9 (nI m9))) 7 (upd ((mGoes (mTry K p9 (10 * r9 + q9) m9) (nI 0)) 7) p9 c1)) 8 (upd ((mGoes (mTry K p9 (10 * r9 + q9) m9) (nI 0)) 8) p9 (mHCost (mGoes (mTry K p9 (10 * r9 + q9) m9) (nI 0)) (10 * r9 + q9) m9))) 9 (upd ((mGoes (mTry K p9 (10 * r9 + q9) m9) (nI 0)) 9) p9 (nI 0))) 10 (upd ((mGoes (mTry K p9 (10 * r9 + q9) m9) (nI 0)) 10) p9 ((mGoes (mTry K p9 (10 * r9 + q9) m9) (nI 0)) 0 1)))) _ := hP
                          have hD : va_D A (mwA ad cI cZ (setA (setA (setA (setA (setA (setA (setA (mGoes (mTry K p9 (10 * r9 + q9) m9) (nI 0)) 4 (upd ((mGoes (mTry K p9 (10 * r9 + q9) m9) (nI 0)) 4) p9 (-1))) 5 (upd ((mGoes (mTry K p9 (10 * r9 + q9) m9) (nI 0)) 5) p9 (nI (10 * r9 + q9)))) 6 (upd ((mGoes (mTry K p9 (10 * r9 + q9) m9) (nI 0)) 6) p9 (nI m9))) 7 (upd ((mGoes (mTry K p9 (10 * r9 + q9) m9) (nI 0)) 7) p9 c1)) 8 (upd ((mGoes (mTry K p9 (10 * r9 + q9) m9) (nI 0)) 8) p9 (mHCost (mGoes (mTry K p9 (10 * r9 + q9) m9) (nI 0)) (10 * r9 + q9) m9))) 9 (upd ((mGoes (mTry K p9 (10 * r9 + q9) m9) (nI 0)) 9) p9 (nI 0))) 10 (upd ((mGoes (mTry K p9 (10 * r9 + q9) m9) (nI 0)) 10) p9 ((mGoes (mTry K p9 (10 * r9 + q9) m9) (nI 0)) 0 1)))) := hD
                          refine lv_aload_n hx hb dX6_hold_289 rfl (lv_at hl 3 rfl) ?_
                          refine va_get (D := D) (ci := 6) (v := .ref (ad 11)) (C := RX6) (T := TX6) (N := 21) hx hb hts hinX6 hown hK hP 0 rfl rfl 14 (by decide) (hts (.fieldLink RX6 44 "AuditoriumKeysModel" "lapsesAt" "[I") (List.mem_of_getElem? (i := 9) rfl)) (fun _ h9 => h9) rfl dX6_hold_290 ?_
                          refine lv_iload_n hx hb dX6_hold_293 rfl (lv_at hl 4 rfl) ?_
                          refine zz_top (y := nI p9) hp8 ?_
                          refine lv_aload_n hx hb dX6_hold_294 rfl (lv_at hl 3 rfl) ?_
                          refine va_get (D := D) (ci := 6) (v := .int ((mGoes (mTry K p9 (10 * r9 + q9) m9) (nI 0)) 0 1)) (C := RX6) (T := TX6) (N := 21) hx hb hts hinX6 hown hK hP 0 rfl rfl 1 (by decide) (hts (.fieldLink RX6 80 "AuditoriumKeysModel" "time" "I") (List.mem_of_getElem? (i := 8) rfl)) (fun _ h9 => h9) rfl dX6_hold_295 ?_
                          refine lv_bipush (v := nI 10) hx hb dX6_hold_298 (by decide) ?_
                          refine lv_iadd hx hb dX6_hold_300 ?_
                          refine zz_iast hx hb hK hP hD hS 11 0 rfl rfl p9 (by omega) (by decide) dX6_hold_301 (fun H locs hP hD hS => ?_)
                          have hP : va_P D vwCl (mwA ad cI cZ (setA (setA (setA (setA (setA (setA (setA (setA (mGoes (mTry K p9 (10 * r9 + q9) m9) (nI 0)) 4 (upd ((mGoes (mTry K p9 (10 * r9 + q9) m9) (nI 0)) 4) p9 (-1))) 5 (upd ((mGoes (mTry K p9 (10 * r9 + q9) m9) (nI 0)) 5) p9 (nI (10 * r9 + q9)))) 6 (upd ((mGoes (mTry K p9 (10 * r9 + q9) m9) (nI 0)) 6) p9 (nI m9))) 7 (upd ((mGoes (mTry K p9 (10 * r9 + q9) m9) (nI 0)) 7) p9 c1)) 8 (upd ((mGoes (mTry K p9 (10 * r9 + q9) m9) (nI 0)) 8) p9 (mHCost (mGoes (mTry K p9 (10 * r9 + q9) m9) (nI 0)) (10 * r9 + q9) m9))) 9 (upd ((mGoes (mTry K p9 (10 * r9 + q9) m9) (nI 0)) 9) p9 (nI 0))) 10 (upd ((mGoes (mTry K p9 (10 * r9 + q9) m9) (nI 0)) 10) p9 ((mGoes (mTry K p9 (10 * r9 + q9) m9) (nI 0)) 0 1))) 11 (upd ((mGoes (mTry K p9 (10 * r9 + q9) m9) (nI 0)) 11) p9 (((mGoes (mTry K p9 (10 * r9 + q9) m9) (nI 0)) 0 1) + (nI 10))))) _ := hP
                          have hD : va_D A (mwA ad cI cZ (setA (setA (setA (setA (setA (setA (setA (setA (mGoes (mTry K p9 (10 * r9 + q9) m9) (nI 0)) 4 (upd ((mGoes (mTry K p9 (10 * r9 + q9) m9) (nI 0)) 4) p9 (-1))) 5 (upd ((mGoes (mTry K p9 (10 * r9 + q9) m9) (nI 0)) 5) p9 (nI (10 * r9 + q9)))) 6 (upd ((mGoes (mTry K p9 (10 * r9 + q9) m9) (nI 0)) 6) p9 (nI m9))) 7 (upd ((mGoes (mTry K p9 (10 * r9 + q9) m9) (nI 0)) 7) p9 c1)) 8 (upd ((mGoes (mTry K p9 (10 * r9 + q9) m9) (nI 0)) 8) p9 (mHCost (mGoes (mTry K p9 (10 * r9 + q9) m9) (nI 0)) (10 * r9 + q9) m9))) 9 (upd ((mGoes (mTry K p9 (10 * r9 + q9) m9) (nI 0)) 9) p9 (nI 0))) 10 (upd ((mGoes (mTry K p9 (10 * r9 + q9) m9) (nI 0)) 10) p9 ((mGoes (mTry K p9 (10 * r9 + q9) m9) (nI 0)) 0 1))) 11 (upd ((mGoes (mTry K p9 (10 * r9 + q9) m9) (nI 0)) 11) p9 (((mGoes (mTry K p9 (10 * r9 + q9) m9) (nI 0)) 0 1) + (nI 10))))) := hD
                          refine lv_iload hx hb dX6_hold_302 (lv_at hl 1 rfl) ?_
                          have hT9 : mHoldT K a1 r1 q1 m1 c1 = nI 0 := by simp [mHoldT, c_1, c_2, c_3, c_5, hin_a, c_6]
                          have eK9 : (mPost (mHoldT K a1 r1 q1 m1 c1) (mHK K a1 r1 q1 m1 c1) (mHoldE K a1.toNatClampNeg (mHF r1 q1) m1.toNatClampNeg c1)) = (setA (setA (setA (setA (setA (setA (setA (setA (mGoes (mTry K p9 (10 * r9 + q9) m9) (nI 0)) 4 (upd ((mGoes (mTry K p9 (10 * r9 + q9) m9) (nI 0)) 4) p9 (-1))) 5 (upd ((mGoes (mTry K p9 (10 * r9 + q9) m9) (nI 0)) 5) p9 (nI (10 * r9 + q9)))) 6 (upd ((mGoes (mTry K p9 (10 * r9 + q9) m9) (nI 0)) 6) p9 (nI m9))) 7 (upd ((mGoes (mTry K p9 (10 * r9 + q9) m9) (nI 0)) 7) p9 c1)) 8 (upd ((mGoes (mTry K p9 (10 * r9 + q9) m9) (nI 0)) 8) p9 (mHCost (mGoes (mTry K p9 (10 * r9 + q9) m9) (nI 0)) (10 * r9 + q9) m9))) 9 (upd ((mGoes (mTry K p9 (10 * r9 + q9) m9) (nI 0)) 9) p9 (nI 0))) 10 (upd ((mGoes (mTry K p9 (10 * r9 + q9) m9) (nI 0)) 10) p9 ((mGoes (mTry K p9 (10 * r9 + q9) m9) (nI 0)) 0 1))) 11 (upd ((mGoes (mTry K p9 (10 * r9 + q9) m9) (nI 0)) 11) p9 (((mGoes (mTry K p9 (10 * r9 + q9) m9) (nI 0)) 0 1) + (nI 10)))) := by rw [hT9, mPost_0, hp7, hF7, hm7] <;> rfl
                          have hP9 := hP
                          have hD9 := hD
                          rw [← eK9] at hP9 hD9
                          have eR9 : mHCost (mGoes (mTry K p9 (10 * r9 + q9) m9) (nI 0)) (10 * r9 + q9) m9 = mRes (mHoldT K a1 r1 q1 m1 c1) (mHCost (mGoes (mTry K a1.toNatClampNeg (mHF r1 q1) m1.toNatClampNeg) (nI 0)) (mHF r1 q1) m1.toNatClampNeg) := by rw [hT9, mRes_0, hp7, hF7, hm7] <;> rfl
                          exact W.iret (v := mHCost (mGoes (mTry K p9 (10 * r9 + q9) m9) (nI 0)) (10 * r9 + q9) m9) hx hb hr (fun t ht hW => ⟨⟨mHCost (mGoes (mTry K p9 (10 * r9 + q9) m9) (nI 0)) (10 * r9 + q9) m9, (), rfl, eR9, by rw [ht]; exact hP9, va_K.moved hW.alike hK, hD9⟩, hS.F ht⟩) hS.2.2 dX6_hold_304
                        · skip
                          have c_6 : ¬ (10 * r9 + q9 + m9) ≤ (10 * r9 + q9 + k) := fun h => c_6 ((nI_leI (a := (10 * r9 + q9 + m9)) (b := (10 * r9 + q9 + k)) (by omega) (by omega)).mpr h)
                          refine lv_iload hx hb dX6_hold_216 (lv_at hl 1 rfl) ?_
                          refine lv_aload_n hx hb dX6_hold_218 rfl (lv_at hl 3 rfl) ?_
                          refine lv_iload hx hb dX6_hold_219 (lv_at hl 0 rfl) ?_
                          refine zc_rV (As := [.int (nI (10 * r9 + q9 + k))]) (rest := [.int (mHCost (mGoes (mTry K p9 (10 * r9 + q9) m9) (nI 0)) (10 * r9 + q9) k)]) ⟨hx, hb, hml, hown, hts⟩ (kX6_priceOf l D cI cZ ad (mGoes (mTry K p9 (10 * r9 + q9) m9) (nI 0)) (10 * r9 + q9 + k) (by omega)) (cwV 1 hts gX6_hold_X6_priceOf rfl rfl rfl (by decide +kernel) ⟨(Nat.le_of_ble_eq_true rfl), (Nat.le_of_ble_eq_true rfl)⟩) hK hP (ci := 6) (q0 := 0) rfl rfl rfl rfl hl.1 rfl (Nat.le_of_ble_eq_true rfl) dX6_hold_221 ⟨Nat.zero_le _, Nat.zero_le _⟩ ?_
                          refine lv_iadd hx hb dX6_hold_224 ?_
                          refine lv_istore (lv' := [(10, .int ((mHCost (mGoes (mTry K p9 (10 * r9 + q9) m9) (nI 0)) (10 * r9 + q9) k) + (mPrice (mGoes (mTry K p9 (10 * r9 + q9) m9) (nI 0)) (10 * r9 + q9 + k)))), (11, .int (nI (10 * r9 + q9 + k))), (8, .int (nI (10 * r9 + q9))), (0, .ref (ad 0)), (1, .int a1), (4, .int (nI m9)), (5, .int c1)]) hx hb dX6_hold_225 hl (by decide) rfl (fun ls hl => ?_)
                          refine lv_iinc (v := nI (10 * r9 + q9 + k + 1)) (lv' := [(11, .int (nI (10 * r9 + q9 + k + 1))), (10, .int ((mHCost (mGoes (mTry K p9 (10 * r9 + q9) m9) (nI 0)) (10 * r9 + q9) k) + (mPrice (mGoes (mTry K p9 (10 * r9 + q9) m9) (nI 0)) (10 * r9 + q9 + k)))), (8, .int (nI (10 * r9 + q9))), (0, .ref (ad 0)), (1, .int a1), (4, .int (nI m9)), (5, .int c1)]) hx hb dX6_hold_227 hl (k := 1) rfl ((show nI (10 * r9 + q9 + k) + Int32.ofInt 1 = nI (10 * r9 + q9 + k) + nI 1 from rfl).trans (nI_add _ _)) (by decide) rfl (fun ls hl => ?_)
                          refine lv_goto (tgt := 206) hx hb dX6_hold_230 (by decide) ?_
                          have es_7 : mHCost (mGoes (mTry K p9 (10 * r9 + q9) m9) (nI 0)) (10 * r9 + q9) (k + 1) = (mHCost (mGoes (mTry K p9 (10 * r9 + q9) m9) (nI 0)) (10 * r9 + q9) k) + (mPrice (mGoes (mTry K p9 (10 * r9 + q9) m9) (nI 0)) (10 * r9 + q9 + k)) := rfl
                          exact ih_a (k + 1) (by omega) (by omega) (by omega)  _ _ hP hD hS ls (by rw [es_7]; exact lv_sub hl [0, 1, 2, 3, 4, 5, 6] rfl)
                    have ei_a_10 : mHCost (mGoes (mTry K p9 (10 * r9 + q9) m9) (nI 0)) (10 * r9 + q9) 0 = nI 0 := rfl
                    exact lp_a (m9 - 0 + 1) 0 (by omega) (by omega) (by omega)  _ _ hP hD hS ls (by rw [ei_a_10]; exact lv_sub hl [0, 1, 2, 3, 4, 5, 6] rfl)
                  · skip
                    exact absurd c_5 (by decide)
              · skip
                have c_2 := zb_f c_2
                refine lv_iconst (v := nI 2) hx hb dX6_hold_177 (by decide) ?_
                refine lv_goto (tgt := 191) hx hb dX6_hold_178 (by decide) ?_
                refine zc_wVi (As := [.int (nI 2)]) (rest := []) (wr := []) ⟨hx, hb, hml, hown, hts⟩ (kX6_goesWell l D cI cZ ad (mHK K a1 r1 q1 m1 c1) _ (nI 2) ) (cwV 1 hts gX6_hold_X6_goesWell rfl rfl rfl (by decide +kernel) ⟨(Nat.le_of_ble_eq_true rfl), (Nat.le_of_ble_eq_true rfl)⟩) hK hP hD hS hA [0, 1, 2, 3, 4, 5, 6, 7, 8, 9, 10, 11, 12, 13, 14, 15, 16] [] rfl rfl rfl rfl rfl (by decide) (ci := 6) (q0 := 0) rfl rfl rfl rfl hl.1 rfl (Nat.le_of_ble_eq_true rfl) dX6_hold_191 ⟨Nat.zero_le _, Nat.zero_le _⟩ (fun H locs hP hD hS => ?_)
                have hP : va_P D vwCl (mwA ad cI cZ (mGoes (mHK K a1 r1 q1 m1 c1) (nI 2))) _ := hP
                have hD : va_D A (mwA ad cI cZ (mGoes (mHK K a1 r1 q1 m1 c1) (nI 2))) := hD
                refine zz_top (y := nI 0) (by decide) ?_
                refine lv_if_ne (tgt := 199) hx hb dX6_hold_194 (by decide) (fun c_8 => ?_) (fun c_8 => ?_)
                · skip
                  exact absurd (show nI 0 = 0 from rfl) c_8
                · skip
                  refine lv_iconst (v := nI 0) hx hb dX6_hold_197 (by decide) ?_
                  have hT9 : mHoldT K a1 r1 q1 m1 c1 = nI 2 := by simp [mHoldT, c_1, c_2, eq_true c_8]
                  have eK9 : (mPost (mHoldT K a1 r1 q1 m1 c1) (mHK K a1 r1 q1 m1 c1) (mHoldE K a1.toNatClampNeg (mHF r1 q1) m1.toNatClampNeg c1)) = (mGoes (mHK K a1 r1 q1 m1 c1) (nI 2)) := by rw [hT9, mPost_2] <;> rfl
                  have hP9 := hP
                  have hD9 := hD
                  rw [← eK9] at hP9 hD9
                  have eR9 : nI 0 = mRes (mHoldT K a1 r1 q1 m1 c1) (mHCost (mGoes (mTry K a1.toNatClampNeg (mHF r1 q1) m1.toNatClampNeg) (nI 0)) (mHF r1 q1) m1.toNatClampNeg) := by rw [hT9, mRes_2] <;> rfl
                  exact W.iret (v := nI 0) hx hb hr (fun t ht hW => ⟨⟨nI 0, (), rfl, eR9, by rw [ht]; exact hP9, va_K.moved hW.alike hK, hD9⟩, hS.F ht⟩) hS.2.2 dX6_hold_198
            · skip
              have c_1 := zb_f c_1
              refine lv_iconst (v := nI 1) hx hb dX6_hold_168 (by decide) ?_
              refine lv_goto (tgt := 191) hx hb dX6_hold_169 (by decide) ?_
              refine zc_wVi (As := [.int (nI 1)]) (rest := []) (wr := []) ⟨hx, hb, hml, hown, hts⟩ (kX6_goesWell l D cI cZ ad (mHK K a1 r1 q1 m1 c1) _ (nI 1) ) (cwV 1 hts gX6_hold_X6_goesWell rfl rfl rfl (by decide +kernel) ⟨(Nat.le_of_ble_eq_true rfl), (Nat.le_of_ble_eq_true rfl)⟩) hK hP hD hS hA [0, 1, 2, 3, 4, 5, 6, 7, 8, 9, 10, 11, 12, 13, 14, 15, 16] [] rfl rfl rfl rfl rfl (by decide) (ci := 6) (q0 := 0) rfl rfl rfl rfl hl.1 rfl (Nat.le_of_ble_eq_true rfl) dX6_hold_191 ⟨Nat.zero_le _, Nat.zero_le _⟩ (fun H locs hP hD hS => ?_)
              have hP : va_P D vwCl (mwA ad cI cZ (mGoes (mHK K a1 r1 q1 m1 c1) (nI 1))) _ := hP
              have hD : va_D A (mwA ad cI cZ (mGoes (mHK K a1 r1 q1 m1 c1) (nI 1))) := hD
              refine zz_top (y := nI 0) (by decide) ?_
              refine lv_if_ne (tgt := 199) hx hb dX6_hold_194 (by decide) (fun c_9 => ?_) (fun c_9 => ?_)
              · skip
                exact absurd (show nI 0 = 0 from rfl) c_9
              · skip
                refine lv_iconst (v := nI 0) hx hb dX6_hold_197 (by decide) ?_
                have hT9 : mHoldT K a1 r1 q1 m1 c1 = nI 1 := by simp [mHoldT, c_1, eq_true c_9]
                have eK9 : (mPost (mHoldT K a1 r1 q1 m1 c1) (mHK K a1 r1 q1 m1 c1) (mHoldE K a1.toNatClampNeg (mHF r1 q1) m1.toNatClampNeg c1)) = (mGoes (mHK K a1 r1 q1 m1 c1) (nI 1)) := by rw [hT9, mPost_1] <;> rfl
                have hP9 := hP
                have hD9 := hD
                rw [← eK9] at hP9 hD9
                have eR9 : nI 0 = mRes (mHoldT K a1 r1 q1 m1 c1) (mHCost (mGoes (mTry K a1.toNatClampNeg (mHF r1 q1) m1.toNatClampNeg) (nI 0)) (mHF r1 q1) m1.toNatClampNeg) := by rw [hT9, mRes_1] <;> rfl
                exact W.iret (v := nI 0) hx hb hr (fun t ht hW => ⟨⟨nI 0, (), rfl, eR9, by rw [ht]; exact hP9, va_K.moved hW.alike hK, hD9⟩, hS.F ht⟩) hS.2.2 dX6_hold_198
          refine lv_iload hx hb dX6_hold_126 (lv_at hl 0 rfl) ?_
          refine lv_if_eq (tgt := 159) hx hb dX6_hold_128 (by decide) (fun c_10 => ?_) (fun c_10 => ?_)
          · skip
            have c_10 := zb_f c_10
            refine lv_iconst (v := nI 0) hx hb dX6_hold_159 (by decide) ?_
            have ej_11 : zb (mHOk K a1 r1 q1 m1 c1) = nI 0 := (by simp [mHOk, mHTry, zb, c_10])
            have eK_12 : (mHK K a1 r1 q1 m1 c1) = K := (by simp [mHK, mHTry, c_10])
            refine zz_top ej_11.symm ?_
            exact j160 _ _ (by rw [eK_12]; exact hP) (by rw [eK_12]; exact hD) hS ls (lv_sub hl [0, 1, 2, 3, 4, 5, 6, 7, 8, 9] rfl)
          · skip
            have c_10 := zb_t c_10
            obtain ⟨hAA, hBB⟩ := mHCan_of c_10
            obtain ⟨p9, r9, q9, hp9, hr9, hq9, hp8, hr8, hq8, hp7, hr7, hq7, hcc⟩ := mHAre_of hAA
            have hF8 := mHFst_at hAA hr8 hq8
            have hrg : mHRng (nI q9) m1 = true := by rw [← hq8]; exact hBB
            obtain ⟨m9, hm9, hm6, hm8, hm7, hqm⟩ := mHRng_of hq9 hrg
            have hF7 : mHF r1 q1 = 10 * r9 + q9 := by unfold mHF; rw [hr7, hq7]
            refine lv_aload_n hx hb dX6_hold_131 rfl (lv_at hl 4 rfl) ?_
            refine lv_iload hx hb dX6_hold_132 (lv_at hl 9 rfl) ?_
            refine lv_iload_n hx hb dX6_hold_134 rfl (lv_at hl 5 rfl) ?_
            refine zz_top (y := nI p9) hp8 ?_
            refine lv_iload hx hb dX6_hold_135 (lv_at hl 8 rfl) ?_
            refine zc_rV (As := [.int c1, .int (nI p9), .int m1]) (rest := []) ⟨hx, hb, hml, hown, hts⟩ (kX6_isWithin l D cI cZ ad K c1 p9 m1 (by omega) (mHCode_of hn9 hc8 hcc)) (cwV 3 hts gX6_hold_X6_isWithin rfl rfl rfl (by decide +kernel) ⟨(Nat.le_of_ble_eq_true rfl), (Nat.le_of_ble_eq_true rfl)⟩) hK hP (ci := 6) (q0 := 0) rfl rfl rfl rfl hl.1 rfl (Nat.le_of_ble_eq_true rfl) dX6_hold_137 ⟨Nat.zero_le _, Nat.zero_le _⟩ ?_
            refine lv_if_eq (tgt := 159) hx hb dX6_hold_140 (by decide) (fun c_13 => ?_) (fun c_13 => ?_)
            · skip
              have c_13 := zb_f c_13
              refine lv_iconst (v := nI 0) hx hb dX6_hold_159 (by decide) ?_
              have ej_14 : zb (mHOk K a1 r1 q1 m1 c1) = nI 0 := (by simp [mHOk, mHTry, zb, mHF, hp7, hr7, hq7, hm7, c_10, hp7, hr7, hq7, hF8, hrg, hm7, hF7, c_13])
              have eK_15 : (mHK K a1 r1 q1 m1 c1) = K := (by simp [mHK, mHTry, mHF, hp7, hr7, hq7, hm7, c_10, hp7, hr7, hq7, hF8, hrg, hm7, hF7, c_13])
              refine zz_top ej_14.symm ?_
              exact j160 _ _ (by rw [eK_15]; exact hP) (by rw [eK_15]; exact hD) hS ls (lv_sub hl [0, 1, 2, 3, 4, 5, 6, 7, 8, 9] rfl)
            · skip
              have c_13 := zb_t c_13
              refine lv_aload_n hx hb dX6_hold_143 rfl (lv_at hl 4 rfl) ?_
              refine lv_iload_n hx hb dX6_hold_144 rfl (lv_at hl 5 rfl) ?_
              refine zz_top (y := nI p9) hp8 ?_
              refine lv_iload hx hb dX6_hold_145 (lv_at hl 1 rfl) ?_
              refine zz_top (y := nI (10 * r9 + q9)) hF8 ?_
              refine lv_iload hx hb dX6_hold_147 (lv_at hl 8 rfl) ?_
              refine zz_top (y := nI m9) hm8 ?_
              refine zc_wVi (As := [.int (nI p9), .int (nI (10 * r9 + q9)), .int (nI m9)]) (rest := []) (wr := []) ⟨hx, hb, hml, hown, hts⟩ (kX6_leavesSingle l D cI cZ ad K _ p9 (10 * r9 + q9) m9 (by omega)) (cwV 3 hts gX6_hold_X6_leavesSingle rfl rfl rfl (by decide +kernel) ⟨(Nat.le_of_ble_eq_true rfl), (Nat.le_of_ble_eq_true rfl)⟩) hK hP hD hS hA [0, 1, 2, 3, 4, 5, 6, 7, 8, 9, 10, 11, 12, 13, 14, 15, 16] [] rfl rfl rfl rfl rfl (by decide) (ci := 6) (q0 := 0) rfl rfl rfl rfl hl.1 rfl (Nat.le_of_ble_eq_true rfl) dX6_hold_149 ⟨Nat.zero_le _, Nat.zero_le _⟩ (fun H locs hP hD hS => ?_)
              have hP : va_P D vwCl (mwA ad cI cZ (mTry K p9 (10 * r9 + q9) m9)) _ := hP
              have hD : va_D A (mwA ad cI cZ (mTry K p9 (10 * r9 + q9) m9)) := hD
              refine lv_if_ne (tgt := 159) hx hb dX6_hold_152 (by decide) (fun c_16 => ?_) (fun c_16 => ?_)
              · skip
                have c_16 := zb_t c_16
                refine lv_iconst (v := nI 0) hx hb dX6_hold_159 (by decide) ?_
                have ej_17 : zb (mHOk K a1 r1 q1 m1 c1) = nI 0 := (by simp [mHOk, mHTry, zb, mHF, hp7, hr7, hq7, hm7, c_10, hp7, hr7, hq7, hF8, hrg, hm7, hF7, c_13, c_16])
                have eK_18 : (mHK K a1 r1 q1 m1 c1) = (mTry K p9 (10 * r9 + q9) m9) := (by simp [mHK, mHTry, mHF, hp7, hr7, hq7, hm7, c_10, hp7, hr7, hq7, hF8, hrg, hm7, hF7, c_13, c_16])
                refine zz_top ej_17.symm ?_
                exact j160 _ _ (by rw [eK_18]; exact hP) (by rw [eK_18]; exact hD) hS ls (lv_sub hl [0, 1, 2, 3, 4, 5, 6, 7, 8, 9] rfl)
              · skip
                have c_16 := zb_f c_16
                refine lv_iconst (v := nI 1) hx hb dX6_hold_155 (by decide) ?_
                refine lv_goto (tgt := 160) hx hb dX6_hold_156 (by decide) ?_
                have ej_19 : zb (mHOk K a1 r1 q1 m1 c1) = nI 1 := (by simp [mHOk, mHTry, zb, mHF, hp7, hr7, hq7, hm7, c_10, hp7, hr7, hq7, hF8, hrg, hm7, hF7, c_13, c_16])
                have eK_20 : (mHK K a1 r1 q1 m1 c1) = (mTry K p9 (10 * r9 + q9) m9) := (by simp [mHK, mHTry, mHF, hp7, hr7, hq7, hm7, c_10, hp7, hr7, hq7, hF8, hrg, hm7, hF7, c_13, c_16])
                refine zz_top ej_19.symm ?_
                exact j160 _ _ (by rw [eK_20]; exact hP) (by rw [eK_20]; exact hD) hS ls (lv_sub hl [0, 1, 2, 3, 4, 5, 6, 7, 8, 9] rfl)
        refine lv_iload hx hb dX6_hold_89 (lv_at hl 2 rfl) ?_
        refine lv_if_eq (tgt := 123) hx hb dX6_hold_91 (by decide) (fun c_21 => ?_) (fun c_21 => ?_)
        · skip
          have c_21 := zb_f c_21
          refine lv_iconst (v := nI 0) hx hb dX6_hold_123 (by decide) ?_
          have ej_22 : zb (mHCan K a1 r1 q1 m1 c1) = nI 0 := (by simp [mHCan, zb, c_21])
          refine zz_top ej_22.symm ?_
          exact j124 _ _ hP hD hS ls (lv_sub hl [0, 1, 2, 3, 4, 5, 6, 7, 8] rfl)
        · skip
          have c_21 := zb_t c_21
          obtain ⟨p9, r9, q9, hp9, hr9, hq9, hp8, hr8, hq8, hp7, hr7, hq7, hcc⟩ := mHAre_of c_21
          have hF8 := mHFst_at c_21 hr8 hq8
          refine lv_iload hx hb dX6_hold_94 (lv_at hl 1 rfl) ?_
          refine lv_if_eq (tgt := 123) hx hb dX6_hold_96 (by decide) (fun c_23 => ?_) (fun c_23 => ?_)
          · skip
            have c_23 := zb_f c_23
            refine lv_iconst (v := nI 0) hx hb dX6_hold_123 (by decide) ?_
            have ej_24 : zb (mHCan K a1 r1 q1 m1 c1) = nI 0 := (by simp [mHCan, zb, c_21, hp7, hr7, hq7, hF8, c_23])
            refine zz_top ej_24.symm ?_
            exact j124 _ _ hP hD hS ls (lv_sub hl [0, 1, 2, 3, 4, 5, 6, 7, 8] rfl)
          · skip
            have c_23 := zb_t c_23
            have hrg : mHRng (nI q9) m1 = true := by rw [← hq8]; exact c_23
            obtain ⟨m9, hm9, hm6, hm8, hm7, hqm⟩ := mHRng_of hq9 hrg
            refine lv_aload_n hx hb dX6_hold_99 rfl (lv_at hl 3 rfl) ?_
            refine zc_rV (As := []) (rest := []) ⟨hx, hb, hml, hown, hts⟩ (kX6_servedNow l D cI cZ ad K  ) (cwV 0 hts gX6_hold_X6_servedNow rfl rfl rfl (by decide +kernel) ⟨(Nat.le_of_ble_eq_true rfl), (Nat.le_of_ble_eq_true rfl)⟩) hK hP (ci := 6) (q0 := 0) rfl rfl rfl rfl hl.1 rfl (Nat.le_of_ble_eq_true rfl) dX6_hold_100 ⟨Nat.zero_le _, Nat.zero_le _⟩ ?_
            refine lv_iload_n hx hb dX6_hold_103 rfl (lv_at hl 4 rfl) ?_
            refine lv_icmp_ne (tgt := 123) hx hb dX6_hold_104 (by decide) (fun c_25 => ?_) (fun c_25 => ?_)
            · skip
              have c_25 : ¬ mServed K = a1 := c_25
              refine lv_iconst (v := nI 0) hx hb dX6_hold_123 (by decide) ?_
              have ej_26 : zb (mHCan K a1 r1 q1 m1 c1) = nI 0 := (by simp [mHCan, zb, mHF, hr7, hq7, hm7, c_21, hp7, hr7, hq7, hF8, c_23, hrg, hm7, c_25])
              refine zz_top ej_26.symm ?_
              exact j124 _ _ hP hD hS ls (lv_sub hl [0, 1, 2, 3, 4, 5, 6, 7, 8] rfl)
            · skip
              have c_25 : mServed K = a1 := c_25
              refine lv_aload_n hx hb dX6_hold_107 rfl (lv_at hl 3 rfl) ?_
              refine lv_iload_n hx hb dX6_hold_108 rfl (lv_at hl 4 rfl) ?_
              refine lv_iload hx hb dX6_hold_109 (lv_at hl 0 rfl) ?_
              refine zz_top (y := nI (10 * r9 + q9)) hF8 ?_
              refine lv_iload hx hb dX6_hold_111 (lv_at hl 7 rfl) ?_
              refine zz_top (y := nI m9) hm8 ?_
              refine zc_rV (As := [.int a1, .int (nI (10 * r9 + q9)), .int (nI m9)]) (rest := []) ⟨hx, hb, hml, hown, hts⟩ (kX6_areOpen l D cI cZ ad K a1 (10 * r9 + q9) m9 (by omega)) (cwV 3 hts gX6_hold_X6_areOpen rfl rfl rfl (by decide +kernel) ⟨(Nat.le_of_ble_eq_true rfl), (Nat.le_of_ble_eq_true rfl)⟩) hK hP (ci := 6) (q0 := 0) rfl rfl rfl rfl hl.1 rfl (Nat.le_of_ble_eq_true rfl) dX6_hold_113 ⟨Nat.zero_le _, Nat.zero_le _⟩ ?_
              refine lv_if_eq (tgt := 123) hx hb dX6_hold_116 (by decide) (fun c_27 => ?_) (fun c_27 => ?_)
              · skip
                have c_27 := zb_f c_27
                refine lv_iconst (v := nI 0) hx hb dX6_hold_123 (by decide) ?_
                have ej_28 : zb (mHCan K a1 r1 q1 m1 c1) = nI 0 := (by simp [mHCan, zb, mHF, hr7, hq7, hm7, c_21, hp7, hr7, hq7, hF8, c_23, hrg, hm7, eq_true c_25, c_27])
                refine zz_top ej_28.symm ?_
                exact j124 _ _ hP hD hS ls (lv_sub hl [0, 1, 2, 3, 4, 5, 6, 7, 8] rfl)
              · skip
                have c_27 := zb_t c_27
                refine lv_iconst (v := nI 1) hx hb dX6_hold_119 (by decide) ?_
                refine lv_goto (tgt := 124) hx hb dX6_hold_120 (by decide) ?_
                have ej_29 : zb (mHCan K a1 r1 q1 m1 c1) = nI 1 := (by simp [mHCan, zb, mHF, hr7, hq7, hm7, c_21, hp7, hr7, hq7, hF8, c_23, hrg, hm7, eq_true c_25, c_27])
                refine zz_top ej_29.symm ?_
                exact j124 _ _ hP hD hS ls (lv_sub hl [0, 1, 2, 3, 4, 5, 6, 7, 8] rfl)
      refine lv_iload hx hb dX6_hold_72 (lv_at hl 1 rfl) ?_
      refine lv_if_eq (tgt := 86) hx hb dX6_hold_74 (by decide) (fun c_30 => ?_) (fun c_30 => ?_)
      · skip
        have c_30 := zb_f c_30
        refine lv_iconst (v := nI 0) hx hb dX6_hold_86 (by decide) ?_
        have ej_31 : mHFst K a1 r1 q1 c1 = nI 0 := (by simp [mHFst, c_30])
        refine zz_top ej_31.symm ?_
        exact j87 _ _ hP hD hS ls (lv_sub hl [0, 1, 2, 3, 4, 5, 6, 7] rfl)
      · skip
        have c_30 := zb_t c_30
        refine lv_bipush (v := nI 10) hx hb dX6_hold_77 (by decide) ?_
        refine lv_iload_n hx hb dX6_hold_79 rfl (lv_at hl 4 rfl) ?_
        refine lv_imul hx hb dX6_hold_80 ?_
        refine lv_iload_n hx hb dX6_hold_81 rfl (lv_at hl 5 rfl) ?_
        refine lv_iadd hx hb dX6_hold_82 ?_
        refine lv_goto (tgt := 87) hx hb dX6_hold_83 (by decide) ?_
        have ej_32 : mHFst K a1 r1 q1 c1 = ((nI 10) * r1) + q1 := (by simp [mHFst, c_30])
        refine zz_top ej_32.symm ?_
        exact j87 _ _ hP hD hS ls (lv_sub hl [0, 1, 2, 3, 4, 5, 6, 7] rfl)
    refine lv_iload hx hb dX6_hold_46 (lv_at hl 5 rfl) ?_
    refine lv_iconst (v := nI 1) hx hb dX6_hold_48 (by decide) ?_
    refine lv_iconst (v := nI 4) hx hb dX6_hold_49 (by decide) ?_
    refine zc_rS (As := [.int m1, .int (nI 1), .int (nI 4)]) (rest := []) ⟨hx, hb, hml, hown, hts⟩ (kX6_in l m1 (nI 1) (nI 4) ) (va_cwS 3 hts gX6_hold_X6_in rfl rfl rfl (by decide +kernel) ⟨(Nat.le_of_ble_eq_true rfl), (Nat.le_of_ble_eq_true rfl)⟩) rfl hl.1 rfl (Nat.le_of_ble_eq_true rfl) dX6_hold_50 ⟨Nat.zero_le _, Nat.zero_le _⟩ ?_
    refine lv_if_eq (tgt := 69) hx hb dX6_hold_53 (by decide) (fun c_33 => ?_) (fun c_33 => ?_)
    · skip
      have c_33 := zb_f c_33
      refine lv_iconst (v := nI 0) hx hb dX6_hold_69 (by decide) ?_
      have ej_34 : zb (mHRng q1 m1) = nI 0 := (by simp [mHRng, zb, c_33])
      refine zz_top ej_34.symm ?_
      exact j70 _ _ hP hD hS ls (lv_sub hl [0, 1, 2, 3, 4, 5, 6] rfl)
    · skip
      have c_33 := zb_t c_33
      refine lv_iload_n hx hb dX6_hold_56 rfl (lv_at hl 4 rfl) ?_
      refine lv_iload hx hb dX6_hold_57 (lv_at hl 5 rfl) ?_
      refine lv_iadd hx hb dX6_hold_59 ?_
      refine lv_bipush (v := nI 10) hx hb dX6_hold_60 (by decide) ?_
      refine lv_icmp_gt (tgt := 69) hx hb dX6_hold_62 (by decide) (fun c_35 => ?_) (fun c_35 => ?_)
      · skip
        have c_35 : nI 10 < q1 + m1 := c_35
        refine lv_iconst (v := nI 0) hx hb dX6_hold_69 (by decide) ?_
        have ej_36 : zb (mHRng q1 m1) = nI 0 := (by simp [mHRng, zb, c_33, c_35])
        refine zz_top ej_36.symm ?_
        exact j70 _ _ hP hD hS ls (lv_sub hl [0, 1, 2, 3, 4, 5, 6] rfl)
      · skip
        have c_35 : ¬ nI 10 < q1 + m1 := c_35
        refine lv_iconst (v := nI 1) hx hb dX6_hold_65 (by decide) ?_
        refine lv_goto (tgt := 70) hx hb dX6_hold_66 (by decide) ?_
        have ej_37 : zb (mHRng q1 m1) = nI 1 := (by simp [mHRng, zb, c_33, c_35])
        refine zz_top ej_37.symm ?_
        exact j70 _ _ hP hD hS ls (lv_sub hl [0, 1, 2, 3, 4, 5, 6] rfl)
  refine lv_iload_n hx hb dX6_hold_0 rfl (lv_at hl 1 rfl) ?_
  refine zc_rS (As := [.int a1]) (rest := []) ⟨hx, hb, hml, hown, hts⟩ (kX6_isPerson l a1 ) (va_cwS 1 hts gX6_hold_X6_isPerson rfl rfl rfl (by decide +kernel) ⟨(Nat.le_of_ble_eq_true rfl), (Nat.le_of_ble_eq_true rfl)⟩) rfl hl.1 rfl (Nat.le_of_ble_eq_true rfl) dX6_hold_1 ⟨Nat.zero_le _, Nat.zero_le _⟩ ?_
  refine lv_if_eq (tgt := 43) hx hb dX6_hold_4 (by decide) (fun c_38 => ?_) (fun c_38 => ?_)
  · skip
    have c_38 := zb_f c_38
    refine lv_iconst (v := nI 0) hx hb dX6_hold_43 (by decide) ?_
    have ej_39 : zb (mHAre K a1 r1 q1 c1) = nI 0 := (by simp [mHAre, zb, c_38])
    refine zz_top ej_39.symm ?_
    exact j44 _ _ hP hD hS ls (lv_sub hl [0, 1, 2, 3, 4, 5] rfl)
  · skip
    have c_38 := zb_t c_38
    refine lv_iload_n hx hb dX6_hold_7 rfl (lv_at hl 2 rfl) ?_
    refine zc_rS (As := [.int r1]) (rest := []) ⟨hx, hb, hml, hown, hts⟩ (kX6_isRow l r1 ) (va_cwS 1 hts gX6_hold_X6_isRow rfl rfl rfl (by decide +kernel) ⟨(Nat.le_of_ble_eq_true rfl), (Nat.le_of_ble_eq_true rfl)⟩) rfl hl.1 rfl (Nat.le_of_ble_eq_true rfl) dX6_hold_8 ⟨Nat.zero_le _, Nat.zero_le _⟩ ?_
    refine lv_if_eq (tgt := 43) hx hb dX6_hold_11 (by decide) (fun c_40 => ?_) (fun c_40 => ?_)
    · skip
      have c_40 := zb_f c_40
      refine lv_iconst (v := nI 0) hx hb dX6_hold_43 (by decide) ?_
      have ej_41 : zb (mHAre K a1 r1 q1 c1) = nI 0 := (by simp [mHAre, zb, c_38, c_40])
      refine zz_top ej_41.symm ?_
      exact j44 _ _ hP hD hS ls (lv_sub hl [0, 1, 2, 3, 4, 5] rfl)
    · skip
      have c_40 := zb_t c_40
      refine lv_iload_n hx hb dX6_hold_14 rfl (lv_at hl 3 rfl) ?_
      refine lv_iconst (v := nI 0) hx hb dX6_hold_15 (by decide) ?_
      refine lv_bipush (v := nI 9) hx hb dX6_hold_16 (by decide) ?_
      refine zc_rS (As := [.int q1, .int (nI 0), .int (nI 9)]) (rest := []) ⟨hx, hb, hml, hown, hts⟩ (kX6_in l q1 (nI 0) (nI 9) ) (va_cwS 3 hts gX6_hold_X6_in rfl rfl rfl (by decide +kernel) ⟨(Nat.le_of_ble_eq_true rfl), (Nat.le_of_ble_eq_true rfl)⟩) rfl hl.1 rfl (Nat.le_of_ble_eq_true rfl) dX6_hold_18 ⟨Nat.zero_le _, Nat.zero_le _⟩ ?_
      refine lv_if_eq (tgt := 43) hx hb dX6_hold_21 (by decide) (fun c_42 => ?_) (fun c_42 => ?_)
      · skip
        have c_42 := zb_f c_42
        refine lv_iconst (v := nI 0) hx hb dX6_hold_43 (by decide) ?_
        have ej_43 : zb (mHAre K a1 r1 q1 c1) = nI 0 := (by simp [mHAre, zb, c_38, c_40, c_42])
        refine zz_top ej_43.symm ?_
        exact j44 _ _ hP hD hS ls (lv_sub hl [0, 1, 2, 3, 4, 5] rfl)
      · skip
        have c_42 := zb_t c_42
        refine lv_iload hx hb dX6_hold_24 (lv_at hl 5 rfl) ?_
        refine lv_iconst (v := (-1)) hx hb dX6_hold_26 (by decide) ?_
        refine lv_icmp_eq (tgt := 39) hx hb dX6_hold_27 (by decide) (fun c_44 => ?_) (fun c_44 => ?_)
        · skip
          have c_44 : c1 = (-1) := c_44
          refine lv_iconst (v := nI 1) hx hb dX6_hold_39 (by decide) ?_
          refine lv_goto (tgt := 44) hx hb dX6_hold_40 (by decide) ?_
          have ej_45 : zb (mHAre K a1 r1 q1 c1) = nI 1 := (by simp [mHAre, zb, c_38, c_40, c_42, eq_true c_44])
          refine zz_top ej_45.symm ?_
          exact j44 _ _ hP hD hS ls (lv_sub hl [0, 1, 2, 3, 4, 5] rfl)
        · skip
          have c_44 : ¬ c1 = (-1) := c_44
          refine lv_aload_n hx hb dX6_hold_30 rfl (lv_at hl 0 rfl) ?_
          refine lv_iload hx hb dX6_hold_31 (lv_at hl 5 rfl) ?_
          refine zc_rV (As := [.int c1]) (rest := []) ⟨hx, hb, hml, hown, hts⟩ (kX6_isCode l D cI cZ ad K c1 ) (cwV 1 hts gX6_hold_X6_isCode rfl rfl rfl (by decide +kernel) ⟨(Nat.le_of_ble_eq_true rfl), (Nat.le_of_ble_eq_true rfl)⟩) hK hP (ci := 6) (q0 := 0) rfl rfl rfl rfl hl.1 rfl (Nat.le_of_ble_eq_true rfl) dX6_hold_33 ⟨Nat.zero_le _, Nat.zero_le _⟩ ?_
          refine lv_if_eq (tgt := 43) hx hb dX6_hold_36 (by decide) (fun c_46 => ?_) (fun c_46 => ?_)
          · skip
            have c_46 := zb_f c_46
            refine lv_iconst (v := nI 0) hx hb dX6_hold_43 (by decide) ?_
            have ej_47 : zb (mHAre K a1 r1 q1 c1) = nI 0 := (by simp [mHAre, zb, c_38, c_40, c_42, c_44, c_46])
            refine zz_top ej_47.symm ?_
            exact j44 _ _ hP hD hS ls (lv_sub hl [0, 1, 2, 3, 4, 5] rfl)
          · skip
            have c_46 := zb_t c_46
            refine lv_iconst (v := nI 1) hx hb dX6_hold_39 (by decide) ?_
            refine lv_goto (tgt := 44) hx hb dX6_hold_40 (by decide) ?_
            have ej_48 : zb (mHAre K a1 r1 q1 c1) = nI 1 := (by simp [mHAre, zb, c_38, c_40, c_42, c_44, c_46])
            refine zz_top ej_48.symm ?_
            exact j44 _ _ hP hD hS ls (lv_sub hl [0, 1, 2, 3, 4, 5] rfl)
