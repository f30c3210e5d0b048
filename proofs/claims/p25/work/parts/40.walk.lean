/-! the law's own walk: its world, one step, its end -/
section ZQS
variable {p : Program} {l : Launch} {e : Env} {R : Room} {s : State} {m : MethodId} {args : Array Value} {below : List Frame} {meth : Method} {c : Code} {H : Heap} {locs : List Loc} {cells slots : Nat} {Q : State → Prop}
variable {D : va_G} {tys : List (ClassId × FieldType)} {wc : va_W} {pc : Nat} {cc : ByteArray} {ls : Array Slot} {rest st0 : List Value}
variable {y : MethodName} {wsl Ts : List Cond} {rm : Room} {As : List Value} {rv : Int32} {own : String} {index maxL nL n : Nat} {bytes : ByteArray} {ret : Option FieldType}
theorem zq_rS (S : CallFix p m c cc nL s args Ts own) (hM : Met l y wsl rm (va_Pc As (zRe D tys wc)) (vp_Si (fun r => r = rv)) 0 0 (fun _ => False)) (cw : CallB R s args own index y bytes maxL ret wsl rm 0 0 n ∧ (Cond.static y).before args s = true) (hK : va_K D vwCl tys s) (hPc : va_P D vwCl wc H) (hNW : ∀ w ∈ zNW, va_Nw w s)
    (hn : As.length = n) (hsize : ls.size = nL) (hst : st0 = As.reverse ++ rest) (hW : (rest.map fun v => v.category).sum ≤ 8) (hdg : decode cc pc = .ok (.invokestatic index, 3)) (hf : cells ≤ R.cells ∧ slots ≤ R.slots)
    (kk : W p l e R s m args below meth c H locs cells slots Q (F0 m (pc + 3) ls (.int rv :: rest))) : W p l e R s m args below meth c H locs cells slots Q (F0 m pc ls st0) := by
  refine vp_callSi (va_runS (g := F0 m pc ls st0) S hM cw ⟨zRe_blind _ _ _ _, fun U hU hW => ⟨rfl, by rw [hU]; exact hPc, va_K.moved hW.alike hK, zNW_warm hW hNW⟩⟩ rfl hn hsize hst (lv_room hW) hdg hf).run (fun r hr => ?_)
  subst hr; exact kk
theorem zq_cell {b L k : Nat} {xs : Nat → Int32} {A : Nat → Prop} (S : CallFix p m c cc nL s args Ts own) (hk : k < 110) (hL : L ≤ 260) (cw : CallB R s args own index yL_cell bytes maxL ret wsL_cell ({ frames := 0, cells := 0, slots := 0, locals := 0 }) 0 0 2 ∧ (Cond.static yL_cell).before args s = true) (hX : va_X b L xs s s.heap) (hbl : b < s.heap.size) (hbA : ¬ A b) (hS : va_S A s.heap H locs)
    (hsize : ls.size = nL) (hW : (rest.map fun v => v.category).sum ≤ 8) (hdg : decode cc pc = .ok (.invokestatic index, 3)) (hf : cells ≤ R.cells ∧ slots ≤ R.slots)
    (kk : W p l e R s m args below meth c H locs cells slots Q (F0 m (pc + 3) ls (.int (aCell L xs k) :: rest))) : W p l e R s m args below meth c H locs cells slots Q (F0 m pc ls (.int (nI k) :: .ref b :: rest)) := by
  have hX2 := hX.kept (hS.2.1 b hbl hbA)
  have hb2 : b < H.size := Nat.lt_of_lt_of_le hbl hS.1
  refine vp_callSi (va_runS (As := [.ref b, .int (nI k)]) (g := F0 m pc ls (.int (nI k) :: .ref b :: rest)) S (kL_cell l b L xs k hk hL) cw ⟨zSc_blind _ _ _ _, fun U hU hW => ⟨rfl, by show va_X b L xs U U.heap ∧ b < U.heap.size; rw [hU]; exact ⟨va_X.moved hW.alike hX2, hb2⟩⟩⟩ rfl rfl hsize rfl (lv_room hW) hdg hf).run (fun r hr => ?_)
  subst hr; exact kk
end ZQS
abbrev lq_W (ad am : Nat → Nat) (cI cZ : ClassId) (K1 K2 : kS) : va_W := kwA ad cI cZ K1 ++ kwA am cI cZ K2
abbrev lq_l (e : Nat) (ad am : Nat → Nat) (b : Nat) : List (Nat × Value) := [(3, .int (nI e)), (2, .ref (am 0)), (1, .ref (ad 0)), (0, .ref b)]
abbrev lq_C (p : Program) (l : Launch) (s : State) (m : MethodId) (args : Array Value) (c : Code) (A : Nat → Prop) (b L : Nat) (xs : Nat → Int32) (D : va_G) (cI cZ : ClassId) : Prop :=
  p.tables.exec = Jvm.exec ∧ c.code = cL_law ∧ c.maxLocals = 6 ∧ s.vm.findClass RL = some m.cls ∧ (∀ w ∈ wsL_law, w.before args s = true) ∧ va_X b L xs s s.heap ∧ b < s.heap.size ∧ ¬ A b ∧ (∀ q : Nat, s.heap.size ≤ q → A q) ∧ l.stackTraces = false ∧ va_K D vwCl (zTy cI cZ) s ∧ zEnv A s s.heap ∧ zNc s
theorem lq_k16 : Cond.constant RL 16 (-99999) ∈ wsL_law := List.mem_of_getElem? (i := 3) (by decide +kernel)
section LQ
variable {p : Program} {l : Launch} {e0 : Env} {s : State} {m : MethodId} {args : Array Value} {below : List Frame} {meth : Method} {c : Code} {H : Heap} {locs : List Loc} {Q : State → Prop} {D : va_G} {ls : Array Slot} {A : Nat → Prop} {b L : Nat} {xs : Nat → Int32} {cI cZ : ClassId} {ad am : Nat → Nat}
set_option maxHeartbeats 8000000 in
set_option maxRecDepth 100000 in
theorem lq_check {K M : kS} {e i j : Nat} {r v : Int32} (C0 : lq_C p l s m args c A b L xs D cI cZ) (he : e < 110) (hz : zRel K M i) (hg : wGood K j) (hi : i ≤ 200) (hj : j ≤ 400) (hP : va_P D vwCl (lq_W ad am cI cZ K K) H) (hD : va_D A (lq_W ad am cI cZ K K)) (hS : va_S A s.heap H locs) (hl : lv_has ls 6 ((5, .int r) :: (4, .int v) :: lq_l e ad am b)) (next : ∀ (H : Heap) (locs : List Loc) (ls : Array Slot), va_P D vwCl (lq_W ad am cI cZ K K) H → va_D A (lq_W ad am cI cZ K K) → va_S A s.heap H locs → lv_has ls 6 (lq_l e ad am b) → W p l e0 room_1 s m args below meth c H locs (60 + 23 * (e + 1)) (2100 + 138 * (e + 1)) Q (F0 m 109 ls [])) : W p l e0 room_1 s m args below meth c H locs (60 + 23 * e + 10) (2100 + 138 * e + 60) Q (F0 m 57 ls []) := by
  obtain ⟨hx, hb, hml, hown, hts, hX, hbl, hbA, hA, hl9, hK, hE, hN⟩ := C0
  obtain ⟨t1, ht3, ht1⟩ := zRel_t hz
  refine lv_aload_n hx hb dL_law_57 rfl (lv_at hl 4 rfl) ?_
  refine lv_aload_n hx hb dL_law_58 rfl (lv_at hl 3 rfl) ?_
  refine zy_P (As := [.ref (ad 0), .ref (am 0)]) (rest := []) (wr := []) ⟨hx, hb, hml, hown, hts⟩ (kL_areAlike l hl9 D cI cZ ad am K _) (va_cwS 2 hts gL_law_L_areAlike rfl rfl rfl (by decide +kernel) ⟨(Nat.le_of_ble_eq_true rfl), (Nat.le_of_ble_eq_true rfl)⟩) hK hP hD hS hA hE hN [0, 1, 2, 3, 4, 5, 6, 7, 8, 9, 10, 11, 12, 13, 14, 15, 16, 17, 18, 19, 20, 21, 22, 23, 24, 25, 26, 27, 28, 29, 30, 31, 32, 33, 34, 35, 36, 37, 38, 39, 40, 41, 42, 43, 44, 45, 46, 47, 48, 49, 50, 51] [] rfl rfl rfl rfl rfl (by decide) rfl hl.1 rfl (Nat.le_of_ble_eq_true rfl) dL_law_59 ⟨show _ ≤ 861196 by omega, show _ ≤ 6518111 by omega⟩ (fun H locs hP hD hS => ?_)
  have hP : va_P D vwCl (lq_W ad am cI cZ K K) H := hP
  have hD : va_D A (lq_W ad am cI cZ K K) := hD
  refine lv_if_ne (tgt := 67) hx hb dL_law_62 (by decide) (fun _ => ?_) (fun h => absurd h (by decide))
  have queue : ∀ (H : Heap) (locs : List Loc), va_P D vwCl (lq_W ad am cI cZ K K) H → va_D A (lq_W ad am cI cZ K K) → va_S A s.heap H locs → W p l e0 room_1 s m args below meth c H locs (60 + 23 * e + 10 + 4) (2100 + 138 * e + 60 + 24) Q (F0 m 93 ls []) := by
    intro H locs hP hD hS
    refine lv_iload_n hx hb dL_law_93 rfl (lv_at hl 2 rfl) ?_
    refine lv_iconst (v := nI 5) hx hb dL_law_94 (by decide) ?_
    refine lv_irem hx hb dL_law_95 (by decide) ?_
    refine zz_top (y := nI (e % 5)) (pk_rem (by omega) (by decide) (by decide)) ?_
    refine lv_iconst (v := nI 4) hx hb dL_law_96 (by decide) ?_
    refine lv_icmp_ne (tgt := 109) hx hb dL_law_97 (by decide) (fun _ => ?_) (fun _ => ?_)
    · refine W.widen (k := 60 + 23 * (e + 1)) (n := 2100 + 138 * (e + 1)) (by omega) (by omega) ?_
      exact next H locs ls hP hD hS (lv_sub hl [2, 3, 4, 5] rfl)
    · refine lv_aload_n hx hb dL_law_100 rfl (lv_at hl 4 rfl) ?_
      refine zy_P (As := [.ref (ad 0)]) (rest := []) (wr := (kwA am cI cZ K)) ⟨hx, hb, hml, hown, hts⟩ (kL_isQueueSo l hl9 D cI cZ ad K _ (c_queue hz) (c_money hg (by omega))) (va_cwS 1 hts gL_law_L_isQueueSo rfl rfl rfl (by decide +kernel) ⟨(Nat.le_of_ble_eq_true rfl), (Nat.le_of_ble_eq_true rfl)⟩) hK hP hD hS hA hE hN [0, 1, 2, 3, 4, 5, 6, 7, 8, 9, 10, 11, 12, 13, 14, 15, 16, 17, 18, 19, 20, 21, 22, 23, 24, 25] [26, 27, 28, 29, 30, 31, 32, 33, 34, 35, 36, 37, 38, 39, 40, 41, 42, 43, 44, 45, 46, 47, 48, 49, 50, 51] rfl rfl rfl rfl rfl (by decide) rfl hl.1 rfl (Nat.le_of_ble_eq_true rfl) dL_law_101 ⟨show _ ≤ 861196 by omega, show _ ≤ 6518111 by omega⟩ (fun H locs hP hD hS => ?_)
      have hP := hP.sub (ws' := (lq_W ad am cI cZ K K)) [26, 27, 28, 29, 30, 31, 32, 33, 34, 35, 36, 37, 38, 39, 40, 41, 42, 43, 44, 45, 46, 47, 48, 49, 50, 51, 0, 1, 2, 3, 4, 5, 6, 7, 8, 9, 10, 11, 12, 13, 14, 15, 16, 17, 18, 19, 20, 21, 22, 23, 24, 25] rfl
      have hD := hD.sub (ws' := (lq_W ad am cI cZ K K)) [26, 27, 28, 29, 30, 31, 32, 33, 34, 35, 36, 37, 38, 39, 40, 41, 42, 43, 44, 45, 46, 47, 48, 49, 50, 51, 0, 1, 2, 3, 4, 5, 6, 7, 8, 9, 10, 11, 12, 13, 14, 15, 16, 17, 18, 19, 20, 21, 22, 23, 24, 25] rfl rfl
      refine lv_if_ne (tgt := 109) hx hb dL_law_104 (by decide) (fun _ => ?_) (fun h => absurd h (by decide))
      refine W.widen (k := 60 + 23 * (e + 1)) (n := 2100 + 138 * (e + 1)) (by omega) (by omega) ?_
      exact next H locs ls hP hD hS (lv_sub hl [2, 3, 4, 5] rfl)
  refine lv_iload_n hx hb dL_law_67 rfl (lv_at hl 2 rfl) ?_
  refine lv_bipush (v := nI 7) hx hb dL_law_68 (by decide) ?_
  refine lv_irem hx hb dL_law_70 (by decide) ?_
  refine zz_top (y := nI (e % 7)) (pk_rem (by omega) (by decide) (by decide)) ?_
  refine lv_bipush (v := nI 6) hx hb dL_law_71 (by decide) ?_
  refine lv_icmp_ne (tgt := 93) hx hb dL_law_73 (by decide) (fun _ => queue H locs hP hD hS) (fun _ => ?_)
  refine lv_aload_n hx hb dL_law_76 rfl (lv_at hl 4 rfl) ?_
  refine lv_iconst (v := nI 1) hx hb dL_law_77 (by decide) ?_
  refine lv_iload hx hb dL_law_78 (lv_at hl 1 rfl) ?_
  refine lv_iconst (v := nI 5) hx hb dL_law_80 (by decide) ?_
  refine lv_ishr hx hb dL_law_81 ?_
  refine zz_top (y := aS v 5) rfl ?_
  refine lv_iconst (v := nI 4) hx hb dL_law_82 (by decide) ?_
  refine zc_rS (As := [.int (aS v 5), .int (nI 4)]) (rest := [.int (nI 1), .ref (ad 0)]) ⟨hx, hb, hml, hown, hts⟩ (kL_low l (aS v 5) (nI 4) (by decide)) (va_cwS 2 hts gL_law_L_low rfl rfl rfl (by decide +kernel) ⟨(Nat.le_of_ble_eq_true rfl), (Nat.le_of_ble_eq_true rfl)⟩) rfl hl.1 rfl (Nat.le_of_ble_eq_true rfl) dL_law_83 ⟨show _ ≤ 861196 by omega, show _ ≤ 6518111 by omega⟩ ?_
  obtain ⟨q, hq, eq1, -⟩ := aLow_of (aS v 5) (k := 4) (by decide) (by decide)
  refine zz_top eq1 ?_
  refine lv_iadd hx hb dL_law_86 ?_
  refine zz_top (y := nI (1 + q)) (nI_add _ _) ?_
  refine zq_rS (As := [.ref (ad 0), .int (nI (1 + q))]) (rest := []) ⟨hx, hb, hml, hown, hts⟩ (kL_areSeatsSo l D cI cZ ad K (1 + q) t1 (by omega) (by omega) (by omega) ht1 (c_seats hz (by omega) ht1 (by omega)) (c_holds hg) (c_first (by omega) (by omega)) (c_count hz hg)) (va_cwS 2 hts gL_law_L_areSeatsSo rfl rfl rfl (by decide +kernel) ⟨(Nat.le_of_ble_eq_true rfl), (Nat.le_of_ble_eq_true rfl)⟩) hK (hP.sub (ws' := (kwA ad cI cZ K)) [0, 1, 2, 3, 4, 5, 6, 7, 8, 9, 10, 11, 12, 13, 14, 15, 16, 17, 18, 19, 20, 21, 22, 23, 24, 25] rfl) hE.1 rfl hl.1 rfl (Nat.le_of_ble_eq_true rfl) dL_law_87 ⟨show _ ≤ 861196 by omega, show _ ≤ 6518111 by omega⟩ ?_
  exact lv_if_eq (tgt := 107) hx hb dL_law_90 (by decide) (fun h => absurd h (by decide)) (fun _ => queue H locs hP hD hS)
set_option maxHeartbeats 8000000 in
set_option maxRecDepth 100000 in
theorem lq_step {K M : kS} {e i j : Nat} (C0 : lq_C p l s m args c A b L xs D cI cZ) (hL : L ≤ 260) (he : e < 110) (hz : zRel K M i) (hg : wGood K j) (hi : i < 199) (hj : j < 398) (hP : va_P D vwCl (lq_W ad am cI cZ K K) H) (hD : va_D A (lq_W ad am cI cZ K K)) (hS : va_S A s.heap H locs) (hl : lv_has ls 6 (lq_l e ad am b)) (next : ∀ (K M : kS) (H : Heap) (locs : List Loc) (ls : Array Slot), zRel K M (i + 1) → wGood K (j + 2) → va_P D vwCl (lq_W ad am cI cZ K K) H → va_D A (lq_W ad am cI cZ K K) → va_S A s.heap H locs → lv_has ls 6 (lq_l e ad am b) → W p l e0 room_1 s m args below meth c H locs (60 + 23 * (e + 1)) (2100 + 138 * (e + 1)) Q (F0 m 109 ls [])) : W p l e0 room_1 s m args below meth c H locs (60 + 23 * e) (2100 + 138 * e) Q (F0 m 24 ls []) := by
  have C1 := C0
  obtain ⟨hx, hb, hml, hown, hts, hX, hbl, hbA, hA, hl9, hK, hE, hN⟩ := C0
  obtain ⟨n9, hn9, hn1, -⟩ := zRel_n hz
  obtain ⟨t9, ht9, ht1⟩ := zRel_t hz
  refine lv_aload_n hx hb dL_law_24 rfl (lv_at hl 3 rfl) ?_
  refine lv_iload_n hx hb dL_law_25 rfl (lv_at hl 0 rfl) ?_
  refine zq_cell ⟨hx, hb, hml, hown, hts⟩ he hL (va_cwS 2 hts gL_law_L_cell rfl rfl rfl (by decide +kernel) ⟨(Nat.le_of_ble_eq_true rfl), (Nat.le_of_ble_eq_true rfl)⟩) hX hbl hbA hS hl.1 (Nat.le_of_ble_eq_true rfl) dL_law_26 ⟨show _ ≤ 861196 by omega, show _ ≤ 6518111 by omega⟩ ?_
  obtain ⟨v, hv⟩ : ∃ v, aCell L xs e = v := ⟨_, rfl⟩
  rw [hv]
  refine lv_istore (lv' := (4, .int v) :: lq_l e ad am b) hx hb dL_law_29 hl (by decide) rfl (fun ls hl => ?_)
  refine lv_aload_n hx hb dL_law_31 rfl (lv_at hl 3 rfl) ?_
  refine lv_iload hx hb dL_law_32 (lv_at hl 0 rfl) ?_
  obtain ⟨⟨M1, z1⟩, s2, s3⟩ := wStep hz hg (by omega) (by omega) hn9 hn1 ht1 ht9 v
  refine zy_P (As := [.ref (ad 0), .int v]) (rest := []) (wr := (kwA am cI cZ K)) ⟨hx, hb, hml, hown, hts⟩ (kL_act l hl9 D cI cZ ad K _ v n9 t9 (zRel_hok hz) (zRel_own hz) hn9 hn1 (by omega) ht1) (va_cwS 2 hts gL_law_L_act rfl rfl rfl (by decide +kernel) ⟨(Nat.le_of_ble_eq_true rfl), (Nat.le_of_ble_eq_true rfl)⟩) hK hP hD hS hA hE hN [0, 1, 2, 3, 4, 5, 6, 7, 8, 9, 10, 11, 12, 13, 14, 15, 16, 17, 18, 19, 20, 21, 22, 23, 24, 25] [26, 27, 28, 29, 30, 31, 32, 33, 34, 35, 36, 37, 38, 39, 40, 41, 42, 43, 44, 45, 46, 47, 48, 49, 50, 51] rfl rfl rfl rfl rfl (by decide) rfl hl.1 rfl (Nat.le_of_ble_eq_true rfl) dL_law_34 ⟨show _ ≤ 861196 by omega, show _ ≤ 6518111 by omega⟩ (fun H locs hP hD hS => ?_)
  have hP := hP.sub (ws' := (lq_W ad am cI cZ (aOut K v n9 t9).2 K)) [26, 27, 28, 29, 30, 31, 32, 33, 34, 35, 36, 37, 38, 39, 40, 41, 42, 43, 44, 45, 46, 47, 48, 49, 50, 51, 0, 1, 2, 3, 4, 5, 6, 7, 8, 9, 10, 11, 12, 13, 14, 15, 16, 17, 18, 19, 20, 21, 22, 23, 24, 25] rfl
  have hD := hD.sub (ws' := (lq_W ad am cI cZ (aOut K v n9 t9).2 K)) [26, 27, 28, 29, 30, 31, 32, 33, 34, 35, 36, 37, 38, 39, 40, 41, 42, 43, 44, 45, 46, 47, 48, 49, 50, 51, 0, 1, 2, 3, 4, 5, 6, 7, 8, 9, 10, 11, 12, 13, 14, 15, 16, 17, 18, 19, 20, 21, 22, 23, 24, 25] rfl rfl
  obtain ⟨K1, hK1⟩ : ∃ K1, (aOut K v n9 t9).2 = K1 := ⟨_, rfl⟩
  obtain ⟨r, hr⟩ : ∃ r, (aOut K v n9 t9).1 = r := ⟨_, rfl⟩
  rw [hK1] at hP hD z1 s2 s3
  rw [hr] at s3
  rw [hr]
  refine lv_istore (lv' := (5, .int r) :: (4, .int v) :: lq_l e ad am b) hx hb dL_law_37 hl (by decide) rfl (fun ls hl => ?_)
  refine lv_iload hx hb dL_law_39 (lv_at hl 0 rfl) ?_
  refine lv_ldc (v := (-99999)) hx hb hown (hts _ lq_k16) dL_law_41 ?_
  refine lv_icmp_eq (tgt := 57) hx hb dL_law_43 (by decide) (fun h => ?_) (fun h => ?_)
  · have eK := s3 h
    subst eK
    refine W.widen (k := 60 + 23 * e + 10) (n := 2100 + 138 * e + 60) (by omega) (by omega) ?_
    exact lq_check C1 he z1 s2 (by omega) (by omega) hP hD hS hl (fun H locs ls hP hD hS hl => next _ _ H locs ls z1 s2 hP hD hS hl)
  · refine lv_aload_n hx hb dL_law_46 rfl (lv_at hl 3 rfl) ?_
    refine lv_iload hx hb dL_law_47 (lv_at hl 1 rfl) ?_
    refine zy_P (As := [.ref (am 0), .int v]) (rest := []) (wr := (kwA ad cI cZ K1)) ⟨hx, hb, hml, hown, hts⟩ (kL_act l hl9 D cI cZ am K _ v n9 t9 (zRel_hok hz) (zRel_own hz) hn9 hn1 (by omega) ht1) (va_cwS 2 hts gL_law_L_act rfl rfl rfl (by decide +kernel) ⟨(Nat.le_of_ble_eq_true rfl), (Nat.le_of_ble_eq_true rfl)⟩) hK hP hD hS hA hE hN [26, 27, 28, 29, 30, 31, 32, 33, 34, 35, 36, 37, 38, 39, 40, 41, 42, 43, 44, 45, 46, 47, 48, 49, 50, 51] [0, 1, 2, 3, 4, 5, 6, 7, 8, 9, 10, 11, 12, 13, 14, 15, 16, 17, 18, 19, 20, 21, 22, 23, 24, 25] rfl rfl rfl rfl rfl (by decide) rfl hl.1 rfl (Nat.le_of_ble_eq_true rfl) dL_law_49 ⟨show _ ≤ 861196 by omega, show _ ≤ 6518111 by omega⟩ (fun H locs hP hD hS => ?_)
    have hP : va_P D vwCl (lq_W ad am cI cZ K1 (aOut K v n9 t9).2) H := hP
    have hD : va_D A (lq_W ad am cI cZ K1 (aOut K v n9 t9).2) := hD
    rw [hK1] at hP hD
    rw [hr]
    refine lv_iload hx hb dL_law_52 (lv_at hl 0 rfl) ?_
    refine lv_icmp_ne (tgt := 65) hx hb dL_law_54 (by decide) (fun h => absurd rfl h) (fun _ => ?_)
    refine W.widen (k := 60 + 23 * e + 10) (n := 2100 + 138 * e + 60) (by omega) (by omega) ?_
    exact lq_check C1 he z1 s2 (by omega) (by omega) hP hD hS hl (fun H locs ls hP hD hS hl => next _ _ H locs ls z1 s2 hP hD hS hl)
set_option maxHeartbeats 8000000 in
set_option maxRecDepth 100000 in
theorem lq_end {K M : kS} {i j : Nat} (C0 : lq_C p l s m #[.ref b] c (fun q => s.heap.size ≤ q) b L xs D cI cZ) (hr : meth.sig.returnType = ret) (hlocks : meth.locks = false) (hz : zRel K M i) (hg : wGood K j) (hP : va_P D vwCl (lq_W ad am cI cZ K K) H) (hD : va_D (fun q => s.heap.size ≤ q) (lq_W ad am cI cZ K K)) (hS : va_S (fun q => s.heap.size ≤ q) s.heap H locs) (hl : lv_has ls 6 (lq_l 110 ad am b)) : W p l e0 room_1 s m #[.ref b] below meth c H locs (60 + 23 * 110) (2100 + 138 * 110) (lw_Z below #[.ref b] s) (F0 m 115 ls []) := by
  obtain ⟨hx, hb, hml, hown, hts, hX, hbl, hbA, hA, hl9, hK, hE, hN⟩ := C0
  refine lv_aload_n hx hb dL_law_115 rfl (lv_at hl 2 rfl) ?_
  refine zq_rV (As := []) (rest := []) ⟨hx, hb, hml, hown, hts⟩ (kQ_time l D cI cZ ad K) (cwV 0 hts gL_law_X5_time rfl rfl rfl (by decide +kernel) ⟨(Nat.le_of_ble_eq_true rfl), (Nat.le_of_ble_eq_true rfl)⟩) hK (hP.sub (ws' := (kwA ad cI cZ K)) [0, 1, 2, 3, 4, 5, 6, 7, 8, 9, 10, 11, 12, 13, 14, 15, 16, 17, 18, 19, 20, 21, 22, 23, 24, 25] rfl) hE.1 (ci := 5) (q0 := 0) rfl rfl rfl rfl hl.1 rfl (Nat.le_of_ble_eq_true rfl) dL_law_116 ⟨(Nat.le_of_ble_eq_true rfl), (Nat.le_of_ble_eq_true rfl)⟩ ?_
  refine lv_sipush (v := nI 9900) hx hb dL_law_119 (by decide) ?_
  refine lv_icmp_le (tgt := 127) hx hb dL_law_122 (by decide) (fun h => ?_) (fun _ => ?_)
  · obtain ⟨hT, hEq⟩ := c_end hg h
    refine lv_aload_n hx hb dL_law_127 rfl (lv_at hl 2 rfl) ?_
    refine lv_bipush (v := nI 31) hx hb dL_law_128 (by decide) ?_
    refine zx_Vi (As := [.int (nI 31)]) (rest := []) (wr := (kwA am cI cZ K)) ⟨hx, hb, hml, hown, hts⟩ (kX5_pass l hl9 D cI cZ ad K _ (nI 31) (zRel_hok hz)) (cwV 1 hts gL_law_X5_pass rfl rfl rfl (by decide +kernel) ⟨(Nat.le_of_ble_eq_true rfl), (Nat.le_of_ble_eq_true rfl)⟩) hK hP hD hS hA hE [0, 1, 2, 3, 4, 5, 6, 7, 8, 9, 10, 11, 12, 13, 14, 15, 16, 17, 18, 19, 20, 21, 22, 23, 24, 25] [26, 27, 28, 29, 30, 31, 32, 33, 34, 35, 36, 37, 38, 39, 40, 41, 42, 43, 44, 45, 46, 47, 48, 49, 50, 51] rfl rfl rfl rfl rfl (by decide) (ci := 5) (q0 := 0) rfl rfl rfl rfl hl.1 rfl (Nat.le_of_ble_eq_true rfl) dL_law_130 ⟨(Nat.le_of_ble_eq_true rfl), (Nat.le_of_ble_eq_true rfl)⟩ (fun E ce q9 H locs h0 hE9 hP hD hS hce hcv hcl => absurd hT h0) (fun hT H locs hP hD hS => ?_)
    have hP := hP.sub (ws' := (kwA ad cI cZ (kPassS (kPassB K (nI 31)) 8))) [26, 27, 28, 29, 30, 31, 32, 33, 34, 35, 36, 37, 38, 39, 40, 41, 42, 43, 44, 45, 46, 47, 48, 49, 50, 51] rfl
    obtain ⟨E, hE1⟩ : ∃ E, kPassS (kPassB K (nI 31)) 8 = E := ⟨_, rfl⟩
    rw [hE1] at hP hEq
    obtain ⟨N, hN1⟩ : ∃ N, kPassN (kPassB K (nI 31)) 8 = N := ⟨_, rfl⟩
    have hNle : N ≤ 8 := by rw [← hN1]; exact kPassN_le 8
    rw [hN1]
    refine lv_istore_n (lv' := [(3, .int (nI N)), (2, .ref (am 0)), (1, .ref (ad 0)), (0, .ref b)]) hx hb dL_law_133 rfl hl (by decide) rfl (fun ls hl => ?_)
    refine lv_iconst (v := nI 0) hx hb dL_law_134 (by decide) ?_
    refine lv_istore (lv' := [(4, .int (nI 0)), (3, .int (nI N)), (2, .ref (am 0)), (1, .ref (ad 0)), (0, .ref b)]) hx hb dL_law_135 hl (by decide) rfl (fun ls hl => ?_)
    refine lv_iconst (v := nI 0) hx hb dL_law_137 (by decide) ?_
    refine lv_istore (lv' := [(5, .int (nI 0)), (4, .int (zsm (E 1) 0)), (3, .int (nI N)), (2, .ref (am 0)), (1, .ref (ad 0)), (0, .ref b)]) hx hb dL_law_138 hl (by decide) rfl (fun ls hl => ?_)
    have loop : ∀ (n k : Nat), k ≤ 8 → 8 - k < n → ∀ ls : Array Slot, lv_has ls 6 [(5, .int (nI k)), (4, .int (zsm (E 1) k)), (3, .int (nI N)), (2, .ref (am 0)), (1, .ref (ad 0)), (0, .ref b)] → W p l e0 room_1 s m #[.ref b] below meth c H locs (60 + 23 * 110 + 1) (2100 + 138 * 110 + 6) (lw_Z below #[.ref b] s) (F0 m 140 ls []) := by
      intro n
      induction n with
      | zero => intro k _ h; exact absurd h (Nat.not_lt_zero _)
      | succ n ih =>
        intro k hk hn ls hl
        refine lv_iload hx hb dL_law_140 (lv_at hl 0 rfl) ?_
        refine lv_bipush (v := nI 8) hx hb dL_law_142 (by decide) ?_
        refine lv_icmp_ge (tgt := 164) hx hb dL_law_144 (by decide) (fun c_1 => ?_) (fun c_1 => ?_)
        · have c_1 := (nI_leI (a := 8) (b := k) (by omega) (by omega)).mp c_1
          have ek : k = 8 := by omega
          subst ek
          refine lv_iload_n hx hb dL_law_164 rfl (lv_at hl 2 rfl) ?_
          refine lv_if_lt (tgt := 181) hx hb dL_law_165 (by decide) (fun h => absurd h (Int32.not_lt.mpr (nI_pos' (by omega)))) (fun _ => ?_)
          refine lv_iload hx hb dL_law_168 (lv_at hl 1 rfl) ?_
          refine lv_aload_n hx hb dL_law_170 rfl (lv_at hl 4 rfl) ?_
          refine zq_rV (As := []) (rest := [.int (zsm (E 1) 8)]) ⟨hx, hb, hml, hown, hts⟩ (kQ_takings l D cI cZ ad E) (cwV 0 hts gL_law_X5_takings rfl rfl rfl (by decide +kernel) ⟨(Nat.le_of_ble_eq_true rfl), (Nat.le_of_ble_eq_true rfl)⟩) hK hP hE.1 (ci := 5) (q0 := 0) rfl rfl rfl rfl hl.1 rfl (Nat.le_of_ble_eq_true rfl) dL_law_171 ⟨(Nat.le_of_ble_eq_true rfl), (Nat.le_of_ble_eq_true rfl)⟩ ?_
          refine lv_icmp_ne (tgt := 181) hx hb dL_law_174 (by decide) (fun h => absurd hEq h) (fun _ => ?_)
          refine lv_iconst (v := 1) hx hb dL_law_177 (by decide) ?_
          refine lv_goto (tgt := 182) hx hb dL_law_178 (by decide) ?_
          refine va_forget (fun q hq => hS.2.2 q hq) ?_
          refine W.widen (k := 861196) (n := 6518111) (by omega) (by omega) ?_
          exact lw_ret hx hb hr hlocks dL_law_182
        · have c_1 : ¬ 8 ≤ k := fun h => c_1 ((nI_leI (a := 8) (b := k) (by omega) (by omega)).mpr h)
          refine lv_iload hx hb dL_law_147 (lv_at hl 1 rfl) ?_
          refine lv_aload_n hx hb dL_law_149 rfl (lv_at hl 4 rfl) ?_
          refine lv_iload hx hb dL_law_150 (lv_at hl 0 rfl) ?_
          refine zq_rV (As := [.int (nI k)]) (rest := [.int (zsm (E 1) k)]) ⟨hx, hb, hml, hown, hts⟩ (kQ_spent l D cI cZ ad E k (by omega)) (cwV 1 hts gL_law_X5_spent rfl rfl rfl (by decide +kernel) ⟨(Nat.le_of_ble_eq_true rfl), (Nat.le_of_ble_eq_true rfl)⟩) hK hP hE.1 (ci := 5) (q0 := 0) rfl rfl rfl rfl hl.1 rfl (Nat.le_of_ble_eq_true rfl) dL_law_152 ⟨(Nat.le_of_ble_eq_true rfl), (Nat.le_of_ble_eq_true rfl)⟩ ?_
          refine lv_iadd hx hb dL_law_155 ?_
          refine zz_top (y := zsm (E 1) (k + 1)) rfl ?_
          refine lv_istore (lv' := [(4, .int (zsm (E 1) (k + 1))), (5, .int (nI k)), (3, .int (nI N)), (2, .ref (am 0)), (1, .ref (ad 0)), (0, .ref b)]) hx hb dL_law_156 hl (by decide) rfl (fun ls hl => ?_)
          refine lv_iinc (v := nI (k + 1)) (lv' := [(5, .int (nI (k + 1))), (4, .int (zsm (E 1) (k + 1))), (3, .int (nI N)), (2, .ref (am 0)), (1, .ref (ad 0)), (0, .ref b)]) hx hb dL_law_158 hl (k := 1) rfl ((show nI k + Int32.ofInt 1 = nI k + nI 1 from rfl).trans (nI_add _ _)) (by decide) rfl (fun ls hl => ?_)
          refine lv_goto (tgt := 140) hx hb dL_law_161 (by decide) ?_
          exact ih (k + 1) (by omega) (by omega) ls hl
    exact loop 9 0 (by omega) (by omega) ls hl
  · refine lv_iconst (v := 1) hx hb dL_law_125 (by decide) ?_
    refine va_forget (fun q hq => hS.2.2 q hq) ?_
    refine W.widen (k := 861196) (n := 6518111) (by omega) (by omega) ?_
    exact lw_ret hx hb hr hlocks dL_law_126
set_option maxHeartbeats 8000000 in
set_option maxRecDepth 100000 in
theorem law_loop (C0 : lq_C p l s m #[.ref b] c (fun q => s.heap.size ≤ q) b L xs D cI cZ) (hr : meth.sig.returnType = ret) (hlocks : meth.locks = false) (hL : L ≤ 260) : ∀ (n e : Nat), e ≤ 110 → 110 - e < n → ∀ (K M : kS) (H : Heap) (locs : List Loc) (ls : Array Slot), zRel K M e → wGood K (2 * e) → va_P D vwCl (lq_W ad am cI cZ K K) H → va_D (fun q => s.heap.size ≤ q) (lq_W ad am cI cZ K K) → va_S (fun q => s.heap.size ≤ q) s.heap H locs → lv_has ls 6 (lq_l e ad am b) → W p l e0 room_1 s m #[.ref b] below meth c H locs (60 + 23 * e) (2100 + 138 * e) (lw_Z below #[.ref b] s) (F0 m 18 ls []) := by
  have C1 := C0
  obtain ⟨hx, hb, hml, hown, hts, hX, hbl, hbA, hA, hl9, hK, hE, hN⟩ := C0
  intro n
  induction n with
  | zero => intro e _ h; exact absurd h (Nat.not_lt_zero _)
  | succ n ih =>
    intro e he hn K M H locs ls hz hg hP hD hS hl
    refine lv_iload_n hx hb dL_law_18 rfl (lv_at hl 0 rfl) ?_
    refine lv_bipush (v := nI 110) hx hb dL_law_19 (by decide) ?_
    refine lv_icmp_ge (tgt := 115) hx hb dL_law_21 (by decide) (fun c_1 => ?_) (fun c_1 => ?_)
    · have c_1 := (nI_leI (a := 110) (b := e) (by omega) (by omega)).mp c_1
      have ee : e = 110 := by omega
      subst ee
      exact lq_end C1 hr hlocks hz hg hP hD hS hl
    · have c_1 : ¬ 110 ≤ e := fun h => c_1 ((nI_leI (a := 110) (b := e) (by omega) (by omega)).mpr h)
      refine lq_step C1 hL (by omega) hz hg (by omega) (by omega) hP hD hS hl (fun K M H locs ls hz hg hP hD hS hl => ?_)
      refine lv_iinc (v := nI (e + 1)) (lv' := lq_l (e + 1) ad am b) hx hb dL_law_109 hl (k := 0) rfl ((show nI e + Int32.ofInt 1 = nI e + nI 1 from rfl).trans (nI_add _ _)) (by decide) rfl (fun ls hl => ?_)
      refine lv_goto (tgt := 18) hx hb dL_law_112 (by decide) ?_
      exact ih (e + 1) (by omega) (by omega) K M H locs ls hz hg hP hD hS hl
end LQ
