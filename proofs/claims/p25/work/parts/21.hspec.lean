/-! the law: its small methods, what they share -/
def zEK (T : Int32) (E K : kS) : kS := if T = nI 0 then E else K
theorem zEK_0 {T : Int32} {E K : kS} (h : T = nI 0) : zEK T E K = E := if_pos h
theorem zEK_n {T : Int32} {E K : kS} (h : ¬ T = nI 0) : zEK T E K = K := if_neg h
def zAn (T R : Int32) : Int32 := if T = nI 0 then R else (-99999)
theorem zAn_0 {T R : Int32} (h : T = nI 0) : zAn T R = R := if_pos h
theorem zAn_n {T R : Int32} (h : ¬ T = nI 0) : zAn T R = (-99999) := if_neg h
/-- which kinds of a throw an answer can be -/
def zRng (a b c : Bool) (T : Int32) : Prop := T = nI 0 ∨ (a = true ∧ T = nI 1) ∨ (b = true ∧ T = nI 2) ∨ (c = true ∧ T = nI 3)
theorem zr0 {a b c : Bool} : zRng a b c (nI 0) := Or.inl rfl
theorem zr1 {b c : Bool} : zRng true b c (nI 1) := Or.inr (Or.inl ⟨rfl, rfl⟩)
theorem zr2 {a c : Bool} : zRng a true c (nI 2) := Or.inr (Or.inr (Or.inl ⟨rfl, rfl⟩))
theorem zr3 {a b : Bool} : zRng a b true (nI 3) := Or.inr (Or.inr (Or.inr ⟨rfl, rfl⟩))
theorem zr_ite {a b c : Bool} {P : Prop} [Decidable P] {T U : Int32} (h1 : zRng a b c T) (h2 : zRng a b c U) : zRng a b c (if P then T else U) := by
  split
  · exact h1
  · exact h2
theorem zr_seq {a b c : Bool} {T U : Int32} (h1 : zRng a b c T) (h2 : zRng a b c U) : zRng a b c (zseq T U) := zr_ite h2 h1
theorem zr_P {b c : Bool} {x : Int32} : zRng true b c (kNeedP x) := zr_ite zr1 (zr_ite zr0 zr1)
theorem zr_R {b c : Bool} {x : Int32} : zRng true b c (kNeedR x) := zr_ite zr1 (zr_ite zr0 zr1)
theorem zr_S {b c : Bool} {x : Int32} : zRng true b c (kNeedS x) := zr_ite zr1 (zr_ite zr0 zr1)
theorem zr_C {b c : Bool} {K : kS} {x : Int32} : zRng true b c (kNeedC K x) := zr_ite zr1 (zr_ite zr0 zr1)
theorem zr_H {a b : Bool} {K : kS} {p : Nat} : zRng a b true (kNeedH K p) := zr_ite zr0 zr3
theorem zr_Se {a b : Bool} {K : kS} {x : Int32} {r q m : Nat} : zRng a b true (kSeatsT K x r q m) := zr_ite zr0 zr3
theorem zr_Ri {a b : Bool} {K : kS} {p : Nat} {m c : Int32} : zRng a b true (kRightT K p m c) := zr_ite (zr_ite zr0 zr3) (zr_ite zr0 zr3)
theorem kPassT_r {K : kS} {x : Int32} : zRng false true true (kPassT K x) := zr_ite zr2 (zr_ite (zr_ite zr0 zr3) zr2)
theorem kSetT_r {x : Int32} : zRng false true false (kSetT x) := zr_ite zr2 (zr_ite zr0 zr2)
theorem kCodeT_r {K : kS} {a b : Int32} : zRng false true true (kCodeT K a b) := zr_ite zr2 (zr_ite (zr_ite zr2 (zr_ite (zr_ite zr0 zr3) zr2)) zr2)
theorem kJoinT_r {K : kS} {x : Int32} : zRng true false true (kJoinT K x) := zr_seq zr_P (zr_ite zr3 (zr_ite zr3 zr0))
theorem kQuitT_r {K : kS} {x : Int32} : zRng true false true (kQuitT K x) := zr_seq zr_P (zr_ite zr0 zr3)
theorem kQueT_r {K : kS} {x : Int32} : zRng true false false (kQueT K x) := zr_ite zr1 zr0
theorem kHoldT_r {K : kS} {a r q m c : Int32} : zRng true true true (kHoldT K a r q m c) := zr_seq zr_P (zr_seq zr_R (zr_ite zr1 (zr_ite (zr_seq (zr_ite zr0 zr_C) (zr_ite zr2 (zr_ite zr2 (zr_ite (zr_ite (zr_seq zr_Se (zr_seq zr_Ri zr0)) zr3) zr2)))) zr1)))
theorem kPayT_r {K : kS} {a x : Int32} : zRng true true true (kPayT K a x) := zr_seq zr_P (zr_ite zr2 (zr_ite (zr_seq zr_H (zr_ite zr0 zr3)) zr2))
theorem kGoT_r {K : kS} {a : Int32} : zRng true false true (kGoT K a) := zr_seq zr_P (zr_seq zr_H zr0)
theorem kLapT_r {a : Int32} : zRng true false false (kLapT a) := zr_seq zr_P zr0
theorem kSeaT_r {a : Int32} : zRng true false false (kSeaT a) := zr_seq zr_S zr0
theorem kFirT_r {r m : Int32} : zRng true true false (kFirT r m) := zr_seq zr_R (zr_ite zr2 (zr_ite zr0 zr2))
theorem kOffT_r {K : kS} {a s x : Int32} : zRng true true true (kOffT K a s x) := zr_seq zr_P (zr_seq zr_S (zr_ite zr2 (zr_ite (zr_ite (zr_ite (zr_ite zr0 zr3) zr3) zr3) zr2)))
theorem kRetT_r {K : kS} {s : Int32} : zRng true false true (kRetT K s) := zr_seq zr_S (zr_ite zr0 zr3)
/-- the three classes of a throw are none of them a sort of another, as the handlers ask -/
def zNc (U : State) : Prop := va_Nc "java/lang/IllegalStateException" "java/lang/IllegalArgumentException" U ∧ va_Nc "java/lang/IllegalArgumentException" "java/lang/IndexOutOfBoundsException" U ∧ va_Nc "java/lang/IllegalStateException" "java/lang/IndexOutOfBoundsException" U
theorem zNc.moved {u U : State} (hvm : u.vm.Alike U.vm) (h : zNc u) : zNc U := ⟨h.1.moved hvm, h.2.1.moved hvm, h.2.2.moved hvm⟩
abbrev zPh (D : va_G) (tys : List (ClassId × FieldType)) (w : va_W) (sz : Nat) : State → Prop := fun U => U.heap.size = sz ∧ va_P D vwCl w U.heap ∧ va_K D vwCl tys U ∧ va_D (fun _ => True) w ∧ zEnv (va_A w sz) U U.heap ∧ zNc U
theorem zPh_blind (av : List Value) (D : va_G) (tys : List (ClassId × FieldType)) (w : va_W) (sz : Nat) : FrameBlind (va_Pc av (zPh D tys w sz)) := fun a U g mk q => by
  obtain ⟨q0, q1, qP, qK, qD, qE, qN⟩ := q
  exact ⟨q0, q1, qP, va_K.moved (u := U) (U := U.calling g mk a) (Vm.Alike.refl U.vm) qK, qD, qE.calling g mk a, zNc.moved (u := U) (U := U.calling g mk a) (Vm.Alike.refl U.vm) qN⟩
abbrev zMh (l : Launch) (y : MethodName) (wsl : List Cond) (rm : Room) (av : List Value) (D : va_G) (tys : List (ClassId × FieldType)) (wc w1 : va_W) (sz : Nat) (r9 : Int32) (mc ms : Nat) : Prop := Met l y wsl rm (va_Pc av (zPh D tys wc sz)) (va_Qi (fun r (_ : Unit) => r = r9) (fun _ => zPo D tys (va_A wc sz) w1) (va_A wc sz)) mc ms (va_A wc sz)

section LW
variable {p : Program} {l : Launch} {e : Env} {R : Room} {s : State} {m : MethodId} {args : Array Value} {below : List Frame} {meth : Method} {c : Code} {H : Heap} {locs : List Loc} {cells slots : Nat} {Q : State → Prop}
variable {D : va_G} {tys : List (ClassId × FieldType)} {ws wc wr w1 : va_W} {pc : Nat} {cc : ByteArray} {ls : Array Slot} {rest st0 : List Value} {A : Nat → Prop}
variable {y : MethodName} {wsl Ts : List Cond} {rm : Room} {b : Addr} {As : List Value} {r9 : Int32} {own C : String} {index maxL nL n mc ms : Nat} {bytes : ByteArray} {ret : Option FieldType} {hh : List (Nat × Nat × Nat × Nat)}
theorem zy_S (S : CallFix p m c cc nL s args Ts own) (hM : zMh l y wsl rm As D tys wc w1 H.size r9 mc ms) (cw : vx_CSW R s args own index y bytes maxL ret hh wsl rm mc ms n) (hK : va_K D vwCl tys s) (hP : va_P D vwCl ws H) (hD : va_D A ws) (hS : va_S A s.heap H locs) (hA : ∀ q : Nat, s.heap.size ≤ q → A q) (hE : zEnv A s s.heap) (hN : zNc s) (isC isR : List Nat) (hC : isC.map (fun i => ws[i]?) = wc.map some) (hC2 : isC.filterMap (fun i => ws[i]?) = wc) (hnC : va_nd isC = true) (hR : isR.map (fun i => ws[i]?) = wr.map some) (hnR : va_nd isR = true) (hdis : ∀ i ∈ isR, i ∉ isC)
    (hn : As.length = n) (hsize : ls.size = nL) (hst : st0 = As.reverse ++ rest) (hW : (rest.map fun v => v.category).sum ≤ 8) (hdg : decode cc pc = .ok (.invokestatic index, 3)) (hf : cells + mc ≤ R.cells ∧ slots + ms ≤ R.slots)
    (kk : ∀ (H1 : Heap) (locs1 : List Loc), va_P D vwCl (wr ++ w1) H1 → va_D A (wr ++ w1) → va_S A s.heap H1 locs1 → W p l e R s m args below meth c H1 locs1 (cells + mc) (slots + ms) Q (F0 m (pc + 3) ls (.int r9 :: rest))) : W p l e R s m args below meth c H locs cells slots Q (F0 m pc ls st0) := by
  have hFc := va_free (wc := wc) hD hS hA isC hC
  refine va_calli (vx_runSW (g := F0 m pc ls st0) S hM cw ⟨zPh_blind _ _ _ _ _, fun U hU hW => ?_⟩ rfl hn hsize hst (lv_room hW) hdg hf) hS (fun q _ h => hFc q h) hFc (fun r u t H1 locs1 ht hvm hw hB hz1 hk1 hS1 => ?_)
  · have h := zx_pre (av := As) hK hP hD hS hA hE isC hC hC2 hnC U hU hW
    exact ⟨h.1, h.2.1, h.2.2.1, h.2.2.2.1, h.2.2.2.2.1, h.2.2.2.2.2, hN.moved hW.alike⟩
  · obtain ⟨hP1, hK1, hD1⟩ := hB
    rw [ht] at hP1
    obtain ⟨hP2, hD2⟩ := va_join (wr := wr) (w1 := w1) hP hD isC isR hC hR hnR hdis hk1 hFc hP1 hD1
    subst hw
    exact kk H1 locs1 hP2 hD2 hS1
theorem zy_P (S : CallFix p m c cc nL s args Ts own) (hM : zMh l y wsl rm As D tys wc w1 H.size r9 mc ms) (cw : CallB R s args own index y bytes maxL ret wsl rm mc ms n ∧ (Cond.static y).before args s = true) (hK : va_K D vwCl tys s) (hP : va_P D vwCl ws H) (hD : va_D A ws) (hS : va_S A s.heap H locs) (hA : ∀ q : Nat, s.heap.size ≤ q → A q) (hE : zEnv A s s.heap) (hN : zNc s) (isC isR : List Nat) (hC : isC.map (fun i => ws[i]?) = wc.map some) (hC2 : isC.filterMap (fun i => ws[i]?) = wc) (hnC : va_nd isC = true) (hR : isR.map (fun i => ws[i]?) = wr.map some) (hnR : va_nd isR = true) (hdis : ∀ i ∈ isR, i ∉ isC)
    (hn : As.length = n) (hsize : ls.size = nL) (hst : st0 = As.reverse ++ rest) (hW : (rest.map fun v => v.category).sum ≤ 8) (hdg : decode cc pc = .ok (.invokestatic index, 3)) (hf : cells + mc ≤ R.cells ∧ slots + ms ≤ R.slots)
    (kk : ∀ (H1 : Heap) (locs1 : List Loc), va_P D vwCl (wr ++ w1) H1 → va_D A (wr ++ w1) → va_S A s.heap H1 locs1 → W p l e R s m args below meth c H1 locs1 (cells + mc) (slots + ms) Q (F0 m (pc + 3) ls (.int r9 :: rest))) : W p l e R s m args below meth c H locs cells slots Q (F0 m pc ls st0) := by
  have hFc := va_free (wc := wc) hD hS hA isC hC
  refine va_calli (va_runS (g := F0 m pc ls st0) S hM cw ⟨zPh_blind _ _ _ _ _, fun U hU hW => ?_⟩ rfl hn hsize hst (lv_room hW) hdg hf) hS (fun q _ h => hFc q h) hFc (fun r u t H1 locs1 ht hvm hw hB hz1 hk1 hS1 => ?_)
  · have h := zx_pre (av := As) hK hP hD hS hA hE isC hC hC2 hnC U hU hW
    exact ⟨h.1, h.2.1, h.2.2.1, h.2.2.2.1, h.2.2.2.2.1, h.2.2.2.2.2, hN.moved hW.alike⟩
  · obtain ⟨hP1, hK1, hD1⟩ := hB
    rw [ht] at hP1
    obtain ⟨hP2, hD2⟩ := va_join (wr := wr) (w1 := w1) hP hD isC isR hC hR hnR hdis hk1 hFc hP1 hD1
    subst hw
    exact kk H1 locs1 hP2 hD2 hS1
end LW
def aLow (x n : Int32) : Int32 := (x &&& 2147483647) - (x &&& 2147483647) / n * n
theorem aAnd (x : Int32) : ∃ y, y < 2 ^ 31 ∧ x &&& 2147483647 = nI y := by
  refine ⟨x.toBitVec.toNat % 2 ^ 31, Nat.mod_lt _ (by decide), ?_⟩
  apply Int32.toBitVec_inj.1
  apply BitVec.eq_of_toNat_eq
  rw [Int32.toBitVec_and, BitVec.toNat_and, show (2147483647 : Int32).toBitVec.toNat = 2 ^ 31 - 1 from by decide +kernel]
  rw [Nat.and_two_pow_sub_one_eq_mod]
  show x.toBitVec.toNat % 2 ^ 31 = (BitVec.ofNat 32 (x.toBitVec.toNat % 2 ^ 31)).toNat
  rw [BitVec.toNat_ofNat]
  have h : x.toBitVec.toNat % 2 ^ 31 < 2 ^ 31 := Nat.mod_lt _ (by decide)
  rw [Nat.mod_eq_of_lt (show x.toBitVec.toNat % 2 ^ 31 < 2 ^ 32 by omega)]
theorem aLow_of (x : Int32) {k : Nat} (h1 : 0 < k) (h2 : k < 2 ^ 31) : ∃ q, q < k ∧ aLow x (nI k) = nI q ∧ (aLow x (nI k)).toNatClampNeg = q := by
  obtain ⟨y, hy, e⟩ := aAnd x
  refine ⟨y % k, Nat.mod_lt _ h1, ?_, ?_⟩
  · unfold aLow; rw [e, pk_rem hy h1 h2]
  · unfold aLow; rw [e, pk_rem hy h1 h2, nI_clamp (Nat.lt_trans (Nat.mod_lt _ h1) h2)]
set_option maxHeartbeats 4000000 in
theorem kL_low (l : Launch) (x n : Int32) (hn : ¬ n = 0) : Met l yL_low wsL_low ({ frames := 0, cells := 0, slots := 0, locals := 0 }) (va_Pc [.int x, .int n] (fun _ => True)) (vp_Si (fun r => r = aLow x n)) 0 0 (fun _ => False) := by
  refine Met.ofW (cc := cL_low) (maxL := 2) (ret := (some .int)) (by decide) rfl ?_
  intro pP e s m args below meth c s₁ B hml hv
  obtain ⟨rfl, -⟩ := hv
  have hx := B.exec
  have hb := B.bytes
  have hr := B.returns
  have hts := atoms_spec (ws := wsL_low) B.pre
  have hown : s.vm.findClass RL = some m.cls := findClass_of_methodNamed B.named
  have hl := lv_entry ([.int x, .int n]) (n := 2) (Nat.le_of_ble_eq_true rfl)
  rw [lg_entry_eq]
  generalize (lg_sl ([.int x, .int n]) ++ List.replicate (2 - (lg_sl ([.int x, .int n])).length) Slot.unset).toArray = ls at hl ⊢
  have hl : lv_has ls 2 [(0, .int x), (1, .int n)] := hl
  refine lv_iload_n hx hb dL_low_0 rfl (lv_at hl 0 rfl) ?_
  refine lv_ldc (v := 2147483647) hx hb hown (hts (.constant RL 7 (2147483647)) (List.mem_of_getElem? (i := 1) rfl)) dL_low_1 ?_
  refine lv_iand hx hb dL_low_3 ?_
  refine lv_iload_n hx hb dL_low_4 rfl (lv_at hl 1 rfl) ?_
  refine lv_irem hx hb dL_low_5 hn ?_
  exact W.iret (v := aLow x n) hx hb hr (fun t ht hW => ⟨_, rfl, rfl, ht⟩) (fun _ h => nomatch h) dL_low_6
def aCell (L : Nat) (xs : Nat → Int32) (k : Nat) : Int32 := if k < L then xs k else nI 7919 * (nI k + nI 1307) * (nI k + nI 569)
abbrev zSc (b L : Nat) (xs : Nat → Int32) : State → Prop := fun U => va_X b L xs U U.heap ∧ b < U.heap.size
theorem zSc_blind (av : List Value) (b L : Nat) (xs : Nat → Int32) : FrameBlind (va_Pc av (zSc b L xs)) := fun a U g mk q => by
  obtain ⟨q0, qX, qs⟩ := q
  exact ⟨q0, va_X.moved (u := U) (U := U.calling g mk a) (Vm.Alike.refl U.vm) qX, qs⟩
set_option maxHeartbeats 4000000 in
theorem kL_cell (l : Launch) (b L : Nat) (xs : Nat → Int32) (k : Nat) (hk : k < 110) (hL : L ≤ 260) : Met l yL_cell wsL_cell ({ frames := 0, cells := 0, slots := 0, locals := 0 }) (va_Pc [.ref b, .int (nI k)] (zSc b L xs)) (vp_Si (fun r => r = aCell L xs k)) 0 0 (fun _ => False) := by
  refine Met.ofW (cc := cL_cell) (maxL := 2) (ret := (some .int)) (by decide) rfl ?_
  intro pP e s m args below meth c s₁ B hml hv
  obtain ⟨rfl, hX, hbl⟩ := hv
  have hx := B.exec
  have hb := B.bytes
  have hr := B.returns
  have hts := atoms_spec (ws := wsL_cell) B.pre
  have hown : s.vm.findClass RL = some m.cls := findClass_of_methodNamed B.named
  have hbA : ¬ (fun _ : Nat => False) b := fun h => h
  have hS : va_S (fun _ : Nat => False) s.heap s.heap [] := va_S.rf
  have hl := lv_entry ([.ref b, .int (nI k)]) (n := 2) (Nat.le_of_ble_eq_true rfl)
  rw [lg_entry_eq]
  generalize (lg_sl ([.ref b, .int (nI k)]) ++ List.replicate (2 - (lg_sl ([.ref b, .int (nI k)])).length) Slot.unset).toArray = ls at hl ⊢
  have hl : lv_has ls 2 [(0, .ref b), (1, .int (nI k))] := hl
  refine lv_iload_n hx hb dL_cell_0 rfl (lv_at hl 1 rfl) ?_
  refine lv_aload_n hx hb dL_cell_1 rfl (lv_at hl 0 rfl) ?_
  refine va_slen hx hb hX hbl hbA hS dL_cell_2 ?_
  refine lv_icmp_ge (tgt := 12) hx hb dL_cell_3 (by decide) (fun c_1 => ?_) (fun c_1 => ?_)
  · have c_1 := (nI_leI (a := L) (b := k) (by omega) (by omega)).mp c_1
    refine lv_sipush (v := nI 7919) hx hb dL_cell_12 (by decide) ?_
    refine lv_iload_n hx hb dL_cell_15 rfl (lv_at hl 1 rfl) ?_
    refine lv_sipush (v := nI 1307) hx hb dL_cell_16 (by decide) ?_
    refine lv_iadd hx hb dL_cell_19 ?_
    refine lv_imul hx hb dL_cell_20 ?_
    refine lv_iload_n hx hb dL_cell_21 rfl (lv_at hl 1 rfl) ?_
    refine lv_sipush (v := nI 569) hx hb dL_cell_22 (by decide) ?_
    refine lv_iadd hx hb dL_cell_25 ?_
    refine lv_imul hx hb dL_cell_26 ?_
    exact W.iret (v := nI 7919 * (nI k + nI 1307) * (nI k + nI 569)) hx hb hr (fun t ht hW => ⟨_, rfl, (if_neg (by omega)).symm, ht⟩) (fun _ h => nomatch h) dL_cell_27
  · have c_1 : ¬ L ≤ k := fun h => c_1 ((nI_leI (a := L) (b := k) (by omega) (by omega)).mpr h)
    refine lv_aload_n hx hb dL_cell_6 rfl (lv_at hl 0 rfl) ?_
    refine lv_iload_n hx hb dL_cell_7 rfl (lv_at hl 1 rfl) ?_
    refine va_sld hx hb hX hbl hbA hS (vp_in_nI (by omega) (by omega)) dL_cell_8 ?_
    rw [nI_clamp (by omega)]
    refine lv_goto (tgt := 27) hx hb dL_cell_9 (by decide) ?_
    exact W.iret (v := xs k) hx hb hr (fun t ht hW => ⟨_, rfl, (if_pos (by omega)).symm, ht⟩) (fun _ h => nomatch h) dL_cell_27
