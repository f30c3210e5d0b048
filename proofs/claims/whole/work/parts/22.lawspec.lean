/-! the law's own walk: what its cases share -/
abbrev lwW (ad am : Nat → Nat) (cI cZ cJ : ClassId) (K M : kS) (o : Nat) (f : Nat → Int64) : va_W := kwO ad cI cZ cJ K o f ++ mwA am cI cZ M
abbrev lwl (j o : Nat) (am ad : Nat → Nat) (b : Nat) : List (Nat × Value) := [(4, .int (nI (6 * j))), (3, .ref o), (2, .ref (am 0)), (1, .ref (ad 0)), (0, .ref b)]
abbrev lw_Cx (p : Program) (l : Launch) (s : State) (m : MethodId) (args : Array Value) (c : Code) (A : Nat → Prop) (b L : Nat) (xs : Nat → Int32) (D : va_G) (cI cZ cJ : ClassId) : Prop :=
  p.tables.exec = Jvm.exec ∧ c.code = cL_law ∧ c.maxLocals = 7 ∧ s.vm.findClass RL = some m.cls ∧ (∀ w ∈ wsL_law, w.before args s = true) ∧ va_X b L xs s s.heap ∧ b < s.heap.size ∧ ¬ A b ∧ (∀ q : Nat, s.heap.size ≤ q → A q) ∧ l.stackTraces = false ∧ va_K D vwCl (zTj cI cZ cJ) s ∧ zEnv A s s.heap ∧ zNc s
section LW
variable {p : Program} {l : Launch} {e : Env} {R : Room} {s : State} {m : MethodId} {args : Array Value} {below : List Frame} {meth : Method} {c : Code} {H : Heap} {locs : List Loc} {cells slots : Nat} {Q : State → Prop}
variable {D : va_G} {tys : List (ClassId × FieldType)} {ws wc wr w1 : va_W} {pc : Nat} {cc : ByteArray} {ls : Array Slot} {rest st0 : List Value} {A : Nat → Prop}
variable {y : MethodName} {wsl Ts : List Cond} {rm : Room} {b : Addr} {As : List Value} {r9 : Int32} {own C : String} {index maxL nL n mc ms : Nat} {bytes : ByteArray} {ret : Option FieldType} {hh : List (Nat × Nat × Nat × Nat)}
theorem zy_S (S : CallFix p m c cc nL s args Ts own) (hM : zMh l y wsl rm As D tys wc w1 H.size r9 mc ms) (cw : vx_CSW R s args own index y bytes maxL ret hh wsl rm mc ms n) (hK : va_K D vwCl tys s) (hP : va_P D vwCl ws H) (hD : va_D A ws) (hS : va_S A s.heap H locs) (hA : ∀ q : Nat, s.heap.size ≤ q → A q) (hE : zEnv A s s.heap) (hN : zNc s) (isC isR : List Nat) (hC : isC.map (fun i => ws[i]?) = wc.map some) (hC2 : isC.filterMap (fun i => ws[i]?) = wc) (hnC : va_nd isC = true) (hR : isR.map (fun i => ws[i]?) = wr.map some) (hnR : va_nd isR = true) (hdis : ∀ i ∈ isR, i ∉ isC)
    (hn : As.length = n) (hsize : ls.size = nL) (hst : st0 = As.reverse ++ rest) (hW : (rest.map fun v => v.category).sum ≤ 8) (hdg : decode cc pc = .ok (.invokestatic index, 3)) (hf : cells + mc ≤ R.cells ∧ slots + ms ≤ R.slots)
    (kk : ∀ (H1 : Heap) (locs1 : List Loc), va_P D vwCl (wr ++ w1) H1 → va_D A (wr ++ w1) → va_S A s.heap H1 locs1 → W p l e R s m args below meth c H1 locs1 (cells + mc) (slots + ms) Q (F0 m (pc + 3) ls (.int r9 :: rest))) : W p l e R s m args below meth c H locs cells slots Q (F0 m pc ls st0) := by
  have hFc := va_free (wc := wc) hD hS hA isC hC
  refine va_calli (vx_runSW (g := F0 m pc ls st0) S hM cw ⟨zPh_blind _ _ _ _ _, fun U hU hW => ?_⟩ rfl hn hsize hst (lv_room hW) hdg hf) hS (fun q _ h => hFc q h) hFc (fun r u t H1 locs1 ht hvm hw hB hz1 hk1 hS1 => ?_)
  · have h := zx_pre (av := As) hK hP hD hS hA hE isC hC hC2 hnC U hU hW
    exact ⟨h.1, h.2.1, h.2.2.1, h.2.2.2.1, h.2.2.2.2.1, h.2.2.2.2.2, hN.moved hW.alike⟩
  · obtain ⟨hP1, hK1, hD1⟩ := hB
    rw [ht] at hP1
    obtain ⟨hP2, hD2⟩ := va_join (wr := wr) (w1 := w1) hP hD isC isR hC hR hnR hdis hk1 hFc hP1 hD1
    subst hw
    exact kk H1 locs1 hP2 hD2 hS1
/-- an argument out of the script -/
theorem lw_arg {L : Nat} {xs : Nat → Int32} (hx : p.tables.exec = Jvm.exec) (hb : c.code = cc) (hX : va_X b L xs s s.heap) (hbl : b < s.heap.size) (hbA : ¬ A b) (hS : va_S A s.heap H locs) {j : Nat} (k : Nat) {nk : Int} (hnk : Int32.ofInt nk = nI k) (h0 : ls[0]? = some (.val (.ref b))) (h4 : ls[4]? = some (.val (.int (nI (6 * j))))) (hk : 6 * j + k < L) (hL : L ≤ 3072)
    (d0 : decode cc pc = .ok (.aload_n 0, 1)) (d1 : decode cc (pc + 1) = .ok (.iload 4, 2)) (d3 : decode cc (pc + 3) = .ok (.iconst nk, 1)) (d4 : decode cc (pc + 4) = .ok (.iadd, 1)) (d5 : decode cc (pc + 5) = .ok (.iaload, 1))
    (kk : W p l e R s m args below meth c H locs cells slots Q (F0 m (pc + 6) ls (.int (xs (6 * j + k)) :: rest))) : W p l e R s m args below meth c H locs cells slots Q (F0 m pc ls rest) := by
  refine lv_aload_n hx hb d0 rfl h0 ?_
  refine lv_iload hx hb d1 h4 ?_
  refine lv_iconst (v := nI k) hx hb d3 hnk ?_
  refine lv_iadd hx hb d4 ?_
  refine zz_top (y := nI (6 * j + k)) (nI_add _ _) ?_
  refine va_sld hx hb hX hbl hbA hS (vp_in_nI hk (by omega)) d5 ?_
  rw [nI_clamp (by omega)]
  exact kk
theorem lw_cmp0 (x : Int64) : lg_cmp x x = nI 0 := by simp [lg_cmp, nI_0]
/-- a case's end: the kinds of throw agree, and the answers if nothing was thrown -/
theorem lw_tail {L : Nat} {xs : Nat → Int32} {cI cZ cJ : ClassId} {ad am : Nat → Nat} {K M : kS} {o j P : Nat} {f : Nat → Int64} {r6 : Int32} {og : Int} (C0 : lw_Cx p l s m args c A b L xs D cI cZ cJ) (hR : R = room_1) (hcl : cells ≤ 601024) (hsl : slots ≤ 7293034)
    (hP : va_P D vwCl (lwW ad am cI cZ cJ K M o f) H) (hD : va_D A (lwW ad am cI cZ cJ K M o f)) (hS : va_S A s.heap H locs) (hl : lv_has ls 7 ((6, .int r6) :: (5, .int r9) :: lwl j o am ad b)) (e1 : M 0 0 = r9) (e2 : r9 = nI 0 → f 0 = r6.toInt64)
    (d0 : decode cL_law P = .ok (.aload_n 2, 1)) (d1 : decode cL_law (P + 1) = .ok (.invokevirtual 87, 3)) (d4 : decode cL_law (P + 4) = .ok (.iload 5, 2)) (d6 : decode cL_law (P + 6) = .ok (.if_icmp .eq 5, 3))
    (d11 : decode cL_law (P + 11) = .ok (.iload 5, 2)) (d13 : decode cL_law (P + 13) = .ok (.ifCond .ne 15, 3)) (d16 : decode cL_law (P + 16) = .ok (.aload_n 3, 1)) (d17 : decode cL_law (P + 17) = .ok (.iconst 0, 1)) (d18 : decode cL_law (P + 18) = .ok (.laload, 1)) (d19 : decode cL_law (P + 19) = .ok (.iload 6, 2)) (d21 : decode cL_law (P + 21) = .ok (.i2l, 1)) (d22 : decode cL_law (P + 22) = .ok (.lcmp, 1)) (d23 : decode cL_law (P + 23) = .ok (.ifCond .eq 5, 3)) (d28 : decode cL_law (P + 28) = .ok (.goto og, 3)) (hog : ((P + 28 : Nat) : Int) + og = ((1374 : Nat) : Int))
    (next : ∀ ls : Array Slot, lv_has ls 7 (lwl j o am ad b) → W p l e R s m args below meth c H locs cells slots Q (F0 m 1374 ls [])) : W p l e R s m args below meth c H locs cells slots Q (F0 m P ls []) := by
  obtain ⟨hx, hb, hml, hown, hts, hX, hbl, hbA, hA, hl9, hK, hE, hN⟩ := C0
  subst hR
  have hK2 : va_K D vwCl (zTy cI cZ) s := hK.sub [0, 1] rfl
  have fin : W p l e room_1 s m args below meth c H locs cells slots Q (F0 m (P + 28) ls []) := lv_goto (tgt := 1374) hx hb d28 hog (next ls (lv_sub hl [2, 3, 4, 5, 6] rfl))
  refine lv_aload_n hx hb d0 rfl (lv_at hl 4 rfl) ?_
  refine zc_rV (As := []) (rest := []) ⟨hx, hb, hml, hown, hts⟩ (kX6_thrown l D cI cZ am M) (cwV 0 hts gL_law_X6_thrown rfl rfl rfl (by decide +kernel) ⟨(Nat.le_of_ble_eq_true rfl), (Nat.le_of_ble_eq_true rfl)⟩) hK2 (hP.sub (ws' := mwA am cI cZ M) [27, 28, 29, 30, 31, 32, 33, 34, 35, 36, 37, 38, 39, 40, 41, 42, 43] rfl) (ci := 6) (q0 := 0) rfl rfl rfl rfl hl.1 rfl (Nat.le_of_ble_eq_true rfl) d1 ⟨hcl, hsl⟩ ?_
  refine lv_iload hx hb d4 (lv_at hl 1 rfl) ?_
  refine lv_icmp_eq (tgt := P + 11) hx hb d6 (by omega) (fun c_1 => ?_) (fun c_1 => absurd e1 c_1)
  refine lv_iload hx hb d11 (lv_at hl 1 rfl) ?_
  refine lv_if_ne (tgt := P + 28) hx hb d13 (by omega) (fun c_2 => fin) (fun c_2 => ?_)
  refine lv_aload_n hx hb d16 rfl (lv_at hl 3 rfl) ?_
  refine lv_iconst (v := nI 0) hx hb d17 (by decide) ?_
  refine va_lald hx hb hK hP 26 2 rfl rfl (i := nI 0) (vp_in_nI (by decide) (by decide)) d18 ?_
  refine lv_iload hx hb d19 (lv_at hl 0 rfl) ?_
  refine lv_i2l (v := r6.toInt64) hx hb d21 rfl ?_
  refine W.lcmp hx hb d22 ?_
  have e3 : f (nI 0).toNatClampNeg = r6.toInt64 := (congrArg f (by decide : (nI 0).toNatClampNeg = 0)).trans (e2 (c_2.trans nI_0.symm))
  refine zz_top (y := nI 0) (by rw [e3]; exact lw_cmp0 _) ?_
  exact lv_if_eq (tgt := P + 28) hx hb d23 (by omega) (fun _ => fin) (fun h => absurd nI_0 h)
end LW
