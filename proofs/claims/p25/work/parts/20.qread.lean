/-! readers of the class, for right arguments: nothing is thrown, nothing is written -/
abbrev zRe (D : va_G) (tys : List (ClassId × FieldType)) (w : va_W) : State → Prop := fun U => va_P D vwCl w U.heap ∧ va_K D vwCl tys U ∧ ∀ w ∈ zNW, va_Nw w U
theorem zRe_blind (av : List Value) (D : va_G) (tys : List (ClassId × FieldType)) (w : va_W) : FrameBlind (va_Pc av (zRe D tys w)) := fun a U g mk q => by
  obtain ⟨q0, qP, qK, qE⟩ := q
  exact ⟨q0, qP, va_K.moved (u := U) (U := U.calling g mk a) (Vm.Alike.refl U.vm) qK, zNW_warm (s := U) (U := U.calling g mk a) (State.WarmedH.refl U) qE⟩
def zQv : Array Value → State → Outcome → State → Prop := fun _ st o t => o = .returned none ∧ t.heap = st.heap
section ZQ
variable {p : Program} {l : Launch} {e : Env} {R : Room} {s : State} {m : MethodId} {args : Array Value} {below : List Frame} {meth : Method} {c : Code} {H : Heap} {locs : List Loc} {cells slots : Nat} {Q : State → Prop}
variable {D : va_G} {tys : List (ClassId × FieldType)} {wc : va_W} {pc : Nat} {cc : ByteArray} {ls : Array Slot} {rest st0 : List Value}
variable {y : MethodName} {wsl Ts : List Cond} {rm : Room} {b : Addr} {As : List Value} {rv : Int32} {own C : String} {index maxL nL n : Nat} {bytes : ByteArray} {ret : Option FieldType}
theorem zq_callv {a : Array Value} (hr : CallRun p l e R s m args below meth c H locs cells slots 0 0 (F0 m pc ls st0) rest (zQv a) (fun _ => False)) (kk : W p l e R s m args below meth c H locs cells slots Q (F0 m (pc + 3) ls rest)) : W p l e R s m args below meth c H locs cells slots Q (F0 m pc ls st0) := by
  intro T hT X
  obtain ⟨v, st₀, t, T', L, h0, X', hL, e1, ⟨hv, hh⟩, st⟩ := hr T hT X
  cases hv
  obtain ⟨t2, a1, b1⟩ := kk T' (by rw [e1, hh, h0]) (Stand.forget X' (fun q h => (hL q h).elim))
  exact ⟨t2, st t2 a1, b1⟩
theorem zq_cS (S : CallFix p m c cc nL s args Ts own) (hM : Met l y wsl rm (va_Pc As (fun _ => True)) zQv 0 0 (fun _ => False)) (cw : CallB R s args own index y bytes maxL ret wsl rm 0 0 n ∧ (Cond.static y).before args s = true)
    (hn : As.length = n) (hsize : ls.size = nL) (hst : st0 = As.reverse ++ rest) (hW : (rest.map fun v => v.category).sum ≤ 8) (hdg : decode cc pc = .ok (.invokestatic index, 3)) (hf : cells ≤ R.cells ∧ slots ≤ R.slots)
    (kk : W p l e R s m args below meth c H locs cells slots Q (F0 m (pc + 3) ls rest)) : W p l e R s m args below meth c H locs cells slots Q (F0 m pc ls st0) :=
  zq_callv (va_runS (g := F0 m pc ls st0) S hM cw ⟨zTrue_blind _, fun U hU hW => ⟨rfl, trivial⟩⟩ rfl hn hsize hst (lv_room hW) hdg hf).run kk
theorem zq_rV (S : CallFix p m c cc nL s args Ts own) (hM : Met l y wsl rm (va_Pc (.ref b :: As) (zRe D tys wc)) (vp_Si (fun r => r = rv)) 0 0 (fun _ => False)) (cw : CallW R s args own C index y bytes maxL ret wsl rm 0 0 n) (hK : va_K D vwCl tys s) (hPc : va_P D vwCl wc H) (hNW : ∀ w ∈ zNW, va_Nw w s) {q0 ci : Nat} {q : vw_C} {fs : List Value} (hcl : vwCl[ci]? = some q) (hC : q.1 = C) (he : wc[q0]? = some (b, .inr (ci, fs)))
    (hn : As.length = n) (hsize : ls.size = nL) (hst : st0 = As.reverse ++ .ref b :: rest) (hW : (rest.map fun v => v.category).sum ≤ 8) (hdg : decode cc pc = .ok (.invokevirtual index, 3)) (hf : cells ≤ R.cells ∧ slots ≤ R.slots)
    (kk : W p l e R s m args below meth c H locs cells slots Q (F0 m (pc + 3) ls (.int rv :: rest))) : W p l e R s m args below meth c H locs cells slots Q (F0 m pc ls st0) := by
  refine vp_callSi (va_runV (g := F0 m pc ls st0) S hM cw ⟨zRe_blind _ _ _ _, by have h := va_recv hK hPc hcl he; rw [hC] at h; exact h, fun U hU hW => ⟨rfl, by rw [hU]; exact hPc, va_K.moved hW.alike hK, zNW_warm hW hNW⟩⟩ rfl hn hsize hst (lv_room hW) hdg hf).run (fun r hr => ?_)
  subst hr; exact kk
end ZQ
set_option maxHeartbeats 4000000 in
set_option maxRecDepth 100000 in
theorem kN_needPerson (l : Launch) (p : Nat) (hp : p < 8) : Met l yX5_needPerson wsX5_needPerson ({ frames := 0, cells := 0, slots := 0, locals := 0 }) (va_Pc [.int (nI p)] (fun _ => True)) zQv 0 0 (fun _ => False) := by
  refine Met.ofW (cc := cX5_needPerson) (maxL := 1) (ret := none) (by decide) rfl ?_
  intro pP e s m args below meth c s₁ B hml hv
  obtain ⟨rfl, -⟩ := hv
  have hx := B.exec
  have hb := B.bytes
  have hr := B.returns
  have hts := atoms_spec (ws := wsX5_needPerson) B.pre
  have hown : s.vm.findClass RX5 = some m.cls := findClass_of_methodNamed B.named
  have hl := lv_entry ([.int (nI p)]) (n := 1) (Nat.le_of_ble_eq_true rfl)
  rw [lg_entry_eq]
  generalize (lg_sl ([.int (nI p)]) ++ List.replicate (1 - (lg_sl ([.int (nI p)])).length) Slot.unset).toArray = ls at hl ⊢
  have hl : lv_has ls 1 [(0, .int (nI p))] := hl
  refine lv_iload_n hx hb dX5_needPerson_0 rfl (lv_at hl 0 rfl) ?_
  refine lv_if_lt (tgt := 10) hx hb dX5_needPerson_1 (by decide) (fun c_1 => ?_) (fun c_1 => ?_)
  · skip
    have c_1 := (nI_ltI (a := p) (b := 0) (by omega) (by omega)).mp c_1
    omega
  · skip
    have c_1 : ¬ p < 0 := fun h => c_1 ((nI_ltI (a := p) (b := 0) (by omega) (by omega)).mpr h)
    refine lv_iload_n hx hb dX5_needPerson_4 rfl (lv_at hl 0 rfl) ?_
    refine lv_bipush (v := nI 8) hx hb dX5_needPerson_5 (by decide) ?_
    refine lv_icmp_lt (tgt := 20) hx hb dX5_needPerson_7 (by decide) (fun c_2 => ?_) (fun c_2 => ?_)
    · skip
      have c_2 := (nI_ltI (a := p) (b := 8) (by omega) (by omega)).mp c_2
      exact W.vret hx hb hr (fun t ht hW => ⟨rfl, ht⟩) (fun _ h => nomatch h) dX5_needPerson_20
    · skip
      have c_2 : ¬ p < 8 := fun h => c_2 ((nI_ltI (a := p) (b := 8) (by omega) (by omega)).mpr h)
      omega
set_option maxHeartbeats 4000000 in
set_option maxRecDepth 100000 in
theorem kN_needRow (l : Launch) (p : Nat) (hp : p < 6) : Met l yX5_needRow wsX5_needRow ({ frames := 0, cells := 0, slots := 0, locals := 0 }) (va_Pc [.int (nI p)] (fun _ => True)) zQv 0 0 (fun _ => False) := by
  refine Met.ofW (cc := cX5_needRow) (maxL := 1) (ret := none) (by decide) rfl ?_
  intro pP e s m args below meth c s₁ B hml hv
  obtain ⟨rfl, -⟩ := hv
  have hx := B.exec
  have hb := B.bytes
  have hr := B.returns
  have hts := atoms_spec (ws := wsX5_needRow) B.pre
  have hown : s.vm.findClass RX5 = some m.cls := findClass_of_methodNamed B.named
  have hl := lv_entry ([.int (nI p)]) (n := 1) (Nat.le_of_ble_eq_true rfl)
  rw [lg_entry_eq]
  generalize (lg_sl ([.int (nI p)]) ++ List.replicate (1 - (lg_sl ([.int (nI p)])).length) Slot.unset).toArray = ls at hl ⊢
  have hl : lv_has ls 1 [(0, .int (nI p))] := hl
  refine lv_iload_n hx hb dX5_needRow_0 rfl (lv_at hl 0 rfl) ?_
  refine lv_if_lt (tgt := 10) hx hb dX5_needRow_1 (by decide) (fun c_1 => ?_) (fun c_1 => ?_)
  · skip
    have c_1 := (nI_ltI (a := p) (b := 0) (by omega) (by omega)).mp c_1
    omega
  · skip
    have c_1 : ¬ p < 0 := fun h => c_1 ((nI_ltI (a := p) (b := 0) (by omega) (by omega)).mpr h)
    refine lv_iload_n hx hb dX5_needRow_4 rfl (lv_at hl 0 rfl) ?_
    refine lv_bipush (v := nI 6) hx hb dX5_needRow_5 (by decide) ?_
    refine lv_icmp_lt (tgt := 20) hx hb dX5_needRow_7 (by decide) (fun c_2 => ?_) (fun c_2 => ?_)
    · skip
      have c_2 := (nI_ltI (a := p) (b := 6) (by omega) (by omega)).mp c_2
      exact W.vret hx hb hr (fun t ht hW => ⟨rfl, ht⟩) (fun _ h => nomatch h) dX5_needRow_20
    · skip
      have c_2 : ¬ p < 6 := fun h => c_2 ((nI_ltI (a := p) (b := 6) (by omega) (by omega)).mpr h)
      omega
set_option maxHeartbeats 4000000 in
set_option maxRecDepth 100000 in
theorem kN_needSeat (l : Launch) (p : Nat) (hp : p < 60) : Met l yX5_needSeat wsX5_needSeat ({ frames := 0, cells := 0, slots := 0, locals := 0 }) (va_Pc [.int (nI p)] (fun _ => True)) zQv 0 0 (fun _ => False) := by
  refine Met.ofW (cc := cX5_needSeat) (maxL := 1) (ret := none) (by decide) rfl ?_
  intro pP e s m args below meth c s₁ B hml hv
  obtain ⟨rfl, -⟩ := hv
  have hx := B.exec
  have hb := B.bytes
  have hr := B.returns
  have hts := atoms_spec (ws := wsX5_needSeat) B.pre
  have hown : s.vm.findClass RX5 = some m.cls := findClass_of_methodNamed B.named
  have hl := lv_entry ([.int (nI p)]) (n := 1) (Nat.le_of_ble_eq_true rfl)
  rw [lg_entry_eq]
  generalize (lg_sl ([.int (nI p)]) ++ List.replicate (1 - (lg_sl ([.int (nI p)])).length) Slot.unset).toArray = ls at hl ⊢
  have hl : lv_has ls 1 [(0, .int (nI p))] := hl
  refine lv_iload_n hx hb dX5_needSeat_0 rfl (lv_at hl 0 rfl) ?_
  refine lv_if_lt (tgt := 10) hx hb dX5_needSeat_1 (by decide) (fun c_1 => ?_) (fun c_1 => ?_)
  · skip
    have c_1 := (nI_ltI (a := p) (b := 0) (by omega) (by omega)).mp c_1
    omega
  · skip
    have c_1 : ¬ p < 0 := fun h => c_1 ((nI_ltI (a := p) (b := 0) (by omega) (by omega)).mpr h)
    refine lv_iload_n hx hb dX5_needSeat_4 rfl (lv_at hl 0 rfl) ?_
    refine lv_bipush (v := nI 60) hx hb dX5_needSeat_5 (by decide) ?_
    refine lv_icmp_lt (tgt := 20) hx hb dX5_needSeat_7 (by decide) (fun c_2 => ?_) (fun c_2 => ?_)
    · skip
      have c_2 := (nI_ltI (a := p) (b := 60) (by omega) (by omega)).mp c_2
      exact W.vret hx hb hr (fun t ht hW => ⟨rfl, ht⟩) (fun _ h => nomatch h) dX5_needSeat_20
    · skip
      have c_2 : ¬ p < 60 := fun h => c_2 ((nI_ltI (a := p) (b := 60) (by omega) (by omega)).mpr h)
      omega
set_option maxHeartbeats 4000000 in
set_option maxRecDepth 100000 in
theorem kQ_time (l : Launch) (D : va_G) (cI cZ : ClassId) (ad : Nat → Nat) (K : kS)   : Met l yX5_time wsX5_time ({ frames := 0, cells := 0, slots := 0, locals := 0 }) (va_Pc [.ref (ad 0)] (zRe D (zTy cI cZ) (kwA ad cI cZ K))) (vp_Si (fun r => r = K 0 0)) 0 0 (fun _ => False) := by
  refine Met.ofW (cc := cX5_time) (maxL := 1) (ret := (some .int)) (by decide) rfl ?_
  intro pP e s m args below meth c s₁ B hml hv
  obtain ⟨rfl, hP, hK, hNW⟩ := hv
  have hx := B.exec
  have hb := B.bytes
  have hr := B.returns
  have hts := atoms_spec (ws := wsX5_time) B.pre
  have hown : s.vm.findClass RX5 = some m.cls := findClass_of_methodNamed B.named
  have hE : (∀ w ∈ zNW, va_Nw w s) ∧ True := ⟨hNW, trivial⟩
  have hinX5 : ∀ w ∈ u_ws RX5 TX5 9, w ∈ wsX5_time := by decide +kernel
  have hl := lv_entry ([.ref (ad 0)]) (n := 1) (Nat.le_of_ble_eq_true rfl)
  rw [lg_entry_eq]
  generalize (lg_sl ([.ref (ad 0)]) ++ List.replicate (1 - (lg_sl ([.ref (ad 0)])).length) Slot.unset).toArray = ls at hl ⊢
  have hl : lv_has ls 1 [(0, .ref (ad 0))] := hl
  refine lv_aload_n hx hb dX5_time_0 rfl (lv_at hl 0 rfl) ?_
  refine va_get (D := D) (ci := 5) (v := .int (K 0 0)) (C := RX5) (T := TX5) (N := 9) hx hb hts hinX5 hown hK hP 0 rfl rfl 0 (by decide) (hts (.fieldLink RX5 9 "AuditoriumKeys" "now" "I") (List.mem_of_getElem? (i := 1) rfl)) (fun _ h9 => h9) rfl dX5_time_1 ?_
  exact W.iret (v := K 0 0) hx hb hr (fun t ht hW => ⟨_, rfl, rfl, ht⟩) (fun _ h => nomatch h) dX5_time_4
set_option maxHeartbeats 4000000 in
set_option maxRecDepth 100000 in
theorem kQ_takings (l : Launch) (D : va_G) (cI cZ : ClassId) (ad : Nat → Nat) (K : kS)   : Met l yX5_takings wsX5_takings ({ frames := 0, cells := 0, slots := 0, locals := 0 }) (va_Pc [.ref (ad 0)] (zRe D (zTy cI cZ) (kwA ad cI cZ K))) (vp_Si (fun r => r = K 0 2)) 0 0 (fun _ => False) := by
  refine Met.ofW (cc := cX5_takings) (maxL := 1) (ret := (some .int)) (by decide) rfl ?_
  intro pP e s m args below meth c s₁ B hml hv
  obtain ⟨rfl, hP, hK, hNW⟩ := hv
  have hx := B.exec
  have hb := B.bytes
  have hr := B.returns
  have hts := atoms_spec (ws := wsX5_takings) B.pre
  have hown : s.vm.findClass RX5 = some m.cls := findClass_of_methodNamed B.named
  have hE : (∀ w ∈ zNW, va_Nw w s) ∧ True := ⟨hNW, trivial⟩
  have hinX5 : ∀ w ∈ u_ws RX5 TX5 9, w ∈ wsX5_takings := by decide +kernel
  have hl := lv_entry ([.ref (ad 0)]) (n := 1) (Nat.le_of_ble_eq_true rfl)
  rw [lg_entry_eq]
  generalize (lg_sl ([.ref (ad 0)]) ++ List.replicate (1 - (lg_sl ([.ref (ad 0)])).length) Slot.unset).toArray = ls at hl ⊢
  have hl : lv_has ls 1 [(0, .ref (ad 0))] := hl
  refine lv_aload_n hx hb dX5_takings_0 rfl (lv_at hl 0 rfl) ?_
  refine va_get (D := D) (ci := 5) (v := .int (K 0 2)) (C := RX5) (T := TX5) (N := 9) hx hb hts hinX5 hown hK hP 0 rfl rfl 2 (by decide) (hts (.fieldLink RX5 16 "AuditoriumKeys" "taken" "I") (List.mem_of_getElem? (i := 1) rfl)) (fun _ h9 => h9) rfl dX5_takings_1 ?_
  exact W.iret (v := K 0 2) hx hb hr (fun t ht hW => ⟨_, rfl, rfl, ht⟩) (fun _ h => nomatch h) dX5_takings_4
set_option maxHeartbeats 4000000 in
set_option maxRecDepth 100000 in
theorem kQ_served (l : Launch) (D : va_G) (cI cZ : ClassId) (ad : Nat → Nat) (K : kS)   : Met l yX5_served wsX5_served ({ frames := 3, cells := 0, slots := 0, locals := 67 }) (va_Pc [.ref (ad 0)] (zRe D (zTy cI cZ) (kwA ad cI cZ K))) (vp_Si (fun r => r = lServ K)) 0 0 (fun _ => False) := by
  refine Met.ofW (cc := cX5_served) (maxL := 2) (ret := (some .int)) (by decide) rfl ?_
  intro pP e s m args below meth c s₁ B hml hv
  obtain ⟨rfl, hP, hK, hNW⟩ := hv
  have hx := B.exec
  have hb := B.bytes
  have hr := B.returns
  have hts := atoms_spec (ws := wsX5_served) B.pre
  have hown : s.vm.findClass RX5 = some m.cls := findClass_of_methodNamed B.named
  have hE : (∀ w ∈ zNW, va_Nw w s) ∧ True := ⟨hNW, trivial⟩
  have hinX2 : ∀ w ∈ u_ws RX2 TX2 1, w ∈ wsX5_served := by decide +kernel
  have hinX5 : ∀ w ∈ u_ws RX5 TX5 9, w ∈ wsX5_served := by decide +kernel
  have hl := lv_entry ([.ref (ad 0)]) (n := 2) (Nat.le_of_ble_eq_true rfl)
  rw [lg_entry_eq]
  generalize (lg_sl ([.ref (ad 0)]) ++ List.replicate (2 - (lg_sl ([.ref (ad 0)])).length) Slot.unset).toArray = ls at hl ⊢
  have hl : lv_has ls 2 [(0, .ref (ad 0))] := hl
  refine lv_aload_n hx hb dX5_served_0 rfl (lv_at hl 0 rfl) ?_
  refine va_get (D := D) (ci := 5) (v := .ref (ad 6)) (C := RX5) (T := TX5) (N := 9) hx hb hts hinX5 hown hK hP 0 rfl rfl 5 (by decide) (hts (.fieldLink RX5 33 "AuditoriumKeys" "line" "LAuditoriumKeys$Line;") (List.mem_of_getElem? (i := 1) rfl)) (fun _ h9 => h9) rfl dX5_served_1 ?_
  refine lv_iconst (v := nI 0) hx hb dX5_served_4 (by decide) ?_
  refine zc_rVN (As := [.int (nI 0)]) (rest := []) ⟨hx, hb, hml, hown, hts⟩ (kX2_personAt l D cI cZ ad K (nI 0) ) ⟨va_cnB 1 hts gX5_served_X2_personAt_n126 rfl rfl rfl (hE.1 (.methodLinkNest RX5 126 yX2_personAt "AuditoriumKeys") (List.mem_of_getElem? (i := 21) rfl)) (hts (.initialized RX2) (List.mem_of_getElem? (i := 4) rfl)) (by decide +kernel) ⟨(Nat.le_of_ble_eq_true rfl), (Nat.le_of_ble_eq_true rfl)⟩, (hts (.instanceMethod yX2_personAt) (List.mem_of_getElem? (i := 3) rfl)), (hts (.selects RX2 yX2_personAt yX2_personAt) (List.mem_of_getElem? (i := 5) rfl))⟩ hK (hP.sub (ws' := (kwL ad cI K)) [6, 7] rfl) (ci := 2) (q0 := 0) rfl rfl rfl rfl hl.1 rfl (Nat.le_of_ble_eq_true rfl) dX5_served_5 ⟨Nat.zero_le _, Nat.zero_le _⟩ ?_
  refine lv_istore_n (lv' := [(1, .int (lAt K (nI 0))), (0, .ref (ad 0))]) hx hb dX5_served_8 rfl hl (by decide) rfl (fun ls hl => ?_)
  refine lv_iload_n hx hb dX5_served_9 rfl (lv_at hl 0 rfl) ?_
  refine lv_iconst (v := (-1)) hx hb dX5_served_10 (by decide) ?_
  refine lv_icmp_eq (tgt := 30) hx hb dX5_served_11 (by decide) (fun c_1 => ?_) (fun c_1 => ?_)
  · skip
    have c_1 : lAt K (nI 0) = (-1) := c_1
    refine lv_iconst (v := (-1)) hx hb dX5_served_30 (by decide) ?_
    exact W.iret (v := (-1)) hx hb hr (fun t ht hW => ⟨_, rfl, (by simp [lServ, eq_true c_1]), ht⟩) (fun _ h => nomatch h) dX5_served_31
  · skip
    have c_1 : ¬ lAt K (nI 0) = (-1) := c_1
    obtain ⟨q9, hq9, hq8, hq7, -⟩ := zfind_ex c_1
    have hq6 : lAt K (nI 0) = nI q9 := hq7
    have hq5 : (lAt K (nI 0)).toNatClampNeg = q9 := by rw [hq6]; exact nI_clamp (by omega)
    refine lv_aload_n hx hb dX5_served_14 rfl (lv_at hl 1 rfl) ?_
    refine va_get (D := D) (ci := 5) (v := .ref (ad 6)) (C := RX5) (T := TX5) (N := 9) hx hb hts hinX5 hown hK hP 0 rfl rfl 5 (by decide) (hts (.fieldLink RX5 33 "AuditoriumKeys" "line" "LAuditoriumKeys$Line;") (List.mem_of_getElem? (i := 1) rfl)) (fun _ h9 => h9) rfl dX5_served_15 ?_
    refine va_getN (D := D) (ci := 2) (v := .ref (ad 7)) (C := RX2) (T := TX2) (N := 1) hx hb hts hinX2 hown hK hP 6 rfl rfl 0 (by decide) (va_Nw.use rfl (hE.1 (.fieldLinkNest RX5 134 "AuditoriumKeys$Line" "came" "[I" "AuditoriumKeys") (List.mem_of_getElem? (i := 2) rfl))) (fun _ h9 => h9) rfl dX5_served_18 ?_
    refine lv_iload_n hx hb dX5_served_21 rfl (lv_at hl 0 rfl) ?_
    refine zz_top (y := nI q9) hq6 ?_
    refine zz_iald hx hb hK hP 7 0 rfl rfl q9 (by omega) (by decide) dX5_served_22 ?_
    refine lv_aload_n hx hb dX5_served_23 rfl (lv_at hl 1 rfl) ?_
    refine va_get (D := D) (ci := 5) (v := .int (K 0 0)) (C := RX5) (T := TX5) (N := 9) hx hb hts hinX5 hown hK hP 0 rfl rfl 0 (by decide) (hts (.fieldLink RX5 9 "AuditoriumKeys" "now" "I") (List.mem_of_getElem? (i := 2) rfl)) (fun _ h9 => h9) rfl dX5_served_24 ?_
    refine lv_icmp_lt (tgt := 32) hx hb dX5_served_27 (by decide) (fun c_2 => ?_) (fun c_2 => ?_)
    · skip
      have c_2 : K 7 q9 < K 0 0 := c_2
      refine lv_iload_n hx hb dX5_served_32 rfl (lv_at hl 0 rfl) ?_
      exact W.iret (v := lAt K (nI 0)) hx hb hr (fun t ht hW => ⟨_, rfl, (by unfold lServ; rw [if_neg c_1, hq5, if_pos c_2]), ht⟩) (fun _ h => nomatch h) dX5_served_33
    · skip
      have c_2 : ¬ K 7 q9 < K 0 0 := c_2
      refine lv_iconst (v := (-1)) hx hb dX5_served_30 (by decide) ?_
      exact W.iret (v := (-1)) hx hb hr (fun t ht hW => ⟨_, rfl, (by unfold lServ; rw [if_neg c_1, hq5, if_neg c_2]), ht⟩) (fun _ h => nomatch h) dX5_served_31
set_option maxHeartbeats 4000000 in
set_option maxRecDepth 100000 in
theorem kQ_queueAt (l : Launch) (D : va_G) (cI cZ : ClassId) (ad : Nat → Nat) (K : kS) (x : Int32) (hq : ¬ lAt K x = (-1)) : Met l yX5_queueAt wsX5_queueAt ({ frames := 3, cells := 0, slots := 0, locals := 67 }) (va_Pc [.ref (ad 0), .int x] (zRe D (zTy cI cZ) (kwA ad cI cZ K))) (vp_Si (fun r => r = lAt K x)) 0 0 (fun _ => False) := by
  refine Met.ofW (cc := cX5_queueAt) (maxL := 3) (ret := (some .int)) (by decide) rfl ?_
  intro pP e s m args below meth c s₁ B hml hv
  obtain ⟨rfl, hP, hK, hNW⟩ := hv
  have hx := B.exec
  have hb := B.bytes
  have hr := B.returns
  have hts := atoms_spec (ws := wsX5_queueAt) B.pre
  have hown : s.vm.findClass RX5 = some m.cls := findClass_of_methodNamed B.named
  have hE : (∀ w ∈ zNW, va_Nw w s) ∧ True := ⟨hNW, trivial⟩
  have hinX5 : ∀ w ∈ u_ws RX5 TX5 9, w ∈ wsX5_queueAt := by decide +kernel
  have hl := lv_entry ([.ref (ad 0), .int x]) (n := 3) (Nat.le_of_ble_eq_true rfl)
  rw [lg_entry_eq]
  generalize (lg_sl ([.ref (ad 0), .int x]) ++ List.replicate (3 - (lg_sl ([.ref (ad 0), .int x])).length) Slot.unset).toArray = ls at hl ⊢
  have hl : lv_has ls 3 [(0, .ref (ad 0)), (1, .int x)] := hl
  refine lv_aload_n hx hb dX5_queueAt_0 rfl (lv_at hl 0 rfl) ?_
  refine va_get (D := D) (ci := 5) (v := .ref (ad 6)) (C := RX5) (T := TX5) (N := 9) hx hb hts hinX5 hown hK hP 0 rfl rfl 5 (by decide) (hts (.fieldLink RX5 33 "AuditoriumKeys" "line" "LAuditoriumKeys$Line;") (List.mem_of_getElem? (i := 3) rfl)) (fun _ h9 => h9) rfl dX5_queueAt_1 ?_
  refine lv_iload_n hx hb dX5_queueAt_4 rfl (lv_at hl 1 rfl) ?_
  refine zc_rVN (As := [.int x]) (rest := []) ⟨hx, hb, hml, hown, hts⟩ (kX2_personAt l D cI cZ ad K x ) ⟨va_cnB 1 hts gX5_queueAt_X2_personAt_n126 rfl rfl rfl (hE.1 (.methodLinkNest RX5 126 yX2_personAt "AuditoriumKeys") (List.mem_of_getElem? (i := 21) rfl)) (hts (.initialized RX2) (List.mem_of_getElem? (i := 5) rfl)) (by decide +kernel) ⟨(Nat.le_of_ble_eq_true rfl), (Nat.le_of_ble_eq_true rfl)⟩, (hts (.instanceMethod yX2_personAt) (List.mem_of_getElem? (i := 4) rfl)), (hts (.selects RX2 yX2_personAt yX2_personAt) (List.mem_of_getElem? (i := 6) rfl))⟩ hK (hP.sub (ws' := (kwL ad cI K)) [6, 7] rfl) (ci := 2) (q0 := 0) rfl rfl rfl rfl hl.1 rfl (Nat.le_of_ble_eq_true rfl) dX5_queueAt_5 ⟨Nat.zero_le _, Nat.zero_le _⟩ ?_
  refine lv_istore_n (lv' := [(2, .int (lAt K x)), (0, .ref (ad 0)), (1, .int x)]) hx hb dX5_queueAt_8 rfl hl (by decide) rfl (fun ls hl => ?_)
  refine lv_iload_n hx hb dX5_queueAt_9 rfl (lv_at hl 0 rfl) ?_
  refine lv_iconst (v := (-1)) hx hb dX5_queueAt_10 (by decide) ?_
  refine lv_icmp_ne (tgt := 24) hx hb dX5_queueAt_11 (by decide) (fun c_1 => ?_) (fun c_1 => ?_)
  · skip
    have c_1 : ¬ lAt K x = (-1) := c_1
    refine lv_iload_n hx hb dX5_queueAt_24 rfl (lv_at hl 0 rfl) ?_
    exact W.iret (v := lAt K x) hx hb hr (fun t ht hW => ⟨_, rfl, rfl, ht⟩) (fun _ h => nomatch h) dX5_queueAt_25
  · skip
    have c_1 : lAt K x = (-1) := c_1
    exact absurd c_1 hq
set_option maxHeartbeats 4000000 in
set_option maxRecDepth 100000 in
theorem kQ_lapses (l : Launch) (D : va_G) (cI cZ : ClassId) (ad : Nat → Nat) (K : kS) (p : Nat) (hp : p < 8) : Met l yX5_lapses wsX5_lapses ({ frames := 1, cells := 0, slots := 0, locals := 21 }) (va_Pc [.ref (ad 0), .int (nI p)] (zRe D (zTy cI cZ) (kwA ad cI cZ K))) (vp_Si (fun r => r = kLapR K p)) 0 0 (fun _ => False) := by
  refine Met.ofW (cc := cX5_lapses) (maxL := 2) (ret := (some .int)) (by decide) rfl ?_
  intro pP e s m args below meth c s₁ B hml hv
  obtain ⟨rfl, hP, hK, hNW⟩ := hv
  have hx := B.exec
  have hb := B.bytes
  have hr := B.returns
  have hts := atoms_spec (ws := wsX5_lapses) B.pre
  have hown : s.vm.findClass RX5 = some m.cls := findClass_of_methodNamed B.named
  have hE : (∀ w ∈ zNW, va_Nw w s) ∧ True := ⟨hNW, trivial⟩
  have hinX1 : ∀ w ∈ u_ws RX1 TX1 7, w ∈ wsX5_lapses := by decide +kernel
  have hinX5 : ∀ w ∈ u_ws RX5 TX5 9, w ∈ wsX5_lapses := by decide +kernel
  have hl := lv_entry ([.ref (ad 0), .int (nI p)]) (n := 2) (Nat.le_of_ble_eq_true rfl)
  rw [lg_entry_eq]
  generalize (lg_sl ([.ref (ad 0), .int (nI p)]) ++ List.replicate (2 - (lg_sl ([.ref (ad 0), .int (nI p)])).length) Slot.unset).toArray = ls at hl ⊢
  have hl : lv_has ls 2 [(0, .ref (ad 0)), (1, .int (nI p))] := hl
  refine lv_iload_n hx hb dX5_lapses_0 rfl (lv_at hl 1 rfl) ?_
  refine zq_cS (As := [.int (nI p)]) (rest := []) ⟨hx, hb, hml, hown, hts⟩ (kN_needPerson l p (by omega)) (va_cwS 1 hts gX5_lapses_X5_needPerson rfl rfl rfl (by decide +kernel) ⟨(Nat.le_of_ble_eq_true rfl), (Nat.le_of_ble_eq_true rfl)⟩) rfl hl.1 rfl (Nat.le_of_ble_eq_true rfl) dX5_lapses_1 ⟨Nat.zero_le _, Nat.zero_le _⟩ ?_
  refine lv_aload_n hx hb dX5_lapses_4 rfl (lv_at hl 0 rfl) ?_
  refine va_get (D := D) (ci := 5) (v := .ref (ad 8)) (C := RX5) (T := TX5) (N := 9) hx hb hts hinX5 hown hK hP 0 rfl rfl 6 (by decide) (hts (.fieldLink RX5 40 "AuditoriumKeys" "holds" "LAuditoriumKeys$Holds;") (List.mem_of_getElem? (i := 1) rfl)) (fun _ h9 => h9) rfl dX5_lapses_5 ?_
  refine lv_iload_n hx hb dX5_lapses_8 rfl (lv_at hl 1 rfl) ?_
  refine zc_rVN (As := [.int (nI p)]) (rest := []) ⟨hx, hb, hml, hown, hts⟩ (kX1_isThere l D cI cZ ad K p (by omega)) ⟨va_cnB 1 hts gX5_lapses_X1_isThere_n70 rfl rfl rfl (hE.1 (.methodLinkNest RX5 70 yX1_isThere "AuditoriumKeys") (List.mem_of_getElem? (i := 15) rfl)) (hts (.initialized RX1) (List.mem_of_getElem? (i := 9) rfl)) (by decide +kernel) ⟨(Nat.le_of_ble_eq_true rfl), (Nat.le_of_ble_eq_true rfl)⟩, (hts (.instanceMethod yX1_isThere) (List.mem_of_getElem? (i := 8) rfl)), (hts (.selects RX1 yX1_isThere yX1_isThere) (List.mem_of_getElem? (i := 10) rfl))⟩ hK (hP.sub (ws' := (kwH ad cI K)) [8, 9, 10, 11, 12, 13, 14, 15] rfl) (ci := 1) (q0 := 0) rfl rfl rfl rfl hl.1 rfl (Nat.le_of_ble_eq_true rfl) dX5_lapses_9 ⟨Nat.zero_le _, Nat.zero_le _⟩ ?_
  refine lv_if_eq (tgt := 27) hx hb dX5_lapses_12 (by decide) (fun c_1 => ?_) (fun c_1 => ?_)
  · skip
    have c_1 := zb_f c_1
    refine lv_iconst (v := (-1)) hx hb dX5_lapses_27 (by decide) ?_
    exact W.iret (v := (-1)) hx hb hr (fun t ht hW => ⟨_, rfl, (by simp [kLapR, c_1]), ht⟩) (fun _ h => nomatch h) dX5_lapses_28
  · skip
    have c_1 := zb_t c_1
    refine lv_aload_n hx hb dX5_lapses_15 rfl (lv_at hl 0 rfl) ?_
    refine va_get (D := D) (ci := 5) (v := .ref (ad 8)) (C := RX5) (T := TX5) (N := 9) hx hb hts hinX5 hown hK hP 0 rfl rfl 6 (by decide) (hts (.fieldLink RX5 40 "AuditoriumKeys" "holds" "LAuditoriumKeys$Holds;") (List.mem_of_getElem? (i := 1) rfl)) (fun _ h9 => h9) rfl dX5_lapses_16 ?_
    refine va_getN (D := D) (ci := 1) (v := .ref (ad 15)) (C := RX1) (T := TX1) (N := 7) hx hb hts hinX1 hown hK hP 8 rfl rfl 6 (by decide) (va_Nw.use rfl (hE.1 (.fieldLinkNest RX5 74 "AuditoriumKeys$Holds" "lapse" "[I" "AuditoriumKeys") (List.mem_of_getElem? (i := 0) rfl))) (fun _ h9 => h9) rfl dX5_lapses_19 ?_
    refine lv_iload_n hx hb dX5_lapses_22 rfl (lv_at hl 1 rfl) ?_
    refine zz_iald hx hb hK hP 15 0 rfl rfl p (by omega) (by decide) dX5_lapses_23 ?_
    refine lv_goto (tgt := 28) hx hb dX5_lapses_24 (by decide) ?_
    exact W.iret (v := K 15 p) hx hb hr (fun t ht hW => ⟨_, rfl, (by simp [kLapR, c_1]), ht⟩) (fun _ h => nomatch h) dX5_lapses_28
set_option maxHeartbeats 4000000 in
set_option maxRecDepth 100000 in
theorem kQ_state (l : Launch) (D : va_G) (cI cZ : ClassId) (ad : Nat → Nat) (K : kS) (p : Nat) (hp : p < 60) : Met l yX5_state wsX5_state ({ frames := 1, cells := 0, slots := 0, locals := 21 }) (va_Pc [.ref (ad 0), .int (nI p)] (zRe D (zTy cI cZ) (kwA ad cI cZ K))) (vp_Si (fun r => r = sState K p)) 0 0 (fun _ => False) := by
  refine Met.ofW (cc := cX5_state) (maxL := 2) (ret := (some .int)) (by decide) rfl ?_
  intro pP e s m args below meth c s₁ B hml hv
  obtain ⟨rfl, hP, hK, hNW⟩ := hv
  have hx := B.exec
  have hb := B.bytes
  have hr := B.returns
  have hts := atoms_spec (ws := wsX5_state) B.pre
  have hown : s.vm.findClass RX5 = some m.cls := findClass_of_methodNamed B.named
  have hE : (∀ w ∈ zNW, va_Nw w s) ∧ True := ⟨hNW, trivial⟩
  have hinX5 : ∀ w ∈ u_ws RX5 TX5 9, w ∈ wsX5_state := by decide +kernel
  have hl := lv_entry ([.ref (ad 0), .int (nI p)]) (n := 2) (Nat.le_of_ble_eq_true rfl)
  rw [lg_entry_eq]
  generalize (lg_sl ([.ref (ad 0), .int (nI p)]) ++ List.replicate (2 - (lg_sl ([.ref (ad 0), .int (nI p)])).length) Slot.unset).toArray = ls at hl ⊢
  have hl : lv_has ls 2 [(0, .ref (ad 0)), (1, .int (nI p))] := hl
  refine lv_iload_n hx hb dX5_state_0 rfl (lv_at hl 1 rfl) ?_
  refine zq_cS (As := [.int (nI p)]) (rest := []) ⟨hx, hb, hml, hown, hts⟩ (kN_needSeat l p (by omega)) (va_cwS 1 hts gX5_state_X5_needSeat rfl rfl rfl (by decide +kernel) ⟨(Nat.le_of_ble_eq_true rfl), (Nat.le_of_ble_eq_true rfl)⟩) rfl hl.1 rfl (Nat.le_of_ble_eq_true rfl) dX5_state_1 ⟨Nat.zero_le _, Nat.zero_le _⟩ ?_
  refine lv_aload_n hx hb dX5_state_4 rfl (lv_at hl 0 rfl) ?_
  refine va_get (D := D) (ci := 5) (v := .ref (ad 16)) (C := RX5) (T := TX5) (N := 9) hx hb hts hinX5 hown hK hP 0 rfl rfl 7 (by decide) (hts (.fieldLink RX5 47 "AuditoriumKeys" "seats" "LAuditoriumKeys$Seats;") (List.mem_of_getElem? (i := 1) rfl)) (fun _ h9 => h9) rfl dX5_state_5 ?_
  refine lv_iload_n hx hb dX5_state_8 rfl (lv_at hl 1 rfl) ?_
  refine zc_rVN (As := [.int (nI p)]) (rest := []) ⟨hx, hb, hml, hown, hts⟩ (kX4_stateOf l D cI cZ ad K p (by omega)) ⟨va_cnB 1 hts gX5_state_X4_stateOf_n189 rfl rfl rfl (hE.1 (.methodLinkNest RX5 189 yX4_stateOf "AuditoriumKeys") (List.mem_of_getElem? (i := 27) rfl)) (hts (.initialized RX4) (List.mem_of_getElem? (i := 9) rfl)) (by decide +kernel) ⟨(Nat.le_of_ble_eq_true rfl), (Nat.le_of_ble_eq_true rfl)⟩, (hts (.instanceMethod yX4_stateOf) (List.mem_of_getElem? (i := 8) rfl)), (hts (.selects RX4 yX4_stateOf yX4_stateOf) (List.mem_of_getElem? (i := 10) rfl))⟩ hK (hP.sub (ws' := (kwS ad cI cZ K)) [16, 17, 18, 19, 20, 21] rfl) (ci := 4) (q0 := 0) rfl rfl rfl rfl hl.1 rfl (Nat.le_of_ble_eq_true rfl) dX5_state_9 ⟨Nat.zero_le _, Nat.zero_le _⟩ ?_
  exact W.iret (v := sState K p) hx hb hr (fun t ht hW => ⟨_, rfl, rfl, ht⟩) (fun _ h => nomatch h) dX5_state_12
set_option maxHeartbeats 4000000 in
set_option maxRecDepth 100000 in
theorem kQ_owner (l : Launch) (D : va_G) (cI cZ : ClassId) (ad : Nat → Nat) (K : kS) (p : Nat) (hp : p < 60) : Met l yX5_owner wsX5_owner ({ frames := 1, cells := 0, slots := 0, locals := 20 }) (va_Pc [.ref (ad 0), .int (nI p)] (zRe D (zTy cI cZ) (kwA ad cI cZ K))) (vp_Si (fun r => r = K 19 p)) 0 0 (fun _ => False) := by
  refine Met.ofW (cc := cX5_owner) (maxL := 2) (ret := (some .int)) (by decide) rfl ?_
  intro pP e s m args below meth c s₁ B hml hv
  obtain ⟨rfl, hP, hK, hNW⟩ := hv
  have hx := B.exec
  have hb := B.bytes
  have hr := B.returns
  have hts := atoms_spec (ws := wsX5_owner) B.pre
  have hown : s.vm.findClass RX5 = some m.cls := findClass_of_methodNamed B.named
  have hE : (∀ w ∈ zNW, va_Nw w s) ∧ True := ⟨hNW, trivial⟩
  have hinX4 : ∀ w ∈ u_ws RX4 TX4 5, w ∈ wsX5_owner := by decide +kernel
  have hinX5 : ∀ w ∈ u_ws RX5 TX5 9, w ∈ wsX5_owner := by decide +kernel
  have hl := lv_entry ([.ref (ad 0), .int (nI p)]) (n := 2) (Nat.le_of_ble_eq_true rfl)
  rw [lg_entry_eq]
  generalize (lg_sl ([.ref (ad 0), .int (nI p)]) ++ List.replicate (2 - (lg_sl ([.ref (ad 0), .int (nI p)])).length) Slot.unset).toArray = ls at hl ⊢
  have hl : lv_has ls 2 [(0, .ref (ad 0)), (1, .int (nI p))] := hl
  refine lv_iload_n hx hb dX5_owner_0 rfl (lv_at hl 1 rfl) ?_
  refine zq_cS (As := [.int (nI p)]) (rest := []) ⟨hx, hb, hml, hown, hts⟩ (kN_needSeat l p (by omega)) (va_cwS 1 hts gX5_owner_X5_needSeat rfl rfl rfl (by decide +kernel) ⟨(Nat.le_of_ble_eq_true rfl), (Nat.le_of_ble_eq_true rfl)⟩) rfl hl.1 rfl (Nat.le_of_ble_eq_true rfl) dX5_owner_1 ⟨Nat.zero_le _, Nat.zero_le _⟩ ?_
  refine lv_aload_n hx hb dX5_owner_4 rfl (lv_at hl 0 rfl) ?_
  refine va_get (D := D) (ci := 5) (v := .ref (ad 16)) (C := RX5) (T := TX5) (N := 9) hx hb hts hinX5 hown hK hP 0 rfl rfl 7 (by decide) (hts (.fieldLink RX5 47 "AuditoriumKeys" "seats" "LAuditoriumKeys$Seats;") (List.mem_of_getElem? (i := 1) rfl)) (fun _ h9 => h9) rfl dX5_owner_5 ?_
  refine va_getN (D := D) (ci := 4) (v := .ref (ad 19)) (C := RX4) (T := TX4) (N := 5) hx hb hts hinX4 hown hK hP 16 rfl rfl 2 (by decide) (va_Nw.use rfl (hE.1 (.fieldLinkNest RX5 192 "AuditoriumKeys$Seats" "owner" "[I" "AuditoriumKeys") (List.mem_of_getElem? (i := 4) rfl))) (fun _ h9 => h9) rfl dX5_owner_8 ?_
  refine lv_iload_n hx hb dX5_owner_11 rfl (lv_at hl 1 rfl) ?_
  refine zz_iald hx hb hK hP 19 0 rfl rfl p (by omega) (by decide) dX5_owner_12 ?_
  exact W.iret (v := K 19 p) hx hb hr (fun t ht hW => ⟨_, rfl, rfl, ht⟩) (fun _ h => nomatch h) dX5_owner_13
set_option maxHeartbeats 4000000 in
set_option maxRecDepth 100000 in
theorem kQ_ownerBySales (l : Launch) (D : va_G) (cI cZ : ClassId) (ad : Nat → Nat) (K : kS) (p : Nat) (t9 : Nat) (hp : p < 60) (ht8 : t9 ≤ 170) (hts9 : K 22 0 = nI t9) : Met l yX5_ownerBySales wsX5_ownerBySales ({ frames := 1, cells := 0, slots := 0, locals := 23 }) (va_Pc [.ref (ad 0), .int (nI p)] (zRe D (zTy cI cZ) (kwA ad cI cZ K))) (vp_Si (fun r => r = tLast K (nI p) t9)) 0 0 (fun _ => False) := by
  refine Met.ofW (cc := cX5_ownerBySales) (maxL := 2) (ret := (some .int)) (by decide) rfl ?_
  intro pP e s m args below meth c s₁ B hml hv
  obtain ⟨rfl, hP, hK, hNW⟩ := hv
  have hx := B.exec
  have hb := B.bytes
  have hr := B.returns
  have hts := atoms_spec (ws := wsX5_ownerBySales) B.pre
  have hown : s.vm.findClass RX5 = some m.cls := findClass_of_methodNamed B.named
  have hE : (∀ w ∈ zNW, va_Nw w s) ∧ True := ⟨hNW, trivial⟩
  have hinX5 : ∀ w ∈ u_ws RX5 TX5 9, w ∈ wsX5_ownerBySales := by decide +kernel
  have hl := lv_entry ([.ref (ad 0), .int (nI p)]) (n := 2) (Nat.le_of_ble_eq_true rfl)
  rw [lg_entry_eq]
  generalize (lg_sl ([.ref (ad 0), .int (nI p)]) ++ List.replicate (2 - (lg_sl ([.ref (ad 0), .int (nI p)])).length) Slot.unset).toArray = ls at hl ⊢
  have hl : lv_has ls 2 [(0, .ref (ad 0)), (1, .int (nI p))] := hl
  refine lv_iload_n hx hb dX5_ownerBySales_0 rfl (lv_at hl 1 rfl) ?_
  refine zq_cS (As := [.int (nI p)]) (rest := []) ⟨hx, hb, hml, hown, hts⟩ (kN_needSeat l p (by omega)) (va_cwS 1 hts gX5_ownerBySales_X5_needSeat rfl rfl rfl (by decide +kernel) ⟨(Nat.le_of_ble_eq_true rfl), (Nat.le_of_ble_eq_true rfl)⟩) rfl hl.1 rfl (Nat.le_of_ble_eq_true rfl) dX5_ownerBySales_1 ⟨Nat.zero_le _, Nat.zero_le _⟩ ?_
  refine lv_aload_n hx hb dX5_ownerBySales_4 rfl (lv_at hl 0 rfl) ?_
  refine va_get (D := D) (ci := 5) (v := .ref (ad 22)) (C := RX5) (T := TX5) (N := 9) hx hb hts hinX5 hown hK hP 0 rfl rfl 8 (by decide) (hts (.fieldLink RX5 54 "AuditoriumKeys" "sales" "LAuditoriumKeys$Sales;") (List.mem_of_getElem? (i := 1) rfl)) (fun _ h9 => h9) rfl dX5_ownerBySales_5 ?_
  refine lv_iload_n hx hb dX5_ownerBySales_8 rfl (lv_at hl 1 rfl) ?_
  refine zc_rVN (As := [.int (nI p)]) (rest := []) ⟨hx, hb, hml, hown, hts⟩ (kX3_lastBuyerOf l D cI cZ ad K (nI p) t9 ht8 hts9) ⟨va_cnB 1 hts gX5_ownerBySales_X3_lastBuyerOf_n195 rfl rfl rfl (hE.1 (.methodLinkNest RX5 195 yX3_lastBuyerOf "AuditoriumKeys") (List.mem_of_getElem? (i := 28) rfl)) (hts (.initialized RX3) (List.mem_of_getElem? (i := 9) rfl)) (by decide +kernel) ⟨(Nat.le_of_ble_eq_true rfl), (Nat.le_of_ble_eq_true rfl)⟩, (hts (.instanceMethod yX3_lastBuyerOf) (List.mem_of_getElem? (i := 8) rfl)), (hts (.selects RX3 yX3_lastBuyerOf yX3_lastBuyerOf) (List.mem_of_getElem? (i := 10) rfl))⟩ hK (hP.sub (ws' := (kwT ad cI K)) [22, 23, 24, 25] rfl) (ci := 3) (q0 := 0) rfl rfl rfl rfl hl.1 rfl (Nat.le_of_ble_eq_true rfl) dX5_ownerBySales_9 ⟨Nat.zero_le _, Nat.zero_le _⟩ ?_
  exact W.iret (v := tLast K (nI p) t9) hx hb hr (fun t ht hW => ⟨_, rfl, rfl, ht⟩) (fun _ h => nomatch h) dX5_ownerBySales_12
set_option maxHeartbeats 4000000 in
set_option maxRecDepth 100000 in
theorem kQ_isSingle (l : Launch) (D : va_G) (cI cZ : ClassId) (ad : Nat → Nat) (K : kS) (p : Nat) (hp : p < 60) : Met l yX5_isSingle wsX5_isSingle ({ frames := 2, cells := 0, slots := 0, locals := 44 }) (va_Pc [.ref (ad 0), .int (nI p)] (zRe D (zTy cI cZ) (kwA ad cI cZ K))) (vp_Si (fun r => r = zb (kSinR K p))) 0 0 (fun _ => False) := by
  refine Met.ofW (cc := cX5_isSingle) (maxL := 4) (ret := (some .boolean)) (by decide) rfl ?_
  intro pP e s m args below meth c s₁ B hml hv
  obtain ⟨rfl, hP, hK, hNW⟩ := hv
  have hx := B.exec
  have hb := B.bytes
  have hr := B.returns
  have hts := atoms_spec (ws := wsX5_isSingle) B.pre
  have hown : s.vm.findClass RX5 = some m.cls := findClass_of_methodNamed B.named
  have hE : (∀ w ∈ zNW, va_Nw w s) ∧ True := ⟨hNW, trivial⟩
  have hinX5 : ∀ w ∈ u_ws RX5 TX5 9, w ∈ wsX5_isSingle := by decide +kernel
  have hl := lv_entry ([.ref (ad 0), .int (nI p)]) (n := 4) (Nat.le_of_ble_eq_true rfl)
  rw [lg_entry_eq]
  generalize (lg_sl ([.ref (ad 0), .int (nI p)]) ++ List.replicate (4 - (lg_sl ([.ref (ad 0), .int (nI p)])).length) Slot.unset).toArray = ls at hl ⊢
  have hl : lv_has ls 4 [(0, .ref (ad 0)), (1, .int (nI p))] := hl
  refine lv_iload_n hx hb dX5_isSingle_0 rfl (lv_at hl 1 rfl) ?_
  refine zq_cS (As := [.int (nI p)]) (rest := []) ⟨hx, hb, hml, hown, hts⟩ (kN_needSeat l p (by omega)) (va_cwS 1 hts gX5_isSingle_X5_needSeat rfl rfl rfl (by decide +kernel) ⟨(Nat.le_of_ble_eq_true rfl), (Nat.le_of_ble_eq_true rfl)⟩) rfl hl.1 rfl (Nat.le_of_ble_eq_true rfl) dX5_isSingle_1 ⟨Nat.zero_le _, Nat.zero_le _⟩ ?_
  refine lv_iload_n hx hb dX5_isSingle_4 rfl (lv_at hl 1 rfl) ?_
  refine lv_bipush (v := nI 10) hx hb dX5_isSingle_5 (by decide) ?_
  refine lv_idiv hx hb dX5_isSingle_7 (by decide) ?_
  refine zz_top (y := nI (p / 10)) (pk_div (by omega) (by decide) (by decide)) ?_
  refine lv_istore_n (lv' := [(2, .int (nI (p / 10))), (0, .ref (ad 0)), (1, .int (nI p))]) hx hb dX5_isSingle_8 rfl hl (by decide) rfl (fun ls hl => ?_)
  refine lv_iload_n hx hb dX5_isSingle_9 rfl (lv_at hl 2 rfl) ?_
  refine lv_bipush (v := nI 10) hx hb dX5_isSingle_10 (by decide) ?_
  refine lv_irem hx hb dX5_isSingle_12 (by decide) ?_
  refine zz_top (y := nI (p % 10)) (pk_rem (by omega) (by decide) (by decide)) ?_
  refine lv_istore_n (lv' := [(3, .int (nI (p % 10))), (2, .int (nI (p / 10))), (0, .ref (ad 0)), (1, .int (nI p))]) hx hb dX5_isSingle_13 rfl hl (by decide) rfl (fun ls hl => ?_)
  refine lv_aload_n hx hb dX5_isSingle_14 rfl (lv_at hl 2 rfl) ?_
  refine va_get (D := D) (ci := 5) (v := .ref (ad 16)) (C := RX5) (T := TX5) (N := 9) hx hb hts hinX5 hown hK hP 0 rfl rfl 7 (by decide) (hts (.fieldLink RX5 47 "AuditoriumKeys" "seats" "LAuditoriumKeys$Seats;") (List.mem_of_getElem? (i := 1) rfl)) (fun _ h9 => h9) rfl dX5_isSingle_15 ?_
  refine lv_iload_n hx hb dX5_isSingle_18 rfl (lv_at hl 1 rfl) ?_
  refine lv_iload_n hx hb dX5_isSingle_19 rfl (lv_at hl 0 rfl) ?_
  refine zc_rVN (As := [.int (nI (p / 10)), .int (nI (p % 10))]) (rest := []) ⟨hx, hb, hml, hown, hts⟩ (kX4_isOpen l D cI cZ ad K (p / 10) (nI (p % 10)) (by omega)) ⟨va_cnB 2 hts gX5_isSingle_X4_isOpen_n198 rfl rfl rfl (hE.1 (.methodLinkNest RX5 198 yX4_isOpen "AuditoriumKeys") (List.mem_of_getElem? (i := 29) rfl)) (hts (.initialized RX4) (List.mem_of_getElem? (i := 9) rfl)) (by decide +kernel) ⟨(Nat.le_of_ble_eq_true rfl), (Nat.le_of_ble_eq_true rfl)⟩, (hts (.instanceMethod yX4_isOpen) (List.mem_of_getElem? (i := 8) rfl)), (hts (.selects RX4 yX4_isOpen yX4_isOpen) (List.mem_of_getElem? (i := 10) rfl))⟩ hK (hP.sub (ws' := (kwS ad cI cZ K)) [16, 17, 18, 19, 20, 21] rfl) (ci := 4) (q0 := 0) rfl rfl rfl rfl hl.1 rfl (Nat.le_of_ble_eq_true rfl) dX5_isSingle_20 ⟨Nat.zero_le _, Nat.zero_le _⟩ ?_
  refine lv_if_eq (tgt := 58) hx hb dX5_isSingle_23 (by decide) (fun c_1 => ?_) (fun c_1 => ?_)
  · skip
    have c_1 := zb_f c_1
    refine lv_iconst (v := nI 0) hx hb dX5_isSingle_58 (by decide) ?_
    exact W.zret (v := nI 0) hx hb hr rfl (fun t ht hW => ⟨_, rfl, (by simp [kSinR, zb, c_1]), ht⟩) (fun _ h => nomatch h) dX5_isSingle_59
  · skip
    have c_1 := zb_t c_1
    refine lv_aload_n hx hb dX5_isSingle_26 rfl (lv_at hl 2 rfl) ?_
    refine va_get (D := D) (ci := 5) (v := .ref (ad 16)) (C := RX5) (T := TX5) (N := 9) hx hb hts hinX5 hown hK hP 0 rfl rfl 7 (by decide) (hts (.fieldLink RX5 47 "AuditoriumKeys" "seats" "LAuditoriumKeys$Seats;") (List.mem_of_getElem? (i := 1) rfl)) (fun _ h9 => h9) rfl dX5_isSingle_27 ?_
    refine lv_iload_n hx hb dX5_isSingle_30 rfl (lv_at hl 1 rfl) ?_
    refine lv_iload_n hx hb dX5_isSingle_31 rfl (lv_at hl 0 rfl) ?_
    refine lv_iconst (v := nI 1) hx hb dX5_isSingle_32 (by decide) ?_
    refine lv_isub hx hb dX5_isSingle_33 ?_
    refine zc_rVN (As := [.int (nI (p / 10)), .int ((nI (p % 10)) - (nI 1))]) (rest := []) ⟨hx, hb, hml, hown, hts⟩ (kX4_isOpen l D cI cZ ad K (p / 10) ((nI (p % 10)) - (nI 1)) (by omega)) ⟨va_cnB 2 hts gX5_isSingle_X4_isOpen_n198 rfl rfl rfl (hE.1 (.methodLinkNest RX5 198 yX4_isOpen "AuditoriumKeys") (List.mem_of_getElem? (i := 29) rfl)) (hts (.initialized RX4) (List.mem_of_getElem? (i := 9) rfl)) (by decide +kernel) ⟨(Nat.le_of_ble_eq_true rfl), (Nat.le_of_ble_eq_true rfl)⟩, (hts (.instanceMethod yX4_isOpen) (List.mem_of_getElem? (i := 8) rfl)), (hts (.selects RX4 yX4_isOpen yX4_isOpen) (List.mem_of_getElem? (i := 10) rfl))⟩ hK (hP.sub (ws' := (kwS ad cI cZ K)) [16, 17, 18, 19, 20, 21] rfl) (ci := 4) (q0 := 0) rfl rfl rfl rfl hl.1 rfl (Nat.le_of_ble_eq_true rfl) dX5_isSingle_34 ⟨Nat.zero_le _, Nat.zero_le _⟩ ?_
    refine lv_if_ne (tgt := 58) hx hb dX5_isSingle_37 (by decide) (fun c_2 => ?_) (fun c_2 => ?_)
    · skip
      have c_2 := zb_t c_2
      refine lv_iconst (v := nI 0) hx hb dX5_isSingle_58 (by decide) ?_
      exact W.zret (v := nI 0) hx hb hr rfl (fun t ht hW => ⟨_, rfl, (by simp [kSinR, zb, c_1, c_2]), ht⟩) (fun _ h => nomatch h) dX5_isSingle_59
    · skip
      have c_2 := zb_f c_2
      refine lv_aload_n hx hb dX5_isSingle_40 rfl (lv_at hl 2 rfl) ?_
      refine va_get (D := D) (ci := 5) (v := .ref (ad 16)) (C := RX5) (T := TX5) (N := 9) hx hb hts hinX5 hown hK hP 0 rfl rfl 7 (by decide) (hts (.fieldLink RX5 47 "AuditoriumKeys" "seats" "LAuditoriumKeys$Seats;") (List.mem_of_getElem? (i := 1) rfl)) (fun _ h9 => h9) rfl dX5_isSingle_41 ?_
      refine lv_iload_n hx hb dX5_isSingle_44 rfl (lv_at hl 1 rfl) ?_
      refine lv_iload_n hx hb dX5_isSingle_45 rfl (lv_at hl 0 rfl) ?_
      refine lv_iconst (v := nI 1) hx hb dX5_isSingle_46 (by decide) ?_
      refine lv_iadd hx hb dX5_isSingle_47 ?_
      refine zz_top (y := nI ((p % 10) + 1)) ((nI_add (p % 10) 1).trans (congrArg nI (by omega))) ?_
      refine zc_rVN (As := [.int (nI (p / 10)), .int (nI ((p % 10) + 1))]) (rest := []) ⟨hx, hb, hml, hown, hts⟩ (kX4_isOpen l D cI cZ ad K (p / 10) (nI ((p % 10) + 1)) (by omega)) ⟨va_cnB 2 hts gX5_isSingle_X4_isOpen_n198 rfl rfl rfl (hE.1 (.methodLinkNest RX5 198 yX4_isOpen "AuditoriumKeys") (List.mem_of_getElem? (i := 29) rfl)) (hts (.initialized RX4) (List.mem_of_getElem? (i := 9) rfl)) (by decide +kernel) ⟨(Nat.le_of_ble_eq_true rfl), (Nat.le_of_ble_eq_true rfl)⟩, (hts (.instanceMethod yX4_isOpen) (List.mem_of_getElem? (i := 8) rfl)), (hts (.selects RX4 yX4_isOpen yX4_isOpen) (List.mem_of_getElem? (i := 10) rfl))⟩ hK (hP.sub (ws' := (kwS ad cI cZ K)) [16, 17, 18, 19, 20, 21] rfl) (ci := 4) (q0 := 0) rfl rfl rfl rfl hl.1 rfl (Nat.le_of_ble_eq_true rfl) dX5_isSingle_48 ⟨Nat.zero_le _, Nat.zero_le _⟩ ?_
      refine lv_if_ne (tgt := 58) hx hb dX5_isSingle_51 (by decide) (fun c_3 => ?_) (fun c_3 => ?_)
      · skip
        have c_3 := zb_t c_3
        refine lv_iconst (v := nI 0) hx hb dX5_isSingle_58 (by decide) ?_
        exact W.zret (v := nI 0) hx hb hr rfl (fun t ht hW => ⟨_, rfl, (by simp [kSinR, zb, c_1, c_2, c_3]), ht⟩) (fun _ h => nomatch h) dX5_isSingle_59
      · skip
        have c_3 := zb_f c_3
        refine lv_iconst (v := nI 1) hx hb dX5_isSingle_54 (by decide) ?_
        refine lv_goto (tgt := 59) hx hb dX5_isSingle_55 (by decide) ?_
        exact W.zret (v := nI 1) hx hb hr rfl (fun t ht hW => ⟨_, rfl, (by simp [kSinR, zb, c_1, c_2, c_3]), ht⟩) (fun _ h => nomatch h) dX5_isSingle_59
set_option maxHeartbeats 4000000 in
set_option maxRecDepth 100000 in
theorem kQ_firstOpen (l : Launch) (D : va_G) (cI cZ : ClassId) (ad : Nat → Nat) (K : kS) (p9 : Nat) (m9 : Nat) (hp9 : p9 < 6) (hm1 : 1 ≤ m9) (hm2 : m9 ≤ 10) : Met l yX5_firstOpen wsX5_firstOpen ({ frames := 2, cells := 0, slots := 0, locals := 44 }) (va_Pc [.ref (ad 0), .int (nI p9), .int (nI m9)] (zRe D (zTy cI cZ) (kwA ad cI cZ K))) (vp_Si (fun r => r = kFirR K p9 (nI m9))) 0 0 (fun _ => False) := by
  refine Met.ofW (cc := cX5_firstOpen) (maxL := 5) (ret := (some .int)) (by decide) rfl ?_
  intro pP e s m args below meth c s₁ B hml hv
  obtain ⟨rfl, hP, hK, hNW⟩ := hv
  have hx := B.exec
  have hb := B.bytes
  have hr := B.returns
  have hts := atoms_spec (ws := wsX5_firstOpen) B.pre
  have hown : s.vm.findClass RX5 = some m.cls := findClass_of_methodNamed B.named
  have hE : (∀ w ∈ zNW, va_Nw w s) ∧ True := ⟨hNW, trivial⟩
  have hinX5 : ∀ w ∈ u_ws RX5 TX5 9, w ∈ wsX5_firstOpen := by decide +kernel
  have hl := lv_entry ([.ref (ad 0), .int (nI p9), .int (nI m9)]) (n := 5) (Nat.le_of_ble_eq_true rfl)
  rw [lg_entry_eq]
  generalize (lg_sl ([.ref (ad 0), .int (nI p9), .int (nI m9)]) ++ List.replicate (5 - (lg_sl ([.ref (ad 0), .int (nI p9), .int (nI m9)])).length) Slot.unset).toArray = ls at hl ⊢
  have hl : lv_has ls 5 [(0, .ref (ad 0)), (1, .int (nI p9)), (2, .int (nI m9))] := hl
  refine lv_iload_n hx hb dX5_firstOpen_0 rfl (lv_at hl 1 rfl) ?_
  refine zq_cS (As := [.int (nI p9)]) (rest := []) ⟨hx, hb, hml, hown, hts⟩ (kN_needRow l p9 (by omega)) (va_cwS 1 hts gX5_firstOpen_X5_needRow rfl rfl rfl (by decide +kernel) ⟨(Nat.le_of_ble_eq_true rfl), (Nat.le_of_ble_eq_true rfl)⟩) rfl hl.1 rfl (Nat.le_of_ble_eq_true rfl) dX5_firstOpen_1 ⟨Nat.zero_le _, Nat.zero_le _⟩ ?_
  refine lv_iload_n hx hb dX5_firstOpen_4 rfl (lv_at hl 2 rfl) ?_
  refine lv_iconst (v := nI 1) hx hb dX5_firstOpen_5 (by decide) ?_
  refine lv_icmp_lt (tgt := 15) hx hb dX5_firstOpen_6 (by decide) (fun c_1 => ?_) (fun c_1 => ?_)
  · skip
    have c_1 := (nI_ltI (a := m9) (b := 1) (by omega) (by omega)).mp c_1
    omega
  · skip
    have c_1 : ¬ m9 < 1 := fun h => c_1 ((nI_ltI (a := m9) (b := 1) (by omega) (by omega)).mpr h)
    refine lv_iload_n hx hb dX5_firstOpen_9 rfl (lv_at hl 2 rfl) ?_
    refine lv_bipush (v := nI 10) hx hb dX5_firstOpen_10 (by decide) ?_
    refine lv_icmp_le (tgt := 25) hx hb dX5_firstOpen_12 (by decide) (fun c_2 => ?_) (fun c_2 => ?_)
    · skip
      have c_2 := (nI_leI (a := m9) (b := 10) (by omega) (by omega)).mp c_2
      refine lv_iconst (v := nI 0) hx hb dX5_firstOpen_25 (by decide) ?_
      refine lv_istore_n (lv' := [(3, .int (nI 0)), (0, .ref (ad 0)), (1, .int (nI p9)), (2, .int (nI m9))]) hx hb dX5_firstOpen_26 rfl hl (by decide) rfl (fun ls hl => ?_)
      refine lv_iconst (v := nI 0) hx hb dX5_firstOpen_27 (by decide) ?_
      refine lv_istore (lv' := [(4, .int (nI 0)), (3, .int (nI 0)), (0, .ref (ad 0)), (1, .int (nI p9)), (2, .int (nI m9))]) hx hb dX5_firstOpen_28 hl (by decide) rfl (fun ls hl => ?_)
      have lp_a : ∀ (n i : Nat), 0 ≤ i → i ≤ 10 → 10 - i < n → (∀ j, j < i → decide (kFirL K p9 (j + 1) = nI m9) = false) → ∀ ls : Array Slot, lv_has ls 5 [(4, .int (nI i)), (3, .int (kFirL K p9 i)), (0, .ref (ad 0)), (1, .int (nI p9)), (2, .int (nI m9))] → W pP l e ({ frames := 2, cells := 0, slots := 0, locals := 44 } : Room) s m ([.ref (ad 0), .int (nI p9), .int (nI m9)] : List Value).toArray below meth c s.heap [] 0 0 (MQ below ((vp_Si (fun r => r = kFirR K p9 (nI m9)))) ([.ref (ad 0), .int (nI p9), .int (nI m9)] : List Value).toArray s 0 0 (fun _ => False)) (F0 m 30 ls []) := by
        intro n
        induction n with
        | zero => intro i _ _ h; exact absurd h (Nat.not_lt_zero _)
        | succ n ih_a =>
          intro i hlo_a hin_a hdn_a hno ls hl
          refine lv_iload hx hb dX5_firstOpen_30 (lv_at hl 0 rfl) ?_
          refine lv_bipush (v := nI 10) hx hb dX5_firstOpen_32 (by decide) ?_
          refine lv_icmp_ge (tgt := 76) hx hb dX5_firstOpen_34 (by decide) (fun c_3 => ?_) (fun c_3 => ?_)
          · skip
            have c_3 := (nI_leI (a := 10) (b := i) (by omega) (by omega)).mp c_3
            have hi8 : i = 10 := by omega
            refine lv_iconst (v := (-1)) hx hb dX5_firstOpen_76 (by decide) ?_
            exact W.iret (v := (-1)) hx hb hr (fun t ht hW => ⟨_, rfl, (by unfold kFirR; rw [hi8] at hno; rw [show kFirI K p9 (nI m9) = -1 from zfind_no hno, if_pos rfl]), ht⟩) (fun _ h => nomatch h) dX5_firstOpen_77
          · skip
            have c_3 : ¬ 10 ≤ i := fun h => c_3 ((nI_leI (a := 10) (b := i) (by omega) (by omega)).mpr h)
            refine lv_aload_n hx hb dX5_firstOpen_37 rfl (lv_at hl 2 rfl) ?_
            refine va_get (D := D) (ci := 5) (v := .ref (ad 16)) (C := RX5) (T := TX5) (N := 9) hx hb hts hinX5 hown hK hP 0 rfl rfl 7 (by decide) (hts (.fieldLink RX5 47 "AuditoriumKeys" "seats" "LAuditoriumKeys$Seats;") (List.mem_of_getElem? (i := 3) rfl)) (fun _ h9 => h9) rfl dX5_firstOpen_38 ?_
            refine lv_iload_n hx hb dX5_firstOpen_41 rfl (lv_at hl 3 rfl) ?_
            refine lv_iload hx hb dX5_firstOpen_42 (lv_at hl 0 rfl) ?_
            refine zc_rVN (As := [.int (nI p9), .int (nI i)]) (rest := []) ⟨hx, hb, hml, hown, hts⟩ (kX4_isOpen l D cI cZ ad K p9 (nI i) (by omega)) ⟨va_cnB 2 hts gX5_firstOpen_X4_isOpen_n198 rfl rfl rfl (hE.1 (.methodLinkNest RX5 198 yX4_isOpen "AuditoriumKeys") (List.mem_of_getElem? (i := 29) rfl)) (hts (.initialized RX4) (List.mem_of_getElem? (i := 11) rfl)) (by decide +kernel) ⟨(Nat.le_of_ble_eq_true rfl), (Nat.le_of_ble_eq_true rfl)⟩, (hts (.instanceMethod yX4_isOpen) (List.mem_of_getElem? (i := 10) rfl)), (hts (.selects RX4 yX4_isOpen yX4_isOpen) (List.mem_of_getElem? (i := 12) rfl))⟩ hK (hP.sub (ws' := (kwS ad cI cZ K)) [16, 17, 18, 19, 20, 21] rfl) (ci := 4) (q0 := 0) rfl rfl rfl rfl hl.1 rfl (Nat.le_of_ble_eq_true rfl) dX5_firstOpen_44 ⟨Nat.zero_le _, Nat.zero_le _⟩ ?_
            refine lv_if_eq (tgt := 56) hx hb dX5_firstOpen_47 (by decide) (fun c_4 => ?_) (fun c_4 => ?_)
            · skip
              have c_4 := zb_f c_4
              refine lv_iconst (v := nI 0) hx hb dX5_firstOpen_56 (by decide) ?_
              refine lv_istore_n (lv' := [(3, .int (nI 0)), (4, .int (nI i)), (0, .ref (ad 0)), (1, .int (nI p9)), (2, .int (nI m9))]) hx hb dX5_firstOpen_57 rfl hl (by decide) rfl (fun ls hl => ?_)
              refine lv_iload_n hx hb dX5_firstOpen_58 rfl (lv_at hl 0 rfl) ?_
              refine lv_iload_n hx hb dX5_firstOpen_59 rfl (lv_at hl 4 rfl) ?_
              refine lv_icmp_ne (tgt := 70) hx hb dX5_firstOpen_60 (by decide) (fun c_5 => ?_) (fun c_5 => ?_)
              · skip
                have c_5 : ¬ nI 0 = nI m9 := c_5
                refine lv_iinc (v := nI (i + 1)) (lv' := [(4, .int (nI (i + 1))), (3, .int (nI 0)), (0, .ref (ad 0)), (1, .int (nI p9)), (2, .int (nI m9))]) hx hb dX5_firstOpen_70 hl (k := 1) rfl ((show nI i + Int32.ofInt 1 = nI i + nI 1 from rfl).trans (nI_add _ _)) (by decide) rfl (fun ls hl => ?_)
                refine lv_goto (tgt := 30) hx hb dX5_firstOpen_73 (by decide) ?_
                have es_6 : kFirL K p9 (i + 1) = nI 0 := (by simp [kFirL, c_4])
                exact ih_a (i + 1) (by omega) (by omega) (by omega) (lt_succ_all hno (by simp [kFirL, c_4, c_5])) ls (by rw [es_6]; exact lv_sub hl [0, 1, 2, 3, 4] rfl)
              · skip
                have c_5 : nI 0 = nI m9 := c_5
                refine lv_iload hx hb dX5_firstOpen_63 (lv_at hl 1 rfl) ?_
                refine lv_iload_n hx hb dX5_firstOpen_65 rfl (lv_at hl 4 rfl) ?_
                refine lv_isub hx hb dX5_firstOpen_66 ?_
                refine lv_iconst (v := nI 1) hx hb dX5_firstOpen_67 (by decide) ?_
                refine lv_iadd hx hb dX5_firstOpen_68 ?_
                exact W.iret (v := ((nI i) - (nI m9)) + (nI 1)) hx hb hr (fun t ht hW => ⟨_, rfl, (by unfold kFirR; rw [show kFirI K p9 (nI m9) = nI i from zfind_at (by omega) hno (by simp [kFirL, c_4, eq_true c_5]), if_neg (nI_nm1 (by omega))]), ht⟩) (fun _ h => nomatch h) dX5_firstOpen_69
            · skip
              have c_4 := zb_t c_4
              refine lv_iload_n hx hb dX5_firstOpen_50 rfl (lv_at hl 1 rfl) ?_
              refine lv_iconst (v := nI 1) hx hb dX5_firstOpen_51 (by decide) ?_
              refine lv_iadd hx hb dX5_firstOpen_52 ?_
              refine lv_goto (tgt := 57) hx hb dX5_firstOpen_53 (by decide) ?_
              refine lv_istore_n (lv' := [(3, .int ((kFirL K p9 i) + (nI 1))), (4, .int (nI i)), (0, .ref (ad 0)), (1, .int (nI p9)), (2, .int (nI m9))]) hx hb dX5_firstOpen_57 rfl hl (by decide) rfl (fun ls hl => ?_)
              refine lv_iload_n hx hb dX5_firstOpen_58 rfl (lv_at hl 0 rfl) ?_
              refine lv_iload_n hx hb dX5_firstOpen_59 rfl (lv_at hl 4 rfl) ?_
              refine lv_icmp_ne (tgt := 70) hx hb dX5_firstOpen_60 (by decide) (fun c_7 => ?_) (fun c_7 => ?_)
              · skip
                have c_7 : ¬ (kFirL K p9 i) + (nI 1) = nI m9 := c_7
                refine lv_iinc (v := nI (i + 1)) (lv' := [(4, .int (nI (i + 1))), (3, .int ((kFirL K p9 i) + (nI 1))), (0, .ref (ad 0)), (1, .int (nI p9)), (2, .int (nI m9))]) hx hb dX5_firstOpen_70 hl (k := 1) rfl ((show nI i + Int32.ofInt 1 = nI i + nI 1 from rfl).trans (nI_add _ _)) (by decide) rfl (fun ls hl => ?_)
                refine lv_goto (tgt := 30) hx hb dX5_firstOpen_73 (by decide) ?_
                have es_8 : kFirL K p9 (i + 1) = (kFirL K p9 i) + (nI 1) := (by simp [kFirL, c_4])
                exact ih_a (i + 1) (by omega) (by omega) (by omega) (lt_succ_all hno (by simp [kFirL, c_4, c_7])) ls (by rw [es_8]; exact lv_sub hl [0, 1, 2, 3, 4] rfl)
              · skip
                have c_7 : (kFirL K p9 i) + (nI 1) = nI m9 := c_7
                refine lv_iload hx hb dX5_firstOpen_63 (lv_at hl 1 rfl) ?_
                refine lv_iload_n hx hb dX5_firstOpen_65 rfl (lv_at hl 4 rfl) ?_
                refine lv_isub hx hb dX5_firstOpen_66 ?_
                refine lv_iconst (v := nI 1) hx hb dX5_firstOpen_67 (by decide) ?_
                refine lv_iadd hx hb dX5_firstOpen_68 ?_
                exact W.iret (v := ((nI i) - (nI m9)) + (nI 1)) hx hb hr (fun t ht hW => ⟨_, rfl, (by unfold kFirR; rw [show kFirI K p9 (nI m9) = nI i from zfind_at (by omega) hno (by simp [kFirL, c_4, eq_true c_7]), if_neg (nI_nm1 (by omega))]), ht⟩) (fun _ h => nomatch h) dX5_firstOpen_69
      have ei_a_3 : kFirL K p9 0 = nI 0 := rfl
      exact lp_a (10 - 0 + 1) 0 (by omega) (by omega) (by omega) (fun j hj => absurd hj (Nat.not_lt_zero j)) ls (by rw [ei_a_3]; exact lv_sub hl [0, 1, 2, 3, 4] rfl)
    · skip
      have c_2 : ¬ m9 ≤ 10 := fun h => c_2 ((nI_leI (a := m9) (b := 10) (by omega) (by omega)).mpr h)
      omega
set_option maxHeartbeats 4000000 in
set_option maxRecDepth 100000 in
theorem kQ_spent (l : Launch) (D : va_G) (cI cZ : ClassId) (ad : Nat → Nat) (K : kS) (p : Nat) (hp : p < 8) : Met l yX5_spent wsX5_spent ({ frames := 1, cells := 0, slots := 0, locals := 20 }) (va_Pc [.ref (ad 0), .int (nI p)] (zRe D (zTy cI cZ) (kwA ad cI cZ K))) (vp_Si (fun r => r = K 1 p)) 0 0 (fun _ => False) := by
  refine Met.ofW (cc := cX5_spent) (maxL := 2) (ret := (some .int)) (by decide) rfl ?_
  intro pP e s m args below meth c s₁ B hml hv
  obtain ⟨rfl, hP, hK, hNW⟩ := hv
  have hx := B.exec
  have hb := B.bytes
  have hr := B.returns
  have hts := atoms_spec (ws := wsX5_spent) B.pre
  have hown : s.vm.findClass RX5 = some m.cls := findClass_of_methodNamed B.named
  have hE : (∀ w ∈ zNW, va_Nw w s) ∧ True := ⟨hNW, trivial⟩
  have hinX5 : ∀ w ∈ u_ws RX5 TX5 9, w ∈ wsX5_spent := by decide +kernel
  have hl := lv_entry ([.ref (ad 0), .int (nI p)]) (n := 2) (Nat.le_of_ble_eq_true rfl)
  rw [lg_entry_eq]
  generalize (lg_sl ([.ref (ad 0), .int (nI p)]) ++ List.replicate (2 - (lg_sl ([.ref (ad 0), .int (nI p)])).length) Slot.unset).toArray = ls at hl ⊢
  have hl : lv_has ls 2 [(0, .ref (ad 0)), (1, .int (nI p))] := hl
  refine lv_iload_n hx hb dX5_spent_0 rfl (lv_at hl 1 rfl) ?_
  refine zq_cS (As := [.int (nI p)]) (rest := []) ⟨hx, hb, hml, hown, hts⟩ (kN_needPerson l p (by omega)) (va_cwS 1 hts gX5_spent_X5_needPerson rfl rfl rfl (by decide +kernel) ⟨(Nat.le_of_ble_eq_true rfl), (Nat.le_of_ble_eq_true rfl)⟩) rfl hl.1 rfl (Nat.le_of_ble_eq_true rfl) dX5_spent_1 ⟨Nat.zero_le _, Nat.zero_le _⟩ ?_
  refine lv_aload_n hx hb dX5_spent_4 rfl (lv_at hl 0 rfl) ?_
  refine va_get (D := D) (ci := 5) (v := .ref (ad 1)) (C := RX5) (T := TX5) (N := 9) hx hb hts hinX5 hown hK hP 0 rfl rfl 3 (by decide) (hts (.fieldLink RX5 19 "AuditoriumKeys" "outlay" "[I") (List.mem_of_getElem? (i := 1) rfl)) (fun _ h9 => h9) rfl dX5_spent_5 ?_
  refine lv_iload_n hx hb dX5_spent_8 rfl (lv_at hl 1 rfl) ?_
  refine zz_iald hx hb hK hP 1 0 rfl rfl p (by omega) (by decide) dX5_spent_9 ?_
  exact W.iret (v := K 1 p) hx hb hr (fun t ht hW => ⟨_, rfl, rfl, ht⟩) (fun _ h => nomatch h) dX5_spent_10
