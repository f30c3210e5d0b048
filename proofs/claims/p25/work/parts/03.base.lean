/-! small rows of our own over the kit's -/
abbrev kS : Type := Nat → Nat → Int32
def setA (K : kS) (i : Nat) (g : Nat → Int32) : kS := fun a => bif Nat.beq a i then g else K a
theorem setA_eq (K : kS) (i : Nat) (g : Nat → Int32) : setA K i g i = g := by simp [setA]
theorem setA_ne (K : kS) {i j : Nat} (g : Nat → Int32) (h : j ≠ i) : setA K i g j = K j := by
  have h2 : Nat.beq j i = false := by
    cases hb : Nat.beq j i with
    | true => exact absurd (Nat.eq_of_beq_eq_true hb) h
    | false => rfl
  simp [setA, h2]
theorem setA_same (K : kS) (i : Nat) : setA K i (K i) = K := by
  funext a
  by_cases h : a = i
  · rw [h, setA_eq]
  · rw [setA_ne K (K i) h]
def zb (b : Bool) : Int32 := if b then nI 1 else nI 0
theorem zb_f {b : Bool} (h : zb b = 0) : b = false := by
  cases b with
  | false => rfl
  | true => exact absurd h (by decide)
theorem zb_t {b : Bool} (h : ¬ zb b = 0) : b = true := by
  cases b with
  | true => rfl
  | false => exact absurd (by decide) h
theorem zb_nar (b : Bool) : narrow .boolean (.int (zb b)) = .int (zb b) := by cases b <;> rfl
theorem zb_vnar (b : Bool) : vp_nar .boolean (zb b) = zb b := by cases b <;> rfl
def zcnt (b : Nat → Bool) : Nat → Nat
  | 0 => 0
  | n + 1 => if b n then zcnt b n + 1 else zcnt b n
theorem zcnt_le (b : Nat → Bool) : ∀ n, zcnt b n ≤ n
  | 0 => Nat.le_refl 0
  | n + 1 => by
    have h := zcnt_le b n
    simp only [zcnt]
    split <;> omega
def zfnd (b : Nat → Bool) (x : Nat) : Nat → Int32
  | 0 => -1
  | k + 1 => if b (x - (k + 1)) then nI (x - (k + 1)) else zfnd b x k
def zfind (b : Nat → Bool) (n : Nat) : Int32 := zfnd b n n
theorem zfnd_skip (b : Nat → Bool) (n : Nat) : ∀ i, i ≤ n → (∀ j, j < i → b j = false) → zfnd b n n = zfnd b n (n - i) := by
  intro i
  induction i with
  | zero => intro _ _; rfl
  | succ i ih =>
    intro hi h
    rw [ih (by omega) (fun j hj => h j (by omega))]
    have e : n - i = (n - (i + 1)) + 1 := by omega
    rw [e]
    have e2 : n - (n - (i + 1) + 1) = i := by omega
    simp only [zfnd, e2, h i (by omega)]
    rfl
theorem zfind_at {b : Nat → Bool} {n i : Nat} (hi : i < n) (h : ∀ j, j < i → b j = false) (hb : b i = true) : zfind b n = nI i := by
  unfold zfind
  rw [zfnd_skip b n i (by omega) h]
  have e : n - i = (n - (i + 1)) + 1 := by omega
  rw [e]
  have e2 : n - (n - (i + 1) + 1) = i := by omega
  simp only [zfnd, e2, hb]
  rfl
theorem zfind_no {b : Nat → Bool} {n : Nat} (h : ∀ j, j < n → b j = false) : zfind b n = -1 := by
  unfold zfind
  rw [zfnd_skip b n n (Nat.le_refl n) h, Nat.sub_self]
  rfl
theorem zfnd_cong {b d : Nat → Bool} (n : Nat) : ∀ k, k ≤ n → (∀ j, j < n → b j = d j) → zfnd b n k = zfnd d n k := by
  intro k
  induction k with
  | zero => intro _ _; rfl
  | succ k ih =>
    intro hk h
    simp only [zfnd]
    rw [h (n - (k + 1)) (by omega), ih (by omega) h]
theorem zfind_cong {b d : Nat → Bool} {n : Nat} (h : ∀ j, j < n → b j = d j) : zfind b n = zfind d n := zfnd_cong n n (Nat.le_refl n) h
theorem lt_succ_all {P : Nat → Prop} {i : Nat} (h : ∀ j, j < i → P j) (hi : P i) : ∀ j, j < i + 1 → P j := fun j hj => by
  rcases Nat.lt_or_ge j i with q | q
  · exact h j q
  · have e : j = i := by omega
    rw [e]; exact hi
abbrev zTy (cI cZ : ClassId) : List (ClassId × FieldType) := [(cI, .int), (cZ, .boolean)]
/-- a reader's start -/
abbrev zRd (D : va_G) (tys : List (ClassId × FieldType)) (w : va_W) : State → Prop := fun U => va_P D vwCl w U.heap ∧ va_K D vwCl tys U
theorem zRd_blind (av : List Value) (D : va_G) (tys : List (ClassId × FieldType)) (w : va_W) : FrameBlind (va_Pc av (zRd D tys w)) := fun a U g mk q => by
  obtain ⟨q0, qP, qK⟩ := q
  exact ⟨q0, qP, va_K.moved (u := U) (U := U.calling g mk a) (Vm.Alike.refl U.vm) qK⟩
/-- a writer's start and end -/
abbrev zPr (D : va_G) (tys : List (ClassId × FieldType)) (w : va_W) (sz : Nat) : State → Prop := fun U => U.heap.size = sz ∧ va_P D vwCl w U.heap ∧ va_K D vwCl tys U ∧ va_D (fun _ => True) w
abbrev zPo (D : va_G) (tys : List (ClassId × FieldType)) (A : Nat → Prop) (w : va_W) : State → Prop := fun t => va_P D vwCl w t.heap ∧ va_K D vwCl tys t ∧ va_D A w
theorem zPr_blind (av : List Value) (D : va_G) (tys : List (ClassId × FieldType)) (w : va_W) (sz : Nat) : FrameBlind (va_Pc av (zPr D tys w sz)) := fun a U g mk q => by
  obtain ⟨q0, q1, qP, qK, qD⟩ := q
  exact ⟨q0, q1, qP, va_K.moved (u := U) (U := U.calling g mk a) (Vm.Alike.refl U.vm) qK, qD⟩
theorem zTrue_blind (av : List Value) : FrameBlind (va_Pc av (fun _ => True)) := fun a U g mk q => q
section ZZ
variable {p : Program} {l : Launch} {e : Env} {R : Room} {s : State} {m : MethodId} {args : Array Value} {below : List Frame} {meth : Method} {c : Code} {H H0 : Heap} {locs : List Loc} {cells slots : Nat} {Q : State → Prop}
variable {D : va_G} {cl : List vw_C} {tys : List (ClassId × FieldType)} {ws : va_W} {a pc : Nat} {cc : ByteArray} {ls : Array Slot} {rest : List Value} {A : Nat → Prop}
theorem zz_top {x y : Int32} (h : x = y) (k : W p l e R s m args below meth c H locs cells slots Q (F0 m pc ls (.int y :: rest))) : W p l e R s m args below meth c H locs cells slots Q (F0 m pc ls (.int x :: rest)) := h ▸ k
theorem zz_iald (hexec : p.tables.exec = Jvm.exec) (hb : c.code = cc) (hK : va_K D cl tys s) (hP : va_P D cl ws H) (q0 t0 : Nat) {cA : ClassId} {n : Nat} {f : Nat → Int32} (ha : ws[q0]? = some (a, .inl (cA, n, .inl f))) (ht : tys[t0]? = some (cA, .int)) (j : Nat) (hj : j < n) (hn : n < 2 ^ 31) (hdg : decode cc pc = .ok (.iaload, 1))
    (kk : W p l e R s m args below meth c H locs cells slots Q (F0 m (pc + 1) ls (.int (f j) :: rest))) : W p l e R s m args below meth c H locs cells slots Q (F0 m pc ls (.int (nI j) :: .ref a :: rest)) := by
  refine va_iald hexec hb hK hP q0 t0 ha ht (vp_in_nI hj hn) hdg ?_
  rw [nI_clamp (by omega)]; exact kk
theorem zz_zald (hexec : p.tables.exec = Jvm.exec) (hb : c.code = cc) (hK : va_K D cl tys s) (hP : va_P D cl ws H) (q0 t0 : Nat) {cA : ClassId} {n : Nat} {f : Nat → Int32} (ha : ws[q0]? = some (a, .inl (cA, n, .inl f))) (ht : tys[t0]? = some (cA, .boolean)) (j : Nat) (hj : j < n) (hn : n < 2 ^ 31) (hdg : decode cc pc = .ok (.baload, 1))
    (kk : W p l e R s m args below meth c H locs cells slots Q (F0 m (pc + 1) ls (.int (f j) :: rest))) : W p l e R s m args below meth c H locs cells slots Q (F0 m pc ls (.int (nI j) :: .ref a :: rest)) := by
  refine va_zald hexec hb hK hP q0 t0 ha ht (vp_in_nI hj hn) hdg ?_
  rw [nI_clamp (by omega)]; exact kk
theorem zz_iast (hexec : p.tables.exec = Jvm.exec) (hb : c.code = cc) (hK : va_K D cl tys s) (hP : va_P D cl ws H) (hD : va_D A ws) (hS : va_S A H0 H locs) (q0 t0 : Nat) {cA : ClassId} {n : Nat} {f : Nat → Int32} (ha : ws[q0]? = some (a, .inl (cA, n, .inl f))) (ht : tys[t0]? = some (cA, .int)) (j : Nat) {x : Int32} (hj : j < n) (hn : n < 2 ^ 31) (hdg : decode cc pc = .ok (.iastore, 1))
    (kk : ∀ (H1 : Heap) (locs1 : List Loc), va_P D cl (ws.set q0 (a, .inl (cA, n, .inl (upd f j x)))) H1 → va_D A (ws.set q0 (a, .inl (cA, n, .inl (upd f j x)))) → va_S A H0 H1 locs1 → W p l e R s m args below meth c H1 locs1 cells slots Q (F0 m (pc + 1) ls rest)) : W p l e R s m args below meth c H locs cells slots Q (F0 m pc ls (.int x :: .int (nI j) :: .ref a :: rest)) := by
  refine va_iast hexec hb hK hP hD hS q0 t0 ha ht (vp_in_nI hj hn) hdg ?_
  rw [nI_clamp (by omega)]; exact kk
theorem zz_zast (hexec : p.tables.exec = Jvm.exec) (hb : c.code = cc) (hK : va_K D cl tys s) (hP : va_P D cl ws H) (hD : va_D A ws) (hS : va_S A H0 H locs) (q0 t0 : Nat) {cA : ClassId} {n : Nat} {f : Nat → Int32} (ha : ws[q0]? = some (a, .inl (cA, n, .inl f))) (ht : tys[t0]? = some (cA, .boolean)) (j : Nat) {x : Int32} (hv : vp_nar .boolean x = x) (hj : j < n) (hn : n < 2 ^ 31) (hdg : decode cc pc = .ok (.bastore, 1))
    (kk : ∀ (H1 : Heap) (locs1 : List Loc), va_P D cl (ws.set q0 (a, .inl (cA, n, .inl (upd f j x)))) H1 → va_D A (ws.set q0 (a, .inl (cA, n, .inl (upd f j x)))) → va_S A H0 H1 locs1 → W p l e R s m args below meth c H1 locs1 cells slots Q (F0 m (pc + 1) ls rest)) : W p l e R s m args below meth c H locs cells slots Q (F0 m pc ls (.int x :: .int (nI j) :: .ref a :: rest)) := by
  refine va_zast hexec hb hK hP hD hS q0 t0 ha ht (vp_in_nI hj hn) hdg ?_
  rw [nI_clamp (by omega), hv]; exact kk
variable {y : MethodName} {wsl Ts : List Cond} {rm : Room} {b : Addr} {As : List Value} {rv : Int32} {own C host : String} {index maxL nL n : Nat} {bytes : ByteArray} {ret : Option FieldType} {st0 : List Value} {wc wr w1 : va_W}
/-- a call that reads -/
theorem zc_rV (S : CallFix p m c cc nL s args Ts own) (hM : Met l y wsl rm (va_Pc (.ref b :: As) (zRd D tys wc)) (vp_Si (fun r => r = rv)) 0 0 (fun _ => False)) (cw : CallW R s args own C index y bytes maxL ret wsl rm 0 0 n) (hK : va_K D vwCl tys s) (hPc : va_P D vwCl wc H) {q0 ci : Nat} {q : vw_C} {fs : List Value} (hcl : vwCl[ci]? = some q) (hC : q.1 = C) (he : wc[q0]? = some (b, .inr (ci, fs)))
    (hn : As.length = n) (hsize : ls.size = nL) (hst : st0 = As.reverse ++ .ref b :: rest) (hW : (rest.map fun v => v.category).sum ≤ 8) (hdg : decode cc pc = .ok (.invokevirtual index, 3)) (hf : cells ≤ R.cells ∧ slots ≤ R.slots)
    (kk : W p l e R s m args below meth c H locs cells slots Q (F0 m (pc + 3) ls (.int rv :: rest))) : W p l e R s m args below meth c H locs cells slots Q (F0 m pc ls st0) := by
  refine vp_callSi (va_runV (g := F0 m pc ls st0) S hM cw ⟨zRd_blind _ _ _ _, by have h := va_recv hK hPc hcl he; rw [hC] at h; exact h, fun U hU hW => ⟨rfl, by rw [hU]; exact hPc, va_K.moved hW.alike hK⟩⟩ rfl hn hsize hst (lv_room hW) hdg hf).run (fun r hr => ?_)
  subst hr; exact kk
theorem zc_rVN (S : CallFix p m c cc nL s args Ts own) (hM : Met l y wsl rm (va_Pc (.ref b :: As) (zRd D tys wc)) (vp_Si (fun r => r = rv)) 0 0 (fun _ => False)) (cw : va_CN R s args own index y host bytes maxL ret wsl rm 0 0 n ∧ (Cond.instanceMethod y).before args s = true ∧ (Cond.selects C y y).before args s = true) (hK : va_K D vwCl tys s) (hPc : va_P D vwCl wc H) {q0 ci : Nat} {q : vw_C} {fs : List Value} (hcl : vwCl[ci]? = some q) (hC : q.1 = C) (he : wc[q0]? = some (b, .inr (ci, fs)))
    (hn : As.length = n) (hsize : ls.size = nL) (hst : st0 = As.reverse ++ .ref b :: rest) (hW : (rest.map fun v => v.category).sum ≤ 8) (hdg : decode cc pc = .ok (.invokevirtual index, 3)) (hf : cells ≤ R.cells ∧ slots ≤ R.slots)
    (kk : W p l e R s m args below meth c H locs cells slots Q (F0 m (pc + 3) ls (.int rv :: rest))) : W p l e R s m args below meth c H locs cells slots Q (F0 m pc ls st0) := by
  refine vp_callSi (va_runVN (g := F0 m pc ls st0) S hM cw ⟨zRd_blind _ _ _ _, by have h := va_recv hK hPc hcl he; rw [hC] at h; exact h, fun U hU hW => ⟨rfl, by rw [hU]; exact hPc, va_K.moved hW.alike hK⟩⟩ rfl hn hsize hst (lv_room hW) hdg hf).run (fun r hr => ?_)
  subst hr; exact kk
theorem zc_rS (S : CallFix p m c cc nL s args Ts own) (hM : Met l y wsl rm (va_Pc As (fun _ => True)) (vp_Si (fun r => r = rv)) 0 0 (fun _ => False)) (cw : CallB R s args own index y bytes maxL ret wsl rm 0 0 n ∧ (Cond.static y).before args s = true)
    (hn : As.length = n) (hsize : ls.size = nL) (hst : st0 = As.reverse ++ rest) (hW : (rest.map fun v => v.category).sum ≤ 8) (hdg : decode cc pc = .ok (.invokestatic index, 3)) (hf : cells ≤ R.cells ∧ slots ≤ R.slots)
    (kk : W p l e R s m args below meth c H locs cells slots Q (F0 m (pc + 3) ls (.int rv :: rest))) : W p l e R s m args below meth c H locs cells slots Q (F0 m pc ls st0) := by
  refine vp_callSi (va_runS (g := F0 m pc ls st0) S hM cw ⟨zTrue_blind _, fun U hU hW => ⟨rfl, trivial⟩⟩ rfl hn hsize hst (lv_room hW) hdg hf).run (fun r hr => ?_)
  subst hr; exact kk
/-- a call that writes, an int comes back -/
theorem zc_wVi (S : CallFix p m c cc nL s args Ts own) (hM : Met l y wsl rm (va_Pc (.ref b :: As) (zPr D tys wc H.size)) (va_Qi (fun r (_ : Unit) => r = rv) (fun _ => zPo D tys (va_A wc H.size) w1) (va_A wc H.size)) 0 0 (va_A wc H.size)) (cw : CallW R s args own C index y bytes maxL ret wsl rm 0 0 n) (hK : va_K D vwCl tys s) (hP : va_P D vwCl ws H) (hD : va_D A ws) (hS : va_S A H0 H locs) (hA : ∀ q : Nat, H0.size ≤ q → A q) (isC isR : List Nat) (hC : isC.map (fun i => ws[i]?) = wc.map some) (hC2 : isC.filterMap (fun i => ws[i]?) = wc) (hnC : va_nd isC = true) (hR : isR.map (fun i => ws[i]?) = wr.map some) (hnR : va_nd isR = true) (hdis : ∀ i ∈ isR, i ∉ isC) {q0 ci : Nat} {q : vw_C} {fs : List Value} (hcl : vwCl[ci]? = some q) (hCl : q.1 = C) (he : wc[q0]? = some (b, .inr (ci, fs)))
    (hn : As.length = n) (hsize : ls.size = nL) (hst : st0 = As.reverse ++ .ref b :: rest) (hW : (rest.map fun v => v.category).sum ≤ 8) (hdg : decode cc pc = .ok (.invokevirtual index, 3)) (hf : cells ≤ R.cells ∧ slots ≤ R.slots)
    (kk : ∀ (H1 : Heap) (locs1 : List Loc), va_P D vwCl (wr ++ w1) H1 → va_D A (wr ++ w1) → va_S A H0 H1 locs1 → W p l e R s m args below meth c H1 locs1 cells slots Q (F0 m (pc + 3) ls (.int rv :: rest))) : W p l e R s m args below meth c H locs cells slots Q (F0 m pc ls st0) := by
  have hPc := hP.sub isC hC2
  have hDc := hD.sub isC hnC hC
  have hFc := va_free (wc := wc) hD hS hA isC hC
  refine va_calli (va_runV (g := F0 m pc ls st0) S hM cw ⟨zPr_blind _ _ _ _ _, by have h := va_recv hK hPc hcl he; rw [hCl] at h; exact h, fun U hU hW => ⟨rfl, by rw [hU], by rw [hU]; exact hPc, va_K.moved hW.alike hK, hDc.weaken (fun _ _ _ _ => trivial)⟩⟩ rfl hn hsize hst (lv_room hW) hdg hf) hS (fun q _ h => hFc q h) hFc (fun r u t H1 locs1 ht hvm hw hB hz1 hk1 hS1 => ?_)
  obtain ⟨hP1, hK1, hD1⟩ := hB
  rw [ht] at hP1
  obtain ⟨hP2, hD2⟩ := va_join (wr := wr) (w1 := w1) hP hD isC isR hC hR hnR hdis hk1 hFc hP1 hD1
  subst hw
  exact kk H1 locs1 hP2 hD2 hS1
theorem zc_wVNi (S : CallFix p m c cc nL s args Ts own) (hM : Met l y wsl rm (va_Pc (.ref b :: As) (zPr D tys wc H.size)) (va_Qi (fun r (_ : Unit) => r = rv) (fun _ => zPo D tys (va_A wc H.size) w1) (va_A wc H.size)) 0 0 (va_A wc H.size)) (cw : va_CN R s args own index y host bytes maxL ret wsl rm 0 0 n ∧ (Cond.instanceMethod y).before args s = true ∧ (Cond.selects C y y).before args s = true) (hK : va_K D vwCl tys s) (hP : va_P D vwCl ws H) (hD : va_D A ws) (hS : va_S A H0 H locs) (hA : ∀ q : Nat, H0.size ≤ q → A q) (isC isR : List Nat) (hC : isC.map (fun i => ws[i]?) = wc.map some) (hC2 : isC.filterMap (fun i => ws[i]?) = wc) (hnC : va_nd isC = true) (hR : isR.map (fun i => ws[i]?) = wr.map some) (hnR : va_nd isR = true) (hdis : ∀ i ∈ isR, i ∉ isC) {q0 ci : Nat} {q : vw_C} {fs : List Value} (hcl : vwCl[ci]? = some q) (hCl : q.1 = C) (he : wc[q0]? = some (b, .inr (ci, fs)))
    (hn : As.length = n) (hsize : ls.size = nL) (hst : st0 = As.reverse ++ .ref b :: rest) (hW : (rest.map fun v => v.category).sum ≤ 8) (hdg : decode cc pc = .ok (.invokevirtual index, 3)) (hf : cells ≤ R.cells ∧ slots ≤ R.slots)
    (kk : ∀ (H1 : Heap) (locs1 : List Loc), va_P D vwCl (wr ++ w1) H1 → va_D A (wr ++ w1) → va_S A H0 H1 locs1 → W p l e R s m args below meth c H1 locs1 cells slots Q (F0 m (pc + 3) ls (.int rv :: rest))) : W p l e R s m args below meth c H locs cells slots Q (F0 m pc ls st0) := by
  have hPc := hP.sub isC hC2
  have hDc := hD.sub isC hnC hC
  have hFc := va_free (wc := wc) hD hS hA isC hC
  refine va_calli (va_runVN (g := F0 m pc ls st0) S hM cw ⟨zPr_blind _ _ _ _ _, by have h := va_recv hK hPc hcl he; rw [hCl] at h; exact h, fun U hU hW => ⟨rfl, by rw [hU], by rw [hU]; exact hPc, va_K.moved hW.alike hK, hDc.weaken (fun _ _ _ _ => trivial)⟩⟩ rfl hn hsize hst (lv_room hW) hdg hf) hS (fun q _ h => hFc q h) hFc (fun r u t H1 locs1 ht hvm hw hB hz1 hk1 hS1 => ?_)
  obtain ⟨hP1, hK1, hD1⟩ := hB
  rw [ht] at hP1
  obtain ⟨hP2, hD2⟩ := va_join (wr := wr) (w1 := w1) hP hD isC isR hC hR hnR hdis hk1 hFc hP1 hD1
  subst hw
  exact kk H1 locs1 hP2 hD2 hS1
/-- .. nothing comes back -/
theorem zc_wVv (S : CallFix p m c cc nL s args Ts own) (hM : Met l y wsl rm (va_Pc (.ref b :: As) (zPr D tys wc H.size)) (va_Qv (fun _ : Unit => True) (fun _ => zPo D tys (va_A wc H.size) w1) (va_A wc H.size)) 0 0 (va_A wc H.size)) (cw : CallW R s args own C index y bytes maxL ret wsl rm 0 0 n) (hK : va_K D vwCl tys s) (hP : va_P D vwCl ws H) (hD : va_D A ws) (hS : va_S A H0 H locs) (hA : ∀ q : Nat, H0.size ≤ q → A q) (isC isR : List Nat) (hC : isC.map (fun i => ws[i]?) = wc.map some) (hC2 : isC.filterMap (fun i => ws[i]?) = wc) (hnC : va_nd isC = true) (hR : isR.map (fun i => ws[i]?) = wr.map some) (hnR : va_nd isR = true) (hdis : ∀ i ∈ isR, i ∉ isC) {q0 ci : Nat} {q : vw_C} {fs : List Value} (hcl : vwCl[ci]? = some q) (hCl : q.1 = C) (he : wc[q0]? = some (b, .inr (ci, fs)))
    (hn : As.length = n) (hsize : ls.size = nL) (hst : st0 = As.reverse ++ .ref b :: rest) (hW : (rest.map fun v => v.category).sum ≤ 8) (hdg : decode cc pc = .ok (.invokevirtual index, 3)) (hf : cells ≤ R.cells ∧ slots ≤ R.slots)
    (kk : ∀ (H1 : Heap) (locs1 : List Loc), va_P D vwCl (wr ++ w1) H1 → va_D A (wr ++ w1) → va_S A H0 H1 locs1 → W p l e R s m args below meth c H1 locs1 cells slots Q (F0 m (pc + 3) ls rest)) : W p l e R s m args below meth c H locs cells slots Q (F0 m pc ls st0) := by
  have hPc := hP.sub isC hC2
  have hDc := hD.sub isC hnC hC
  have hFc := va_free (wc := wc) hD hS hA isC hC
  refine va_callv (va_runV (g := F0 m pc ls st0) S hM cw ⟨zPr_blind _ _ _ _ _, by have h := va_recv hK hPc hcl he; rw [hCl] at h; exact h, fun U hU hW => ⟨rfl, by rw [hU], by rw [hU]; exact hPc, va_K.moved hW.alike hK, hDc.weaken (fun _ _ _ _ => trivial)⟩⟩ rfl hn hsize hst (lv_room hW) hdg hf) hS (fun q _ h => hFc q h) hFc (fun u t H1 locs1 ht hvm hw hB hz1 hk1 hS1 => ?_)
  obtain ⟨hP1, hK1, hD1⟩ := hB
  rw [ht] at hP1
  obtain ⟨hP2, hD2⟩ := va_join (wr := wr) (w1 := w1) hP hD isC isR hC hR hnR hdis hk1 hFc hP1 hD1
  exact kk H1 locs1 hP2 hD2 hS1
theorem zc_wVNv (S : CallFix p m c cc nL s args Ts own) (hM : Met l y wsl rm (va_Pc (.ref b :: As) (zPr D tys wc H.size)) (va_Qv (fun _ : Unit => True) (fun _ => zPo D tys (va_A wc H.size) w1) (va_A wc H.size)) 0 0 (va_A wc H.size)) (cw : va_CN R s args own index y host bytes maxL ret wsl rm 0 0 n ∧ (Cond.instanceMethod y).before args s = true ∧ (Cond.selects C y y).before args s = true) (hK : va_K D vwCl tys s) (hP : va_P D vwCl ws H) (hD : va_D A ws) (hS : va_S A H0 H locs) (hA : ∀ q : Nat, H0.size ≤ q → A q) (isC isR : List Nat) (hC : isC.map (fun i => ws[i]?) = wc.map some) (hC2 : isC.filterMap (fun i => ws[i]?) = wc) (hnC : va_nd isC = true) (hR : isR.map (fun i => ws[i]?) = wr.map some) (hnR : va_nd isR = true) (hdis : ∀ i ∈ isR, i ∉ isC) {q0 ci : Nat} {q : vw_C} {fs : List Value} (hcl : vwCl[ci]? = some q) (hCl : q.1 = C) (he : wc[q0]? = some (b, .inr (ci, fs)))
    (hn : As.length = n) (hsize : ls.size = nL) (hst : st0 = As.reverse ++ .ref b :: rest) (hW : (rest.map fun v => v.category).sum ≤ 8) (hdg : decode cc pc = .ok (.invokevirtual index, 3)) (hf : cells ≤ R.cells ∧ slots ≤ R.slots)
    (kk : ∀ (H1 : Heap) (locs1 : List Loc), va_P D vwCl (wr ++ w1) H1 → va_D A (wr ++ w1) → va_S A H0 H1 locs1 → W p l e R s m args below meth c H1 locs1 cells slots Q (F0 m (pc + 3) ls rest)) : W p l e R s m args below meth c H locs cells slots Q (F0 m pc ls st0) := by
  have hPc := hP.sub isC hC2
  have hDc := hD.sub isC hnC hC
  have hFc := va_free (wc := wc) hD hS hA isC hC
  refine va_callv (va_runVN (g := F0 m pc ls st0) S hM cw ⟨zPr_blind _ _ _ _ _, by have h := va_recv hK hPc hcl he; rw [hCl] at h; exact h, fun U hU hW => ⟨rfl, by rw [hU], by rw [hU]; exact hPc, va_K.moved hW.alike hK, hDc.weaken (fun _ _ _ _ => trivial)⟩⟩ rfl hn hsize hst (lv_room hW) hdg hf) hS (fun q _ h => hFc q h) hFc (fun u t H1 locs1 ht hvm hw hB hz1 hk1 hS1 => ?_)
  obtain ⟨hP1, hK1, hD1⟩ := hB
  rw [ht] at hP1
  obtain ⟨hP2, hD2⟩ := va_join (wr := wr) (w1 := w1) hP hD isC isR hC hR hnR hdis hk1 hFc hP1 hD1
  exact kk H1 locs1 hP2 hD2 hS1
end ZZ
/-! the cells of the class -/
section KC
variable (ad : Nat → Nat) (cI cZ : ClassId) (K : kS)
abbrev kc0 : Nat × va_E := (ad 0, .inr (5, [.int (K 0 0), .int (K 0 1), .int (K 0 2), .ref (ad 1), .ref (ad 2), .ref (ad 6), .ref (ad 8), .ref (ad 16), .ref (ad 22)]))
abbrev kc1 : Nat × va_E := (ad 1, .inl (cI, 8, .inl (K 1)))
abbrev kc2 : Nat × va_E := (ad 2, .inr (0, [.int (K 2 0), .ref (ad 3), .ref (ad 4), .ref (ad 5)]))
abbrev kc3 : Nat × va_E := (ad 3, .inl (cI, 10, .inl (K 3)))
abbrev kc4 : Nat × va_E := (ad 4, .inl (cI, 10, .inl (K 4)))
abbrev kc5 : Nat × va_E := (ad 5, .inl (cI, 80, .inl (K 5)))
abbrev kc6 : Nat × va_E := (ad 6, .inr (2, [.ref (ad 7)]))
abbrev kc7 : Nat × va_E := (ad 7, .inl (cI, 8, .inl (K 7)))
abbrev kc8 : Nat × va_E := (ad 8, .inr (1, [.ref (ad 9), .ref (ad 10), .ref (ad 11), .ref (ad 12), .ref (ad 13), .ref (ad 14), .ref (ad 15)]))
abbrev kc9 : Nat × va_E := (ad 9, .inl (cI, 8, .inl (K 9)))
abbrev kc10 : Nat × va_E := (ad 10, .inl (cI, 8, .inl (K 10)))
abbrev kc11 : Nat × va_E := (ad 11, .inl (cI, 8, .inl (K 11)))
abbrev kc12 : Nat × va_E := (ad 12, .inl (cI, 8, .inl (K 12)))
abbrev kc13 : Nat × va_E := (ad 13, .inl (cI, 8, .inl (K 13)))
abbrev kc14 : Nat × va_E := (ad 14, .inl (cI, 8, .inl (K 14)))
abbrev kc15 : Nat × va_E := (ad 15, .inl (cI, 8, .inl (K 15)))
abbrev kc16 : Nat × va_E := (ad 16, .inr (4, [.ref (ad 17), .ref (ad 18), .ref (ad 19), .ref (ad 20), .ref (ad 21)]))
abbrev kc17 : Nat × va_E := (ad 17, .inl (cZ, 60, .inl (K 17)))
abbrev kc18 : Nat × va_E := (ad 18, .inl (cZ, 60, .inl (K 18)))
abbrev kc19 : Nat × va_E := (ad 19, .inl (cI, 60, .inl (K 19)))
abbrev kc20 : Nat × va_E := (ad 20, .inl (cI, 60, .inl (K 20)))
abbrev kc21 : Nat × va_E := (ad 21, .inl (cI, 60, .inl (K 21)))
abbrev kc22 : Nat × va_E := (ad 22, .inr (3, [.int (K 22 0), .ref (ad 23), .ref (ad 24), .ref (ad 25)]))
abbrev kc23 : Nat × va_E := (ad 23, .inl (cI, 170, .inl (K 23)))
abbrev kc24 : Nat × va_E := (ad 24, .inl (cI, 170, .inl (K 24)))
abbrev kc25 : Nat × va_E := (ad 25, .inl (cI, 170, .inl (K 25)))
abbrev kwC : va_W := [kc2 ad K, kc3 ad cI K, kc4 ad cI K, kc5 ad cI K]
abbrev kwL : va_W := [kc6 ad, kc7 ad cI K]
abbrev kwH : va_W := [kc8 ad, kc9 ad cI K, kc10 ad cI K, kc11 ad cI K, kc12 ad cI K, kc13 ad cI K, kc14 ad cI K, kc15 ad cI K]
abbrev kwS : va_W := [kc16 ad, kc17 ad cZ K, kc18 ad cZ K, kc19 ad cI K, kc20 ad cI K, kc21 ad cI K]
abbrev kwT : va_W := [kc22 ad K, kc23 ad cI K, kc24 ad cI K, kc25 ad cI K]
abbrev kwA : va_W := [kc0 ad K, kc1 ad cI K, kc2 ad K, kc3 ad cI K, kc4 ad cI K, kc5 ad cI K, kc6 ad, kc7 ad cI K, kc8 ad, kc9 ad cI K, kc10 ad cI K, kc11 ad cI K, kc12 ad cI K, kc13 ad cI K, kc14 ad cI K, kc15 ad cI K, kc16 ad, kc17 ad cZ K, kc18 ad cZ K, kc19 ad cI K, kc20 ad cI K, kc21 ad cI K, kc22 ad K, kc23 ad cI K, kc24 ad cI K, kc25 ad cI K]
end KC
