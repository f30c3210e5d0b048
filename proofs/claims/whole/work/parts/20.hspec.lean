/-! the law's small helpers: what they share -/
abbrev zTj (cI cZ cJ : ClassId) : List (ClassId × FieldType) := [(cI, .int), (cZ, .boolean), (cJ, .long)]
abbrev kwO (ad : Nat → Nat) (cI cZ cJ : ClassId) (K : kS) (o : Nat) (f : Nat → Int64) : va_W := kwA ad cI cZ K ++ [(o, .inl (cJ, 1, .inr (.inl f)))]
def zEK (T : Int32) (E K : kS) : kS := if T = nI 0 then E else K
def zFK (T R : Int32) (f : Nat → Int64) : Nat → Int64 := if T = nI 0 then vp_updL f 0 R.toInt64 else f
theorem zEK_0 {T : Int32} {E K : kS} (h : T = nI 0) : zEK T E K = E := if_pos h
theorem zEK_n {T : Int32} {E K : kS} (h : ¬ T = nI 0) : zEK T E K = K := if_neg h
theorem zFK_0 {T R : Int32} {f : Nat → Int64} (h : T = nI 0) : zFK T R f = vp_updL f 0 R.toInt64 := if_pos h
theorem zFK_n {T R : Int32} {f : Nat → Int64} (h : ¬ T = nI 0) : zFK T R f = f := if_neg h
def zPos (a b c T : Int32) : Int32 := if T = nI 0 then nI 0 else if T = nI 1 then a else if T = nI 2 then b else c
theorem zPos_0 (a b c : Int32) : zPos a b c (nI 0) = nI 0 := if_pos rfl
theorem zPos_1 (a b c : Int32) : zPos a b c (nI 1) = a := (if_neg (by decide)).trans (if_pos rfl)
theorem zPos_2 (a b c : Int32) : zPos a b c (nI 2) = b := (if_neg (by decide)).trans ((if_neg (by decide)).trans (if_pos rfl))
theorem zPos_3 (a b c : Int32) : zPos a b c (nI 3) = c := (if_neg (by decide)).trans ((if_neg (by decide)).trans (if_neg (by decide)))
/-- which kinds of a throw an answer can be -/
def zRng (a b c : Bool) (T : Int32) : Prop := T = nI 0 ∨ (a = true ∧ T = nI 1) ∨ (b = true ∧ T = nI 2) ∨ (c = true ∧ T = nI 3)
theorem zr0 {a b c : Bool} : zRng a b c (nI 0) := Or.inl rfl
theorem zr1 {b c : Bool} : zRng true b c (nI 1) := Or.inr (Or.inl ⟨rfl, rfl⟩)
theorem zr2 {a c : Bool} : zRng a true c (nI 2) := Or.inr (Or.inr (Or.inl ⟨rfl, rfl⟩))
theorem zr3 {a b : Bool} : zRng a b true (nI 3) := Or.inr (Or.inr (Or.inr ⟨rfl, rfl⟩))
theorem zr_ite {a b c : Bool} {P : Prop} [Decidable P] {T U : Int32} (h1 : zRng a b c T) (h2 : zRng a b c U) : zRng a b c (if P then T else U) := by
  split
  · exact h1
  · exact h2
theorem zr_seq {a b c : Bool} {T U : Int32} (h1 : zRng a b c T) (h2 : zRng a b c U) : zRng a b c (zseq T U) := zr_ite h2 h1
theorem zr_P {b c : Bool} {x : Int32} : zRng true b c (kNeedP x) := zr_ite zr1 (zr_ite zr0 zr1)
theorem zr_R {b c : Bool} {x : Int32} : zRng true b c (kNeedR x) := zr_ite zr1 (zr_ite zr0 zr1)
theorem zr_S {b c : Bool} {x : Int32} : zRng true b c (kNeedS x) := zr_ite zr1 (zr_ite zr0 zr1)
theorem zr_C {b c : Bool} {K : kS} {x : Int32} : zRng true b c (kNeedC K x) := zr_ite zr1 (zr_ite zr0 zr1)
theorem zr_H {a b : Bool} {K : kS} {p : Nat} : zRng a b true (kNeedH K p) := zr_ite zr0 zr3
theorem zr_Se {a b : Bool} {K : kS} {x : Int32} {r q m : Nat} : zRng a b true (kSeatsT K x r q m) := zr_ite zr0 zr3
theorem zr_Ri {a b : Bool} {K : kS} {p : Nat} {m c : Int32} : zRng a b true (kRightT K p m c) := zr_ite (zr_ite zr0 zr3) (zr_ite zr0 zr3)
theorem kPassT_r {K : kS} {x : Int32} : zRng false true true (kPassT K x) := zr_ite zr2 (zr_ite (zr_ite zr0 zr3) zr2)
theorem kSetT_r {x : Int32} : zRng false true false (kSetT x) := zr_ite zr2 (zr_ite zr0 zr2)
theorem kCodeT_r {K : kS} {a b : Int32} : zRng false true true (kCodeT K a b) := zr_ite zr2 (zr_ite (zr_ite zr2 (zr_ite (zr_ite zr0 zr3) zr2)) zr2)
theorem kUsedT_r {K : kS} {a b : Int32} : zRng true false false (kUsedT K a b) := zr_seq zr_C (zr_seq zr_P zr0)
theorem kJoinT_r {K : kS} {x : Int32} : zRng true false true (kJoinT K x) := zr_seq zr_P (zr_ite zr3 (zr_ite zr3 zr0))
theorem kQuitT_r {K : kS} {x : Int32} : zRng true false true (kQuitT K x) := zr_seq zr_P (zr_ite zr0 zr3)
theorem kQueT_r {K : kS} {x : Int32} : zRng true false false (kQueT K x) := zr_ite zr1 zr0
theorem kHoldT_r {K : kS} {a r q m c : Int32} : zRng true true true (kHoldT K a r q m c) := zr_seq zr_P (zr_seq zr_R (zr_ite zr1 (zr_ite (zr_seq (zr_ite zr0 zr_C) (zr_ite zr2 (zr_ite zr2 (zr_ite (zr_ite (zr_seq zr_Se (zr_seq zr_Ri zr0)) zr3) zr2)))) zr1)))
theorem kPayT_r {K : kS} {a x : Int32} : zRng true true true (kPayT K a x) := zr_seq zr_P (zr_ite zr2 (zr_ite (zr_seq zr_H (zr_ite zr0 zr3)) zr2))
theorem kGoT_r {K : kS} {a : Int32} : zRng true false true (kGoT K a) := zr_seq zr_P (zr_seq zr_H zr0)
theorem kLapT_r {a : Int32} : zRng true false false (kLapT a) := zr_seq zr_P zr0
theorem kSeaT_r {a : Int32} : zRng true false false (kSeaT a) := zr_seq zr_S zr0
theorem kFirT_r {r m : Int32} : zRng true true false (kFirT r m) := zr_seq zr_R (zr_ite zr2 (zr_ite zr0 zr2))
theorem kOffT_r {K : kS} {a s x : Int32} : zRng true true true (kOffT K a s x) := zr_seq zr_P (zr_seq zr_S (zr_ite zr2 (zr_ite (zr_ite (zr_ite (zr_ite zr0 zr3) zr3) zr3) zr2)))
theorem kRetT_r {K : kS} {s : Int32} : zRng true false true (kRetT K s) := zr_seq zr_S (zr_ite zr0 zr3)
/-- the three classes of a throw are none of them a sort of another, as the handlers ask -/
def zNc (U : State) : Prop := va_Nc "java/lang/IllegalStateException" "java/lang/IllegalArgumentException" U ∧ va_Nc "java/lang/IllegalArgumentException" "java/lang/IndexOutOfBoundsException" U ∧ va_Nc "java/lang/IllegalStateException" "java/lang/IndexOutOfBoundsException" U
theorem zNc.moved {u U : State} (hvm : u.vm.Alike U.vm) (h : zNc u) : zNc U := ⟨h.1.moved hvm, h.2.1.moved hvm, h.2.2.moved hvm⟩
abbrev zPh (D : va_G) (tys : List (ClassId × FieldType)) (w : va_W) (sz : Nat) : State → Prop := fun U => U.heap.size = sz ∧ va_P D vwCl w U.heap ∧ va_K D vwCl tys U ∧ va_D (fun _ => True) w ∧ zEnv (va_A w sz) U U.heap ∧ zNc U
theorem zPh_blind (av : List Value) (D : va_G) (tys : List (ClassId × FieldType)) (w : va_W) (sz : Nat) : FrameBlind (va_Pc av (zPh D tys w sz)) := fun a U g mk q => by
  obtain ⟨q0, q1, qP, qK, qD, qE, qN⟩ := q
  exact ⟨q0, q1, qP, va_K.moved (u := U) (U := U.calling g mk a) (Vm.Alike.refl U.vm) qK, qD, qE.calling g mk a, zNc.moved (u := U) (U := U.calling g mk a) (Vm.Alike.refl U.vm) qN⟩
abbrev zMh (l : Launch) (y : MethodName) (wsl : List Cond) (rm : Room) (av : List Value) (D : va_G) (tys : List (ClassId × FieldType)) (wc w1 : va_W) (sz : Nat) (r9 : Int32) (mc ms : Nat) : Prop := Met l y wsl rm (va_Pc av (zPh D tys wc sz)) (va_Qi (fun r (_ : Unit) => r = r9) (fun _ => zPo D tys (va_A wc sz) w1) (va_A wc sz)) mc ms (va_A wc sz)
