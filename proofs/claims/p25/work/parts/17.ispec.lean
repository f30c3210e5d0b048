/-! what constructors leave -/
def zad (l : List Nat) : Nat → Nat := fun i => l.getD i 0
def zini (v : Nat → Int32) (i : Nat) : Nat → Int32 := fun j => if j < i then v j else nI 0
theorem zini_0 (v : Nat → Int32) : zini v 0 = fun _ => nI 0 := by
  funext j
  simp only [zini]
  rw [if_neg (by omega)]
theorem zini_s (v : Nat → Int32) (i : Nat) : upd (zini v i) i (v i) = zini v (i + 1) := by
  funext j
  simp only [upd, zini]
  by_cases h : j = i
  · rw [if_pos h, if_pos (by omega), h]
  · rw [if_neg h]
    by_cases h2 : j < i
    · rw [if_pos h2, if_pos (by omega)]
    · rw [if_neg h2, if_neg (by omega)]
def k0 : kS := fun _ _ => nI 0
def kIL (i : Nat) : kS := setA k0 7 (zini (fun _ => (-1)) i)
def kIS (i : Nat) : kS := setA (setA k0 19 (zini (fun _ => (-1)) i)) 20 (zini (fun s => nI 100 - nI (10 * (s / 10))) i)
def kInit : kS := setA (setA (setA (setA k0 7 (zini (fun _ => (-1)) 8)) 19 (zini (fun _ => (-1)) 60)) 20 (zini (fun s => nI 100 - nI (10 * (s / 10))) 60)) 0 (upd (fun _ => nI 0) 1 (nI 100))
def m8 : Nat → Int32 := upd (upd (upd (upd (upd (upd (upd (upd (fun _ => nI 0) 0 (-1)) 1 (-1)) 2 (-1)) 3 (-1)) 4 (-1)) 5 (-1)) 6 (-1)) 7 (-1)
def m0 : kS := setA (setA (setA k0 0 (upd (fun _ => nI 0) 2 (nI 100))) 4 m8) 5 m8
def mI (i : Nat) : kS := setA (setA m0 13 (zini (fun _ => (-1)) i)) 15 (zini (fun _ => (-1)) i)
theorem mI_0 : mI 0 = m0 := by
  unfold mI
  rw [zini_0, show (fun _ => nI 0 : Nat → Int32) = m0 13 from rfl, setA_same, show m0 13 = m0 15 from rfl, setA_same]
theorem kIL_0 : kIL 0 = k0 := by
  unfold kIL
  rw [zini_0, show (fun _ => nI 0 : Nat → Int32) = k0 7 from rfl, setA_same]
theorem kIS_0 : kIS 0 = k0 := by
  unfold kIS
  rw [zini_0, zini_0, show (fun _ => nI 0 : Nat → Int32) = k0 19 from rfl, setA_same, show k0 19 = k0 20 from rfl, setA_same]
theorem zcI {D : va_G} {cl : List vw_C} {tys : List (ClassId × FieldType)} {U : State} (h : va_K D cl tys U) {i j : Nat} {a b : ClassId} (hi : tys[i]? = some (a, .int)) (hj : tys[j]? = some (b, .int)) : a = b :=
  Option.some.inj ((va_nm_int (h.2 i _ hi).2).symm.trans (va_nm_int (h.2 j _ hj).2))
theorem zcZ {D : va_G} {cl : List vw_C} {tys : List (ClassId × FieldType)} {U : State} (h : va_K D cl tys U) {i j : Nat} {a b : ClassId} (hi : tys[i]? = some (a, .boolean)) (hj : tys[j]? = some (b, .boolean)) : a = b :=
  Option.some.inj ((va_nm_boolean (h.2 i _ hi).2).symm.trans (va_nm_boolean (h.2 j _ hj).2))
abbrev zPn (D : va_G) (tys : List (ClassId × FieldType)) (w : va_W) (sz : Nat) : State → Prop := fun U => U.heap.size = sz ∧ va_P D vwCl w U.heap ∧ va_K D vwCl tys U ∧ va_D (fun _ => True) w ∧ ∀ w ∈ zNW, va_Nw w U
theorem zPn_blind (av : List Value) (D : va_G) (tys : List (ClassId × FieldType)) (w : va_W) (sz : Nat) : FrameBlind (va_Pc av (zPn D tys w sz)) := fun a U g mk q => by
  obtain ⟨q0, q1, qP, qK, qD, qE⟩ := q
  exact ⟨q0, q1, qP, va_K.moved (u := U) (U := U.calling g mk a) (Vm.Alike.refl U.vm) qK, qD, zNW_warm (s := U) (U := U.calling g mk a) (State.WarmedH.refl U) qE⟩
