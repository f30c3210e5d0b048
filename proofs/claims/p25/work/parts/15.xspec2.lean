theorem zmany {m q : Int32} {q9 : Nat} (hq : q = nI q9) (hq9 : q9 < 10) (h1 : ¬ m < nI 1) (h4 : ¬ nI 4 < m) (h : q + m ≤ nI 10) : ∃ m9, 1 ≤ m9 ∧ m9 ≤ 4 ∧ m = nI m9 ∧ m.toNatClampNeg = m9 ∧ q9 + m9 ≤ 10 := by
  obtain ⟨m9, g1, g2, g3, g4⟩ := mIn_of1 (x := m) (a := 1) (n := 4) (by decide) (by decide) (by simp [mIn, h1, h4])
  refine ⟨m9, g1, g2, g3, g4, ?_⟩
  rw [hq, g3, nI_add] at h
  exact (nI_leI (by omega) (by decide)).mp h
