theorem t_ear : ∀ k, k < 100 → (0 ≤ (if (0 : Int32) < nI k - (nI k / 4 + 1) then nI k - (nI k / 4 + 1) else 0).toInt ∧ (if (0 : Int32) < nI k - (nI k / 4 + 1) then nI k - (nI k / 4 + 1) else 0).toInt ≤ 99) ∧ (if 0 ≤ nI k - (nI k / 4 + 1) then nI k - (nI k / 4 + 1) else 0) = (if (0 : Int32) < nI k - (nI k / 4 + 1) then nI k - (nI k / 4 + 1) else 0) := by decide +kernel
theorem t_lean : ∀ k, k < 100 → -50 ≤ ((nI k - 50) - (nI k - 50) / 3).toInt ∧ ((nI k - 50) - (nI k - 50) / 3).toInt ≤ 49 := by decide +kernel
theorem t_spread : ∀ k, k < 100 → 0 ≤ (nI k - nI k / 3).toInt ∧ (nI k - nI k / 3).toInt ≤ 99 := by decide +kernel
theorem t_mem : ∀ k, k < 41 → (1 ≤ (if nI k + 2 < 40 then nI k + 2 else 40).toInt ∧ (if nI k + 2 < 40 then nI k + 2 else 40).toInt ≤ 40) ∧ (if nI k + 2 ≤ 40 then nI k + 2 else 40) = (if nI k + 2 < 40 then nI k + 2 else 40) := by decide +kernel
theorem t_range : ∀ h, h < 37 → ∀ l, l < h + 1 → (0 ≤ (if (0 : Int32) < nI l - 1 then nI l - 1 else 0).toInt ∧ (if (0 : Int32) < nI l - 1 then nI l - 1 else 0).toInt ≤ (if nI h + 1 < 36 then nI h + 1 else 36).toInt ∧ (if nI h + 1 < 36 then nI h + 1 else 36).toInt ≤ 36) ∧ nI h + (if (36 : Int32) ≤ nI h then 0 else 1) = (if nI h + 1 < 36 then nI h + 1 else 36) ∧ nI l - (if nI l ≤ 0 then 0 else 1) = (if (0 : Int32) < nI l - 1 then nI l - 1 else 0) := by decide +kernel
theorem as_nI {x : Int32} (h : 0 ≤ x.toInt) : ∃ k : Nat, x = nI k ∧ x.toInt = (k : Int) := by
  obtain ⟨k, hk, e⟩ := nI_of (x := x) (by rw [Int32.lt_iff_toInt_lt, Int32.toInt_zero]; omega)
  exact ⟨k, e, by rw [e, nI_toInt hk]⟩
theorem as_50 {x : Int32} (h : -50 ≤ x.toInt ∧ x.toInt ≤ 49) : ∃ k : Nat, k < 100 ∧ x = nI k - 50 := by
  have e5 : (x + 50).toInt = x.toInt + 50 := by
    rw [Int32.toInt_add, show (50 : Int32).toInt = 50 from rfl, fbm (by omega) (by omega)]
  obtain ⟨k, e, ek⟩ := as_nI (x := x + 50) (by omega)
  refine ⟨k, by omega, ?_⟩
  rw [← e]
  grind
theorem tch_ok {p : Nat} {x : Nat → Int32} (h : sOk x) : sOk (tch p x) := by
  obtain ⟨h0, h1, h2, h3, h4, ⟨h5, h56, h6⟩, h7⟩ := h
  obtain ⟨k1, e1, i1⟩ := as_nI h1.1
  obtain ⟨k2, l2, e2⟩ := as_50 h2
  obtain ⟨k3, e3, i3⟩ := as_nI h3.1
  obtain ⟨k4, e4, i4⟩ := as_nI (show 0 ≤ (x 4).toInt by omega)
  obtain ⟨k5, e5, i5⟩ := as_nI h5
  obtain ⟨k6, e6, i6⟩ := as_nI (show 0 ≤ (x 6).toInt by omega)
  have a1 := (t_ear k1 (by omega)).1
  have a2 := t_lean k2 l2
  have a3 := t_spread k3 (by omega)
  have a4 := (t_mem k4 (by omega)).1
  have a5 := (t_range k6 (by omega) k5 (by omega)).1
  rw [← e1] at a1
  rw [← e2] at a2
  rw [← e3] at a3
  rw [← e4] at a4
  rw [← e5, ← e6] at a5
  unfold sOk tch
  by_cases p0 : p = 0
  · simp only [if_pos p0]
    exact ⟨h0, a1, h2, h3, h4, ⟨h5, h56, h6⟩, h7⟩
  · simp only [if_neg p0]
    by_cases p1 : p = 1
    · simp only [if_pos p1]
      exact ⟨h0, h1, a2, a3, h4, ⟨h5, h56, h6⟩, h7⟩
    · simp only [if_neg p1]
      by_cases p2 : p = 2
      · simp only [if_pos p2]
        exact ⟨h0, h1, h2, h3, a4, ⟨h5, h56, h6⟩, h7⟩
      · simp only [if_neg p2]
        exact ⟨h0, h1, h2, h3, h4, a5, h7⟩
