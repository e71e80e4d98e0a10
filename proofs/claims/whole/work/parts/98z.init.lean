/-! THE FIRST MEMORIES -/
def fixL : List (Nat × Nat × Nat) := [(0, 1, 3), (0, 2, 6), (0, 3, 9), (0, 4, 14), (0, 5, 19), (32, 2, 36), (0, 0, 1), (0, 6, 32), (0, 7, 49), (0, 8, 84), (0, 9, 94), (0, 10, 97), (0, 12, 98), (0, 13, 100), (1, 0, 2), (32, 0, 33), (32, 1, 35), (33, 0, 34), (98, 0, 99), (94, 0, 95), (94, 1, 96), (84, 0, 85), (84, 1, 93), (49, 0, 50), (49, 1, 67), (50, 0, 51), (51, 0, 52), (50, 1, 53), (50, 2, 54), (67, 0, 68), (68, 0, 69), (67, 1, 70), (67, 2, 71), (3, 0, 4), (3, 1, 5), (6, 0, 7), (6, 1, 8), (9, 0, 10), (9, 1, 11), (9, 2, 12), (9, 3, 13), (14, 0, 15), (14, 1, 16), (14, 2, 17), (14, 3, 18)]
def ini1 (σ : hM) : Prop := (σ.1 1 1 = 0 ∧ σ.1 1 5 = -1 ∧ σ.1 3 2 = 0 ∧ σ.1 9 4 = 0) ∧ (σ.1 32 3 = 0 ∧ σ.1 32 4 = 0 ∧ σ.1 32 5 = 0 ∧ σ.1 32 6 = 0 ∧ σ.1 33 2 = -1) ∧ (∀ k, k < 16 → σ.1 35 k = 1) ∧ (σ.1 94 2 = 0 ∧ σ.1 0 11 = 0 ∧ σ.1 50 7 = 0 ∧ σ.1 67 7 = 0)
def rfs1 (σ : hM) : Bool := fixL.all (fun x => decide (σ.2.2 x.1 x.2.1 = some x.2.2)) && ((List.range 12).all (fun k => decide (σ.2.2 36 k = some (37 + k) ∧ σ.2.2 19 k = some (20 + k) ∧ σ.2.2 54 k = some (55 + k) ∧ σ.2.2 71 k = some (72 + k))) && (List.range 7).all (fun k => decide (σ.2.2 85 k = some (86 + k))))
def ini2 (σ : hM) : Prop := pRf2 σ.2.2 ∧ (σ.1 0 13 = 0 ∧ σ.1 0 14 = -1 ∧ σ.1 0 0 = 0 ∧ σ.1 0 3 = 0 ∧ σ.1 0 5 = 0) ∧ (σ.1 0 9 = -1 ∧ σ.1 0 11 = 0 ∧ σ.1 0 32 = 0 ∧ σ.1 0 35 = 0) ∧ (∀ k, k < 16 → σ.1 5 k = 1) ∧ (∀ i, i < 6 → σ.1 6 i = 0) ∧ σ.1 23 0 = 0 ∧ σ.1 23 1 = 0
def dIni1 (σ : hM) : Decidable (ini1 σ) := by unfold ini1; infer_instance
def dIni2 (σ : hM) : Decidable (ini2 σ) := by unfold ini2 pRf2; infer_instance
def chk1 (o : Option (hM × Nat)) : Bool := match o with
  | some (σ, n) => decide (n = 101) && (rfs1 σ && @decide (ini1 σ) (dIni1 σ))
  | none => false
def chk2 (o : Option (hM × Nat)) : Bool := match o with
  | some (σ, n) => decide (n = 24) && @decide (ini2 σ) (dIni2 σ)
  | none => false
set_option maxRecDepth 100000 in
theorem ini1_ok : chk1 (fX8_init kT1 0 (clr z0 0) 1) = true := by decide +kernel
set_option maxRecDepth 100000 in
theorem ini2_ok : chk2 (fX9_init kT2 0 (clr z0 0) 1) = true := by decide +kernel
theorem rfs1_ok {σ : hM} (h : rfs1 σ = true) : pRf1 3 6 9 14 36 19 σ.2.2 := by
  unfold rfs1 at h
  rw [Bool.and_eq_true, Bool.and_eq_true] at h
  obtain ⟨h1, h2, h3⟩ := h
  have g : ∀ a k x, (a, k, x) ∈ fixL → σ.2.2 a k = some x := fun a k x hm => of_decide_eq_true (List.all_eq_true.mp h1 (a, k, x) hm)
  refine ⟨Or.inl ⟨rfl, rfl⟩, Or.inl ⟨rfl, rfl⟩, Or.inl ⟨rfl, rfl⟩, g _ _ _ (by decide), g _ _ _ (by decide), g _ _ _ (by decide), g _ _ _ (by decide), g _ _ _ (by decide), g _ _ _ (by decide), ?_, fun k hk => of_decide_eq_true (List.all_eq_true.mp h2 k (List.mem_range.mpr hk)), fun k hk => of_decide_eq_true (List.all_eq_true.mp h3 k (List.mem_range.mpr hk))⟩
  exact ⟨g _ _ _ (by decide), g _ _ _ (by decide), g _ _ _ (by decide), g _ _ _ (by decide), g _ _ _ (by decide), g _ _ _ (by decide), g _ _ _ (by decide), g _ _ _ (by decide), g _ _ _ (by decide), g _ _ _ (by decide), g _ _ _ (by decide), g _ _ _ (by decide), g _ _ _ (by decide), g _ _ _ (by decide), g _ _ _ (by decide), g _ _ _ (by decide), g _ _ _ (by decide), g _ _ _ (by decide), g _ _ _ (by decide), g _ _ _ (by decide), g _ _ _ (by decide), g _ _ _ (by decide), g _ _ _ (by decide), g _ _ _ (by decide), g _ _ _ (by decide), g _ _ _ (by decide), g _ _ _ (by decide), g _ _ _ (by decide), g _ _ _ (by decide), g _ _ _ (by decide), g _ _ _ (by decide), g _ _ _ (by decide), g _ _ _ (by decide), g _ _ _ (by decide), g _ _ _ (by decide), g _ _ _ (by decide), g _ _ _ (by decide), g _ _ _ (by decide), g _ _ _ (by decide)⟩
theorem first1 : ∃ σ1, fX8_init kT1 0 (clr z0 0) 1 = some (σ1, 101) ∧ pRf1 3 6 9 14 36 19 σ1.2.2 ∧ ini1 σ1 := by
  have h := ini1_ok
  generalize fX8_init kT1 0 (clr z0 0) 1 = o at h ⊢
  match o, h with
  | some (σ, n), h =>
    have h' : (decide (n = 101) && (rfs1 σ && @decide (ini1 σ) (dIni1 σ))) = true := h
    rw [Bool.and_eq_true, Bool.and_eq_true] at h'
    have e := of_decide_eq_true h'.1
    subst e
    exact ⟨σ, rfl, rfs1_ok h'.2.1, @of_decide_eq_true _ (dIni1 σ) h'.2.2⟩
  | none, h => exact absurd h (by decide)
theorem first2 : ∃ σ2, fX9_init kT2 0 (clr z0 0) 1 = some (σ2, 24) ∧ ini2 σ2 := by
  have h := ini2_ok
  generalize fX9_init kT2 0 (clr z0 0) 1 = o at h ⊢
  match o, h with
  | some (σ, n), h =>
    have h' : (decide (n = 24) && @decide (ini2 σ) (dIni2 σ)) = true := h
    rw [Bool.and_eq_true] at h'
    have e := of_decide_eq_true h'.1
    subst e
    exact ⟨σ, rfl, @of_decide_eq_true _ (dIni2 σ) h'.2⟩
  | none, h => exact absurd h (by decide)
theorem first {σ1 σ2 : hM} (a1 : pRf1 3 6 9 14 36 19 σ1.2.2) (h1 : ini1 σ1) (h2 : ini2 σ2) : Cpl σ1 σ2 := by
  obtain ⟨⟨a2, a3, a4, a5⟩, ⟨a6, a7, a8, a9, a10⟩, a11, a12, a13, a14, a15⟩ := h1
  obtain ⟨b1, ⟨b2, b3, b4, b5, b6⟩, ⟨b7, b8, b9, b10⟩, b11, b12, b13, b14⟩ := h2
  refine ⟨3, 6, 9, 14, 36, 19, 0, 0, 0, a1, b1, ?_, ?_, ?_, ?_, ?_, ?_, ?_, ?_, ?_⟩
  · exact ⟨0, by decide, by rw [a2, nI_0], by rw [b2, nI_0], fun k hk => absurd hk (by omega), by rw [a3, b3]⟩
  · exact ⟨by decide, by rw [a4, nI_0], by rw [b4, nI_0], fun k hk => absurd hk (by omega)⟩
  · exact ⟨by decide, by rw [b5, nI_0]⟩
  · exact ⟨by decide, by rw [a5, nI_0], by rw [b6, nI_0], fun k hk => absurd hk (by omega)⟩
  · refine ⟨by rw [a6, nI_0], fun k hk => ?_, ?_, fun s hs => absurd hs (by omega), ⟨?_, Or.inl b7⟩, ?_, ?_⟩
    · rw [b11 k hk]
      exact ⟨a11 k hk, by decide⟩
    · rw [a7, a8]
      refine ⟨0, 0, by decide, by decide, rfl, rfl, fun j hj => ?_⟩
      rw [b12 j hj]
      exact ⟨Or.inl rfl, by simp, by simp, fun _ => rfl⟩
    · rw [b7]; exact a10
    · rw [b8]; exact a9
    · rw [b8]; decide
  · exact ⟨0, by decide, by rw [a12, nI_0], by rw [b9, nI_0], fun k hk => absurd hk (by omega)⟩
  · exact ⟨0, by decide, by rw [a13, nI_0], by rw [b10, nI_0], fun k hk => absurd hk (by omega)⟩
  · exact ⟨by rw [b13]; exact a14, Or.inl b13⟩
  · exact ⟨by rw [b14]; exact a15, Or.inl b14⟩
