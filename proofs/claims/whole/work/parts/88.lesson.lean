theorem tch0 (p : Nat) (x : Nat → Int32) : tch p x 0 = x 0 := by
  unfold tch
  by_cases h0 : p = 0
  · rw [if_pos h0]; rfl
  · rw [if_neg h0]
    by_cases h1 : p = 1
    · rw [if_pos h1]; rfl
    · rw [if_neg h1]
      by_cases h2 : p = 2
      · rw [if_pos h2]; rfl
      · rw [if_neg h2]; rfl
/-- a taught singer on both sides -/
theorem pCpl.taught {M M' R R' S S' n c t s p : Nat} {σ1 σ2 τ1 τ2 : hM} (hC : pCpl M M' R R' S S' n c t σ1 σ2) (hs : s < c) (g1 : τ1.2.2 = σ1.2.2) (g2 : τ2.2.2 = σ2.2.2) (g3 : ∀ a, a ≠ S + 1 + s → τ1.1 a = σ1.1 a) (g4 : ∀ j, j < 8 → τ1.1 (S + 1 + s) j = tch p (σ1.1 (S + 1 + s)) j) (g5 : ∀ a, a ≠ 3 → τ2.1 a = σ2.1 a) (g6 : ∀ j, j < 8 → τ2.1 3 (8 * s + j) = tch p (fun j => σ2.1 3 (8 * s + j)) j) (g7 : ∀ x, (x < 8 * s ∨ 8 * s + 8 ≤ x) → τ2.1 3 x = σ2.1 3 x) : pCpl M M' R R' S S' n c t τ1 τ2 := by
  obtain ⟨hr, hf2, hT, hm, hc2, ht, hst, hcr, hb, hi0, hi1⟩ := id hC
  have hMe := hr.1
  have hR := hr.2.1
  have hS := hr.2.2.1
  have hc12 := hc2.1
  obtain ⟨a1, a2, a3, a4, a5, a6⟩ := hC.outer (f' := τ1.1) (g' := τ2.1) (fun x hx => g3 x (by omega)) (fun x hx => g5 x (by omega)) (fun k _ _ => by rw [g5 0 (by decide)])
  have oth : ∀ (i' A' : Nat), ((i' = 0 ∧ A' = 50) ∨ (i' = 1 ∧ A' = 67)) → pImg n c t i' A' σ1.1 σ2.1 → pImg n c t i' A' τ1.1 τ2.1 := by
    intro i' A' hi' h
    unfold pImg at h ⊢
    rw [g3 A' (by omega), g5 22 (by decide), g5 23 (by decide)]
    exact ⟨h.1, h.2.imp id (fun q => ⟨q.1, q.2.fr (g3 _ (by omega)) (g3 _ (by omega)) (g3 _ (by omega)) (g3 _ (by omega)) (fun s hs => g3 _ (by omega))⟩)⟩
  obtain ⟨hs3, hsw, hsr, hss, hsg, hse, hse0⟩ := id hst
  have k0 : ∀ s', τ2.1 3 (8 * s') = σ2.1 3 (8 * s') := by
    intro s'
    by_cases e : s' = s
    · subst e
      have q := g6 0 (by decide)
      rw [Nat.add_zero] at q
      rw [q]
      exact tch0 _ _
    · exact g7 _ (by omega)
  refine ⟨by rw [g1]; exact hr, by rw [g2]; exact hf2, a1, a2, a3, a4, ?_, a5, a6, oth 0 50 (Or.inl ⟨rfl, rfl⟩) hi0, oth 1 67 (Or.inr ⟨rfl, rfl⟩) hi1⟩
  rw [g5 5 (by decide), g5 6 (by decide), g5 7 (by decide), g5 0 (by decide)]
  refine ⟨by rw [g3 _ (by omega)]; exact hs3, fun k hk => by rw [g3 _ (by omega)]; exact hsw k hk, by rw [g3 _ (by omega)]; exact hsr, fun s' hs' => ?_, ?_, by rw [g3 _ (by omega)]; exact hse, hse0⟩
  · by_cases e : s' = s
    · subst e
      refine ⟨fun j hj => by rw [g4 j hj, g6 j hj]; exact tch_cong (hss s' hs).1 j hj, ?_⟩
      have q := tch_ok (p := p) (hss s' hs).2
      unfold sOk at q ⊢
      simp only [g6 0 (by decide), g6 1 (by decide), g6 2 (by decide), g6 3 (by decide), g6 4 (by decide), g6 5 (by decide), g6 6 (by decide), g6 7 (by decide)]
      exact q
    · refine ⟨fun j hj => by rw [g3 _ (by omega), g7 _ (by omega)]; exact (hss s' hs').1 j hj, ?_⟩
      have q := (hss s' hs').2
      unfold sOk at q ⊢
      simp only [g7 (8 * s' + 0) (by omega), g7 (8 * s' + 1) (by omega), g7 (8 * s' + 2) (by omega), g7 (8 * s' + 3) (by omega), g7 (8 * s' + 4) (by omega), g7 (8 * s' + 5) (by omega), g7 (8 * s' + 6) (by omega), g7 (8 * s' + 7) (by omega)]
      exact q
  · rw [g3 _ (by omega), g3 _ (by omega)]
    obtain ⟨z1, z2⟩ := hsg
    refine ⟨z1, z2.imp id (fun ⟨s', b1, b2, b3, b4⟩ => ⟨s', b1, b2, b3, fun k hk => by rw [k0 s']; exact b4 k hk⟩)⟩
