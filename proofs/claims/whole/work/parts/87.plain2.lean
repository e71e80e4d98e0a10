theorem pCpl.plain {M M' R R' S S' n c t s : Nat} {σ1 σ2 υ1 υ2 : hM} (hC : pCpl M M' R R' S S' n c t σ1 σ2) (hO : vOut σ1 σ2 98 99 15 s n υ1 υ2) : pCpl M M' R R' S S' n c t υ1 υ2 := by
  obtain ⟨g1, g2, g3, g4, g5, g6, g7, g8, g9, g10, g11⟩ := hO
  obtain ⟨hr, hf2, hT, hm, hc2, ht, hst, hcr, hb, hi0, hi1⟩ := id hC
  have hMe := hr.1
  have hR := hr.2.1
  have hS := hr.2.2.1
  have hc12 := hc2.1
  obtain ⟨a1, a2, a3, a4, a5, a6⟩ := hC.outer (f' := υ1.1) (g' := υ2.1) (fun x hx => g3 x (by omega) (by omega) (by omega)) (fun x hx => g7 x (by omega) (by omega)) (fun k _ h11 => g8 k h11)
  have oth : ∀ (i' A' : Nat), ((i' = 0 ∧ A' = 50) ∨ (i' = 1 ∧ A' = 67)) → pImg n c t i' A' σ1.1 σ2.1 → pImg n c t i' A' υ1.1 υ2.1 := by
    intro i' A' hi' h
    unfold pImg at h ⊢
    rw [g3 A' (by omega) (by omega) (by omega), g7 22 (by decide) (by decide), g7 23 (by decide) (by decide)]
    exact ⟨h.1, h.2.imp id (fun q => ⟨q.1, q.2.fr (g3 _ (by omega) (by omega) (by omega)) (g3 _ (by omega) (by omega) (by omega)) (g3 _ (by omega) (by omega) (by omega)) (g3 _ (by omega) (by omega) (by omega)) (fun s hs => g3 _ (by omega) (by omega) (by omega))⟩)⟩
  obtain ⟨hs3, hsw, hsr, hss, hsg, hse, hse0⟩ := id hst
  refine ⟨by rw [g1]; exact hr, by rw [g2]; exact hf2, a1, a2, a3, a4, ?_, a5, a6, oth 0 50 (Or.inl ⟨rfl, rfl⟩) hi0, oth 1 67 (Or.inr ⟨rfl, rfl⟩) hi1⟩
  rw [g7 5 (by decide) (by decide), g7 6 (by decide) (by decide), g7 3 (by decide) (by decide), g7 7 (by decide) (by decide), g8 9 (by decide)]
  exact ⟨by rw [g4 3 (by decide)]; exact hs3, fun k hk => by rw [g3 _ (by omega) (by omega) (by omega)]; exact hsw k hk, by rw [g4 4 (by decide), g4 5 (by decide)]; exact hsr, fun s hs => ⟨fun j hj => by rw [g3 _ (by omega) (by omega) (by omega)]; exact (hss s hs).1 j hj, (hss s hs).2⟩, by rw [g3 _ (by omega) (by omega) (by omega), g3 _ (by omega) (by omega) (by omega)]; exact hsg, g9, g10⟩
