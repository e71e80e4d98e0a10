/-! WHAT IS READ NO MORE may change at will -/
def sc1 (M' R' S' a k : Nat) : Prop := (a = 1 ∧ k ≠ 1 ∧ k ≠ 5) ∨ (M' ≤ a ∧ a ≤ M' + 2) ∨ (R' ≤ a ∧ a ≤ R' + 4) ∨ (S' ≤ a ∧ a ≤ S' + 12) ∨ (84 ≤ a ∧ a ≤ 93) ∨ (a = 94 ∧ k ≠ 2) ∨ a = 96 ∨ 98 ≤ a
def sc2 (b k : Nat) : Prop := (9 ≤ b ∧ b ≤ 18) ∨ b = 20 ∨ (b = 0 ∧ 15 ≤ k ∧ k ≤ 23)
theorem pCpl.fr {M M' R R' S S' n c t : Nat} {σ1 σ2 σ1' σ2' : hM} (h : pCpl M M' R R' S S' n c t σ1 σ2) (q1 : σ1'.2.2 = σ1.2.2) (q2 : σ2'.2.2 = σ2.2.2) (f1 : ∀ a k, ¬ sc1 M' R' S' a k → σ1'.1 a k = σ1.1 a k) (f2 : ∀ b k, ¬ sc2 b k → σ2'.1 b k = σ2.1 b k) : pCpl M M' R R' S S' n c t σ1' σ2' := by
  obtain ⟨hr, hf2, hT, hm, hc2, ht, hst, hcr, hb, h0, h1⟩ := h
  have hM := hr.1
  have hR := hr.2.1
  have hS := hr.2.2.1
  have hc12 := hc2.1
  have F : ∀ a, (∀ k, ¬ sc1 M' R' S' a k) → σ1'.1 a = σ1.1 a := fun a ha => funext fun k => f1 a k (ha k)
  have G : ∀ b, (∀ k, ¬ sc2 b k) → σ2'.1 b = σ2.1 b := fun b hb => funext fun k => f2 b k (hb k)
  unfold sc1 at f1 F
  unfold sc2 at f2 G
  refine ⟨by rw [q1]; exact hr, by rw [q2]; exact hf2, ?_, ?_, ?_, ?_, ?_, ?_, ?_, ?_, ?_⟩
  · unfold pText at *
    rw [f1 1 1 (by omega), f1 1 5 (by omega), F 2 (by omega), f2 0 13 (by omega), f2 0 14 (by omega), G 8 (by omega)]
    exact hT
  · unfold pMel at *
    rw [F M (by omega), F (M + 1) (by omega), F (M + 2) (by omega), f2 0 0 (by omega), G 1 (by omega), G 2 (by omega)]
    exact hm
  · rw [f2 0 3 (by omega)]; exact hc2
  · unfold pTask at *
    rw [F R (by omega), F (R + 1) (by omega), F (R + 2) (by omega), F (R + 3) (by omega), F (R + 4) (by omega), f2 0 5 (by omega), G 4 (by omega)]
    exact ht
  · rw [G 5 (by omega), G 6 (by omega), G 3 (by omega), G 7 (by omega), f2 0 9 (by omega), f2 0 11 (by omega)]
    exact hst.fr (F _ (by omega)) (F _ (by omega)) (F _ (by omega)) (F _ (by omega)) (fun s hs => F _ (by omega))
  · unfold pCrowd at *
    rw [f1 94 2 (by omega), F 95 (by omega), f2 0 32 (by omega), G 19 (by omega)]
    exact hcr
  · unfold pBook at *
    rw [f1 0 11 (by omega), F 97 (by omega), f2 0 35 (by omega), G 21 (by omega)]
    exact hb
  · unfold pImg at *
    rw [F 50 (by omega), G 23 (by omega), G 22 (by omega)]
    exact ⟨h0.1, h0.2.imp id (fun q => ⟨q.1, q.2.fr (F _ (by omega)) (F _ (by omega)) (F _ (by omega)) (F _ (by omega)) (fun s hs => F _ (by omega))⟩)⟩
  · unfold pImg at *
    rw [F 67 (by omega), G 23 (by omega), G 22 (by omega)]
    exact ⟨h1.1, h1.2.imp id (fun q => ⟨q.1, q.2.fr (F _ (by omega)) (F _ (by omega)) (F _ (by omega)) (F _ (by omega)) (fun s hs => F _ (by omega))⟩)⟩
