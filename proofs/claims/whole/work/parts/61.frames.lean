/-! WHAT A WRITE LEAVES AS IT IS -/
theorem wIk {σ : hM} {a k b j : Nat} {v : Int32} (h : ¬ (b = a ∧ j = k)) : (wI σ a k v).1 b j = σ.1 b j := by simp [wI, h_w2, h]
theorem wIe {σ : hM} {a k : Nat} {v : Int32} : (wI σ a k v).1 a k = v := by simp [wI, h_w2]
section FRAMES
variable {n c t M M' R R' S S' A i a b k : Nat} {σ σ1 σ2 : hM} {v : Int32} {f g f' g' : Nat → Nat → Int32} {gW gR gS gG : Nat → Int32} {su se : Int32}
theorem pText.w1 (h : pText σ.1 g) (ha : a ≠ 1 ∧ a ≠ 2) : pText (wI σ a k v).1 g := by
  obtain ⟨w, h1, h2, h3, h4, h5⟩ := h
  exact ⟨w, h1, by rw [wIn (by omega)]; exact h2, h3, fun k hk => by rw [wIn (by omega)]; exact h4 k hk, by rw [wIn (by omega)]; exact h5⟩
theorem pText.w2 (h : pText f σ.1) (ha : b ≠ 8 ∧ ¬ (b = 0 ∧ (k = 13 ∨ k = 14))) : pText f (wI σ b k v).1 := by
  obtain ⟨w, h1, h2, h3, h4, h5⟩ := h
  exact ⟨w, h1, h2, by rw [wIk (by omega)]; exact h3, fun k hk => by rw [wIn (by omega)]; exact h4 k hk, by rw [wIk (by omega)]; exact h5⟩
theorem pMel.w1 (h : pMel n M σ.1 g) (ha : a < M ∨ M + 2 < a) : pMel n M (wI σ a k v).1 g := by
  obtain ⟨h1, h2, h3, h4⟩ := h
  exact ⟨h1, by rw [wIn (by omega)]; exact h2, h3, fun k hk => by rw [wIn (by omega), wIn (by omega)]; exact h4 k hk⟩
theorem pMel.w2 (h : pMel n M f σ.1) (ha : b ≠ 1 ∧ b ≠ 2 ∧ ¬ (b = 0 ∧ k = 0)) : pMel n M f (wI σ b k v).1 := by
  obtain ⟨h1, h2, h3, h4⟩ := h
  exact ⟨h1, h2, by rw [wIk (by omega)]; exact h3, fun k hk => by rw [wIn (by omega), wIn (by omega)]; exact h4 k hk⟩
theorem pTask.w1 (h : pTask t R σ.1 g) (ha : a < R ∨ R + 4 < a) : pTask t R (wI σ a k v).1 g := by
  obtain ⟨h1, h2, h3, h4⟩ := h
  exact ⟨h1, by rw [wIn (by omega)]; exact h2, h3, fun k hk => by rw [wIn (by omega), wIn (by omega), wIn (by omega), wIn (by omega)]; exact h4 k hk⟩
theorem pTask.w2 (h : pTask t R f σ.1) (ha : b ≠ 4 ∧ ¬ (b = 0 ∧ k = 5)) : pTask t R f (wI σ b k v).1 := by
  obtain ⟨h1, h2, h3, h4⟩ := h
  exact ⟨h1, h2, by rw [wIk (by omega)]; exact h3, fun k hk => by rw [wIn (by omega)]; exact h4 k hk⟩
theorem pState.fr (h : pState n c t A S f gW gR gS gG su se) (e0 : f' A = f A) (e1 : f' (A + 1) = f (A + 1)) (e2 : f' (A + 2) = f (A + 2)) (e3 : f' (A + 3) = f (A + 3)) (es : ∀ s, s < c → f' (S + 1 + s) = f (S + 1 + s)) : pState n c t A S f' gW gR gS gG su se := by
  obtain ⟨h1, h2, h3, h4, h5, h6⟩ := h
  unfold pState
  rw [e0, e1, e2, e3]
  exact ⟨h1, h2, h3, fun s hs => ⟨fun j hj => by rw [es s hs]; exact (h4 s hs).1 j hj, (h4 s hs).2⟩, h5, h6⟩
theorem pState.w1 (h : pState n c t A S σ.1 gW gR gS gG su se) (hc : c ≤ 12) (ha : (a < A ∨ A + 3 < a) ∧ (a ≤ S ∨ S + 12 < a)) : pState n c t A S (wI σ a k v).1 gW gR gS gG su se :=
  h.fr (wIn (by omega)) (wIn (by omega)) (wIn (by omega)) (wIn (by omega)) (fun s hs => wIn (by omega))
theorem pCrowd.w1 (h : pCrowd σ.1 g) (ha : a ≠ 95 ∧ ¬ (a = 94 ∧ k = 2)) : pCrowd (wI σ a k v).1 g := by
  obtain ⟨w, h1, h2, h3, h4⟩ := h
  exact ⟨w, h1, by rw [wIk (by omega)]; exact h2, h3, fun k hk => by rw [wIn (by omega)]; exact h4 k hk⟩
theorem pCrowd.w2 (h : pCrowd f σ.1) (ha : b ≠ 19 ∧ ¬ (b = 0 ∧ k = 32)) : pCrowd f (wI σ b k v).1 := by
  obtain ⟨w, h1, h2, h3, h4⟩ := h
  exact ⟨w, h1, h2, by rw [wIk (by omega)]; exact h3, fun k hk => by rw [wIn (by omega)]; exact h4 k hk⟩
theorem pBook.w1 (h : pBook σ.1 g) (ha : a ≠ 97 ∧ ¬ (a = 0 ∧ k = 11)) : pBook (wI σ a k v).1 g := by
  obtain ⟨w, h1, h2, h3, h4⟩ := h
  exact ⟨w, h1, by rw [wIk (by omega)]; exact h2, h3, fun k hk => by rw [wIn (by omega)]; exact h4 k hk⟩
theorem pBook.w2 (h : pBook f σ.1) (ha : b ≠ 21 ∧ ¬ (b = 0 ∧ k = 35)) : pBook f (wI σ b k v).1 := by
  obtain ⟨w, h1, h2, h3, h4⟩ := h
  exact ⟨w, h1, h2, by rw [wIk (by omega)]; exact h3, fun k hk => by rw [wIn (by omega)]; exact h4 k hk⟩
theorem pImg.w1 (h : pImg n c t i A σ.1 g) (hc : c ≤ 12) (ha : a < A ∨ A + 16 < a) : pImg n c t i A (wI σ a k v).1 g := by
  obtain ⟨h1, h2⟩ := h
  refine ⟨by rw [wIn (by omega)]; exact h1, ?_⟩
  rcases h2 with h2 | ⟨h2, h3⟩
  · exact Or.inl h2
  · exact Or.inr ⟨h2, h3.w1 hc (by omega)⟩
theorem pImg.w2 (h : pImg n c t i A f σ.1) (ha : b ≠ 22 ∧ b ≠ 23) : pImg n c t i A f (wI σ b k v).1 := by
  unfold pImg
  rw [wIn (by omega), wIn (by omega)]
  exact h
theorem pState.w2 (h : pState n c t A S f (σ.1 5) (σ.1 6) (σ.1 3) (σ.1 7) (σ.1 0 9) (σ.1 0 11)) (ha : b ≠ 5 ∧ b ≠ 6 ∧ b ≠ 3 ∧ b ≠ 7 ∧ ¬ (b = 0 ∧ (k = 9 ∨ k = 11))) : pState n c t A S f ((wI σ b k v).1 5) ((wI σ b k v).1 6) ((wI σ b k v).1 3) ((wI σ b k v).1 7) ((wI σ b k v).1 0 9) ((wI σ b k v).1 0 11) := by
  rw [wIn (by omega), wIn (by omega), wIn (by omega), wIn (by omega), wIk (by omega), wIk (by omega)]
  exact h
/-- a write to what is read no more -/
theorem pCpl.w1 (h : pCpl M M' R R' S S' n c t σ1 σ2) (ha : (a = 1 ∧ k ≠ 1 ∧ k ≠ 5) ∨ (M' ≤ a ∧ a ≤ M' + 2) ∨ (R' ≤ a ∧ a ≤ R' + 4) ∨ (S' ≤ a ∧ a ≤ S' + 12) ∨ (84 ≤ a ∧ a ≤ 93) ∨ (a = 94 ∧ k ≠ 2) ∨ a = 96 ∨ 98 ≤ a) : pCpl M M' R R' S S' n c t (wI σ1 a k v) σ2 := by
  obtain ⟨hr, hf2, hT, hm, hc2, ht, hst, hcr, hb, h0, h1⟩ := h
  have hM := hr.1
  have hR := hr.2.1
  have hS := hr.2.2.1
  have h12 := hc2.1
  refine ⟨hr, hf2, ?_, hm.w1 (by omega), hc2, ht.w1 (by omega), hst.w1 hc2.1 (by omega), hcr.w1 (by omega), hb.w1 (by omega), h0.w1 hc2.1 (by omega), h1.w1 hc2.1 (by omega)⟩
  obtain ⟨w, h1, h2, h3, h4, h5⟩ := hT
  exact ⟨w, h1, by rw [wIk (by omega)]; exact h2, h3, fun k hk => by rw [wIn (by omega)]; exact h4 k hk, by rw [wIk (by omega)]; exact h5⟩
theorem pCpl.w2 (h : pCpl M M' R R' S S' n c t σ1 σ2) (ha : (9 ≤ b ∧ b ≤ 18) ∨ b = 20 ∨ (b = 0 ∧ 15 ≤ k ∧ k ≤ 23)) : pCpl M M' R R' S S' n c t σ1 (wI σ2 b k v) := by
  obtain ⟨hr, hf2, hT, hm, hc2, ht, hst, hcr, hb, h0, h1⟩ := h
  exact ⟨hr, hf2, hT.w2 (by omega), hm.w2 (by omega), ⟨hc2.1, by rw [wIk (by omega)]; exact hc2.2⟩, ht.w2 (by omega), hst.w2 (by omega), hcr.w2 (by omega), hb.w2 (by omega), h0.w2 (by omega), h1.w2 (by omega)⟩
theorem pCpl.wL1 {v : Int64} (h : pCpl M M' R R' S S' n c t σ1 σ2) : pCpl M M' R R' S S' n c t (wL σ1 a k v) σ2 := h
theorem pCpl.wL2 {v : Int64} (h : pCpl M M' R R' S S' n c t σ1 σ2) : pCpl M M' R R' S S' n c t σ1 (wL σ2 a k v) := h
/-- the melody's, the tasks' and the singers' places -/
theorem pRf1.mel {ρ : Nat → Nat → Option Nat} (h : pRf1 M M' R R' S S' ρ) : ρ M 0 = some (M + 1) ∧ ρ M 1 = some (M + 2) := by
  obtain ⟨hM, hR, hS, e01, e02, e03, e04, e05, e322, ⟨o0_0, o0_6, o0_7, o0_8, o0_9, o0_10, o0_12, o0_13, o1_0, o32_0, o32_1, o33_0, o98_0, o94_0, o94_1, o84_0, o84_1, o49_0, o49_1, o50_0, o51_0, o50_1, o50_2, o67_0, o68_0, o67_1, o67_2, o3_0, o3_1, o6_0, o6_1, o9_0, o9_1, o9_2, o9_3, o14_0, o14_1, o14_2, o14_3⟩, hrow, hodd⟩ := h
  rcases hM with ⟨rfl, rfl⟩ | ⟨rfl, rfl⟩
  · exact ⟨o3_0, o3_1⟩
  · exact ⟨o6_0, o6_1⟩
theorem pRf1.mel' {ρ : Nat → Nat → Option Nat} (h : pRf1 M M' R R' S S' ρ) : ρ M' 0 = some (M' + 1) ∧ ρ M' 1 = some (M' + 2) := by
  obtain ⟨hM, hR, hS, e01, e02, e03, e04, e05, e322, ⟨o0_0, o0_6, o0_7, o0_8, o0_9, o0_10, o0_12, o0_13, o1_0, o32_0, o32_1, o33_0, o98_0, o94_0, o94_1, o84_0, o84_1, o49_0, o49_1, o50_0, o51_0, o50_1, o50_2, o67_0, o68_0, o67_1, o67_2, o3_0, o3_1, o6_0, o6_1, o9_0, o9_1, o9_2, o9_3, o14_0, o14_1, o14_2, o14_3⟩, hrow, hodd⟩ := h
  rcases hM with ⟨rfl, rfl⟩ | ⟨rfl, rfl⟩
  · exact ⟨o6_0, o6_1⟩
  · exact ⟨o3_0, o3_1⟩
theorem pRf1.tri {ρ : Nat → Nat → Option Nat} (h : pRf1 M M' R R' S S' ρ) : ρ R 0 = some (R + 1) ∧ ρ R 1 = some (R + 2) ∧ ρ R 2 = some (R + 3) ∧ ρ R 3 = some (R + 4) := by
  obtain ⟨hM, hR, hS, e01, e02, e03, e04, e05, e322, ⟨o0_0, o0_6, o0_7, o0_8, o0_9, o0_10, o0_12, o0_13, o1_0, o32_0, o32_1, o33_0, o98_0, o94_0, o94_1, o84_0, o84_1, o49_0, o49_1, o50_0, o51_0, o50_1, o50_2, o67_0, o68_0, o67_1, o67_2, o3_0, o3_1, o6_0, o6_1, o9_0, o9_1, o9_2, o9_3, o14_0, o14_1, o14_2, o14_3⟩, hrow, hodd⟩ := h
  rcases hR with ⟨rfl, rfl⟩ | ⟨rfl, rfl⟩
  · exact ⟨o9_0, o9_1, o9_2, o9_3⟩
  · exact ⟨o14_0, o14_1, o14_2, o14_3⟩
theorem pRf1.tri' {ρ : Nat → Nat → Option Nat} (h : pRf1 M M' R R' S S' ρ) : ρ R' 0 = some (R' + 1) ∧ ρ R' 1 = some (R' + 2) ∧ ρ R' 2 = some (R' + 3) ∧ ρ R' 3 = some (R' + 4) := by
  obtain ⟨hM, hR, hS, e01, e02, e03, e04, e05, e322, ⟨o0_0, o0_6, o0_7, o0_8, o0_9, o0_10, o0_12, o0_13, o1_0, o32_0, o32_1, o33_0, o98_0, o94_0, o94_1, o84_0, o84_1, o49_0, o49_1, o50_0, o51_0, o50_1, o50_2, o67_0, o68_0, o67_1, o67_2, o3_0, o3_1, o6_0, o6_1, o9_0, o9_1, o9_2, o9_3, o14_0, o14_1, o14_2, o14_3⟩, hrow, hodd⟩ := h
  rcases hR with ⟨rfl, rfl⟩ | ⟨rfl, rfl⟩
  · exact ⟨o14_0, o14_1, o14_2, o14_3⟩
  · exact ⟨o9_0, o9_1, o9_2, o9_3⟩
theorem pRf1.row {ρ : Nat → Nat → Option Nat} (h : pRf1 M M' R R' S S' ρ) : ∀ s, s < 12 → ρ S s = some (S + 1 + s) := by
  obtain ⟨hM, hR, hS, e01, e02, e03, e04, e05, e322, hf1, hrow, hodd⟩ := h
  intro s hs
  rcases hS with ⟨rfl, rfl⟩ | ⟨rfl, rfl⟩
  · exact (hrow s hs).1
  · exact (hrow s hs).2.1
theorem pRf1.row' {ρ : Nat → Nat → Option Nat} (h : pRf1 M M' R R' S S' ρ) : ∀ s, s < 12 → ρ S' s = some (S' + 1 + s) := by
  obtain ⟨hM, hR, hS, e01, e02, e03, e04, e05, e322, hf1, hrow, hodd⟩ := h
  intro s hs
  rcases hS with ⟨rfl, rfl⟩ | ⟨rfl, rfl⟩
  · exact (hrow s hs).2.1
  · exact (hrow s hs).1
end FRAMES
