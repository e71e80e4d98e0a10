/-- what singing into A (heights H) and into the reference's row r leaves behind -/
def vOut (σ1 σ2 : hM) (A H r s n : Nat) (υ1 υ2 : hM) : Prop := υ1.2.2 = σ1.2.2 ∧ υ2.2.2 = σ2.2.2 ∧ (∀ a, a ≠ H → a ≠ 32 → a ≠ A → υ1.1 a = σ1.1 a) ∧ (∀ j, j ≠ 6 → υ1.1 32 j = σ1.1 32 j) ∧ (∀ j, j ≠ 1 → υ1.1 A j = σ1.1 A j) ∧ υ1.1 A 1 = nI n ∧ (∀ a, a ≠ r → a ≠ 0 → υ2.1 a = σ2.1 a) ∧ (∀ j, j ≠ 11 → υ2.1 0 j = σ2.1 0 j) ∧ υ1.1 32 6 = υ2.1 0 11 ∧ 0 ≤ (υ2.1 0 11).toInt ∧ ∀ j, j < n → υ1.1 H j = υ2.1 r j ∧ (σ2.1 3 (8 * s) = 7 → υ2.1 r j = -1) ∧ (σ2.1 3 (8 * s) ≠ 7 → 0 ≤ (υ2.1 r j).toInt ∧ (υ2.1 r j).toInt ≤ 3600)
theorem sing_all {σ1 σ2 : hM} {A H r w s n M md : Nat} (hS : vS σ1 σ2 A H r w s n M md) (hA : A ≠ H ∧ A ≠ 32 ∧ A ≠ w ∧ (A < M ∨ M + 2 < A)) (hse : σ1.1 32 6 = σ2.1 0 11) (hse0 : 0 ≤ (σ2.1 0 11).toInt) : ∃ υ1 υ2, fX8_singInto kT1 0 A w (nI md) σ1 = some υ1 ∧ fX9_singInto kT2 0 r (nI s) (if md = 3 then 2 else nI md) (if md = 3 then 1 else 0) σ2 = some υ2 ∧ vOut σ1 σ2 A H r s n υ1 υ2 := by
  obtain ⟨⟨kA, rA, kH, lH⟩, ⟨kw, hwH, hw32, hH32⟩, ⟨kr, lr, hr3⟩, ⟨kM, e01, em0, em1, kM1, lM1, kM2, lM2, hM32, hMH⟩, ⟨o0_6, w1, w2, w4⟩, hs, hmd, hn40, en1, en2, hnk, hy, hok⟩ := id hS
  obtain ⟨hAH, hA32, hAw, hAM⟩ := hA
  have hwA : w ≠ A := fun q => hAw q.symm
  have hS' : vS (wI σ1 A 1 (nI n)) σ2 A H r w s n M md := ⟨⟨kA, rA, kH, lH⟩, ⟨kw, hwH, hw32, hH32⟩, ⟨kr, lr, hr3⟩, ⟨kM, e01, em0, em1, kM1, lM1, kM2, lM2, hM32, hMH⟩, ⟨o0_6, w1, w2, w4⟩, hs, hmd, hn40, by rw [wIn (by omega)]; exact en1, en2, fun k hk => by rw [wIn (by omega), wIn (by omega)]; exact hnk k hk, fun j hj => by rw [wIn hwA]; exact hy j hj, hok⟩
  have y0 : σ1.1 w 0 = σ2.1 3 (8 * s) := hy 0 (by decide)
  have y5 : σ1.1 w 5 = σ2.1 3 (8 * s + 5) := hy 5 (by decide)
  have rf : fX9_singInto kT2 0 r (nI s) (if md = 3 then 2 else nI md) (if md = 3 then 1 else 0) σ2 = fX9_singInto_L20 kT2 0 r (nI s) (if md = 3 then 2 else nI md) (if md = 3 then 1 else 0) (σ2.1 3 (8 * s)) (fun u36 => some u36) 6000 0 0 0 σ2 := by
    unfold fX9_singInto
    rw [gR2, w4, ob, mul_nI 8 8 rfl, lA2 3 96 (k := 8 * s) (by omega), ob]
  have flat : ∀ x : Int32, ((σ2.1 3 (8 * s) = 7 ∧ x = -1) ∨ (¬ σ2.1 3 (8 * s) = 7 ∧ σ2.1 3 (8 * s) = 4 ∧ x = 100 * σ2.1 3 (8 * s + 5))) → ∃ υ1 υ2, fJ7_fill_53178 kT1 H x (wI σ1 A 1 (nI n)) = some υ1 ∧ fX9_singInto kT2 0 r (nI s) (if md = 3 then 2 else nI md) (if md = 3 then 1 else 0) σ2 = some υ2 ∧ vOut σ1 σ2 A H r s n υ1 υ2 := by
    intro x hx
    obtain ⟨υ1, a1, a2, a3, a4⟩ := ev_fill (c1 := x) (σ := wI σ1 A 1 (nI n)) kH lH
    obtain ⟨υ2, b1, b2, b3, b4, -⟩ := ref_flat (p3 := if md = 3 then 2 else nI md) (p4 := if md = 3 then 1 else 0) (c5 := σ2.1 3 (8 * s)) (x := x) kr lr hr3 hn40 en2 w2 w4 hs hx n 0 6000 0 0 σ2 (by omega) (by omega) rfl (fun a _ => rfl)
    rw [nI_0] at b1
    refine ⟨υ1, υ2, a1, rf.trans b1, a2, b2, fun a h1 h2 h3 => (a3 a h1).trans (wIn h3), fun j hj => by rw [a3 32 (fun q => hH32 q.symm), wIn (fun q => hA32 q.symm)], fun j hj => by rw [a3 A hAH, wIk (fun q => hj q.2)], by rw [a3 A hAH, wIe], fun a h1 h2 => b3 a h1, fun j hj => by rw [b3 0 (by omega)], by rw [a3 32 (fun q => hH32 q.symm), wIn (fun q => hA32 q.symm), b3 0 (by omega)]; exact hse, by rw [b3 0 (by omega)]; exact hse0, fun j hj => ?_⟩
    rw [a4 j (by omega), b4 j (Nat.zero_le j) hj]
    refine ⟨rfl, fun h7 => ?_, fun h7 => ?_⟩
    · rcases hx with ⟨-, q⟩ | ⟨q, -⟩
      · exact q
      · exact absurd h7 q
    · rcases hx with ⟨q, -⟩ | ⟨-, -, q⟩
      · exact absurd q h7
      · obtain ⟨-, -, -, -, -, ⟨z1, z2, z3⟩, -⟩ := hok
        dsimp only at z1 z2 z3
        rw [q, toInt_100 (by omega)]
        omega
  unfold fX8_singInto
  rw [gR1 0 8, e01, ob, gI kM, ob, en1, pI kA, ob, gI kw, ob, wIn hwA, y0]
  simp only [iflt]
  by_cases h7 : σ2.1 3 (8 * s) = 7
  · obtain ⟨υ1, υ2, q1, q2, q3⟩ := flat (-1) (Or.inl ⟨h7, rfl⟩)
    rw [if_pos h7, gR kA, wrr, rA, ob, gI kw, ob, wIn hwA, y0, if_pos h7, q1, ob]
    exact ⟨υ1, υ2, rfl, q2, q3⟩
  · by_cases h4 : σ2.1 3 (8 * s) = 4
    · obtain ⟨υ1, υ2, q1, q2, q3⟩ := flat (100 * σ2.1 3 (8 * s + 5)) (Or.inr ⟨h7, h4, rfl⟩)
      rw [if_neg h7, ob, if_pos h4, gR kA, wrr, rA, ob, gI kw, ob, wIn hwA, y0, if_neg h7, gI kw, ob, wIn hwA, y5, q1, ob]
      exact ⟨υ1, υ2, rfl, q2, q3⟩
    · rw [if_neg h7, ob, if_neg h4]
      have v0 : vR (wI σ1 A 1 (nI n)) σ2 H r (wI σ1 A 1 (nI n)) σ2 := ⟨rfl, rfl, fun a _ _ => rfl, fun j _ => rfl, fun a _ _ => rfl, fun j _ => rfl, by rw [wIn (fun q => hA32 q.symm)]; exact hse, hse0⟩
      obtain ⟨υ1, υ2, q1, q2, ⟨g1, g2, g3, g4, g5, g6, g7, g8⟩, q4⟩ := sing_L hS' h7 h4 n 0 6000 0 0 _ _ (by omega) (by omega) v0 (fun j hj => absurd hj (by omega))
      rw [nI_0] at q1 q2
      refine ⟨υ1, υ2, q1, rf.trans q2, g1, g2, fun a h1 h2 h3 => (g3 a h1 h2).trans (wIn h3), fun j hj => by rw [g4 j hj, wIn (fun q => hA32 q.symm)], fun j hj => by rw [g3 A hAH hA32, wIk (fun q => hj q.2)], by rw [g3 A hAH hA32, wIe], g5, g6, g7, g8, fun j hj => ⟨(q4 j hj).1, fun q => absurd q h7, fun _ => (q4 j hj).2⟩⟩
