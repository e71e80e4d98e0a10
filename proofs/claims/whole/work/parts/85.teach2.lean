theorem ev_teach {σ : hM} {s p : Nat} (w4 : σ.2.2 0 4 = some 3) (hs : s < 12) (hp : p < 4) (hok : sOk (fun j => σ.1 3 (8 * s + j))) : ∃ σ' : hM, fX9_teach kT2 0 (nI s) (nI p) σ = some σ' ∧ σ'.2.2 = σ.2.2 ∧ (∀ a, a ≠ 3 → σ'.1 a = σ.1 a) ∧ (∀ j, j < 8 → σ'.1 3 (8 * s + j) = tch p (fun j => σ.1 3 (8 * s + j)) j) ∧ ∀ x, (x < 8 * s ∨ 8 * s + 8 ≤ x) → σ'.1 3 x = σ.1 3 x := by
  have L : ∀ (j : Nat) (y : Int32), y = nI j → j < 8 → ∀ u : hM, ald 11 kT2 u 3 (nI (8 * s) + y) = some (u.1 3 (8 * s + j)) := fun j y h hj u => by rw [ix8 s j h]; exact lA2 3 96 (by omega)
  have G : ∀ (j : Nat) (y : Int32), y = nI j → j < 8 → ∀ (u : hM) (v : Int32), asti kT2 u 3 (nI (8 * s) + y) v = some (wI u 3 (8 * s + j) v) := fun j y h hj u v => by rw [ix8 s j h]; exact sA2 3 96 (by omega)
  obtain ⟨h0, h1, h2, h3, h4, ⟨h5, h56, h6⟩, h7⟩ := id hok
  dsimp only at h0 h1 h2 h3 h4 h5 h56 h6 h7
  obtain ⟨k1, e1, i1⟩ := as_nI h1.1
  obtain ⟨k4, e4, i4⟩ := as_nI (show 0 ≤ (σ.1 3 (8 * s + 4)).toInt by omega)
  obtain ⟨k5, e5, i5⟩ := as_nI h5
  obtain ⟨k6, e6, i6⟩ := as_nI (show 0 ≤ (σ.1 3 (8 * s + 6)).toInt by omega)
  have a1 := (t_ear k1 (by omega)).2
  have a4 := (t_mem k4 (by omega)).2
  have a5 := (t_range k6 (by omega) k5 (by omega)).2
  rw [← e1] at a1
  rw [← e4] at a4
  rw [← e5, ← e6] at a5
  unfold fX9_teach
  have z1 : ¬ nI 1 = 0 := by decide
  have z2 : ¬ nI 2 = 0 := by decide
  have z3 : ¬ nI 3 = 0 := by decide
  have z21 : ¬ nI 2 = 1 := by decide
  have z31 : ¬ nI 3 = 1 := by decide
  have z32 : ¬ nI 3 = 2 := by decide
  match p, hp with
  | 0, _ =>
    simp only [iflt, mul_nI 8 8 rfl, if_pos nI_0, gR2, wrr, w4, ob, L 1 1 rfl (by decide), G 1 1 rfl (by decide), wIe]
    refine ⟨wI (wI σ 3 (8 * s + 1) (σ.1 3 (8 * s + 1) - (σ.1 3 (8 * s + 1) / 4 + 1))) 3 (8 * s + 1) (if (0 : Int32) < σ.1 3 (8 * s + 1) - (σ.1 3 (8 * s + 1) / 4 + 1) then σ.1 3 (8 * s + 1) - (σ.1 3 (8 * s + 1) / 4 + 1) else 0), ?_, rfl, fun a ha => (wIn ha).trans (wIn ha), fun j hj => ?_, fun x hx => by rw [wIk (by omega), wIk (by omega)]⟩
    · rw [← a1]
      by_cases q : 0 ≤ σ.1 3 (8 * s + 1) - (σ.1 3 (8 * s + 1) / 4 + 1)
      · rw [if_pos q, if_pos q]
      · rw [if_neg q, if_neg q]
    · show _ = (if j = 1 then _ else _)
      by_cases e : j = 1
      · subst e; rw [wIe, if_pos rfl]
      · rw [wIk (by omega), wIk (by omega), if_neg e]
  | 1, _ =>
    simp only [iflt, mul_nI 8 8 rfl, if_neg z1, if_pos (show nI 1 = 1 from rfl), gR2, wrr, w4, ob, L 2 2 rfl (by decide), L 3 3 rfl (by decide), G 2 2 rfl (by decide), G 3 3 rfl (by decide), wIk (show ¬ (3 = 3 ∧ 8 * s + 3 = 8 * s + 2) by omega)]
    refine ⟨_, rfl, rfl, fun a ha => (wIn ha).trans (wIn ha), fun j hj => ?_, fun x hx => by rw [wIk (by omega), wIk (by omega)]⟩
    show _ = (if j = 2 then _ else if j = 3 then _ else _)
    by_cases e : j = 3
    · subst e; rw [wIe]; rfl
    · rw [wIk (by omega)]
      by_cases e2 : j = 2
      · subst e2; rw [wIe, if_pos rfl]
      · rw [wIk (by omega), if_neg e2, if_neg e]
  | 2, _ =>
    simp only [iflt, mul_nI 8 8 rfl, if_neg z2, if_neg z21, if_pos (show nI 2 = 2 from rfl), gR2, wrr, w4, ob, L 4 4 rfl (by decide), G 4 4 rfl (by decide)]
    refine ⟨wI σ 3 (8 * s + 4) (if σ.1 3 (8 * s + 4) + 2 < 40 then σ.1 3 (8 * s + 4) + 2 else 40), ?_, rfl, fun a ha => wIn ha, fun j hj => ?_, fun x hx => by rw [wIk (by omega)]⟩
    · rw [← a4]
      by_cases q : σ.1 3 (8 * s + 4) + 2 ≤ 40
      · rw [if_pos q, if_pos q]
      · rw [if_neg q, if_neg q]
    · show _ = (if j = 4 then _ else _)
      by_cases e : j = 4
      · subst e; rw [wIe, if_pos rfl]
      · rw [wIk (by omega), if_neg e]
  | 3, _ =>
    simp only [iflt, mul_nI 8 8 rfl, if_neg z3, if_neg z31, if_neg z32, gR2, wrr, w4, ob, L 6 6 rfl (by decide), L 5 5 rfl (by decide), G 6 6 rfl (by decide), G 5 5 rfl (by decide), wIk (show ¬ (3 = 3 ∧ 8 * s + 5 = 8 * s + 6) by omega), a5.1, a5.2]
    refine ⟨_, rfl, rfl, fun a ha => (wIn ha).trans (wIn ha), fun j hj => ?_, fun x hx => by rw [wIk (by omega), wIk (by omega)]⟩
    show _ = (if j = 6 then _ else if j = 5 then _ else _)
    by_cases e : j = 5
    · subst e; rw [wIe]; rfl
    · rw [wIk (by omega)]
      by_cases e2 : j = 6
      · subst e2; rw [wIe, if_pos rfl]
      · rw [wIk (by omega), if_neg e2, if_neg e]
