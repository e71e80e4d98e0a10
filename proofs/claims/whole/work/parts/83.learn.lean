/-! LESSONS: a week of a part, on a row of 8 numbers -/
def tch (p : Nat) (x : Nat → Int32) (j : Nat) : Int32 :=
  if p = 0 then (if j = 1 then (if (0 : Int32) < x 1 - (x 1 / 4 + 1) then x 1 - (x 1 / 4 + 1) else 0) else x j)
  else if p = 1 then (if j = 2 then x 2 - x 2 / 3 else if j = 3 then x 3 - x 3 / 3 else x j)
  else if p = 2 then (if j = 4 then (if x 4 + 2 < 40 then x 4 + 2 else 40) else x j)
  else (if j = 6 then (if x 6 + 1 < 36 then x 6 + 1 else 36) else if j = 5 then (if (0 : Int32) < x 5 - 1 then x 5 - 1 else 0) else x j)
theorem ev_learn {σ : hM} {w p : Nat} (kw : kd kT1 w (3 + 1)) (hp : p < 4) : ∃ σ' : hM, fX3_learn kT1 w (nI p) σ = some σ' ∧ σ'.2.2 = σ.2.2 ∧ (∀ a, a ≠ w → σ'.1 a = σ.1 a) ∧ ∀ j, j < 8 → σ'.1 w j = tch p (σ.1 w) j := by
  unfold fX3_learn
  match p, hp with
  | 0, _ =>
    rw [if_pos nI_0, gI kw, ob, ob, pI kw, ob]
    refine ⟨_, rfl, rfl, fun a ha => wIn ha, fun j hj => ?_⟩
    rw [wIs]
    rfl
  | 1, _ =>
    rw [if_neg (by decide), if_pos (by decide), gI kw, ob, ob, pI kw, ob, gI kw, ob, ob, pI kw, ob]
    refine ⟨_, rfl, rfl, fun a ha => (wIn ha).trans (wIn ha), fun j hj => ?_⟩
    rw [wIs, wIs, wIs]
    show _ = (if j = 2 then _ else if j = 3 then _ else _)
    by_cases e : j = 3
    · subst e; rfl
    · rw [if_neg e]
      by_cases e2 : j = 2
      · rw [if_pos e2, if_pos e2]
      · rw [if_neg e2, if_neg e2, if_neg e]
  | 2, _ =>
    rw [if_neg (by decide), if_neg (by decide), if_pos (by decide), gI kw, ob, pI kw, ob]
    refine ⟨_, rfl, rfl, fun a ha => wIn ha, fun j hj => ?_⟩
    rw [wIs]
    rfl
  | 3, _ =>
    rw [if_neg (by decide), if_neg (by decide), if_neg (by decide), gI kw, ob, pI kw, ob, gI kw, ob, pI kw, ob]
    refine ⟨_, rfl, rfl, fun a ha => (wIn ha).trans (wIn ha), fun j hj => ?_⟩
    rw [wIs, wIs, wIs]
    show _ = (if j = 6 then _ else if j = 5 then _ else _)
    by_cases e : j = 5
    · subst e; rfl
    · rw [if_neg e]
      by_cases e2 : j = 6
      · rw [if_pos e2, if_pos e2]
      · rw [if_neg e2, if_neg e2, if_neg e]
theorem tch_cong {p : Nat} {x x' : Nat → Int32} (h : ∀ j, j < 8 → x j = x' j) : ∀ j, j < 8 → tch p x j = tch p x' j := by
  intro j hj
  unfold tch
  rw [h j hj, h 1 (by decide), h 2 (by decide), h 3 (by decide), h 4 (by decide), h 5 (by decide), h 6 (by decide)]
