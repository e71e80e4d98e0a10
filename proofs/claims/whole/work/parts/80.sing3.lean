theorem ev_fill_L {H : Nat} {c1 : Int32} (kH : kd kT1 H 11) (lH : kl kT1 H 40) : ∀ (d k fuel : Nat) (σ : hM), k + d = 40 → d < fuel → ∃ σ' : hM, fJ7_fill_53178_L5 kT1 H c1 (Int32.ofNat 40) (fun u4 => some u4) fuel (nI k) σ = some σ' ∧ σ'.2.2 = σ.2.2 ∧ (∀ a, a ≠ H → σ'.1 a = σ.1 a) ∧ (∀ j, k ≤ j → j < 40 → σ'.1 H j = c1) ∧ ∀ j, j < k → σ'.1 H j = σ.1 H j := by
  intro d
  induction d with
  | zero =>
    intro k fuel σ hk hf
    obtain ⟨f, rfl⟩ : ∃ f, fuel = f + 1 := ⟨fuel - 1, by omega⟩
    have e : k = 40 := by omega
    subst e
    rw [fJ7_fill_53178_L5, if_pos (show Int32.ofNat 40 ≤ nI 40 by decide)]
    exact ⟨σ, rfl, rfl, fun x _ => rfl, fun s h1 h2 => absurd h1 (by omega), fun x _ => rfl⟩
  | succ d ih =>
    intro k fuel σ hk hf
    obtain ⟨f, rfl⟩ : ∃ f, fuel = f + 1 := ⟨fuel - 1, by omega⟩
    rw [fJ7_fill_53178_L5, if_neg (show ¬ Int32.ofNat 40 ≤ nI k from nI_ge (b := 40) (by omega) (by decide)), sA 40 kH lH (by omega) (by decide), ob]
    simp only [iflt, nI_1]
    obtain ⟨σ', h1, h2, h3, h4, h5⟩ := ih (k + 1) f (wI σ H k c1) (by omega) (by omega)
    refine ⟨σ', h1, h2, fun a ha => (h3 a ha).trans (wIn ha), fun j hj hj2 => ?_, fun x hx => ?_⟩
    · by_cases e : j = k
      · subst e
        rw [h5 _ (by omega), wIe]
      · exact h4 j (by omega) hj2
    · rw [h5 x (by omega), wIk (by omega)]
theorem ev_fill {H : Nat} {c1 : Int32} {σ : hM} (kH : kd kT1 H 11) (lH : kl kT1 H 40) : ∃ σ' : hM, fJ7_fill_53178 kT1 H c1 σ = some σ' ∧ σ'.2.2 = σ.2.2 ∧ (∀ a, a ≠ H → σ'.1 a = σ.1 a) ∧ ∀ j, j < 40 → σ'.1 H j = c1 := by
  obtain ⟨σ', h1, h2, h3, h4, -⟩ := ev_fill_L (c1 := c1) kH lH 40 0 6000 σ (by omega) (by omega)
  rw [nI_0] at h1
  refine ⟨σ', ?_, h2, h3, fun j hj => h4 j (Nat.zero_le j) hj⟩
  unfold fJ7_fill_53178 aln
  rw [show kT1.1 H = 11 from kH, if_pos (by decide), ob, show kT1.2 H = 40 from lH]
  exact h1
/-- the reference's row for one who growls or is hushed -/
theorem ref_flat {r s n : Nat} {σ2 : hM} {p3 p4 c5 x : Int32} (kr : kd kT2 r 11) (lr : kl kT2 r 40) (hr3 : 3 < r) (hn40 : n ≤ 40) (en : σ2.1 0 0 = nI n) (w2 : σ2.2.2 0 2 = some 2) (w4 : σ2.2.2 0 4 = some 3) (hs : s < 12) (hx : (c5 = 7 ∧ x = -1) ∨ (¬ c5 = 7 ∧ c5 = 4 ∧ x = 100 * σ2.1 3 (8 * s + 5))) : ∀ (d k fuel : Nat) (aim since : Int32) (τ : hM), k + d = n → d < fuel → τ.2.2 = σ2.2.2 → (∀ a, a ≠ r → τ.1 a = σ2.1 a) → ∃ τ' : hM, fX9_singInto_L20 kT2 0 r (nI s) p3 p4 c5 (fun u36 => some u36) fuel aim since (nI k) τ = some τ' ∧ τ'.2.2 = σ2.2.2 ∧ (∀ a, a ≠ r → τ'.1 a = σ2.1 a) ∧ (∀ j, k ≤ j → j < n → τ'.1 r j = x) ∧ ∀ j, j < k → τ'.1 r j = τ.1 r j := by
  intro d
  induction d with
  | zero =>
    intro k fuel aim since τ hk hf h1 h2
    obtain ⟨f, rfl⟩ : ∃ f, fuel = f + 1 := ⟨fuel - 1, by omega⟩
    have e : k = n := by omega
    subst e
    rw [fX9_singInto_L20, gI2, ob, h2 0 (by omega), en, if_pos (nI_le (Nat.le_refl k) (by omega))]
    exact ⟨τ, rfl, h1, h2, fun j a b => absurd a (by omega), fun j _ => rfl⟩
  | succ d ih =>
    intro k fuel aim since τ hk hf h1 h2
    obtain ⟨f, rfl⟩ : ∃ f, fuel = f + 1 := ⟨fuel - 1, by omega⟩
    have l5 : ald 11 kT2 τ 3 (nI (8 * s) + 5) = some (σ2.1 3 (8 * s + 5)) := by
      rw [show nI (8 * s) + 5 = nI (8 * s + 5) from ix8 s 5 rfl, lA2 3 96 (k := 8 * s + 5) (by omega), h2 3 (by omega)]
    have st : ∀ v : Int32, asti kT2 τ r (nI k) v = some (wI τ r k v) := fun v => sA 40 kr lr (by omega) (by decide)
    rw [fX9_singInto_L20, gI2, ob, h2 0 (by omega), en, if_neg (nI_ge (show k < n by omega) (by omega)), gR2, h1, w2, ob, lZ2 2 40 (k := k) (by omega), ob]
    simp only [iflt, nI_1]
    have nx : ∀ aim since, ∃ τ' : hM, fX9_singInto_L20 kT2 0 r (nI s) p3 p4 c5 (fun u36 => some u36) f aim since (nI (k + 1)) (wI τ r k x) = some τ' ∧ τ'.2.2 = σ2.2.2 ∧ (∀ a, a ≠ r → τ'.1 a = σ2.1 a) ∧ (∀ j, k ≤ j → j < n → τ'.1 r j = x) ∧ ∀ j, j < k → τ'.1 r j = τ.1 r j := by
      intro aim since
      obtain ⟨τ', q1, q2, q3, q4, q5⟩ := ih (k + 1) f aim since (wI τ r k x) (by omega) (by omega) h1 (fun a ha => (wIn ha).trans (h2 a ha))
      refine ⟨τ', q1, q2, q3, fun j hj hjn => ?_, fun j hj => ?_⟩
      · by_cases e : j = k
        · subst e
          rw [q5 _ (by omega), wIe]
        · exact q4 j (by omega) hjn
      · rw [q5 j (by omega), wIk (by omega)]
    rcases hx with ⟨a, b⟩ | ⟨a, b, e⟩
    · rw [if_pos a, st, ob, ← b]
      exact nx _ _
    · rw [if_neg a, if_pos b, gR2, h1, w4, ob, mul_nI 8 8 rfl, l5, ob, st, ob, ← e]
      exact nx _ _
