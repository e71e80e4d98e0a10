/-! AGES: a pupil in the class, the singer himself (put back at the end) in the reference -/
/-- what lessons on trial leave as it was -/
def aB (σ1 σ2 : hM) (s : Nat) (τ1 τ2 : hM) : Prop := τ1.2.2 = σ1.2.2 ∧ τ2.2.2 = σ2.2.2 ∧ (∀ a, a < 98 → τ1.1 a = σ1.1 a) ∧ (∀ a, a ≠ 3 → a ≠ 15 → a ≠ 16 → τ2.1 a = σ2.1 a) ∧ (∀ x, (x < 8 * s ∨ 8 * s + 8 ≤ x) → τ2.1 3 x = σ2.1 3 x) ∧ ∀ j, j < 8 → τ2.1 16 j = σ2.1 3 (8 * s + j)
def aR (σ1 σ2 : hM) (s : Nat) (τ1 τ2 : hM) : Prop := aB σ1 σ2 s τ1 τ2 ∧ (∀ j, j < 8 → τ1.1 100 j = τ2.1 3 (8 * s + j)) ∧ sOk (fun j => τ2.1 3 (8 * s + j))
theorem hold_L {s : Nat} (hs : s < 12) : ∀ (d k fuel : Nat) (σ : hM), k + d = 8 → d < fuel → σ.2.2 0 29 = some 16 → σ.2.2 0 4 = some 3 → ∃ σ' : hM, fX9_hold_L2 kT2 0 (nI s) (fun u6 => some u6) fuel (nI k) σ = some σ' ∧ σ'.2.2 = σ.2.2 ∧ (∀ a, a ≠ 16 → σ'.1 a = σ.1 a) ∧ (∀ j, j < k → σ'.1 16 j = σ.1 16 j) ∧ ∀ j, k ≤ j → j < 8 → σ'.1 16 j = σ.1 3 (8 * s + j) := by
  intro d
  induction d with
  | zero =>
    intro k fuel σ hk hf r1 r2
    obtain ⟨f, rfl⟩ : ∃ f, fuel = f + 1 := ⟨fuel - 1, by omega⟩
    have e : k = 8 := by omega
    subst e
    rw [fX9_hold_L2, if_pos (by decide)]
    exact ⟨σ, rfl, rfl, fun _ _ => rfl, fun _ _ => rfl, fun j a b => absurd a (by omega)⟩
  | succ d ih =>
    intro k fuel σ hk hf r1 r2
    obtain ⟨f, rfl⟩ : ∃ f, fuel = f + 1 := ⟨fuel - 1, by omega⟩
    rw [fX9_hold_L2, if_neg (show ¬ (8 : Int32) ≤ nI k from nI_ge (b := 8) (by omega) (by decide)), gR2, r1, ob, gR2, r2, ob, mul_nI 8 8 rfl, nI_add, lA2 3 96 (k := 8 * s + k) (by omega), ob, sA2 16 8 (k := k) (by omega), ob]
    simp only [iflt, nI_1]
    obtain ⟨σ', g1, g2, g3, g4, g5⟩ := ih (k + 1) f (wI σ 16 k (σ.1 3 (8 * s + k))) (by omega) (by omega) r1 r2
    refine ⟨σ', g1, g2, fun a ha => (g3 a ha).trans (wIn ha), fun j hj => ?_, fun j a b => ?_⟩
    · rw [g4 j (by omega), wIk (by omega)]
    · by_cases e : j = k
      · subst e; rw [g4 _ (by omega), wIe]
      · rw [g5 j (by omega) b, wIn (by decide)]
theorem ev_hold {σ : hM} {s : Nat} (hs : s < 12) (w29 : σ.2.2 0 29 = some 16) (w4 : σ.2.2 0 4 = some 3) : ∃ σ' : hM, fX9_hold kT2 0 (nI s) σ = some σ' ∧ σ'.2.2 = σ.2.2 ∧ (∀ a, a ≠ 16 → σ'.1 a = σ.1 a) ∧ ∀ j, j < 8 → σ'.1 16 j = σ.1 3 (8 * s + j) := by
  obtain ⟨σ', g1, g2, g3, -, g5⟩ := hold_L hs 8 0 6000 σ (by omega) (by omega) w29 w4
  rw [nI_0] at g1
  exact ⟨σ', g1, g2, g3, fun j hj => g5 j (Nat.zero_le j) hj⟩
theorem putBack_L {s : Nat} (hs : s < 12) : ∀ (d k fuel : Nat) (σ : hM), k + d = 8 → d < fuel → σ.2.2 0 29 = some 16 → σ.2.2 0 4 = some 3 → ∃ σ' : hM, fX9_putBack_L2 kT2 0 (nI s) (fun u6 => some u6) fuel (nI k) σ = some σ' ∧ σ'.2.2 = σ.2.2 ∧ (∀ a, a ≠ 3 → σ'.1 a = σ.1 a) ∧ (∀ x, (x < 8 * s + k ∨ 8 * s + 8 ≤ x) → σ'.1 3 x = σ.1 3 x) ∧ ∀ j, k ≤ j → j < 8 → σ'.1 3 (8 * s + j) = σ.1 16 j := by
  intro d
  induction d with
  | zero =>
    intro k fuel σ hk hf r1 r2
    obtain ⟨f, rfl⟩ : ∃ f, fuel = f + 1 := ⟨fuel - 1, by omega⟩
    have e : k = 8 := by omega
    subst e
    rw [fX9_putBack_L2, if_pos (by decide)]
    exact ⟨σ, rfl, rfl, fun _ _ => rfl, fun _ _ => rfl, fun j a b => absurd a (by omega)⟩
  | succ d ih =>
    intro k fuel σ hk hf r1 r2
    obtain ⟨f, rfl⟩ : ∃ f, fuel = f + 1 := ⟨fuel - 1, by omega⟩
    rw [fX9_putBack_L2, if_neg (show ¬ (8 : Int32) ≤ nI k from nI_ge (b := 8) (by omega) (by decide)), gR2, r2, ob, gR2, r1, ob, mul_nI 8 8 rfl, nI_add, lA2 16 8 (k := k) (by omega), ob, sA2 3 96 (k := 8 * s + k) (by omega), ob]
    simp only [iflt, nI_1]
    obtain ⟨σ', g1, g2, g3, g4, g5⟩ := ih (k + 1) f (wI σ 3 (8 * s + k) (σ.1 16 k)) (by omega) (by omega) r1 r2
    refine ⟨σ', g1, g2, fun a ha => (g3 a ha).trans (wIn ha), fun x hx => ?_, fun j a b => ?_⟩
    · rw [g4 x (by omega), wIk (by omega)]
    · by_cases e : j = k
      · subst e; rw [g4 _ (by omega), wIe]
      · rw [g5 j (by omega) b, wIn (by decide)]
theorem ev_putBack {σ : hM} {s : Nat} (hs : s < 12) (w29 : σ.2.2 0 29 = some 16) (w4 : σ.2.2 0 4 = some 3) : ∃ σ' : hM, fX9_putBack kT2 0 (nI s) σ = some σ' ∧ σ'.2.2 = σ.2.2 ∧ (∀ a, a ≠ 3 → σ'.1 a = σ.1 a) ∧ (∀ x, (x < 8 * s ∨ 8 * s + 8 ≤ x) → σ'.1 3 x = σ.1 3 x) ∧ ∀ j, j < 8 → σ'.1 3 (8 * s + j) = σ.1 16 j := by
  obtain ⟨σ', g1, g2, g3, g4, g5⟩ := putBack_L hs 8 0 6000 σ (by omega) (by omega) w29 w4
  rw [nI_0] at g1
  exact ⟨σ', g1, g2, g3, fun x hx => g4 x (by omega), fun j hj => g5 j (Nat.zero_le j) hj⟩
section AGE
variable {σ1 σ2 τ1 τ2 υ1 υ2 : hM} {s p n M : Nat}
theorem aR.teach (h : aR σ1 σ2 s τ1 τ2) (w4 : σ2.2.2 0 4 = some 3) (hs : s < 12) (hp : p < 4) : ∃ υ1 υ2, fX3_learn kT1 100 (nI p) τ1 = some υ1 ∧ fX9_teach kT2 0 (nI s) (nI p) τ2 = some υ2 ∧ aR σ1 σ2 s υ1 υ2 ∧ ∀ j, j < 8 → υ2.1 3 (8 * s + j) = tch p (fun j => τ2.1 3 (8 * s + j)) j := by
  obtain ⟨⟨h1, h2, h3, h4, h5, h6⟩, h7, h8⟩ := h
  obtain ⟨υ1, a1, a2, a3, a4⟩ := ev_learn (σ := τ1) (w := 100) (p := p) rfl hp
  obtain ⟨υ2, b1, b2, b3, b4, b5⟩ := ev_teach (σ := τ2) (p := p) (by rw [h2]; exact w4) hs hp h8
  refine ⟨υ1, υ2, a1, b1, ⟨⟨a2.trans h1, b2.trans h2, fun a ha => (a3 a (by omega)).trans (h3 a ha), fun a x3 x15 x16 => (b3 a x3).trans (h4 a x3 x15 x16), fun x hx => (b5 x hx).trans (h5 x hx), fun j hj => by rw [b3 16 (by decide)]; exact h6 j hj⟩, fun j hj => ?_, ?_⟩, b4⟩
  · rw [a4 j hj, b4 j hj]
    exact tch_cong h7 j hj
  · have q := tch_ok (p := p) h8
    unfold sOk at q ⊢
    simp only [b4 0 (by decide), b4 1 (by decide), b4 2 (by decide), b4 3 (by decide), b4 4 (by decide), b4 5 (by decide), b4 6 (by decide), b4 7 (by decide)]
    exact q
theorem aR.sing1 (h : aR σ1 σ2 s τ1 τ2) (g1 : υ1.2.2 = τ1.2.2) (g2 : ∀ a, a ≠ 98 → a ≠ 99 → υ1.1 a = τ1.1 a) : aR σ1 σ2 s υ1 τ2 := by
  obtain ⟨⟨h1, h2, h3, h4, h5, h6⟩, h7, h8⟩ := h
  exact ⟨⟨g1.trans h1, h2, fun a ha => (g2 a (by omega) (by omega)).trans (h3 a ha), h4, h5, h6⟩, fun j hj => by rw [g2 100 (by decide) (by decide)]; exact h7 j hj, h8⟩
theorem aR.sing2 (h : aR σ1 σ2 s τ1 τ2) (g1 : υ2.2.2 = τ2.2.2) (g2 : ∀ a, a ≠ 15 → υ2.1 a = τ2.1 a) : aR σ1 σ2 s τ1 υ2 := by
  obtain ⟨⟨h1, h2, h3, h4, h5, h6⟩, h7, h8⟩ := h
  refine ⟨⟨h1, g1.trans h2, h3, fun a x3 x15 x16 => (g2 a x15).trans (h4 a x3 x15 x16), fun x hx => by rw [g2 3 (by decide)]; exact h5 x hx, fun j hj => by rw [g2 16 (by decide)]; exact h6 j hj⟩, fun j hj => by rw [g2 3 (by decide)]; exact h7 j hj, ?_⟩
  rw [g2 3 (by decide)]
  exact h8
theorem teach4 {ex1 ex2 : hM → Option (Int32 × hM)} (o0_13 : σ1.2.2 0 13 = some 100) (w4 : σ2.2.2 0 4 = some 3) (hs : s < 12) : ∀ (d p f1 f2 : Nat) (τ1 τ2 : hM), p + d = 4 → d < f1 → d < f2 → aR σ1 σ2 s τ1 τ2 → ∃ υ1 υ2, fX8_age_L71 kT1 0 ex1 f1 (nI p) τ1 = ex1 υ1 ∧ fX9_age_L88 kT2 0 (nI s) ex2 f2 (nI p) τ2 = ex2 υ2 ∧ aR σ1 σ2 s υ1 υ2 := by
  intro d
  induction d with
  | zero =>
    intro p f1 f2 τ1 τ2 hp hf1 hf2 h
    obtain ⟨f, rfl⟩ : ∃ f, f1 = f + 1 := ⟨f1 - 1, by omega⟩
    obtain ⟨g, rfl⟩ : ∃ g, f2 = g + 1 := ⟨f2 - 1, by omega⟩
    have e : p = 4 := by omega
    subst e
    rw [fX8_age_L71, fX9_age_L88, if_pos (by decide), if_pos (by decide)]
    exact ⟨τ1, τ2, rfl, rfl, h⟩
  | succ d ih =>
    intro p f1 f2 τ1 τ2 hp hf1 hf2 h
    obtain ⟨f, rfl⟩ : ∃ f, f1 = f + 1 := ⟨f1 - 1, by omega⟩
    obtain ⟨g, rfl⟩ : ∃ g, f2 = g + 1 := ⟨f2 - 1, by omega⟩
    obtain ⟨α1, α2, a1, a2, a3, -⟩ := h.teach (p := p) w4 hs (by omega)
    have e13 : τ1.2.2 0 13 = some 100 := by rw [h.1.1]; exact o0_13
    have n4 : ¬ (4 : Int32) ≤ nI p := nI_ge (b := 4) (by omega) (by decide)
    rw [fX8_age_L71, fX9_age_L88, if_neg n4, if_neg n4, gR1 0 8, e13, ob, vC1 100 3, a1, ob, vC2, a2, ob]
    simp only [iflt, nI_1]
    exact ih (p + 1) f g α1 α2 (by omega) (by omega) (by omega) a3
theorem or_and3 {a b c d : Int32} (ha : a = 0 ∨ a = 1) (hb : b = 0 ∨ b = 2) (hc : c = 0 ∨ c = 4) (hd : d = 0 ∨ d = 8) : ((((a ||| b) ||| c) ||| d) &&& 3 = 0) ↔ (a = 0 ∧ b = 0) := by
  rcases ha with rfl | rfl <;> rcases hb with rfl | rfl <;> rcases hc with rfl | rfl <;> rcases hd with rfl | rfl <;> decide
theorem right_iff {h d : Nat → Int32} (h0 : n ≠ 0) (hn : n ≤ 40) : ((((bw h d n 0 ||| bw h d n 1) ||| bw h d n 2) ||| bw h d n 3) &&& 3 = 0) ↔ pts h d n 0 + pts h d n 1 = 2 * nI n - 1 := by
  have l1 := cS_le h d (n - 1)
  have l2 := cH_le h d n
  have e1 : nI n - 1 = nI (n - 1) := by
    have := nI_pred (n - 1)
    rwa [show n - 1 + 1 = n by omega] at this
  have e2 : 2 * nI n - 1 = nI (2 * n - 1) := by
    rw [mul_nI 2 2 rfl]
    have := nI_pred (2 * n - 1)
    rwa [show 2 * n - 1 + 1 = 2 * n by omega] at this
  have b0 : bw h d n 0 = if cS h d (n - 1) = n - 1 then 0 else 1 := by
    rw [bw0 h0 hn, e1]
    by_cases q : cS h d (n - 1) = n - 1
    · rw [if_pos q, q, if_pos (nI_le (Nat.le_refl _) (by omega))]
    · rw [if_neg q, if_neg (nI_ge (by omega) (by omega))]
  have b1 : bw h d n 1 = if cH h d n = n then 0 else 2 := by
    rw [bw1 hn]
    by_cases q : cH h d n = n
    · rw [if_pos q, q, if_pos (nI_le (Nat.le_refl _) (by omega))]
    · rw [if_neg q, if_neg (nI_ge (by omega) (by omega))]
  rw [or_and3 (by rw [b0]; split <;> simp) (by rw [b1]; split <;> simp) (by rw [bw2]; split <;> simp) (by rw [bw3]; split <;> simp), b0, b1, show pts h d n 0 = nI (cS h d (n - 1)) from rfl, show pts h d n 1 = nI (cH h d n) from rfl, e2, nI_add, nI_eq (by omega) (by omega)]
  by_cases q : cS h d (n - 1) = n - 1
  · by_cases q2 : cH h d n = n
    · rw [if_pos q, if_pos q2]
      exact ⟨fun _ => by omega, fun _ => ⟨rfl, rfl⟩⟩
    · rw [if_neg q2]
      exact ⟨fun e => absurd e.2 (by decide), fun e => absurd e (by omega)⟩
  · rw [if_neg q]
    exact ⟨fun e => absurd e.1 (by decide), fun e => absurd e (by omega)⟩
/-- what the loop of years needs of the two memories -/
def aG (σ1 σ2 : hM) (s n M : Nat) : Prop := (σ1.2.2 0 6 = some 32 ∧ σ1.2.2 0 12 = some 98 ∧ σ1.2.2 0 13 = some 100 ∧ σ1.2.2 98 0 = some 99) ∧ (σ2.2.2 0 1 = some 1 ∧ σ2.2.2 0 2 = some 2 ∧ σ2.2.2 0 4 = some 3 ∧ σ2.2.2 0 28 = some 15 ∧ σ2.2.2 0 29 = some 16) ∧ (kd kT1 M (1 + 1) ∧ σ1.2.2 0 1 = some M ∧ σ1.2.2 M 0 = some (M + 1) ∧ σ1.2.2 M 1 = some (M + 2) ∧ kd kT1 (M + 1) 11 ∧ kl kT1 (M + 1) 40 ∧ kd kT1 (M + 2) 11 ∧ kl kT1 (M + 2) 40 ∧ M + 2 < 32) ∧ s < 12 ∧ n ≤ 40 ∧ σ1.1 M 2 = nI n ∧ σ2.1 0 0 = nI n ∧ (∀ k, k < n → σ1.1 (M + 1) k = σ2.1 1 k ∧ σ1.1 (M + 2) k = σ2.1 2 k ∧ (0 ≤ (σ2.1 1 k).toInt ∧ (σ2.1 1 k).toInt ≤ 3600) ∧ (σ2.1 2 k = 0 ∨ σ2.1 2 k = 1)) ∧ σ1.1 32 6 = σ2.1 0 11 ∧ 0 ≤ (σ2.1 0 11).toInt
theorem aR.pl (hG : aG σ1 σ2 s n M) (h : aR σ1 σ2 s τ1 τ2) : ∃ (υ1 υ2 : hM), fX8_singInto kT1 0 98 100 3 τ1 = some υ1 ∧ fX8_plainPoints kT1 0 100 τ1 = some (pSc (fun j => τ2.1 3 (8 * s + j)) (σ2.1 1) (σ2.1 2) n, υ1) ∧ fX9_plainScore kT2 0 (nI s) τ2 = some (pSc (fun j => τ2.1 3 (8 * s + j)) (σ2.1 1) (σ2.1 2) n, υ2) ∧ υ1.2.2 = τ1.2.2 ∧ υ2.2.2 = τ2.2.2 ∧ (∀ a, a ≠ 98 → a ≠ 99 → υ1.1 a = τ1.1 a) ∧ (∀ a, a ≠ 15 → υ2.1 a = τ2.1 a) ∧ υ1.1 98 1 = nI n ∧ ∀ j, j < n → υ1.1 99 j = pHt (fun j => τ2.1 3 (8 * s + j)) (σ2.1 1) (σ2.1 2) j := by
  obtain ⟨⟨o0_6, o0_12, o0_13, o98_0⟩, ⟨w1, w2, w4, w28, w29⟩, ⟨kM, e01, em0, em1, kM1, kM1n, kM2, kM2n, hM3⟩, hs, hn, en1, en2, hnk, hse, hse0⟩ := hG
  obtain ⟨⟨h1, h2, h3, h4, h5, h6⟩, h7, h8⟩ := h
  have t0 := h4 0 (by decide) (by decide) (by decide)
  have t1 := h4 1 (by decide) (by decide) (by decide)
  have t2 := h4 2 (by decide) (by decide) (by decide)
  have hS' : vS τ1 τ2 98 99 15 100 s n M 3 := ⟨⟨rfl, by rw [h1]; exact o98_0, rfl, rfl⟩, ⟨rfl, by omega, by omega, by omega⟩, ⟨rfl, rfl, by omega⟩, ⟨kM, by rw [h1]; exact e01, by rw [h1]; exact em0, by rw [h1]; exact em1, kM1, kM1n, kM2, kM2n, by omega, by omega⟩, ⟨by rw [h1]; exact o0_6, by rw [h2]; exact w1, by rw [h2]; exact w2, by rw [h2]; exact w4⟩, hs, by omega, hn, by rw [h3 M (by omega)]; exact en1, by rw [t0]; exact en2, fun k hk => by rw [h3 _ (by omega), h3 _ (by omega), t1, t2]; exact hnk k hk, h7, h8⟩
  obtain ⟨υ1, υ2, q1, q2, q3, q4⟩ := plain_fun hS' (by omega) (by rw [h1]; exact o0_12) (by rw [h2]; exact w28) (by rw [h3 32 (by decide), t0]; exact hse) (by rw [t0]; exact hse0)
  rw [t1, t2] at q2 q3
  rw [t1, t2] at q4
  exact ⟨υ1, υ2, q1, q2, q3, q4⟩
end AGE
