/-! IMAGES -/
theorem ev_copySinger {σ : hM} {a b : Nat} (ka : kd kT1 a (3 + 1)) (kb : kd kT1 b (3 + 1)) (hab : a ≠ b) : ∃ σ' : hM, fX3_copyFrom kT1 a b σ = some σ' ∧ σ'.2.2 = σ.2.2 ∧ (∀ x, x ≠ a → σ'.1 x = σ.1 x) ∧ ∀ j, j < 8 → σ'.1 a j = σ.1 b j := by
  have hba : b ≠ a := fun q => hab q.symm
  unfold fX3_copyFrom
  simp (disch := first | with_reducible assumption | (unfold kd; decide) | (unfold kl; decide) | decide | (apply t_lt; omega)) only [gI, pI, ob, wIn hba]
  refine ⟨_, rfl, rfl, fun x hx => ?_, fun j hj => ?_⟩
  · simp only [wIn hx]
  · match j, hj with
    | 0, _ => simp [wIs]
    | 1, _ => simp [wIs]
    | 2, _ => simp [wIs]
    | 3, _ => simp [wIs]
    | 4, _ => simp [wIs]
    | 5, _ => simp [wIs]
    | 6, _ => simp [wIs]
    | 7, _ => simp [wIs]
/-- a State object of the class: its places -/
def stA (ρ : Nat → Nat → Option Nat) (A S : Nat) : Prop := kd kT1 A (5 + 1) ∧ kd kT1 (A + 1) (4 + 1) ∧ (kd kT1 (A + 2) 11 ∧ kl kT1 (A + 2) 40) ∧ (kd kT1 (A + 3) 11 ∧ kl kT1 (A + 3) 16) ∧ (kd kT1 S 15 ∧ kl kT1 S 12) ∧ (∀ s, s < 12 → kd kT1 (S + 1 + s) (3 + 1)) ∧ ρ A 0 = some (A + 1) ∧ ρ (A + 1) 0 = some (A + 2) ∧ ρ A 1 = some (A + 3) ∧ ρ A 2 = some S ∧ ∀ s, s < 12 → ρ S s = some (S + 1 + s)
theorem ev_copyRow_L {A B SA SB : Nat} {ex : hM → Option hM} : ∀ (d k fuel : Nat) (σ : hM), k + d = 12 → d < fuel → stA σ.2.2 A SA → stA σ.2.2 B SB → (SA + 12 < SB ∨ SB + 12 < SA) → ∃ σ' : hM, fX5_copyFrom_L28 kT1 A B ex fuel (nI k) σ = ex σ' ∧ σ'.2.2 = σ.2.2 ∧ (∀ x, (x ≤ SA + k ∨ SA + 12 < x) → σ'.1 x = σ.1 x) ∧ ∀ s, k ≤ s → s < 12 → ∀ j, j < 8 → σ'.1 (SA + 1 + s) j = σ.1 (SB + 1 + s) j := by
  intro d
  induction d with
  | zero =>
    intro k fuel σ hk hf hA hB hd
    obtain ⟨f, rfl⟩ : ∃ f, fuel = f + 1 := ⟨fuel - 1, by omega⟩
    have e : k = 12 := by omega
    subst e
    rw [fX5_copyFrom_L28, if_pos (by decide)]
    exact ⟨σ, rfl, rfl, fun x _ => rfl, fun s h1 h2 => absurd h1 (by omega)⟩
  | succ d ih =>
    intro k fuel σ hk hf hA hB hd
    obtain ⟨f, rfl⟩ : ∃ f, fuel = f + 1 := ⟨fuel - 1, by omega⟩
    obtain ⟨kA, -, -, -, ⟨kS, lS⟩, kSs, -, -, -, eS, eSs⟩ := id hA
    obtain ⟨kB, -, -, -, ⟨kT, lT⟩, kTs, -, -, -, eT, eTs⟩ := id hB
    rw [fX5_copyFrom_L28, if_neg (show ¬ (12 : Int32) ≤ nI k from nI_ge (b := 12) (by omega) (by decide)), gR kA, eS, ob, lR 12 kS lS (by omega) (by decide), eSs k (by omega), ob, gR kB, eT, ob, lR 12 kT lT (by omega) (by decide), eTs k (by omega), ob, vC (kSs k (by omega))]
    obtain ⟨σ1, q1, q2, q3, q4⟩ := ev_copySinger (σ := σ) (kSs k (by omega)) (kTs k (by omega)) (by omega)
    rw [q1, ob]
    simp only [iflt, nI_1]
    obtain ⟨σ', h1, h2, h3, h4⟩ := ih (k + 1) f σ1 (by omega) (by omega) (by rw [q2]; exact hA) (by rw [q2]; exact hB) hd
    refine ⟨σ', h1, h2.trans q2, fun x hx => (h3 x (by omega)).trans (q3 x (by omega)), fun s hs hs12 j hj => ?_⟩
    by_cases e : s = k
    · subst e
      rw [h3 _ (by omega), q4 j hj]
    · rw [h4 s (by omega) hs12 j hj, q3 _ (by omega)]
theorem acpN {T : hT} {σ : hM} {a0 a1 L : Nat} (k0 : kd T a0 11) (k1 : kd T a1 11) (l0 : kl T a0 L) (l1 : kl T a1 L) (hL : L < 1000) : ∃ σ' : hM, acp T σ a0 (0 : Int32) a1 (0 : Int32) (nI L) = some σ' ∧ σ'.2.2 = σ.2.2 ∧ (∀ x, x ≠ a1 → σ'.1 x = σ.1 x) ∧ ∀ j, j < L → σ'.1 a1 j = σ.1 a0 j := by
  unfold acp
  have z : (0 : Int32).toNatClampNeg = 0 := rfl
  rw [if_pos ⟨⟨k0, k1⟩, ⟨by decide, by decide, nI_pos (by omega)⟩, by rw [nI_clamp (by omega), z, show T.2 a0 = L from l0]; omega, by rw [nI_clamp (by omega), z, show T.2 a1 = L from l1]; omega⟩]
  refine ⟨_, rfl, rfl, fun x hx => ?_, fun j hj => ?_⟩
  · funext j
    exact if_neg hx
  · show (if a1 = a1 then _ else _) = _
    rw [if_pos rfl, nI_clamp (by omega), z, pk_cpy_in (by omega) (by omega), Nat.zero_add, Nat.sub_zero]
set_option maxRecDepth 20000 in
theorem ev_copyState {σ : hM} {A B SA SB : Nat} (hA : stA σ.2.2 A SA) (hB : stA σ.2.2 B SB) (hd : SA + 12 < SB ∨ SB + 12 < SA) (hab : A + 3 < B ∨ B + 3 < A) (hs : (A + 3 < SA ∨ SA + 12 < A) ∧ (B + 3 < SA ∨ SA + 12 < B) ∧ (A + 3 < SB ∨ SB + 12 < A)) : ∃ σ' : hM, fX5_copyFrom kT1 A B σ = some σ' ∧ σ'.2.2 = σ.2.2 ∧ (∀ x, (x < A ∨ A + 3 < x) → (x ≤ SA ∨ SA + 12 < x) → σ'.1 x = σ.1 x) ∧ (σ'.1 A 3 = σ.1 B 3 ∧ σ'.1 A 4 = σ.1 B 4 ∧ σ'.1 A 5 = σ.1 B 5 ∧ σ'.1 A 6 = σ.1 B 6 ∧ σ'.1 A 7 = σ.1 A 7) ∧ (σ'.1 (A + 1) 1 = σ.1 (B + 1) 1 ∧ σ'.1 (A + 1) 2 = σ.1 (B + 1) 2) ∧ (∀ k, k < 40 → σ'.1 (A + 2) k = σ.1 (B + 2) k) ∧ (∀ k, k < 16 → σ'.1 (A + 3) k = σ.1 (B + 3) k) ∧ ∀ s, s < 12 → ∀ j, j < 8 → σ'.1 (SA + 1 + s) j = σ.1 (SB + 1 + s) j := by
  obtain ⟨kA, kA1, ⟨kA2, lA2'⟩, ⟨kA3, lA3⟩, -, -, a0, a1, a3, -, -⟩ := id hA
  obtain ⟨kB, kB1, ⟨kB2, lB2⟩, ⟨kB3, lB3⟩, -, -, b0, b1, b3, -, -⟩ := id hB
  obtain ⟨σ1, c1, c2, c3, c4⟩ := acpN (T := kT1) (σ := σ) (L := 40) kB2 kA2 lB2 lA2' (by decide)
  replace c1 : acp kT1 σ (B + 2) 0 (A + 2) 0 40 = some σ1 := c1
  obtain ⟨σ2, e2⟩ : ∃ σ2, σ2 = wI (wI σ1 (A + 1) 1 (σ1.1 (B + 1) 1)) (A + 1) 2 (σ1.1 (B + 1) 2) := ⟨_, rfl⟩
  have r2 : σ2.2.2 = σ.2.2 := by rw [e2]; exact c2
  obtain ⟨σ3, d1, d2, d3, d4⟩ := acpN (T := kT1) (σ := σ2) (L := 16) kB3 kA3 lB3 lA3 (by decide)
  replace d1 : acp kT1 σ2 (B + 3) 0 (A + 3) 0 16 = some σ3 := d1
  have r3 : σ3.2.2 = σ.2.2 := d2.trans r2
  obtain ⟨σ4, g1, g2, g3, g4⟩ := ev_copyRow_L (ex := fun u13 => (gti kT1 u13 B 5 3).bind fun x14 => (pti kT1 u13 A 5 3 x14).bind fun u15 => (gti kT1 u15 B 5 4).bind fun x16 => (pti kT1 u15 A 5 4 x16).bind fun u17 => (gti kT1 u17 B 5 5).bind fun x18 => (pti kT1 u17 A 5 5 x18).bind fun u19 => (gti kT1 u19 B 5 6).bind fun x20 => (pti kT1 u19 A 5 6 x20).bind fun u21 => some u21) 12 0 6000 σ3 (by omega) (by omega) (by rw [r3]; exact hA) (by rw [r3]; exact hB) hd
  rw [nI_0] at g1
  have hBA : B ≠ A := by omega
  have hBA1 : B + 1 ≠ A + 1 := by omega
  have s4 : fX4_copyFrom kT1 (A + 1) (B + 1) σ = some σ2 := by
    unfold fX4_copyFrom
    rw [gR kB1, b1, ob, gR kA1, a1, ob, c1, ob, gI kB1, ob, pI kA1, ob, gI kB1, ob, wIn hBA1, pI kA1, ob, e2]
  refine ⟨wI (wI (wI (wI σ4 A 3 (σ4.1 B 3)) A 4 (σ4.1 B 4)) A 5 (σ4.1 B 5)) A 6 (σ4.1 B 6), ?_, g2.trans r3, ?_, ?_, ?_, ?_, ?_, ?_⟩
  · unfold fX5_copyFrom
    rw [gR kA, a0, ob, gR kB, b0, ob, vC kA1, s4, ob, gR kB, r2, b3, ob, gR kA, r2, a3, ob, d1, ob, g1]
    simp (disch := first | with_reducible assumption | (unfold kd; decide) | (unfold kl; decide) | decide | (apply t_lt; omega)) only [gI, pI, ob, wIn hBA]
  · intro x hx hx2
    rw [wIn (by omega), wIn (by omega), wIn (by omega), wIn (by omega), g3 x (by omega), d3 x (by omega), e2, wIn (by omega), wIn (by omega), c3 x (by omega)]
  · have eB : σ4.1 B = σ.1 B := by rw [g3 B (by omega), d3 B (by omega), e2, wIn (by omega), wIn (by omega), c3 B (by omega)]
    have eA : σ4.1 A = σ.1 A := by rw [g3 A (by omega), d3 A (by omega), e2, wIn (by omega), wIn (by omega), c3 A (by omega)]
    rw [eB]
    simp [wIs, eA]
  · have e1 : σ1.1 (B + 1) = σ.1 (B + 1) := c3 _ (by omega)
    constructor
    · rw [wIn (by omega), wIn (by omega), wIn (by omega), wIn (by omega), g3 _ (by omega), d3 _ (by omega), e2, wIk (by omega), wIe, e1]
    · rw [wIn (by omega), wIn (by omega), wIn (by omega), wIn (by omega), g3 _ (by omega), d3 _ (by omega), e2, wIe, e1]
  · intro k hk
    rw [wIn (by omega), wIn (by omega), wIn (by omega), wIn (by omega), g3 _ (by omega), d3 _ (by omega), e2, wIn (by omega), wIn (by omega), c4 k hk]
  · intro k hk
    rw [wIn (by omega), wIn (by omega), wIn (by omega), wIn (by omega), g3 _ (by omega), d4 k hk, e2, wIn (by omega), wIn (by omega), c3 _ (by omega)]
  · intro s hs12 j hj
    rw [wIn (by omega), wIn (by omega), wIn (by omega), wIn (by omega), g4 s (Nat.zero_le s) hs12 j hj, d3 _ (by omega), e2, wIn (by omega), wIn (by omega), c3 _ (by omega)]
theorem pState.cp {n c t A B SA SB : Nat} {f f' : Nat → Nat → Int32} {gW gR gS gG gW' gR' gS' gG' : Nat → Int32} {su se su' se' : Int32} (h : pState n c t B SB f gW gR gS gG su se) (hn : n ≤ 40) (hc : c ≤ 12) (a : f' A 3 = f B 3 ∧ f' A 4 = f B 4 ∧ f' A 5 = f B 5 ∧ f' A 6 = f B 6) (b : f' (A + 1) 1 = f (B + 1) 1 ∧ f' (A + 1) 2 = f (B + 1) 2) (d : ∀ k, k < 40 → f' (A + 2) k = f (B + 2) k) (e : ∀ k, k < 16 → f' (A + 3) k = f (B + 3) k) (g : ∀ s, s < 12 → ∀ j, j < 8 → f' (SA + 1 + s) j = f (SB + 1 + s) j) (hW : ∀ k, k < 16 → gW' k = gW k) (hR : ∀ k, k < 6 → gR' k = gR k) (hS : ∀ k, k < 96 → gS' k = gS k) (hG : ∀ k, k < 40 → gG' k = gG k) (hsu : su' = su) (hse : se' = se) : pState n c t A SA f' gW' gR' gS' gG' su' se' := by
  obtain ⟨h1, h2, ⟨N, P, r1, r2, r3, r4, r5⟩, h4, ⟨h5, h6⟩, h7, h8⟩ := h
  subst hsu hse
  refine ⟨a.1.trans h1, fun k hk => by rw [e k hk, hW k hk]; exact h2 k hk, ⟨N, P, r1, r2, a.2.1.trans r3, a.2.2.1.trans r4, fun i hi => by rw [hR i hi]; exact r5 i hi⟩, fun s hs => ⟨fun j hj => by rw [g s (by omega) j hj, hS _ (by omega)]; exact (h4 s hs).1 j hj, ?_⟩, ⟨b.2.trans h5, ?_⟩, a.2.2.2.trans h7, h8⟩
  · have q := (h4 s hs).2
    unfold sOk at q ⊢
    simp only [hS (8 * s + 0) (by omega), hS (8 * s + 1) (by omega), hS (8 * s + 2) (by omega), hS (8 * s + 3) (by omega), hS (8 * s + 4) (by omega), hS (8 * s + 5) (by omega), hS (8 * s + 6) (by omega), hS (8 * s + 7) (by omega)]
    exact q
  · rcases h6 with h6 | ⟨s, hs, hsu, hsz, hsk⟩
    · exact Or.inl h6
    · exact Or.inr ⟨s, hs, hsu, b.1.trans hsz, fun k hk => by rw [d k (by omega), hG k (by omega), hS (8 * s) (by omega)]; exact hsk k hk⟩
theorem ev_keep_L21 {i : Nat} {ex : hM → Option (Int32 × hM)} (hi : i < 2) : ∀ (d k fuel : Nat) (σ : hM), k + d = 40 → d < fuel → σ.2.2 0 37 = some 22 → σ.2.2 0 10 = some 7 → ∃ σ' : hM, fX9_keep_L21 kT2 0 (nI (200 * i)) ex fuel (nI k) σ = ex σ' ∧ σ'.2.2 = σ.2.2 ∧ (∀ a, a ≠ 22 → σ'.1 a = σ.1 a) ∧ (∀ j, k ≤ j → j < 40 → σ'.1 22 (200 * i + j) = σ.1 7 j) ∧ ∀ x, (x < 200 * i + k ∨ 200 * i + 40 ≤ x) → σ'.1 22 x = σ.1 22 x := by
  intro d
  induction d with
  | zero =>
    intro k fuel σ hk hf w37 w
    obtain ⟨f, rfl⟩ : ∃ f, fuel = f + 1 := ⟨fuel - 1, by omega⟩
    have e : k = 40 := by omega
    subst e
    rw [fX9_keep_L21, if_pos (by decide)]
    exact ⟨σ, rfl, rfl, fun x _ => rfl, fun s h1 h2 => absurd h1 (by omega), fun x _ => rfl⟩
  | succ d ih =>
    intro k fuel σ hk hf w37 w
    obtain ⟨f, rfl⟩ : ∃ f, fuel = f + 1 := ⟨fuel - 1, by omega⟩
    rw [fX9_keep_L21, if_neg (show ¬ (40 : Int32) ≤ nI k from nI_ge (b := 40) (by omega) (by decide)), gR2, w37, ob, gR2, w, ob, lA2 7 40 (k := k) (by omega), ob, show nI (200 * i) + nI k = nI (200 * i + k) from nI_add _ _, sA2 22 400 (k := 200 * i + k) (by omega), ob]
    simp only [iflt, nI_1]
    obtain ⟨σ', h1, h2, h3, h4, h5⟩ := ih (k + 1) f (wI σ 22 (200 * i + k) (σ.1 7 k)) (by omega) (by omega) w37 w
    refine ⟨σ', h1, h2, fun a ha => (h3 a ha).trans (wIn ha), fun j hj hj2 => ?_, fun x hx => ?_⟩
    · by_cases e : j = k
      · subst e
        rw [h5 _ (by omega), wIe]
      · rw [h4 j (by omega) hj2, wIn (by decide)]
    · rw [h5 x (by omega), wIk (by omega)]
theorem ev_keep_L49 {i : Nat} {ex : hM → Option (Int32 × hM)} (hi : i < 2) : ∀ (d k fuel : Nat) (σ : hM), k + d = 6 → d < fuel → σ.2.2 0 37 = some 22 → σ.2.2 0 8 = some 6 → ∃ σ' : hM, fX9_keep_L49 kT2 0 (nI (200 * i)) ex fuel (nI k) σ = ex σ' ∧ σ'.2.2 = σ.2.2 ∧ (∀ a, a ≠ 22 → σ'.1 a = σ.1 a) ∧ (∀ j, k ≤ j → j < 6 → σ'.1 22 (200 * i + 40 + j) = σ.1 6 j) ∧ ∀ x, (x < 200 * i + 40 + k ∨ 200 * i + 40 + 6 ≤ x) → σ'.1 22 x = σ.1 22 x := by
  intro d
  induction d with
  | zero =>
    intro k fuel σ hk hf w37 w
    obtain ⟨f, rfl⟩ : ∃ f, fuel = f + 1 := ⟨fuel - 1, by omega⟩
    have e : k = 6 := by omega
    subst e
    rw [fX9_keep_L49, if_pos (by decide)]
    exact ⟨σ, rfl, rfl, fun x _ => rfl, fun s h1 h2 => absurd h1 (by omega), fun x _ => rfl⟩
  | succ d ih =>
    intro k fuel σ hk hf w37 w
    obtain ⟨f, rfl⟩ : ∃ f, fuel = f + 1 := ⟨fuel - 1, by omega⟩
    rw [fX9_keep_L49, if_neg (show ¬ (6 : Int32) ≤ nI k from nI_ge (b := 6) (by omega) (by decide)), gR2, w37, ob, gR2, w, ob, lA2 6 6 (k := k) (by omega), ob, show nI (200 * i) + 40 + nI k = nI (200 * i + 40 + k) from by rw [show (40 : Int32) = nI 40 from rfl, nI_add, nI_add], sA2 22 400 (k := 200 * i + 40 + k) (by omega), ob]
    simp only [iflt, nI_1]
    obtain ⟨σ', h1, h2, h3, h4, h5⟩ := ih (k + 1) f (wI σ 22 (200 * i + 40 + k) (σ.1 6 k)) (by omega) (by omega) w37 w
    refine ⟨σ', h1, h2, fun a ha => (h3 a ha).trans (wIn ha), fun j hj hj2 => ?_, fun x hx => ?_⟩
    · by_cases e : j = k
      · subst e
        rw [h5 _ (by omega), wIe]
      · rw [h4 j (by omega) hj2, wIn (by decide)]
    · rw [h5 x (by omega), wIk (by omega)]
theorem ev_keep_L80 {i : Nat} {ex : hM → Option (Int32 × hM)} (hi : i < 2) : ∀ (d k fuel : Nat) (σ : hM), k + d = 16 → d < fuel → σ.2.2 0 37 = some 22 → σ.2.2 0 7 = some 5 → ∃ σ' : hM, fX9_keep_L80 kT2 0 (nI (200 * i)) ex fuel (nI k) σ = ex σ' ∧ σ'.2.2 = σ.2.2 ∧ (∀ a, a ≠ 22 → σ'.1 a = σ.1 a) ∧ (∀ j, k ≤ j → j < 16 → σ'.1 22 (200 * i + 46 + j) = σ.1 5 j) ∧ ∀ x, (x < 200 * i + 46 + k ∨ 200 * i + 46 + 16 ≤ x) → σ'.1 22 x = σ.1 22 x := by
  intro d
  induction d with
  | zero =>
    intro k fuel σ hk hf w37 w
    obtain ⟨f, rfl⟩ : ∃ f, fuel = f + 1 := ⟨fuel - 1, by omega⟩
    have e : k = 16 := by omega
    subst e
    rw [fX9_keep_L80, if_pos (by decide)]
    exact ⟨σ, rfl, rfl, fun x _ => rfl, fun s h1 h2 => absurd h1 (by omega), fun x _ => rfl⟩
  | succ d ih =>
    intro k fuel σ hk hf w37 w
    obtain ⟨f, rfl⟩ : ∃ f, fuel = f + 1 := ⟨fuel - 1, by omega⟩
    rw [fX9_keep_L80, if_neg (show ¬ (16 : Int32) ≤ nI k from nI_ge (b := 16) (by omega) (by decide)), gR2, w37, ob, gR2, w, ob, lA2 5 16 (k := k) (by omega), ob, show nI (200 * i) + 46 + nI k = nI (200 * i + 46 + k) from by rw [show (46 : Int32) = nI 46 from rfl, nI_add, nI_add], sA2 22 400 (k := 200 * i + 46 + k) (by omega), ob]
    simp only [iflt, nI_1]
    obtain ⟨σ', h1, h2, h3, h4, h5⟩ := ih (k + 1) f (wI σ 22 (200 * i + 46 + k) (σ.1 5 k)) (by omega) (by omega) w37 w
    refine ⟨σ', h1, h2, fun a ha => (h3 a ha).trans (wIn ha), fun j hj hj2 => ?_, fun x hx => ?_⟩
    · by_cases e : j = k
      · subst e
        rw [h5 _ (by omega), wIe]
      · rw [h4 j (by omega) hj2, wIn (by decide)]
    · rw [h5 x (by omega), wIk (by omega)]
theorem ev_keep_L111 {i : Nat} {ex : hM → Option (Int32 × hM)} (hi : i < 2) : ∀ (d k fuel : Nat) (σ : hM), k + d = 96 → d < fuel → σ.2.2 0 37 = some 22 → σ.2.2 0 4 = some 3 → ∃ σ' : hM, fX9_keep_L111 kT2 0 (nI (200 * i)) ex fuel (nI k) σ = ex σ' ∧ σ'.2.2 = σ.2.2 ∧ (∀ a, a ≠ 22 → σ'.1 a = σ.1 a) ∧ (∀ j, k ≤ j → j < 96 → σ'.1 22 (200 * i + 62 + j) = σ.1 3 j) ∧ ∀ x, (x < 200 * i + 62 + k ∨ 200 * i + 62 + 96 ≤ x) → σ'.1 22 x = σ.1 22 x := by
  intro d
  induction d with
  | zero =>
    intro k fuel σ hk hf w37 w
    obtain ⟨f, rfl⟩ : ∃ f, fuel = f + 1 := ⟨fuel - 1, by omega⟩
    have e : k = 96 := by omega
    subst e
    rw [fX9_keep_L111, if_pos (by decide)]
    exact ⟨σ, rfl, rfl, fun x _ => rfl, fun s h1 h2 => absurd h1 (by omega), fun x _ => rfl⟩
  | succ d ih =>
    intro k fuel σ hk hf w37 w
    obtain ⟨f, rfl⟩ : ∃ f, fuel = f + 1 := ⟨fuel - 1, by omega⟩
    rw [fX9_keep_L111, if_neg (show ¬ (96 : Int32) ≤ nI k from nI_ge (b := 96) (by omega) (by decide)), gR2, w37, ob, gR2, w, ob, lA2 3 96 (k := k) (by omega), ob, show nI (200 * i) + 62 + nI k = nI (200 * i + 62 + k) from by rw [show (62 : Int32) = nI 62 from rfl, nI_add, nI_add], sA2 22 400 (k := 200 * i + 62 + k) (by omega), ob]
    simp only [iflt, nI_1]
    obtain ⟨σ', h1, h2, h3, h4, h5⟩ := ih (k + 1) f (wI σ 22 (200 * i + 62 + k) (σ.1 3 k)) (by omega) (by omega) w37 w
    refine ⟨σ', h1, h2, fun a ha => (h3 a ha).trans (wIn ha), fun j hj hj2 => ?_, fun x hx => ?_⟩
    · by_cases e : j = k
      · subst e
        rw [h5 _ (by omega), wIe]
      · rw [h4 j (by omega) hj2, wIn (by decide)]
    · rw [h5 x (by omega), wIk (by omega)]
theorem ev_back_L34 {i : Nat} {ex : hM → Option (Int32 × hM)} (hi : i < 2) : ∀ (d k fuel : Nat) (σ : hM), k + d = 40 → d < fuel → σ.2.2 0 37 = some 22 → σ.2.2 0 10 = some 7 → ∃ σ' : hM, fX9_goBack_L34 kT2 0 (nI (200 * i)) ex fuel (nI k) σ = ex σ' ∧ σ'.2.2 = σ.2.2 ∧ (∀ a, a ≠ 7 → σ'.1 a = σ.1 a) ∧ (∀ j, k ≤ j → j < 40 → σ'.1 7 j = σ.1 22 (200 * i + j)) ∧ ∀ x, x < k → σ'.1 7 x = σ.1 7 x := by
  intro d
  induction d with
  | zero =>
    intro k fuel σ hk hf w37 w
    obtain ⟨f, rfl⟩ : ∃ f, fuel = f + 1 := ⟨fuel - 1, by omega⟩
    have e : k = 40 := by omega
    subst e
    rw [fX9_goBack_L34, if_pos (by decide)]
    exact ⟨σ, rfl, rfl, fun x _ => rfl, fun s h1 h2 => absurd h1 (by omega), fun x _ => rfl⟩
  | succ d ih =>
    intro k fuel σ hk hf w37 w
    obtain ⟨f, rfl⟩ : ∃ f, fuel = f + 1 := ⟨fuel - 1, by omega⟩
    rw [fX9_goBack_L34, if_neg (show ¬ (40 : Int32) ≤ nI k from nI_ge (b := 40) (by omega) (by decide)), gR2, w, ob, gR2, w37, ob, show nI (200 * i) + nI k = nI (200 * i + k) from nI_add _ _, lA2 22 400 (k := 200 * i + k) (by omega), ob, sA2 7 40 (k := k) (by omega), ob]
    simp only [iflt, nI_1]
    obtain ⟨σ', h1, h2, h3, h4, h5⟩ := ih (k + 1) f (wI σ 7 k (σ.1 22 (200 * i + k))) (by omega) (by omega) w37 w
    refine ⟨σ', h1, h2, fun a ha => (h3 a ha).trans (wIn ha), fun j hj hj2 => ?_, fun x hx => ?_⟩
    · by_cases e : j = k
      · subst e
        rw [h5 _ (by omega), wIe]
      · rw [h4 j (by omega) hj2, wIn (by decide)]
    · rw [h5 x (by omega), wIk (by omega)]
theorem ev_back_L62 {i : Nat} {ex : hM → Option (Int32 × hM)} (hi : i < 2) : ∀ (d k fuel : Nat) (σ : hM), k + d = 6 → d < fuel → σ.2.2 0 37 = some 22 → σ.2.2 0 8 = some 6 → ∃ σ' : hM, fX9_goBack_L62 kT2 0 (nI (200 * i)) ex fuel (nI k) σ = ex σ' ∧ σ'.2.2 = σ.2.2 ∧ (∀ a, a ≠ 6 → σ'.1 a = σ.1 a) ∧ (∀ j, k ≤ j → j < 6 → σ'.1 6 j = σ.1 22 (200 * i + 40 + j)) ∧ ∀ x, x < k → σ'.1 6 x = σ.1 6 x := by
  intro d
  induction d with
  | zero =>
    intro k fuel σ hk hf w37 w
    obtain ⟨f, rfl⟩ : ∃ f, fuel = f + 1 := ⟨fuel - 1, by omega⟩
    have e : k = 6 := by omega
    subst e
    rw [fX9_goBack_L62, if_pos (by decide)]
    exact ⟨σ, rfl, rfl, fun x _ => rfl, fun s h1 h2 => absurd h1 (by omega), fun x _ => rfl⟩
  | succ d ih =>
    intro k fuel σ hk hf w37 w
    obtain ⟨f, rfl⟩ : ∃ f, fuel = f + 1 := ⟨fuel - 1, by omega⟩
    rw [fX9_goBack_L62, if_neg (show ¬ (6 : Int32) ≤ nI k from nI_ge (b := 6) (by omega) (by decide)), gR2, w, ob, gR2, w37, ob, show nI (200 * i) + 40 + nI k = nI (200 * i + 40 + k) from by rw [show (40 : Int32) = nI 40 from rfl, nI_add, nI_add], lA2 22 400 (k := 200 * i + 40 + k) (by omega), ob, sA2 6 6 (k := k) (by omega), ob]
    simp only [iflt, nI_1]
    obtain ⟨σ', h1, h2, h3, h4, h5⟩ := ih (k + 1) f (wI σ 6 k (σ.1 22 (200 * i + 40 + k))) (by omega) (by omega) w37 w
    refine ⟨σ', h1, h2, fun a ha => (h3 a ha).trans (wIn ha), fun j hj hj2 => ?_, fun x hx => ?_⟩
    · by_cases e : j = k
      · subst e
        rw [h5 _ (by omega), wIe]
      · rw [h4 j (by omega) hj2, wIn (by decide)]
    · rw [h5 x (by omega), wIk (by omega)]
theorem ev_back_L93 {i : Nat} {ex : hM → Option (Int32 × hM)} (hi : i < 2) : ∀ (d k fuel : Nat) (σ : hM), k + d = 16 → d < fuel → σ.2.2 0 37 = some 22 → σ.2.2 0 7 = some 5 → ∃ σ' : hM, fX9_goBack_L93 kT2 0 (nI (200 * i)) ex fuel (nI k) σ = ex σ' ∧ σ'.2.2 = σ.2.2 ∧ (∀ a, a ≠ 5 → σ'.1 a = σ.1 a) ∧ (∀ j, k ≤ j → j < 16 → σ'.1 5 j = σ.1 22 (200 * i + 46 + j)) ∧ ∀ x, x < k → σ'.1 5 x = σ.1 5 x := by
  intro d
  induction d with
  | zero =>
    intro k fuel σ hk hf w37 w
    obtain ⟨f, rfl⟩ : ∃ f, fuel = f + 1 := ⟨fuel - 1, by omega⟩
    have e : k = 16 := by omega
    subst e
    rw [fX9_goBack_L93, if_pos (by decide)]
    exact ⟨σ, rfl, rfl, fun x _ => rfl, fun s h1 h2 => absurd h1 (by omega), fun x _ => rfl⟩
  | succ d ih =>
    intro k fuel σ hk hf w37 w
    obtain ⟨f, rfl⟩ : ∃ f, fuel = f + 1 := ⟨fuel - 1, by omega⟩
    rw [fX9_goBack_L93, if_neg (show ¬ (16 : Int32) ≤ nI k from nI_ge (b := 16) (by omega) (by decide)), gR2, w, ob, gR2, w37, ob, show nI (200 * i) + 46 + nI k = nI (200 * i + 46 + k) from by rw [show (46 : Int32) = nI 46 from rfl, nI_add, nI_add], lA2 22 400 (k := 200 * i + 46 + k) (by omega), ob, sA2 5 16 (k := k) (by omega), ob]
    simp only [iflt, nI_1]
    obtain ⟨σ', h1, h2, h3, h4, h5⟩ := ih (k + 1) f (wI σ 5 k (σ.1 22 (200 * i + 46 + k))) (by omega) (by omega) w37 w
    refine ⟨σ', h1, h2, fun a ha => (h3 a ha).trans (wIn ha), fun j hj hj2 => ?_, fun x hx => ?_⟩
    · by_cases e : j = k
      · subst e
        rw [h5 _ (by omega), wIe]
      · rw [h4 j (by omega) hj2, wIn (by decide)]
    · rw [h5 x (by omega), wIk (by omega)]
theorem ev_back_L124 {i : Nat} {ex : hM → Option (Int32 × hM)} (hi : i < 2) : ∀ (d k fuel : Nat) (σ : hM), k + d = 96 → d < fuel → σ.2.2 0 37 = some 22 → σ.2.2 0 4 = some 3 → ∃ σ' : hM, fX9_goBack_L124 kT2 0 (nI (200 * i)) ex fuel (nI k) σ = ex σ' ∧ σ'.2.2 = σ.2.2 ∧ (∀ a, a ≠ 3 → σ'.1 a = σ.1 a) ∧ (∀ j, k ≤ j → j < 96 → σ'.1 3 j = σ.1 22 (200 * i + 62 + j)) ∧ ∀ x, x < k → σ'.1 3 x = σ.1 3 x := by
  intro d
  induction d with
  | zero =>
    intro k fuel σ hk hf w37 w
    obtain ⟨f, rfl⟩ : ∃ f, fuel = f + 1 := ⟨fuel - 1, by omega⟩
    have e : k = 96 := by omega
    subst e
    rw [fX9_goBack_L124, if_pos (by decide)]
    exact ⟨σ, rfl, rfl, fun x _ => rfl, fun s h1 h2 => absurd h1 (by omega), fun x _ => rfl⟩
  | succ d ih =>
    intro k fuel σ hk hf w37 w
    obtain ⟨f, rfl⟩ : ∃ f, fuel = f + 1 := ⟨fuel - 1, by omega⟩
    rw [fX9_goBack_L124, if_neg (show ¬ (96 : Int32) ≤ nI k from nI_ge (b := 96) (by omega) (by decide)), gR2, w, ob, gR2, w37, ob, show nI (200 * i) + 62 + nI k = nI (200 * i + 62 + k) from by rw [show (62 : Int32) = nI 62 from rfl, nI_add, nI_add], lA2 22 400 (k := 200 * i + 62 + k) (by omega), ob, sA2 3 96 (k := k) (by omega), ob]
    simp only [iflt, nI_1]
    obtain ⟨σ', h1, h2, h3, h4, h5⟩ := ih (k + 1) f (wI σ 3 k (σ.1 22 (200 * i + 62 + k))) (by omega) (by omega) w37 w
    refine ⟨σ', h1, h2, fun a ha => (h3 a ha).trans (wIn ha), fun j hj hj2 => ?_, fun x hx => ?_⟩
    · by_cases e : j = k
      · subst e
        rw [h5 _ (by omega), wIe]
      · rw [h4 j (by omega) hj2, wIn (by decide)]
    · rw [h5 x (by omega), wIk (by omega)]
