theorem pCpl.outer {M M' R R' S S' n c t : Nat} {σ1 σ2 : hM} {f' g' : Nat → Nat → Int32} (h : pCpl M M' R R' S S' n c t σ1 σ2) (f1 : ∀ x, (x ≤ 2 ∨ (M ≤ x ∧ x ≤ M + 2) ∨ (R ≤ x ∧ x ≤ R + 4) ∨ (94 ≤ x ∧ x ≤ 97)) → f' x = σ1.1 x) (g1 : ∀ x, (x = 1 ∨ x = 2 ∨ x = 4 ∨ x = 8 ∨ x = 19 ∨ x = 21) → g' x = σ2.1 x) (g0 : ∀ k, k ≠ 9 → k ≠ 11 → g' 0 k = σ2.1 0 k) : pText f' g' ∧ pMel n M f' g' ∧ (c ≤ 12 ∧ g' 0 3 = nI c) ∧ pTask t R f' g' ∧ pCrowd f' g' ∧ pBook f' g' := by
  obtain ⟨hr1, hf2, hT, hm, hc2, ht, hst, hcr, hb, h0, h1⟩ := h
  refine ⟨?_, ?_, ?_, ?_, ?_, ?_⟩
  · unfold pText at *
    rw [f1 1 (by omega), f1 2 (by omega), g0 13 (by decide) (by decide), g0 14 (by decide) (by decide), g1 8 (by omega)]; exact hT
  · unfold pMel at *
    rw [f1 M (by omega), f1 (M + 1) (by omega), f1 (M + 2) (by omega), g0 0 (by decide) (by decide), g1 1 (by omega), g1 2 (by omega)]; exact hm
  · rw [g0 3 (by decide) (by decide)]; exact hc2
  · unfold pTask at *
    rw [f1 R (by omega), f1 (R + 1) (by omega), f1 (R + 2) (by omega), f1 (R + 3) (by omega), f1 (R + 4) (by omega), g0 5 (by decide) (by decide), g1 4 (by omega)]; exact ht
  · unfold pCrowd at *
    rw [f1 94 (by omega), f1 95 (by omega), g0 32 (by decide) (by decide), g1 19 (by omega)]; exact hcr
  · unfold pBook at *
    rw [f1 0 (by omega), f1 97 (by omega), g0 35 (by decide) (by decide), g1 21 (by omega)]; exact hb
theorem ev_keep2 {σ : hM} {i : Nat} (hi : i < 2) (h : pRf2 σ.2.2) : ∃ σ' : hM, fX9_keep kT2 0 (nI i) σ = some (1, σ') ∧ σ'.2.2 = σ.2.2 ∧ (∀ a, a ≠ 22 → a ≠ 23 → σ'.1 a = σ.1 a) ∧ σ'.1 23 i = 1 ∧ (∀ k, k ≠ i → σ'.1 23 k = σ.1 23 k) ∧ (∀ j, j < 40 → σ'.1 22 (200 * i + j) = σ.1 7 j) ∧ (∀ j, j < 6 → σ'.1 22 (200 * i + 40 + j) = σ.1 6 j) ∧ (∀ j, j < 16 → σ'.1 22 (200 * i + 46 + j) = σ.1 5 j) ∧ (∀ j, j < 96 → σ'.1 22 (200 * i + 62 + j) = σ.1 3 j) ∧ σ'.1 22 (200 * i + 158) = σ.1 0 9 ∧ σ'.1 22 (200 * i + 159) = σ.1 0 11 ∧ ∀ x, (x < 200 * i ∨ 200 * i + 160 ≤ x) → σ'.1 22 x = σ.1 22 x := by
  obtain ⟨w1, w2, w4, w6, w7, w8, w10, w12, w21, w22, w24, w25, w26, w27, w28, w29, w30, w31, w33, w34, w36, w37, w38⟩ := id h
  have hin : 0 ≤ nI i ∧ nI i ≤ 1 := (inK 1 rfl (by decide)).mpr ⟨i, hi, rfl⟩
  obtain ⟨τ1, a1, a2, a3, a4, a5⟩ := ev_keep_L21 (ex := fun u8 => fX9_keep_L49 kT2 0 (nI (200 * i)) (fun u14 => fX9_keep_L80 kT2 0 (nI (200 * i)) (fun u20 => fX9_keep_L111 kT2 0 (nI (200 * i)) (fun u26 => (gtr kT2 u26 0 9 37).bind fun a27 => (gti kT2 u26 0 9 9).bind fun x28 => (asti kT2 u26 a27 (nI (200 * i) + (158 : Int32)) x28).bind fun u29 => (gtr kT2 u29 0 9 37).bind fun a30 => (gti kT2 u29 0 9 11).bind fun x31 => (asti kT2 u29 a30 (nI (200 * i) + (159 : Int32)) x31).bind fun u32 => (gtr kT2 u32 0 9 38).bind fun a33 => (astz kT2 u32 a33 (nI i) (1 : Int32)).bind fun u34 => some ((1 : Int32), u34)) 6000 (0 : Int32) u20) 6000 (0 : Int32) u14) 6000 (0 : Int32) u8) hi 40 0 6000 σ (by omega) (by omega) w37 w10
  obtain ⟨τ2, b1, b2, b3, b4, b5⟩ := ev_keep_L49 (ex := fun u14 => fX9_keep_L80 kT2 0 (nI (200 * i)) (fun u20 => fX9_keep_L111 kT2 0 (nI (200 * i)) (fun u26 => (gtr kT2 u26 0 9 37).bind fun a27 => (gti kT2 u26 0 9 9).bind fun x28 => (asti kT2 u26 a27 (nI (200 * i) + (158 : Int32)) x28).bind fun u29 => (gtr kT2 u29 0 9 37).bind fun a30 => (gti kT2 u29 0 9 11).bind fun x31 => (asti kT2 u29 a30 (nI (200 * i) + (159 : Int32)) x31).bind fun u32 => (gtr kT2 u32 0 9 38).bind fun a33 => (astz kT2 u32 a33 (nI i) (1 : Int32)).bind fun u34 => some ((1 : Int32), u34)) 6000 (0 : Int32) u20) 6000 (0 : Int32) u14) hi 6 0 6000 τ1 (by omega) (by omega) (by rw [a2]; exact w37) (by rw [a2]; exact w8)
  have p2 := b2.trans a2
  obtain ⟨τ3, c1, c2, c3, c4, c5⟩ := ev_keep_L80 (ex := fun u20 => fX9_keep_L111 kT2 0 (nI (200 * i)) (fun u26 => (gtr kT2 u26 0 9 37).bind fun a27 => (gti kT2 u26 0 9 9).bind fun x28 => (asti kT2 u26 a27 (nI (200 * i) + (158 : Int32)) x28).bind fun u29 => (gtr kT2 u29 0 9 37).bind fun a30 => (gti kT2 u29 0 9 11).bind fun x31 => (asti kT2 u29 a30 (nI (200 * i) + (159 : Int32)) x31).bind fun u32 => (gtr kT2 u32 0 9 38).bind fun a33 => (astz kT2 u32 a33 (nI i) (1 : Int32)).bind fun u34 => some ((1 : Int32), u34)) 6000 (0 : Int32) u20) hi 16 0 6000 τ2 (by omega) (by omega) (by rw [p2]; exact w37) (by rw [p2]; exact w7)
  have p3 := c2.trans p2
  obtain ⟨τ4, d1, d2, d3, d4, d5⟩ := ev_keep_L111 (ex := fun u26 => (gtr kT2 u26 0 9 37).bind fun a27 => (gti kT2 u26 0 9 9).bind fun x28 => (asti kT2 u26 a27 (nI (200 * i) + (158 : Int32)) x28).bind fun u29 => (gtr kT2 u29 0 9 37).bind fun a30 => (gti kT2 u29 0 9 11).bind fun x31 => (asti kT2 u29 a30 (nI (200 * i) + (159 : Int32)) x31).bind fun u32 => (gtr kT2 u32 0 9 38).bind fun a33 => (astz kT2 u32 a33 (nI i) (1 : Int32)).bind fun u34 => some ((1 : Int32), u34)) hi 96 0 6000 τ3 (by omega) (by omega) (by rw [p3]; exact w37) (by rw [p3]; exact w4)
  have p4 := d2.trans p3
  rw [nI_0] at a1 b1 c1 d1
  have e158 : nI (200 * i) + 158 = nI (200 * i + 158) := nI_add _ 158
  have e159 : nI (200 * i) + 159 = nI (200 * i + 159) := nI_add _ 159
  have sz : ∀ u : hM, astz kT2 u 23 (nI i) 1 = some (wI u 23 i 1) := fun u => sZ (v := 1) 2 rfl rfl hi (by decide)
  refine ⟨wI (wI (wI τ4 22 (200 * i + 158) (τ4.1 0 9)) 22 (200 * i + 159) (τ4.1 0 11)) 23 i 1, ?_, p4, ?_, wIe, ?_, ?_, ?_, ?_, ?_, ?_, ?_, ?_⟩
  · unfold fX9_keep
    rw [in9 0 1 (L := 0) (H := 1) rfl rfl, ob, ifz1 hin]
    simp only [iflt]
    rw [mul_nI 200 200 rfl, a1, b1, c1, d1, gR2, p4, w37, ob, gI2, ob, e158, sA2 22 400 (k := 200 * i + 158) (by omega), ob, gR2, wrr, p4, w37, ob, gI2, ob, e159, sA2 22 400 (k := 200 * i + 159) (by omega), ob, gR2, wrr, wrr, p4, w38, ob, sz, ob, wIn (show 0 ≠ 22 by decide)]
  · intro a h2 h3
    rw [wIn h3, wIn h2, wIn h2, d3 a h2, c3 a h2, b3 a h2, a3 a h2]
  · intro k hk
    rw [wIk (fun q => hk q.2), wIn (by decide), wIn (by decide), d3 _ (by decide), c3 _ (by decide), b3 _ (by decide), a3 _ (by decide)]
  · intro j hj
    rw [wIn (by decide), wIk (by omega), wIk (by omega), d5 _ (by omega), c5 _ (by omega), b5 _ (by omega), a4 j (by omega) hj]
  · intro j hj
    rw [wIn (by decide), wIk (by omega), wIk (by omega), d5 _ (by omega), c5 _ (by omega), b4 j (by omega) hj, a3 _ (by decide)]
  · intro j hj
    rw [wIn (by decide), wIk (by omega), wIk (by omega), d5 _ (by omega), c4 j (by omega) hj, b3 _ (by decide), a3 _ (by decide)]
  · intro j hj
    rw [wIn (by decide), wIk (by omega), wIk (by omega), d4 j (by omega) hj, c3 _ (by decide), b3 _ (by decide), a3 _ (by decide)]
  · rw [wIn (by decide), wIk (by omega), wIe, d3 _ (by decide), c3 _ (by decide), b3 _ (by decide), a3 _ (by decide)]
  · rw [wIn (by decide), wIe, d3 _ (by decide), c3 _ (by decide), b3 _ (by decide), a3 _ (by decide)]
  · intro x hx
    rw [wIn (by decide), wIk (by omega), wIk (by omega), d5 _ (by omega), c5 _ (by omega), b5 _ (by omega), a5 _ (by omega)]
theorem pRf1.st {M M' R R' S S' : Nat} {ρ : Nat → Nat → Option Nat} (h : pRf1 M M' R R' S S' ρ) : stA ρ 32 S ∧ stA ρ 50 54 ∧ stA ρ 67 71 := by
  have hrw := h.row
  obtain ⟨hMe, hR, hS, e01, e02, e03, e04, e05, e322, ⟨o0_0, o0_6, o0_7, o0_8, o0_9, o0_10, o0_12, o0_13, o1_0, o32_0, o32_1, o33_0, o98_0, o94_0, o94_1, o84_0, o84_1, o49_0, o49_1, o50_0, o51_0, o50_1, o50_2, o67_0, o68_0, o67_1, o67_2, o3_0, o3_1, o6_0, o6_1, o9_0, o9_1, o9_2, o9_3, o14_0, o14_1, o14_2, o14_3⟩, hrow, hodd⟩ := id h
  obtain ⟨⟨kS, kSn⟩, kSs⟩ := kRow hS
  exact ⟨⟨rfl, rfl, ⟨rfl, rfl⟩, ⟨rfl, rfl⟩, ⟨kS, kSn⟩, kSs, o32_0, o33_0, o32_1, e322, hrw⟩, ⟨rfl, rfl, ⟨rfl, rfl⟩, ⟨rfl, rfl⟩, ⟨rfl, rfl⟩, fun s hs => (kSing s hs).2.2.1, o50_0, o51_0, o50_1, o50_2, fun s hs => (hrow s hs).2.2.1⟩, ⟨rfl, rfl, ⟨rfl, rfl⟩, ⟨rfl, rfl⟩, ⟨rfl, rfl⟩, fun s hs => (kSing s hs).2.2.2, o67_0, o68_0, o67_1, o67_2, fun s hs => (hrow s hs).2.2.2⟩⟩
theorem keep_step {M M' R R' S S' n c t i A : Nat} {σ1 σ2 : hM} (hC : pCpl M M' R R' S S' n c t σ1 σ2) (hi : (i = 0 ∧ A = 50) ∨ (i = 1 ∧ A = 67)) : ∃ (σ1b σ2b : hM), fX8_keep kT1 0 (nI i) σ1 = some (1, σ1b) ∧ fX9_keep kT2 0 (nI i) σ2 = some (1, σ2b) ∧ pCpl M M' R R' S S' n c t σ1b σ2b := by
  obtain ⟨hr, hf2, hT, hm, hc2, ht, hst, hcr, hb, hi0, hi1⟩ := id hC
  obtain ⟨hMe, hR, hS, e01, e02, e03, e04, e05, e322, ⟨o0_0, o0_6, o0_7, o0_8, o0_9, o0_10, o0_12, o0_13, o1_0, o32_0, o32_1, o33_0, o98_0, o94_0, o94_1, o84_0, o84_1, o49_0, o49_1, o50_0, o51_0, o50_1, o50_2, o67_0, o68_0, o67_1, o67_2, o3_0, o3_1, o6_0, o6_1, o9_0, o9_1, o9_2, o9_3, o14_0, o14_1, o14_2, o14_3⟩, hrow, hodd⟩ := id hr
  have hn40 := hm.1
  have hc12 := hc2.1
  have sN := hr.st.1
  have sA : stA σ1.2.2 A (A + 4) := by rcases hi with ⟨_, rfl⟩ | ⟨_, rfl⟩; exact hr.st.2.1; exact hr.st.2.2
  have e49 : σ1.2.2 49 i = some A := by rcases hi with ⟨rfl, rfl⟩ | ⟨rfl, rfl⟩; exact o49_0; exact o49_1
  have hi2 : i < 2 := by omega
  have hin : 0 ≤ nI i ∧ nI i ≤ 1 := (inK 1 rfl (by decide)).mpr ⟨i, hi2, rfl⟩
  obtain ⟨τ, a1, a2, a3, ⟨a4, a5, a6, a7, a8⟩, ⟨a9, a10⟩, a11, a12, a13⟩ := ev_copyState (A := A) (B := 32) (SA := A + 4) (SB := S) sA sN (by omega) (by omega) (by omega)
  obtain ⟨υ, b1, b2, b3, b4, b5, b6, b7, b8, b9, b10, b11, b12⟩ := ev_keep2 hi2 hf2
  have kA : kd kT1 A (5 + 1) := sA.1
  have l49 : ∀ u : hM, aldr 16 kT1 u 49 (nI i) = u.2.2 49 i := fun u => lR 2 rfl rfl hi2 (by decide)
  refine ⟨wI τ A 7 1, υ, ?_, b1, ?_⟩
  · unfold fX8_keep
    rw [isW, ob, ifz1 hin, gR1 0 8, o0_7, ob, l49, e49, ob, gR1 0 8, o0_6, ob, vC kA, a1, ob, gR1 0 8, a2, o0_7, ob, l49, a2, e49, ob, pZ kA (Or.inr rfl), ob]
  · have hout := hC.outer (f' := (wI τ A 7 1).1) (g' := υ.1) (fun x hx => by rw [wIn (by omega), a3 x (by omega) (by omega)]) (fun x hx => b3 x (by omega) (by omega)) (fun k _ _ => by rw [b3 0 (by decide) (by decide)])
    obtain ⟨q1, q2, q3, q4, q5, q6⟩ := hout
    have fr : ∀ x, (x < A ∨ A + 16 < x) → (wI τ A 7 1).1 x = σ1.1 x := fun x hx => by rw [wIn (by omega), a3 x (by omega) (by omega)]
    have img : pImg n c t i A (wI τ A 7 1).1 υ.1 := by
      refine ⟨by rw [wIe, b4], Or.inr ⟨b4, ?_⟩⟩
      refine hst.cp hn40 hc12 ⟨by rw [wIk (by omega)]; exact a4, by rw [wIk (by omega)]; exact a5, by rw [wIk (by omega)]; exact a6, by rw [wIk (by omega)]; exact a7⟩ ⟨by rw [wIn (by omega)]; exact a9, by rw [wIn (by omega)]; exact a10⟩ (fun k hk => by rw [wIn (by omega)]; exact a11 k hk) (fun k hk => by rw [wIn (by omega)]; exact a12 k hk) (fun s hs j hj => by rw [wIn (by omega)]; exact a13 s hs j hj) b8 b7 b9 b6 b10 b11
    have oth : ∀ (i' A' : Nat), ((i' = 0 ∧ A' = 50) ∨ (i' = 1 ∧ A' = 67)) → i' ≠ i → pImg n c t i' A' σ1.1 σ2.1 → pImg n c t i' A' (wI τ A 7 1).1 υ.1 := by
      intro i' A' hi' hne h
      obtain ⟨h1, h2⟩ := h
      refine ⟨by rw [fr A' (by omega), b5 i' hne]; exact h1, ?_⟩
      rw [b5 i' hne]
      refine h2.imp id (fun q => ⟨q.1, ?_⟩)
      refine (pState.cp (A := A') (SA := A' + 4) q.2 hn40 hc12 ⟨by rw [fr A' (by omega)], by rw [fr A' (by omega)], by rw [fr A' (by omega)], by rw [fr A' (by omega)]⟩ ⟨by rw [fr _ (by omega)], by rw [fr _ (by omega)]⟩ (fun k hk => by rw [fr _ (by omega)]) (fun k hk => by rw [fr _ (by omega)]) (fun s hs j hj => by rw [fr _ (by omega)]) (fun k hk => b12 _ (by omega)) (fun k hk => b12 _ (by omega)) (fun k hk => b12 _ (by omega)) (fun k hk => b12 _ (by omega)) (b12 _ (by omega)) (b12 _ (by omega)))
    refine ⟨show pRf1 M M' R R' S S' τ.2.2 by rw [a2]; exact hr, by rw [b2]; exact hf2, q1, q2, q3, q4, ?_, q5, q6, ?_, ?_⟩
    · rw [b3 5 (by decide) (by decide), b3 6 (by decide) (by decide), b3 3 (by decide) (by decide), b3 7 (by decide) (by decide), b3 0 (by decide) (by decide)]
      exact hst.fr (fr _ (by omega)) (fr _ (by omega)) (fr _ (by omega)) (fr _ (by omega)) (fun s hs => fr _ (by omega))
    · rcases hi with ⟨rfl, rfl⟩ | ⟨rfl, rfl⟩
      · exact img
      · exact oth 0 50 (Or.inl ⟨rfl, rfl⟩) (by decide) hi0
    · rcases hi with ⟨rfl, rfl⟩ | ⟨rfl, rfl⟩
      · exact oth 1 67 (Or.inr ⟨rfl, rfl⟩) (by decide) hi1
      · exact img
theorem s_keep : st_keep Cpl := by
  intro σ1 σ2 hC p1
  by_cases h : 0 ≤ p1 ∧ p1 ≤ 1
  · obtain ⟨i, hi, rfl⟩ := (inK 1 rfl (by decide)).mp h
    obtain ⟨M, M', R, R', S, S', n, c, t, hC⟩ := hC
    obtain ⟨x, y, a, b, d⟩ := keep_step (i := i) (A := if i = 0 then 50 else 67) hC (by by_cases e : i = 0; exact Or.inl ⟨e, if_pos e⟩; exact Or.inr ⟨by omega, if_neg e⟩)
    exact ⟨1, x, y, a, b, M, M', R, R', S, S', n, c, t, d⟩
  · unfold fX8_keep fX9_keep
    rw [isW, in9 0 1 (L := 0) (H := 1) rfl rfl, ob, ob, ifz0 h, ifz0 h]
    exact ⟨_, σ1, σ2, rfl, rfl, hC⟩
