theorem ev_back2 {σ : hM} {i : Nat} (hi : i < 2) (h : pRf2 σ.2.2) (hk : ¬ σ.1 23 i = 0) : ∃ σ' : hM, fX9_goBack kT2 0 (nI i) σ = some (1, σ') ∧ σ'.2.2 = σ.2.2 ∧ (∀ a, a ≠ 0 → a ≠ 7 → a ≠ 6 → a ≠ 5 → a ≠ 3 → σ'.1 a = σ.1 a) ∧ (∀ k, k ≠ 9 → k ≠ 11 → σ'.1 0 k = σ.1 0 k) ∧ (∀ j, j < 40 → σ'.1 7 j = σ.1 22 (200 * i + j)) ∧ (∀ j, j < 6 → σ'.1 6 j = σ.1 22 (200 * i + 40 + j)) ∧ (∀ j, j < 16 → σ'.1 5 j = σ.1 22 (200 * i + 46 + j)) ∧ (∀ j, j < 96 → σ'.1 3 j = σ.1 22 (200 * i + 62 + j)) ∧ σ'.1 0 9 = σ.1 22 (200 * i + 158) ∧ σ'.1 0 11 = σ.1 22 (200 * i + 159) := by
  obtain ⟨w1, w2, w4, w6, w7, w8, w10, w12, w21, w22, w24, w25, w26, w27, w28, w29, w30, w31, w33, w34, w36, w37, w38⟩ := id h
  have hin : 0 ≤ nI i ∧ nI i ≤ 1 := (inK 1 rfl (by decide)).mpr ⟨i, hi, rfl⟩
  obtain ⟨τ1, a1, a2, a3, a4, -⟩ := ev_back_L34 (ex := fun u10 => fX9_goBack_L62 kT2 0 (nI (200 * i)) (fun u16 => fX9_goBack_L93 kT2 0 (nI (200 * i)) (fun u22 => fX9_goBack_L124 kT2 0 (nI (200 * i)) (fun u28 => (gtr kT2 u28 0 9 37).bind fun a29 => (ald 11 kT2 u28 a29 (nI (200 * i) + (158 : Int32))).bind fun x30 => (pti kT2 u28 0 9 9 x30).bind fun u31 => (gtr kT2 u31 0 9 37).bind fun a32 => (ald 11 kT2 u31 a32 (nI (200 * i) + (159 : Int32))).bind fun x33 => (pti kT2 u31 0 9 11 x33).bind fun u34 => some ((1 : Int32), u34)) 6000 (0 : Int32) u22) 6000 (0 : Int32) u16) 6000 (0 : Int32) u10) hi 40 0 6000 σ (by omega) (by omega) w37 w10
  obtain ⟨τ2, b1, b2, b3, b4, -⟩ := ev_back_L62 (ex := fun u16 => fX9_goBack_L93 kT2 0 (nI (200 * i)) (fun u22 => fX9_goBack_L124 kT2 0 (nI (200 * i)) (fun u28 => (gtr kT2 u28 0 9 37).bind fun a29 => (ald 11 kT2 u28 a29 (nI (200 * i) + (158 : Int32))).bind fun x30 => (pti kT2 u28 0 9 9 x30).bind fun u31 => (gtr kT2 u31 0 9 37).bind fun a32 => (ald 11 kT2 u31 a32 (nI (200 * i) + (159 : Int32))).bind fun x33 => (pti kT2 u31 0 9 11 x33).bind fun u34 => some ((1 : Int32), u34)) 6000 (0 : Int32) u22) 6000 (0 : Int32) u16) hi 6 0 6000 τ1 (by omega) (by omega) (by rw [a2]; exact w37) (by rw [a2]; exact w8)
  have p2 := b2.trans a2
  obtain ⟨τ3, c1, c2, c3, c4, -⟩ := ev_back_L93 (ex := fun u22 => fX9_goBack_L124 kT2 0 (nI (200 * i)) (fun u28 => (gtr kT2 u28 0 9 37).bind fun a29 => (ald 11 kT2 u28 a29 (nI (200 * i) + (158 : Int32))).bind fun x30 => (pti kT2 u28 0 9 9 x30).bind fun u31 => (gtr kT2 u31 0 9 37).bind fun a32 => (ald 11 kT2 u31 a32 (nI (200 * i) + (159 : Int32))).bind fun x33 => (pti kT2 u31 0 9 11 x33).bind fun u34 => some ((1 : Int32), u34)) 6000 (0 : Int32) u22) hi 16 0 6000 τ2 (by omega) (by omega) (by rw [p2]; exact w37) (by rw [p2]; exact w7)
  have p3 := c2.trans p2
  obtain ⟨τ4, d1, d2, d3, d4, -⟩ := ev_back_L124 (ex := fun u28 => (gtr kT2 u28 0 9 37).bind fun a29 => (ald 11 kT2 u28 a29 (nI (200 * i) + (158 : Int32))).bind fun x30 => (pti kT2 u28 0 9 9 x30).bind fun u31 => (gtr kT2 u31 0 9 37).bind fun a32 => (ald 11 kT2 u31 a32 (nI (200 * i) + (159 : Int32))).bind fun x33 => (pti kT2 u31 0 9 11 x33).bind fun u34 => some ((1 : Int32), u34)) hi 96 0 6000 τ3 (by omega) (by omega) (by rw [p3]; exact w37) (by rw [p3]; exact w4)
  have p4 := d2.trans p3
  rw [nI_0] at a1 b1 c1 d1
  have e158 : nI (200 * i) + 158 = nI (200 * i + 158) := nI_add _ 158
  have e159 : nI (200 * i) + 159 = nI (200 * i + 159) := nI_add _ 159
  have e22 : τ4.1 22 = σ.1 22 := by rw [d3 _ (by decide), c3 _ (by decide), b3 _ (by decide), a3 _ (by decide)]
  have e0 : τ4.1 0 = σ.1 0 := by rw [d3 _ (by decide), c3 _ (by decide), b3 _ (by decide), a3 _ (by decide)]
  refine ⟨wI (wI τ4 0 9 (τ4.1 22 (200 * i + 158))) 0 11 (τ4.1 22 (200 * i + 159)), ?_, p4, ?_, ?_, ?_, ?_, ?_, ?_, ?_, ?_⟩
  · unfold fX9_goBack
    rw [in9 0 1 (L := 0) (H := 1) rfl rfl, ob, ifz1 hin, gR2, w38, ob, lZ2 23 2 (k := i) hi, ob, if_neg hk]
    simp only [iflt]
    rw [mul_nI 200 200 rfl, a1, b1, c1, d1, gR2, p4, w37, ob, e158, lA2 22 400 (k := 200 * i + 158) (by omega), ob, pI2, ob, gR2, wrr, p4, w37, ob, e159, lA2 22 400 (k := 200 * i + 159) (by omega), ob, pI2, ob, wIn (show 22 ≠ 0 by decide)]
  · intro a h0 h7 h6 h5 h3
    rw [wIn h0, wIn h0, d3 a h3, c3 a h5, b3 a h6, a3 a h7]
  · intro k h9 h11
    rw [wIk (fun q => h11 q.2), wIk (fun q => h9 q.2), e0]
  · intro j hj
    rw [wIn (by decide), wIn (by decide), d3 _ (by decide), c3 _ (by decide), b3 _ (by decide), a4 j (by omega) hj]
  · intro j hj
    rw [wIn (by decide), wIn (by decide), d3 _ (by decide), c3 _ (by decide), b4 j (by omega) hj, a3 _ (by decide)]
  · intro j hj
    rw [wIn (by decide), wIn (by decide), d3 _ (by decide), c4 j (by omega) hj, b3 _ (by decide), a3 _ (by decide)]
  · intro j hj
    rw [wIn (by decide), wIn (by decide), d4 j (by omega) hj, c3 _ (by decide), b3 _ (by decide), a3 _ (by decide)]
  · rw [wIk (by omega), wIe, e22]
  · rw [wIe, e22]
theorem back_step {M M' R R' S S' n c t i A : Nat} {σ1 σ2 : hM} (hC : pCpl M M' R R' S S' n c t σ1 σ2) (hi : (i = 0 ∧ A = 50) ∨ (i = 1 ∧ A = 67)) : ∃ (r : Int32) (σ1b σ2b : hM), fX8_goBack kT1 0 (nI i) σ1 = some (r, σ1b) ∧ fX9_goBack kT2 0 (nI i) σ2 = some (r, σ2b) ∧ pCpl M M' R R' S S' n c t σ1b σ2b := by
  obtain ⟨hr, hf2, hT, hm, hc2, ht, hst, hcr, hb, hi0, hi1⟩ := id hC
  obtain ⟨hMe, hR, hS, e01, e02, e03, e04, e05, e322, ⟨o0_0, o0_6, o0_7, o0_8, o0_9, o0_10, o0_12, o0_13, o1_0, o32_0, o32_1, o33_0, o98_0, o94_0, o94_1, o84_0, o84_1, o49_0, o49_1, o50_0, o51_0, o50_1, o50_2, o67_0, o68_0, o67_1, o67_2, o3_0, o3_1, o6_0, o6_1, o9_0, o9_1, o9_2, o9_3, o14_0, o14_1, o14_2, o14_3⟩, hrow, hodd⟩ := id hr
  obtain ⟨w1, w2, w4, w6, w7, w8, w10, w12, w21, w22, w24, w25, w26, w27, w28, w29, w30, w31, w33, w34, w36, w37, w38⟩ := id hf2
  have hn40 := hm.1
  have hc12 := hc2.1
  have sN := hr.st.1
  have sA : stA σ1.2.2 A (A + 4) := by rcases hi with ⟨_, rfl⟩ | ⟨_, rfl⟩; exact hr.st.2.1; exact hr.st.2.2
  have e49 : σ1.2.2 49 i = some A := by rcases hi with ⟨rfl, rfl⟩ | ⟨rfl, rfl⟩; exact o49_0; exact o49_1
  have hi2 : i < 2 := by omega
  have hin : 0 ≤ nI i ∧ nI i ≤ 1 := (inK 1 rfl (by decide)).mpr ⟨i, hi2, rfl⟩
  have kA : kd kT1 A (5 + 1) := sA.1
  have l49 : ∀ u : hM, aldr 16 kT1 u 49 (nI i) = u.2.2 49 i := fun u => lR 2 rfl rfl hi2 (by decide)
  have him : pImg n c t i A σ1.1 σ2.1 := by rcases hi with ⟨rfl, rfl⟩ | ⟨rfl, rfl⟩; exact hi0; exact hi1
  obtain ⟨k7, him⟩ := him
  rcases him with him | ⟨him, hsi⟩
  · refine ⟨-1000000003, σ1, σ2, ?_, ?_, hC⟩
    · unfold fX8_goBack
      rw [isW, ob, ifz1 hin, gR1 0 8, o0_7, ob, l49, e49, ob, gI kA, ob, k7, him, if_pos rfl]
    · unfold fX9_goBack
      rw [in9 0 1 (L := 0) (H := 1) rfl rfl, ob, ifz1 hin, gR2, w38, ob, lZ2 23 2 (k := i) hi2, ob, him, if_pos rfl]
  · obtain ⟨τ, a1, a2, a3, ⟨a4, a5, a6, a7, a8⟩, ⟨a9, a10⟩, a11, a12, a13⟩ := ev_copyState (A := 32) (B := A) (SA := S) (SB := A + 4) sN sA (by omega) (by omega) (by omega)
    obtain ⟨υ, b1, b2, b3, b4, b5, b6, b7, b8, b9, b10⟩ := ev_back2 hi2 hf2 (by rw [him]; decide)
    refine ⟨1, τ, υ, ?_, b1, ?_⟩
    · unfold fX8_goBack
      rw [isW, ob, ifz1 hin, gR1 0 8, o0_7, ob, l49, e49, ob, gI kA, ob, k7, him, if_neg (by decide), gR1 0 8, o0_6, ob, ob, l49, e49, ob, vC1 32 5, a1, ob]
    · have hout := hC.outer (f' := τ.1) (g' := υ.1) (fun x hx => a3 x (by omega) (by omega)) (fun x hx => b3 x (by omega) (by omega) (by omega) (by omega) (by omega)) b4
      obtain ⟨q1, q2, q3, q4, q5, q6⟩ := hout
      have fr : ∀ x, (x < 32 ∨ 35 < x) → (x ≤ S ∨ S + 12 < x) → τ.1 x = σ1.1 x := a3
      have oth : ∀ (i' A' : Nat), ((i' = 0 ∧ A' = 50) ∨ (i' = 1 ∧ A' = 67)) → pImg n c t i' A' σ1.1 σ2.1 → pImg n c t i' A' τ.1 υ.1 := by
        intro i' A' hi' h
        unfold pImg at h ⊢
        rw [fr A' (by omega) (by omega), b3 22 (by decide) (by decide) (by decide) (by decide) (by decide), b3 23 (by decide) (by decide) (by decide) (by decide) (by decide)]
        exact ⟨h.1, h.2.imp id (fun q => ⟨q.1, q.2.fr (fr _ (by omega) (by omega)) (fr _ (by omega) (by omega)) (fr _ (by omega) (by omega)) (fr _ (by omega) (by omega)) (fun s hs => fr _ (by omega) (by omega))⟩)⟩
      refine ⟨by rw [a2]; exact hr, by rw [b2]; exact hf2, q1, q2, q3, q4, ?_, q5, q6, oth 0 50 (Or.inl ⟨rfl, rfl⟩) hi0, oth 1 67 (Or.inr ⟨rfl, rfl⟩) hi1⟩
      exact hsi.cp hn40 hc12 ⟨a4, a5, a6, a7⟩ ⟨a9, a10⟩ a11 a12 a13 b7 b6 b8 b5 b9 b10
theorem s_goBack : st_goBack Cpl := by
  intro σ1 σ2 hC p1
  by_cases h : 0 ≤ p1 ∧ p1 ≤ 1
  · obtain ⟨i, hi, rfl⟩ := (inK 1 rfl (by decide)).mp h
    obtain ⟨M, M', R, R', S, S', n, c, t, hC⟩ := hC
    obtain ⟨r, x, y, a, b, d⟩ := back_step (i := i) (A := if i = 0 then 50 else 67) hC (by by_cases e : i = 0; exact Or.inl ⟨e, if_pos e⟩; exact Or.inr ⟨by omega, if_neg e⟩)
    exact ⟨r, x, y, a, b, M, M', R, R', S, S', n, c, t, d⟩
  · unfold fX8_goBack fX9_goBack
    rw [isW, in9 0 1 (L := 0) (H := 1) rfl rfl, ob, ob, ifz0 h, ifz0 h]
    exact ⟨_, σ1, σ2, rfl, rfl, hC⟩
