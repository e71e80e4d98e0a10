theorem s_told : st_told Cpl := by
  intro σ1 σ2 hC p1
  obtain ⟨M, M', R, R', S, S', n, c, t, hC⟩ := hC
  have hQ := hC
  obtain ⟨hr, hf2, hT, hm, hc2, ht, hst, hcr, hb, hi0, hi1⟩ := hQ
  have hr0 := hr
  have hf20 := hf2
  obtain ⟨hMe, hR, hS, e01, e02, e03, e04, e05, e322, ⟨o0_0, o0_6, o0_7, o0_8, o0_9, o0_10, o0_12, o0_13, o1_0, o32_0, o32_1, o33_0, o98_0, o94_0, o94_1, o84_0, o84_1, o49_0, o49_1, o50_0, o51_0, o50_1, o50_2, o67_0, o68_0, o67_1, o67_2, o3_0, o3_1, o6_0, o6_1, o9_0, o9_1, o9_2, o9_3, o14_0, o14_1, o14_2, o14_3⟩, hrow, hodd⟩ := hr0
  obtain ⟨w1, w2, w4, w6, w7, w8, w10, w12, w21, w22, w24, w25, w26, w27, w28, w29, w30, w31, w33, w34, w36, w37, w38⟩ := hf20
  obtain ⟨kM, kM1, kM1n, kM2, kM2n⟩ := kMel hMe
  obtain ⟨kR, ⟨kR1, kR1n⟩, ⟨kR2, kR2n⟩, ⟨kR3, kR3n⟩, ⟨kR4, kR4n⟩⟩ := kTri hR
  obtain ⟨⟨kS, kSn⟩, kSs⟩ := kRow hS
  obtain ⟨em0, em1⟩ := hr.mel
  obtain ⟨et0, et1, et2, et3⟩ := hr.tri
  have erow := hr.row
  obtain ⟨hn40, hn1, hn2, hnk⟩ := id hm
  obtain ⟨ht6, ht1, ht2, htk⟩ := id ht
  obtain ⟨hc12, hc2e⟩ := id hc2
  obtain ⟨hs3, hsw, hsr, hss, hsg, hse, hse0⟩ := id hst
  obtain ⟨N, P, hN, hP, eN, eP, hNP⟩ := id hsr
  obtain ⟨w, hw, hw1, hw2, hwk, hfa⟩ := id hT
  obtain ⟨mb, hmb8, hmb1, hmb2, hmbk⟩ := id hb
  obtain ⟨m, hm8, hm1, hm2, hmk⟩ := id hcr
  have hsw2 : σ1.1 33 2 = σ2.1 0 9 := hsg.1
  have d0 := ev_doneSet (c1 := 0) ht2 ht6 w8
  have d1 := ev_doneSet (c1 := 1) ht2 ht6 w8
  rw [ds_N ht6 hN (fun i hi => ⟨(hNP i hi).1, (hNP i hi).2.1, (hNP i hi).2.2.2⟩)] at d0
  rw [ds_P ht6 hP (fun i hi => ⟨(hNP i hi).2.2.1, (hNP i hi).2.2.2⟩)] at d1
  unfold fX8_told fX9_told
  by_cases h0 : p1 = 0
  · rw [if_pos h0, if_pos h0]
    simp (disch := first | with_reducible assumption | (unfold kd; decide) | (unfold kl; decide) | decide | (apply t_lt; omega)) only [gR, gI, ob, e01, hn1, hn2]
    exact ⟨_, σ1, σ2, rfl, rfl, ⟨M, M', R, R', S, S', n, c, t, hC⟩⟩
  rw [if_neg h0, if_neg h0]
  by_cases h1 : p1 = 1
  · rw [if_pos h1, if_pos h1]
    simp (disch := first | with_reducible assumption | (unfold kd; decide) | (unfold kl; decide) | decide | (apply t_lt; omega)) only [gR, gI, ob, o0_6, hs3, hc2e]
    exact ⟨_, σ1, σ2, rfl, rfl, ⟨M, M', R, R', S, S', n, c, t, hC⟩⟩
  rw [if_neg h1, if_neg h1]
  by_cases h2 : p1 = 2
  · rw [if_pos h2, if_pos h2]
    simp (disch := first | with_reducible assumption | (unfold kd; decide) | (unfold kl; decide) | decide | (apply t_lt; omega)) only [gR, gI, ob, e03, ht1, ht2]
    exact ⟨_, σ1, σ2, rfl, rfl, ⟨M, M', R, R', S, S', n, c, t, hC⟩⟩
  rw [if_neg h2, if_neg h2]
  by_cases h3 : p1 = 3
  · rw [if_pos h3, if_pos h3]
    simp (disch := first | with_reducible assumption | (unfold kd; decide) | (unfold kl; decide) | decide | (apply t_lt; omega)) only [gR, gI, ob, o0_0, hw1, hw2]
    exact ⟨_, σ1, σ2, rfl, rfl, ⟨M, M', R, R', S, S', n, c, t, hC⟩⟩
  rw [if_neg h3, if_neg h3]
  by_cases h4 : p1 = 4
  · rw [if_pos h4, if_pos h4]
    simp (disch := first | with_reducible assumption | (unfold kd; decide) | (unfold kl; decide) | decide | (apply t_lt; omega)) only [gR, gI, ob, o0_6, o32_0, hsw2]
    exact ⟨_, σ1, σ2, rfl, rfl, ⟨M, M', R, R', S, S', n, c, t, hC⟩⟩
  rw [if_neg h4, if_neg h4]
  by_cases h5 : p1 = 5
  · rw [if_pos h5, if_pos h5]
    simp (disch := first | with_reducible assumption | (unfold kd; decide) | (unfold kl; decide) | decide | (apply t_lt; omega)) only [gR, gI, ob, hmb1, hmb2]
    exact ⟨_, σ1, σ2, rfl, rfl, ⟨M, M', R, R', S, S', n, c, t, hC⟩⟩
  rw [if_neg h5, if_neg h5]
  by_cases h6 : p1 = 6
  · rw [if_pos h6, if_pos h6]
    simp (disch := first | with_reducible assumption | (unfold kd; decide) | (unfold kl; decide) | decide | (apply t_lt; omega)) only [gR, gI, ob, o0_9, hm1, hm2]
    exact ⟨_, σ1, σ2, rfl, rfl, ⟨M, M', R, R', S, S', n, c, t, hC⟩⟩
  rw [if_neg h6, if_neg h6]
  by_cases h7 : p1 = 7
  · rw [if_pos h7, if_pos h7]
    simp (disch := first | with_reducible assumption | (unfold kd; decide) | (unfold kl; decide) | decide | (apply t_lt; omega)) only [gR, gI, ob, vC, o0_6, eN, d0]
    exact ⟨_, σ1, σ2, rfl, rfl, ⟨M, M', R, R', S, S', n, c, t, hC⟩⟩
  rw [if_neg h7, if_neg h7]
  by_cases h8 : p1 = 8
  · rw [if_pos h8, if_pos h8]
    simp (disch := first | with_reducible assumption | (unfold kd; decide) | (unfold kl; decide) | decide | (apply t_lt; omega)) only [gR, gI, ob, vC, o0_6, eP, d1]
    exact ⟨_, σ1, σ2, rfl, rfl, ⟨M, M', R, R', S, S', n, c, t, hC⟩⟩
  rw [if_neg h8, if_neg h8]
  exact ⟨_, σ1, σ2, rfl, rfl, ⟨M, M', R, R', S, S', n, c, t, hC⟩⟩
theorem pState.res {n c t A S : Nat} {f f' : Nat → Nat → Int32} {gW gR gR' gS gG : Nat → Int32} {su se : Int32} (h : pState n c t A S f gW gR gS gG su se) (hr : pRes t (f' A 4) (f' A 5) gR') (e3 : f' A 3 = f A 3) (e6 : f' A 6 = f A 6) (e1 : f' (A + 1) = f (A + 1)) (e2 : f' (A + 2) = f (A + 2)) (ew : f' (A + 3) = f (A + 3)) (es : ∀ s, s < c → f' (S + 1 + s) = f (S + 1 + s)) : pState n c t A S f' gW gR' gS gG su se := by
  obtain ⟨h1, h2, h3, h4, h5, h6⟩ := h
  unfold pState
  rw [e3, e6, e1, e2, ew]
  exact ⟨h1, h2, hr, fun s hs => ⟨fun j hj => by rw [es s hs]; exact (h4 s hs).1 j hj, (h4 s hs).2⟩, h5, h6⟩
/-- new results on both sides -/
theorem pCpl.res {M M' R R' S S' n c t : Nat} {σ1 σ2 σ1' σ2' : hM} (h : pCpl M M' R R' S S' n c t σ1 σ2) (q1 : σ1'.2.2 = σ1.2.2) (q2 : σ2'.2.2 = σ2.2.2) (f1 : ∀ a, a ≠ 32 → σ1'.1 a = σ1.1 a) (f2 : ∀ k, k ≠ 4 → k ≠ 5 → σ1'.1 32 k = σ1.1 32 k) (g1 : ∀ a, a ≠ 6 → σ2'.1 a = σ2.1 a) (hr : pRes t (σ1'.1 32 4) (σ1'.1 32 5) (σ2'.1 6)) : pCpl M M' R R' S S' n c t σ1' σ2' := by
  obtain ⟨hr1, hf2, hT, hm, hc2, ht, hst, hcr, hb, h0, h1⟩ := h
  have hM := hr1.1
  have hR := hr1.2.1
  have hS := hr1.2.2.1
  have hc12 := hc2.1
  refine ⟨by rw [q1]; exact hr1, by rw [q2]; exact hf2, ?_, ?_, ?_, ?_, ?_, ?_, ?_, ?_, ?_⟩
  · unfold pText at *
    rw [f1 1 (by decide), f1 2 (by decide), g1 0 (by decide), g1 8 (by decide)]; exact hT
  · unfold pMel at *
    rw [f1 M (by omega), f1 (M + 1) (by omega), f1 (M + 2) (by omega), g1 0 (by decide), g1 1 (by decide), g1 2 (by decide)]; exact hm
  · rw [g1 0 (by decide)]; exact hc2
  · unfold pTask at *
    rw [f1 R (by omega), f1 (R + 1) (by omega), f1 (R + 2) (by omega), f1 (R + 3) (by omega), f1 (R + 4) (by omega), g1 0 (by decide), g1 4 (by decide)]; exact ht
  · rw [g1 5 (by decide), g1 3 (by decide), g1 7 (by decide), g1 0 (by decide)]
    exact hst.res hr (f2 3 (by decide) (by decide)) (f2 6 (by decide) (by decide)) (f1 _ (by decide)) (f1 _ (by decide)) (f1 _ (by decide)) (fun s hs => f1 _ (by omega))
  · unfold pCrowd at *
    rw [f1 94 (by decide), f1 95 (by decide), g1 0 (by decide), g1 19 (by decide)]; exact hcr
  · unfold pBook at *
    rw [f1 0 (by decide), f1 97 (by decide), g1 0 (by decide), g1 21 (by decide)]; exact hb
  · unfold pImg at *
    rw [f1 50 (by decide), g1 23 (by decide), g1 22 (by decide)]
    exact ⟨h0.1, h0.2.imp id (fun q => ⟨q.1, q.2.fr (f1 _ (by decide)) (f1 _ (by decide)) (f1 _ (by decide)) (f1 _ (by decide)) (fun s hs => f1 _ (by omega))⟩)⟩
  · unfold pImg at *
    rw [f1 67 (by decide), g1 23 (by decide), g1 22 (by decide)]
    exact ⟨h1.1, h1.2.imp id (fun q => ⟨q.1, q.2.fr (f1 _ (by decide)) (f1 _ (by decide)) (f1 _ (by decide)) (f1 _ (by decide)) (fun s hs => f1 _ (by omega))⟩)⟩
theorem ifb1 {α : Type} {b : Bool} {x y : α} (h : b = true) : (if (if b = true then (1 : Int32) else 0) = 0 then x else y) = y := by rw [if_pos h]; rfl
theorem ifb0 {α : Type} {b : Bool} {x y : α} (h : b = false) : (if (if b = true then (1 : Int32) else 0) = 0 then x else y) = x := by rw [h]; rfl
theorem s_result : st_result Cpl := by
  intro σ1 σ2 hC p1 p2 hp2
  obtain ⟨M, M', R, R', S, S', n, c, t, hC⟩ := hC
  have hQ := hC
  obtain ⟨hr, hf2, hT, hm, hc2, ht, hst, hcr, hb, hi0, hi1⟩ := hQ
  have hr0 := hr
  have hf20 := hf2
  obtain ⟨hMe, hR, hS, e01, e02, e03, e04, e05, e322, ⟨o0_0, o0_6, o0_7, o0_8, o0_9, o0_10, o0_12, o0_13, o1_0, o32_0, o32_1, o33_0, o98_0, o94_0, o94_1, o84_0, o84_1, o49_0, o49_1, o50_0, o51_0, o50_1, o50_2, o67_0, o68_0, o67_1, o67_2, o3_0, o3_1, o6_0, o6_1, o9_0, o9_1, o9_2, o9_3, o14_0, o14_1, o14_2, o14_3⟩, hrow, hodd⟩ := hr0
  obtain ⟨w1, w2, w4, w6, w7, w8, w10, w12, w21, w22, w24, w25, w26, w27, w28, w29, w30, w31, w33, w34, w36, w37, w38⟩ := hf20
  obtain ⟨kM, kM1, kM1n, kM2, kM2n⟩ := kMel hMe
  obtain ⟨kR, ⟨kR1, kR1n⟩, ⟨kR2, kR2n⟩, ⟨kR3, kR3n⟩, ⟨kR4, kR4n⟩⟩ := kTri hR
  obtain ⟨⟨kS, kSn⟩, kSs⟩ := kRow hS
  obtain ⟨em0, em1⟩ := hr.mel
  obtain ⟨et0, et1, et2, et3⟩ := hr.tri
  have erow := hr.row
  obtain ⟨hn40, hn1, hn2, hnk⟩ := id hm
  obtain ⟨ht6, ht1, ht2, htk⟩ := id ht
  obtain ⟨hc12, hc2e⟩ := id hc2
  obtain ⟨hs3, hsw, hsr, hss, hsg, hse, hse0⟩ := id hst
  obtain ⟨N, P, hN, hP, eN, eP, hNP⟩ := id hsr
  unfold fX8_result fX9_result
  by_cases h : 0 ≤ p1 ∧ p1 ≤ nI t - 1
  · obtain ⟨i, hi, rfl⟩ := (inN (by omega)).mp h
    have hi6 : i < 6 := by omega
    have hd := ev_isDone (σ := σ1) (A := 32) rfl eN hN hi6
    have hd6 := hNP i hi6
    by_cases h0 : σ2.1 6 i = 0
    · have hb0 : N.testBit i = false := by rw [hd6.2.1, h0]; rfl
      have b0 := decide_eq_false_iff_not.mp (show decide (N.testBit i = true) = false by rw [hb0]; rfl)
      have hP0 : P.testBit i = false := by rw [hd6.2.2.1, h0]; rfl
      have hN' : (N ||| 2 ^ i) < 64 := Nat.or_lt_two_pow (n := 6) hN (Nat.pow_lt_pow_right (by decide) hi6)
      have hP' : (P ||| 2 ^ i) < 64 := Nat.or_lt_two_pow (n := 6) hP (Nat.pow_lt_pow_right (by decide) hi6)
      have bits : ∀ v : Int32, (v = 1 ∨ v = 2) → ∀ j, j < 6 → ((wI σ2 6 i v).1 6 j = 0 ∨ (wI σ2 6 i v).1 6 j = 1 ∨ (wI σ2 6 i v).1 6 j = 2) ∧ (N ||| 2 ^ i).testBit j = decide ((wI σ2 6 i v).1 6 j ≠ 0) ∧ (if v = 1 then P ||| 2 ^ i else P).testBit j = decide ((wI σ2 6 i v).1 6 j = 1) ∧ (t ≤ j → (wI σ2 6 i v).1 6 j = 0) := by
        intro v hv j hj
        obtain ⟨a1, a2, a3, a4⟩ := hNP j hj
        rw [wIs]
        by_cases e : j = i
        · subst e
          rw [if_pos rfl, bitset]
          refine ⟨Or.inr hv, ?_, ?_, fun q => absurd q (by omega)⟩
          · rcases hv with rfl | rfl <;> simp
          · rcases hv with rfl | rfl
            · rw [if_pos rfl, bitset]; simp
            · rw [if_neg (by decide), hP0]; rfl
        · rw [if_neg e, bitset]
          refine ⟨a1, by rw [a2]; simp [e], ?_, a4⟩
          by_cases hv1 : v = 1
          · rw [if_pos hv1, bitset, a3]; simp [e]
          · rw [if_neg hv1, a3]
      have hm' : ∀ v : Int32, (v = 1 ∨ v = 2) → fX9_doneMany kT2 0 (wI σ2 6 i v) = some (nI (bc (N ||| 2 ^ i)), wI σ2 6 i v) := by
        intro v hv
        rw [ev_doneMany (σ := wI σ2 6 i v) (t := t) (by rw [wIn (by decide)]; exact ht2) ht6 w8, dm_bc (N := N ||| 2 ^ i) ht6 (fun j hj => ⟨(bits v hv j hj).1, (bits v hv j hj).2.1, (bits v hv j hj).2.2.2⟩)]
      rcases hp2 with rfl | rfl
      · have q := hm' 2 (Or.inr rfl)
        simp (disch := first | with_reducible assumption | (unfold kd; decide) | (unfold kl; decide) | decide | (apply t_lt; omega)) only [gR, gI, pI, ob, vC, iflt, wrr, ev_isTask1 e03 kR ht1, ev_isTask2 ht2, ifz1 h, o0_6, w8, lA 6, sA 6, hd, if_neg b0, if_true, h0, eN, shl31 i, or_nI, wIe, ev_bitCount hN', show (0 : Int32) ≤ 0 from by decide, q]
        refine ⟨_, _, _, rfl, rfl, M, M', R, R', S, S', n, c, t, hC.res rfl rfl (fun a ha => wIn ha) (fun k h4 _ => wIk (fun q => h4 q.2)) (fun a ha => wIn ha) ⟨N ||| 2 ^ i, P, hN', hP, wIe, by rw [wIk (by omega)]; exact eP, fun j hj => ?_⟩⟩
        have b := bits 2 (Or.inr rfl) j hj
        rw [if_neg (show ¬ (2 : Int32) = 1 by decide)] at b
        exact b
      · have q := hm' 1 (Or.inl rfl)
        simp (disch := first | with_reducible assumption | (unfold kd; decide) | (unfold kl; decide) | decide | (apply t_lt; omega)) only [gR, gI, pI, ob, vC, iflt, wrr, ev_isTask1 e03 kR ht1, ev_isTask2 ht2, ifz1 h, o0_6, w8, lA 6, sA 6, hd, if_neg b0, if_true, h0, eN, eP, shl31 i, or_nI, wIe, wIk (show ¬ (32 = 32 ∧ 5 = 4) by decide), wIk (show ¬ (32 = 32 ∧ 4 = 5) by decide), ev_bitCount hN', show (0 : Int32) ≤ 0 from by decide, if_neg (show ¬ (1 : Int32) = 0 by decide), q]
        refine ⟨_, _, _, rfl, rfl, M, M', R, R', S, S', n, c, t, hC.res rfl rfl (fun a ha => (wIn ha).trans (wIn ha)) (fun k h4 h5 => (wIk (fun q => h5 q.2)).trans (wIk (fun q => h4 q.2))) (fun a ha => wIn ha) ⟨N ||| 2 ^ i, P ||| 2 ^ i, hN', hP', by rw [wIk (by omega)]; exact wIe, wIe, fun j hj => ?_⟩⟩
        have b := bits 1 (Or.inl rfl) j hj
        rw [if_pos rfl] at b
        exact b
    · have hb1 : N.testBit i = true := by rw [hd6.2.1]; simp [h0]
      have hg : ¬ σ2.1 6 i ≤ 0 := by
        rcases hd6.1 with q | q | q
        · exact absurd q h0
        · rw [q]; decide
        · rw [q]; decide
      simp (disch := first | with_reducible assumption | (unfold kd; decide) | (unfold kl; decide) | decide | (apply t_lt; omega)) only [gR, gI, ob, vC, ev_isTask1 e03 kR ht1, ev_isTask2 ht2, ifz1 h, o0_6, w8, lA 6, hd, if_pos hb1, if_neg hg, if_neg (show ¬ (1 : Int32) = 0 by decide)]
      exact ⟨_, σ1, σ2, rfl, rfl, ⟨M, M', R, R', S, S', n, c, t, hC⟩⟩
  · simp (disch := first | with_reducible assumption | (unfold kd; decide) | (unfold kl; decide) | decide | (apply t_lt; omega)) only [ob, vC, ev_isTask1 e03 kR ht1, ev_isTask2 ht2, ifz0 h]
    exact ⟨_, σ1, σ2, rfl, rfl, ⟨M, M', R, R', S, S', n, c, t, hC⟩⟩
