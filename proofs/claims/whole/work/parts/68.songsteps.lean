/-- what both hold of the song that was sung -/
theorem song_silent {n c : Nat} {size who su : Int32} {hts song sg : Nat → Int32} {s : Nat} (h7 : ∀ k, k < n → hts k = song k ∧ (sg (8 * s) = 7 → song k = -1) ∧ (sg (8 * s) ≠ 7 → 0 ≤ (song k).toInt ∧ (song k).toInt ≤ 3600)) : (n = 0 ∨ hts 0 = -1) ↔ (n = 0 ∨ sg (8 * s) = 7) := by
  by_cases h0 : n = 0
  · exact ⟨fun _ => Or.inl h0, fun _ => Or.inl h0⟩
  · obtain ⟨a, b, d⟩ := h7 0 (by omega)
    constructor
    · intro q
      by_cases h : sg (8 * s) = 7
      · exact Or.inr h
      · have := (d h).1
        rw [← a, q.resolve_left h0] at this
        exact absurd this (by decide)
    · intro q
      exact Or.inr (a.trans (b (q.resolve_left h0)))
theorem ifs0 {α : Type} {σ : hM} {x y : α} : (if (((0 : Int32), σ) : Int32 × hM).1 = 0 then x else y) = x := rfl
theorem s_score : st_score Cpl := by
  intro σ1 σ2 hC p1
  obtain ⟨M, M', R, R', S, S', n, c, t, hC⟩ := hC
  have hQ := hC
  obtain ⟨hr, hf2, hT, hm, hc2, ht, hst, hcr, hb, hi0, hi1⟩ := hQ
  have hr0 := hr
  have hf20 := hf2
  obtain ⟨hMe, hR, hS, e01, e02, e03, e04, e05, e322, ⟨o0_0, o0_6, o0_7, o0_8, o0_9, o0_10, o0_12, o0_13, o1_0, o32_0, o32_1, o33_0, o98_0, o94_0, o94_1, o84_0, o84_1, o49_0, o49_1, o50_0, o51_0, o50_1, o50_2, o67_0, o68_0, o67_1, o67_2, o3_0, o3_1, o6_0, o6_1, o9_0, o9_1, o9_2, o9_3, o14_0, o14_1, o14_2, o14_3⟩, hrow, hodd⟩ := hr0
  obtain ⟨w1, w2, w4, w6, w7, w8, w10, w12, w21, w22, w24, w25, w26, w27, w28, w29, w30, w31, w33, w34, w36, w37, w38⟩ := hf20
  obtain ⟨kM, kM1, kM1n, kM2, kM2n⟩ := kMel hMe
  obtain ⟨kR, ⟨kR1, kR1n⟩, ⟨kR2, kR2n⟩, ⟨kR3, kR3n⟩, ⟨kR4, kR4n⟩⟩ := kTri hR
  obtain ⟨⟨kS, kSn⟩, kSs⟩ := kRow hS
  obtain ⟨em0, em1⟩ := hr.mel
  obtain ⟨et0, et1, et2, et3⟩ := hr.tri
  have erow := hr.row
  obtain ⟨hn40, hn1, hn2, hnk⟩ := id hm
  obtain ⟨ht6, ht1, ht2, htk⟩ := id ht
  obtain ⟨hc12, hc2e⟩ := id hc2
  obtain ⟨hs3, hsw, hsr, hss, hsg, hse, hse0⟩ := id hst
  unfold fX8_score fX9_score
  rw [isW, in9 0 3 (L := 0) (H := 3) rfl rfl, ob, ob]
  by_cases h : 0 ≤ p1 ∧ p1 ≤ 3
  · obtain ⟨w, hw, rfl⟩ := (inK 3 rfl (by decide)).mp h
    obtain ⟨hwho, hsg⟩ := hsg
    replace hwho : σ1.1 33 2 = σ2.1 0 9 := hwho
    rcases hsg with hsg | ⟨s, hs, hsu, hsz, hsk⟩
    · simp (disch := first | with_reducible assumption | (unfold kd; decide) | (unfold kl; decide) | decide | (apply t_lt; omega)) only [gI, ob, vC, ifz1 h, ev_hasSong o0_6 o32_0, hwho, hsg, if_true, if_neg (show ¬ (0 : Int32) ≤ -1 by decide)]
      exact ⟨_, σ1, σ2, rfl, rfl, ⟨M, M', R, R', S, S', n, c, t, hC⟩⟩
    · replace hsz : σ1.1 33 1 = nI n := hsz
      have hsi := song_silent (n := n) (c := c) (size := 0) (who := 0) (su := 0) (s := s) hsk
      by_cases hq : n = 0 ∨ σ2.1 3 (8 * s) = 7
      · have a1 := ev_points0 (σ := σ1) (A := 33) (M := M) (p := nI w) rfl o33_0 rfl rfl hsz hn40 (hsi.mpr hq)
        have a2 := ev_scoreOf0 (σ := σ2) (r := 7) (p := nI w) hn2 hn40 w4 (show s < 12 by omega) hq
        simp (disch := first | with_reducible assumption | (unfold kd; decide) | (unfold kl; decide) | decide | (apply t_lt; omega)) only [gI, gR, ob, vC, ifz1 h, ev_hasSong o0_6 o32_0, hwho, hsu, if_neg (nI_m1 (show s < 2 ^ 31 by omega)), if_neg (show ¬ (1 : Int32) = 0 by decide), if_pos (nI_pos' (show s < 2 ^ 31 by omega)), o0_6, o32_0, e01, w10, a1, a2]
        exact ⟨_, σ1, σ2, rfl, rfl, ⟨M, M', R, R', S, S', n, c, t, hC⟩⟩
      · have a1 := ev_points (σ := σ1) (A := 33) (M := M) rfl o33_0 rfl rfl hsz hn40 kM em0 kM1 kM1n (fun q => hq (Or.inl q)) (fun q => hq (hsi.mp (Or.inr q))) hw
        have a2 := ev_scoreOf (σ := σ2) (r := 7) rfl rfl hn2 hn40 w1 w4 (show s < 12 by omega) (fun q => hq (Or.inl q)) (fun q => hq (Or.inr q)) hw
        rw [pts_cong (fun q => hq (Or.inl q)) (fun j hj => ⟨(hsk j hj).1, (hnk j hj).1⟩)] at a1
        simp (disch := first | with_reducible assumption | (unfold kd; decide) | (unfold kl; decide) | decide | (apply t_lt; omega)) only [gI, gR, ob, vC, ifz1 h, ev_hasSong o0_6 o32_0, hwho, hsu, if_neg (nI_m1 (show s < 2 ^ 31 by omega)), if_neg (show ¬ (1 : Int32) = 0 by decide), if_pos (nI_pos' (show s < 2 ^ 31 by omega)), o0_6, o32_0, e01, w10, a1, a2]
        exact ⟨_, σ1, σ2, rfl, rfl, ⟨M, M', R, R', S, S', n, c, t, hC⟩⟩
  · rw [ifz0 h, ifz0 h]
    exact ⟨_, σ1, σ2, rfl, rfl, ⟨M, M', R, R', S, S', n, c, t, hC⟩⟩
theorem ev_isSilent {σ : hM} {n s : Nat} (en : σ.1 0 0 = nI n) (hn : n ≤ 40) (w4 : σ.2.2 0 4 = some 3) (e9 : σ.1 0 9 = nI s) (hs : s < 12) : fX9_isSilent kT2 0 σ = some (if n = 0 ∨ σ.1 3 (8 * s) = 7 then 1 else 0, σ) := by
  unfold fX9_isSilent
  rw [gI2, ob, en]
  by_cases h0 : n = 0
  · subst h0; rw [if_pos nI_0, if_pos (Or.inl rfl)]; rfl
  · rw [if_neg (show ¬ nI n = 0 from nI_ne0 (by omega) (by omega)), gR2, w4, ob, gI2, ob, e9, mul_nI 8 8 rfl, lA2 3 96 (k := 8 * s) (by omega), ob]
    by_cases h7 : σ.1 3 (8 * s) = 7
    · rw [if_pos h7, if_pos (show n = 0 ∨ σ.1 3 (8 * s) = 7 from Or.inr h7)]; rfl
    · rw [if_neg h7, if_neg (show ¬ (n = 0 ∨ σ.1 3 (8 * s) = 7) from fun q => q.elim h0 h7)]; rfl
theorem s_slid : st_slid Cpl := by
  intro σ1 σ2 hC
  obtain ⟨M, M', R, R', S, S', n, c, t, hC⟩ := hC
  have hQ := hC
  obtain ⟨hr, hf2, hT, hm, hc2, ht, hst, hcr, hb, hi0, hi1⟩ := hQ
  have hr0 := hr
  have hf20 := hf2
  obtain ⟨hMe, hR, hS, e01, e02, e03, e04, e05, e322, ⟨o0_0, o0_6, o0_7, o0_8, o0_9, o0_10, o0_12, o0_13, o1_0, o32_0, o32_1, o33_0, o98_0, o94_0, o94_1, o84_0, o84_1, o49_0, o49_1, o50_0, o51_0, o50_1, o50_2, o67_0, o68_0, o67_1, o67_2, o3_0, o3_1, o6_0, o6_1, o9_0, o9_1, o9_2, o9_3, o14_0, o14_1, o14_2, o14_3⟩, hrow, hodd⟩ := hr0
  obtain ⟨w1, w2, w4, w6, w7, w8, w10, w12, w21, w22, w24, w25, w26, w27, w28, w29, w30, w31, w33, w34, w36, w37, w38⟩ := hf20
  obtain ⟨kM, kM1, kM1n, kM2, kM2n⟩ := kMel hMe
  obtain ⟨kR, ⟨kR1, kR1n⟩, ⟨kR2, kR2n⟩, ⟨kR3, kR3n⟩, ⟨kR4, kR4n⟩⟩ := kTri hR
  obtain ⟨⟨kS, kSn⟩, kSs⟩ := kRow hS
  obtain ⟨em0, em1⟩ := hr.mel
  obtain ⟨et0, et1, et2, et3⟩ := hr.tri
  have erow := hr.row
  obtain ⟨hn40, hn1, hn2, hnk⟩ := id hm
  obtain ⟨ht6, ht1, ht2, htk⟩ := id ht
  obtain ⟨hc12, hc2e⟩ := id hc2
  obtain ⟨hs3, hsw, hsr, hss, hsg, hse, hse0⟩ := id hst
  obtain ⟨hwho, hsg⟩ := hsg
  replace hwho : σ1.1 33 2 = σ2.1 0 9 := hwho
  unfold fX8_slid fX9_slid
  rcases hsg with hsg | ⟨s, hs, hsu, hsz, hsk⟩
  · simp (disch := first | with_reducible assumption | (unfold kd; decide) | (unfold kl; decide) | decide | (apply t_lt; omega)) only [gI, ob, vC, ev_hasSong o0_6 o32_0, hwho, hsg, if_true, if_neg (show ¬ (0 : Int32) ≤ -1 by decide)]
    exact ⟨_, σ1, σ2, rfl, rfl, ⟨M, M', R, R', S, S', n, c, t, hC⟩⟩
  · replace hsz : σ1.1 33 1 = nI n := hsz
    have hsi := song_silent (n := n) (c := c) (size := 0) (who := 0) (su := 0) (s := s) hsk
    by_cases hq : n = 0 ∨ σ2.1 3 (8 * s) = 7
    · have a1 : fX4_slide kT1 33 M σ1 = some (0, σ1) := by
        unfold fX4_slide
        rw [vC1 33 4, ev_isHeard (A := 33) rfl o33_0 rfl rfl hsz hn40, ob, if_pos (hsi.mpr hq), if_pos rfl]
      have a2 := ev_isSilent hn2 hn40 w4 hsu (show s < 12 by omega)
      rw [if_pos hq] at a2
      simp (disch := first | with_reducible assumption | (unfold kd; decide) | (unfold kl; decide) | decide | (apply t_lt; omega)) only [gI, gR, ob, vC, ev_hasSong o0_6 o32_0, hwho, hsu, if_neg (nI_m1 (show s < 2 ^ 31 by omega)), if_neg (show ¬ (1 : Int32) = 0 by decide), if_pos (nI_pos' (show s < 2 ^ 31 by omega)), o0_6, o32_0, e01, a1, a2]
      exact ⟨_, σ1, σ2, rfl, rfl, ⟨M, M', R, R', S, S', n, c, t, hC⟩⟩
    · have h0 : n ≠ 0 := fun q => hq (Or.inl q)
      have a1 := ev_slide (σ := σ1) (A := 33) (M := M) rfl o33_0 rfl rfl hsz hn40 kM em0 kM1 kM1n h0 (fun q => hq (hsi.mp (Or.inr q)))
      have a2 := ev_isSilent hn2 hn40 w4 hsu (show s < 12 by omega)
      rw [if_neg hq] at a2
      have en1 : nI n - 1 = nI (n - 1) := by
        have := nI_pred (n - 1)
        rwa [show n - 1 + 1 = n by omega] at this
      have l0 : ald 11 kT2 σ2 7 0 = some (σ2.1 7 0) := lA2 7 40 (k := 0) (by omega)
      have l1 : ald 11 kT2 σ2 1 0 = some (σ2.1 1 0) := lA2 1 40 (k := 0) (by omega)
      rw [(hsk 0 (by omega)).1, (hsk (n - 1) (by omega)).1, (hnk 0 (by omega)).1, (hnk (n - 1) (by omega)).1] at a1
      have l2 : ald 11 kT2 σ2 7 (nI (n - 1)) = some (σ2.1 7 (n - 1)) := lA2 7 40 (by omega)
      have l3 : ald 11 kT2 σ2 1 (nI (n - 1)) = some (σ2.1 1 (n - 1)) := lA2 1 40 (by omega)
      simp (disch := first | with_reducible assumption | (unfold kd; decide) | (unfold kl; decide) | decide | (apply t_lt; omega)) only [gI, gR, ob, vC, ev_hasSong o0_6 o32_0, hwho, hsu, if_neg (nI_m1 (show s < 2 ^ 31 by omega)), if_neg (show ¬ (1 : Int32) = 0 by decide), if_pos (nI_pos' (show s < 2 ^ 31 by omega)), if_true, o0_6, o32_0, e01, w10, w1, hn2, en1, l0, l1, l2, l3, a1, a2, i_home]
      exact ⟨_, σ1, σ2, rfl, rfl, ⟨M, M', R, R', S, S', n, c, t, hC⟩⟩
theorem s_judge : st_judge Cpl := by
  intro σ1 σ2 hC
  obtain ⟨M, M', R, R', S, S', n, c, t, hC⟩ := hC
  have hQ := hC
  obtain ⟨hr, hf2, hT, hm, hc2, ht, hst, hcr, hb, hi0, hi1⟩ := hQ
  have hr0 := hr
  have hf20 := hf2
  obtain ⟨hMe, hR, hS, e01, e02, e03, e04, e05, e322, ⟨o0_0, o0_6, o0_7, o0_8, o0_9, o0_10, o0_12, o0_13, o1_0, o32_0, o32_1, o33_0, o98_0, o94_0, o94_1, o84_0, o84_1, o49_0, o49_1, o50_0, o51_0, o50_1, o50_2, o67_0, o68_0, o67_1, o67_2, o3_0, o3_1, o6_0, o6_1, o9_0, o9_1, o9_2, o9_3, o14_0, o14_1, o14_2, o14_3⟩, hrow, hodd⟩ := hr0
  obtain ⟨w1, w2, w4, w6, w7, w8, w10, w12, w21, w22, w24, w25, w26, w27, w28, w29, w30, w31, w33, w34, w36, w37, w38⟩ := hf20
  obtain ⟨kM, kM1, kM1n, kM2, kM2n⟩ := kMel hMe
  obtain ⟨kR, ⟨kR1, kR1n⟩, ⟨kR2, kR2n⟩, ⟨kR3, kR3n⟩, ⟨kR4, kR4n⟩⟩ := kTri hR
  obtain ⟨⟨kS, kSn⟩, kSs⟩ := kRow hS
  obtain ⟨em0, em1⟩ := hr.mel
  obtain ⟨et0, et1, et2, et3⟩ := hr.tri
  have erow := hr.row
  obtain ⟨hn40, hn1, hn2, hnk⟩ := id hm
  obtain ⟨ht6, ht1, ht2, htk⟩ := id ht
  obtain ⟨hc12, hc2e⟩ := id hc2
  obtain ⟨hs3, hsw, hsr, hss, hsg, hse, hse0⟩ := id hst
  obtain ⟨m, hm40, hm1, hm2, hmk⟩ := id hb
  obtain ⟨hwho, hsg⟩ := hsg
  replace hwho : σ1.1 33 2 = σ2.1 0 9 := hwho
  unfold fX8_judge fX9_judge
  rcases hsg with hsg | ⟨s, hs, hsu, hsz, hsk⟩
  · simp (disch := first | with_reducible assumption | (unfold kd; decide) | (unfold kl; decide) | decide | (apply t_lt; omega)) only [gI, ob, vC, ev_hasSong o0_6 o32_0, hwho, hsg, if_true, if_neg (show ¬ (0 : Int32) ≤ -1 by decide)]
    exact ⟨_, σ1, σ2, rfl, rfl, ⟨M, M', R, R', S, S', n, c, t, hC⟩⟩
  · replace hsz : σ1.1 33 1 = nI n := hsz
    simp (disch := first | with_reducible assumption | (unfold kd; decide) | (unfold kl; decide) | decide | (apply t_lt; omega)) only [gI, ob, vC, ev_hasSong o0_6 o32_0, hwho, hsu, if_neg (nI_m1 (show s < 2 ^ 31 by omega)), if_neg (show ¬ (1 : Int32) = 0 by decide), if_pos (nI_pos' (show s < 2 ^ 31 by omega))]
    have key : ∀ (d k fuel : Nat), k + d = m → d < fuel → ∃ r : Int32, fX8_judge_L12 kT1 0 (fun u10 => some ((-1 : Int32), u10)) fuel (nI k) σ1 = some (r, σ1) ∧ fX9_judge_L13 kT2 0 (fun u10 => some ((-1 : Int32), u10)) fuel (nI k) σ2 = some (r, σ2) := by
      intro d
      induction d with
      | zero =>
        intro k fuel hk hf
        obtain ⟨f, rfl⟩ : ∃ f, fuel = f + 1 := ⟨fuel - 1, by omega⟩
        have e : k = m := by omega
        subst e
        rw [fX8_judge_L12, fX9_judge_L13, gI1 0 8, gI2, ob, ob, hm1, hm2, if_pos (nI_le (Nat.le_refl k) (by omega)), if_pos (nI_le (Nat.le_refl k) (by omega))]
        exact ⟨_, rfl, rfl⟩
      | succ d ih =>
        intro k fuel hk hf
        obtain ⟨f, rfl⟩ : ∃ f, fuel = f + 1 := ⟨fuel - 1, by omega⟩
        rw [fX8_judge_L12, fX9_judge_L13, gI1 0 8, gI2, ob, ob, hm1, hm2, if_neg (nI_ge (show k < m by omega) (by omega)), if_neg (nI_ge (show k < m by omega) (by omega)), gR1 0 8, o0_6, ob, gR1 32 5, o32_0, ob, vC1 33 4, gI2, ob, hn2]
        by_cases hkn : k < n
        · have hh := ev_heightAt (σ := σ1) (A := 33) rfl o33_0 rfl rfl hsz hn40 hkn
          obtain ⟨q1, q2, q3⟩ := hsk k hkn
          replace q1 : σ1.1 34 k = σ2.1 7 k := q1
          rw [q1] at hh
          rw [hh, ob, if_neg (nI_ge hkn (by omega)), gR2, w10, ob, lA2 7 40 (k := k) (by omega), ob]
          by_cases h7 : σ2.1 3 (8 * s) = 7
          · have q := q2 h7
            rw [q, if_pos (show ((-1 : Int32), σ1).1 = -1 from rfl), if_pos (show (-1 : Int32) < 0 by decide)]
            exact ⟨_, rfl, rfl⟩
          · have q := (q3 h7).1
            rw [if_neg (show ¬ (σ2.1 7 k, σ1).1 = -1 from fun e => by rw [show σ2.1 7 k = -1 from e] at q; exact absurd q (by decide)), if_neg (show ¬ σ2.1 7 k < 0 by rw [Int32.lt_iff_toInt_lt, Int32.toInt_zero]; omega), gR1 0 8, o0_10, ob, lA1 97 40 (k := k) (by omega), ob, ev_isNear1, ob, gR2, w36, ob, lA2 21 40 (k := k) (by omega), ob, ob, lA2 7 40 (k := k) (by omega), ob, ev_isNear2, ob, hmk k (by omega)]
            by_cases hq : -50 ≤ σ2.1 21 k - σ2.1 7 k ∧ σ2.1 21 k - σ2.1 7 k ≤ 50
            · rw [ifz1 hq, ifz1 hq]
              simp only [iflt, nI_1]
              exact ih (k + 1) f (by omega) (by omega)
            · rw [ifz0 hq, ifz0 hq]
              exact ⟨_, rfl, rfl⟩
        · rw [ev_heightOut (A := 33) (n := n) rfl hsz (by rw [inN (by omega)]; intro ⟨j, hj, e⟩; have := (nI_eq (by omega) (by omega)).mp e; omega), ob, if_pos (show ((-1 : Int32), σ1).1 = -1 from rfl), if_pos (nI_le (show n ≤ k by omega) (by omega))]
          exact ⟨_, rfl, rfl⟩
    obtain ⟨r, a, b⟩ := key m 0 6000 (by omega) (by omega)
    rw [nI_0] at a b
    exact ⟨r, σ1, σ2, a, b, ⟨M, M', R, R', S, S', n, c, t, hC⟩⟩
