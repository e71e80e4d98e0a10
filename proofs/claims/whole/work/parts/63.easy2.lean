theorem neI {a b : Nat} (ha : a < 2 ^ 31) (hb : b < 2 ^ 31) (h : a ≠ b) : ¬ nI a = nI b := fun e => h ((nI_eq ha hb).mp e)
theorem s_weigh : st_weigh Cpl := by
  intro σ1 σ2 hC p1 p2
  obtain ⟨M, M', R, R', S, S', n, c, t, hC⟩ := hC
  have hQ := hC
  obtain ⟨hr, hf2, hT, hm, hc2, ht, hst, hcr, hb, hi0, hi1⟩ := hQ
  have hr0 := hr
  have hf20 := hf2
  obtain ⟨hMe, hR, hS, e01, e02, e03, e04, e05, e322, ⟨o0_0, o0_6, o0_7, o0_8, o0_9, o0_10, o0_12, o0_13, o1_0, o32_0, o32_1, o33_0, o98_0, o94_0, o94_1, o84_0, o84_1, o49_0, o49_1, o50_0, o51_0, o50_1, o50_2, o67_0, o68_0, o67_1, o67_2, o3_0, o3_1, o6_0, o6_1, o9_0, o9_1, o9_2, o9_3, o14_0, o14_1, o14_2, o14_3⟩, hrow, hodd⟩ := hr0
  obtain ⟨w1, w2, w4, w6, w7, w8, w10, w12, w21, w22, w24, w25, w26, w27, w28, w29, w30, w31, w33, w34, w36, w37, w38⟩ := hf20
  obtain ⟨kM, kM1, kM1n, kM2, kM2n⟩ := kMel hMe
  obtain ⟨kR, ⟨kR1, kR1n⟩, ⟨kR2, kR2n⟩, ⟨kR3, kR3n⟩, ⟨kR4, kR4n⟩⟩ := kTri hR
  obtain ⟨⟨kS, kSn⟩, kSs⟩ := kRow hS
  obtain ⟨em0, em1⟩ := hr.mel
  obtain ⟨et0, et1, et2, et3⟩ := hr.tri
  have erow := hr.row
  obtain ⟨hn40, hn1, hn2, hnk⟩ := id hm
  obtain ⟨ht6, ht1, ht2, htk⟩ := id ht
  obtain ⟨hc12, hc2e⟩ := id hc2
  obtain ⟨hs3, hsw, hsr, hss, hsg, hse, hse0⟩ := id hst
  unfold fX8_weigh fX9_weigh
  rw [ev_isType1, in9 0 15 (L := 0) (H := 15) rfl rfl, ob, ob]
  by_cases h : 0 ≤ p1 ∧ p1 ≤ 15
  · rw [ifz1 h, ifz1 h, isW, in9 0 99 (L := 0) (H := 99) rfl rfl, ob, ob]
    obtain ⟨k, hk, rfl⟩ := (inK 15 rfl (by decide)).mp h
    by_cases h2 : 0 ≤ p2 ∧ p2 ≤ 99
    · rw [ifz1 h2, ifz1 h2]
      simp (disch := first | with_reducible assumption | (unfold kd; decide) | (unfold kl; decide) | decide | (apply t_lt; omega)) only [gR, gI, ob, o0_6, o32_1, w7, lA 16, sA 16]
      refine ⟨σ1.1 35 k, wI σ1 35 k p2, wI σ2 5 k p2, rfl, by rw [show σ1.1 35 k = σ2.1 5 k from (hsw k hk).1], M, M', R, R', S, S', n, c, t, hr, hf2, (hT.w1 (by omega)).w2 (by omega), (hm.w1 (by omega)).w2 (by omega), ⟨hc12, by rw [wIk (by omega)]; exact hc2e⟩, (ht.w1 (by omega)).w2 (by omega), ?_, (hcr.w1 (by omega)).w2 (by omega), (hb.w1 (by omega)).w2 (by omega), (hi0.w1 hc12 (by omega)).w2 (by omega), (hi1.w1 hc12 (by omega)).w2 (by omega)⟩
      rw [wIn (a := 5) (b := 6) (by omega), wIn (a := 5) (b := 3) (by omega), wIn (a := 5) (b := 7) (by omega), wIk (by omega), wIk (by omega)]
      refine ⟨by rw [wIk (by omega)]; exact hs3, fun j hj => ?_, by rw [wIk (by omega), wIk (by omega)]; exact hsr, fun s hs => ⟨fun j hj => by rw [wIn (by omega)]; exact (hss s hs).1 j hj, (hss s hs).2⟩, by rw [wIn (by omega), wIn (by omega)]; exact hsg, by rw [wIk (by omega)]; exact hse, hse0⟩
      rw [wIs, wIs]
      by_cases e : j = k
      · rw [if_pos e, if_pos e]
        rw [Int32.le_iff_toInt_le, Int32.le_iff_toInt_le] at h2
        exact ⟨rfl, h2.1, h2.2⟩
      · rw [if_neg e, if_neg e]
        exact hsw j hj
    · rw [ifz0 h2, ifz0 h2]
      exact ⟨_, σ1, σ2, rfl, rfl, ⟨M, M', R, R', S, S', n, c, t, hC⟩⟩
  · rw [ifz0 h, ifz0 h]
    exact ⟨_, σ1, σ2, rfl, rfl, ⟨M, M', R, R', S, S', n, c, t, hC⟩⟩
theorem s_write : st_write Cpl := by
  intro σ1 σ2 hC p1
  obtain ⟨M, M', R, R', S, S', n, c, t, hC⟩ := hC
  have hQ := hC
  obtain ⟨hr, hf2, hT, hm, hc2, ht, hst, hcr, hb, hi0, hi1⟩ := hQ
  have hr0 := hr
  have hf20 := hf2
  obtain ⟨hMe, hR, hS, e01, e02, e03, e04, e05, e322, ⟨o0_0, o0_6, o0_7, o0_8, o0_9, o0_10, o0_12, o0_13, o1_0, o32_0, o32_1, o33_0, o98_0, o94_0, o94_1, o84_0, o84_1, o49_0, o49_1, o50_0, o51_0, o50_1, o50_2, o67_0, o68_0, o67_1, o67_2, o3_0, o3_1, o6_0, o6_1, o9_0, o9_1, o9_2, o9_3, o14_0, o14_1, o14_2, o14_3⟩, hrow, hodd⟩ := hr0
  obtain ⟨w1, w2, w4, w6, w7, w8, w10, w12, w21, w22, w24, w25, w26, w27, w28, w29, w30, w31, w33, w34, w36, w37, w38⟩ := hf20
  obtain ⟨kM, kM1, kM1n, kM2, kM2n⟩ := kMel hMe
  obtain ⟨kR, ⟨kR1, kR1n⟩, ⟨kR2, kR2n⟩, ⟨kR3, kR3n⟩, ⟨kR4, kR4n⟩⟩ := kTri hR
  obtain ⟨⟨kS, kSn⟩, kSs⟩ := kRow hS
  obtain ⟨em0, em1⟩ := hr.mel
  obtain ⟨et0, et1, et2, et3⟩ := hr.tri
  have erow := hr.row
  obtain ⟨hn40, hn1, hn2, hnk⟩ := id hm
  obtain ⟨ht6, ht1, ht2, htk⟩ := id ht
  obtain ⟨hc12, hc2e⟩ := id hc2
  obtain ⟨hs3, hsw, hsr, hss, hsg, hse, hse0⟩ := id hst
  obtain ⟨m, hm8, hm1, hm2, hmk⟩ := id hb
  unfold fX8_write fX9_write
  rw [isW, in9 0 9999 (L := 0) (H := 9999) rfl rfl, ob, ob]
  by_cases h : 0 ≤ p1 ∧ p1 ≤ 9999
  · rw [ifz1 h, ifz1 h]
    by_cases h2 : m = 40
    · subst h2
      simp (disch := first | with_reducible assumption | (unfold kd; decide) | (unfold kl; decide) | decide | (apply t_lt; omega)) only [gI, ob, hm1, hm2, if_neg (show ¬ nI 40 < 40 by decide), if_pos (show nI 40 = 40 by decide)]
      exact ⟨_, σ1, σ2, rfl, rfl, ⟨M, M', R, R', S, S', n, c, t, hC⟩⟩
    · simp (disch := first | with_reducible assumption | (unfold kd; decide) | (unfold kl; decide) | decide | (apply t_lt; omega)) only [gR, gI, pI, ob, hm1, hm2, o0_10, w36, if_pos (show nI m < 40 from nI_lt (b := 40) (by omega) (by decide)), if_neg (show ¬ nI m = 40 from neI (b := 40) (by omega) (by decide) h2), sA 40, wIn (show 0 ≠ 97 by decide), wIn (show 0 ≠ 21 by decide), nI_1, wIe]
      refine ⟨_, _, _, rfl, rfl, M, M', R, R', S, S', n, c, t, hr, hf2, (((hT.w1 (by omega)).w1 (by omega)).w2 (by omega)).w2 (by omega), (((hm.w1 (by omega)).w1 (by omega)).w2 (by omega)).w2 (by omega), ⟨hc12, by rw [wIk (by omega), wIk (by omega)]; exact hc2e⟩, (((ht.w1 (by omega)).w1 (by omega)).w2 (by omega)).w2 (by omega), (((hst.w1 hc12 (by omega)).w1 hc12 (by omega)).w2 (by omega)).w2 (by omega), (((hcr.w1 (by omega)).w1 (by omega)).w2 (by omega)).w2 (by omega), ?_, (((hi0.w1 hc12 (by omega)).w1 hc12 (by omega)).w2 (by omega)).w2 (by omega), (((hi1.w1 hc12 (by omega)).w1 hc12 (by omega)).w2 (by omega)).w2 (by omega)⟩
      refine ⟨m + 1, by omega, wIe, wIe, fun k hk => ?_⟩
      rw [wIn (show 97 ≠ 0 by decide), wIn (show 21 ≠ 0 by decide), wIs, wIs]
      by_cases e : k = m
      · rw [if_pos e, if_pos e]
      · rw [if_neg e, if_neg e]
        exact hmk k (by omega)
  · rw [ifz0 h, ifz0 h]
    exact ⟨_, σ1, σ2, rfl, rfl, ⟨M, M', R, R', S, S', n, c, t, hC⟩⟩
theorem s_join : st_join Cpl := by
  intro σ1 σ2 hC p1
  obtain ⟨M, M', R, R', S, S', n, c, t, hC⟩ := hC
  have hQ := hC
  obtain ⟨hr, hf2, hT, hm, hc2, ht, hst, hcr, hb, hi0, hi1⟩ := hQ
  have hr0 := hr
  have hf20 := hf2
  obtain ⟨hMe, hR, hS, e01, e02, e03, e04, e05, e322, ⟨o0_0, o0_6, o0_7, o0_8, o0_9, o0_10, o0_12, o0_13, o1_0, o32_0, o32_1, o33_0, o98_0, o94_0, o94_1, o84_0, o84_1, o49_0, o49_1, o50_0, o51_0, o50_1, o50_2, o67_0, o68_0, o67_1, o67_2, o3_0, o3_1, o6_0, o6_1, o9_0, o9_1, o9_2, o9_3, o14_0, o14_1, o14_2, o14_3⟩, hrow, hodd⟩ := hr0
  obtain ⟨w1, w2, w4, w6, w7, w8, w10, w12, w21, w22, w24, w25, w26, w27, w28, w29, w30, w31, w33, w34, w36, w37, w38⟩ := hf20
  obtain ⟨kM, kM1, kM1n, kM2, kM2n⟩ := kMel hMe
  obtain ⟨kR, ⟨kR1, kR1n⟩, ⟨kR2, kR2n⟩, ⟨kR3, kR3n⟩, ⟨kR4, kR4n⟩⟩ := kTri hR
  obtain ⟨⟨kS, kSn⟩, kSs⟩ := kRow hS
  obtain ⟨em0, em1⟩ := hr.mel
  obtain ⟨et0, et1, et2, et3⟩ := hr.tri
  have erow := hr.row
  obtain ⟨hn40, hn1, hn2, hnk⟩ := id hm
  obtain ⟨ht6, ht1, ht2, htk⟩ := id ht
  obtain ⟨hc12, hc2e⟩ := id hc2
  obtain ⟨hs3, hsw, hsr, hss, hsg, hse, hse0⟩ := id hst
  obtain ⟨m, hm8, hm1, hm2, hmk⟩ := id hcr
  unfold fX8_join fX9_join
  rw [ev_isHome1, ev_isHome2, ob, ob]
  by_cases h : -1200 ≤ p1 ∧ p1 ≤ 1200
  · rw [ifz1 h, ifz1 h]
    by_cases h2 : m = 8
    · subst h2
      simp (disch := first | with_reducible assumption | (unfold kd; decide) | (unfold kl; decide) | decide | (apply t_lt; omega)) only [gR, gI, ob, o0_9, hm1, hm2, if_neg (show ¬ nI 8 < 8 by decide), if_pos (show nI 8 = 8 by decide)]
      exact ⟨_, σ1, σ2, rfl, rfl, ⟨M, M', R, R', S, S', n, c, t, hC⟩⟩
    · have h8 : nI m < 8 := nI_lt (b := 8) (by omega) (by decide)
      unfold fX0_add
      simp (disch := first | with_reducible assumption | (unfold kd; decide) | (unfold kl; decide) | decide | (apply t_lt; omega)) only [gR, gI, pI, vC, ob, hm1, hm2, o0_9, o94_0, w33, wrr, if_pos h8, if_neg (show ¬ nI m = 8 from neI (b := 8) (by omega) (by decide) h2), sA 8, wIn (show 94 ≠ 95 by decide), wIn (show 0 ≠ 19 by decide), nI_1, wIe]
      refine ⟨_, _, _, rfl, rfl, M, M', R, R', S, S', n, c, t, hr, hf2, (((hT.w1 (by omega)).w1 (by omega)).w2 (by omega)).w2 (by omega), (((hm.w1 (by omega)).w1 (by omega)).w2 (by omega)).w2 (by omega), ⟨hc12, by rw [wIk (by omega), wIk (by omega)]; exact hc2e⟩, (((ht.w1 (by omega)).w1 (by omega)).w2 (by omega)).w2 (by omega), (((hst.w1 hc12 (by omega)).w1 hc12 (by omega)).w2 (by omega)).w2 (by omega), ?_, (((hb.w1 (by omega)).w1 (by omega)).w2 (by omega)).w2 (by omega), (((hi0.w1 hc12 (by omega)).w1 hc12 (by omega)).w2 (by omega)).w2 (by omega), (((hi1.w1 hc12 (by omega)).w1 hc12 (by omega)).w2 (by omega)).w2 (by omega)⟩
      refine ⟨m + 1, by omega, wIe, wIe, fun k hk => ?_⟩
      rw [wIn (show 95 ≠ 94 by decide), wIn (show 19 ≠ 0 by decide), wIs, wIs]
      by_cases e : k = m
      · rw [if_pos e, if_pos e]
        rw [Int32.le_iff_toInt_le, Int32.le_iff_toInt_le] at h
        exact ⟨rfl, h.1, h.2⟩
      · rw [if_neg e, if_neg e]
        exact hmk k (by omega)
  · rw [ifz0 h, ifz0 h]
    exact ⟨_, σ1, σ2, rfl, rfl, ⟨M, M', R, R', S, S', n, c, t, hC⟩⟩
/-! songs -/
theorem ev_hasSong {σ : hM} (e1 : σ.2.2 0 6 = some 32) (e2 : σ.2.2 32 0 = some 33) : fX8_hasSong kT1 0 σ = some (if σ.1 33 2 = -1 then 0 else 1, σ) := by
  unfold fX8_hasSong
  rw [gR1 0 8, e1, ob, gR1 32 5, e2, ob, gI1 33 4, ob]
  by_cases h : σ.1 33 2 = -1
  · rw [if_pos h, if_pos h]; rfl
  · rw [if_neg h, if_neg h]; rfl
theorem nI_m1 {k : Nat} (h : k < 2 ^ 31) : ¬ nI k = -1 := fun e => by
  have := nI_toInt h
  rw [e] at this
  have q : (-1 : Int32).toInt = -1 := by decide
  omega
section SONGS
variable {σ : hM} {A H n M k : Nat}
theorem ev_heightAt (kA : kd kT1 A (4 + 1)) (rA : σ.2.2 A 0 = some H) (kH : kd kT1 H 11) (lH : kl kT1 H 40) (es : σ.1 A 1 = nI n) (hn : n ≤ 40) (hk : k < n) : fX4_heightAt kT1 A (nI k) σ = some (σ.1 H k, σ) := by
  unfold fX4_heightAt
  rw [gI kA, ob, es, isW, ob, ifz1 ((inN (by omega)).mpr ⟨k, hk, rfl⟩), gR kA, rA, ob, lA 40 kH lH (by omega) (by decide), ob]
theorem ev_heightOut {p : Int32} (kA : kd kT1 A (4 + 1)) (es : σ.1 A 1 = nI n) (hp : ¬ (0 ≤ p ∧ p ≤ nI n - 1)) : fX4_heightAt kT1 A p σ = some (-1, σ) := by
  unfold fX4_heightAt
  rw [gI kA, ob, es, isW, ob, ifz0 hp]
theorem ev_homeAt (kA : kd kT1 A (4 + 1)) (rA : σ.2.2 A 0 = some H) (kH : kd kT1 H 11) (lH : kl kT1 H 40) (es : σ.1 A 1 = nI n) (hn : n ≤ 40) (hk : k < n) (kM : kd kT1 M (1 + 1)) (rM : σ.2.2 M 0 = some (M + 1)) (kM1 : kd kT1 (M + 1) 11) (kM1n : kl kT1 (M + 1) 40) : fX4_homeAt kT1 A (nI k) M σ = some (σ.1 H k - σ.1 (M + 1) k, σ) := by
  unfold fX4_homeAt
  rw [gI kA, ob, es, isW, ob, ifz1 ((inN (by omega)).mpr ⟨k, hk, rfl⟩), gR kA, rA, ob, lA 40 kH lH (by omega) (by decide), ob, gR kM, rM, ob, lA 40 kM1 kM1n (by omega) (by decide), ob]
theorem ev_isHeard (kA : kd kT1 A (4 + 1)) (rA : σ.2.2 A 0 = some H) (kH : kd kT1 H 11) (lH : kl kT1 H 40) (es : σ.1 A 1 = nI n) (hn : n ≤ 40) : fX4_isHeard kT1 A σ = some (if n = 0 ∨ σ.1 H 0 = -1 then 0 else 1, σ) := by
  unfold fX4_isHeard
  rw [vC kA]
  by_cases h : n = 0
  · rw [if_pos (Or.inl h), ev_heightOut kA es (by rw [inN (by omega)]; intro ⟨k, hk, _⟩; omega), ob]; rfl
  · rw [show (0 : Int32) = nI 0 from rfl, ev_heightAt kA rA kH lH es hn (by omega), ob]
    by_cases h2 : σ.1 H 0 = -1
    · rw [if_pos (show (σ.1 H 0, σ).1 = -1 from h2), if_pos (show n = 0 ∨ σ.1 H 0 = -1 from Or.inr h2)]; rfl
    · rw [if_neg (show ¬ (σ.1 H 0, σ).1 = -1 from h2), if_neg (show ¬ (n = 0 ∨ σ.1 H 0 = -1) from fun q => q.elim h h2)]; rfl
end SONGS
theorem s_height : st_height Cpl := by
  intro σ1 σ2 hC p1
  obtain ⟨M, M', R, R', S, S', n, c, t, hC⟩ := hC
  have hQ := hC
  obtain ⟨hr, hf2, hT, hm, hc2, ht, hst, hcr, hb, hi0, hi1⟩ := hQ
  have hr0 := hr
  have hf20 := hf2
  obtain ⟨hMe, hR, hS, e01, e02, e03, e04, e05, e322, ⟨o0_0, o0_6, o0_7, o0_8, o0_9, o0_10, o0_12, o0_13, o1_0, o32_0, o32_1, o33_0, o98_0, o94_0, o94_1, o84_0, o84_1, o49_0, o49_1, o50_0, o51_0, o50_1, o50_2, o67_0, o68_0, o67_1, o67_2, o3_0, o3_1, o6_0, o6_1, o9_0, o9_1, o9_2, o9_3, o14_0, o14_1, o14_2, o14_3⟩, hrow, hodd⟩ := hr0
  obtain ⟨w1, w2, w4, w6, w7, w8, w10, w12, w21, w22, w24, w25, w26, w27, w28, w29, w30, w31, w33, w34, w36, w37, w38⟩ := hf20
  obtain ⟨kM, kM1, kM1n, kM2, kM2n⟩ := kMel hMe
  obtain ⟨kR, ⟨kR1, kR1n⟩, ⟨kR2, kR2n⟩, ⟨kR3, kR3n⟩, ⟨kR4, kR4n⟩⟩ := kTri hR
  obtain ⟨⟨kS, kSn⟩, kSs⟩ := kRow hS
  obtain ⟨em0, em1⟩ := hr.mel
  obtain ⟨et0, et1, et2, et3⟩ := hr.tri
  have erow := hr.row
  obtain ⟨hn40, hn1, hn2, hnk⟩ := id hm
  obtain ⟨ht6, ht1, ht2, htk⟩ := id ht
  obtain ⟨hc12, hc2e⟩ := id hc2
  obtain ⟨hs3, hsw, hsr, hss, hsg, hse, hse0⟩ := id hst
  by_cases h : 0 ≤ p1 ∧ p1 ≤ nI n - 1
  · obtain ⟨k, hk, rfl⟩ := (inN (by omega)).mp h
    obtain ⟨hw, hsg⟩ := hsg
    replace hw : σ1.1 33 2 = σ2.1 0 9 := hw
    unfold fX8_height fX9_height
    rcases hsg with hsg | ⟨s, hs, hsu, hsz, hsk⟩
    · simp (disch := first | with_reducible assumption | (unfold kd; decide) | (unfold kl; decide) | decide | (apply t_lt; omega)) only [gR, gI, ob, vC, e01, hn1, isW, ev_isNote2 hn2, ifz1 h, ev_hasSong o0_6 o32_0, hw, hsg, if_true, if_neg (show ¬ (0 : Int32) ≤ -1 by decide)]
      exact ⟨_, σ1, σ2, rfl, rfl, ⟨M, M', R, R', S, S', n, c, t, hC⟩⟩
    · replace hsz : σ1.1 33 1 = nI n := hsz
      simp (disch := first | with_reducible assumption | (unfold kd; decide) | (unfold kl; decide) | decide | (apply t_lt; omega)) only [gR, gI, ob, vC, e01, hn1, isW, ev_isNote2 hn2, ifz1 h, ev_hasSong o0_6 o32_0, hw, hsu, if_neg (nI_m1 (show s < 2 ^ 31 by omega)), if_neg (show ¬ (1 : Int32) = 0 by decide), if_pos (nI_pos' (show s < 2 ^ 31 by omega)), w10, lA 40, o0_6, o32_0, ev_heightAt (A := 33) rfl o33_0 rfl rfl hsz hn40 hk]
      exact ⟨σ1.1 34 k, σ1, σ2, rfl, by rw [← (hsk k hk).1], ⟨M, M', R, R', S, S', n, c, t, hC⟩⟩
  · unfold fX8_height fX9_height
    simp (disch := first | with_reducible assumption | (unfold kd; decide) | (unfold kl; decide) | decide | (apply t_lt; omega)) only [gR, gI, ob, vC, e01, hn1, isW, ev_isNote2 hn2, ifz0 h]
    exact ⟨_, σ1, σ2, rfl, rfl, ⟨M, M', R, R', S, S', n, c, t, hC⟩⟩
