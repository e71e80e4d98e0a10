theorem s_sing : st_sing Cpl := by
  intro σ1 σ2 hC p1 p2
  obtain ⟨M, M', R, R', S, S', n, c, t, hC⟩ := hC
  have hQ := hC
  obtain ⟨hr, hf2, hT, hm, hc2, ht, hst, hcr, hb, hi0, hi1⟩ := hQ
  have hr0 := hr
  have hf20 := hf2
  obtain ⟨hMe, hR, hS, e01, e02, e03, e04, e05, e322, ⟨o0_0, o0_6, o0_7, o0_8, o0_9, o0_10, o0_12, o0_13, o1_0, o32_0, o32_1, o33_0, o98_0, o94_0, o94_1, o84_0, o84_1, o49_0, o49_1, o50_0, o51_0, o50_1, o50_2, o67_0, o68_0, o67_1, o67_2, o3_0, o3_1, o6_0, o6_1, o9_0, o9_1, o9_2, o9_3, o14_0, o14_1, o14_2, o14_3⟩, hrow, hodd⟩ := hr0
  obtain ⟨w1, w2, w4, w6, w7, w8, w10, w12, w21, w22, w24, w25, w26, w27, w28, w29, w30, w31, w33, w34, w36, w37, w38⟩ := hf20
  obtain ⟨kM, kM1, kM1n, kM2, kM2n⟩ := kMel hMe
  obtain ⟨kR, ⟨kR1, kR1n⟩, ⟨kR2, kR2n⟩, ⟨kR3, kR3n⟩, ⟨kR4, kR4n⟩⟩ := kTri hR
  obtain ⟨⟨kS, kSn⟩, kSs⟩ := kRow hS
  obtain ⟨em0, em1⟩ := hr.mel
  obtain ⟨et0, et1, et2, et3⟩ := hr.tri
  have erow := hr.row
  obtain ⟨hn40, hn1, hn2, hnk⟩ := id hm
  obtain ⟨ht6, ht1, ht2, htk⟩ := id ht
  obtain ⟨hc12, hc2e⟩ := id hc2
  obtain ⟨hs3, hsw, hsr, hss, hsg, hse, hse0⟩ := id hst
  unfold fX8_sing fX9_sing
  rw [vC1 0 8, ev_isSinger1 o0_6 hs3, ob, vC2, ev_isSinger2 hc2e, ob]
  by_cases h : 0 ≤ p1 ∧ p1 ≤ nI c - 1
  · obtain ⟨s, hs, rfl⟩ := (inN (by omega)).mp h
    rw [ifz1 h, ifz1 h, isW, ob, in9 0 2 (L := 0) (H := 2) rfl rfl, ob]
    by_cases h2 : 0 ≤ p2 ∧ p2 ≤ 2
    · obtain ⟨md, hmd, rfl⟩ := (inK 2 rfl (by decide)).mp h2
      have hS' : vS σ1 σ2 33 34 7 (S + 1 + s) s n M md := ⟨⟨rfl, o33_0, rfl, rfl⟩, ⟨kSs s (by omega), by omega, by omega, by omega⟩, ⟨rfl, rfl, by omega⟩, ⟨kM, e01, em0, em1, kM1, kM1n, kM2, kM2n, by omega, by omega⟩, ⟨o0_6, w1, w2, w4⟩, by omega, by omega, hn40, hn1, hn2, hnk, (hss s hs).1, (hss s hs).2⟩
      obtain ⟨υ1, υ2, q1, q2, g1, g2, g3, g4, g5, g6, g7, g8, g9, g10, g11⟩ := sing_all hS' (by omega) hse hse0
      rw [if_neg (show ¬ md = 3 by omega), if_neg (show ¬ md = 3 by omega)] at q2
      have z6 : υ1.2.2 0 6 = some 32 := by rw [g1]; exact o0_6
      have z0 : υ1.2.2 32 0 = some 33 := by rw [g1]; exact o32_0
      have z1 : υ1.2.2 0 1 = some M := by rw [g1]; exact e01
      have z10 : υ2.2.2 0 10 = some 7 := by rw [g2]; exact w10
      have lS : aldr 15 kT1 σ1 S (nI s) = some (S + 1 + s) := by rw [lR 12 kS kSn (by omega) (by decide), erow s (by omega)]
      rw [ifz1 h2, ifz1 h2, gR1 0 8, o0_6, ob, gR1 32 5, o32_0, ob, ob, gR1 32 5, e322, ob, lS, ob, vC1 0 8, q1, ob, gR1 0 8, z6, ob, gR1 32 5, z0, ob, pI1 33 4, ob, gR1 0 8, wrr, z6, ob, gR1 32 5, wrr, z0, ob, gR1 0 8, wrr, z1, ob, vC1 33 4]
      rw [gR2, w10, ob, vC2, q2, ob, pI2, ob, gR2, wrr, z10, ob, vC2]
      have hsi := song_silent (n := n) (c := c) (size := 0) (who := 0) (su := 0) (s := s) (hts := υ1.1 34) (song := υ2.1 7) (sg := σ2.1 3) g11
      have hok : pCpl M M' R R' S S' n c t (wI υ1 33 2 (nI s)) (wI υ2 0 9 (nI s)) := by
        have hout := hC.outer (f' := (wI υ1 33 2 (nI s)).1) (g' := (wI υ2 0 9 (nI s)).1) (fun x hx => by rw [wIn (by omega), g3 x (by omega) (by omega) (by omega)]) (fun x hx => by rw [wIn (by omega), g7 x (by omega) (by omega)]) (fun k h9 h11 => by rw [wIk (by omega), g8 k h11])
        obtain ⟨a1, a2, a3, a4, a5, a6⟩ := hout
        have fr : ∀ x, (x < 32 ∨ 34 < x) → (wI υ1 33 2 (nI s)).1 x = σ1.1 x := fun x hx => by rw [wIn (by omega), g3 x (by omega) (by omega) (by omega)]
        have gr2 : ∀ x, x ≠ 0 → x ≠ 7 → (wI υ2 0 9 (nI s)).1 x = σ2.1 x := fun x h0 h7 => by rw [wIn h0, g7 x h7 h0]
        have oth : ∀ (i' A' : Nat), ((i' = 0 ∧ A' = 50) ∨ (i' = 1 ∧ A' = 67)) → pImg n c t i' A' σ1.1 σ2.1 → pImg n c t i' A' (wI υ1 33 2 (nI s)).1 (wI υ2 0 9 (nI s)).1 := by
          intro i' A' hi' h
          unfold pImg at h ⊢
          rw [fr A' (by omega), gr2 22 (by decide) (by decide), gr2 23 (by decide) (by decide)]
          exact ⟨h.1, h.2.imp id (fun q => ⟨q.1, q.2.fr (fr _ (by omega)) (fr _ (by omega)) (fr _ (by omega)) (fr _ (by omega)) (fun s hs => fr _ (by omega))⟩)⟩
        refine ⟨show pRf1 M M' R R' S S' υ1.2.2 by rw [g1]; exact hr, show pRf2 υ2.2.2 by rw [g2]; exact hf2, a1, a2, a3, a4, ?_, a5, a6, oth 0 50 (Or.inl ⟨rfl, rfl⟩) hi0, oth 1 67 (Or.inr ⟨rfl, rfl⟩) hi1⟩
        rw [gr2 5 (by decide) (by decide), gr2 6 (by decide) (by decide), gr2 3 (by decide) (by decide), wIn (show 7 ≠ 0 by decide), wIe, wIk (show ¬ (0 = 0 ∧ 11 = 9) by decide)]
        refine ⟨by rw [wIn (by decide), g4 3 (by decide)]; exact hs3, fun k hk => by rw [fr _ (by omega)]; exact hsw k hk, by rw [wIn (by decide), g4 4 (by decide), g4 5 (by decide)]; exact hsr, fun s hs => ⟨fun j hj => by rw [fr _ (by omega)]; exact (hss s hs).1 j hj, (hss s hs).2⟩, ⟨wIe, Or.inr ⟨s, hs, rfl, by rw [wIk (by decide)]; exact g6, fun k hk => by rw [wIn (by decide)]; exact g11 k hk⟩⟩, by rw [wIn (by decide)]; exact g9, g10⟩
      have esz : (wI υ1 33 2 (nI s)).1 33 1 = nI n := by rw [wIk (by decide)]; exact g6
      have en2' : (wI υ2 0 9 (nI s)).1 0 0 = nI n := by rw [wIk (by decide), g8 0 (by decide)]; exact hn2
      have t3 : (wI υ2 0 9 (nI s)).1 3 = σ2.1 3 := by rw [wIn (by decide), g7 3 (by decide) (by decide)]
      have t7 : (wI υ2 0 9 (nI s)).1 7 = υ2.1 7 := wIn (by decide)
      have t1 : (wI υ2 0 9 (nI s)).1 1 = σ2.1 1 := by rw [wIn (by decide), g7 1 (by decide) (by decide)]
      have u34 : (wI υ1 33 2 (nI s)).1 34 = υ1.1 34 := wIn (by decide)
      have uM : (wI υ1 33 2 (nI s)).1 (M + 1) = σ1.1 (M + 1) := by rw [wIn (by omega), g3 _ (by omega) (by omega) (by omega)]
      have r33 : (wI υ1 33 2 (nI s)).2.2 33 0 = some 34 := by rw [wrr, g1]; exact o33_0
      have rM : (wI υ1 33 2 (nI s)).2.2 M 0 = some (M + 1) := by rw [wrr, g1]; exact em0
      have v1 : (wI υ2 0 9 (nI s)).2.2 0 1 = some 1 := by rw [wrr, g2]; exact w1
      have v4 : (wI υ2 0 9 (nI s)).2.2 0 4 = some 3 := by rw [wrr, g2]; exact w4
      by_cases hq : n = 0 ∨ σ2.1 3 (8 * s) = 7
      · have a1 := ev_points0 (A := 33) (M := M) (p := 0) rfl r33 rfl rfl esz hn40 (by rw [u34]; exact hsi.mpr hq)
        have a2 := ev_scoreOf0 (r := 7) (p := 0) en2' hn40 v4 (show s < 12 by omega) (by rw [t3]; exact hq)
        rw [a1, a2, ob, ob]
        exact ⟨_, _, _, rfl, rfl, M, M', R, R', S, S', n, c, t, hok⟩
      · have h0 : n ≠ 0 := fun q => hq (Or.inl q)
        have a1 := ev_points (A := 33) (M := M) (w := 0) rfl r33 rfl rfl esz hn40 kM rM kM1 kM1n h0 (by rw [u34]; exact fun q => hq (hsi.mp (Or.inr q))) (by decide)
        have a2 := ev_scoreOf (r := 7) (w := 0) rfl rfl en2' hn40 v1 v4 (show s < 12 by omega) h0 (by rw [t3]; exact fun q => hq (Or.inr q)) (by decide)
        rw [nI_0, u34, uM, pts_cong h0 (fun j hj => ⟨(g11 j hj).1, (hnk j hj).1⟩)] at a1
        rw [nI_0, t7, t1] at a2
        rw [a1, a2, ob, ob]
        exact ⟨_, _, _, rfl, rfl, M, M', R, R', S, S', n, c, t, hok⟩
    · rw [ifz0 h2, ifz0 h2]
      exact ⟨_, σ1, σ2, rfl, rfl, ⟨M, M', R, R', S, S', n, c, t, hC⟩⟩
  · rw [ifz0 h, ifz0 h]
    exact ⟨_, σ1, σ2, rfl, rfl, ⟨M, M', R, R', S, S', n, c, t, hC⟩⟩
