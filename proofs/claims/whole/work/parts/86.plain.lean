/-- the points of one who sings plainly, and what is left behind -/
theorem plain_both {σ1 σ2 : hM} {w s n M : Nat} (hS : vS σ1 σ2 98 99 15 w s n M 3) (hA : 98 ≠ w) (o0_12 : σ1.2.2 0 12 = some 98) (w28 : σ2.2.2 0 28 = some 15) (hse : σ1.1 32 6 = σ2.1 0 11) (hse0 : 0 ≤ (σ2.1 0 11).toInt) : ∃ (r : Int32) (υ1 υ2 : hM), fX8_plainPoints kT1 0 w σ1 = some (r, υ1) ∧ fX9_plainScore kT2 0 (nI s) σ2 = some (r, υ2) ∧ vOut σ1 σ2 98 99 15 s n υ1 υ2 ∧ r = (if n = 0 ∨ σ2.1 3 (8 * s) = 7 then 0 else pts (υ2.1 15) (σ2.1 1) n 0 + pts (υ2.1 15) (σ2.1 1) n 1) := by
  obtain ⟨⟨kA, rA, kH, lH⟩, ⟨kw, hwH, hw32, hH32⟩, ⟨kr, lr, hr3⟩, ⟨kM, e01, em0, em1, kM1, lM1, kM2, lM2, hM32, hMH⟩, ⟨o0_6, w1, w2, w4⟩, hs, hmd, hn40, en1, en2, hnk, hy, hok⟩ := id hS
  obtain ⟨υ1, υ2, q1, q2, hO⟩ := sing_all hS ⟨by decide, by decide, hA, by omega⟩ hse hse0
  obtain ⟨g1, g2, g3, g4, g5, g6, g7, g8, g9, g10, g11⟩ := id hO
  replace q1 : fX8_singInto kT1 0 98 w 3 σ1 = some υ1 := q1
  replace q2 : fX9_singInto kT2 0 15 (nI s) 2 1 σ2 = some υ2 := q2
  have z12 : υ1.2.2 0 12 = some 98 := by rw [g1]; exact o0_12
  have z1 : υ1.2.2 0 1 = some M := by rw [g1]; exact e01
  have z28 : υ2.2.2 0 28 = some 15 := by rw [g2]; exact w28
  have rA' : υ1.2.2 98 0 = some 99 := by rw [g1]; exact rA
  have rM : υ1.2.2 M 0 = some (M + 1) := by rw [g1]; exact em0
  have v1 : υ2.2.2 0 1 = some 1 := by rw [g2]; exact w1
  have v4 : υ2.2.2 0 4 = some 3 := by rw [g2]; exact w4
  have en : υ2.1 0 0 = nI n := by rw [g8 0 (by decide)]; exact en2
  have t3 : υ2.1 3 = σ2.1 3 := g7 3 (by decide) (by decide)
  have t1 : υ2.1 1 = σ2.1 1 := g7 1 (by decide) (by decide)
  have uM : υ1.1 (M + 1) = σ1.1 (M + 1) := g3 _ (by omega) (by omega) (by omega)
  have hsi := song_silent (n := n) (c := 0) (size := 0) (who := 0) (su := 0) (s := s) (hts := υ1.1 99) (song := υ2.1 15) (sg := σ2.1 3) g11
  unfold fX8_plainPoints fX9_plainScore
  rw [gR1 0 8, o0_12, ob, vC1 0 8, q1, ob, gR1 0 8, z12, ob, gR1 0 8, z1, ob, vC1 98 4]
  rw [gR2, w28, ob, vC2, q2, ob, gR2, z28, ob, vC2]
  by_cases hq : n = 0 ∨ σ2.1 3 (8 * s) = 7
  · have a1 : ∀ p, fX4_points kT1 98 p M υ1 = some (0, υ1) := fun p => ev_points0 (A := 98) (M := M) (p := p) rfl rA' rfl rfl g6 hn40 (hsi.mpr hq)
    have a2 : ∀ p, fX9_scoreOf kT2 0 15 (nI s) p υ2 = some (0, υ2) := fun p => ev_scoreOf0 (r := 15) (p := p) en hn40 v4 hs (by rw [t3]; exact hq)
    rw [a1, ob, gR1 0 8, z12, ob, gR1 0 8, z1, ob, vC1 98 4, a1, ob, a2, ob, gR2, z28, ob, vC2, a2, ob]
    exact ⟨_, υ1, υ2, rfl, rfl, hO, by rw [if_pos hq]; rfl⟩
  · have h0 : n ≠ 0 := fun q => hq (Or.inl q)
    have a1 : ∀ w, w < 4 → fX4_points kT1 98 (nI w) M υ1 = some (pts (υ2.1 15) (σ2.1 1) n w, υ1) := fun w hw => by
      rw [ev_points (A := 98) (M := M) rfl rA' rfl rfl g6 hn40 kM rM kM1 lM1 h0 (fun q => hq (hsi.mp (Or.inr q))) hw, uM, pts_cong h0 (fun j hj => ⟨(g11 j hj).1, (hnk j hj).1⟩)]
    have a2 : ∀ w, w < 4 → fX9_scoreOf kT2 0 15 (nI s) (nI w) υ2 = some (pts (υ2.1 15) (σ2.1 1) n w, υ2) := fun w hw => by
      rw [ev_scoreOf (r := 15) rfl rfl en hn40 v1 v4 hs h0 (by rw [t3]; exact fun q => hq (Or.inr q)) hw, t1]
    have b0 : fX4_points kT1 98 0 M υ1 = _ := a1 0 (by decide)
    have b1 : fX4_points kT1 98 1 M υ1 = _ := a1 1 (by decide)
    have d0 : fX9_scoreOf kT2 0 15 (nI s) 0 υ2 = _ := a2 0 (by decide)
    have d1 : fX9_scoreOf kT2 0 15 (nI s) 1 υ2 = _ := a2 1 (by decide)
    rw [b0, ob, gR1 0 8, z12, ob, gR1 0 8, z1, ob, vC1 98 4, b1, ob, d0, ob, gR2, z28, ob, vC2, d1, ob]
    exact ⟨_, υ1, υ2, rfl, rfl, hO, by rw [if_neg hq]⟩
