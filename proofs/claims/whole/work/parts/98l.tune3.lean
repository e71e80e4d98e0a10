theorem tune_L68 : ∀ (d k fuel : Nat) (υ : hM), k + d = 40 → d < fuel → υ.2.2 0 1 = some 1 → υ.2.2 0 21 = some 9 → υ.2.2 0 2 = some 2 → υ.2.2 0 22 = some 10 → ∃ υ' : hM, (∀ ex : hM → Option (Int32 × hM), fX9_tune_L68 kT2 0 ex fuel (nI k) υ = ex υ') ∧ υ'.2.2 = υ.2.2 ∧ (∀ x, x ≠ 1 → x ≠ 2 → υ'.1 x = υ.1 x) ∧ (∀ j, j < k → υ'.1 1 j = υ.1 1 j ∧ υ'.1 2 j = υ.1 2 j) ∧ ∀ j, k ≤ j → j < 40 → υ'.1 1 j = 100 * υ.1 9 j ∧ υ'.1 2 j = vp_nar .boolean (υ.1 10 j) := by
  intro d
  induction d with
  | zero =>
    intro k fuel υ hk hf r1 r2 r3 r4
    obtain ⟨f, rfl⟩ : ∃ f, fuel = f + 1 := ⟨fuel - 1, by omega⟩
    have e : k = 40 := by omega
    subst e
    exact ⟨υ, fun ex => by rw [fX9_tune_L68, if_pos (by decide)], rfl, fun _ _ _ => rfl, fun _ _ => ⟨rfl, rfl⟩, fun j a b => absurd a (by omega)⟩
  | succ d ih =>
    intro k fuel υ hk hf r1 r2 r3 r4
    obtain ⟨f, rfl⟩ : ∃ f, fuel = f + 1 := ⟨fuel - 1, by omega⟩
    obtain ⟨υ', g1, g2, g3, g4, g5⟩ := ih (k + 1) f (wI (wI υ 1 k (100 * υ.1 9 k)) 2 k (vp_nar .boolean (υ.1 10 k))) (by omega) (by omega) r1 r2 r3 r4
    refine ⟨υ', fun ex => ?_, g2, fun x h1 h2 => by rw [g3 x h1 h2, wIn h2, wIn h1], fun j hj => ?_, fun j h1 h2 => ?_⟩
    · rw [fX9_tune_L68, if_neg (show ¬ (40 : Int32) ≤ nI k from nI_ge (b := 40) (by omega) (by decide)), gR2, r1, ob, gR2, r2, ob, lA2 9 40 (k := k) (by omega), ob, sA2 1 40 (k := k) (by omega), ob, gR2, wrr, r3, ob, gR2, wrr, r4, ob, lZ2 10 40 (k := k) (by omega), ob, wIn (show 10 ≠ 1 by decide), sZ2 2 40 (k := k) (by omega), ob]
      simp only [iflt, nI_1]
      exact g1 ex
    · obtain ⟨z1, z2⟩ := g4 j (by omega)
      rw [z1, z2, wIn (by decide), wIk (by omega), wIk (by omega), wIn (by decide)]
      exact ⟨rfl, rfl⟩
    · by_cases e : j = k
      · subst e
        obtain ⟨z1, z2⟩ := g4 j (by omega)
        rw [z1, z2, wIn (by decide), wIe, wIe]
        exact ⟨rfl, rfl⟩
      · obtain ⟨z1, z2⟩ := g5 j (by omega) h2
        rw [z1, z2, wIn (show 9 ≠ 2 by decide), wIn (show 9 ≠ 1 by decide), wIn (show 10 ≠ 2 by decide), wIn (show 10 ≠ 1 by decide)]
        exact ⟨rfl, rfl⟩
theorem wRq {σ : hM} {a k b j : Nat} {v : Option Nat} : (wR σ a k v).2.2 b j = if b = a ∧ j = k then v else σ.2.2 b j := by simp [wR, h_w2]
theorem pRf1.swapM {M M' R R' S S' : Nat} {ρ ρ' : Nat → Nat → Option Nat} (h : pRf1 M M' R R' S S' ρ) (e1 : ρ' 0 1 = some M') (e2 : ρ' 0 2 = some M) (e : ∀ b j, ¬ (b = 0 ∧ (j = 1 ∨ j = 2)) → ρ' b j = ρ b j) : pRf1 M' M R R' S S' ρ' := by
  obtain ⟨hMe, hR, hS, e01, e02, e03, e04, e05, e322, ⟨o0_0, o0_6, o0_7, o0_8, o0_9, o0_10, o0_12, o0_13, o1_0, o32_0, o32_1, o33_0, o98_0, o94_0, o94_1, o84_0, o84_1, o49_0, o49_1, o50_0, o51_0, o50_1, o50_2, o67_0, o68_0, o67_1, o67_2, o3_0, o3_1, o6_0, o6_1, o9_0, o9_1, o9_2, o9_3, o14_0, o14_1, o14_2, o14_3⟩, hrow, hodd⟩ := h
  refine ⟨by omega, hR, hS, e1, e2, by rw [e _ _ (by omega)]; exact e03, by rw [e _ _ (by omega)]; exact e04, by rw [e _ _ (by omega)]; exact e05, by rw [e _ _ (by omega)]; exact e322, ?_, fun k hk => by rw [e _ _ (by omega), e _ _ (by omega), e _ _ (by omega), e _ _ (by omega)]; exact hrow k hk, fun k hk => by rw [e _ _ (by omega)]; exact hodd k hk⟩
  refine ⟨?_, ?_, ?_, ?_, ?_, ?_, ?_, ?_, ?_, ?_, ?_, ?_, ?_, ?_, ?_, ?_, ?_, ?_, ?_, ?_, ?_, ?_, ?_, ?_, ?_, ?_, ?_, ?_, ?_, ?_, ?_, ?_, ?_, ?_, ?_, ?_, ?_, ?_, ?_⟩ <;> (rw [e _ _ (by omega)]; assumption)
theorem s_tune : st_tune Cpl := by
  intro σ1 σ2 hC
  obtain ⟨M, M', R, R', S, S', n, c, t, hC⟩ := hC
  have hQ := hC
  obtain ⟨hr, hf2, hT, hm, hc2, ht, hst, hcr, hb, hi0, hi1⟩ := hQ
  have hr0 := hr
  have hf20 := hf2
  obtain ⟨hMe, hR, hS, e01, e02, e03, e04, e05, e322, ⟨o0_0, o0_6, o0_7, o0_8, o0_9, o0_10, o0_12, o0_13, o1_0, o32_0, o32_1, o33_0, o98_0, o94_0, o94_1, o84_0, o84_1, o49_0, o49_1, o50_0, o51_0, o50_1, o50_2, o67_0, o68_0, o67_1, o67_2, o3_0, o3_1, o6_0, o6_1, o9_0, o9_1, o9_2, o9_3, o14_0, o14_1, o14_2, o14_3⟩, hrow, hodd⟩ := hr0
  obtain ⟨w1, w2, w4, w6, w7, w8, w10, w12, w21, w22, w24, w25, w26, w27, w28, w29, w30, w31, w33, w34, w36, w37, w38⟩ := hf20
  obtain ⟨kM, kM1, kM1n, kM2, kM2n⟩ := kMel hMe
  obtain ⟨kR, ⟨kR1, kR1n⟩, ⟨kR2, kR2n⟩, ⟨kR3, kR3n⟩, ⟨kR4, kR4n⟩⟩ := kTri hR
  obtain ⟨⟨kS, kSn⟩, kSs⟩ := kRow hS
  obtain ⟨em0, em1⟩ := hr.mel
  obtain ⟨et0, et1, et2, et3⟩ := hr.tri
  have erow := hr.row
  obtain ⟨hn40, hn1, hn2, hnk⟩ := id hm
  obtain ⟨ht6, ht1, ht2, htk⟩ := id ht
  obtain ⟨hc12, hc2e⟩ := id hc2
  obtain ⟨hs3, hsw, hsr, hss, hsg, hse, hse0⟩ := id hst
  obtain ⟨em0', em1'⟩ := hr.mel'
  obtain ⟨w, tx, hJ, hw⟩ := hT.opened (x := M') (j := 2) (v := 0) o1_0 w12 (by omega)
  obtain ⟨kM', kM1', kM1n', kM2', kM2n'⟩ := kMel (M := M') (M' := M) (by omega)
  have hG : tG M' (wI (wI (wI (wI (wI σ1 M' 2 0) 1 2 0) 1 3 0) 1 4 0) 1 5 (-1)) (wI (wI (wI σ2 0 14 (-1)) 0 15 0) 0 20 0) := ⟨⟨kM', kM1', kM1n', kM2', kM2n', by omega, by omega⟩, ⟨em0', em1'⟩, w21, w22⟩
  have hn0 : nR M' (wI (wI (wI (wI (wI σ1 M' 2 0) 1 2 0) 1 3 0) 1 4 0) 1 5 (-1)) (wI (wI (wI σ2 0 14 (-1)) 0 15 0) 0 20 0) 0 := ⟨by decide, by rw [wIn (by omega), wIn (by omega), wIn (by omega), wIn (by omega), wIe, nI_0], by rw [wIe, nI_0], fun k hk => absurd hk (by omega)⟩
  obtain ⟨F, a', m', τ, υ, x1, x2, x3, x4, x5, x6⟩ := tune_L (w := w) (t := tx) w 0 0 6000 6000 0 0 _ _ (by omega) (by omega) (by omega) (by omega) hG hJ hn0 (Or.inl rfl)
  rw [nI_0] at x1
  have hF5 := x5.lt5
  obtain ⟨k5, p5, c5, d5, -⟩ := id x5
  obtain ⟨-, -, c2, c3, c4, c6⟩ := c5
  have fT : ∀ x, x ≠ 1 → (x < M' ∨ M' + 2 < x) → τ.1 x = σ1.1 x := fun x h1 h2 => by rw [x3.2 x h1 h2, wIn h1, wIn h1, wIn h1, wIn h1, wIn (by omega)]
  have gT : ∀ x, x ≠ 0 → x ≠ 9 → x ≠ 10 → υ.1 x = σ2.1 x := fun x h1 h2 h3 => by rw [x4.2.1 x h1 h2 h3, wIn h1, wIn h1, wIn h1]
  have gT0 : ∀ j, (j < 14 ∨ 23 < j) → υ.1 0 j = σ2.1 0 j := fun j hj => by rw [x4.2.2 j hj, wIk (by omega), wIk (by omega), wIk (by omega)]
  have rT : τ.2.2 = σ1.2.2 := x3.1
  have rU : υ.2.2 = σ2.2.2 := x4.1
  have rd : fX1_readFrom kT1 M' 1 σ1 = some τ := by
    unfold fX1_readFrom
    rw [pI kM', ob, vC1 1 6, ev_open, ob, x1]
  have e00 : τ.2.2 0 0 = some 1 := by rw [rT]; exact o0_0
  have hf0 : fX6_hasFault kT1 1 (wI τ 1 1 0) = some (if F = 0 then 0 else 1, wI τ 1 1 0) := by
    unfold fX6_hasFault
    rw [gI1 1 6, ob, wIk (by decide), c4]
    by_cases e : F = 0
    · rw [if_pos e, e, if_pos nI_0]; rfl
    · rw [if_neg e, if_neg (nI_ne0 (by omega) (by omega))]; rfl
  unfold fX8_tune fX9_tune
  rw [gR1 0 8, e02, ob, gR1 0 8, o0_0, ob, vC kM', rd, ob, gR1 0 8, e00, ob, vC1 1 6, ev_clear, ob, gR1 0 8, wrr, e00, ob, vC1 1 6, hf0, ob]
  rw [pI2, ob, pI2, ob, pI2, ob, x2, pI2, ob]
  by_cases hF : F = 0
  · subst hF
    obtain ⟨hm40, hm1, hm2, hmk⟩ := x6 rfl
    have cl1 : ∀ u : hM, u.2.2 = σ1.2.2 → (wR (wR u 0 1 (some M')) 0 2 (some M)).2.2 0 1 = some M' := fun u hu => by rw [wRq, if_neg (by decide), wRq, if_pos ⟨rfl, rfl⟩]
    have cl : ∀ b j, ¬ (b = 0 ∧ (j = 1 ∨ j = 2)) → (wR (wR (wI τ 1 1 0) 0 1 (some M')) 0 2 (some M)).2.2 b j = σ1.2.2 b j := fun b j h => by rw [wRq, if_neg (by omega), wRq, if_neg (by omega), wrr, rT]
    have p1 : ∀ (u : hM) (v : Option Nat), ptr kT1 u 0 8 1 v = some (wR u 0 1 v) := fun u v => pR (show kT1.1 0 = 9 from rfl)
    have p2 : ∀ (u : hM) (v : Option Nat), ptr kT1 u 0 8 2 v = some (wR u 0 2 v) := fun u v => pR (show kT1.1 0 = 9 from rfl)
    have ds := ev_dropSong (σ := wR (wR (wI τ 1 1 0) 0 1 (some M')) 0 2 (some M)) (by rw [cl _ _ (by omega)]; exact o0_6) (by rw [cl _ _ (by omega)]; exact o32_0)
    have di := ev_dropImages (σ := wI (wI (wI (wR (wR (wI τ 1 1 0) 0 1 (some M')) 0 2 (some M)) 33 1 0) 33 2 (-1)) 0 11 0) (by rw [wrr, wrr, wrr, cl _ _ (by omega)]; exact o0_7) (by rw [wrr, wrr, wrr, cl _ _ (by omega)]; exact o49_0) (by rw [wrr, wrr, wrr, cl _ _ (by omega)]; exact o49_1)
    have e1n : (wI (wI (wI (wI (wI (wR (wR (wI τ 1 1 0) 0 1 (some M')) 0 2 (some M)) 33 1 0) 33 2 (-1)) 0 11 0) 50 7 0) 67 7 0).2.2 0 1 = some M' := by
      rw [wrr, wrr, wrr, wrr, wrr, wRq, if_neg (by decide), wRq, if_pos ⟨rfl, rfl⟩]
    have esz : (wI (wI (wI (wI (wI (wR (wR (wI τ 1 1 0) 0 1 (some M')) 0 2 (some M)) 33 1 0) 33 2 (-1)) 0 11 0) 50 7 0) 67 7 0).1 M' 2 = nI m' := by
      rw [wIn (by omega), wIn (by omega), wIn (by omega), wIn (by omega), wIn (by omega)]
      show (wI τ 1 1 0).1 M' 2 = nI m'
      rw [wIn (by omega)]
      exact hm1
    obtain ⟨υ2, y1, y2, y3, -, y5⟩ := tune_L68 40 0 6000 (wI (wI υ 0 13 0) 0 0 (nI m')) (by omega) (by omega) (by rw [wrr, wrr, rU]; exact w1) (by rw [wrr, wrr, rU]; exact w21) (by rw [wrr, wrr, rU]; exact w2) (by rw [wrr, wrr, rU]; exact w22)
    rw [nI_0] at y1
    have es := ev_endSong (υ := υ2) (by rw [y2, wrr, wrr, rU]; exact w38)
    have em : (wI (wI (wI (wI υ2 0 9 (-1)) 0 35 0) 23 0 0) 23 1 0).1 0 0 = nI m' := by
      rw [wIn (by decide), wIn (by decide), wIk (by decide), wIk (by decide), y3 0 (by decide) (by decide), wIe]
    rw [if_pos (show ((if 0 = 0 then (0 : Int32) else 1), wI τ 1 1 0).1 = 0 from rfl), gR1 0 8, wrr, rT, e01, ob, gR1 0 8, wrr, rT, e02, ob, p1, ob, p2, ob, vC1 0 8, ds, ob, vC1 0 8, di, ob, gR1 0 8, e1n, ob, gI kM', ob, esz]
    rw [if_pos (show nI 0 ≤ 0 by decide), gI2, ob, wIk (by decide), hm2, pI2, ob, y1, vC2, es, ob, gI2, ob, em]
    refine ⟨_, _, _, rfl, rfl, M', M, R, R', S, S', m', c, t, ?_⟩
    have fA : ∀ x, x ≠ 0 → x ≠ 1 → x ≠ 33 → x ≠ 50 → x ≠ 67 → (x < M' ∨ M' + 2 < x) → (wI (wI (wI (wI (wI (wR (wR (wI τ 1 1 0) 0 1 (some M')) 0 2 (some M)) 33 1 0) 33 2 (-1)) 0 11 0) 50 7 0) 67 7 0).1 x = σ1.1 x := by
      intro x h0 h1 h33 h50 h67 hm
      rw [wIn h67, wIn h50, wIn h0, wIn h33, wIn h33]
      show (wI τ 1 1 0).1 x = σ1.1 x
      rw [wIn h1, fT x h1 hm]
    have fB : ∀ j, M' ≤ j → j ≤ M' + 2 → (wI (wI (wI (wI (wI (wR (wR (wI τ 1 1 0) 0 1 (some M')) 0 2 (some M)) 33 1 0) 33 2 (-1)) 0 11 0) 50 7 0) 67 7 0).1 j = τ.1 j := by
      intro j h1 h2
      rw [wIn (by omega), wIn (by omega), wIn (by omega), wIn (by omega), wIn (by omega)]
      show (wI τ 1 1 0).1 j = τ.1 j
      rw [wIn (by omega)]
    have gA : ∀ x, x ≠ 0 → x ≠ 1 → x ≠ 2 → x ≠ 9 → x ≠ 10 → x ≠ 23 → (wI (wI (wI (wI υ2 0 9 (-1)) 0 35 0) 23 0 0) 23 1 0).1 x = σ2.1 x := by
      intro x h0 h1 h2 h9 h10 h23
      rw [wIn h23, wIn h23, wIn h0, wIn h0, y3 x h1 h2, wIn h0, wIn h0, gT x h0 h9 h10]
    have gB : ∀ j, j ≠ 0 → j ≠ 9 → j ≠ 13 → j ≠ 35 → (j < 14 ∨ 23 < j) → (wI (wI (wI (wI υ2 0 9 (-1)) 0 35 0) 23 0 0) 23 1 0).1 0 j = σ2.1 0 j := by
      intro j h0 h9 h13 h35 hj
      rw [wIn (by decide), wIn (by decide), wIk (by omega), wIk (by omega), y3 0 (by decide) (by decide), wIk (by omega), wIk (by omega), gT0 j hj]
    have gC : ∀ x, (x = 1 ∨ x = 2) → (wI (wI (wI (wI υ2 0 9 (-1)) 0 35 0) 23 0 0) 23 1 0).1 x = υ2.1 x := by
      intro x hx
      rw [wIn (by omega), wIn (by omega), wIn (by omega), wIn (by omega)]
    refine ⟨?_, ?_, ?_, ?_, ?_, ?_, ?_, ?_, ?_, ?_, ?_⟩
    · refine hr.swapM e1n (by rw [wrr, wrr, wrr, wrr, wrr, wRq, if_pos ⟨rfl, rfl⟩]) (fun b j hbj => ?_)
      rw [wrr, wrr, wrr, wrr, wrr, cl b j hbj]
    · show pRf2 υ2.2.2
      rw [y2]
      show pRf2 υ.2.2
      rw [rU]
      exact hf2
    · refine ⟨0, by decide, ?_, ?_, fun k hk => absurd hk (by omega), ?_⟩
      · rw [wIn (by decide), wIn (by decide), wIn (by decide), wIn (by decide), wIn (by decide)]
        show (wI τ 1 1 0).1 1 1 = nI 0
        rw [wIe, nI_0]
      · rw [wIn (by decide), wIn (by decide), wIk (by decide), wIk (by decide), y3 0 (by decide) (by decide), wIk (by decide), wIe, nI_0]
      · have g14 : (wI (wI (wI (wI υ2 0 9 (-1)) 0 35 0) 23 0 0) 23 1 0).1 0 14 = p5 := by
          rw [wIn (by decide), wIn (by decide), wIk (by decide), wIk (by decide), y3 0 (by decide) (by decide), wIk (by decide), wIk (by decide)]
          exact d5
        rw [g14, wIn (by decide), wIn (by decide), wIn (by decide), wIn (by decide), wIn (by decide)]
        show (wI τ 1 1 0).1 1 5 = p5
        rw [wIk (by decide)]
        exact c6
    · refine ⟨hm40, esz, em, fun k hk => ?_⟩
      obtain ⟨b1, b2, b3, b4⟩ := hmk k hk
      obtain ⟨z1, z2⟩ := y5 k (Nat.zero_le k) (by omega)
      rw [wIn (show 9 ≠ 0 by decide), wIn (show 9 ≠ 0 by decide)] at z1
      rw [wIn (show 10 ≠ 0 by decide), wIn (show 10 ≠ 0 by decide), nar_br b4] at z2
      rw [fB (M' + 1) (by omega) (by omega), fB (M' + 2) (by omega) (by omega), gC 1 (Or.inl rfl), gC 2 (Or.inr rfl), z1, z2]
      have := toInt_100 (x := υ.1 9 k) (by omega)
      exact ⟨b1, b3, by omega, b4⟩
    · exact ⟨hc12, by rw [gB 3 (by decide) (by decide) (by decide) (by decide) (by omega)]; exact hc2e⟩
    · unfold pTask at *
      rw [fA R (by omega) (by omega) (by omega) (by omega) (by omega) (by omega), fA (R + 1) (by omega) (by omega) (by omega) (by omega) (by omega) (by omega), fA (R + 2) (by omega) (by omega) (by omega) (by omega) (by omega) (by omega), fA (R + 3) (by omega) (by omega) (by omega) (by omega) (by omega) (by omega), fA (R + 4) (by omega) (by omega) (by omega) (by omega) (by omega) (by omega), gB 5 (by decide) (by decide) (by decide) (by decide) (by omega), gA 4 (by decide) (by decide) (by decide) (by decide) (by decide) (by decide)]
      exact ht
    · rw [gA 5 (by decide) (by decide) (by decide) (by decide) (by decide) (by decide), gA 6 (by decide) (by decide) (by decide) (by decide) (by decide) (by decide), gA 3 (by decide) (by decide) (by decide) (by decide) (by decide) (by decide), gB 11 (by decide) (by decide) (by decide) (by decide) (by omega)]
      have g9 : (wI (wI (wI (wI υ2 0 9 (-1)) 0 35 0) 23 0 0) 23 1 0).1 0 9 = -1 := by rw [wIn (by decide), wIn (by decide), wIk (by decide), wIe]
      have f32 := fA 32 (by decide) (by decide) (by decide) (by decide) (by decide) (by omega)
      refine ⟨by rw [f32]; exact hs3, fun k hk => by rw [fA (32 + 3) (by decide) (by decide) (by decide) (by decide) (by decide) (by omega)]; exact hsw k hk, by rw [f32]; exact hsr, fun s hs => ⟨fun j hj => by rw [fA _ (by omega) (by omega) (by omega) (by omega) (by omega) (by omega)]; exact (hss s hs).1 j hj, (hss s hs).2⟩, ⟨?_, Or.inl g9⟩, by rw [f32]; exact hse, hse0⟩
      rw [g9, wIn (by decide), wIn (by decide), wIn (by decide), wIe]
    · unfold pCrowd at *
      rw [fA 94 (by decide) (by decide) (by decide) (by decide) (by decide) (by omega), fA 95 (by decide) (by decide) (by decide) (by decide) (by decide) (by omega), gB 32 (by decide) (by decide) (by decide) (by decide) (by omega), gA 19 (by decide) (by decide) (by decide) (by decide) (by decide) (by decide)]
      exact hcr
    · exact ⟨0, by decide, by rw [wIn (by decide), wIn (by decide), wIe, nI_0], by rw [wIn (by decide), wIn (by decide), wIe, nI_0], fun k hk => absurd hk (by omega)⟩
    · have q : (wI (wI (wI (wI υ2 0 9 (-1)) 0 35 0) 23 0 0) 23 1 0).1 23 0 = 0 := by rw [wIk (by decide), wIe]
      exact ⟨by rw [q, wIn (by decide), wIe], Or.inl q⟩
    · have q : (wI (wI (wI (wI υ2 0 9 (-1)) 0 35 0) 23 0 0) 23 1 0).1 23 1 = 0 := by rw [wIe]
      exact ⟨by rw [q, wIe], Or.inl q⟩
  · rw [if_neg hF, if_neg (show ¬ ((1 : Int32), wI τ 1 1 0).1 = 0 from (by decide : ¬ (1 : Int32) = 0)), gR1 0 8, wrr, e00, ob, gI1 1 6, ob, wIk (by decide), c4, if_neg (nI_nle (by omega) (by omega))]
    refine ⟨_, _, _, rfl, rfl, M, M', R, R', S, S', n, c, t, hC.text rT rU (fun x k hs h1 => ?_) (fun b k hs h2 => ?_) ⟨0, by decide, by rw [wIe, nI_0], by rw [wIe, nI_0], fun k hk => absurd hk (by omega), by rw [wIk (by decide), wIk (by decide), c6, d5]⟩⟩
    · unfold sc1 at hs
      rw [wIn h1, fT x h1 (by omega)]
    · unfold sc2 at hs
      by_cases e : b = 0
      · subst e
        rw [wIk (by omega), gT0 k (by omega)]
      · rw [wIn e, gT b e (by omega) (by omega)]
