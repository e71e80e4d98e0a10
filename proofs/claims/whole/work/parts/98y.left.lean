/-! LEFT -/
def nwc (ρ : Nat → Nat) : Nat → Nat
  | 0 => 0
  | k + 1 => nwc ρ k + ρ k * 3 ^ k
theorem nwc_v {a b c d e f : Nat} (ha : a < 3) (hb : b < 3) (hc : c < 3) (hd : d < 3) (he : e < 3) (hf : f < 3) : ((((((0 + a * 1) + b * 3) + c * 9) + d * 27) + e * 81) + f * 243) < 729 ∧ ((((((0 + a * 1) + b * 3) + c * 9) + d * 27) + e * 81) + f * 243) / 1 % 3 = a ∧ ((((((0 + a * 1) + b * 3) + c * 9) + d * 27) + e * 81) + f * 243) / 3 % 3 = b ∧ ((((((0 + a * 1) + b * 3) + c * 9) + d * 27) + e * 81) + f * 243) / 9 % 3 = c ∧ ((((((0 + a * 1) + b * 3) + c * 9) + d * 27) + e * 81) + f * 243) / 27 % 3 = d ∧ ((((((0 + a * 1) + b * 3) + c * 9) + d * 27) + e * 81) + f * 243) / 81 % 3 = e ∧ ((((((0 + a * 1) + b * 3) + c * 9) + d * 27) + e * 81) + f * 243) / 243 % 3 = f := by
  refine ⟨by omega, by omega, by omega, by omega, by omega, by omega, by omega⟩
theorem nwc_6 {ρ : Nat → Nat} (h : ∀ i, i < 6 → ρ i < 3) : nwc ρ 6 < 729 ∧ ∀ i, i < 6 → dt i (nwc ρ 6) = ρ i := by
  obtain ⟨k, k0, k1, k2, k3, k4, k5⟩ := nwc_v (h 0 (by decide)) (h 1 (by decide)) (h 2 (by decide)) (h 3 (by decide)) (h 4 (by decide)) (h 5 (by decide))
  refine ⟨k, fun i hi => ?_⟩
  match i, hi with
  | 0, _ => exact k0
  | 1, _ => exact k1
  | 2, _ => exact k2
  | 3, _ => exact k3
  | 4, _ => exact k4
  | 5, _ => exact k5
theorem save_L {ρ : Nat → Nat} (hρ : ∀ i, i < 6 → ρ i < 3) : ∀ (d j fuel : Nat) (υ : hM), j + d = 6 → d < fuel → υ.2.2 0 27 = some 14 → υ.2.2 0 8 = some 6 → (∀ i, i < 6 → υ.1 6 i = nI (ρ i)) → ∃ υ' : hM, (∀ ex : Int32 → hM → Option (Int32 × hM), fX9_left_L19 kT2 0 ex fuel (nI (nwc ρ j)) (nI j) υ = ex (nI (nwc ρ 6)) υ') ∧ υ'.2.2 = υ.2.2 ∧ (∀ x, x ≠ 14 → υ'.1 x = υ.1 x) ∧ (∀ i, i < j → υ'.1 14 i = υ.1 14 i) ∧ ∀ i, j ≤ i → i < 6 → υ'.1 14 i = υ.1 6 i := by
  intro d
  induction d with
  | zero =>
    intro j fuel υ hj hf w27 w8 h6
    obtain ⟨f, rfl⟩ : ∃ f, fuel = f + 1 := ⟨fuel - 1, by omega⟩
    have e : j = 6 := by omega
    subst e
    exact ⟨υ, fun ex => by rw [fX9_left_L19, if_pos (by decide)], rfl, fun _ _ => rfl, fun _ _ => rfl, fun i a b => absurd a (by omega)⟩
  | succ d ih =>
    intro j fuel υ hj hf w27 w8 h6
    obtain ⟨f, rfl⟩ : ∃ f, fuel = f + 1 := ⟨fuel - 1, by omega⟩
    obtain ⟨υ', g1, g2, g3, g4, g5⟩ := ih (j + 1) f (wI υ 14 j (υ.1 6 j)) (by omega) (by omega) w27 w8 (fun i hi => by rw [wIn (by decide)]; exact h6 i hi)
    refine ⟨υ', fun ex => ?_, g2, fun x hx => (g3 x hx).trans (wIn hx), fun i hi => by rw [g4 i (by omega), wIk (by omega)], fun i h1 h2 => ?_⟩
    · rw [fX9_left_L19, if_neg (show ¬ (6 : Int32) ≤ nI j from nI_ge (b := 6) (by omega) (by decide)), gR2, w27, ob, gR2, w8, ob, lA2 6 6 (k := j) (by omega), ob, sA2 14 6 (k := j) (by omega), ob, gR2, wrr, w8, ob, lA2 6 6 (k := j) (by omega), ob, wIn (show 6 ≠ 14 by decide), ev_power (by omega), ob]
      simp only [iflt, nI_1]
      rw [show nI (nwc ρ j) + υ.1 6 j * nI (3 ^ j) = nI (nwc ρ (j + 1)) by rw [h6 j (by omega), pk_mul, nI_add]; rfl]
      exact g1 ex
    · by_cases e : i = j
      · subst e; rw [g4 _ (by omega), wIe]
      · rw [g5 i (by omega) h2, wIn (by decide)]
theorem back_L : ∀ (d j fuel : Nat) (υ : hM), j + d = 6 → d < fuel → υ.2.2 0 27 = some 14 → υ.2.2 0 8 = some 6 → ∃ υ' : hM, (∀ ex : hM → Option (Int32 × hM), fX9_left_L91 kT2 0 ex fuel (nI j) υ = ex υ') ∧ υ'.2.2 = υ.2.2 ∧ (∀ x, x ≠ 6 → υ'.1 x = υ.1 x) ∧ (∀ i, (i < j ∨ 6 ≤ i) → υ'.1 6 i = υ.1 6 i) ∧ ∀ i, j ≤ i → i < 6 → υ'.1 6 i = υ.1 14 i := by
  intro d
  induction d with
  | zero =>
    intro j fuel υ hj hf w27 w8
    obtain ⟨f, rfl⟩ : ∃ f, fuel = f + 1 := ⟨fuel - 1, by omega⟩
    have e : j = 6 := by omega
    subst e
    exact ⟨υ, fun ex => by rw [fX9_left_L91, if_pos (by decide)], rfl, fun _ _ => rfl, fun _ _ => rfl, fun i a b => absurd a (by omega)⟩
  | succ d ih =>
    intro j fuel υ hj hf w27 w8
    obtain ⟨f, rfl⟩ : ∃ f, fuel = f + 1 := ⟨fuel - 1, by omega⟩
    obtain ⟨υ', g1, g2, g3, g4, g5⟩ := ih (j + 1) f (wI υ 6 j (υ.1 14 j)) (by omega) (by omega) w27 w8
    refine ⟨υ', fun ex => ?_, g2, fun x hx => (g3 x hx).trans (wIn hx), fun i hi => by rw [g4 i (by omega), wIk (by omega)], fun i h1 h2 => ?_⟩
    · rw [fX9_left_L91, if_neg (show ¬ (6 : Int32) ≤ nI j from nI_ge (b := 6) (by omega) (by decide)), gR2, w8, ob, gR2, w27, ob, lA2 14 6 (k := j) (by omega), ob, sA2 6 6 (k := j) (by omega), ob]
      simp only [iflt, nI_1]
      exact g1 ex
    · by_cases e : i = j
      · subst e; rw [g4 _ (by omega), wIe]
      · rw [g5 i (by omega) h2, wIn (by decide)]
theorem odds0_L {tk r : Nat → Int32} {R t N P : Nat} : ∀ (d k fuel : Nat) (σ : hM), k + d = 16 → d < fuel → tkR σ R t tk → σ.2.2 0 3 = some R → rsN σ t N P r → σ.2.2 32 1 = some 35 → σ.2.2 0 8 = some 84 → σ.2.2 84 0 = some 85 → σ.2.2 85 0 = some 86 → ∃ σ' : hM, (∀ ex : hM → Option (Int32 × hM), fX8_left_L15 kT1 0 ex fuel (nI k) σ = ex σ') ∧ σ'.2.2 = σ.2.2 ∧ σ'.1 = σ.1 ∧ (∀ j, j < k → σ'.2.1 86 j = σ.2.1 86 j) ∧ ∀ j, k ≤ j → j < 16 → σ'.2.1 86 j = od (σ.1 35 j).toInt64 tk r (nI j) t := by
  intro d
  induction d with
  | zero =>
    intro k fuel σ hk hf h1 h2 h3 h4 h5 h6 h7
    obtain ⟨f, rfl⟩ : ∃ f, fuel = f + 1 := ⟨fuel - 1, by omega⟩
    have e : k = 16 := by omega
    subst e
    exact ⟨σ, fun ex => by rw [fX8_left_L15, if_pos (by decide)], rfl, rfl, fun _ _ => rfl, fun i a b => absurd a (by omega)⟩
  | succ d ih =>
    intro k fuel σ hk hf h1 h2 h3 h4 h5 h6 h7
    obtain ⟨f, rfl⟩ : ∃ f, fuel = f + 1 := ⟨fuel - 1, by omega⟩
    have l0 : aldr 17 kT1 σ 85 0 = some 86 := by
      have := lR 7 (σ := σ) (k := 0) (show kT1.1 85 = 17 from rfl) (show kT1.2 85 = 7 from rfl) (by decide) (by decide)
      rw [nI_0, h7] at this
      exact this
    obtain ⟨σ', g1, g2, g3, g4, g5⟩ := ih (k + 1) f (wL σ 86 k (od (σ.1 35 k).toInt64 tk r (nI k) t)) (by omega) (by omega) h1 h2 h3 h4 h5 h6 h7
    refine ⟨σ', fun ex => ?_, g2, g3, fun i hi => by rw [g4 i (by omega), wLs, if_neg (by omega)], fun i e1 e2 => ?_⟩
    · rw [fX8_left_L15, if_neg (show ¬ (16 : Int32) ≤ nI k from nI_ge (b := 16) (by omega) (by decide)), gR1 0 8, h5, ob, gR1 84 2, h6, ob, l0, ob, vC1 0 8, ev_oddsNow h1 h2 h3 h4 (by omega), ob, sL 86 (by omega) rfl rfl, ob]
      simp only [iflt, nI_1]
      exact g1 ex
    · by_cases e : i = k
      · subst e; rw [g4 _ (by omega), wLs, if_pos rfl]
      · exact g5 i (by omega) e2
theorem pRf1.oth84 {M M' R R' S S' : Nat} {ρ ρ' : Nat → Nat → Option Nat} (h : pRf1 M M' R R' S S' ρ) (e : ∀ b j, ¬ (b = 84 ∧ j = 2) → ρ' b j = ρ b j) : pRf1 M M' R R' S S' ρ' := by
  obtain ⟨hMe, hR, hS, e01, e02, e03, e04, e05, e322, ⟨o0_0, o0_6, o0_7, o0_8, o0_9, o0_10, o0_12, o0_13, o1_0, o32_0, o32_1, o33_0, o98_0, o94_0, o94_1, o84_0, o84_1, o49_0, o49_1, o50_0, o51_0, o50_1, o50_2, o67_0, o68_0, o67_1, o67_2, o3_0, o3_1, o6_0, o6_1, o9_0, o9_1, o9_2, o9_3, o14_0, o14_1, o14_2, o14_3⟩, hrow, hodd⟩ := h
  refine ⟨hMe, hR, hS, by rw [e _ _ (by omega)]; exact e01, by rw [e _ _ (by omega)]; exact e02, by rw [e _ _ (by omega)]; exact e03, by rw [e _ _ (by omega)]; exact e04, by rw [e _ _ (by omega)]; exact e05, by rw [e _ _ (by omega)]; exact e322, ?_, fun k hk => by rw [e _ _ (by omega), e _ _ (by omega), e _ _ (by omega), e _ _ (by omega)]; exact hrow k hk, fun k hk => by rw [e _ _ (by omega)]; exact hodd k hk⟩
  refine ⟨?_, ?_, ?_, ?_, ?_, ?_, ?_, ?_, ?_, ?_, ?_, ?_, ?_, ?_, ?_, ?_, ?_, ?_, ?_, ?_, ?_, ?_, ?_, ?_, ?_, ?_, ?_, ?_, ?_, ?_, ?_, ?_, ?_, ?_, ?_, ?_, ?_, ?_, ?_⟩ <;> (rw [e _ _ (by omega)]; assumption)
theorem s_left : st_left Cpl := by
  intro σ1 σ2 hC p1
  obtain ⟨M, M', R, R', S, S', n, c, t, hC⟩ := hC
  have hQ := hC
  obtain ⟨hr, hf2, hT, hm, hc2, ht, hst, hcr, hb, hi0, hi1⟩ := hQ
  have hr0 := hr
  have hf20 := hf2
  obtain ⟨hMe, hR, hS, e01, e02, e03, e04, e05, e322, ⟨o0_0, o0_6, o0_7, o0_8, o0_9, o0_10, o0_12, o0_13, o1_0, o32_0, o32_1, o33_0, o98_0, o94_0, o94_1, o84_0, o84_1, o49_0, o49_1, o50_0, o51_0, o50_1, o50_2, o67_0, o68_0, o67_1, o67_2, o3_0, o3_1, o6_0, o6_1, o9_0, o9_1, o9_2, o9_3, o14_0, o14_1, o14_2, o14_3⟩, hrow, hodd⟩ := hr0
  obtain ⟨w1, w2, w4, w6, w7, w8, w10, w12, w21, w22, w24, w25, w26, w27, w28, w29, w30, w31, w33, w34, w36, w37, w38⟩ := hf20
  obtain ⟨kM, kM1, kM1n, kM2, kM2n⟩ := kMel hMe
  obtain ⟨kR, ⟨kR1, kR1n⟩, ⟨kR2, kR2n⟩, ⟨kR3, kR3n⟩, ⟨kR4, kR4n⟩⟩ := kTri hR
  obtain ⟨⟨kS, kSn⟩, kSs⟩ := kRow hS
  obtain ⟨em0, em1⟩ := hr.mel
  obtain ⟨et0, et1, et2, et3⟩ := hr.tri
  have erow := hr.row
  obtain ⟨hn40, hn1, hn2, hnk⟩ := id hm
  obtain ⟨ht6, ht1, ht2, htk⟩ := id ht
  obtain ⟨hc12, hc2e⟩ := id hc2
  obtain ⟨hs3, hsw, hsr, hss, hsg, hse, hse0⟩ := id hst
  obtain ⟨N, P, hN, hP, eN, eP, hNP⟩ := id hsr
  have hk : tkR σ1 R t (σ2.1 4) := ⟨kR, ⟨kR1, kR1n⟩, ⟨kR2, kR2n⟩, ⟨kR3, kR3n⟩, ⟨kR4, kR4n⟩, ⟨et0, et1, et2, et3⟩, ht1, ht6, fun i hi => (htk i hi).1⟩
  have hr' : rsN σ1 t N P (σ2.1 6) := ⟨o0_6, hN, hP, eN, eP, hNP⟩
  have hmin : ∀ i, i < t → ∃ m, m ≤ 30 ∧ σ2.1 4 (4 * i) = nI m := fun i hi => by
    obtain ⟨-, b, -⟩ := htk i hi
    obtain ⟨m, e1, e2⟩ := as_nI (x := σ2.1 4 (4 * i)) (by omega)
    exact ⟨m, by omega, e1⟩
  have hpt : ∀ i, i < t → ∃ P, P < 16 ∧ σ2.1 4 (4 * i + 3) = nI P := fun i hi => by
    obtain ⟨-, -, -, -, b⟩ := htk i hi
    obtain ⟨m, e1, e2⟩ := as_nI (x := σ2.1 4 (4 * i + 3)) (by omega)
    exact ⟨m, by omega, e1⟩
  unfold fX8_left fX9_left
  rw [isW, in9 1 100 (L := 1) (H := 100) rfl rfl, ob, ob]
  by_cases h : 1 ≤ p1 ∧ p1 ≤ 100
  · rw [ifz1 h, ifz1 h]
    -- the class
    obtain ⟨α, a1, a2, a3, -, a5⟩ := odds0_L 16 0 6000 σ1 (by omega) (by omega) hk e03 hr' o32_1 o0_8 o84_0 (hodd 0 (by decide))
    rw [nI_0] at a1
    obtain ⟨β, b1, b2, b3, b4⟩ := ev_fill729 (c1 := -2) (σ := wI (wR α 84 2 (some R)) 84 3 p1)
    have cl : ∀ b j, ¬ (b = 84 ∧ j = 2) → β.2.2 b j = σ1.2.2 b j := fun b j hbj => by
      rw [b2]
      show (wR α 84 2 (some R)).2.2 b j = _
      rw [wRq, if_neg hbj, a2]
    have c82 : β.2.2 84 2 = some R := by
      rw [b2]
      show (wR α 84 2 (some R)).2.2 84 2 = _
      rw [wRq, if_pos ⟨rfl, rfl⟩]
    have bI : ∀ x, x ≠ 84 → x ≠ 93 → β.1 x = σ1.1 x := fun x h84 h93 => by
      rw [b3 x h93, wIn h84]
      show α.1 x = _
      rw [a3]
    have rc0 : rcc (σ2.1 6) 0 = σ2.1 6 := by
      funext j
      unfold rcc dt
      rw [Nat.zero_div, Nat.zero_mod, if_pos rfl]
    have hG : lG β R t (σ2.1 4) p1 := by
      refine ⟨⟨by rw [cl _ _ (by omega)]; exact o84_0, by rw [cl _ _ (by omega)]; exact o84_1, c82, fun k hk7 => by rw [cl _ _ (by omega)]; exact hodd k hk7⟩, ?_, by rw [b3 84 (by decide), wIe], by omega⟩
      unfold tkR at hk ⊢
      rw [cl _ _ (by omega), cl _ _ (by omega), cl _ _ (by omega), cl _ _ (by omega), bI R (by omega) (by omega), bI (R + 1) (by omega) (by omega), bI (R + 2) (by omega) (by omega), bI (R + 3) (by omega) (by omega), bI (R + 4) (by omega) (by omega)]
      exact hk
    have hD6 := uN_le (σ2.1 6) t
    obtain ⟨γ, c1, c2, c3⟩ := ff (wt := fun k => (σ2.1 5 k).toInt64) (r0 := σ2.1 6) (R := R) (q := p1) ht6 hmin hpt 8 (uN (σ2.1 6) t) 0 0 N β (by omega) (by omega) (by rw [rc0]) hG ⟨by decide, fun i hi hd => absurd (by unfold dt; rw [Nat.zero_div]) hd⟩ (by rw [rc0]; exact ⟨hN, fun i hi => (hNP i hi).2.1⟩) (fun k hk16 => by
      rw [rc0, b2]
      show α.2.1 86 k = od _ _ _ _ _
      rw [a5 k (Nat.zero_le k) hk16, show σ1.1 35 k = σ2.1 5 k from (hsw k hk16).1]) (fun c' hv => Or.inl (b4 c' hv.1))
    rw [nI_0, rc0] at c1
    have p84 : ptr kT1 α 84 2 2 (some R) = some (wR α 84 2 (some R)) := pR (show kT1.1 84 = 3 from rfl)
    have e81 : (wI (wR α 84 2 (some R)) 84 3 p1).2.2 84 1 = some 93 := by
      rw [wrr, wRq, if_neg (by decide), a2]
      exact o84_1
    have fm : fX2_fewestMinutes kT1 84 R (nI N) p1 α = some (cv (lf (fun k => (σ2.1 5 k).toInt64) (σ2.1 4) t p1 (uN (σ2.1 6) t) (σ2.1 6)), γ) := by
      unfold fX2_fewestMinutes
      rw [p84, ob, pI1 84 2, ob, gR1 84 2, e81, ob, b1, ob, vC1 84 2, c1, ob]
    -- the reference
    have hρ : ∀ i, i < 6 → (σ2.1 6 i).toNatClampNeg < 3 ∧ σ2.1 6 i = nI (σ2.1 6 i).toNatClampNeg := fun i hi => by
      rcases (hNP i hi).1 with z | z | z <;> rw [z] <;> decide
    obtain ⟨υ1, d1, d2, d3, -, d5⟩ := save_L (ρ := fun i => (σ2.1 6 i).toNatClampNeg) (fun i hi => (hρ i hi).1) 6 0 6000 σ2 (by omega) (by omega) w27 w8 (fun i hi => (hρ i hi).2)
    rw [nI_0, show nI (nwc (fun i => (σ2.1 6 i).toNatClampNeg) 0) = 0 from nI_0] at d1
    obtain ⟨n1, n2⟩ := nwc_6 (ρ := fun i => (σ2.1 6 i).toNatClampNeg) (fun i hi => (hρ i hi).1)
    have hnow : nwc (fun i => (σ2.1 6 i).toNatClampNeg) 6 < 3 ^ t := (dt_top t (by omega) _ n1).mpr (fun i hi hti => by
      rw [n2 i hi, (hNP i hi).2.2.2 hti]
      decide)
    have hp := p3_v t (by omega)
    obtain ⟨υ2, t1, t2, t3, t4, t5⟩ := table_L (wt := fun k => (σ2.1 5 k).toInt64) (q := p1) (ex := fun u20 => fX9_left_L91 kT2 0 (fun u26 => (gtr kT2 u26 0 9 26).bind fun a27 => (ald 11 kT2 u26 a27 (nI (nwc (fun i => (σ2.1 6 i).toNatClampNeg) 6))).bind fun x28 => if x28 < (1000000 : Int32) then ((gtr kT2 u26 0 9 26).bind fun a29 => (ald 11 kT2 u26 a29 (nI (nwc (fun i => (σ2.1 6 i).toNatClampNeg) 6))).bind fun x30 => some (x30, u26)) else (some ((-1 : Int32), u26))) 6000 (0 : Int32) u20) ht6 hmin (3 ^ t) 6000 υ1 (Nat.le_refl _) (by omega) (by rw [d3 0 (by decide)]; exact ht2) (by rw [d2]; exact w8) (by rw [d2]; exact w7) (by rw [d2]; exact w26) (by rw [d2]; exact w6) (d3 4 (by decide)) (fun k hk16 => by rw [d3 5 (by decide)]) (fun c' h1 h2 => absurd h2 (by omega))
    obtain ⟨υ3, s1, s2, s3, s4, s5⟩ := back_L 6 0 6000 υ2 (by omega) (by omega) (by rw [t2, d2]; exact w27) (by rw [t2, d2]; exact w8)
    rw [nI_0] at s1
    have res : ∀ i, υ3.1 6 i = σ2.1 6 i := by
      intro i
      by_cases hi : i < 6
      · rw [s5 i (Nat.zero_le i) hi, t3 14 (by decide) (by decide), d5 i (Nat.zero_le i) hi]
      · rw [s4 i (by omega), t4 i (by omega), d3 6 (by decide)]
    have val := t5 (nwc (fun i => (σ2.1 6 i).toNatClampNeg) 6) (Nat.zero_le _) hnow
    have rr : ∀ j, j < t → ra (nwc (fun i => (σ2.1 6 i).toNatClampNeg) 6) j = σ2.1 6 j := fun j hj => by
      unfold ra
      rw [n2 j (by omega)]
      exact (hρ j (by omega)).2.symm
    rw [uN_cong t rr, lf_cong _ _ _ rr] at val
    have lb := (lf_bd (wt := fun k => (σ2.1 5 k).toInt64) (q := p1) (t := t) (tk := σ2.1 4) (fun i hi => by
      obtain ⟨m, q1, q2⟩ := hmin i hi
      rw [q2, nI_clamp (by omega)]
      exact q1) (uN (σ2.1 6) t) (σ2.1 6)).1
    have u26 : υ3.2.2 0 26 = some 13 := by rw [s2, t2, d2]; exact w26
    have l13 : ald 11 kT2 υ3 13 (nI (nwc (fun i => (σ2.1 6 i).toNatClampNeg) 6)) = some (nI (lf (fun k => (σ2.1 5 k).toInt64) (σ2.1 4) t p1 (uN (σ2.1 6) t) (σ2.1 6))) := by
      rw [lA2 13 729 (k := nwc (fun i => (σ2.1 6 i).toNatClampNeg) 6) n1, s3 13 (by decide), val]
    have α8 : α.2.2 0 8 = some 84 := by rw [a2]; exact o0_8
    have α3 : α.2.2 0 3 = some R := by rw [a2]; exact e03
    have α6 : α.2.2 0 6 = some 32 := by rw [a2]; exact o0_6
    have α4 : α.1 32 4 = nI N := by rw [a3]; exact eN
    rw [a1, gR1 0 8, α8, ob, gR1 0 8, α3, ob, gR1 0 8, α6, ob, gI1 32 5, ob, α4, vC1 84 2, fm, ob]
    rw [d1, gI2, ob, d3 0 (by decide), ht2, ev_power ht6, ob]
    simp only [iflt]
    rw [t1, s1, gR2, u26, ob, l13, ob]
    have hok : pCpl M M' R R' S S' n c t γ υ3 := by
      have hC0 : pCpl M M' R R' S S' n c t (wR σ1 84 2 (some R)) σ2 := ⟨hr.oth84 (fun b j hbj => by rw [wRq, if_neg hbj]), hf2, hT, hm, hc2, ht, hst, hcr, hb, hi0, hi1⟩
      refine hC0.fr ?_ (by rw [s2, t2, d2]) (fun a k hs => ?_) (fun b k hs => ?_)
      · rw [c3.1, b2]
        show h_w2 α.2.2 84 2 (some R) = h_w2 σ1.2.2 84 2 (some R)
        rw [a2]
      · unfold sc1 at hs
        rw [c3.2.1 a (by omega), bI a (by omega) (by omega)]
        rfl
      · unfold sc2 at hs
        by_cases e : b = 6
        · subst e
          exact res k
        · rw [s3 b e, t3 b e (by omega), d3 b (by omega)]
    refine ⟨_, γ, υ3, rfl, ?_, M, M', R, R', S, S', n, c, t, hok⟩
    unfold cv
    by_cases lt : lf (fun k => (σ2.1 5 k).toInt64) (σ2.1 4) t p1 (uN (σ2.1 6) t) (σ2.1 6) < 1000000
    · rw [if_pos (show nI (lf (fun k => (σ2.1 5 k).toInt64) (σ2.1 4) t p1 (uN (σ2.1 6) t) (σ2.1 6)) < 1000000 from nI_lt (b := 1000000) lt (by decide)), ob, l13, ob, if_pos lt]
    · rw [if_neg (show ¬ nI (lf (fun k => (σ2.1 5 k).toInt64) (σ2.1 4) t p1 (uN (σ2.1 6) t) (σ2.1 6)) < 1000000 from nI_nlt (b := 1000000) (by omega) (by omega)), if_neg lt]
  · rw [ifz0 h, ifz0 h]
    exact ⟨_, σ1, σ2, rfl, rfl, ⟨M, M', R, R', S, S', n, c, t, hC⟩⟩
