theorem sZ2 (a L : Nat) {σ : hM} {k : Nat} {v : Int32} (hk : k < L) (h1 : kT2.1 a = 13 := by rfl) (h2 : kT2.2 a = L := by rfl) (hL : L < 2 ^ 31 := by decide) : astz kT2 σ a (nI k) v = some (wI σ a k (vp_nar .boolean v)) := sZ L h1 h2 hk hL
section PASSES
variable {B : Nat → Bool} {n a : Nat}
theorem init_L : ∀ (d k fuel : Nat) (σ : hM), k + d = 1089 → d < fuel → σ.2.2 0 30 = some 17 → ∃ σ' : hM, (∀ ex : hM → Option (Int32 × hM), fX9_passesWithSlip_L2 kT2 0 ex fuel (nI k) σ = ex σ') ∧ σ'.2.2 = σ.2.2 ∧ (∀ x, x ≠ 17 → σ'.1 x = σ.1 x) ∧ (∀ i, i < k → σ'.1 17 i = σ.1 17 i) ∧ ∀ i, k ≤ i → i < 1089 → σ'.1 17 i = if (tab 0).testBit i = true then 1 else 0 := by
  intro d
  induction d with
  | zero =>
    intro k fuel σ hk hf w30
    obtain ⟨f, rfl⟩ : ∃ f, fuel = f + 1 := ⟨fuel - 1, by omega⟩
    have e : k = 1089 := by omega
    subst e
    exact ⟨σ, fun ex => by rw [fX9_passesWithSlip_L2, if_pos (by decide)], rfl, fun _ _ => rfl, fun _ _ => rfl, fun j a b => absurd a (by omega)⟩
  | succ d ih =>
    intro k fuel σ hk hf w30
    obtain ⟨f, rfl⟩ : ∃ f, fuel = f + 1 := ⟨fuel - 1, by omega⟩
    obtain ⟨σ', g1, g2, g3, g4, g5⟩ := ih (k + 1) f (wI σ 17 k (if (tab 0).testBit k = true then 1 else 0)) (by omega) (by omega) w30
    refine ⟨σ', fun ex => ?_, g2, fun x hx => (g3 x hx).trans (wIn hx), fun i hi => ?_, fun i h1 h2 => ?_⟩
    · rw [fX9_passesWithSlip_L2, if_neg (show ¬ (1089 : Int32) ≤ nI k from nI_ge (b := 1089) (by omega) (by decide)), gR2, w30, ob]
      simp only [iflt, nI_1]
      rw [tab_0 k (by omega), sZ2 17 1089 (k := k) (by omega), nar01, ob]
      exact g1 ex
    · rw [g4 i (by omega), wIk (by omega)]
    · by_cases e : i = k
      · subst e; rw [g4 _ (by omega), wIe]
      · exact g5 i (by omega) h2
theorem in_L63 (hn : n ≤ 16) (ha : a ≤ n) : ∀ (d b fuel : Nat) (σ : hM), a + b + d = n + 1 → d < fuel → σ.2.2 0 30 = some 17 → σ.2.2 0 31 = some 18 → (∀ x y, x + y ≤ n → σ.1 17 (33 * x + y) = if B (33 * x + y) = true then 1 else 0) → ∃ σ' : hM, (∀ ex : hM → Option (Int32 × hM), fX9_passesWithSlip_L63 kT2 0 (nI n) (nI a) ex fuel (nI b) σ = ex σ') ∧ σ'.2.2 = σ.2.2 ∧ (∀ x, x ≠ 18 → σ'.1 x = σ.1 x) ∧ (∀ i, (i < 33 * a + b ∨ 33 * a + 33 ≤ i) → σ'.1 18 i = σ.1 18 i) ∧ ∀ j, b ≤ j → a + j ≤ n → σ'.1 18 (33 * a + j) = if kno B a j = true then 1 else 0 := by
  intro d
  induction d with
  | zero =>
    intro b fuel σ hk hf w30 w31 hB
    obtain ⟨f, rfl⟩ : ∃ f, fuel = f + 1 := ⟨fuel - 1, by omega⟩
    exact ⟨σ, fun ex => by rw [fX9_passesWithSlip_L63, nI_add, if_pos (nI_lt (by omega) (by omega))], rfl, fun _ _ => rfl, fun _ _ => rfl, fun j a b => absurd a (by omega)⟩
  | succ d ih =>
    intro b fuel σ hk hf w30 w31 hB
    obtain ⟨f, rfl⟩ : ∃ f, fuel = f + 1 := ⟨fuel - 1, by omega⟩
    obtain ⟨σ', g1, g2, g3, g4, g5⟩ := ih (b + 1) f (wI σ 18 (33 * a + b) (if kno B a b = true then 1 else 0)) (by omega) (by omega) w30 w31 (fun x y h => by rw [wIn (by decide)]; exact hB x y h)
    refine ⟨σ', fun ex => ?_, g2, fun x hx => (g3 x hx).trans (wIn hx), fun i hi => ?_, fun j h1 h2 => ?_⟩
    · rw [fX9_passesWithSlip_L63, nI_add, if_neg (nI_nlt (by omega) (by omega)), gR2, w31, ob, vC2, ev_known hB w30 (by omega) hn, ob, mul_nI 33 33 rfl, nI_add, sZ2 18 1089 (k := 33 * a + b) (by omega), nar01, ob]
      simp only [iflt, nI_1]
      exact g1 ex
    · rw [g4 i (by omega), wIk (by omega)]
    · by_cases e : j = b
      · subst e; rw [g4 _ (by omega), wIe]
      · exact g5 j (by omega) h2
theorem out_L55 (hn : n ≤ 16) : ∀ (d a fuel : Nat) (σ : hM), a + d = n + 1 → d < fuel → σ.2.2 0 30 = some 17 → σ.2.2 0 31 = some 18 → (∀ x y, x + y ≤ n → σ.1 17 (33 * x + y) = if B (33 * x + y) = true then 1 else 0) → ∃ σ' : hM, (∀ ex : hM → Option (Int32 × hM), fX9_passesWithSlip_L55 kT2 0 (nI n) ex fuel (nI a) σ = ex σ') ∧ σ'.2.2 = σ.2.2 ∧ (∀ x, x ≠ 18 → σ'.1 x = σ.1 x) ∧ (∀ i, i < 33 * a → σ'.1 18 i = σ.1 18 i) ∧ ∀ i j, a ≤ i → i + j ≤ n → σ'.1 18 (33 * i + j) = if kno B i j = true then 1 else 0 := by
  intro d
  induction d with
  | zero =>
    intro a fuel σ hk hf w30 w31 hB
    obtain ⟨f, rfl⟩ : ∃ f, fuel = f + 1 := ⟨fuel - 1, by omega⟩
    exact ⟨σ, fun ex => by rw [fX9_passesWithSlip_L55, if_pos (nI_lt (by omega) (by omega))], rfl, fun _ _ => rfl, fun _ _ => rfl, fun i j a b => absurd a (by omega)⟩
  | succ d ih =>
    intro a fuel σ hk hf w30 w31 hB
    obtain ⟨f, rfl⟩ : ∃ f, fuel = f + 1 := ⟨fuel - 1, by omega⟩
    obtain ⟨α, a1, a2, a3, a4, a5⟩ := in_L63 (B := B) (n := n) (a := a) hn (by omega) (n + 1 - a) 0 6000 σ (by omega) (by omega) w30 w31 hB
    obtain ⟨σ', g1, g2, g3, g4, g5⟩ := ih (a + 1) f α (by omega) (by omega) (by rw [a2]; exact w30) (by rw [a2]; exact w31) (fun x y h => by rw [a3 17 (by decide)]; exact hB x y h)
    refine ⟨σ', fun ex => ?_, g2.trans a2, fun x hx => (g3 x hx).trans (a3 x hx), fun i hi => ?_, fun i j h1 h2 => ?_⟩
    · rw [fX9_passesWithSlip_L55, if_neg (nI_nlt (by omega) (by omega))]
      simp only [iflt, nI_1]
      rw [nI_0] at a1
      rw [a1]
      exact g1 ex
    · rw [g4 i (by omega), a4 i (by omega)]
    · by_cases e : i = a
      · subst e
        rw [g4 _ (by omega)]
        exact a5 j (Nat.zero_le j) h2
      · exact g5 i j (by omega) h2
theorem in_L112 (hn : n ≤ 16) (ha : a ≤ n) : ∀ (d b fuel : Nat) (σ : hM), a + b + d = n + 1 → d < fuel → σ.2.2 0 30 = some 17 → σ.2.2 0 31 = some 18 → (∀ j, a + j ≤ n → σ.1 18 (33 * a + j) = if kno B a j = true then 1 else 0) → ∃ σ' : hM, (∀ ex : hM → Option (Int32 × hM), fX9_passesWithSlip_L112 kT2 0 (nI n) (nI a) ex fuel (nI b) σ = ex σ') ∧ σ'.2.2 = σ.2.2 ∧ (∀ x, x ≠ 17 → σ'.1 x = σ.1 x) ∧ (∀ i, (i < 33 * a + b ∨ 33 * a + 33 ≤ i) → σ'.1 17 i = σ.1 17 i) ∧ ∀ j, b ≤ j → a + j ≤ n → σ'.1 17 (33 * a + j) = if kno B a j = true then 1 else 0 := by
  intro d
  induction d with
  | zero =>
    intro b fuel σ hk hf w30 w31 hB
    obtain ⟨f, rfl⟩ : ∃ f, fuel = f + 1 := ⟨fuel - 1, by omega⟩
    exact ⟨σ, fun ex => by rw [fX9_passesWithSlip_L112, nI_add, if_pos (nI_lt (by omega) (by omega))], rfl, fun _ _ => rfl, fun _ _ => rfl, fun j a b => absurd a (by omega)⟩
  | succ d ih =>
    intro b fuel σ hk hf w30 w31 hB
    obtain ⟨f, rfl⟩ : ∃ f, fuel = f + 1 := ⟨fuel - 1, by omega⟩
    obtain ⟨σ', g1, g2, g3, g4, g5⟩ := ih (b + 1) f (wI σ 17 (33 * a + b) (if kno B a b = true then 1 else 0)) (by omega) (by omega) w30 w31 (fun j h => by rw [wIn (by decide)]; exact hB j h)
    refine ⟨σ', fun ex => ?_, g2, fun x hx => (g3 x hx).trans (wIn hx), fun i hi => ?_, fun j h1 h2 => ?_⟩
    · rw [fX9_passesWithSlip_L112, nI_add, if_neg (nI_nlt (by omega) (by omega)), gR2, w30, ob, gR2, w31, ob, mul_nI 33 33 rfl, nI_add, lZ2 18 1089 (k := 33 * a + b) (by omega), ob, hB b (by omega), sZ2 17 1089 (k := 33 * a + b) (by omega), nar01, ob]
      simp only [iflt, nI_1]
      exact g1 ex
    · rw [g4 i (by omega), wIk (by omega)]
    · by_cases e : j = b
      · subst e; rw [g4 _ (by omega), wIe]
      · exact g5 j (by omega) h2
theorem out_L104 (hn : n ≤ 16) : ∀ (d a fuel : Nat) (σ : hM), a + d = n + 1 → d < fuel → σ.2.2 0 30 = some 17 → σ.2.2 0 31 = some 18 → (∀ i j, i + j ≤ n → σ.1 18 (33 * i + j) = if kno B i j = true then 1 else 0) → ∃ σ' : hM, (∀ ex : hM → Option (Int32 × hM), fX9_passesWithSlip_L104 kT2 0 (nI n) ex fuel (nI a) σ = ex σ') ∧ σ'.2.2 = σ.2.2 ∧ (∀ x, x ≠ 17 → σ'.1 x = σ.1 x) ∧ (∀ i, i < 33 * a → σ'.1 17 i = σ.1 17 i) ∧ ∀ i j, a ≤ i → i + j ≤ n → σ'.1 17 (33 * i + j) = if kno B i j = true then 1 else 0 := by
  intro d
  induction d with
  | zero =>
    intro a fuel σ hk hf w30 w31 hB
    obtain ⟨f, rfl⟩ : ∃ f, fuel = f + 1 := ⟨fuel - 1, by omega⟩
    exact ⟨σ, fun ex => by rw [fX9_passesWithSlip_L104, if_pos (nI_lt (by omega) (by omega))], rfl, fun _ _ => rfl, fun _ _ => rfl, fun i j a b => absurd a (by omega)⟩
  | succ d ih =>
    intro a fuel σ hk hf w30 w31 hB
    obtain ⟨f, rfl⟩ : ∃ f, fuel = f + 1 := ⟨fuel - 1, by omega⟩
    obtain ⟨α, a1, a2, a3, a4, a5⟩ := in_L112 (B := B) (n := n) (a := a) hn (by omega) (n + 1 - a) 0 6000 σ (by omega) (by omega) w30 w31 (fun j h => hB a j h)
    obtain ⟨σ', g1, g2, g3, g4, g5⟩ := ih (a + 1) f α (by omega) (by omega) (by rw [a2]; exact w30) (by rw [a2]; exact w31) (fun x y h => by rw [a3 18 (by decide)]; exact hB x y h)
    refine ⟨σ', fun ex => ?_, g2.trans a2, fun x hx => (g3 x hx).trans (a3 x hx), fun i hi => ?_, fun i j h1 h2 => ?_⟩
    · rw [fX9_passesWithSlip_L104, if_neg (nI_nlt (by omega) (by omega))]
      simp only [iflt, nI_1]
      rw [nI_0] at a1
      rw [a1]
      exact g1 ex
    · rw [g4 i (by omega), a4 i (by omega)]
    · by_cases e : i = a
      · subst e
        rw [g4 _ (by omega)]
        exact a5 j (Nat.zero_le j) h2
      · exact g5 i j (by omega) h2
theorem slip_L {ex : Int32 → hM → Option (Int32 × hM)} (hn : n ≤ 16) (h1 : 1 ≤ n) : ∀ (d p fuel : Nat) (σ : hM), p + d = pz1 n → d < fuel → σ.2.2 0 30 = some 17 → σ.2.2 0 31 = some 18 → (∀ i j, i + j ≤ n → σ.1 17 (33 * i + j) = if (tab p).testBit (33 * i + j) = true then 1 else 0) → ∃ σ' : hM, fX9_passesWithSlip_L41 kT2 0 (nI n) ex fuel (nI p) σ = ex (nI (pz1 n)) σ' ∧ σ'.2.2 = σ.2.2 ∧ ∀ x, x ≠ 17 → x ≠ 18 → σ'.1 x = σ.1 x := by
  obtain ⟨z1, z2, z3⟩ := tab_z n (by omega) h1
  intro d
  induction d with
  | zero =>
    intro p fuel σ hp hf w30 w31 hB
    obtain ⟨f, rfl⟩ : ∃ f, fuel = f + 1 := ⟨fuel - 1, by omega⟩
    have e : p = pz1 n := by omega
    subst e
    have b0 := hB n 0 (by omega)
    rw [Nat.add_zero, z3, if_pos rfl] at b0
    refine ⟨σ, ?_, rfl, fun _ _ _ => rfl⟩
    rw [fX9_passesWithSlip_L41, gR2, w30, ob, mul_nI 33 33 rfl, lZ2 17 1089 (k := 33 * n) (by omega), ob, b0, if_neg (by decide)]
  | succ d ih =>
    intro p fuel σ hp hf w30 w31 hB
    obtain ⟨f, rfl⟩ : ∃ f, fuel = f + 1 := ⟨fuel - 1, by omega⟩
    have b0 := hB n 0 (by omega)
    rw [Nat.add_zero, z2 p (by omega), if_neg (by decide)] at b0
    obtain ⟨α, a1, a2, a3, -, a5⟩ := out_L55 (B := fun i => (tab p).testBit i) hn (n + 1) 0 6000 σ (by omega) (by omega) w30 w31 hB
    obtain ⟨β, c1, c2, c3, -, c5⟩ := out_L104 (B := fun i => (tab p).testBit i) hn (n + 1) 0 6000 α (by omega) (by omega) (by rw [a2]; exact w30) (by rw [a2]; exact w31) (fun i j h => a5 i j (Nat.zero_le i) h)
    rw [nI_0] at a1 c1
    obtain ⟨σ', g1, g2, g3⟩ := ih (p + 1) f β (by omega) (by omega) (by rw [c2, a2]; exact w30) (by rw [c2, a2]; exact w31) (fun i j h => by rw [c5 i j (Nat.zero_le i) h, tab_s p (by omega) i (by omega) j (by omega) (by omega)])
    refine ⟨σ', ?_, g2.trans (c2.trans a2), fun x h17 h18 => by rw [g3 x h17 h18, c3 x h17, a3 x h18]⟩
    rw [fX9_passesWithSlip_L41, gR2, w30, ob, mul_nI 33 33 rfl, lZ2 17 1089 (k := 33 * n) (by omega), ob, b0, if_pos rfl, a1, c1]
    simp only [iflt, nI_1]
    exact g1
end PASSES
theorem s_passes : st_passes Cpl := by
  intro σ1 σ2 hC p1 p2
  obtain ⟨M, M', R, R', S, S', n, c, t, hC⟩ := hC
  have hQ := hC
  obtain ⟨hr, hf2, hT, hm, hc2, ht, hst, hcr, hb, hi0, hi1⟩ := hQ
  have hr0 := hr
  have hf20 := hf2
  obtain ⟨hMe, hR, hS, e01, e02, e03, e04, e05, e322, ⟨o0_0, o0_6, o0_7, o0_8, o0_9, o0_10, o0_12, o0_13, o1_0, o32_0, o32_1, o33_0, o98_0, o94_0, o94_1, o84_0, o84_1, o49_0, o49_1, o50_0, o51_0, o50_1, o50_2, o67_0, o68_0, o67_1, o67_2, o3_0, o3_1, o6_0, o6_1, o9_0, o9_1, o9_2, o9_3, o14_0, o14_1, o14_2, o14_3⟩, hrow, hodd⟩ := hr0
  obtain ⟨w1, w2, w4, w6, w7, w8, w10, w12, w21, w22, w24, w25, w26, w27, w28, w29, w30, w31, w33, w34, w36, w37, w38⟩ := hf20
  obtain ⟨kM, kM1, kM1n, kM2, kM2n⟩ := kMel hMe
  obtain ⟨kR, ⟨kR1, kR1n⟩, ⟨kR2, kR2n⟩, ⟨kR3, kR3n⟩, ⟨kR4, kR4n⟩⟩ := kTri hR
  obtain ⟨⟨kS, kSn⟩, kSs⟩ := kRow hS
  obtain ⟨em0, em1⟩ := hr.mel
  obtain ⟨et0, et1, et2, et3⟩ := hr.tri
  have erow := hr.row
  obtain ⟨hn40, hn1, hn2, hnk⟩ := id hm
  obtain ⟨ht6, ht1, ht2, htk⟩ := id ht
  obtain ⟨hc12, hc2e⟩ := id hc2
  obtain ⟨hs3, hsw, hsr, hss, hsg, hse, hse0⟩ := id hst
  unfold fX8_passes fX9_passes
  rw [isW, in9 1 16 (L := 1) (H := 16) rfl rfl, ob, ob]
  by_cases h : 1 ≤ p1 ∧ p1 ≤ 16
  · rw [ifz1 h, ifz1 h, isW, in9 0 1 (L := 0) (H := 1) rfl rfl, ob, ob]
    obtain ⟨m, h1, h16, rfl⟩ := (inAB 1 16 rfl rfl (by decide) (by decide)).mp h
    by_cases h2 : 0 ≤ p2 ∧ p2 ≤ 1
    · obtain ⟨e, he, rfl⟩ := (inK 1 rfl (by decide)).mp h2
      obtain ⟨d1, d2, d3⟩ := nd_z m (by omega) h1 e he
      have a := passes_L d1 d2 d3 (ex := fun u5 => some (-1, u5)) (σ1 := σ1) (pz m e) 0 6000 (by omega) (by omega)
      rw [nI_0] at a
      rw [ifz1 h2, ifz1 h2, a]
      by_cases e0 : e = 0
      · subst e0
        obtain ⟨l1, l2, l3⟩ := lg2_ok m (by omega)
        have b := fig_L l1 l2 l3 (ex2 := fun x2 u3 => some (x2, u3)) (σ2 := σ2) (lg2 m) 0 6000 (by omega) (by omega)
        rw [nI_0] at b
        unfold fX9_figures
        rw [if_pos nI_0, b, ob]
        exact ⟨_, σ1, σ2, rfl, rfl, ⟨M, M', R, R', S, S', n, c, t, hC⟩⟩
      · have e1 : e = 1 := by omega
        subst e1
        obtain ⟨α, a1, a2, a3, -, a5⟩ := init_L 1089 0 6000 σ2 (by omega) (by omega) w30
        obtain ⟨β, b1, b2, b3⟩ := slip_L (n := m) (ex := fun x24 u25 => some (x24, u25)) h16 h1 (pz1 m) 0 6000 α (by omega) (by have := (tab_z m (by omega) h1).1; omega) (by rw [a2]; exact w30) (by rw [a2]; exact w31) (fun i j hij => a5 _ (Nat.zero_le _) (by omega))
        rw [nI_0] at a1 b1
        unfold fX9_passesWithSlip
        rw [if_neg (show ¬ nI 1 = 0 by decide), vC2, a1, b1, ob]
        refine ⟨_, σ1, β, rfl, rfl, M, M', R, R', S, S', n, c, t, hC.fr rfl (b2.trans a2) (fun _ _ _ => rfl) (fun b k hs => ?_)⟩
        unfold sc2 at hs
        rw [b3 b (by omega) (by omega), a3 b (by omega)]
    · rw [ifz0 h2, ifz0 h2]
      exact ⟨_, σ1, σ2, rfl, rfl, ⟨M, M', R, R', S, S', n, c, t, hC⟩⟩
  · rw [ifz0 h, ifz0 h]
    exact ⟨_, σ1, σ2, rfl, rfl, ⟨M, M', R, R', S, S', n, c, t, hC⟩⟩
