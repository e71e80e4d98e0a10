section TASKS2
variable {w R' : Nat} {t : Nat → Nat}
theorem kG.fr {τ υ τ' υ' : hM} (h : kG R' τ υ) (h1 : τ'.2.2 = τ.2.2) (h2 : υ'.2.2 = υ.2.2) : kG R' τ' υ' := by
  unfold kG at h ⊢
  rw [h1, h2]
  exact h
theorem tasks_end {a i f g m : Nat} {τ υ : hM} (hlt : ¬ sk t w a < w) (hi : i ≤ a) (hG : kG R' τ υ) (h : jR τ υ w t a 0) (hn : kRt R' τ υ m) : ∃ (F a' m' : Nat) (τ' υ' : hM), (∀ ex : hM → Option hM, fX7_readFrom_L11 kT1 R' 1 ex (f + 1) (nI i) τ = ex τ') ∧ (∀ ex : Int32 → hM → Option (Int32 × hM), fX9_tasks_L17 kT2 0 ex (g + 1) 0 υ = ex (nI F) υ') ∧ Fr1 R' (R' + 4) τ τ' ∧ Fr2 12 12 υ υ' ∧ jR τ' υ' w t a' F ∧ (F = 0 → kRt R' τ' υ' m') := by
  obtain ⟨k, p, h1, h2, h3⟩ := id h
  have hle := sk_in (t := t) h1.2.1.1
  have hw4 := h1.1.2.2.1
  obtain ⟨τ0, a1, a2, a3⟩ := ev_isOver h1
  rw [if_neg (show ¬ (0 = 0 ∧ sk t w a < w) from fun q => hlt q.2)] at a1
  obtain ⟨υ0, b1, b2, b3, b4, -⟩ := ev_here (h3 rfl)
  rw [if_neg hlt] at b1
  have ref : ∀ ex : Int32 → hM → Option (Int32 × hM), fX9_tasks_L17 kT2 0 ex (g + 1) 0 υ = ex (nI 0) υ0 := fun ex => by
    rw [fX9_tasks_L17, if_pos rfl, vC2, b1, ob, if_pos (show (-1 : Int32) < 0 by decide), nI_0]
  by_cases h400 : i < 400
  · refine ⟨0, sk t w a, m, τ0, υ0, fun ex => ?_, ref, a2.fr, b2.fr, ⟨_, _, a3, (b4 14 (by decide)).trans h2, fun _ => b3⟩, fun _ => hn.fr (fun x _ _ => a2.2 x (by have := hG.2.1; omega)) (b2.2.1 12 (by decide)) (b2.2.2 20 (by omega))⟩
    rw [fX7_readFrom_L11, if_neg (show ¬ (400 : Int32) ≤ nI i from nI_ge (b := 400) h400 (by decide)), vC1 1 6, a1, ob, if_neg (show ¬ ((1 : Int32), τ0).1 = 0 from (by decide : ¬ (1 : Int32) = 0))]
  · refine ⟨0, a, m, τ, υ0, fun ex => ?_, ref, Fr1.rfl, b2.fr, ⟨_, _, h1, (b4 14 (by decide)).trans h2, fun _ => by rw [show sk t w a = a by omega] at b3; exact b3⟩, fun _ => hn.fr (fun x _ _ => rfl) (b2.2.1 12 (by decide)) (b2.2.2 20 (by omega))⟩
    rw [fX7_readFrom_L11, if_pos (show (400 : Int32) ≤ nI i from nI_le (a := 400) (by omega) (by omega))]
theorem tasks_L : ∀ (d a i f g m : Nat) (τ υ : hM), w ≤ a + d → i ≤ a → d + 1 < f → d + 1 < g → kG R' τ υ → jR τ υ w t a 0 → kRt R' τ υ m → ∃ (F a' m' : Nat) (τ' υ' : hM), (∀ ex : hM → Option hM, fX7_readFrom_L11 kT1 R' 1 ex f (nI i) τ = ex τ') ∧ (∀ ex : Int32 → hM → Option (Int32 × hM), fX9_tasks_L17 kT2 0 ex g 0 υ = ex (nI F) υ') ∧ Fr1 R' (R' + 4) τ τ' ∧ Fr2 12 12 υ υ' ∧ jR τ' υ' w t a' F ∧ (F = 0 → kRt R' τ' υ' m') := by
  intro d
  induction d with
  | zero =>
    intro a i f g m τ υ hw hi hf hg hG h hn
    obtain ⟨f, rfl⟩ : ∃ f', f = f' + 1 := ⟨f - 1, by omega⟩
    obtain ⟨g, rfl⟩ : ∃ g', g = g' + 1 := ⟨g - 1, by omega⟩
    obtain ⟨k, p, h1, h2, h3⟩ := id h
    have hle := sk_in (t := t) h1.2.1.1
    exact tasks_end (by omega) hi hG h hn
  | succ d ih =>
    intro a i f g m τ υ hw hi hf hg hG h hn
    obtain ⟨f, rfl⟩ : ∃ f', f = f' + 1 := ⟨f - 1, by omega⟩
    obtain ⟨g, rfl⟩ : ∃ g', g = g' + 1 := ⟨g - 1, by omega⟩
    obtain ⟨k, p, h1, h2, h3⟩ := id h
    have hle := sk_in (t := t) h1.2.1.1
    have hw4 := h1.1.2.2.1
    by_cases hlt : sk t w a < w
    · obtain ⟨F, a', m', τ', υ', x1, x2, x3, x4, x5, x6⟩ := task_step hG h hlt (i := i) (by omega) hn
      have hF5 := x5.lt5
      by_cases hF : F = 0
      · subst hF
        obtain ⟨y1, y2⟩ := x6 rfl
        obtain ⟨F2, a2, m2, τ2, υ2, z1, z2, z3, z4, z5, z6⟩ := ih a' (i + 1) f g m' τ' υ' (by omega) (by omega) (by omega) (by omega) (hG.fr x3.1 x4.1) x5 y2
        exact ⟨F2, a2, m2, τ2, υ2, fun ex => (x1 ex f).trans (z1 ex), fun ex => by rw [x2 ex g, nI_0]; exact z2 ex, x3.trans z3, x4.trans z4, z5, z6⟩
      · obtain ⟨g, rfl⟩ : ∃ g', g = g' + 1 := ⟨g - 1, by omega⟩
        obtain ⟨f, rfl⟩ : ∃ f', f = f' + 1 := ⟨f - 1, by omega⟩
        have ref : ∀ ex : Int32 → hM → Option (Int32 × hM), fX9_tasks_L17 kT2 0 ex (g + 1 + 1) 0 υ = ex (nI F) υ' := fun ex => by
          rw [x2 ex (g + 1), fX9_tasks_L17, if_neg (nI_ne0 (by omega) (by omega))]
        obtain ⟨k', p', q1, q2, q3⟩ := id x5
        by_cases h400 : i + 1 < 400
        · obtain ⟨τ2, c1, c2, c3⟩ := ev_isOver q1
          rw [if_neg (show ¬ (F = 0 ∧ sk t w a' < w) from fun q => hF q.1)] at c1
          refine ⟨F, _, m', τ2, υ', fun ex => ?_, ref, x3.trans c2.fr, x4, ⟨_, _, c3, q2, fun q => absurd q hF⟩, fun q => absurd q hF⟩
          rw [x1 ex (f + 1), fX7_readFrom_L11, if_neg (show ¬ (400 : Int32) ≤ nI (i + 1) from nI_ge (b := 400) h400 (by decide)), vC1 1 6, c1, ob, if_neg (show ¬ ((1 : Int32), τ2).1 = 0 from (by decide : ¬ (1 : Int32) = 0))]
        · refine ⟨F, a', m', τ', υ', fun ex => ?_, ref, x3, x4, x5, fun q => absurd q hF⟩
          rw [x1 ex (f + 1), fX7_readFrom_L11, if_pos (show (400 : Int32) ≤ nI (i + 1) from nI_le (a := 400) (by omega) (by omega))]
    · exact tasks_end hlt hi hG h hn
end TASKS2
theorem tasks_L60 : ∀ (d k fuel : Nat) (υ : hM), k + d = 24 → d < fuel → υ.2.2 0 6 = some 4 → υ.2.2 0 25 = some 12 → ∃ υ' : hM, (∀ ex : hM → Option (Int32 × hM), fX9_tasks_L60 kT2 0 ex fuel (nI k) υ = ex υ') ∧ υ'.2.2 = υ.2.2 ∧ (∀ x, x ≠ 4 → υ'.1 x = υ.1 x) ∧ (∀ j, j < k → υ'.1 4 j = υ.1 4 j) ∧ ∀ j, k ≤ j → j < 24 → υ'.1 4 j = υ.1 12 j := by
  intro d
  induction d with
  | zero =>
    intro k fuel υ hk hf r1 r2
    obtain ⟨f, rfl⟩ : ∃ f, fuel = f + 1 := ⟨fuel - 1, by omega⟩
    have e : k = 24 := by omega
    subst e
    exact ⟨υ, fun ex => by rw [fX9_tasks_L60, if_pos (by decide)], rfl, fun _ _ => rfl, fun _ _ => rfl, fun j a b => absurd a (by omega)⟩
  | succ d ih =>
    intro k fuel υ hk hf r1 r2
    obtain ⟨f, rfl⟩ : ∃ f, fuel = f + 1 := ⟨fuel - 1, by omega⟩
    obtain ⟨υ', g1, g2, g3, g4, g5⟩ := ih (k + 1) f (wI υ 4 k (υ.1 12 k)) (by omega) (by omega) r1 r2
    refine ⟨υ', fun ex => ?_, g2, fun x h1 => by rw [g3 x h1, wIn h1], fun j hj => ?_, fun j h1 h2 => ?_⟩
    · rw [fX9_tasks_L60, if_neg (show ¬ (24 : Int32) ≤ nI k from nI_ge (b := 24) (by omega) (by decide)), gR2, r1, ob, gR2, r2, ob, lA2 12 24 (k := k) (by omega), ob, sA2 4 24 (k := k) (by omega), ob]
      simp only [iflt, nI_1]
      exact g1 ex
    · rw [g4 j (by omega), wIk (by omega)]
    · by_cases e : j = k
      · subst e; rw [g4 _ (by omega), wIe]
      · rw [g5 j (by omega) h2, wIn (by decide)]
theorem tasks_L86 : ∀ (d k fuel : Nat) (υ : hM), k + d = 6 → d < fuel → υ.2.2 0 8 = some 6 → ∃ υ' : hM, (∀ ex : hM → Option (Int32 × hM), fX9_tasks_L86 kT2 0 ex fuel (nI k) υ = ex υ') ∧ υ'.2.2 = υ.2.2 ∧ (∀ x, x ≠ 6 → υ'.1 x = υ.1 x) ∧ (∀ j, j < k → υ'.1 6 j = υ.1 6 j) ∧ ∀ j, k ≤ j → j < 6 → υ'.1 6 j = 0 := by
  intro d
  induction d with
  | zero =>
    intro k fuel υ hk hf r1
    obtain ⟨f, rfl⟩ : ∃ f, fuel = f + 1 := ⟨fuel - 1, by omega⟩
    have e : k = 6 := by omega
    subst e
    exact ⟨υ, fun ex => by rw [fX9_tasks_L86, if_pos (by decide)], rfl, fun _ _ => rfl, fun _ _ => rfl, fun j a b => absurd a (by omega)⟩
  | succ d ih =>
    intro k fuel υ hk hf r1
    obtain ⟨f, rfl⟩ : ∃ f, fuel = f + 1 := ⟨fuel - 1, by omega⟩
    obtain ⟨υ', g1, g2, g3, g4, g5⟩ := ih (k + 1) f (wI υ 6 k 0) (by omega) (by omega) r1
    refine ⟨υ', fun ex => ?_, g2, fun x h1 => by rw [g3 x h1, wIn h1], fun j hj => ?_, fun j h1 h2 => ?_⟩
    · rw [fX9_tasks_L86, if_neg (show ¬ (6 : Int32) ≤ nI k from nI_ge (b := 6) (by omega) (by decide)), gR2, r1, ob, sA2 6 6 (k := k) (by omega), ob]
      simp only [iflt, nI_1]
      exact g1 ex
    · rw [g4 j (by omega), wIk (by omega)]
    · by_cases e : j = k
      · subst e; rw [g4 _ (by omega), wIe]
      · exact g5 j (by omega) h2
theorem pRf1.swapR {M M' R R' S S' : Nat} {ρ ρ' : Nat → Nat → Option Nat} (h : pRf1 M M' R R' S S' ρ) (e1 : ρ' 0 3 = some R') (e2 : ρ' 0 4 = some R) (e : ∀ b j, ¬ (b = 0 ∧ (j = 3 ∨ j = 4)) → ρ' b j = ρ b j) : pRf1 M M' R' R S S' ρ' := by
  obtain ⟨hMe, hR, hS, e01, e02, e03, e04, e05, e322, ⟨o0_0, o0_6, o0_7, o0_8, o0_9, o0_10, o0_12, o0_13, o1_0, o32_0, o32_1, o33_0, o98_0, o94_0, o94_1, o84_0, o84_1, o49_0, o49_1, o50_0, o51_0, o50_1, o50_2, o67_0, o68_0, o67_1, o67_2, o3_0, o3_1, o6_0, o6_1, o9_0, o9_1, o9_2, o9_3, o14_0, o14_1, o14_2, o14_3⟩, hrow, hodd⟩ := h
  refine ⟨hMe, by omega, hS, by rw [e _ _ (by omega)]; exact e01, by rw [e _ _ (by omega)]; exact e02, e1, e2, by rw [e _ _ (by omega)]; exact e05, by rw [e _ _ (by omega)]; exact e322, ?_, fun k hk => by rw [e _ _ (by omega), e _ _ (by omega), e _ _ (by omega), e _ _ (by omega)]; exact hrow k hk, fun k hk => by rw [e _ _ (by omega)]; exact hodd k hk⟩
  refine ⟨?_, ?_, ?_, ?_, ?_, ?_, ?_, ?_, ?_, ?_, ?_, ?_, ?_, ?_, ?_, ?_, ?_, ?_, ?_, ?_, ?_, ?_, ?_, ?_, ?_, ?_, ?_, ?_, ?_, ?_, ?_, ?_, ?_, ?_, ?_, ?_, ?_, ?_, ?_⟩ <;> (rw [e _ _ (by omega)]; assumption)
theorem ev_dropResults {σ : hM} (o0_6 : σ.2.2 0 6 = some 32) : fX8_dropResults kT1 0 σ = some (wI (wI σ 32 4 0) 32 5 0) := by
  unfold fX8_dropResults
  rw [gR1 0 8, o0_6, ob, pI1 32 5, ob, gR1 0 8, wrr, o0_6, ob, pI1 32 5, ob]
theorem s_tasks : st_tasks Cpl := by
  intro σ1 σ2 hC
  obtain ⟨M, M', R, R', S, S', n, c, t, hC⟩ := hC
  have hQ := hC
  obtain ⟨hr, hf2, hT, hm, hc2, ht, hst, hcr, hb, hi0, hi1⟩ := hQ
  have hr0 := hr
  have hf20 := hf2
  obtain ⟨hMe, hR, hS, e01, e02, e03, e04, e05, e322, ⟨o0_0, o0_6, o0_7, o0_8, o0_9, o0_10, o0_12, o0_13, o1_0, o32_0, o32_1, o33_0, o98_0, o94_0, o94_1, o84_0, o84_1, o49_0, o49_1, o50_0, o51_0, o50_1, o50_2, o67_0, o68_0, o67_1, o67_2, o3_0, o3_1, o6_0, o6_1, o9_0, o9_1, o9_2, o9_3, o14_0, o14_1, o14_2, o14_3⟩, hrow, hodd⟩ := hr0
  obtain ⟨w1, w2, w4, w6, w7, w8, w10, w12, w21, w22, w24, w25, w26, w27, w28, w29, w30, w31, w33, w34, w36, w37, w38⟩ := hf20
  obtain ⟨kM, kM1, kM1n, kM2, kM2n⟩ := kMel hMe
  obtain ⟨kR, ⟨kR1, kR1n⟩, ⟨kR2, kR2n⟩, ⟨kR3, kR3n⟩, ⟨kR4, kR4n⟩⟩ := kTri hR
  obtain ⟨⟨kS, kSn⟩, kSs⟩ := kRow hS
  obtain ⟨em0, em1⟩ := hr.mel
  obtain ⟨et0, et1, et2, et3⟩ := hr.tri
  have erow := hr.row
  obtain ⟨hn40, hn1, hn2, hnk⟩ := id hm
  obtain ⟨ht6, ht1, ht2, htk⟩ := id ht
  obtain ⟨hc12, hc2e⟩ := id hc2
  obtain ⟨hs3, hsw, hsr, hss, hsg, hse, hse0⟩ := id hst
  obtain ⟨et0', et1', et2', et3'⟩ := hr.tri'
  have kQ := kTri (R := R') (R' := R) (by omega)
  obtain ⟨kR', -⟩ := id kQ
  obtain ⟨w, tx, hJ, hw⟩ := hT.opened (x := R') (j := 4) (v := 0) o1_0 w12 (by omega)
  have hG : kG R' (wI (wI (wI (wI (wI σ1 R' 4 0) 1 2 0) 1 3 0) 1 4 0) 1 5 (-1)) (wI (wI (wI σ2 0 14 (-1)) 0 15 0) 0 20 0) := ⟨kQ, by omega, ⟨et0', et1', et2', et3'⟩, w25⟩
  have hn0 : kRt R' (wI (wI (wI (wI (wI σ1 R' 4 0) 1 2 0) 1 3 0) 1 4 0) 1 5 (-1)) (wI (wI (wI σ2 0 14 (-1)) 0 15 0) 0 20 0) 0 := ⟨by decide, by rw [wIn (by omega), wIn (by omega), wIn (by omega), wIn (by omega), wIe, nI_0], by rw [wIe, nI_0], fun k hk => absurd hk (by omega)⟩
  obtain ⟨F, a', m', τ, υ, x1, x2, x3, x4, x5, x6⟩ := tasks_L (w := w) (t := tx) w 0 0 6000 6000 0 _ _ (by omega) (by omega) (by omega) (by omega) hG hJ hn0
  rw [nI_0] at x1
  have hF5 := x5.lt5
  obtain ⟨k5, p5, c5, d5, -⟩ := id x5
  obtain ⟨-, -, c2, c3, c4, c6⟩ := c5
  have fT : ∀ x, x ≠ 1 → (x < R' ∨ R' + 4 < x) → τ.1 x = σ1.1 x := fun x h1 h2 => by rw [x3.2 x h1 h2, wIn h1, wIn h1, wIn h1, wIn h1, wIn (by omega)]
  have gT : ∀ x, x ≠ 0 → x ≠ 12 → υ.1 x = σ2.1 x := fun x h1 h2 => by rw [x4.2.1 x h1 h2 h2, wIn h1, wIn h1, wIn h1]
  have gT0 : ∀ j, (j < 14 ∨ 23 < j) → υ.1 0 j = σ2.1 0 j := fun j hj => by rw [x4.2.2 j hj, wIk (by omega), wIk (by omega), wIk (by omega)]
  have rT : τ.2.2 = σ1.2.2 := x3.1
  have rU : υ.2.2 = σ2.2.2 := x4.1
  have rd : fX7_readFrom kT1 R' 1 σ1 = some τ := by
    unfold fX7_readFrom
    rw [pI kR', ob, vC1 1 6, ev_open, ob, x1]
  have e00 : τ.2.2 0 0 = some 1 := by rw [rT]; exact o0_0
  have hf0 : fX6_hasFault kT1 1 (wI τ 1 1 0) = some (if F = 0 then 0 else 1, wI τ 1 1 0) := by
    unfold fX6_hasFault
    rw [gI1 1 6, ob, wIk (by decide), c4]
    by_cases e : F = 0
    · rw [if_pos e, e, if_pos nI_0]; rfl
    · rw [if_neg e, if_neg (nI_ne0 (by omega) (by omega))]; rfl
  unfold fX8_tasks fX9_tasks
  rw [gR1 0 8, e04, ob, gR1 0 8, o0_0, ob, vC kR', rd, ob, gR1 0 8, e00, ob, vC1 1 6, ev_clear, ob, gR1 0 8, wrr, e00, ob, vC1 1 6, hf0, ob]
  rw [pI2, ob, pI2, ob, pI2, ob, x2, pI2, ob]
  by_cases hF : F = 0
  · subst hF
    obtain ⟨hm6, hm1, hm2, hmk⟩ := x6 rfl
    have cl : ∀ b j, ¬ (b = 0 ∧ (j = 3 ∨ j = 4)) → (wR (wR (wI τ 1 1 0) 0 3 (some R')) 0 4 (some R)).2.2 b j = σ1.2.2 b j := fun b j h => by rw [wRq, if_neg (by omega), wRq, if_neg (by omega), wrr, rT]
    have p1 : ∀ (u : hM) (v : Option Nat), ptr kT1 u 0 8 3 v = some (wR u 0 3 v) := fun u v => pR (show kT1.1 0 = 9 from rfl)
    have p2 : ∀ (u : hM) (v : Option Nat), ptr kT1 u 0 8 4 v = some (wR u 0 4 v) := fun u v => pR (show kT1.1 0 = 9 from rfl)
    have ds := ev_dropResults (σ := wR (wR (wI τ 1 1 0) 0 3 (some R')) 0 4 (some R)) (by rw [cl _ _ (by omega)]; exact o0_6)
    have di := ev_dropImages (σ := wI (wI (wR (wR (wI τ 1 1 0) 0 3 (some R')) 0 4 (some R)) 32 4 0) 32 5 0) (by rw [wrr, wrr, cl _ _ (by omega)]; exact o0_7) (by rw [wrr, wrr, cl _ _ (by omega)]; exact o49_0) (by rw [wrr, wrr, cl _ _ (by omega)]; exact o49_1)
    have e1n : (wI (wI (wI (wI (wR (wR (wI τ 1 1 0) 0 3 (some R')) 0 4 (some R)) 32 4 0) 32 5 0) 50 7 0) 67 7 0).2.2 0 3 = some R' := by
      rw [wrr, wrr, wrr, wrr, wRq, if_neg (by decide), wRq, if_pos ⟨rfl, rfl⟩]
    have esz : (wI (wI (wI (wI (wR (wR (wI τ 1 1 0) 0 3 (some R')) 0 4 (some R)) 32 4 0) 32 5 0) 50 7 0) 67 7 0).1 R' 4 = nI m' := by
      rw [wIn (by omega), wIn (by omega), wIn (by omega), wIn (by omega)]
      show (wI τ 1 1 0).1 R' 4 = nI m'
      rw [wIn (by omega)]
      exact hm1
    obtain ⟨υ2, y1, y2, y3, -, y5⟩ := tasks_L60 24 0 6000 (wI (wI υ 0 13 0) 0 5 (nI m')) (by omega) (by omega) (by rw [wrr, wrr, rU]; exact w6) (by rw [wrr, wrr, rU]; exact w25)
    obtain ⟨υ3, v1, v2, v3, -, v5⟩ := tasks_L86 6 0 6000 υ2 (by omega) (by omega) (by rw [y2, wrr, wrr, rU]; exact w8)
    rw [nI_0] at y1 v1
    have u38 : υ3.2.2 0 38 = some 23 := by rw [v2, y2, wrr, wrr, rU]; exact w38
    have q0 : ∀ u : hM, astz kT2 u 23 0 0 = some (wI u 23 0 0) := fun u => by
      have := sZ2 23 2 (σ := u) (k := 0) (v := 0) (by decide)
      rw [nI_0, nar_0] at this
      exact this
    have q1 : ∀ u : hM, astz kT2 u 23 1 0 = some (wI u 23 1 0) := fun u => by
      have := sZ2 23 2 (σ := u) (k := 1) (v := 0) (by decide)
      rw [nar_0] at this
      exact this
    have em : (wI (wI υ3 23 0 0) 23 1 0).1 0 5 = nI m' := by
      rw [wIn (by decide), wIn (by decide), v3 0 (by decide), y3 0 (by decide), wIe]
    rw [if_pos (show ((if 0 = 0 then (0 : Int32) else 1), wI τ 1 1 0).1 = 0 from rfl), gR1 0 8, wrr, rT, e03, ob, gR1 0 8, wrr, rT, e04, ob, p1, ob, p2, ob, vC1 0 8, ds, ob, vC1 0 8, di, ob, gR1 0 8, e1n, ob, gI kR', ob, esz]
    rw [if_pos (show nI 0 ≤ 0 by decide), gI2, ob, wIk (by decide), hm2, pI2, ob, y1, v1, gR2, u38, ob, q0, ob, gR2, wrr, u38, ob, q1, ob, gI2, ob, em]
    refine ⟨_, _, _, rfl, rfl, M, M', R', R, S, S', n, c, m', ?_⟩
    have fA : ∀ x, x ≠ 1 → x ≠ 32 → x ≠ 50 → x ≠ 67 → (wI (wI (wI (wI (wR (wR (wI τ 1 1 0) 0 3 (some R')) 0 4 (some R)) 32 4 0) 32 5 0) 50 7 0) 67 7 0).1 x = τ.1 x := by
      intro x h1 h32 h50 h67
      rw [wIn h67, wIn h50, wIn h32, wIn h32]
      show (wI τ 1 1 0).1 x = τ.1 x
      rw [wIn h1]
    have fB : ∀ x, x ≠ 1 → x ≠ 32 → x ≠ 50 → x ≠ 67 → (x < R' ∨ R' + 4 < x) → (wI (wI (wI (wI (wR (wR (wI τ 1 1 0) 0 3 (some R')) 0 4 (some R)) 32 4 0) 32 5 0) 50 7 0) 67 7 0).1 x = σ1.1 x := fun x h1 h32 h50 h67 hs => by rw [fA x h1 h32 h50 h67, fT x h1 hs]
    have f32 : ∀ j, (wI (wI (wI (wI (wR (wR (wI τ 1 1 0) 0 3 (some R')) 0 4 (some R)) 32 4 0) 32 5 0) 50 7 0) 67 7 0).1 32 j = if j = 5 then 0 else if j = 4 then 0 else σ1.1 32 j := by
      intro j
      rw [wIn (by decide), wIn (by decide), wIs, wIs]
      show (if j = 5 then (0 : Int32) else if j = 4 then 0 else (wI τ 1 1 0).1 32 j) = _
      rw [wIn (by decide), fT 32 (by decide) (by omega)]
    have gA : ∀ x, x ≠ 0 → x ≠ 4 → x ≠ 6 → x ≠ 12 → x ≠ 23 → (wI (wI υ3 23 0 0) 23 1 0).1 x = σ2.1 x := by
      intro x h0 h4 h6 h12 h23
      rw [wIn h23, wIn h23, v3 x h6, y3 x h4, wIn h0, wIn h0, gT x h0 h12]
    have gB : ∀ j, j ≠ 5 → j ≠ 13 → (j < 14 ∨ 23 < j) → (wI (wI υ3 23 0 0) 23 1 0).1 0 j = σ2.1 0 j := by
      intro j h5 h13 hj
      rw [wIn (by decide), wIn (by decide), v3 0 (by decide), y3 0 (by decide), wIk (by omega), wIk (by omega), gT0 j hj]
    have g4 : ∀ j, j < 24 → (wI (wI υ3 23 0 0) 23 1 0).1 4 j = υ.1 12 j := by
      intro j hj
      rw [wIn (by decide), wIn (by decide), v3 4 (by decide), y5 j (Nat.zero_le j) hj, wIn (by decide), wIn (by decide)]
    have g6 : ∀ j, j < 6 → (wI (wI υ3 23 0 0) 23 1 0).1 6 j = 0 := by
      intro j hj
      rw [wIn (by decide), wIn (by decide), v5 j (Nat.zero_le j) hj]
    refine ⟨?_, ?_, ?_, ?_, ?_, ?_, ?_, ?_, ?_, ?_, ?_⟩
    · refine hr.swapR e1n (by rw [wrr, wrr, wrr, wrr, wRq, if_pos ⟨rfl, rfl⟩]) (fun b j hbj => ?_)
      rw [wrr, wrr, wrr, wrr, cl b j hbj]
    · show pRf2 υ3.2.2
      rw [v2, y2]
      show pRf2 υ.2.2
      rw [rU]
      exact hf2
    · refine ⟨0, by decide, ?_, ?_, fun k hk => absurd hk (by omega), ?_⟩
      · rw [wIn (by decide), wIn (by decide), wIn (by decide), wIn (by decide)]
        show (wI τ 1 1 0).1 1 1 = nI 0
        rw [wIe, nI_0]
      · rw [wIn (by decide), wIn (by decide), v3 0 (by decide), y3 0 (by decide), wIk (by decide), wIe, nI_0]
      · have g14 : (wI (wI υ3 23 0 0) 23 1 0).1 0 14 = p5 := by
          rw [wIn (by decide), wIn (by decide), v3 0 (by decide), y3 0 (by decide), wIk (by decide), wIk (by decide)]
          exact d5
        rw [g14, wIn (by decide), wIn (by decide), wIn (by decide), wIn (by decide)]
        show (wI τ 1 1 0).1 1 5 = p5
        rw [wIk (by decide)]
        exact c6
    · unfold pMel at *
      rw [fB M (by omega) (by omega) (by omega) (by omega) (by omega), fB (M + 1) (by omega) (by omega) (by omega) (by omega) (by omega), fB (M + 2) (by omega) (by omega) (by omega) (by omega) (by omega), gB 0 (by decide) (by decide) (by omega), gA 1 (by decide) (by decide) (by decide) (by decide) (by decide), gA 2 (by decide) (by decide) (by decide) (by decide) (by decide)]
      exact hm
    · exact ⟨hc12, by rw [gB 3 (by decide) (by decide) (by omega)]; exact hc2e⟩
    · refine ⟨hm6, esz, em, fun j hj => ?_⟩
      have := hmk j hj
      rw [fA (R' + 1) (by omega) (by omega) (by omega) (by omega), fA (R' + 2) (by omega) (by omega) (by omega) (by omega), fA (R' + 3) (by omega) (by omega) (by omega) (by omega), fA (R' + 4) (by omega) (by omega) (by omega) (by omega), g4 _ (by omega), g4 _ (by omega), g4 _ (by omega), g4 _ (by omega)]
      exact this
    · rw [gA 5 (by decide) (by decide) (by decide) (by decide) (by decide), gA 3 (by decide) (by decide) (by decide) (by decide) (by decide), gA 7 (by decide) (by decide) (by decide) (by decide) (by decide), gB 9 (by decide) (by decide) (by omega), gB 11 (by decide) (by decide) (by omega)]
      refine ⟨by rw [f32, if_neg (by decide), if_neg (by decide)]; exact hs3, fun k hk => by rw [fB (32 + 3) (by decide) (by decide) (by decide) (by decide) (by omega)]; exact hsw k hk, ?_, fun s hs => ⟨fun j hj => by rw [fB _ (by omega) (by omega) (by omega) (by omega) (by omega)]; exact (hss s hs).1 j hj, (hss s hs).2⟩, ?_, by rw [f32, if_neg (by decide), if_neg (by decide)]; exact hse, hse0⟩
      · rw [f32, f32, if_neg (by decide), if_pos rfl, if_pos rfl]
        refine ⟨0, 0, by decide, by decide, rfl, rfl, fun j hj => ?_⟩
        rw [g6 j hj]
        exact ⟨Or.inl rfl, by simp, by simp, fun _ => rfl⟩
      · rw [fB _ (by decide) (by decide) (by decide) (by decide) (by omega), fB _ (by decide) (by decide) (by decide) (by decide) (by omega)]
        exact hsg
    · unfold pCrowd at *
      rw [fB 94 (by decide) (by decide) (by decide) (by decide) (by omega), fB 95 (by decide) (by decide) (by decide) (by decide) (by omega), gB 32 (by decide) (by decide) (by omega), gA 19 (by decide) (by decide) (by decide) (by decide) (by decide)]
      exact hcr
    · unfold pBook at *
      rw [fB 0 (by decide) (by decide) (by decide) (by decide) (by omega), fB 97 (by decide) (by decide) (by decide) (by decide) (by omega), gB 35 (by decide) (by decide) (by omega), gA 21 (by decide) (by decide) (by decide) (by decide) (by decide)]
      exact hb
    · have q : (wI (wI υ3 23 0 0) 23 1 0).1 23 0 = 0 := by rw [wIk (by decide), wIe]
      exact ⟨by rw [q, wIn (by decide), wIe], Or.inl q⟩
    · have q : (wI (wI υ3 23 0 0) 23 1 0).1 23 1 = 0 := by rw [wIe]
      exact ⟨by rw [q, wIe], Or.inl q⟩
  · rw [if_neg hF, if_neg (show ¬ ((1 : Int32), wI τ 1 1 0).1 = 0 from (by decide : ¬ (1 : Int32) = 0)), gR1 0 8, wrr, e00, ob, gI1 1 6, ob, wIk (by decide), c4, if_neg (nI_nle (by omega) (by omega))]
    refine ⟨_, _, _, rfl, rfl, M, M', R, R', S, S', n, c, t, hC.text rT rU (fun x k hs h1 => ?_) (fun b k hs h2 => ?_) ⟨0, by decide, by rw [wIe, nI_0], by rw [wIe, nI_0], fun k hk => absurd hk (by omega), by rw [wIk (by decide), wIk (by decide), c6, d5]⟩⟩
    · unfold sc1 at hs
      rw [wIn h1, fT x h1 (by omega)]
    · unfold sc2 at hs
      by_cases e : b = 0
      · subst e
        rw [wIk (by omega), gT0 k (by omega)]
      · rw [wIn e, gT b e (by omega)]
