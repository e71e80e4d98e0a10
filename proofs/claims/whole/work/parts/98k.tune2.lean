section TUNE2
variable {w M' : Nat} {t : Nat → Nat}
theorem tG.fr {τ υ τ' υ' : hM} (h : tG M' τ υ) (h1 : τ'.2.2 = τ.2.2) (h2 : υ'.2.2 = υ.2.2) : tG M' τ' υ' := by
  unfold tG at h ⊢
  rw [h1, h2]
  exact h
theorem tune_L : ∀ (d a i f g m : Nat) (br : Int32) (τ υ : hM), w ≤ a + d → i ≤ a → d + 1 < f → d + 1 < g → tG M' τ υ → jR τ υ w t a 0 → nR M' τ υ m → (br = 0 ∨ br = 1) → ∃ (F a' m' : Nat) (τ' υ' : hM), (∀ ex : hM → Option hM, fX1_readFrom_L13 kT1 M' 1 ex f br (nI i) τ = ex τ') ∧ (∀ ex : Int32 → hM → Option (Int32 × hM), fX9_tune_L19 kT2 0 ex g 0 br υ = ex (nI F) υ') ∧ Fr1 M' (M' + 2) τ τ' ∧ Fr2 9 10 υ υ' ∧ jR τ' υ' w t a' F ∧ (F = 0 → nR M' τ' υ' m') := by
  intro d
  induction d with
  | zero =>
    intro a i f g m br τ υ hw hi hf hg hG h hn hb
    obtain ⟨f, rfl⟩ : ∃ f', f = f' + 1 := ⟨f - 1, by omega⟩
    obtain ⟨g, rfl⟩ : ∃ g', g = g' + 1 := ⟨g - 1, by omega⟩
    obtain ⟨k, p, h1, h2, h3⟩ := id h
    have hle := sk_in (t := t) h1.2.1.1
    have hw4 := h1.1.2.2.1
    obtain ⟨τ0, a1, a2, a3⟩ := ev_isOver h1
    rw [if_neg (show ¬ (0 = 0 ∧ sk t w a < w) from fun q => by omega)] at a1
    obtain ⟨υ0, b1, b2, b3, b4, -⟩ := ev_here (h3 rfl)
    rw [if_neg (show ¬ sk t w a < w by omega)] at b1
    have ref : ∀ ex : Int32 → hM → Option (Int32 × hM), fX9_tune_L19 kT2 0 ex (g + 1) 0 br υ = ex (nI 0) υ0 := fun ex => by
      rw [fX9_tune_L19, if_pos rfl, vC2, b1, ob, if_pos (show (-1 : Int32) < 0 by decide), nI_0]
    by_cases h400 : i < 400
    · refine ⟨0, sk t w a, m, τ0, υ0, fun ex => ?_, ref, a2.fr, b2.fr, ⟨_, _, a3, (b4 14 (by decide)).trans h2, fun _ => b3⟩, fun _ => hn.fr (fun x _ _ => a2.2 x (by have := hG.1.2.2.2.2.2.1; omega)) (b2.2.1 9 (by decide)) (b2.2.1 10 (by decide)) (b2.2.2 20 (by omega))⟩
      rw [fX1_readFrom_L13, if_neg (show ¬ (400 : Int32) ≤ nI i from nI_ge (b := 400) h400 (by decide)), vC1 1 6, a1, ob, if_neg (show ¬ ((1 : Int32), τ0).1 = 0 from (by decide : ¬ (1 : Int32) = 0))]
    · refine ⟨0, a, m, τ, υ0, fun ex => ?_, ref, Fr1.rfl, b2.fr, ⟨_, _, h1, (b4 14 (by decide)).trans h2, fun _ => by rw [show sk t w a = a by omega] at b3; exact b3⟩, fun _ => hn.fr (fun x _ _ => rfl) (b2.2.1 9 (by decide)) (b2.2.1 10 (by decide)) (b2.2.2 20 (by omega))⟩
      rw [fX1_readFrom_L13, if_pos (show (400 : Int32) ≤ nI i from nI_le (a := 400) (by omega) (by omega))]
  | succ d ih =>
    intro a i f g m br τ υ hw hi hf hg hG h hn hb
    obtain ⟨f, rfl⟩ : ∃ f', f = f' + 1 := ⟨f - 1, by omega⟩
    obtain ⟨g, rfl⟩ : ∃ g', g = g' + 1 := ⟨g - 1, by omega⟩
    obtain ⟨k, p, h1, h2, h3⟩ := id h
    have hle := sk_in (t := t) h1.2.1.1
    have hw4 := h1.1.2.2.1
    by_cases hlt : sk t w a < w
    · obtain ⟨F, a', m', br', τ', υ', x1, x2, x3, x4, x5, x6⟩ := note_step hG h hlt (i := i) (by omega) hn hb
      have hF5 := x5.lt5
      by_cases hF : F = 0
      · subst hF
        obtain ⟨y1, y2, y3, y4⟩ := x6 rfl
        obtain ⟨F2, a2, m2, τ2, υ2, z1, z2, z3, z4, z5, z6⟩ := ih a' (i + 1) f g m' br' τ' υ' (by omega) (by omega) (by omega) (by omega) (hG.fr x3.1 x4.1) x5 y2 y4
        exact ⟨F2, a2, m2, τ2, υ2, fun ex => (x1 ex f).trans (z1 ex), fun ex => by rw [x2 ex g, nI_0, ← y3]; exact z2 ex, x3.trans z3, x4.trans z4, z5, z6⟩
      · obtain ⟨g, rfl⟩ : ∃ g', g = g' + 1 := ⟨g - 1, by omega⟩
        obtain ⟨f, rfl⟩ : ∃ f', f = f' + 1 := ⟨f - 1, by omega⟩
        have ref : ∀ ex : Int32 → hM → Option (Int32 × hM), fX9_tune_L19 kT2 0 ex (g + 1 + 1) 0 br υ = ex (nI F) υ' := fun ex => by
          rw [x2 ex (g + 1), fX9_tune_L19, if_neg (nI_ne0 (by omega) (by omega))]
        obtain ⟨k', p', q1, q2, q3⟩ := id x5
        by_cases h400 : i + 1 < 400
        · obtain ⟨τ2, c1, c2, c3⟩ := ev_isOver q1
          rw [if_neg (show ¬ (F = 0 ∧ sk t w a' < w) from fun q => hF q.1)] at c1
          refine ⟨F, _, 0, τ2, υ', fun ex => ?_, ref, x3.trans c2.fr, x4, ⟨_, _, c3, q2, fun q => absurd q hF⟩, fun q => absurd q hF⟩
          rw [x1 ex (f + 1), fX1_readFrom_L13, if_neg (show ¬ (400 : Int32) ≤ nI (i + 1) from nI_ge (b := 400) h400 (by decide)), vC1 1 6, c1, ob, if_neg (show ¬ ((1 : Int32), τ2).1 = 0 from (by decide : ¬ (1 : Int32) = 0))]
        · refine ⟨F, a', 0, τ', υ', fun ex => ?_, ref, x3, x4, x5, fun q => absurd q hF⟩
          rw [x1 ex (f + 1), fX1_readFrom_L13, if_pos (show (400 : Int32) ≤ nI (i + 1) from nI_le (a := 400) (by omega) (by omega))]
    · obtain ⟨τ0, a1, a2, a3⟩ := ev_isOver h1
      rw [if_neg (show ¬ (0 = 0 ∧ sk t w a < w) from fun q => hlt q.2)] at a1
      obtain ⟨υ0, b1, b2, b3, b4, -⟩ := ev_here (h3 rfl)
      rw [if_neg hlt] at b1
      have ref : ∀ ex : Int32 → hM → Option (Int32 × hM), fX9_tune_L19 kT2 0 ex (g + 1) 0 br υ = ex (nI 0) υ0 := fun ex => by
        rw [fX9_tune_L19, if_pos rfl, vC2, b1, ob, if_pos (show (-1 : Int32) < 0 by decide), nI_0]
      by_cases h400 : i < 400
      · refine ⟨0, sk t w a, m, τ0, υ0, fun ex => ?_, ref, a2.fr, b2.fr, ⟨_, _, a3, (b4 14 (by decide)).trans h2, fun _ => b3⟩, fun _ => hn.fr (fun x _ _ => a2.2 x (by have := hG.1.2.2.2.2.2.1; omega)) (b2.2.1 9 (by decide)) (b2.2.1 10 (by decide)) (b2.2.2 20 (by omega))⟩
        rw [fX1_readFrom_L13, if_neg (show ¬ (400 : Int32) ≤ nI i from nI_ge (b := 400) h400 (by decide)), vC1 1 6, a1, ob, if_neg (show ¬ ((1 : Int32), τ0).1 = 0 from (by decide : ¬ (1 : Int32) = 0))]
      · refine ⟨0, a, m, τ, υ0, fun ex => ?_, ref, Fr1.rfl, b2.fr, ⟨_, _, h1, (b4 14 (by decide)).trans h2, fun _ => by rw [show sk t w a = a by omega] at b3; exact b3⟩, fun _ => hn.fr (fun x _ _ => rfl) (b2.2.1 9 (by decide)) (b2.2.1 10 (by decide)) (b2.2.2 20 (by omega))⟩
        rw [fX1_readFrom_L13, if_pos (show (400 : Int32) ≤ nI i from nI_le (a := 400) (by omega) (by omega))]
end TUNE2
/-! what a text that is read through leaves behind -/
theorem ev_open {σ : hM} : fX6_open kT1 1 σ = some (wI (wI (wI (wI σ 1 2 0) 1 3 0) 1 4 0) 1 5 (-1)) := by
  unfold fX6_open
  rw [pI1 1 6, ob, pI1 1 6, ob, pI1 1 6, ob, pI1 1 6, ob]
theorem ev_clear {σ : hM} : fX6_clear kT1 1 σ = some (wI σ 1 1 0) := by
  unfold fX6_clear
  rw [pI1 1 6, ob]
theorem ev_dropSong {σ : hM} (o0_6 : σ.2.2 0 6 = some 32) (o32_0 : σ.2.2 32 0 = some 33) : fX8_dropSong kT1 0 σ = some (wI (wI (wI σ 33 1 0) 33 2 (-1)) 0 11 0) := by
  unfold fX8_dropSong fX4_clear
  rw [gR1 0 8, o0_6, ob, gR1 32 5, o32_0, ob, vC1 33 4, pI1 33 4, ob, pI1 33 4, ob, ob, pI1 0 8, ob]
theorem drop_L {σ : hM} {ex : hM → Option hM} {f : Nat} (o0_7 : σ.2.2 0 7 = some 49) (o49_0 : σ.2.2 49 0 = some 50) (o49_1 : σ.2.2 49 1 = some 67) : fX8_dropImages_L2 kT1 0 ex (f + 3) (nI 0) σ = ex (wI (wI σ 50 7 0) 67 7 0) := by
  have l0 : aldr 16 kT1 σ 49 (nI 0) = some 50 := (lR 2 (show kT1.1 49 = 16 from rfl) (show kT1.2 49 = 2 from rfl) (by decide) (by decide)).trans o49_0
  have l1 : aldr 16 kT1 (wI σ 50 7 0) 49 (nI 1) = some 67 := (lR 2 (show kT1.1 49 = 16 from rfl) (show kT1.2 49 = 2 from rfl) (by decide) (by decide)).trans o49_1
  have z0 : ptz kT1 σ 50 5 7 0 = some (wI σ 50 7 0) := pZ (show kT1.1 50 = 6 from rfl) (Or.inl rfl)
  have z1 : ptz kT1 (wI σ 50 7 0) 67 5 7 0 = some (wI (wI σ 50 7 0) 67 7 0) := pZ (show kT1.1 67 = 6 from rfl) (Or.inl rfl)
  rw [fX8_dropImages_L2, if_neg (by decide), gR1 0 8, o0_7, ob, l0, ob, z0, ob]
  simp only [iflt, nI_1]
  rw [fX8_dropImages_L2, if_neg (by decide), gR1 0 8, wrr, o0_7, ob, l1, ob, z1, ob]
  simp only [iflt, nI_1]
  rw [fX8_dropImages_L2, if_pos (by decide)]
theorem ev_dropImages {σ : hM} (o0_7 : σ.2.2 0 7 = some 49) (o49_0 : σ.2.2 49 0 = some 50) (o49_1 : σ.2.2 49 1 = some 67) : fX8_dropImages kT1 0 σ = some (wI (wI σ 50 7 0) 67 7 0) := by
  have L := drop_L (ex := fun u5 => some u5) (f := 5997) o0_7 o49_0 o49_1
  rw [nI_0] at L
  unfold fX8_dropImages
  exact L
theorem nar_0 : vp_nar .boolean (0 : Int32) = 0 := by decide
theorem ev_endSong {υ : hM} (w38 : υ.2.2 0 38 = some 23) : fX9_endSong kT2 0 υ = some (wI (wI (wI (wI υ 0 9 (-1)) 0 35 0) 23 0 0) 23 1 0) := by
  have z0 : ∀ u : hM, astz kT2 u 23 0 0 = some (wI u 23 0 0) := fun u => by
    have := sZ2 23 2 (σ := u) (k := 0) (v := 0) (by decide)
    rw [nI_0, nar_0] at this
    exact this
  have z1 : ∀ u : hM, astz kT2 u 23 1 0 = some (wI u 23 1 0) := fun u => by
    have := sZ2 23 2 (σ := u) (k := 1) (v := 0) (by decide)
    rw [nar_0] at this
    exact this
  unfold fX9_endSong
  rw [pI2, ob, pI2, ob, gR2, wrr, wrr, w38, ob, z0, ob, gR2, wrr, wrr, wrr, w38, ob, z1, ob]
/-- a refused text: all is as it was, but the text is gone and the fault is known -/
theorem pCpl.text {M M' R R' S S' n c t : Nat} {σ1 σ2 σ1' σ2' : hM} (h : pCpl M M' R R' S S' n c t σ1 σ2) (q1 : σ1'.2.2 = σ1.2.2) (q2 : σ2'.2.2 = σ2.2.2) (f1 : ∀ a k, ¬ sc1 M' R' S' a k → a ≠ 1 → σ1'.1 a k = σ1.1 a k) (f2 : ∀ b k, ¬ sc2 b k → ¬ (b = 0 ∧ (k = 13 ∨ k = 14)) → σ2'.1 b k = σ2.1 b k) (hT' : pText σ1'.1 σ2'.1) : pCpl M M' R R' S S' n c t σ1' σ2' := by
  obtain ⟨hr, hf2, hT, hm, hc2, ht, hst, hcr, hb, h0, h1⟩ := h
  have hM := hr.1
  have hR := hr.2.1
  have hS := hr.2.2.1
  have hc12 := hc2.1
  have F : ∀ a, a ≠ 1 → (∀ k, ¬ sc1 M' R' S' a k) → σ1'.1 a = σ1.1 a := fun a h1 ha => funext fun k => f1 a k (ha k) h1
  have G : ∀ b, b ≠ 0 → (∀ k, ¬ sc2 b k) → σ2'.1 b = σ2.1 b := fun b h0 hb => funext fun k => f2 b k (hb k) (fun q => h0 q.1)
  unfold sc1 at f1 F
  unfold sc2 at f2 G
  refine ⟨by rw [q1]; exact hr, by rw [q2]; exact hf2, hT', ?_, ?_, ?_, ?_, ?_, ?_, ?_, ?_⟩
  · unfold pMel at *
    rw [F M (by omega) (by omega), F (M + 1) (by omega) (by omega), F (M + 2) (by omega) (by omega), f2 0 0 (by omega) (by omega), G 1 (by omega) (by omega), G 2 (by omega) (by omega)]
    exact hm
  · rw [f2 0 3 (by omega) (by omega)]; exact hc2
  · unfold pTask at *
    rw [F R (by omega) (by omega), F (R + 1) (by omega) (by omega), F (R + 2) (by omega) (by omega), F (R + 3) (by omega) (by omega), F (R + 4) (by omega) (by omega), f2 0 5 (by omega) (by omega), G 4 (by omega) (by omega)]
    exact ht
  · rw [G 5 (by omega) (by omega), G 6 (by omega) (by omega), G 3 (by omega) (by omega), G 7 (by omega) (by omega), f2 0 9 (by omega) (by omega), f2 0 11 (by omega) (by omega)]
    exact hst.fr (F _ (by omega) (by omega)) (F _ (by omega) (by omega)) (F _ (by omega) (by omega)) (F _ (by omega) (by omega)) (fun s hs => F _ (by omega) (by omega))
  · unfold pCrowd at *
    rw [f1 94 2 (by omega) (by omega), F 95 (by omega) (by omega), f2 0 32 (by omega) (by omega), G 19 (by omega) (by omega)]
    exact hcr
  · unfold pBook at *
    rw [f1 0 11 (by omega) (by omega), F 97 (by omega) (by omega), f2 0 35 (by omega) (by omega), G 21 (by omega) (by omega)]
    exact hb
  · unfold pImg at *
    rw [F 50 (by omega) (by omega), G 23 (by omega) (by omega), G 22 (by omega) (by omega)]
    exact ⟨h0.1, h0.2.imp id (fun q => ⟨q.1, q.2.fr (F _ (by omega) (by omega)) (F _ (by omega) (by omega)) (F _ (by omega) (by omega)) (F _ (by omega) (by omega)) (fun s hs => F _ (by omega) (by omega))⟩)⟩
  · unfold pImg at *
    rw [F 67 (by omega) (by omega), G 23 (by omega) (by omega), G 22 (by omega) (by omega)]
    exact ⟨h1.1, h1.2.imp id (fun q => ⟨q.1, q.2.fr (F _ (by omega) (by omega)) (F _ (by omega) (by omega)) (F _ (by omega) (by omega)) (F _ (by omega) (by omega)) (fun s hs => F _ (by omega) (by omega))⟩)⟩
/-- a text, opened on both sides -/
theorem pText.opened {σ1 σ2 : hM} {x j : Nat} {v : Int32} (hT : pText σ1.1 σ2.1) (e10 : σ1.2.2 1 0 = some 2) (w12 : σ2.2.2 0 12 = some 8) (hx : x ≠ 1 ∧ x ≠ 2) : ∃ (w : Nat) (t : Nat → Nat), jR (wI (wI (wI (wI (wI σ1 x j v) 1 2 0) 1 3 0) 1 4 0) 1 5 (-1)) (wI (wI (wI σ2 0 14 (-1)) 0 15 0) 0 20 0) w t 0 0 ∧ w ≤ 400 := by
  obtain ⟨w, hw, hw1, hw2, hwk, hfa⟩ := hT
  refine ⟨w, fun k => (σ2.1 8 k).toNatClampNeg, ⟨0, -1, ⟨⟨e10, ?_, hw, fun k hk => ?_⟩, ⟨Nat.zero_le _, Nat.zero_le _, by decide⟩, ?_, ?_, ?_, wIe⟩, ?_, fun _ => ⟨⟨w12, ?_, hw, fun k hk => ?_⟩, Nat.zero_le _, ?_⟩⟩, hw⟩
  · rw [wIk (by decide), wIk (by decide), wIk (by decide), wIk (by decide), wIn (by omega)]; exact hw1
  · obtain ⟨b1, b2, b3⟩ := hwk k hk
    obtain ⟨m, hm, e⟩ := as_nI b2
    have hlt : m < 256 := by omega
    have ec : (fun k => (σ2.1 8 k).toNatClampNeg) k = m := by
      show (σ2.1 8 k).toNatClampNeg = m
      rw [hm, nI_clamp (by omega)]
    rw [wIn (by decide), wIn (by decide), wIn (by decide), wIn (by decide), wIn (by omega), b1, ec, hm]
    exact ⟨sb_v m hlt, hlt⟩
  · rw [wIk (by decide), wIk (by decide), wIk (by decide), wIe, nI_0]
  · rw [wIk (by decide), wIk (by decide), wIe, nI_0]
  · rw [wIk (by decide), wIe, nI_0]
  · rw [wIk (by decide), wIk (by decide), wIe]
  · rw [wIk (by decide), wIk (by decide), wIk (by decide)]; exact hw2
  · obtain ⟨b1, b2, b3⟩ := hwk k hk
    obtain ⟨m, hm, e⟩ := as_nI b2
    have hlt : m < 256 := by omega
    have ec : (fun k => (σ2.1 8 k).toNatClampNeg) k = m := by
      show (σ2.1 8 k).toNatClampNeg = m
      rw [hm, nI_clamp (by omega)]
    rw [wIn (by decide), wIn (by decide), wIn (by decide), ec, hm]
    exact ⟨rfl, hlt⟩
  · rw [wIk (by decide), wIe, nI_0]
