/-! PLAIN SINGING AS A FUNCTION of a row of 8 and of the tune (the class's own; plain_both carries it over) -/
def pWv (x : Nat → Int32) (k : Nat) : Int32 := if x 0 = 1 then 0 else if nI k - nI k / 2 * 2 = 0 then x 3 else -(x 3)
def pAim (x d b : Nat → Int32) : Nat → Int32 × Int32
  | 0 => (0, 0)
  | k + 1 => (if k = 0 then d 0 + 0 else (pAim x d b k).1 + vMove x (d k - d (k - 1)) (if b k = 1 then 0 else (pAim x d b k).2), (if b k = 1 then 0 else (pAim x d b k).2) + 1)
def pHt (x d b : Nat → Int32) (k : Nat) : Int32 := if x 0 = 7 then -1 else if x 0 = 4 then 100 * x 5 else vHeld x ((pAim x d b (k + 1)).1 + vLean x + pWv x k)
theorem plain_L {σ : hM} {w n M : Nat} (o98_0 : σ.2.2 98 0 = some 99) (kw : kd kT1 w (3 + 1)) (hw : w ≠ 99) (kM : kd kT1 M (1 + 1)) (e01 : σ.2.2 0 1 = some M) (em0 : σ.2.2 M 0 = some (M + 1)) (em1 : σ.2.2 M 1 = some (M + 2)) (kM1 : kd kT1 (M + 1) 11) (lM1 : kl kT1 (M + 1) 40) (kM2 : kd kT1 (M + 2) 11) (lM2 : kl kT1 (M + 2) 40) (hM3 : M + 2 < 32) (hn40 : n ≤ 40) (en1 : σ.1 M 2 = nI n) : ∀ (d k fuel : Nat) (τ : hM), k + d = n → d < fuel → τ.2.2 = σ.2.2 → (∀ a, a ≠ 99 → τ.1 a = σ.1 a) → ∃ τ' : hM, fX8_singInto_L65 kT1 0 98 w 3 (fun u36 => some u36) fuel (pAim (σ.1 w) (σ.1 (M + 1)) (σ.1 (M + 2)) k).1 (pAim (σ.1 w) (σ.1 (M + 1)) (σ.1 (M + 2)) k).2 (nI k) τ = some τ' ∧ τ'.2.2 = σ.2.2 ∧ (∀ a, a ≠ 99 → τ'.1 a = σ.1 a) ∧ (∀ j, k ≤ j → j < n → τ'.1 99 j = vHeld (σ.1 w) ((pAim (σ.1 w) (σ.1 (M + 1)) (σ.1 (M + 2)) (j + 1)).1 + vLean (σ.1 w) + pWv (σ.1 w) j)) ∧ ∀ j, j < k → τ'.1 99 j = τ.1 99 j := by
  intro d
  induction d with
  | zero =>
    intro k fuel τ hk hf h1 h2
    obtain ⟨f, rfl⟩ : ∃ f, fuel = f + 1 := ⟨fuel - 1, by omega⟩
    have e : k = n := by omega
    subst e
    rw [fX8_singInto_L65, gR1 0 8, h1, e01, ob, gI kM, ob, h2 M (by omega), en1, if_pos (nI_le (Nat.le_refl k) (by omega))]
    exact ⟨τ, rfl, h1, h2, fun j a b => absurd a (by omega), fun j _ => rfl⟩
  | succ d ih =>
    intro k fuel τ hk hf h1 h2
    obtain ⟨f, rfl⟩ : ∃ f, fuel = f + 1 := ⟨fuel - 1, by omega⟩
    have m1 : τ.1 (M + 1) = σ.1 (M + 1) := h2 _ (by omega)
    have m2 : τ.1 (M + 2) = σ.1 (M + 2) := h2 _ (by omega)
    have m0 : τ.1 M = σ.1 M := h2 _ (by omega)
    have mw : τ.1 w = σ.1 w := h2 _ hw
    have r01 : τ.2.2 0 1 = some M := by rw [h1]; exact e01
    have rM0 : τ.2.2 M 0 = some (M + 1) := by rw [h1]; exact em0
    have rM1 : τ.2.2 M 1 = some (M + 2) := by rw [h1]; exact em1
    have r98 : τ.2.2 98 0 = some 99 := by rw [h1]; exact o98_0
    have lb : ald 11 kT1 τ (M + 2) (nI k) = some (σ.1 (M + 2) k) := by rw [lA 40 kM2 lM2 (by omega) (by decide), m2]
    have wv : fX8_waver kT1 0 w (nI k) 3 τ = some (pWv (σ.1 w) k, τ) := by
      unfold fX8_waver pWv
      rw [gI kw, ob, mw]
      by_cases e : σ.1 w 0 = 1
      · rw [if_pos e, if_pos e]
      · rw [if_neg e, if_neg e, if_pos rfl]
        by_cases q : nI k - nI k / 2 * 2 = 0
        · rw [if_pos q, if_pos q, gI kw, ob, mw]
        · rw [if_neg q, if_neg q, gI kw, ob, mw]
    have fin : ∃ τ' : hM, fX8_singInto_L65 kT1 0 98 w 3 (fun u36 => some u36) f (pAim (σ.1 w) (σ.1 (M + 1)) (σ.1 (M + 2)) (k + 1)).1 (pAim (σ.1 w) (σ.1 (M + 1)) (σ.1 (M + 2)) (k + 1)).2 (nI (k + 1)) (wI τ 99 k (vHeld (σ.1 w) ((pAim (σ.1 w) (σ.1 (M + 1)) (σ.1 (M + 2)) (k + 1)).1 + vLean (σ.1 w) + pWv (σ.1 w) k))) = some τ' ∧ τ'.2.2 = σ.2.2 ∧ (∀ a, a ≠ 99 → τ'.1 a = σ.1 a) ∧ (∀ j, k ≤ j → j < n → τ'.1 99 j = vHeld (σ.1 w) ((pAim (σ.1 w) (σ.1 (M + 1)) (σ.1 (M + 2)) (j + 1)).1 + vLean (σ.1 w) + pWv (σ.1 w) j)) ∧ ∀ j, j < k → τ'.1 99 j = τ.1 99 j := by
      obtain ⟨τ', g1, g2, g3, g4, g5⟩ := ih (k + 1) f (wI τ 99 k (vHeld (σ.1 w) ((pAim (σ.1 w) (σ.1 (M + 1)) (σ.1 (M + 2)) (k + 1)).1 + vLean (σ.1 w) + pWv (σ.1 w) k))) (by omega) (by omega) h1 (fun a ha => (wIn ha).trans (h2 a ha))
      refine ⟨τ', g1, g2, g3, fun j a b => ?_, fun j hj => ?_⟩
      · by_cases e : j = k
        · subst e; rw [g5 _ (by omega), wIe]
        · exact g4 j (by omega) b
      · rw [g5 j (by omega), wIk (by omega)]
    rw [fX8_singInto_L65, gR1 0 8, r01, ob, gI kM, ob, m0, en1, if_neg (nI_ge (show k < n by omega) (by omega)), ob, gR kM, rM1, ob, lb, ob, lt_ite]
    simp only [iflt, nI_1]
    by_cases k0 : k = 0
    · subst k0
      have l0 : ald 11 kT1 τ (M + 1) 0 = some (σ.1 (M + 1) 0) := by
        have := lA (σ := τ) 40 (k := 0) kM1 lM1 (by decide) (by decide)
        rw [m1, nI_0] at this
        exact this
      have so : fX8_startOff kT1 0 3 τ = some (0, τ) := by
        unfold fX8_startOff
        rw [if_neg (by decide), if_neg (by decide)]
      rw [if_pos nI_0, gR1 0 8, r01, ob, gR kM, rM0, ob, l0, ob, vC1 0 8, so, ob]
      rw [gR1 98 4, r98, ob, vC kw, ev_lean kw, ob, vC1 0 8, wv, ob, vC kw, ev_held kw, ob, mw, sA1 99 40 (k := 0) (by omega), ob]
      exact fin
    · obtain ⟨k', rfl⟩ : ∃ k', k = k' + 1 := ⟨k - 1, by omega⟩
      have z : ¬ nI (k' + 1) = 0 := nI_ne0 (by omega) (by omega)
      have ra := rise_eq (σ := τ) (M := M) (n := n) (k := k') kM rM0 kM1 lM1 (by rw [m0]; exact en1) hn40 (by omega)
      rw [m1] at ra
      rw [if_neg z, gR1 0 8, r01, ob, vC kM, ra, ob, vC kw, ev_move kw, ob]
      rw [gR1 98 4, r98, ob, vC kw, ev_lean kw, ob, vC1 0 8, wv, ob, vC kw, ev_held kw, ob, mw, sA1 99 40 (k := k' + 1) (by omega), ob]
      have e : (pAim (σ.1 w) (σ.1 (M + 1)) (σ.1 (M + 2)) (k' + 1 + 1)) = ((pAim (σ.1 w) (σ.1 (M + 1)) (σ.1 (M + 2)) (k' + 1)).1 + vMove (σ.1 w) (σ.1 (M + 1) (k' + 1) - σ.1 (M + 1) k') (if σ.1 (M + 2) (k' + 1) = 1 then 0 else (pAim (σ.1 w) (σ.1 (M + 1)) (σ.1 (M + 2)) (k' + 1)).2), (if σ.1 (M + 2) (k' + 1) = 1 then 0 else (pAim (σ.1 w) (σ.1 (M + 1)) (σ.1 (M + 2)) (k' + 1)).2) + 1) := by
        rw [pAim, if_neg k0]
        rfl
      rw [e] at fin
      exact fin
/-- the class sings plainly: the heights, and nothing else changes -/
theorem ev_plain {σ : hM} {w n M : Nat} (o98_0 : σ.2.2 98 0 = some 99) (kw : kd kT1 w (3 + 1)) (hw : w ≠ 99) (hw8 : w ≠ 98) (kM : kd kT1 M (1 + 1)) (e01 : σ.2.2 0 1 = some M) (em0 : σ.2.2 M 0 = some (M + 1)) (em1 : σ.2.2 M 1 = some (M + 2)) (kM1 : kd kT1 (M + 1) 11) (lM1 : kl kT1 (M + 1) 40) (kM2 : kd kT1 (M + 2) 11) (lM2 : kl kT1 (M + 2) 40) (hM3 : M + 2 < 32) (hn40 : n ≤ 40) (en1 : σ.1 M 2 = nI n) : ∃ τ' : hM, fX8_singInto kT1 0 98 w 3 σ = some τ' ∧ τ'.2.2 = σ.2.2 ∧ (∀ a, a ≠ 98 → a ≠ 99 → τ'.1 a = σ.1 a) ∧ ∀ j, j < n → τ'.1 99 j = pHt (σ.1 w) (σ.1 (M + 1)) (σ.1 (M + 2)) j := by
  have m1 : (wI σ 98 1 (nI n)).1 (M + 1) = σ.1 (M + 1) := wIn (by omega)
  have m2 : (wI σ 98 1 (nI n)).1 (M + 2) = σ.1 (M + 2) := wIn (by omega)
  have mw : (wI σ 98 1 (nI n)).1 w = σ.1 w := wIn hw8
  unfold fX8_singInto
  rw [gR1 0 8, e01, ob, gI kM, ob, en1, pI1 98 4, ob, gI kw, ob, mw]
  simp only [iflt]
  by_cases h7 : σ.1 w 0 = 7
  · obtain ⟨υ1, a1, a2, a3, a4⟩ := ev_fill (H := 99) (c1 := -1) (σ := wI σ 98 1 (nI n)) rfl rfl
    rw [if_pos h7, gR1 98 4, wrr, o98_0, ob, gI kw, ob, mw, if_pos h7, a1, ob]
    refine ⟨υ1, rfl, a2, fun a h8 h9 => (a3 a h9).trans (wIn h8), fun j hj => ?_⟩
    rw [a4 j (by omega), pHt, if_pos h7]
  · by_cases h4 : σ.1 w 0 = 4
    · obtain ⟨υ1, a1, a2, a3, a4⟩ := ev_fill (H := 99) (c1 := 100 * σ.1 w 5) (σ := wI σ 98 1 (nI n)) rfl rfl
      rw [if_neg h7, ob, if_pos h4, gR1 98 4, wrr, o98_0, ob, gI kw, ob, mw, if_neg h7, gI kw, ob, mw, a1, ob]
      refine ⟨υ1, rfl, a2, fun a h8 h9 => (a3 a h9).trans (wIn h8), fun j hj => ?_⟩
      rw [a4 j (by omega), pHt, if_neg h7, if_pos h4]
    · obtain ⟨τ', g1, g2, g3, g4, -⟩ := plain_L (σ := wI σ 98 1 (nI n)) (w := w) (n := n) (M := M) o98_0 kw hw kM e01 em0 em1 kM1 lM1 kM2 lM2 hM3 hn40 (by rw [wIn (by omega)]; exact en1) n 0 6000 (wI σ 98 1 (nI n)) (by omega) (by omega) rfl (fun _ _ => rfl)
      rw [m1, m2, mw, nI_0] at g1
      rw [m1, m2, mw] at g4
      rw [if_neg h7, ob, if_neg h4]
      refine ⟨τ', g1, g2, fun a h8 h9 => (g3 a h9).trans (wIn h8), fun j hj => ?_⟩
      rw [g4 j (Nat.zero_le j) hj, pHt, if_neg h7, if_neg h4]
theorem vMove_cong {x x' : Nat → Int32} (h : ∀ j, j < 8 → x j = x' j) (d b : Nat → Int32) : ∀ k, pAim x d b k = pAim x' d b k
  | 0 => rfl
  | k + 1 => by
    rw [pAim, pAim, vMove_cong h d b k, (v_cong h _ _).2.1]
theorem pHt_cong {x x' d b d' b' : Nat → Int32} {n : Nat} (h : ∀ j, j < 8 → x j = x' j) (hd : ∀ j, j < n → d j = d' j) (hb : ∀ j, j < n → b j = b' j) : ∀ k, k < n → pHt x d b k = pHt x' d' b' k := by
  have ha : ∀ k, k ≤ n → pAim x d b k = pAim x' d' b' k := by
    intro k
    induction k with
    | zero => intro _; rfl
    | succ k ih =>
      intro hk
      rw [pAim, pAim, ih (by omega), hd k (by omega), hb k (by omega), hd 0 (by omega), hd (k - 1) (by omega), (v_cong h _ _).2.1]
  intro k hk
  unfold pHt pWv
  rw [ha (k + 1) (by omega), (v_cong h _ 0).1, (v_cong h 0 0).2.2, h 0 (by decide), h 3 (by decide), h 5 (by decide)]
/-- the points of one who sings plainly -/
def pSc (x d b : Nat → Int32) (n : Nat) : Int32 := if n = 0 ∨ x 0 = 7 then 0 else pts (pHt x d b) d n 0 + pts (pHt x d b) d n 1
theorem pSc_cong {x x' d b d' b' : Nat → Int32} {n : Nat} (h : ∀ j, j < 8 → x j = x' j) (hd : ∀ j, j < n → d j = d' j) (hb : ∀ j, j < n → b j = b' j) : pSc x d b n = pSc x' d' b' n := by
  unfold pSc
  rw [h 0 (by decide)]
  by_cases q : n = 0 ∨ x' 0 = 7
  · rw [if_pos q, if_pos q]
  · rw [if_neg q, if_neg q]
    have h0 : n ≠ 0 := fun e => q (Or.inl e)
    rw [pts_cong h0 (fun j hj => ⟨pHt_cong h hd hb j hj, hd j hj⟩), pts_cong h0 (fun j hj => ⟨pHt_cong h hd hb j hj, hd j hj⟩)]
theorem plain_fun {σ1 σ2 : hM} {w s n M : Nat} (hS : vS σ1 σ2 98 99 15 w s n M 3) (hA : 98 ≠ w) (o0_12 : σ1.2.2 0 12 = some 98) (w28 : σ2.2.2 0 28 = some 15) (hse : σ1.1 32 6 = σ2.1 0 11) (hse0 : 0 ≤ (σ2.1 0 11).toInt) : ∃ (υ1 υ2 : hM), fX8_singInto kT1 0 98 w 3 σ1 = some υ1 ∧ fX8_plainPoints kT1 0 w σ1 = some (pSc (fun j => σ2.1 3 (8 * s + j)) (σ2.1 1) (σ2.1 2) n, υ1) ∧ fX9_plainScore kT2 0 (nI s) σ2 = some (pSc (fun j => σ2.1 3 (8 * s + j)) (σ2.1 1) (σ2.1 2) n, υ2) ∧ υ1.2.2 = σ1.2.2 ∧ υ2.2.2 = σ2.2.2 ∧ (∀ a, a ≠ 98 → a ≠ 99 → υ1.1 a = σ1.1 a) ∧ (∀ a, a ≠ 15 → υ2.1 a = σ2.1 a) ∧ υ1.1 98 1 = nI n ∧ ∀ j, j < n → υ1.1 99 j = pHt (fun j => σ2.1 3 (8 * s + j)) (σ2.1 1) (σ2.1 2) j := by
  obtain ⟨⟨kA, rA, kH, lH⟩, ⟨kw, hwH, hw32, hH32⟩, ⟨kr, lr, hr3⟩, ⟨kM, e01, em0, em1, kM1, lM1, kM2, lM2, hM32, hMH⟩, ⟨o0_6, w1, w2, w4⟩, hs, hmd, hn40, en1, en2, hnk, hy, hok⟩ := id hS
  obtain ⟨r, υ1, υ2, q1, q2, hO, hr⟩ := plain_both hS hA o0_12 w28 hse hse0
  obtain ⟨g1, g2, g3, g4, g5, g6, g7, g8, g9, g10, g11⟩ := id hO
  obtain ⟨τ, t1, t2, t3, t4⟩ := ev_plain rA kw hwH (fun e => hA e.symm) kM e01 em0 em1 kM1 lM1 kM2 lM2 hM32 hn40 en1
  have hc : ∀ k, k < n → pHt (σ1.1 w) (σ1.1 (M + 1)) (σ1.1 (M + 2)) k = pHt (fun j => σ2.1 3 (8 * s + j)) (σ2.1 1) (σ2.1 2) k := pHt_cong hy (fun j hj => (hnk j hj).1) (fun j hj => (hnk j hj).2.1)
  have eu : υ1 = τ := by
    have q := q1
    unfold fX8_plainPoints at q
    have z12 : τ.2.2 0 12 = some 98 := by rw [t2]; exact o0_12
    have z1 : τ.2.2 0 1 = some M := by rw [t2]; exact e01
    have rA' : τ.2.2 98 0 = some 99 := by rw [t2]; exact rA
    have rM : τ.2.2 M 0 = some (M + 1) := by rw [t2]; exact em0
    have sz : τ.1 98 1 = nI n := by
      obtain ⟨α1, α2, a1, a2, a3⟩ := sing_all hS ⟨by decide, by decide, hA, by omega⟩ hse hse0
      have : some α1 = some τ := (show fX8_singInto kT1 0 98 w 3 σ1 = some α1 from a1).symm.trans t1
      rw [← Option.some.inj this]
      exact a3.2.2.2.2.2.1
    rw [gR1 0 8, o0_12, ob, vC1 0 8, t1, ob, gR1 0 8, z12, ob, gR1 0 8, z1, ob, vC1 98 4] at q
    by_cases hq : n = 0 ∨ τ.1 99 0 = -1
    · have a1 : ∀ p, fX4_points kT1 98 p M τ = some (0, τ) := fun p => ev_points0 (A := 98) (M := M) (p := p) rfl rA' rfl rfl sz hn40 hq
      rw [a1, ob, gR1 0 8, z12, ob, gR1 0 8, z1, ob, vC1 98 4, a1, ob] at q
      exact (Prod.mk.inj (Option.some.inj q)).2.symm
    · have h0 : n ≠ 0 := fun q => hq (Or.inl q)
      have a1 : ∀ w, w < 4 → fX4_points kT1 98 (nI w) M τ = some (pts (τ.1 99) (τ.1 (M + 1)) n w, τ) := fun w hw => ev_points (A := 98) (M := M) rfl rA' rfl rfl sz hn40 kM rM kM1 lM1 h0 (fun q => hq (Or.inr q)) hw
      have b0 : fX4_points kT1 98 0 M τ = _ := a1 0 (by decide)
      have b1 : fX4_points kT1 98 1 M τ = _ := a1 1 (by decide)
      rw [b0, ob, gR1 0 8, z12, ob, gR1 0 8, z1, ob, vC1 98 4, b1, ob] at q
      exact (Prod.mk.inj (Option.some.inj q)).2.symm
  subst eu
  have hh : ∀ j, j < n → υ1.1 99 j = pHt (fun j => σ2.1 3 (8 * s + j)) (σ2.1 1) (σ2.1 2) j := fun j hj => by rw [t4 j hj, hc j hj]
  have er : r = pSc (fun j => σ2.1 3 (8 * s + j)) (σ2.1 1) (σ2.1 2) n := by
    rw [hr]
    unfold pSc
    by_cases q : n = 0 ∨ σ2.1 3 (8 * s) = 7
    · rw [if_pos q, if_pos (show n = 0 ∨ (fun j => σ2.1 3 (8 * s + j)) 0 = 7 from q)]
    · have h0 : n ≠ 0 := fun e => q (Or.inl e)
      rw [if_neg q, if_neg (show ¬ (n = 0 ∨ (fun j => σ2.1 3 (8 * s + j)) 0 = 7) from q)]
      rw [pts_cong h0 (fun j hj => ⟨((g11 j hj).1.symm).trans (hh j hj), rfl⟩), pts_cong h0 (fun j hj => ⟨((g11 j hj).1.symm).trans (hh j hj), rfl⟩)]
  subst er
  refine ⟨υ1, υ2, t1, q1, q2, t2, g2, t3, fun a ha => ?_, g6, hh⟩
  by_cases e : a = 0
  · subst e
    funext j
    by_cases e2 : j = 11
    · subst e2
      rw [← g9, t3 32 (by decide) (by decide)]
      exact hse
    · exact g8 j e2
  · exact g7 a ha e
