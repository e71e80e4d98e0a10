/-- the heights sung so far -/
def vH (H r k : Nat) (τ1 τ2 : hM) : Prop := ∀ j, j < k → τ1.1 H j = τ2.1 r j ∧ 0 ≤ (τ2.1 r j).toInt ∧ (τ2.1 r j).toInt ≤ 3600
/-- who sings, where to, and what is there for it -/
def vS (σ1 σ2 : hM) (A H r w s n M md : Nat) : Prop := (kd kT1 A (4 + 1) ∧ σ1.2.2 A 0 = some H ∧ kd kT1 H 11 ∧ kl kT1 H 40) ∧ (kd kT1 w (3 + 1) ∧ w ≠ H ∧ w ≠ 32 ∧ H ≠ 32) ∧ (kd kT2 r 11 ∧ kl kT2 r 40 ∧ 3 < r) ∧ (kd kT1 M (1 + 1) ∧ σ1.2.2 0 1 = some M ∧ σ1.2.2 M 0 = some (M + 1) ∧ σ1.2.2 M 1 = some (M + 2) ∧ kd kT1 (M + 1) 11 ∧ kl kT1 (M + 1) 40 ∧ kd kT1 (M + 2) 11 ∧ kl kT1 (M + 2) 40 ∧ M + 2 < 32 ∧ (H < M ∨ M + 2 < H)) ∧ (σ1.2.2 0 6 = some 32 ∧ σ2.2.2 0 1 = some 1 ∧ σ2.2.2 0 2 = some 2 ∧ σ2.2.2 0 4 = some 3) ∧ s < 12 ∧ md < 4 ∧ n ≤ 40 ∧ σ1.1 M 2 = nI n ∧ σ2.1 0 0 = nI n ∧ (∀ k, k < n → σ1.1 (M + 1) k = σ2.1 1 k ∧ σ1.1 (M + 2) k = σ2.1 2 k ∧ (0 ≤ (σ2.1 1 k).toInt ∧ (σ2.1 1 k).toInt ≤ 3600) ∧ (σ2.1 2 k = 0 ∨ σ2.1 2 k = 1)) ∧ (∀ j, j < 8 → σ1.1 w j = σ2.1 3 (8 * s + j)) ∧ sOk (fun j => σ2.1 3 (8 * s + j))
theorem sing_tail {σ1 σ2 τ1 τ2 : hM} {A H r w s n M md k : Nat} {aim : Int32} (hS : vS σ1 σ2 A H r w s n M md) (h : vR σ1 σ2 H r τ1 τ2) (hv : vH H r k τ1 τ2) (hk : k < n) {C1 C2 : hM → Option hM} {P : hM → hM → Prop} (hnx : ∀ υ1 υ2, vR σ1 σ2 H r υ1 υ2 → vH H r (k + 1) υ1 υ2 → ∃ υ1' υ2', C1 υ1 = some υ1' ∧ C2 υ2 = some υ2' ∧ P υ1' υ2') : ∃ υ1' υ2', ((gtr kT1 τ1 A 4 0).bind fun a22 => (vc kT1 w 3 (fX3_leanSung kT1 w τ1)).bind fun q23 => (vc kT1 0 8 (fX8_waver kT1 0 w (nI k) (nI md) q23.2)).bind fun q24 => (vc kT1 w 3 (fX3_heldToRange kT1 w ((aim + q23.1) + q24.1) q24.2)).bind fun q25 => (asti kT1 q25.2 a22 (nI k) q25.1).bind fun u26 => C1 u26) = some υ1' ∧ (if σ2.1 3 (8 * s) = (1 : Int32) then ((vc kT2 0 9 (fX9_heldTo kT2 0 (nI s) (aim + 0) τ2)).bind fun q15 => (asti kT2 q15.2 r (nI k) q15.1).bind fun u16 => C2 u16) else ((gtr kT2 τ2 0 9 4).bind fun a17 => (ald 11 kT2 τ2 a17 (((8 : Int32) * nI s) + (2 : Int32))).bind fun x18 => (vc kT2 0 9 (fX9_swing kT2 0 (nI s) (nI k) (if md = 3 then 1 else 0) τ2)).bind fun q19 => (vc kT2 0 9 (fX9_heldTo kT2 0 (nI s) (aim + (x18 + q19.1)) q19.2)).bind fun q15 => (asti kT2 q15.2 r (nI k) q15.1).bind fun u16 => C2 u16)) = some υ2' ∧ P υ1' υ2' := by
  obtain ⟨⟨kA, rA, kH, lH⟩, ⟨kw, hwH, hw32, hH32⟩, ⟨kr, lr, hr3⟩, -, ⟨o0_6, w1, w2, w4⟩, hs, hmd, hn40, -, -, -, hy, hok⟩ := id hS
  have e4 : ∀ υ1 υ2, vR σ1 σ2 H r υ1 υ2 → υ2.2.2 0 4 = some 3 ∧ υ2.1 3 = σ2.1 3 ∧ υ1.1 w = σ1.1 w := fun υ1 υ2 q => ⟨by rw [q.2.1]; exact w4, q.2.2.2.2.1 3 (by omega) (by decide), q.2.2.1 w hwH hw32⟩
  have rA' : τ1.2.2 A 0 = some H := by rw [h.1]; exact rA
  have fin : ∀ (υ1 υ2 : hM) (x : Int32), vR σ1 σ2 H r υ1 υ2 → υ1.1 H = τ1.1 H → υ2.1 r = τ2.1 r → 0 ≤ x.toInt ∧ x.toInt ≤ 3600 → ∃ υ1' υ2', C1 (wI υ1 H k x) = some υ1' ∧ C2 (wI υ2 r k x) = some υ2' ∧ P υ1' υ2' := by
    intro υ1 υ2 x q1 q2 q3 q4
    refine hnx _ _ ?_ (fun j hj => ?_)
    · obtain ⟨h1, h2, h3, h4, h5, h6, h7, h8⟩ := q1
      refine ⟨h1, h2, fun a ha hb => (wIn ha).trans (h3 a ha hb), fun j hj => (wIk (fun q => hH32 q.1.symm)).trans (h4 j hj), fun a ha hb => (wIn ha).trans (h5 a ha hb), fun j hj => (wIk (by omega)).trans (h6 j hj), ?_, ?_⟩
      · rw [wIk (fun q => hH32 q.1.symm), wIk (by omega)]; exact h7
      · rw [wIk (by omega)]; exact h8
    · rw [wIs, wIs]
      by_cases e : j = k
      · rw [if_pos e, if_pos e]
        exact ⟨rfl, q4⟩
      · rw [if_neg e, if_neg e, q2, q3]
        exact hv j (by omega)
  have held1 : ∀ (υ1 υ2 : hM) (p : Int32), vR σ1 σ2 H r υ1 υ2 → fX3_heldToRange kT1 w p υ1 = some (vHeld (fun j => σ2.1 3 (8 * s + j)) p, υ1) := by
    intro υ1 υ2 p q
    rw [ev_held kw, (e4 υ1 υ2 q).2.2, (v_cong hy p p).1]
  have held2 : ∀ (υ1 υ2 : hM) (p : Int32), vR σ1 σ2 H r υ1 υ2 → fX9_heldTo kT2 0 (nI s) p υ2 = some (vHeld (fun j => σ2.1 3 (8 * s + j)) p, υ2) := by
    intro υ1 υ2 p q
    obtain ⟨a, b, -⟩ := e4 υ1 υ2 q
    have := ev_held2 (σ := υ2) (p := p) a hs (by rw [b]; exact hok)
    rw [b] at this
    exact this
  have st1 : ∀ (υ : hM) (x : Int32), asti kT1 υ H (nI k) x = some (wI υ H k x) := fun υ x => sA 40 kH lH (by omega) (by decide)
  have st2 : ∀ (υ : hM) (x : Int32), asti kT2 υ r (nI k) x = some (wI υ r k x) := fun υ x => sA 40 kr lr (by omega) (by decide)
  obtain ⟨f4, f3, fw⟩ := e4 τ1 τ2 h
  rw [gR kA, rA', ob, vC kw, ev_lean kw, ob, fw, (v_cong hy 0 0).2.2, vC1 0 8]
  rw [show vLean (fun j => σ2.1 3 (8 * s + j)) = (if σ2.1 3 (8 * s) = 1 then 0 else σ2.1 3 (8 * s + 2)) from rfl]
  by_cases h1 : σ2.1 3 (8 * s) = 1
  · have wv : fX8_waver kT1 0 w (nI k) (nI md) τ1 = some (0, τ1) := by
      unfold fX8_waver
      rw [gI kw, ob, fw, hy 0 (by decide), if_pos (show σ2.1 3 (8 * s + 0) = 1 from h1)]
    rw [if_pos h1, if_pos h1, wv, ob, vC kw, held1 τ1 τ2 _ h, ob, st1, ob, vC2, held2 τ1 τ2 _ h, ob, st2, ob, Int32.add_zero, Int32.add_zero]
    exact fin τ1 τ2 _ h rfl rfl (vHeld_in hok _)
  · obtain ⟨v, υ1, υ2, q1, q2, q3, q4, q5⟩ := waver_rel (md := md) (k := nI k) h hH32 (by omega) (by omega) hwH hw32 kw o0_6 w4 hs hy hok h1 hmd
    have l2 : ald 11 kT2 τ2 3 (nI (8 * s) + 2) = some (σ2.1 3 (8 * s + 2)) := by
      rw [show nI (8 * s) + 2 = nI (8 * s + 2) from ix8 s 2 rfl, lA2 3 96 (k := 8 * s + 2) (by omega), f3]
    rw [if_neg h1, if_neg h1, q1, ob, vC kw, held1 υ1 υ2 _ q3, ob, st1, ob, gR2, f4, ob, mul_nI 8 8 rfl, l2, ob, vC2, q2, ob, vC2, held2 υ1 υ2 _ q3, ob, st2, ob, Int32.add_assoc]
    exact fin υ1 υ2 _ q3 q4 q5 (vHeld_in hok _)
theorem sing_L {σ1 σ2 : hM} {A H r w s n M md : Nat} (hS : vS σ1 σ2 A H r w s n M md) (h7 : ¬ σ2.1 3 (8 * s) = 7) (h4 : ¬ σ2.1 3 (8 * s) = 4) : ∀ (d k fuel : Nat) (aim since : Int32) (τ1 τ2 : hM), k + d = n → d < fuel → vR σ1 σ2 H r τ1 τ2 → vH H r k τ1 τ2 → ∃ υ1 υ2, fX8_singInto_L65 kT1 0 A w (nI md) (fun u36 => some u36) fuel aim since (nI k) τ1 = some υ1 ∧ fX9_singInto_L20 kT2 0 r (nI s) (if md = 3 then 2 else nI md) (if md = 3 then 1 else 0) (σ2.1 3 (8 * s)) (fun u36 => some u36) fuel aim since (nI k) τ2 = some υ2 ∧ (vR σ1 σ2 H r υ1 υ2 ∧ vH H r n υ1 υ2) := by
  obtain ⟨⟨kA, rA, kH, lH⟩, ⟨kw, hwH, hw32, hH32⟩, ⟨kr, lr, hr3⟩, ⟨kM, e01, em0, em1, kM1, lM1, kM2, lM2, hM32, hMH⟩, ⟨o0_6, w1, w2, w4⟩, hs, hmd, hn40, en1, en2, hnk, hy, hok⟩ := id hS
  intro d
  induction d with
  | zero =>
    intro k fuel aim since τ1 τ2 hk hf h hv
    obtain ⟨f, rfl⟩ : ∃ f, fuel = f + 1 := ⟨fuel - 1, by omega⟩
    have e : k = n := by omega
    subst e
    have kk : nI k ≤ nI k := nI_le (Nat.le_refl k) (by omega)
    rw [fX8_singInto_L65, gR1 0 8, h.1, e01, ob, gI kM, ob, h.2.2.1 M (by omega) (by omega), en1, if_pos kk]
    rw [fX9_singInto_L20, gI2, ob, h.2.2.2.2.2.1 0 (by decide), en2, if_pos kk]
    exact ⟨_, _, rfl, rfl, h, hv⟩
  | succ d ih =>
    intro k fuel aim since τ1 τ2 hk hf h hv
    obtain ⟨f, rfl⟩ : ∃ f, fuel = f + 1 := ⟨fuel - 1, by omega⟩
    have hkn : k < n := by omega
    obtain ⟨d1, d2, -, d4⟩ := hnk k hkn
    have t2 : τ2.1 2 = σ2.1 2 := h.2.2.2.2.1 2 (by omega) (by decide)
    have t1 : τ2.1 1 = σ2.1 1 := h.2.2.2.2.1 1 (by omega) (by decide)
    have m1 : τ1.1 (M + 1) = σ1.1 (M + 1) := h.2.2.1 _ (by omega) (by omega)
    have m2 : τ1.1 (M + 2) = σ1.1 (M + 2) := h.2.2.1 _ (by omega) (by omega)
    have m0 : τ1.1 M = σ1.1 M := h.2.2.1 _ (by omega) (by omega)
    have r01 : τ1.2.2 0 1 = some M := by rw [h.1]; exact e01
    have rM0 : τ1.2.2 M 0 = some (M + 1) := by rw [h.1]; exact em0
    have rM1 : τ1.2.2 M 1 = some (M + 2) := by rw [h.1]; exact em1
    have q2 : τ2.2.2 0 2 = some 2 := by rw [h.2.1]; exact w2
    have q1 : τ2.2.2 0 1 = some 1 := by rw [h.2.1]; exact w1
    have q4 : τ2.2.2 0 4 = some 3 := by rw [h.2.1]; exact w4
    have lb1 : ald 11 kT1 τ1 (M + 2) (nI k) = some (σ2.1 2 k) := by rw [lA 40 kM2 lM2 (by omega) (by decide), m2, d2]
    have lb2 : ald 13 kT2 τ2 2 (nI k) = some (σ2.1 2 k) := by rw [lZ2 2 40 (k := k) (by omega), t2]
    have body : ∀ since' : Int32, ∃ υ1 υ2, (if nI k = 0 then ((gtr kT1 τ1 0 8 1).bind fun a32 => (gtr kT1 τ1 a32 1 0).bind fun a33 => (ald 11 kT1 τ1 a33 (0 : Int32)).bind fun x34 => (vc kT1 0 8 (fX8_startOff kT1 0 (nI md) τ1)).bind fun q35 => (gtr kT1 q35.2 A 4 0).bind fun a22 => (vc kT1 w 3 (fX3_leanSung kT1 w q35.2)).bind fun q23 => (vc kT1 0 8 (fX8_waver kT1 0 w (nI k) (nI md) q23.2)).bind fun q24 => (vc kT1 w 3 (fX3_heldToRange kT1 w (((x34 + q35.1) + q23.1) + q24.1) q24.2)).bind fun q25 => (asti kT1 q25.2 a22 (nI k) q25.1).bind fun u26 => fX8_singInto_L65 kT1 0 A w (nI md) (fun u36 => some u36) f (x34 + q35.1) (since' + 1) (nI k + 1) u26) else ((gtr kT1 τ1 0 8 1).bind fun a29 => (vc kT1 a29 1 (fX1_rise kT1 a29 (nI k) τ1)).bind fun q30 => (vc kT1 w 3 (fX3_moveOfAim kT1 w q30.1 since' q30.2)).bind fun q31 => (gtr kT1 q31.2 A 4 0).bind fun a22 => (vc kT1 w 3 (fX3_leanSung kT1 w q31.2)).bind fun q23 => (vc kT1 0 8 (fX8_waver kT1 0 w (nI k) (nI md) q23.2)).bind fun q24 => (vc kT1 w 3 (fX3_heldToRange kT1 w (((aim + q31.1) + q23.1) + q24.1) q24.2)).bind fun q25 => (asti kT1 q25.2 a22 (nI k) q25.1).bind fun u26 => fX8_singInto_L65 kT1 0 A w (nI md) (fun u36 => some u36) f (aim + q31.1) (since' + 1) (nI k + 1) u26)) = some υ1 ∧ (if nI k = 0 then ((vc kT2 0 9 (fX9_firstAim kT2 0 (if md = 3 then 2 else nI md) τ2)).bind fun q21 => if σ2.1 3 (8 * s) = (1 : Int32) then ((vc kT2 0 9 (fX9_heldTo kT2 0 (nI s) (q21.1 + 0) q21.2)).bind fun q15 => (asti kT2 q15.2 r (nI k) q15.1).bind fun u16 => fX9_singInto_L20 kT2 0 r (nI s) (if md = 3 then 2 else nI md) (if md = 3 then 1 else 0) (σ2.1 3 (8 * s)) (fun u36 => some u36) f q21.1 (since' + 1) (nI k + 1) u16) else ((gtr kT2 q21.2 0 9 4).bind fun a17 => (ald 11 kT2 q21.2 a17 (((8 : Int32) * nI s) + (2 : Int32))).bind fun x18 => (vc kT2 0 9 (fX9_swing kT2 0 (nI s) (nI k) (if md = 3 then 1 else 0) q21.2)).bind fun q19 => (vc kT2 0 9 (fX9_heldTo kT2 0 (nI s) (q21.1 + (x18 + q19.1)) q19.2)).bind fun q15 => (asti kT2 q15.2 r (nI k) q15.1).bind fun u16 => fX9_singInto_L20 kT2 0 r (nI s) (if md = 3 then 2 else nI md) (if md = 3 then 1 else 0) (σ2.1 3 (8 * s)) (fun u36 => some u36) f q21.1 (since' + 1) (nI k + 1) u16)) else ((vc kT2 0 9 (fX9_nextAim kT2 0 (nI s) aim (nI k) since' τ2)).bind fun q20 => if σ2.1 3 (8 * s) = (1 : Int32) then ((vc kT2 0 9 (fX9_heldTo kT2 0 (nI s) (q20.1 + 0) q20.2)).bind fun q15 => (asti kT2 q15.2 r (nI k) q15.1).bind fun u16 => fX9_singInto_L20 kT2 0 r (nI s) (if md = 3 then 2 else nI md) (if md = 3 then 1 else 0) (σ2.1 3 (8 * s)) (fun u36 => some u36) f q20.1 (since' + 1) (nI k + 1) u16) else ((gtr kT2 q20.2 0 9 4).bind fun a17 => (ald 11 kT2 q20.2 a17 (((8 : Int32) * nI s) + (2 : Int32))).bind fun x18 => (vc kT2 0 9 (fX9_swing kT2 0 (nI s) (nI k) (if md = 3 then 1 else 0) q20.2)).bind fun q19 => (vc kT2 0 9 (fX9_heldTo kT2 0 (nI s) (q20.1 + (x18 + q19.1)) q19.2)).bind fun q15 => (asti kT2 q15.2 r (nI k) q15.1).bind fun u16 => fX9_singInto_L20 kT2 0 r (nI s) (if md = 3 then 2 else nI md) (if md = 3 then 1 else 0) (σ2.1 3 (8 * s)) (fun u36 => some u36) f q20.1 (since' + 1) (nI k + 1) u16))) = some υ2 ∧ (vR σ1 σ2 H r υ1 υ2 ∧ vH H r n υ1 υ2) := by
      intro since'
      by_cases k0 : k = 0
      · subst k0
        obtain ⟨v, υ1, υ2, a1, a2, a3, a4, a5⟩ := start_rel (md := md) h hH32 (by omega) o0_6 w1 hmd (d0 := σ2.1 1 0) (by rw [t1]) rfl
        have l0 : ald 11 kT1 τ1 (M + 1) 0 = some (σ2.1 1 0) := by
          have := lA (σ := τ1) 40 (k := 0) kM1 lM1 (by decide) (by decide)
          rw [m1, d1, nI_0] at this
          exact this
        rw [if_pos nI_0, if_pos nI_0, gR1 0 8, r01, ob, gR kM, rM0, ob, l0, ob, vC1 0 8, a1, ob, vC2, a2, ob]
        exact sing_tail hS a3 (fun j hj => absurd hj (by omega)) hkn (fun υ1 υ2 b1 b2 => by rw [nI_1]; exact ih (0 + 1) f _ _ υ1 υ2 (by omega) (by omega) b1 b2)
      · obtain ⟨k', rfl⟩ : ∃ k', k = k' + 1 := ⟨k - 1, by omega⟩
        have z : ¬ nI (k' + 1) = 0 := nI_ne0 (by omega) (by omega)
        have ra := rise_eq (σ := τ1) (M := M) (n := n) (k := k') kM rM0 kM1 lM1 (by rw [m0]; exact en1) hn40 hkn
        have na := ev_nextAim (σ2 := τ2) (s := s) (k := k') (aim := aim) (since := since') q1 q4 hs (by omega)
        rw [m1, d1, (hnk k' (by omega)).1] at ra
        rw [t1, h.2.2.2.2.1 3 (by omega) (by decide)] at na
        have mv : fX3_moveOfAim kT1 w (σ2.1 1 (k' + 1) - σ2.1 1 k') since' τ1 = some (vMove (fun j => σ2.1 3 (8 * s + j)) (σ2.1 1 (k' + 1) - σ2.1 1 k') since', τ1) := by
          rw [ev_move kw, h.2.2.1 w hwH hw32, (v_cong hy _ _).2.1]
        rw [if_neg z, if_neg z, gR1 0 8, r01, ob, vC kM, ra, ob, vC kw, mv, ob, vC2, na, ob]
        exact sing_tail hS h hv hkn (fun υ1 υ2 b1 b2 => by rw [nI_1]; exact ih (k' + 1 + 1) f _ _ υ1 υ2 (by omega) (by omega) b1 b2)
    have kk : ¬ nI n ≤ nI k := nI_ge hkn (by omega)
    rw [fX8_singInto_L65, gR1 0 8, r01, ob, gI kM, ob, m0, en1, if_neg kk, ob, gR kM, rM1, ob, lb1, ob]
    rw [fX9_singInto_L20, gI2, ob, h.2.2.2.2.2.1 0 (by decide), en2, if_neg kk, gR2, q2, ob, lb2, ob]
    simp only [iflt, if_neg h7, if_neg h4]
    rcases d4 with d4 | d4
    · rw [d4]
      simp only [if_neg (show ¬ (0 : Int32) = 1 by decide), if_true]
      exact body since
    · rw [d4]
      simp only [if_neg (show ¬ (1 : Int32) = 0 by decide), if_true]
      exact body 0
