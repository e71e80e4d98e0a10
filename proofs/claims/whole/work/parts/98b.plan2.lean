section PLAN
variable {σ1 σ2 : hM} {s n M N S : Nat} {x : Nat → Int32}
theorem weeks_L {r : Nat} (hG : aG σ1 σ2 s n M) (hN : N < 5) (hr : r < 256) : ∀ (d w f1 f2 : Nat) (τ1 τ2 : hM), w + d = N → d < f1 → d < f2 → aR σ1 σ2 s τ1 τ2 → (∀ j, j < 8 → τ2.1 3 (8 * s + j) = tN N r x w j) → ∃ υ1 υ2, (∀ ex1 : hM → Option (Int32 × hM), fX8_plan_L82 kT1 0 (nI N) (nI r) ex1 f1 (nI (w + 1)) τ1 = ex1 υ1) ∧ (∀ ex2 : hM → Option (Int32 × hM), fX9_plan_L64 kT2 0 (nI s) (nI N) (nI r) ex2 f2 (nI w) τ2 = ex2 υ2) ∧ aR σ1 σ2 s υ1 υ2 ∧ ∀ j, j < 8 → υ2.1 3 (8 * s + j) = tN N r x N j := by
  obtain ⟨⟨o0_6, o0_12, o0_13, o98_0⟩, ⟨w1, w2, w4, w28, w29⟩, -, hs, -⟩ := id hG
  intro d
  induction d with
  | zero =>
    intro w f1 f2 τ1 τ2 hw hf1 hf2 h hx
    obtain ⟨f, rfl⟩ : ∃ f, f1 = f + 1 := ⟨f1 - 1, by omega⟩
    obtain ⟨g, rfl⟩ : ∃ g, f2 = g + 1 := ⟨f2 - 1, by omega⟩
    have e : w = N := by omega
    subst e
    exact ⟨τ1, τ2, fun ex1 => by rw [fX8_plan_L82, if_pos (nI_lt (by omega) (by omega))], fun ex2 => by rw [fX9_plan_L64, if_pos (nI_le (Nat.le_refl _) (by omega))], h, hx⟩
  | succ d ih =>
    intro w f1 f2 τ1 τ2 hw hf1 hf2 h hx
    obtain ⟨f, rfl⟩ : ∃ f, f1 = f + 1 := ⟨f1 - 1, by omega⟩
    obtain ⟨g, rfl⟩ : ∃ g, f2 = g + 1 := ⟨f2 - 1, by omega⟩
    obtain ⟨α1, α2, a1, a2, a3, a4⟩ := h.teach (p := dg N r w) w4 hs (dg_lt N r w)
    obtain ⟨υ1, υ2, b1, b2, b3, b4⟩ := ih (w + 1) f g α1 α2 (by omega) (by omega) (by omega) a3 (fun j hj => by rw [a4 j hj]; exact tch_cong hx j hj)
    have e13 : τ1.2.2 0 13 = some 100 := by rw [h.1.1]; exact o0_13
    refine ⟨υ1, υ2, fun ex1 => ?_, fun ex2 => ?_, b3, b4⟩
    · rw [fX8_plan_L82, if_neg (nI_nlt (by omega) (by omega)), gR1 0 8, e13, ob, ev_pw1 hN hr (by omega), ob, vC1 100 3, a1, ob]
      simp only [iflt, nI_1]
      exact b1 ex1
    · rw [fX9_plan_L64, if_neg (nI_ge (by omega) (by omega)), ev_pw2 hN hr (by omega), ob, vC2, a2, ob]
      simp only [iflt, nI_1]
      exact b2 ex2
/-- the row's points -/
def pV (N n : Nat) (x d b : Nat → Int32) (r : Nat) : Int32 := pSc (tN N r x N) d b n
/-- a row on both sides: the class from a fresh copy, the reference with the singer put back behind it -/
theorem row_both {r : Nat} {τ1 τ2 : hM} (hG : aG σ1 σ2 s n M) (hN : N < 5) (hr : r < 256) (kw : kd kT1 (S + 1 + s) (3 + 1)) (hS98 : S + 1 + s < 98) (hy : ∀ j, j < 8 → σ1.1 (S + 1 + s) j = σ2.1 3 (8 * s + j)) (hok : sOk (fun j => σ2.1 3 (8 * s + j))) (hB : aB σ1 σ2 s τ1 τ2) (hrow : ∀ j, j < 8 → τ2.1 3 (8 * s + j) = σ2.1 3 (8 * s + j)) : ∃ α1 β1 γ1 β2 γ2 δ2, fX3_copyFrom kT1 100 (S + 1 + s) τ1 = some α1 ∧ (∀ ex1 : hM → Option (Int32 × hM), fX8_plan_L82 kT1 0 (nI N) (nI r) ex1 6000 1 α1 = ex1 β1) ∧ β1.2.2 = σ1.2.2 ∧ fX8_plainPoints kT1 0 100 β1 = some (pV N n (fun j => σ2.1 3 (8 * s + j)) (σ2.1 1) (σ2.1 2) r, γ1) ∧ (∀ ex2 : hM → Option (Int32 × hM), fX9_plan_L64 kT2 0 (nI s) (nI N) (nI r) ex2 6000 0 τ2 = ex2 β2) ∧ fX9_plainScore kT2 0 (nI s) β2 = some (pV N n (fun j => σ2.1 3 (8 * s + j)) (σ2.1 1) (σ2.1 2) r, γ2) ∧ fX9_putBack kT2 0 (nI s) γ2 = some δ2 ∧ aB σ1 σ2 s τ1 δ2 ∧ aB σ1 σ2 s γ1 δ2 ∧ ∀ j, j < 8 → δ2.1 3 (8 * s + j) = σ2.1 3 (8 * s + j) := by
  obtain ⟨⟨o0_6, o0_12, o0_13, o98_0⟩, ⟨w1, w2, w4, w28, w29⟩, -, hs, -⟩ := id hG
  obtain ⟨h1, h2, h3, h4, h5, h6⟩ := id hB
  obtain ⟨α1, a1, a2, a3, a4⟩ := ev_copySinger (σ := τ1) (a := 100) (b := S + 1 + s) rfl kw (by omega)
  have row3 : (fun j => τ2.1 3 (8 * s + j)) = fun j => if j < 8 then σ2.1 3 (8 * s + j) else τ2.1 3 (8 * s + j) := by
    funext j
    by_cases e : j < 8
    · rw [if_pos e, hrow j e]
    · rw [if_neg e]
  have hok' : sOk (fun j => τ2.1 3 (8 * s + j)) := by
    unfold sOk at hok ⊢
    simp only [hrow 0 (by decide), hrow 1 (by decide), hrow 2 (by decide), hrow 3 (by decide), hrow 4 (by decide), hrow 5 (by decide), hrow 6 (by decide), hrow 7 (by decide)]
    exact hok
  have hR : aR σ1 σ2 s α1 τ2 := ⟨⟨a2.trans h1, h2, fun a ha => (a3 a (by omega)).trans (h3 a ha), h4, h5, h6⟩, fun j hj => by rw [a4 j hj, h3 _ hS98, hrow j hj]; exact hy j hj, hok'⟩
  obtain ⟨β1, β2, b1, b2, b3, b4⟩ := weeks_L (x := fun j => σ2.1 3 (8 * s + j)) hG hN hr N 0 6000 6000 α1 τ2 (by omega) (by omega) (by omega) hR (fun j hj => hrow j hj)
  obtain ⟨γ1, γ2, c1, c2, c3, c4, c5, c6, c7, -⟩ := b3.pl hG
  have ev : pSc (fun j => β2.1 3 (8 * s + j)) (σ2.1 1) (σ2.1 2) n = pV N n (fun j => σ2.1 3 (8 * s + j)) (σ2.1 1) (σ2.1 2) r := pSc_cong (fun j hj => b4 j hj) (fun _ _ => rfl) (fun _ _ => rfl)
  rw [ev] at c2 c3
  have hR2 := (b3.sing1 c4 c6).sing2 c5 c7
  obtain ⟨g1, g2, g3, g4, g5, g6⟩ := hR2.1
  obtain ⟨δ2, d1, d2, d3, d4, d5⟩ := ev_putBack (σ := γ2) (s := s) hs (by rw [g2]; exact w29) (by rw [g2]; exact w4)
  rw [nI_0] at b2
  have f1 : ∀ a, a ≠ 3 → a ≠ 15 → a ≠ 16 → δ2.1 a = σ2.1 a := fun a x3 x15 x16 => (d3 a x3).trans (g4 a x3 x15 x16)
  have f2 : ∀ x, (x < 8 * s ∨ 8 * s + 8 ≤ x) → δ2.1 3 x = σ2.1 3 x := fun x hx => (d4 x hx).trans (g5 x hx)
  have f3 : ∀ j, j < 8 → δ2.1 16 j = σ2.1 3 (8 * s + j) := fun j hj => by rw [d3 16 (by decide)]; exact g6 j hj
  exact ⟨α1, β1, γ1, β2, γ2, δ2, a1, b1, b3.1.1, c2, b2, c3, d1, ⟨h1, d2.trans g2, h3, f1, f2, f3⟩, ⟨g1, d2.trans g2, g3, f1, f2, f3⟩, fun j hj => by rw [d5 j hj]; exact g6 j hj⟩
theorem plan_L {ex1 ex2 : Int32 → Int32 → hM → Option (Int32 × hM)} (hG : aG σ1 σ2 s n M) (hN : N < 5) (hN1 : 1 ≤ N) (o322 : σ1.2.2 32 2 = some S) (kS : kd kT1 S 15) (kSn : kl kT1 S 12) (er : σ1.2.2 S s = some (S + 1 + s)) (kw : kd kT1 (S + 1 + s) (3 + 1)) (hS98 : S + 1 + s < 98) (hy : ∀ j, j < 8 → σ1.1 (S + 1 + s) j = σ2.1 3 (8 * s + j)) (hok : sOk (fun j => σ2.1 3 (8 * s + j))) : ∀ (d r f1 f2 : Nat) (v4 v5 u4 u5 : Int32) (τ1 τ2 : hM), r + d = 4 ^ N → d < f1 → d < f2 → aB σ1 σ2 s τ1 τ2 → (∀ j, j < 8 → τ2.1 3 (8 * s + j) = σ2.1 3 (8 * s + j)) → ((r = 0 ∧ v4 = -1 ∧ u4 = -1) ∨ ∃ b, b < r ∧ v5 = nI b ∧ u4 = nI b ∧ v4 = pV N n (fun j => σ2.1 3 (8 * s + j)) (σ2.1 1) (σ2.1 2) b ∧ u5 = pV N n (fun j => σ2.1 3 (8 * s + j)) (σ2.1 1) (σ2.1 2) b ∧ ∀ r', r' < r → pV N n (fun j => σ2.1 3 (8 * s + j)) (σ2.1 1) (σ2.1 2) r' ≤ pV N n (fun j => σ2.1 3 (8 * s + j)) (σ2.1 1) (σ2.1 2) b) → ∃ (b : Nat) (υ1 υ2 : hM), b < 4 ^ N ∧ fX8_plan_L41 kT1 0 (nI s) (nI N) ex1 f1 v4 v5 (nI r) τ1 = ex1 (pV N n (fun j => σ2.1 3 (8 * s + j)) (σ2.1 1) (σ2.1 2) b) (nI b) υ1 ∧ fX9_plan_L51 kT2 0 (nI s) (nI N) ex2 f2 u4 u5 (nI r) τ2 = ex2 (nI b) (pV N n (fun j => σ2.1 3 (8 * s + j)) (σ2.1 1) (σ2.1 2) b) υ2 ∧ aB σ1 σ2 s υ1 υ2 ∧ ∀ j, j < 8 → υ2.1 3 (8 * s + j) = σ2.1 3 (8 * s + j) := by
  obtain ⟨⟨o0_6, o0_12, o0_13, o98_0⟩, ⟨w1, w2, w4, w28, w29⟩, -, hs, hn40, -⟩ := id hG
  obtain ⟨hpow, hp256⟩ := pow_v N hN
  intro d
  induction d with
  | zero =>
    intro r f1 f2 v4 v5 u4 u5 τ1 τ2 hr hf1 hf2 hB hrow hinv
    obtain ⟨f, rfl⟩ : ∃ f, f1 = f + 1 := ⟨f1 - 1, by omega⟩
    obtain ⟨g, rfl⟩ : ∃ g, f2 = g + 1 := ⟨f2 - 1, by omega⟩
    have hp : 0 < 4 ^ N := Nat.pow_pos (by decide)
    rcases hinv with ⟨h0, -⟩ | ⟨b, hb, rfl, rfl, rfl, rfl, -⟩
    · omega
    · have e : r = 4 ^ N := by omega
      refine ⟨b, τ1, τ2, by omega, ?_, ?_, hB, hrow⟩
      · rw [fX8_plan_L41, hpow, e, if_pos (nI_le (Nat.le_refl _) (by omega))]
      · rw [fX9_plan_L51, hpow, e, if_pos (nI_le (Nat.le_refl _) (by omega))]
  | succ d ih =>
    intro r f1 f2 v4 v5 u4 u5 τ1 τ2 hr hf1 hf2 hB hrow hinv
    obtain ⟨f, rfl⟩ : ∃ f, f1 = f + 1 := ⟨f1 - 1, by omega⟩
    obtain ⟨g, rfl⟩ : ∃ g, f2 = g + 1 := ⟨f2 - 1, by omega⟩
    obtain ⟨α1, β1, γ1, β2, γ2, δ2, a1, b1, b1r, c1, b2, c2, d2, hBn, hBy, hrow'⟩ := row_both (N := N) (r := r) hG hN (by omega) kw hS98 hy hok hB hrow
    have e13 : τ1.2.2 0 13 = some 100 := by rw [hB.1]; exact o0_13
    have e6 : τ1.2.2 0 6 = some 32 := by rw [hB.1]; exact o0_6
    have e32 : τ1.2.2 32 2 = some S := by rw [hB.1]; exact o322
    have eS : aldr 15 kT1 τ1 S (nI s) = some (S + 1 + s) := by rw [lR 12 kS kSn hs (by decide), hB.1, er]
    have f13 : β1.2.2 0 13 = some 100 := by rw [b1r]; exact o0_13
    have hlt : ¬ nI (4 ^ N) ≤ nI r := nI_ge (by omega) (by omega)
    have vpos := pSc_pos (x := tN N r (fun j => σ2.1 3 (8 * s + j)) N) (d := σ2.1 1) (b := σ2.1 2) hn40
    have rr : nI r = nI r := rfl
    rw [fX8_plan_L41, hpow, if_neg hlt, ev_isRising hN hN1 (by omega), ob, fX9_plan_L51, hpow, if_neg hlt]
    simp only [iflt, nI_1]
    rw [b2, vC2, c2, ob]
    rcases hinv with ⟨h0, rfl, rfl⟩ | ⟨b, hb, rfl, rfl, rfl, rfl, hmax⟩
    · subst h0
      have nle : ¬ pV N n (fun j => σ2.1 3 (8 * s + j)) (σ2.1 1) (σ2.1 2) 0 ≤ -1 := by
        rw [Int32.le_iff_toInt_le, show (-1 : Int32).toInt = -1 from rfl]
        show ¬ (pSc (tN N 0 (fun j => σ2.1 3 (8 * s + j)) N) (σ2.1 1) (σ2.1 2) n).toInt ≤ -1
        omega
      rw [ifb1 (ris0 N hN), gR1 0 8, e13, ob, gR1 0 8, e6, ob, gR1 32 5, e32, ob, eS, ob, vC1 100 3, a1, ob, b1, gR1 0 8, f13, ob, vC1 0 8, c1, ob, if_neg nle]
      rw [if_pos (show (-1 : Int32) < 0 by decide), if_pos trivial, vC2, d2, ob]
      exact ih (0 + 1) f g _ _ _ _ γ1 δ2 (by omega) (by omega) (by omega) hBy hrow' (Or.inr ⟨0, by omega, rfl, rfl, rfl, rfl, fun r' h => by rw [show r' = 0 by omega, Int32.le_iff_toInt_le]; exact Int.le_refl _⟩)
    · have ub : ¬ nI b < 0 := nI_pos (by omega)
      have nb : ¬ nI b = nI r := neI (by omega) (by omega) (by omega)
      rw [if_neg ub, if_neg nb]
      by_cases hris : isRis N r = true
      · rw [ifb1 hris, gR1 0 8, e13, ob, gR1 0 8, e6, ob, gR1 32 5, e32, ob, eS, ob, vC1 100 3, a1, ob, b1, gR1 0 8, f13, ob, vC1 0 8, c1, ob]
        by_cases hle : pV N n (fun j => σ2.1 3 (8 * s + j)) (σ2.1 1) (σ2.1 2) r ≤ pV N n (fun j => σ2.1 3 (8 * s + j)) (σ2.1 1) (σ2.1 2) b
        · rw [if_pos hle, if_pos hle, vC2, d2, ob]
          refine ih (r + 1) f g _ _ _ _ γ1 δ2 (by omega) (by omega) (by omega) hBy hrow' (Or.inr ⟨b, by omega, rfl, rfl, rfl, rfl, fun r' h => ?_⟩)
          by_cases e : r' = r
          · rw [e]; exact hle
          · exact hmax r' (by omega)
        · rw [if_neg hle, if_neg hle, if_pos trivial, vC2, d2, ob]
          refine ih (r + 1) f g _ _ _ _ γ1 δ2 (by omega) (by omega) (by omega) hBy hrow' (Or.inr ⟨r, by omega, rfl, rfl, rfl, rfl, fun r' h => ?_⟩)
          by_cases e : r' = r
          · rw [e, Int32.le_iff_toInt_le]; exact Int.le_refl _
          · have q := hmax r' (by omega)
            rw [Int32.le_iff_toInt_le] at q hle ⊢
            omega
      · obtain ⟨hs1, hs2⟩ := (srt_v N hN r (by omega)).resolve_left hris
        have ev : pV N n (fun j => σ2.1 3 (8 * s + j)) (σ2.1 1) (σ2.1 2) r = pV N n (fun j => σ2.1 3 (8 * s + j)) (σ2.1 1) (σ2.1 2) (srt N r) := by
          unfold pV
          rw [tN_perm hs2]
        have hle : pV N n (fun j => σ2.1 3 (8 * s + j)) (σ2.1 1) (σ2.1 2) r ≤ pV N n (fun j => σ2.1 3 (8 * s + j)) (σ2.1 1) (σ2.1 2) b := by
          rw [ev]; exact hmax _ hs1
        rw [ifb0 (by simpa using hris), if_pos hle, vC2, d2, ob]
        refine ih (r + 1) f g _ _ _ _ τ1 δ2 (by omega) (by omega) (by omega) hBn hrow' (Or.inr ⟨b, by omega, rfl, rfl, rfl, rfl, fun r' h => ?_⟩)
        by_cases e : r' = r
        · rw [e]; exact hle
        · exact hmax r' (by omega)
end PLAN
theorem s_plan : st_plan Cpl := by
  intro σ1 σ2 hC p1 p2 p3
  obtain ⟨M, M', R, R', S, S', n, c, t, hC⟩ := hC
  have hQ := hC
  obtain ⟨hr, hf2, hT, hm, hc2, ht, hst, hcr, hb, hi0, hi1⟩ := hQ
  have hr0 := hr
  have hf20 := hf2
  obtain ⟨hMe, hR, hS, e01, e02, e03, e04, e05, e322, ⟨o0_0, o0_6, o0_7, o0_8, o0_9, o0_10, o0_12, o0_13, o1_0, o32_0, o32_1, o33_0, o98_0, o94_0, o94_1, o84_0, o84_1, o49_0, o49_1, o50_0, o51_0, o50_1, o50_2, o67_0, o68_0, o67_1, o67_2, o3_0, o3_1, o6_0, o6_1, o9_0, o9_1, o9_2, o9_3, o14_0, o14_1, o14_2, o14_3⟩, hrow, hodd⟩ := hr0
  obtain ⟨w1, w2, w4, w6, w7, w8, w10, w12, w21, w22, w24, w25, w26, w27, w28, w29, w30, w31, w33, w34, w36, w37, w38⟩ := hf20
  obtain ⟨kM, kM1, kM1n, kM2, kM2n⟩ := kMel hMe
  obtain ⟨kR, ⟨kR1, kR1n⟩, ⟨kR2, kR2n⟩, ⟨kR3, kR3n⟩, ⟨kR4, kR4n⟩⟩ := kTri hR
  obtain ⟨⟨kS, kSn⟩, kSs⟩ := kRow hS
  obtain ⟨em0, em1⟩ := hr.mel
  obtain ⟨et0, et1, et2, et3⟩ := hr.tri
  have erow := hr.row
  obtain ⟨hn40, hn1, hn2, hnk⟩ := id hm
  obtain ⟨ht6, ht1, ht2, htk⟩ := id ht
  obtain ⟨hc12, hc2e⟩ := id hc2
  obtain ⟨hs3, hsw, hsr, hss, hsg, hse, hse0⟩ := id hst
  unfold fX8_plan fX9_plan
  rw [vC1 0 8, ev_isSinger1 o0_6 hs3, ob, vC2, ev_isSinger2 hc2e, ob]
  by_cases h : 0 ≤ p1 ∧ p1 ≤ nI c - 1
  · obtain ⟨s, hs, rfl⟩ := (inN (by omega)).mp h
    rw [ifz1 h, ifz1 h, isW, ob, in9 1 4 (L := 1) (H := 4) rfl rfl, ob]
    by_cases h2 : 1 ≤ p2 ∧ p2 ≤ 4
    · obtain ⟨N, hN1, hN4, rfl⟩ := (inAB 1 4 rfl rfl (by decide) (by decide)).mp h2
      rw [ifz1 h2, ifz1 h2, isW, ob, in9 0 (nI N) (L := 0) (H := (nI N).toInt64) rfl rfl, ob]
      by_cases h3 : 0 ≤ p3 ∧ p3 ≤ nI N
      · obtain ⟨q, hq, rfl⟩ := (inK N rfl (by omega)).mp h3
        have kw := kSs s (by omega)
        obtain ⟨τ2, b1, b2, b3, b4⟩ := ev_hold (σ := σ2) (s := s) (by omega) w29 w4
        have hG : aG σ1 σ2 s n M := ⟨⟨o0_6, o0_12, o0_13, o98_0⟩, ⟨w1, w2, w4, w28, w29⟩, ⟨kM, e01, em0, em1, kM1, kM1n, kM2, kM2n, by omega⟩, by omega, hn40, hn1, hn2, hnk, hse, hse0⟩
        have hB : aB σ1 σ2 s σ1 τ2 := ⟨rfl, b2, fun a ha => rfl, fun a _ _ x16 => b3 a x16, fun x _ => by rw [b3 3 (by decide)], b4⟩
        have hp256 := (pow_v N (by omega)).2
        obtain ⟨b, υ1, υ2, hb, q1, q2, q3, q4⟩ := plan_L (N := N) (S := S) (ex1 := fun x21 x22 u23 => if nI q = 0 then (some (x21, u23)) else ((fX8_partOfWeek kT1 x22 (nI N) (nI q) u23).bind fun q24 => some (q24.1, q24.2))) (ex2 := fun x16 x17 u18 => if nI q = 0 then (some (x17, u18)) else ((fX9_partOf kT2 x16 (nI N) (nI q - (1 : Int32)) u18).bind fun q19 => some (q19.1, q19.2))) hG (by omega) hN1 e322 kS kSn (erow s (by omega)) kw (by omega) (hss s hs).1 (hss s hs).2 (4 ^ N) 0 6000 6000 (-1) 0 (-1) 0 σ1 τ2 (by omega) (by omega) (by omega) hB (fun j hj => by rw [b3 3 (by decide)]) (Or.inl ⟨rfl, rfl, rfl⟩)
        rw [nI_0] at q1 q2
        have hok : pCpl M M' R R' S S' n c t υ1 υ2 := hC.back q3 rfl (fun _ _ => rfl) (fun _ _ => rfl) (fun j hj => by rw [q4 j hj, q3.2.2.2.2.2 j hj])
        rw [ifz1 h3, ifz1 h3, q1, vC2, b1, ob, q2]
        by_cases e0 : q = 0
        · subst e0
          rw [if_pos nI_0, if_pos nI_0]
          exact ⟨_, _, _, rfl, rfl, M, M', R, R', S, S', n, c, t, hok⟩
        · obtain ⟨q', rfl⟩ : ∃ q', q = q' + 1 := ⟨q - 1, by omega⟩
          have z : ¬ nI (q' + 1) = 0 := nI_ne0 (by omega) (by omega)
          rw [if_neg z, if_neg z, nI_pred, ev_pw1 (by omega) (by omega) (by omega), ev_pw2 (by omega) (by omega) (by omega), ob, ob]
          exact ⟨_, _, _, rfl, rfl, M, M', R, R', S, S', n, c, t, hok⟩
      · rw [ifz0 h3, ifz0 h3]
        exact ⟨_, σ1, σ2, rfl, rfl, ⟨M, M', R, R', S, S', n, c, t, hC⟩⟩
    · rw [ifz0 h2, ifz0 h2]
      exact ⟨_, σ1, σ2, rfl, rfl, ⟨M, M', R, R', S, S', n, c, t, hC⟩⟩
  · rw [ifz0 h, ifz0 h]
    exact ⟨_, σ1, σ2, rfl, rfl, ⟨M, M', R, R', S, S', n, c, t, hC⟩⟩
