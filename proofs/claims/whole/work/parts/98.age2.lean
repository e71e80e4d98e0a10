section AGE2
variable {σ1 σ2 τ1 τ2 : hM} {s n M : Nat}
theorem age_L {ex : Int32 → hM → Option (Int32 × hM)} (hG : aG σ1 σ2 s n M) : ∀ (d y f1 f2 : Nat) (τ1 τ2 : hM), y + d = 31 → d < f1 → d + 1 < f2 → aR σ1 σ2 s τ1 τ2 → ∃ (r : Int32) (υ1 υ2 : hM), fX8_age_L29 kT1 0 (fun u18 => some ((-1 : Int32), u18)) f1 (nI y) τ1 = some (r, υ1) ∧ fX9_age_L20 kT2 0 (nI s) ex f2 (-1) (nI y) τ2 = ex r υ2 ∧ aB σ1 σ2 s υ1 υ2 := by
  obtain ⟨⟨o0_6, o0_12, o0_13, o98_0⟩, ⟨w1, w2, w4, w28, w29⟩, ⟨kM, e01, em0, em1, kM1, kM1n, kM2, kM2n, hM3⟩, hs, hn, en1, en2, hnk, hse, hse0⟩ := id hG
  intro d
  induction d with
  | zero =>
    intro y f1 f2 τ1 τ2 hy hf1 hf2 h
    obtain ⟨f, rfl⟩ : ∃ f, f1 = f + 1 := ⟨f1 - 1, by omega⟩
    obtain ⟨g, rfl⟩ : ∃ g, f2 = g + 1 := ⟨f2 - 1, by omega⟩
    have e : y = 31 := by omega
    subst e
    rw [fX8_age_L29, fX9_age_L20, if_pos (by decide), if_pos (by decide)]
    exact ⟨-1, τ1, τ2, rfl, rfl, h.1⟩
  | succ d ih =>
    intro y f1 f2 τ1 τ2 hy hf1 hf2 h
    obtain ⟨f, rfl⟩ : ∃ f, f1 = f + 1 := ⟨f1 - 1, by omega⟩
    obtain ⟨g, rfl⟩ : ∃ g, f2 = g + 2 := ⟨f2 - 2, by omega⟩
    obtain ⟨υ1, υ2, q1, -, q3, q4, q5, q6, q7, q8, q9⟩ := h.pl hG
    obtain ⟨⟨h1, h2, h3, h4, h5, h6⟩, h7, h8⟩ := id h
    have n30 : ¬ (30 : Int32) < nI y := nI_nlt (a := 30) (by omega) (by decide)
    have e12 : τ1.2.2 0 12 = some 98 := by rw [h1]; exact o0_12
    have e13 : τ1.2.2 0 13 = some 100 := by rw [h1]; exact o0_13
    have u12 : υ1.2.2 0 12 = some 98 := by rw [q4]; exact e12
    have u1 : υ1.2.2 0 1 = some M := by rw [q4, h1]; exact e01
    have u98 : υ1.2.2 98 0 = some 99 := by rw [q4, h1]; exact o98_0
    have uM : υ1.2.2 M 0 = some (M + 1) := by rw [q4, h1]; exact em0
    have dM : υ1.1 (M + 1) = σ1.1 (M + 1) := by rw [q6 _ (by omega) (by omega), h3 _ (by omega)]
    have t0 : τ2.1 0 0 = nI n := by rw [h4 0 (by decide) (by decide) (by decide)]; exact en2
    have t4 : τ2.2.2 0 4 = some 3 := by rw [h2]; exact w4
    have u20 : υ2.1 0 0 = nI n := by rw [q7 0 (by decide)]; exact t0
    rw [fX8_age_L29, fX9_age_L20, if_neg n30, if_neg n30, if_neg (show ¬ (0 : Int32) ≤ -1 by decide), gR1 0 8, e12, ob, gR1 0 8, e13, ob, vC1 0 8, q1, ob, gR1 0 8, u12, ob, gR1 0 8, u1, ob, vC1 98 4, gI2, ob, t0]
    simp only [iflt, nI_1, if_true]
    have hR1 : aR σ1 σ2 s υ1 τ2 := h.sing1 q4 q6
    by_cases hq : n = 0 ∨ τ2.1 3 (8 * s) = 7
    · have a1 : fX4_wrongBy kT1 98 M υ1 = some (15, υ1) := by
        refine ev_wrongBy0 (A := 98) (M := M) rfl u98 rfl rfl q8 hn ?_
        rcases hq with hq | hq
        · exact Or.inl hq
        · by_cases n0 : n = 0
          · exact Or.inl n0
          · refine Or.inr ?_
            rw [q9 0 (by omega), pHt, if_pos (show (fun j => τ2.1 3 (8 * s + j)) 0 = 7 from hq)]
      rw [a1, ob, if_neg (show ¬ (((15 : Int32), υ1) : Int32 × hM).1 &&& 3 = 0 by show ¬ (15 : Int32) &&& 3 = 0; decide)]
      obtain ⟨α1, α2, b1, b2, b3⟩ := teach4 (ex1 := fun u16 => fX8_age_L29 kT1 0 (fun u18 => some ((-1 : Int32), u18)) f (nI (y + 1)) u16) (ex2 := fun u9 => fX9_age_L20 kT2 0 (nI s) ex (g + 1) (-1) (nI (y + 1)) u9) o0_13 w4 hs 4 0 6000 6000 υ1 τ2 (by omega) (by omega) (by omega) hR1
      rw [nI_0] at b1 b2
      have nx := ih (y + 1) f (g + 1) α1 α2 (by omega) (by omega) (by omega) b3
      rw [b1]
      by_cases n0 : n = 0
      · rw [if_pos (show nI n ≤ 0 by rw [n0, nI_0]; decide), b2]
        exact nx
      · rw [if_neg (nI_nle (by omega) (by omega)), gR2, t4, ob, mul_nI 8 8 rfl, lA2 3 96 (k := 8 * s) (by omega), ob, if_pos (hq.resolve_left n0), b2]
        exact nx
    · have n0 : n ≠ 0 := fun e => hq (Or.inl e)
      have k7 : ¬ τ2.1 3 (8 * s) = 7 := fun e => hq (Or.inr e)
      have hneg : ¬ υ1.1 99 0 = -1 := by
        rw [q9 0 (by omega), pHt, if_neg (show ¬ (fun j => τ2.1 3 (8 * s + j)) 0 = 7 from k7)]
        intro e
        by_cases k4 : (fun j => τ2.1 3 (8 * s + j)) 0 = 4
        · rw [if_pos k4] at e
          obtain ⟨-, -, -, -, -, ⟨z1, z2, z3⟩, -⟩ := h8
          dsimp only at z1 z2 z3
          have := toInt_100 (x := τ2.1 3 (8 * s + 5)) (by omega)
          rw [show 100 * τ2.1 3 (8 * s + 5) = -1 from e, show (-1 : Int32).toInt = -1 from rfl] at this
          omega
        · rw [if_neg k4] at e
          have := (vHeld_in h8 ((pAim (fun j => τ2.1 3 (8 * s + j)) (σ2.1 1) (σ2.1 2) (0 + 1)).1 + vLean (fun j => τ2.1 3 (8 * s + j)) + pWv (fun j => τ2.1 3 (8 * s + j)) 0)).1
          rw [e, show (-1 : Int32).toInt = -1 from rfl] at this
          omega
      have a1 := ev_wrongBy (A := 98) (M := M) rfl u98 rfl rfl q8 hn kM uM kM1 kM1n n0 hneg
      have cg : ∀ w, bw (υ1.1 99) (υ1.1 (M + 1)) n w = bw (pHt (fun j => τ2.1 3 (8 * s + j)) (σ2.1 1) (σ2.1 2)) (σ2.1 1) n w := by
        intro w
        unfold bw
        rw [pts_cong n0 (fun j hj => ⟨q9 j hj, (congrFun dM j).trans (hnk j hj).1⟩)]
      rw [cg, cg, cg, cg] at a1
      have ri := right_iff (h := pHt (fun j => τ2.1 3 (8 * s + j)) (σ2.1 1) (σ2.1 2)) (d := σ2.1 1) n0 hn
      have ep : pSc (fun j => τ2.1 3 (8 * s + j)) (σ2.1 1) (σ2.1 2) n = pts (pHt (fun j => τ2.1 3 (8 * s + j)) (σ2.1 1) (σ2.1 2)) (σ2.1 1) n 0 + pts (pHt (fun j => τ2.1 3 (8 * s + j)) (σ2.1 1) (σ2.1 2)) (σ2.1 1) n 1 := by
        unfold pSc
        rw [if_neg (show ¬ (n = 0 ∨ (fun j => τ2.1 3 (8 * s + j)) 0 = 7) from hq)]
      rw [ep] at q3
      have hR2 : aR σ1 σ2 s υ1 υ2 := hR1.sing2 q5 q7
      rw [a1, ob, if_neg (nI_nle (by omega) (by omega)), gR2, t4, ob, mul_nI 8 8 rfl, lA2 3 96 (k := 8 * s) (by omega), ob, if_neg k7, vC2, q3, ob, gI2, ob, u20]
      by_cases hr : pts (pHt (fun j => τ2.1 3 (8 * s + j)) (σ2.1 1) (σ2.1 2)) (σ2.1 1) n 0 + pts (pHt (fun j => τ2.1 3 (8 * s + j)) (σ2.1 1) (σ2.1 2)) (σ2.1 1) n 1 = 2 * nI n - 1
      · rw [if_pos (ri.mpr hr), if_pos hr]
        obtain ⟨α1, α2, -, b2, b3⟩ := teach4 (ex1 := fun u16 => fX8_age_L29 kT1 0 (fun u18 => some ((-1 : Int32), u18)) f (nI (y + 1)) u16) (ex2 := fun u9 => fX9_age_L20 kT2 0 (nI s) ex (g + 1) (nI y) (nI (y + 1)) u9) o0_13 w4 hs 4 0 6000 6000 υ1 υ2 (by omega) (by omega) (by omega) hR2
        rw [nI_0] at b2
        rw [if_neg (show ¬ (1 : Int32) = 0 by decide), b2]
        refine ⟨nI y, υ1, α2, rfl, ?_, hR2.1.1, b3.1.2.1, hR2.1.2.2.1, b3.1.2.2.2.1, b3.1.2.2.2.2.1, b3.1.2.2.2.2.2⟩
        rw [fX9_age_L20]
        by_cases q : (30 : Int32) < nI (y + 1)
        · rw [if_pos q]
        · rw [if_neg q, if_pos (nI_pos' (by omega))]
      · rw [if_neg (fun e => hr (ri.mp e)), if_neg hr]
        obtain ⟨α1, α2, b1, b2, b3⟩ := teach4 (ex1 := fun u16 => fX8_age_L29 kT1 0 (fun u18 => some ((-1 : Int32), u18)) f (nI (y + 1)) u16) (ex2 := fun u9 => fX9_age_L20 kT2 0 (nI s) ex (g + 1) (-1) (nI (y + 1)) u9) o0_13 w4 hs 4 0 6000 6000 υ1 υ2 (by omega) (by omega) (by omega) hR2
        rw [nI_0] at b1 b2
        rw [b1, b2]
        exact ih (y + 1) f (g + 1) α1 α2 (by omega) (by omega) (by omega) b3
end AGE2
/-- the singer is put back: all is as it was -/
theorem pCpl.back {M M' R R' S S' n c t s : Nat} {σ1 σ2 τ1 τ2 υ2 : hM} (hC : pCpl M M' R R' S S' n c t σ1 σ2) (hB : aB σ1 σ2 s τ1 τ2) (b2 : υ2.2.2 = τ2.2.2) (b3 : ∀ a, a ≠ 3 → υ2.1 a = τ2.1 a) (b4 : ∀ x, (x < 8 * s ∨ 8 * s + 8 ≤ x) → υ2.1 3 x = τ2.1 3 x) (b5 : ∀ j, j < 8 → υ2.1 3 (8 * s + j) = τ2.1 16 j) : pCpl M M' R R' S S' n c t τ1 υ2 := by
  obtain ⟨h1, h2, h3, h4, h5, h6⟩ := hB
  refine hC.fr h1 (b2.trans h2) (fun a k hs => ?_) (fun b k hs => ?_)
  · unfold sc1 at hs
    rw [h3 a (by omega)]
  · unfold sc2 at hs
    by_cases e : b = 3
    · subst e
      by_cases q : k < 8 * s ∨ 8 * s + 8 ≤ k
      · rw [b4 k q, h5 k q]
      · obtain ⟨j, rfl⟩ : ∃ j, k = 8 * s + j := ⟨k - 8 * s, by omega⟩
        rw [b5 j (by omega), h6 j (by omega)]
    · rw [b3 b e, h4 b e (by omega) (by omega)]
theorem s_age : st_age Cpl := by
  intro σ1 σ2 hC p1
  obtain ⟨M, M', R, R', S, S', n, c, t, hC⟩ := hC
  have hQ := hC
  obtain ⟨hr, hf2, hT, hm, hc2, ht, hst, hcr, hb, hi0, hi1⟩ := hQ
  have hr0 := hr
  have hf20 := hf2
  obtain ⟨hMe, hR, hS, e01, e02, e03, e04, e05, e322, ⟨o0_0, o0_6, o0_7, o0_8, o0_9, o0_10, o0_12, o0_13, o1_0, o32_0, o32_1, o33_0, o98_0, o94_0, o94_1, o84_0, o84_1, o49_0, o49_1, o50_0, o51_0, o50_1, o50_2, o67_0, o68_0, o67_1, o67_2, o3_0, o3_1, o6_0, o6_1, o9_0, o9_1, o9_2, o9_3, o14_0, o14_1, o14_2, o14_3⟩, hrow, hodd⟩ := hr0
  obtain ⟨w1, w2, w4, w6, w7, w8, w10, w12, w21, w22, w24, w25, w26, w27, w28, w29, w30, w31, w33, w34, w36, w37, w38⟩ := hf20
  obtain ⟨kM, kM1, kM1n, kM2, kM2n⟩ := kMel hMe
  obtain ⟨kR, ⟨kR1, kR1n⟩, ⟨kR2, kR2n⟩, ⟨kR3, kR3n⟩, ⟨kR4, kR4n⟩⟩ := kTri hR
  obtain ⟨⟨kS, kSn⟩, kSs⟩ := kRow hS
  obtain ⟨em0, em1⟩ := hr.mel
  obtain ⟨et0, et1, et2, et3⟩ := hr.tri
  have erow := hr.row
  obtain ⟨hn40, hn1, hn2, hnk⟩ := id hm
  obtain ⟨ht6, ht1, ht2, htk⟩ := id ht
  obtain ⟨hc12, hc2e⟩ := id hc2
  obtain ⟨hs3, hsw, hsr, hss, hsg, hse, hse0⟩ := id hst
  unfold fX8_age fX9_age
  rw [vC1 0 8, ev_isSinger1 o0_6 hs3, ob, vC2, ev_isSinger2 hc2e, ob]
  by_cases h : 0 ≤ p1 ∧ p1 ≤ nI c - 1
  · obtain ⟨s, hs, rfl⟩ := (inN (by omega)).mp h
    have kw := kSs s (by omega)
    have lS : aldr 15 kT1 σ1 S (nI s) = some (S + 1 + s) := by rw [lR 12 kS kSn (by omega) (by decide), erow s (by omega)]
    obtain ⟨τ1, a1, a2, a3, a4⟩ := ev_copySinger (σ := σ1) (a := 100) (b := S + 1 + s) rfl kw (by omega)
    obtain ⟨τ2, b1, b2, b3, b4⟩ := ev_hold (σ := σ2) (s := s) (by omega) w29 w4
    have hG : aG σ1 σ2 s n M := ⟨⟨o0_6, o0_12, o0_13, o98_0⟩, ⟨w1, w2, w4, w28, w29⟩, ⟨kM, e01, em0, em1, kM1, kM1n, kM2, kM2n, by omega⟩, by omega, hn40, hn1, hn2, hnk, hse, hse0⟩
    have hR' : aR σ1 σ2 s τ1 τ2 := ⟨⟨a2, b2, fun a ha => a3 a (by omega), fun a _ _ x16 => b3 a x16, fun x _ => by rw [b3 3 (by decide)], b4⟩, fun j hj => by rw [a4 j hj, b3 3 (by decide)]; exact (hss s hs).1 j hj, by rw [b3 3 (by decide)]; exact (hss s hs).2⟩
    obtain ⟨r, υ1, υ2, q1, q2, q3⟩ := age_L (ex := fun x16 u17 => (vc kT2 0 9 (fX9_putBack kT2 0 (nI s) u17)).bind fun q18 => some (x16, q18)) hG 31 0 6000 6000 τ1 τ2 (by omega) (by omega) (by omega) hR'
    rw [nI_0] at q1 q2
    obtain ⟨ω2, z1, z2, z3, z4, z5⟩ := ev_putBack (σ := υ2) (s := s) (by omega) (by rw [q3.2.1]; exact w29) (by rw [q3.2.1]; exact w4)
    rw [ifz1 h, ifz1 h, gR1 0 8, o0_13, ob, gR1 0 8, o0_6, ob, gR1 32 5, e322, ob, lS, ob, vC1 100 3, a1, ob, q1, vC2, b1, ob, q2, vC2, z1, ob]
    exact ⟨_, _, _, rfl, rfl, M, M', R, R', S, S', n, c, t, hC.back q3 z2 z3 z4 z5⟩
  · rw [ifz0 h, ifz0 h]
    exact ⟨_, σ1, σ2, rfl, rfl, ⟨M, M', R, R', S, S', n, c, t, hC⟩⟩
