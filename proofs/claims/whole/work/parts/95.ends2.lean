/-- the turns of both, till nothing moves -/
theorem ends_L {m : Nat} {ex : Int32 → Int32 → hM → Option (Int32 × hM)} (hm : m ≤ 8) (h0 : 0 < m) : ∀ (D : Nat) (f1 f2 tn : Nat) (lo hi : Int) (w : Int32) (σ1 σ2 : hM), D < f1 → D + 1 < f2 → tn + D ≤ 2400 → -1200 ≤ lo → hi ≤ 1200 → hi - lo ≤ (D : Int) → σ1.1 94 2 = nI m → σ1.2.2 94 1 = some 96 → σ2.1 0 32 = nI m → σ2.2.2 0 34 = some 20 → σ1.1 94 4 = nI tn → σ1.1 94 3 = smm (σ2.1 20) m / nI m → (∀ j, j < m → σ1.1 96 j = σ2.1 20 j ∧ lo ≤ (σ2.1 20 j).toInt ∧ (σ2.1 20 j).toInt ≤ hi) → ∃ (τ1 τ2 : hM) (rt rm : Int32), fX0_settle_L28 kT1 94 (fun u13 => some u13) f1 σ1 = some τ1 ∧ fX9_ends_L59 kT2 0 ex f2 (nI tn) w 1 σ2 = ex rt rm τ2 ∧ τ1.1 94 3 = rm ∧ τ1.1 94 4 = rt ∧ τ1.2.2 = σ1.2.2 ∧ τ2.2.2 = σ2.2.2 ∧ (∀ a, a ≠ 94 → a ≠ 96 → τ1.1 a = σ1.1 a) ∧ τ1.1 94 2 = σ1.1 94 2 ∧ ∀ a, a ≠ 20 → τ2.1 a = σ2.1 a := by
  intro D
  induction D with
  | zero =>
    intro f1 f2 tn lo hi w σ1 σ2 hf1 hf2 htn hl hh hD e2 r1 e2' r1' e4 e3 hx
    obtain ⟨f, rfl⟩ : ∃ f, f1 = f + 1 := ⟨f1 - 1, by omega⟩
    obtain ⟨g, rfl⟩ : ∃ g, f2 = g + 2 := ⟨f2 - 2, by omega⟩
    have hv := mean_v hl hh h0 hm (fun j hj => (hx j hj).2)
    have hc : ch (σ2.1 20) (smm (σ2.1 20) m / nI m) m = false := by
      cases q : ch (σ2.1 20) (smm (σ2.1 20) m / nI m) m with
      | false => rfl
      | true =>
        obtain ⟨lo', hi', -, -, a, b, -⟩ := turn_v hl hh (fun j hj => (hx j hj).2) hv q
        omega
    obtain ⟨τ1, p1, p2, p3, -, -⟩ := turn_L (v := smm (σ2.1 20) m / nI m) (x := σ2.1 20) (ex := fun x12 u13 => rtz x12 u13) hm m 0 6000 σ1 (by omega) (by omega) e2 e3 r1 (fun j _ hj => (hx j hj).1)
    rw [nI_0, show (if ch (σ2.1 20) (smm (σ2.1 20) m / nI m) 0 = true then (1 : Int32) else 0) = 0 from rfl, hc] at p1
    have p1' : fX0_changesInTurn kT1 94 σ1 = some (0, τ1) := p1
    have su := sum2_L (σ := σ2) (ex := fun x15 u16 => (gti kT2 u16 0 9 32).bind fun x17 => (dvi x15 x17).bind fun x18 => fX9_ends_L111 kT2 0 x18 (fun x30 u31 => lt (if x30 = 0 then (0 : Int32) else (1 : Int32)) fun x32 => lt ((nI tn + x32)) fun x33 => fX9_ends_L59 kT2 0 ex (g + 1) x33 x18 x30 u31) 6000 (0 : Int32) (0 : Int32) u16) e2' r1' hm m 0 6000 (by omega) (by omega)
    rw [nI_0, show smm (σ2.1 20) 0 = 0 from rfl] at su
    obtain ⟨τ2, s1, s2, s3, -, -⟩ := turn2_L (v := smm (σ2.1 20) m / nI m) (x := σ2.1 20) (ex := fun x30 u31 => lt (if x30 = 0 then (0 : Int32) else (1 : Int32)) fun x32 => lt ((nI tn + x32)) fun x33 => fX9_ends_L59 kT2 0 ex (g + 1) x33 (smm (σ2.1 20) m / nI m) x30 u31) hm m 0 6000 σ2 (by omega) (by omega) e2' r1' (fun j _ _ => rfl)
    rw [nI_0, show (if ch (σ2.1 20) (smm (σ2.1 20) m / nI m) 0 = true then (1 : Int32) else 0) = 0 from rfl, hc] at s1
    simp only [iflt] at s1
    refine ⟨τ1, τ2, nI tn, smm (σ2.1 20) m / nI m, ?_, ?_, by rw [p3 94 (by decide)]; exact e3, by rw [p3 94 (by decide)]; exact e4, p2, s2, fun a _ ha => p3 a ha, by rw [p3 94 (by decide)], s3⟩
    · rw [fX0_settle_L28, gI1 94 0, ob, e4, if_neg (show ¬ (5000 : Int32) ≤ nI tn from nI_ge (b := 5000) (by omega) (by decide)), vC1 94 0, p1', ob]
      rfl
    · rw [fX9_ends_L59, if_neg (by decide), su, gI2, ob, e2']
      unfold dvi
      rw [if_neg (nI_ne0 h0 (by omega)), ob]
      simp only [iflt]
      rw [s1]
      rw [if_neg (show ¬ (false = true) by decide), if_pos (show (0 : Int32) = 0 from rfl), Int32.add_zero, fX9_ends_L59, if_pos rfl]
  | succ D ih =>
    intro f1 f2 tn lo hi w σ1 σ2 hf1 hf2 htn hl hh hD e2 r1 e2' r1' e4 e3 hx
    obtain ⟨f, rfl⟩ : ∃ f, f1 = f + 1 := ⟨f1 - 1, by omega⟩
    obtain ⟨g, rfl⟩ : ∃ g, f2 = g + 2 := ⟨f2 - 2, by omega⟩
    have hv := mean_v hl hh h0 hm (fun j hj => (hx j hj).2)
    obtain ⟨τ1, p1, p2, p3, -, p5⟩ := turn_L (v := smm (σ2.1 20) m / nI m) (x := σ2.1 20) (ex := fun x12 u13 => rtz x12 u13) hm m 0 6000 σ1 (by omega) (by omega) e2 e3 r1 (fun j _ hj => (hx j hj).1)
    have su := sum2_L (σ := σ2) (ex := fun x15 u16 => (gti kT2 u16 0 9 32).bind fun x17 => (dvi x15 x17).bind fun x18 => fX9_ends_L111 kT2 0 x18 (fun x30 u31 => lt (if x30 = 0 then (0 : Int32) else (1 : Int32)) fun x32 => lt ((nI tn + x32)) fun x33 => fX9_ends_L59 kT2 0 ex (g + 1) x33 x18 x30 u31) 6000 (0 : Int32) (0 : Int32) u16) e2' r1' hm m 0 6000 (by omega) (by omega)
    rw [nI_0, show smm (σ2.1 20) 0 = 0 from rfl] at su
    obtain ⟨τ2, s1, s2, s3, -, s5⟩ := turn2_L (v := smm (σ2.1 20) m / nI m) (x := σ2.1 20) (ex := fun x30 u31 => lt (if x30 = 0 then (0 : Int32) else (1 : Int32)) fun x32 => lt ((nI tn + x32)) fun x33 => fX9_ends_L59 kT2 0 ex (g + 1) x33 (smm (σ2.1 20) m / nI m) x30 u31) hm m 0 6000 σ2 (by omega) (by omega) e2' r1' (fun j _ _ => rfl)
    cases hc : ch (σ2.1 20) (smm (σ2.1 20) m / nI m) m with
    | false =>
      rw [nI_0, show (if ch (σ2.1 20) (smm (σ2.1 20) m / nI m) 0 = true then (1 : Int32) else 0) = 0 from rfl, hc] at p1
      have p1' : fX0_changesInTurn kT1 94 σ1 = some (0, τ1) := p1
      rw [nI_0, show (if ch (σ2.1 20) (smm (σ2.1 20) m / nI m) 0 = true then (1 : Int32) else 0) = 0 from rfl, hc] at s1
      simp only [iflt] at s1
      refine ⟨τ1, τ2, nI tn, smm (σ2.1 20) m / nI m, ?_, ?_, by rw [p3 94 (by decide)]; exact e3, by rw [p3 94 (by decide)]; exact e4, p2, s2, fun a _ ha => p3 a ha, by rw [p3 94 (by decide)], s3⟩
      · rw [fX0_settle_L28, gI1 94 0, ob, e4, if_neg (show ¬ (5000 : Int32) ≤ nI tn from nI_ge (b := 5000) (by omega) (by decide)), vC1 94 0, p1', ob]
        rfl
      · rw [fX9_ends_L59, if_neg (by decide), su, gI2, ob, e2']
        unfold dvi
        rw [if_neg (nI_ne0 h0 (by omega)), ob]
        simp only [iflt]
        rw [s1]
        rw [if_neg (show ¬ (false = true) by decide), if_pos (show (0 : Int32) = 0 from rfl), Int32.add_zero, fX9_ends_L59, if_pos rfl]
    | true =>
      obtain ⟨lo', hi', b1, b2, b3, b4, b5⟩ := turn_v hl hh (fun j hj => (hx j hj).2) hv hc
      rw [nI_0, show (if ch (σ2.1 20) (smm (σ2.1 20) m / nI m) 0 = true then (1 : Int32) else 0) = 0 from rfl, hc] at p1
      have p1' : fX0_changesInTurn kT1 94 σ1 = some (1, τ1) := p1
      rw [nI_0, show (if ch (σ2.1 20) (smm (σ2.1 20) m / nI m) 0 = true then (1 : Int32) else 0) = 0 from rfl, hc] at s1
      simp only [iflt] at s1
      have t3 := p3 94 (by decide)
      have t96 : (wI τ1 94 4 (nI (tn + 1))).1 96 = τ1.1 96 := wIn (by decide)
      have em := ev_mean (σ := wI τ1 94 4 (nI (tn + 1))) (m := m) (by rw [wIk (by decide), t3]; exact e2) (by rw [wrr, p2]; exact r1) hm h0
      have cx : ∀ j, j < m → τ1.1 96 j = τ2.1 20 j := fun j hj => by rw [p5 j (Nat.zero_le j) hj, s5 j (Nat.zero_le j) hj]
      rw [t96, smm_cong m cx] at em
      obtain ⟨υ1, υ2, rt, rm, z1, z2, z3, z4, z5, z6, z7, z8, z9⟩ := ih f (g + 1) (tn + 1) lo' hi' (smm (σ2.1 20) m / nI m) (wI (wI τ1 94 4 (nI (tn + 1))) 94 3 (smm (τ2.1 20) m / nI m)) τ2 (by omega) (by omega) (by omega) b1 b2 (by omega) (by rw [wIk (by decide), wIk (by decide), t3]; exact e2) (by rw [wrr, wrr, p2]; exact r1) (by rw [s3 0 (by decide)]; exact e2') (by rw [s2]; exact r1') (by rw [wIk (by decide), wIe]) (by rw [wIe]) (fun j hj => ⟨by rw [wIn (by decide), t96]; exact cx j hj, by rw [s5 j (Nat.zero_le j) hj]; exact b5 j hj⟩)
      refine ⟨υ1, υ2, rt, rm, ?_, ?_, z3, z4, by rw [z5]; exact p2, by rw [z6]; exact s2, fun a h94 h96 => by rw [z7 a h94 h96, wIn h94, wIn h94, p3 a h96], by rw [z8, wIk (by decide), wIk (by decide), t3], fun a ha => by rw [z9 a ha, s3 a ha]⟩
      · rw [fX0_settle_L28, gI1 94 0, ob, e4, if_neg (show ¬ (5000 : Int32) ≤ nI tn from nI_ge (b := 5000) (by omega) (by decide)), vC1 94 0, p1', ob]
        rw [if_neg (show ¬ (((1 : Int32), τ1) : Int32 × hM).1 = 0 from (by decide : ¬ (1 : Int32) = 0)), gI1 94 0, ob, pI1 94 0, ob, t3, e4, nI_1, vC1 94 0, em, ob, pI1 94 0, ob]
        exact z1
      · rw [fX9_ends_L59, if_neg (by decide), su, gI2, ob, e2']
        unfold dvi
        rw [if_neg (nI_ne0 h0 (by omega)), ob]
        simp only [iflt]
        rw [s1]
        rw [if_pos trivial, if_neg (show ¬ (1 : Int32) = 0 by decide), nI_1]
        exact z2
theorem s_ends : st_ends Cpl := by
  intro σ1 σ2 hC p1
  obtain ⟨M, M', R, R', S, S', n, c, t, hC⟩ := hC
  have hQ := hC
  obtain ⟨hr, hf2, hT, hm, hc2, ht, hst, hcr, hb, hi0, hi1⟩ := hQ
  have hr0 := hr
  have hf20 := hf2
  obtain ⟨hMe, hR, hS, e01, e02, e03, e04, e05, e322, ⟨o0_0, o0_6, o0_7, o0_8, o0_9, o0_10, o0_12, o0_13, o1_0, o32_0, o32_1, o33_0, o98_0, o94_0, o94_1, o84_0, o84_1, o49_0, o49_1, o50_0, o51_0, o50_1, o50_2, o67_0, o68_0, o67_1, o67_2, o3_0, o3_1, o6_0, o6_1, o9_0, o9_1, o9_2, o9_3, o14_0, o14_1, o14_2, o14_3⟩, hrow, hodd⟩ := hr0
  obtain ⟨w1, w2, w4, w6, w7, w8, w10, w12, w21, w22, w24, w25, w26, w27, w28, w29, w30, w31, w33, w34, w36, w37, w38⟩ := hf20
  obtain ⟨kM, kM1, kM1n, kM2, kM2n⟩ := kMel hMe
  obtain ⟨kR, ⟨kR1, kR1n⟩, ⟨kR2, kR2n⟩, ⟨kR3, kR3n⟩, ⟨kR4, kR4n⟩⟩ := kTri hR
  obtain ⟨⟨kS, kSn⟩, kSs⟩ := kRow hS
  obtain ⟨em0, em1⟩ := hr.mel
  obtain ⟨et0, et1, et2, et3⟩ := hr.tri
  have erow := hr.row
  obtain ⟨hn40, hn1, hn2, hnk⟩ := id hm
  obtain ⟨ht6, ht1, ht2, htk⟩ := id ht
  obtain ⟨hc12, hc2e⟩ := id hc2
  obtain ⟨hs3, hsw, hsr, hss, hsg, hse, hse0⟩ := id hst
  obtain ⟨m, hm8, hm1, hm2, hmk⟩ := id hcr
  unfold fX8_ends fX9_ends
  rw [isW, in9 0 1 (L := 0) (H := 1) rfl rfl, ob, ob]
  by_cases h : 0 ≤ p1 ∧ p1 ≤ 1
  · rw [ifz1 h, ifz1 h, gR1 0 8, o0_9, ob, gI1 94 0, ob, hm1, gI2, ob, hm2, ob]
    by_cases h0 : m = 0
    · subst h0
      rw [if_pos nI_0, if_pos nI_0]
      exact ⟨_, σ1, σ2, rfl, rfl, ⟨M, M', R, R', S, S', n, c, t, hC⟩⟩
    · have hp : 0 < m := by omega
      obtain ⟨α1, a1, a2, a3, a4⟩ := acpN (T := kT1) (σ := σ1) (a0 := 95) (a1 := 96) (L := 8) rfl rfl rfl rfl (by decide)
      replace a1 : acp kT1 σ1 95 0 96 0 8 = some α1 := a1
      obtain ⟨α2, b1, b2, b3, -, b5⟩ := ends_L26 (ex := fun u9 => fX9_ends_L59 kT2 0 (fun x34 x35 u36 => if p1 = 0 then (some (x35, u36)) else (some (x34, u36))) 6000 (0 : Int32) (0 : Int32) (1 : Int32) u9) hm8 m 0 6000 σ2 (by omega) (by omega) hm2 w34 w33
      rw [nI_0] at b1
      have cx : ∀ j, j < m → α1.1 96 j = α2.1 20 j := fun j hj => by rw [a4 j (by omega), b5 j (Nat.zero_le j) hj]; exact (hmk j hj).1
      have em := ev_mean (σ := α1) (m := m) (by rw [a3 94 (by decide)]; exact hm1) (by rw [a2]; exact o94_1) hm8 hp
      rw [smm_cong m cx] at em
      obtain ⟨υ1, υ2, rt, rm, z1, z2, z3, z4, z5, z6, z7, z8, z9⟩ := ends_L (ex := fun x34 x35 u36 => if p1 = 0 then (some (x35, u36)) else (some (x34, u36))) hm8 hp 2400 6000 6000 0 (-1200) 1200 0 (wI (wI α1 94 3 (smm (α2.1 20) m / nI m)) 94 4 0) α2 (by omega) (by omega) (by omega) (by omega) (by omega) (by omega) (by rw [wIk (by decide), wIk (by decide), a3 94 (by decide)]; exact hm1) (by rw [wrr, wrr, a2]; exact o94_1) (by rw [b3 0 (by decide)]; exact hm2) (by rw [b2]; exact w34) (by rw [wIe, nI_0]) (by rw [wIk (by decide), wIe]) (fun j hj => ⟨by rw [wIn (by decide), wIn (by decide)]; exact cx j hj, by rw [b5 j (Nat.zero_le j) hj]; exact (hmk j hj).2⟩)
      rw [nI_0] at z2
      have e9 : υ1.2.2 0 9 = some 94 := by rw [z5, wrr, wrr, a2]; exact o0_9
      have hset : fX0_settle kT1 94 σ1 = some υ1 := by
        unfold fX0_settle
        rw [gR1 94 0, o94_0, ob, gR1 94 0, o94_1, ob, a1, ob, vC1 94 0, em, ob, pI1 94 0, ob, pI1 94 0, ob]
        exact z1
      rw [if_neg (nI_ne0 hp (by omega)), if_neg (nI_ne0 hp (by omega)), vC1 94 0, hset, ob, b1, z2]
      have hok : pCpl M M' R R' S S' n c t υ1 υ2 := by
        refine hC.fr (z5.trans a2) (by rw [z6, b2]) (fun a k hs => ?_) (fun b k hs => ?_)
        · unfold sc1 at hs
          by_cases e : a = 94
          · subst e
            have : k = 2 := by omega
            subst this
            rw [z8, wIk (by decide), wIk (by decide), a3 94 (by decide)]
          · rw [z7 a e (by omega), wIn e, wIn e, a3 a (by omega)]
        · unfold sc2 at hs
          rw [z9 b (by omega), b3 b (by omega)]
      by_cases hq : p1 = 0
      · rw [if_pos hq, if_pos hq, gR1 0 8, e9, ob, gI1 94 0, ob, z3]
        exact ⟨_, υ1, υ2, rfl, rfl, M, M', R, R', S, S', n, c, t, hok⟩
      · rw [if_neg hq, if_neg hq, gR1 0 8, e9, ob, gI1 94 0, ob, z4]
        exact ⟨_, υ1, υ2, rfl, rfl, M, M', R, R', S, S', n, c, t, hok⟩
  · rw [ifz0 h, ifz0 h]
    exact ⟨_, σ1, σ2, rfl, rfl, ⟨M, M', R, R', S, S', n, c, t, hC⟩⟩
