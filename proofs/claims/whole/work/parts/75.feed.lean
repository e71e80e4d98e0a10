/-! TEXTS: what is fed -/
theorem fb_tw (x : Int32) : vp_nar .byte x.toInt8.toInt32 = x.toInt8.toInt32 := by
  show x.toInt8.toInt32.toInt8.toInt32 = x.toInt8.toInt32
  rw [Int8.toInt8_toInt32]
theorem by8 (x : BitVec 64) (s : Nat) (hs : s ≤ 56) : (x >>> s).setWidth 8 = ((x.sshiftRight s) &&& 255#64).setWidth 8 := by
  apply BitVec.eq_of_getLsbD_eq
  intro i hi
  have h255 : (255#64).getLsbD i = true := by
    revert i
    decide
  simp only [BitVec.getLsbD_setWidth, BitVec.getLsbD_ushiftRight, BitVec.getLsbD_and, BitVec.getLsbD_sshiftRight, h255]
  simp [show ¬ 64 ≤ i by omega, show s + i < 64 by omega]
theorem sE {m n : Nat} (x : BitVec n) (h : m ≤ n) : x.signExtend m = x.setWidth m := BitVec.signExtend_eq_setWidth_of_le x h
theorem lo8 (x : BitVec 64) : 0 ≤ ((x &&& 255#64).signExtend 32).toInt ∧ ((x &&& 255#64).signExtend 32).toInt ≤ 255 := by
  rw [sE _ (by decide)]
  have h : ((x &&& 255#64).setWidth 32).toNat ≤ 255 := by
    rw [BitVec.toNat_setWidth, BitVec.toNat_and]
    have : x.toNat &&& (255#64).toNat ≤ 255 := Nat.and_le_right
    omega
  rw [BitVec.toInt_eq_toNat_of_lt (by omega)]
  omega
theorem feed_byte (c : Int64) : ∀ j, j < 8 → vp_nar .byte ((((c.toUInt64 >>> (((8 : Int32) * nI j).toInt64.toUInt64 &&& Int64.toUInt64 63)).toInt64).toInt32).toInt8.toInt32) = (((c >>> (((8 : Int32) * nI j).toInt64 &&& 63)) &&& (255 : Int64)).toInt32).toInt8.toInt32 ∧ 0 ≤ (((c >>> (((8 : Int32) * nI j).toInt64 &&& 63)) &&& (255 : Int64)).toInt32).toInt ∧ (((c >>> (((8 : Int32) * nI j).toInt64 &&& 63)) &&& (255 : Int64)).toInt32).toInt ≤ 255 := by
  intro j hj
  have e1 : ∀ x : Int32, vp_nar .byte x.toInt8.toInt32 = x.toInt8.toInt32 := fun x => fb_tw x
  rw [e1]
  have e2 : ((c.toUInt64 >>> (((8 : Int32) * nI j).toInt64.toUInt64 &&& Int64.toUInt64 63)).toInt64).toInt32.toInt8 = (((c >>> (((8 : Int32) * nI j).toInt64 &&& 63)) &&& (255 : Int64)).toInt32).toInt8 := by
    apply Int8.toBitVec_inj.mp
    have q := by8 c.toBitVec (8 * j) (by omega)
    show BitVec.signExtend 8 (BitVec.signExtend 32 _) = BitVec.signExtend 8 (BitVec.signExtend 32 _)
    rw [sE _ (by decide), sE _ (by decide), sE _ (by decide), sE _ (by decide), BitVec.setWidth_setWidth_of_le _ (by decide), BitVec.setWidth_setWidth_of_le _ (by decide)]
    match j, hj with
    | 0, _ => exact q
    | 1, _ => exact q
    | 2, _ => exact q
    | 3, _ => exact q
    | 4, _ => exact q
    | 5, _ => exact q
    | 6, _ => exact q
    | 7, _ => exact q
  exact ⟨by rw [e2], lo8 _⟩
theorem feed_L {M M' R R' S S' n c t : Nat} {p2 : Int64} : ∀ (m fuel w : Nat) (v : Int32) (σ1 σ2 : hM), m ≤ 8 → m < fuel → w + m ≤ 400 → v = nI m - 1 → pCpl M M' R R' S S' n c t σ1 σ2 → σ2.1 0 13 = nI w → ∃ (r : Int32) (σ1b σ2b : hM), fX8_feed_L36 kT1 0 p2 (fun (u8 : hM) => (gtr kT1 u8 0 8 0).bind fun a9 => (gti kT1 u8 a9 6 1).bind fun x10 => some (x10, u8)) fuel v σ1 = some (r, σ1b) ∧ fX9_feed_L35 kT2 0 p2 (fun (u10 : hM) => (gti kT2 u10 0 9 13).bind fun x11 => some (x11, u10)) fuel v σ2 = some (r, σ2b) ∧ pCpl M M' R R' S S' n c t σ1b σ2b := by
  intro m
  induction m with
  | zero =>
    intro fuel w v σ1 σ2 h8 hf hw ev hC e13
    obtain ⟨f, rfl⟩ : ∃ f, fuel = f + 1 := ⟨fuel - 1, by omega⟩
    obtain ⟨hr, hf2, ⟨w', hw', hw1, hw2, hwk, hfa⟩, -⟩ := id hC
    obtain ⟨hMe, hR, hS, e01, e02, e03, e04, e05, e322, ⟨o0_0, o0_6, o0_7, o0_8, o0_9, o0_10, o0_12, o0_13, o1_0, o32_0, o32_1, o33_0, o98_0, o94_0, o94_1, o84_0, o84_1, o49_0, o49_1, o50_0, o51_0, o50_1, o50_2, o67_0, o68_0, o67_1, o67_2, o3_0, o3_1, o6_0, o6_1, o9_0, o9_1, o9_2, o9_3, o14_0, o14_1, o14_2, o14_3⟩, hrow, hodd⟩ := id hr
    have hv : v < 0 := by rw [ev]; decide
    rw [fX8_feed_L36, fX9_feed_L35, if_pos hv, if_pos hv, gR1 0 8, o0_0, ob, gI1 1 6, ob, gI2, ob, hw1, hw2]
    exact ⟨_, σ1, σ2, rfl, rfl, hC⟩
  | succ m ih =>
    intro fuel w v σ1 σ2 h8 hf hw ev hC e13
    obtain ⟨f, rfl⟩ : ∃ f, fuel = f + 1 := ⟨fuel - 1, by omega⟩
    obtain ⟨hr, hf2, ⟨w', hw', hw1, hw2, hwk, hfa⟩, hm, hc2, ht, hst, hcr, hb, hi0, hi1⟩ := id hC
    obtain ⟨hMe, hR, hS, e01, e02, e03, e04, e05, e322, ⟨o0_0, o0_6, o0_7, o0_8, o0_9, o0_10, o0_12, o0_13, o1_0, o32_0, o32_1, o33_0, o98_0, o94_0, o94_1, o84_0, o84_1, o49_0, o49_1, o50_0, o51_0, o50_1, o50_2, o67_0, o68_0, o67_1, o67_2, o3_0, o3_1, o6_0, o6_1, o9_0, o9_1, o9_2, o9_3, o14_0, o14_1, o14_2, o14_3⟩, hrow, hodd⟩ := id hr
    obtain ⟨w1, w2, w4, w6, w7, w8, w10, w12, w21, w22, w24, w25, w26, w27, w28, w29, w30, w31, w33, w34, w36, w37, w38⟩ := id hf2
    have ew : w' = w := (nI_eq (by omega) (by omega)).mp (hw2.symm.trans e13)
    subst ew
    have ev' : v = nI m := by rw [ev]; exact nI_pred m
    subst ev'
    obtain ⟨b1, b2, b3⟩ := feed_byte p2 m (by omega)
    have h400 : nI w' < 400 := nI_lt (b := 400) (by omega) (by decide)
    have em : nI m + (-1) = nI m - 1 := by grind
    have hc12 := hc2.1
    have sb : ∀ x : Int32, astb kT1 σ1 2 (nI w') x = some (wI σ1 2 w' (vp_nar .byte x)) := fun x => sB 400 rfl rfl (by omega) (by decide)
    rw [fX8_feed_L36, fX9_feed_L35, if_neg (nI_pos (by omega)), if_neg (nI_pos (by omega)), gR1 0 8, o0_0, ob, vC1 1 6]
    unfold fX6_add
    rw [gI1 1 6, ob, hw1, if_pos h400, gR1 1 6, o1_0, ob, ob, sb, ob, gI1 1 6, ob, wIn (show 1 ≠ 2 by decide), hw1, nI_1, pI1 1 6, ob, ob]
    rw [gR2, w12, ob, gI2, ob, hw2, sA2 8 400 (k := w') (by omega), ob, gI2, ob, wIn (show 0 ≠ 8 by decide), hw2, nI_1, pI2, ob]
    simp only [iflt, em]
    refine ih f (w' + 1) _ _ _ (by omega) (by omega) (by omega) rfl ?_ wIe
    refine ⟨hr, hf2, ?_, (((hm.w1 (by omega)).w1 (by omega)).w2 (by omega)).w2 (by omega), ⟨hc12, by rw [wIk (by omega), wIk (by omega)]; exact hc2.2⟩, (((ht.w1 (by omega)).w1 (by omega)).w2 (by omega)).w2 (by omega), (((hst.w1 hc12 (by omega)).w1 hc12 (by omega)).w2 (by omega)).w2 (by omega), (((hcr.w1 (by omega)).w1 (by omega)).w2 (by omega)).w2 (by omega), (((hb.w1 (by omega)).w1 (by omega)).w2 (by omega)).w2 (by omega), (((hi0.w1 hc12 (by omega)).w1 hc12 (by omega)).w2 (by omega)).w2 (by omega), (((hi1.w1 hc12 (by omega)).w1 hc12 (by omega)).w2 (by omega)).w2 (by omega)⟩
    refine ⟨w' + 1, by omega, wIe, wIe, fun k hk => ?_, by rw [wIk (by omega), wIk (by omega), wIk (by omega), wIk (by omega)]; exact hfa⟩
    rw [wIn (show 2 ≠ 1 by decide), wIn (show 8 ≠ 0 by decide), wIs, wIs]
    by_cases e : k = w'
    · rw [if_pos e, if_pos e]
      exact ⟨b1, b2, b3⟩
    · rw [if_neg e, if_neg e]
      exact hwk k (by omega)
theorem s_feed : st_feed Cpl := by
  intro σ1 σ2 hC p1 p2
  obtain ⟨M, M', R, R', S, S', n, c, t, hC⟩ := hC
  have hQ := hC
  obtain ⟨hr, hf2, hT, hm, hc2, ht, hst, hcr, hb, hi0, hi1⟩ := hQ
  have hr0 := hr
  have hf20 := hf2
  obtain ⟨hMe, hR, hS, e01, e02, e03, e04, e05, e322, ⟨o0_0, o0_6, o0_7, o0_8, o0_9, o0_10, o0_12, o0_13, o1_0, o32_0, o32_1, o33_0, o98_0, o94_0, o94_1, o84_0, o84_1, o49_0, o49_1, o50_0, o51_0, o50_1, o50_2, o67_0, o68_0, o67_1, o67_2, o3_0, o3_1, o6_0, o6_1, o9_0, o9_1, o9_2, o9_3, o14_0, o14_1, o14_2, o14_3⟩, hrow, hodd⟩ := hr0
  obtain ⟨w1, w2, w4, w6, w7, w8, w10, w12, w21, w22, w24, w25, w26, w27, w28, w29, w30, w31, w33, w34, w36, w37, w38⟩ := hf20
  obtain ⟨kM, kM1, kM1n, kM2, kM2n⟩ := kMel hMe
  obtain ⟨kR, ⟨kR1, kR1n⟩, ⟨kR2, kR2n⟩, ⟨kR3, kR3n⟩, ⟨kR4, kR4n⟩⟩ := kTri hR
  obtain ⟨⟨kS, kSn⟩, kSs⟩ := kRow hS
  obtain ⟨em0, em1⟩ := hr.mel
  obtain ⟨et0, et1, et2, et3⟩ := hr.tri
  have erow := hr.row
  obtain ⟨hn40, hn1, hn2, hnk⟩ := id hm
  obtain ⟨ht6, ht1, ht2, htk⟩ := id ht
  obtain ⟨hc12, hc2e⟩ := id hc2
  obtain ⟨hs3, hsw, hsr, hss, hsg, hse, hse0⟩ := id hst
  obtain ⟨w, hw, hw1, hw2, hwk, hfa⟩ := id hT
  unfold fX8_feed fX9_feed
  rw [isW, in9 1 8 (L := 1) (H := 8) rfl rfl, ob, ob]
  by_cases h : 1 ≤ p1 ∧ p1 ≤ 8
  · obtain ⟨m, hm1, hm8, rfl⟩ := (inAB 1 8 rfl rfl (by decide) (by decide)).mp h
    rw [ifz1 h, ifz1 h, gR1 0 8, o0_0, ob, gI1 1 6, ob, gI2, ob, hw1, hw2, nI_add]
    by_cases hle : w + m ≤ 400
    · have h4 : nI (w + m) ≤ 400 := nI_le (b := 400) hle (by decide)
      rw [if_pos h4, if_pos h4]
      simp only [iflt]
      obtain ⟨r, x, y, a, b, d⟩ := feed_L (p2 := p2) m 6000 w _ σ1 σ2 hm8 (by omega) hle rfl hC hw2
      exact ⟨r, x, y, a, b, M, M', R, R', S, S', n, c, t, d⟩
    · have h4 : ¬ nI (w + m) ≤ 400 := nI_ge (a := 400) (by omega) (by omega)
      rw [if_neg h4, if_neg h4]
      exact ⟨_, σ1, σ2, rfl, rfl, ⟨M, M', R, R', S, S', n, c, t, hC⟩⟩
  · rw [ifz0 h, ifz0 h]
    exact ⟨_, σ1, σ2, rfl, rfl, ⟨M, M', R, R', S, S', n, c, t, hC⟩⟩
