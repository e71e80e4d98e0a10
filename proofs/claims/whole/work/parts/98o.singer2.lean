theorem sub_v {x y : Int32} (hx : 0 ≤ x.toInt ∧ x.toInt ≤ 1000) (hy : 0 ≤ y.toInt ∧ y.toInt ≤ 1000) : (x - y).toInt = x.toInt - y.toInt := by rw [Int32.toInt_sub, fbm (by omega) (by omega)]
theorem le_v {x y : Int32} (h : x ≤ y) : x.toInt ≤ y.toInt := Int32.le_iff_toInt_le.mp h
theorem read_both {τ τ2 υ : hM} {w : Nat} {t : Nat → Nat} {a F A' m : Nat} {V : Int32} (kA : kd kT1 A' (3 + 1)) (hA : 2 < A') (hm : m < 12) (w24 : υ.2.2 0 24 = some 11) (hk : fX6_readWord kT1 1 2 τ = some (V, τ2)) (h : jR (wI τ2 A' 0 V) υ w t a F) : ∃ (F9 a9 : Nat) (τ9 υ9 : hM), fX3_readFrom kT1 A' 1 τ = some τ9 ∧ (F = 0 → ∀ (υ0 υ1 υ2 : hM) (E1 E2 kd : Nat), fX9_readWord kT2 0 υ0 = some υ1 → υ1.2.1 0 16 = lN (cdl [115, 105, 110, 103, 101, 114]) → υ1.1 0 20 = nI m → υ1.1 0 17 = nI E1 → fX9_readWord kT2 0 (wI υ1 0 15 (nI E1)) = some υ2 → υ2.1 0 20 = nI m → υ2.2.2 0 24 = some 11 → fX9_kindOf kT2 0 υ2 = some (nI kd, υ2) → kd < 8 → υ2.1 0 17 = nI E2 → υ = wI (wI υ2 11 (8 * m) (nI kd)) 0 15 (nI E2) → fX9_takeSinger kT2 0 υ0 = some (nI F9, υ9)) ∧ (F ≠ 0 → F9 = F ∧ υ9 = υ) ∧ (τ9.2.2 = τ2.2.2 ∧ ∀ x, x ≠ 1 → x ≠ A' → τ9.1 x = τ2.1 x) ∧ (υ9.2.2 = υ.2.2 ∧ (∀ x, x ≠ 0 → x ≠ 11 → υ9.1 x = υ.1 x) ∧ (∀ j, (j < 8 * m ∨ 8 * m + 8 ≤ j) → υ9.1 11 j = υ.1 11 j) ∧ ∀ j, (j < 14 ∨ 23 < j) → υ9.1 0 j = υ.1 0 j) ∧ jR τ9 υ9 w t a9 F9 ∧ (F9 = 0 → υ.1 0 20 = nI m → a < a9 ∧ υ9.1 0 20 = nI (m + 1) ∧ υ9.1 11 (8 * m) = υ.1 11 (8 * m) ∧ (∀ j, j < 8 → 0 < j → τ9.1 A' j = υ9.1 11 (8 * m + j)) ∧ τ9.1 A' 0 = V ∧ (0 ≤ V.toInt ∧ V.toInt ≤ 7 → υ.1 11 (8 * m) = V → sOk (fun j => υ9.1 11 (8 * m + j)))) := by
  have ix : ∀ (j : Nat) (y : Int32), y = nI j → nI (8 * m) + y = nI (8 * m + j) := fun j y hy => by rw [hy, nI_add]
  have k11 : kd kT2 11 11 := rfl
  have l11 : kl kT2 11 96 := rfl
  obtain ⟨v1, τ3, υ3, F3, a3, n1, i1, j1, f1, g1, q1, r1, s1⟩ := into_any (lo := 0) (hi := 99) (i := nI (8 * m) + 1) (ri := 24) (r := 11) (idx := 8 * m + 1) (L := 96) (by decide) h w24 k11 l11 (by omega) (by decide) (by decide) (by decide) (ix 1 1 rfl)
  obtain ⟨v2, τ4, υ4, F4, a4, n2, i2, j2, f2, g2, q2, r2, s2⟩ := into_any (lo := 0) (hi := 99) (i := nI (8 * m) + 2) (ri := 24) (r := 11) (idx := 8 * m + 2) (L := 96) (by decide) (q1.o1 (x := A') (j := 1) (v := v1) (by omega) (by omega)) (by rw [g1.1]; exact w24) k11 l11 (by omega) (by decide) (by decide) (by decide) (ix 2 2 rfl)
  obtain ⟨v3, τ5, υ5, F5, a5, n3, i3, j3, f3, g3, q3, r3, s3⟩ := into_any (lo := 0) (hi := 99) (i := nI (8 * m) + 3) (ri := 24) (r := 11) (idx := 8 * m + 3) (L := 96) (by decide) (q2.o1 (x := A') (j := 2) (v := v2 - 50) (by omega) (by omega)) (by rw [g2.1, g1.1]; exact w24) k11 l11 (by omega) (by decide) (by decide) (by decide) (ix 3 3 rfl)
  obtain ⟨v4, τ6, υ6, F6, a6, n4, i4, j4, f4, g4, q4, r4, s4⟩ := into_any (lo := 1) (hi := 40) (i := nI (8 * m) + 4) (ri := 24) (r := 11) (idx := 8 * m + 4) (L := 96) (by decide) (q3.o1 (x := A') (j := 3) (v := v3) (by omega) (by omega)) (by rw [g3.1, g2.1, g1.1]; exact w24) k11 l11 (by omega) (by decide) (by decide) (by decide) (ix 4 4 rfl)
  obtain ⟨v5, τ7, υ7, F7, a7, n5, i5, j5, f5, g5, q5, r5, s5⟩ := into_any (lo := 0) (hi := 36) (i := nI (8 * m) + 5) (ri := 24) (r := 11) (idx := 8 * m + 5) (L := 96) (by decide) (q4.o1 (x := A') (j := 4) (v := v4) (by omega) (by omega)) (by rw [g4.1, g3.1, g2.1, g1.1]; exact w24) k11 l11 (by omega) (by decide) (by decide) (by decide) (ix 5 5 rfl)
  obtain ⟨v6, τ8, υ8, F8, a8, n6, i6, j6, f6, g6, q6, r6, s6⟩ := into_any (lo := 0) (hi := 36) (i := nI (8 * m) + 6) (ri := 24) (r := 11) (idx := 8 * m + 6) (L := 96) (by decide) (q5.o1 (x := A') (j := 5) (v := v5) (by omega) (by omega)) (by rw [g5.1, g4.1, g3.1, g2.1, g1.1]; exact w24) k11 l11 (by omega) (by decide) (by decide) (by decide) (ix 6 6 rfl)
  have w24' : υ8.2.2 0 24 = some 11 := by rw [g6.1, g5.1, g4.1, g3.1, g2.1, g1.1]; exact w24
  obtain ⟨τc, υc, Fc, jc1, jc2, fc, gc, qc, rc, sc⟩ := clash_any (v5 := v5) (v6 := v6) (i := nI (8 * m) + 5) (idx := 8 * m + 5) (L := 96) (r := 11) (q6.o1 (x := A') (j := 6) (v := v6) (by omega) (by omega)) w24' k11 l11 (by omega) (by decide) (ix 5 5 rfl) (fun e => by
    obtain ⟨y0, y1, y2, y3, y4, y5, y6⟩ := r6 e
    obtain ⟨x0, x1, x2, -⟩ := r5 y0
    exact ⟨by rw [g6.2.2.1 _ (by omega)]; exact x2, y5, by rw [wIn (by omega)]; exact y6⟩)
  obtain ⟨v7, τd, υd, Fd, ad, n7, i7, j7, f7, g7, q7, r7, s7⟩ := into_any (lo := 0) (hi := 40) (i := nI (8 * m) + 7) (ri := 24) (r := 11) (idx := 8 * m + 7) (L := 96) (by decide) qc (by rw [gc.1]; exact w24') k11 l11 (by omega) (by decide) (by decide) (by decide) (ix 7 7 rfl)
  have wd24 : υd.2.2 0 24 = some 11 := by rw [g7.1, gc.1]; exact w24'
  have q7' := q7.o1 (x := A') (j := 7) (v := v7 - 20) (by omega) (by omega)
  have nA : A' ≠ 1 := by omega
  -- the class's low and high when they are compared
  have lo5 : (wI τ8 A' 6 v6).1 A' 5 = v5 := by rw [wIk (by omega), f6.2 A' nA, wIe]
  have hd5 := q7.lt5
  -- the memory of the reference behind the numbers
  have ue : jR (wI τd A' 7 (v7 - 20)) (wI (wI (wI υd 11 (8 * m + 2) (υd.1 11 (8 * m + 2) - 50)) 11 (8 * m + 7) (υd.1 11 (8 * m + 7) - 20)) 0 20 (nI (m + 1))) w t ad Fd := ((q7'.o2 (by decide) (by omega)).o2 (by decide) (by omega)).o2 (by decide) (by omega)
  have cls : ∀ τ', fX6_readSign kT1 1 59 (wI τd A' 7 (v7 - 20)) = some τ' → fX3_readFrom kT1 A' 1 τ = some τ' := by
    intro τ' hs
    unfold fX3_readFrom
    rw [vC1 1 6, hk, ob, pI kA, ob, vC1 1 6, n1, ob, pI kA, ob, vC1 1 6, n2, ob, pI kA, ob, vC1 1 6, n3, ob, pI kA, ob, vC1 1 6, n4, ob, pI kA, ob, vC1 1 6, n5, ob, pI kA, ob, vC1 1 6, n6, ob, pI kA, ob, gI kA, ob, wIe, gI kA, ob, lo5, jc1, vC1 1 6, n7, ob, pI kA, ob, vC1 1 6, hs, ob]
  have tA : ∀ τ', F1 (wI τd A' 7 (v7 - 20)) τ' → (∀ x, x ≠ 1 → x ≠ A' → τ'.1 x = τ2.1 x) ∧ τ'.2.2 = τ2.2.2 := by
    intro τ' hf
    refine ⟨fun x h1 hx => ?_, ?_⟩
    · rw [hf.2 x h1, wIn hx, f7.2 x h1, fc.2 x h1, wIn hx, f6.2 x h1, wIn hx, f5.2 x h1, wIn hx, f4.2 x h1, wIn hx, f3.2 x h1, wIn hx, f2.2 x h1, wIn hx, f1.2 x h1, wIn hx]
    · rw [hf.1]
      show τd.2.2 = _
      rw [f7.1, fc.1]
      show τ8.2.2 = _
      rw [f6.1]
      show τ7.2.2 = _
      rw [f5.1]
      show τ6.2.2 = _
      rw [f4.1]
      show τ5.2.2 = _
      rw [f3.1]
      show τ4.2.2 = _
      rw [f2.1]
      show τ3.2.2 = _
      rw [f1.1]
      rfl
  have uA : (υd.2.2 = υ.2.2) ∧ (∀ x, x ≠ 0 → x ≠ 11 → υd.1 x = υ.1 x) ∧ (∀ j, (j < 8 * m + 1 ∨ 8 * m + 8 ≤ j) → υd.1 11 j = υ.1 11 j) ∧ ∀ j, (j < 14 ∨ 19 < j) → υd.1 0 j = υ.1 0 j := by
    refine ⟨by rw [g7.1, gc.1, g6.1, g5.1, g4.1, g3.1, g2.1, g1.1], fun x h0 h11 => by rw [g7.2.1 x h0 h11, gc.2.1 x h0, g6.2.1 x h0 h11, g5.2.1 x h0 h11, g4.2.1 x h0 h11, g3.2.1 x h0 h11, g2.2.1 x h0 h11, g1.2.1 x h0 h11], fun j hj => by rw [g7.2.2.1 j (by omega), gc.2.1 11 (by decide), g6.2.2.1 j (by omega), g5.2.2.1 j (by omega), g4.2.2.1 j (by omega), g3.2.2.1 j (by omega), g2.2.2.1 j (by omega), g1.2.2.1 j (by omega)], fun j hj => by rw [g7.2.2.2 j hj, gc.2.2 j hj, g6.2.2.2 j hj, g5.2.2.2 j hj, g4.2.2.2 j hj, g3.2.2.2 j hj, g2.2.2.2 j hj, g1.2.2.2 j hj]⟩
  have ref : F = 0 → ∀ (υ0 υ1 υ2 : hM) (E1 E2 kd : Nat) (G : Nat) (υ' : hM), fX9_readWord kT2 0 υ0 = some υ1 → υ1.2.1 0 16 = lN (cdl [115, 105, 110, 103, 101, 114]) → υ1.1 0 20 = nI m → υ1.1 0 17 = nI E1 → fX9_readWord kT2 0 (wI υ1 0 15 (nI E1)) = some υ2 → υ2.1 0 20 = nI m → υ2.2.2 0 24 = some 11 → fX9_kindOf kT2 0 υ2 = some (nI kd, υ2) → kd < 8 → υ2.1 0 17 = nI E2 → υ = wI (wI υ2 11 (8 * m) (nI kd)) 0 15 (nI E2) → ((Fd = 0 ∧ fX9_takeStop kT2 0 (wI (wI (wI υd 11 (8 * m + 2) (υd.1 11 (8 * m + 2) - 50)) 11 (8 * m + 7) (υd.1 11 (8 * m + 7) - 20)) 0 20 (nI (m + 1))) = some (nI G, υ')) ∨ (Fd ≠ 0 ∧ G = Fd ∧ υ' = wI (wI (wI υd 11 (8 * m + 2) (υd.1 11 (8 * m + 2) - 50)) 11 (8 * m + 7) (υd.1 11 (8 * m + 7) - 20)) 0 20 (nI (m + 1)))) → fX9_takeSinger kT2 0 υ0 = some (nI G, υ') := by
    intro hF υ0 υ1 υ2 E1 E2 kd' G υ' b1 b2 b3 b4 b5 b6 b6r b7 b8 b9 b10 hs
    subst hF
    have d20 : υd.1 0 20 = nI m := by
      rw [uA.2.2.2 20 (by omega), b10, wIk (by decide), wIn (by decide)]
      exact b6
    have i1' := i1 rfl
    rw [b10] at i1'
    unfold fX9_takeSinger
    rw [vC2, b1, ob, gL2, ob, b2, cd_sing_, ob, ev_longer cl_singe_, ob, ev_longer cl_singer_, ob, if_pos rfl, gI2, ob, b3, if_neg (show ¬ nI m = 12 from neI (b := 12) (by omega) (by decide) (by omega)), gI2, ob, b4, pI2, ob, vC2, b5, ob, gI2, ob, b6, mul_nI 8 8 rfl, iflt, gR2, b6r, ob, vC2, b7, ob, sA2 11 96 (k := 8 * m) (by omega), ob, gR2, wrr, b6r, ob, lA2 11 96 (k := 8 * m) (by omega), ob, wIe, if_pos (nI_pos' (by omega)), gI2, ob, wIn (show 0 ≠ 11 by decide), b9, pI2, ob, gR2, wrr, wrr, b6r, ob, vC2, i1', ob]
    rw [j2, j3, j4, j5, j6, jc2, j7]
    rw [gR2, wd24, ob, show nI (8 * m) + 2 = nI (8 * m + 2) from ix 2 2 rfl, lA2 11 96 (k := 8 * m + 2) (by omega), ob, sA2 11 96 (k := 8 * m + 2) (by omega), ob, gR2, wrr, wd24, ob, show nI (8 * m) + 7 = nI (8 * m + 7) from ix 7 7 rfl, lA2 11 96 (k := 8 * m + 7) (by omega), ob, wIk (show ¬ (11 = 11 ∧ 8 * m + 7 = 8 * m + 2) by omega), sA2 11 96 (k := 8 * m + 7) (by omega), ob, gI2, ob, wIn (show 0 ≠ 11 by decide), wIn (show 0 ≠ 11 by decide), d20, pI2, ob, nI_1]
    rcases hs with ⟨z1, z2⟩ | ⟨z1, z2, z3⟩
    · rw [z1, if_pos (show nI 0 ≤ 0 by decide), vC2, z2, ob]
    · rw [if_neg (nI_nle (by omega) (by omega)), z2, z3]
  have uF : ∀ υ', F2 (wI (wI (wI υd 11 (8 * m + 2) (υd.1 11 (8 * m + 2) - 50)) 11 (8 * m + 7) (υd.1 11 (8 * m + 7) - 20)) 0 20 (nI (m + 1))) υ' → (υ'.2.2 = υ.2.2) ∧ (∀ x, x ≠ 0 → x ≠ 11 → υ'.1 x = υ.1 x) ∧ (∀ j, (j < 8 * m + 1 ∨ 8 * m + 8 ≤ j) → υ'.1 11 j = υ.1 11 j) ∧ ∀ j, (j < 14 ∨ 23 < j) → υ'.1 0 j = υ.1 0 j := by
    intro υ' hf
    refine ⟨hf.1.trans uA.1, fun x h0 h11 => by rw [hf.2.1 x h0, wIn h0, wIn h11, wIn h11, uA.2.1 x h0 h11], fun j hj => by rw [hf.2.1 11 (by decide), wIn (by decide), wIk (by omega), wIk (by omega), uA.2.2.1 j hj], fun j hj => by rw [hf.2.2 j (by omega), wIk (by omega), wIn (by decide), wIn (by decide), uA.2.2.2 j (by omega)]⟩
  by_cases hFd : Fd = 0
  · obtain ⟨p7, p7a, p7b, p7c, p7d, -⟩ := r7 hFd
    obtain ⟨pc, pca⟩ := rc p7
    obtain ⟨p6, p6a, p6b, p6c, p6d, -⟩ := r6 pc
    obtain ⟨p5, p5a, p5b, p5c, p5d, -⟩ := r5 p6
    obtain ⟨p4, p4a, p4b, p4c, p4d, -⟩ := r4 p5
    obtain ⟨p3, p3a, p3b, p3c, p3d, -⟩ := r3 p4
    obtain ⟨p2, p2a, p2b, p2c, p2d, -⟩ := r2 p3
    obtain ⟨p1, p1a, p1b, p1c, p1d, -⟩ := r1 p2
    rw [hFd] at ue
    obtain ⟨τe, υe, G, ae, h1, h2, h3, h4, h5, h6⟩ := stop_both ue
    obtain ⟨tA1, tA2⟩ := tA τe h3
    obtain ⟨uF1, uF2, uF3, uF4⟩ := uF υe h4
    refine ⟨G, ae, τe, υe, cls τe h1, fun hF υ0 υ1 υ2 E1 E2 kd' b1 b2 b3 b4 b5 b6 b6r b7 b8 b9 b10 => ref hF υ0 υ1 υ2 E1 E2 kd' G υe b1 b2 b3 b4 b5 b6 b6r b7 b8 b9 b10 (Or.inl ⟨hFd, h2⟩), fun q => absurd p1 q, ⟨tA2, tA1⟩, ⟨uF1, uF2, fun j hj => uF3 j (by omega), uF4⟩, h5, fun hG h20 => ?_⟩
    have z1 : υd.1 11 (8 * m + 1) = v1 := by rw [g7.2.2.1 _ (by omega), gc.2.1 11 (by decide), g6.2.2.1 _ (by omega), g5.2.2.1 _ (by omega), g4.2.2.1 _ (by omega), g3.2.2.1 _ (by omega), g2.2.2.1 _ (by omega)]; exact p1b
    have z2 : υd.1 11 (8 * m + 2) = v2 := by rw [g7.2.2.1 _ (by omega), gc.2.1 11 (by decide), g6.2.2.1 _ (by omega), g5.2.2.1 _ (by omega), g4.2.2.1 _ (by omega), g3.2.2.1 _ (by omega)]; exact p2b
    have z3 : υd.1 11 (8 * m + 3) = v3 := by rw [g7.2.2.1 _ (by omega), gc.2.1 11 (by decide), g6.2.2.1 _ (by omega), g5.2.2.1 _ (by omega), g4.2.2.1 _ (by omega)]; exact p3b
    have z4 : υd.1 11 (8 * m + 4) = v4 := by rw [g7.2.2.1 _ (by omega), gc.2.1 11 (by decide), g6.2.2.1 _ (by omega), g5.2.2.1 _ (by omega)]; exact p4b
    have z5 : υd.1 11 (8 * m + 5) = v5 := by rw [g7.2.2.1 _ (by omega), gc.2.1 11 (by decide), g6.2.2.1 _ (by omega)]; exact p5b
    have z6 : υd.1 11 (8 * m + 6) = v6 := by rw [g7.2.2.1 _ (by omega), gc.2.1 11 (by decide)]; exact p6b
    have z7 : υd.1 11 (8 * m + 7) = v7 := p7b
    have E : ∀ j, υe.1 11 j = if j = 8 * m + 7 then v7 - 20 else if j = 8 * m + 2 then v2 - 50 else υd.1 11 j := by
      intro j
      rw [h4.2.1 11 (by decide), wIn (by decide), wIs, wIs, z7, z2]
    have y1 : υe.1 11 (8 * m + 1) = v1 := by rw [E, if_neg (by omega), if_neg (by omega), z1]
    have y2 : υe.1 11 (8 * m + 2) = v2 - 50 := by rw [E, if_neg (by omega), if_pos rfl]
    have y3 : υe.1 11 (8 * m + 3) = v3 := by rw [E, if_neg (by omega), if_neg (by omega), z3]
    have y4 : υe.1 11 (8 * m + 4) = v4 := by rw [E, if_neg (by omega), if_neg (by omega), z4]
    have y5 : υe.1 11 (8 * m + 5) = v5 := by rw [E, if_neg (by omega), if_neg (by omega), z5]
    have y6 : υe.1 11 (8 * m + 6) = v6 := by rw [E, if_neg (by omega), if_neg (by omega), z6]
    have y7 : υe.1 11 (8 * m + 7) = v7 - 20 := by rw [E, if_pos rfl]
    -- the class's fields
    have x7 : τe.1 A' 7 = v7 - 20 := by rw [h3.2 A' nA, wIe]
    have x6 : τe.1 A' 6 = v6 := by rw [h3.2 A' nA, wIk (by omega), f7.2 A' nA, fc.2 A' nA, wIe]
    have x5 : τe.1 A' 5 = v5 := by rw [h3.2 A' nA, wIk (by omega), f7.2 A' nA, fc.2 A' nA]; exact lo5
    have x4 : τe.1 A' 4 = v4 := by rw [h3.2 A' nA, wIk (by omega), f7.2 A' nA, fc.2 A' nA, wIk (by omega), f6.2 A' nA, wIk (by omega), f5.2 A' nA, wIe]
    have x3 : τe.1 A' 3 = v3 := by rw [h3.2 A' nA, wIk (by omega), f7.2 A' nA, fc.2 A' nA, wIk (by omega), f6.2 A' nA, wIk (by omega), f5.2 A' nA, wIk (by omega), f4.2 A' nA, wIe]
    have x2 : τe.1 A' 2 = v2 - 50 := by rw [h3.2 A' nA, wIk (by omega), f7.2 A' nA, fc.2 A' nA, wIk (by omega), f6.2 A' nA, wIk (by omega), f5.2 A' nA, wIk (by omega), f4.2 A' nA, wIk (by omega), f3.2 A' nA, wIe]
    have x1 : τe.1 A' 1 = v1 := by rw [h3.2 A' nA, wIk (by omega), f7.2 A' nA, fc.2 A' nA, wIk (by omega), f6.2 A' nA, wIk (by omega), f5.2 A' nA, wIk (by omega), f4.2 A' nA, wIk (by omega), f3.2 A' nA, wIk (by omega), f2.2 A' nA, wIe]
    have x0 : τe.1 A' 0 = V := by rw [h3.2 A' nA, wIk (by omega), f7.2 A' nA, fc.2 A' nA, wIk (by omega), f6.2 A' nA, wIk (by omega), f5.2 A' nA, wIk (by omega), f4.2 A' nA, wIk (by omega), f3.2 A' nA, wIk (by omega), f2.2 A' nA, wIk (by omega), f1.2 A' nA, wIe]
    refine ⟨by have := h6 hG; omega, by rw [h4.2.2 20 (by omega), wIe], uF3 _ (by omega), ?_, x0, ?_⟩
    · intro j hj h0
      match j, hj, h0 with
      | 1, _, _ => rw [x1, y1]
      | 2, _, _ => rw [x2, y2]
      | 3, _, _ => rw [x3, y3]
      | 4, _, _ => rw [x4, y4]
      | 5, _, _ => rw [x5, y5]
      | 6, _, _ => rw [x6, y6]
      | 7, _, _ => rw [x7, y7]
    · intro hV hV2
      have b1 := le_v p1c
      have b2 := le_v p1d
      have c1 := le_v p2c
      have c2 := le_v p2d
      have d1 := le_v p3c
      have d2 := le_v p3d
      have e1 := le_v p4c
      have e2 := le_v p4d
      have k1 := le_v p5c
      have k2 := le_v pca
      have k3 := le_v p6d
      have m1 := le_v p7c
      have m2 := le_v p7d
      replace b1 : 0 ≤ v1.toInt := b1
      replace b2 : v1.toInt ≤ 99 := b2
      replace c1 : 0 ≤ v2.toInt := c1
      replace c2 : v2.toInt ≤ 99 := c2
      replace d1 : 0 ≤ v3.toInt := d1
      replace d2 : v3.toInt ≤ 99 := d2
      replace e1 : 1 ≤ v4.toInt := e1
      replace e2 : v4.toInt ≤ 40 := e2
      replace k1 : 0 ≤ v5.toInt := k1
      replace k3 : v6.toInt ≤ 36 := k3
      replace m1 : 0 ≤ v7.toInt := m1
      replace m2 : v7.toInt ≤ 40 := m2
      have s50 := sub_v (x := v2) (y := 50) (by omega) (by decide)
      have s20 := sub_v (x := v7) (y := 20) (by omega) (by decide)
      rw [show (50 : Int32).toInt = 50 from rfl] at s50
      rw [show (20 : Int32).toInt = 20 from rfl] at s20
      have y0 : υe.1 11 (8 * m + 0) = V := by rw [Nat.add_zero, uF3 _ (by omega)]; exact hV2
      unfold sOk
      simp only [y0, y1, y2, y3, y4, y5, y6, y7, s50, s20]
      omega
  · obtain ⟨τe, h1, h2, h3⟩ := stop_F hFd ue
    obtain ⟨tA1, tA2⟩ := tA τe h2
    by_cases hF : F = 0
    · obtain ⟨uF1, uF2, uF3, uF4⟩ := uF _ F2.rfl
      exact ⟨Fd, ad, τe, _, cls τe h1, fun hF υ0 υ1 υ2 E1 E2 kd' b1 b2 b3 b4 b5 b6 b6r b7 b8 b9 b10 => ref hF υ0 υ1 υ2 E1 E2 kd' Fd _ b1 b2 b3 b4 b5 b6 b6r b7 b8 b9 b10 (Or.inr ⟨hFd, rfl, rfl⟩), fun q => absurd hF q, ⟨tA2, tA1⟩, ⟨uF1, uF2, fun j hj => uF3 j (by omega), uF4⟩, h3, fun q => absurd q hFd⟩
    · have e1 := s1 hF
      have e2 := s2 (by rw [e1.1]; exact hF)
      have e3 := s3 (by rw [e2.1, e1.1]; exact hF)
      have e4 := s4 (by rw [e3.1, e2.1, e1.1]; exact hF)
      have e5 := s5 (by rw [e4.1, e3.1, e2.1, e1.1]; exact hF)
      have e6 := s6 (by rw [e5.1, e4.1, e3.1, e2.1, e1.1]; exact hF)
      have ec := sc (by rw [e6.1, e5.1, e4.1, e3.1, e2.1, e1.1]; exact hF)
      have e7 := s7 (by rw [ec.1, e6.1, e5.1, e4.1, e3.1, e2.1, e1.1]; exact hF)
      have eF : Fd = F := by rw [e7.1, ec.1, e6.1, e5.1, e4.1, e3.1, e2.1, e1.1]
      have eU : υd = υ := by rw [e7.2, ec.2, e6.2, e5.2, e4.2, e3.2, e2.2, e1.2]
      obtain ⟨τe, h1, h2, h3⟩ := stop_F hFd q7'
      obtain ⟨tA1, tA2⟩ := tA τe h2
      rw [eF, eU] at h3
      exact ⟨F, ad, τe, υ, cls τe h1, fun q => absurd q hF, fun _ => ⟨rfl, rfl⟩, ⟨tA2, tA1⟩, ⟨rfl, fun _ _ _ => rfl, fun _ _ => rfl, fun _ _ => rfl⟩, h3, fun q => absurd q hF⟩
