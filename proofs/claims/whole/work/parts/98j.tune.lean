/-! TUNES -/
def nR (M' : Nat) (τ υ : hM) (m : Nat) : Prop := m ≤ 40 ∧ τ.1 M' 2 = nI m ∧ υ.1 0 20 = nI m ∧ ∀ k, k < m → τ.1 (M' + 1) k = 100 * υ.1 9 k ∧ (0 ≤ (υ.1 9 k).toInt ∧ (υ.1 9 k).toInt ≤ 36) ∧ τ.1 (M' + 2) k = υ.1 10 k ∧ (υ.1 10 k = 0 ∨ υ.1 10 k = 1)
def tG (M' : Nat) (τ υ : hM) : Prop := (kd kT1 M' (1 + 1) ∧ kd kT1 (M' + 1) 11 ∧ kl kT1 (M' + 1) 40 ∧ kd kT1 (M' + 2) 11 ∧ kl kT1 (M' + 2) 40 ∧ 3 ≤ M' ∧ M' ≤ 6) ∧ (τ.2.2 M' 0 = some (M' + 1) ∧ τ.2.2 M' 1 = some (M' + 2)) ∧ υ.2.2 0 21 = some 9 ∧ υ.2.2 0 22 = some 10
theorem ev_longer {u : hM} {d : Int32} {c c' : Int64} (h : 27 * c + d.toInt64 - 96 = c') : fX9_longer kT2 c d u = some (c', u) := by
  unfold fX9_longer
  rw [h]
theorem cd_note {u : hM} : fX9_code kT2 110 111 116 101 u = some (lN (cdl [110, 111, 116, 101]), u) := congrArg (fun x => some (x, u)) (by decide +kernel)
theorem cd_brea {u : hM} : fX9_code kT2 98 114 101 97 u = some (lN (cdl [98, 114, 101, 97]), u) := congrArg (fun x => some (x, u)) (by decide +kernel)
theorem cd_breat : 27 * lN (cdl [98, 114, 101, 97]) + (116 : Int32).toInt64 - 96 = lN (cdl [98, 114, 101, 97, 116]) := by decide +kernel
theorem cd_breath : 27 * lN (cdl [98, 114, 101, 97, 116]) + (104 : Int32).toInt64 - 96 = lN (cdl [98, 114, 101, 97, 116, 104]) := by decide +kernel
theorem nar_br {br : Int32} (h : br = 0 ∨ br = 1) : vp_nar .boolean br = br := by rcases h with rfl | rfl <;> decide
section TUNE
variable {τ υ : hM} {w M' : Nat} {t : Nat → Nat} {a i m : Nat} {br : Int32}
theorem nR.fr {τ' υ' : hM} (h : nR M' τ υ m) (f1 : ∀ x, M' ≤ x → x ≤ M' + 2 → τ'.1 x = τ.1 x) (g1 : υ'.1 9 = υ.1 9) (g2 : υ'.1 10 = υ.1 10) (g3 : υ'.1 0 20 = υ.1 0 20) : nR M' τ' υ' m := by
  unfold nR at h ⊢
  rw [f1 M' (by omega) (by omega), f1 (M' + 1) (by omega) (by omega), f1 (M' + 2) (by omega) (by omega), g1, g2, g3]
  exact h
theorem note_step (hG : tG M' τ υ) (h : jR τ υ w t a 0) (hlt : sk t w a < w) (hi : i < 400) (hn : nR M' τ υ m) (hb : br = 0 ∨ br = 1) : ∃ (F a' m' : Nat) (br' : Int32) (τ' υ' : hM), (∀ (ex : hM → Option hM) (f : Nat), fX1_readFrom_L13 kT1 M' 1 ex (f + 1) br (nI i) τ = fX1_readFrom_L13 kT1 M' 1 ex f br' (nI (i + 1)) τ') ∧ (∀ (ex : Int32 → hM → Option (Int32 × hM)) (g : Nat), fX9_tune_L19 kT2 0 ex (g + 1) 0 br υ = fX9_tune_L19 kT2 0 ex g (nI F) (υ'.1 0 23) υ') ∧ Fr1 M' (M' + 2) τ τ' ∧ Fr2 9 10 υ υ' ∧ jR τ' υ' w t a' F ∧ (F = 0 → sk t w a < a' ∧ nR M' τ' υ' m' ∧ br' = υ'.1 0 23 ∧ (br' = 0 ∨ br' = 1)) := by
  obtain ⟨⟨kM, kM1, lM1, kM2, lM2, hM3, hM6⟩, ⟨r0, r1⟩, w21, w22⟩ := hG
  obtain ⟨k, p, h1, h2, h3⟩ := h
  obtain ⟨hm40, hm1, hm2, hmk⟩ := id hn
  obtain ⟨τ0, a1, a2, a3⟩ := ev_isOver h1
  rw [if_pos (show 0 = 0 ∧ sk t w a < w from ⟨rfl, hlt⟩)] at a1
  obtain ⟨υ0, b1, b2, b3, b4, -⟩ := ev_here (h3 rfl)
  rw [if_pos hlt] at b1
  have h14 : υ0.1 0 14 = p := (b4 14 (by decide)).trans h2
  have ht256 := ((h3 rfl).1.2.2.2 _ hlt).2
  have skA := sk_sk (t := t) h1.2.1.1
  generalize sk t w a = A at *
  obtain ⟨τ1, υ1, E, c1, d1, c2, d2, d3, d4, d5, d6, hAE, hEw, hlet, c3, c4⟩ := word_both (i := 0) (by decide) skA a3 h14 b3
  have hw := h1.1.2.2.1
  have n400 : ¬ (400 : Int32) ≤ nI i := nI_ge (b := 400) hi (by decide)
  have nneg : ¬ nI (t A) < 0 := nI_pos (by omega)
  have f1 : F1 τ τ1 := a2.trans c2
  have f2 : F2 υ υ1 := b2.trans d2
  have s1 : τ1.1 M' 2 = nI m := by rw [f1.2 M' (by omega)]; exact hm1
  have s2 : υ1.1 0 20 = nI m := by rw [f2.2.2 20 (by omega)]; exact hm2
  have q0 : τ1.2.2 M' 0 = some (M' + 1) := by rw [f1.1]; exact r0
  have q1 : τ1.2.2 M' 1 = some (M' + 2) := by rw [f1.1]; exact r1
  have isN : υ1.2.1 0 16 = lN (cdl [110, 111, 116, 101]) ↔ tkl t A E = [110, 111, 116, 101] := word_is hAE hlet d6 rfl (by decide) (by decide +kernel)
  have isBr : υ1.2.1 0 16 = lN (cdl [98, 114, 101, 97, 116, 104]) ↔ tkl t A E = [98, 114, 101, 97, 116, 104] := word_is hAE hlet d6 rfl (by decide) (by decide +kernel)
  have wx : wix (tkl t A E) (wds 0) 0 = if tkl t A E = [110, 111, 116, 101] then nI 0 else if tkl t A E = [98, 114, 101, 97, 116, 104] then nI 1 else -1 := rfl
  -- the two loops, once the clause is known
  have fin : ∀ (F a' m' : Nat) (br' : Int32) (τ' υ' : hM), (∀ (ex : hM → Option hM) (f : Nat), fX1_readFrom_L13 kT1 M' 1 ex (f + 1) br (nI i) τ = fX1_readFrom_L13 kT1 M' 1 ex f br' (nI (i + 1)) τ') → fX9_takeNote kT2 0 br υ0 = some (nI F, υ') → Fr1 M' (M' + 2) τ τ' → Fr2 9 10 υ υ' → jR τ' υ' w t a' F → (F = 0 → A < a' ∧ nR M' τ' υ' m' ∧ br' = υ'.1 0 23 ∧ (br' = 0 ∨ br' = 1)) → ∃ (F a' m' : Nat) (br' : Int32) (τ' υ' : hM), (∀ (ex : hM → Option hM) (f : Nat), fX1_readFrom_L13 kT1 M' 1 ex (f + 1) br (nI i) τ = fX1_readFrom_L13 kT1 M' 1 ex f br' (nI (i + 1)) τ') ∧ (∀ (ex : Int32 → hM → Option (Int32 × hM)) (g : Nat), fX9_tune_L19 kT2 0 ex (g + 1) 0 br υ = fX9_tune_L19 kT2 0 ex g (nI F) (υ'.1 0 23) υ') ∧ Fr1 M' (M' + 2) τ τ' ∧ Fr2 9 10 υ υ' ∧ jR τ' υ' w t a' F ∧ (F = 0 → A < a' ∧ nR M' τ' υ' m' ∧ br' = υ'.1 0 23 ∧ (br' = 0 ∨ br' = 1)) := by
    intro F a' m' br' τ' υ' x1 x2 x3 x4 x5 x6
    refine ⟨F, a', m', br', τ', υ', x1, fun ex g => ?_, x3, x4, x5, x6⟩
    rw [fX9_tune_L19, if_pos rfl, vC2, b1, ob, if_neg nneg, vC2, x2, ob, gI2, ob]
  by_cases hN : tkl t A E = [110, 111, 116, 101]
  · have v0 : wix (tkl t A E) (wds 0) 0 = 0 := by rw [wx, if_pos hN, nI_0]
    have c4' := c4 (by rw [v0]; decide)
    rw [v0] at c1
    have hEl : E - A = 4 := by rw [← tkl_len (t := t), hN]; rfl
    by_cases h40 : m = 40
    · subst h40
      obtain ⟨τ2, e1, e2, e3⟩ := ev_blame (m := 3) (by decide) c4'
      rw [if_pos rfl, if_pos rfl] at e3
      have jr : jR τ2 (wI υ1 0 14 (nI A)) w t E 3 := ⟨_, _, e3, wIe, fun q => absurd q (by decide)⟩
      obtain ⟨τ3, g1, g2, g3⟩ := stop_F (by decide) jr
      refine fin 3 E 0 br τ3 (wI υ1 0 14 (nI A)) (fun ex f => ?_) ?_ ((f1.trans e2).trans g2).fr (f2.trans (F2.w (by omega))).fr g3 (fun q => absurd q (by decide))
      · rw [fX1_readFrom_L13, if_neg n400, vC1 1 6, a1, ob, if_pos (show ((0 : Int32), τ0).1 = 0 from rfl), vC1 1 6, c1, ob]
        simp only [iflt, nI_1]
        rw [if_neg (show ¬ (0 : Int32) = 1 by decide), gI kM, ob, s1, if_neg (show ¬ nI 40 < 40 by decide), vC1 1 6, show fX6_blame kT1 1 3 τ1 = some τ2 from e1, ob, vC1 1 6, g1, ob]
      · unfold fX9_takeNote
        rw [vC2, d1, ob, gL2, ob, cd_note, ob, if_pos (isN.mpr hN)]
        simp only [iflt, if_neg (show ¬ (1 : Int32) = 0 by decide)]
        rw [gI2, ob, s2, if_pos (show nI 40 = 40 from rfl), gI2, ob, d3.2.2, vC2, ev_fails, ob]
        rfl
    · have hm : m < 40 := by omega
      have jr1 : jR τ1 (wI (wI υ1 0 15 (nI E)) 0 23 0) w t E 0 := ⟨_, _, c4', by rw [wIk (by decide), wIk (by decide)]; exact d4, fun _ => (d3.at hEw).oth (by decide) (by omega)⟩
      obtain ⟨v, τ2, υ2, F, a', e1, e2, e3, e4, e5, e6, e7⟩ := num_both (lo := 0) (hi := 36) (by decide) jr1
      have t1 : τ2.1 M' 2 = nI m := by rw [e3.2 M' (by omega)]; exact s1
      have t2 : υ2.1 0 20 = nI m := by rw [e4.2.2 20 (by omega), wIk (by decide), wIk (by decide)]; exact s2
      have u1 : τ2.2.2 M' 1 = some (M' + 2) := by rw [e3.1]; exact q1
      have u21 : (wI (wI υ1 0 15 (nI E)) 0 23 0).2.2 0 21 = some 9 := by rw [wrr, wrr, f2.1]; exact w21
      have u22 : (wI υ2 9 m (υ2.1 0 18)).2.2 0 22 = some 10 := by rw [wrr, e4.1, wrr, wrr, f2.1]; exact w22
      have jr2 : jR (wI (wI (wI τ2 (M' + 1) m (100 * v)) (M' + 2) m br) M' 2 (nI (m + 1))) (wI (wI (wI υ2 9 m (υ2.1 0 18)) 10 m br) 0 20 (nI (m + 1))) w t a' F := ((((((e5.o1 (by omega) (by omega)).o1 (by omega) (by omega)).o1 (by omega) (by omega)).o2 (by decide) (by omega)).o2 (by decide) (by omega)).o2 (by decide) (by omega))
      have fr1 : Fr1 M' (M' + 2) τ (wI (wI (wI τ2 (M' + 1) m (100 * v)) (M' + 2) m br) M' 2 (nI (m + 1))) := ((((f1.trans e3).fr).trans (Fr1.w (by omega))).trans (Fr1.w (by omega))).trans (Fr1.w (by omega))
      have fr2 : Fr2 9 10 υ (wI (wI (wI υ2 9 m (υ2.1 0 18)) 10 m br) 0 20 (nI (m + 1))) := ((((((f2.fr).trans (Fr2.w0 (by omega))).trans (Fr2.w0 (by omega))).trans e4.fr).trans (Fr2.wr (Or.inl rfl) (by decide))).trans (Fr2.wr (Or.inr rfl) (by decide))).trans (Fr2.w0 (by omega))
      have b23 : υ2.1 0 23 = 0 := by rw [e4.2.2 23 (by omega), wIe]
      have pre1 : ∀ (ex : hM → Option hM) (f : Nat) (τ' : hM), fX6_readSign kT1 1 59 (wI (wI (wI τ2 (M' + 1) m (100 * v)) (M' + 2) m br) M' 2 (nI (m + 1))) = some τ' → fX1_readFrom_L13 kT1 M' 1 ex (f + 1) br (nI i) τ = fX1_readFrom_L13 kT1 M' 1 ex f 0 (nI (i + 1)) τ' := by
        intro ex f τ' hs
        rw [fX1_readFrom_L13, if_neg n400, vC1 1 6, a1, ob, if_pos (show ((0 : Int32), τ0).1 = 0 from rfl), vC1 1 6, c1, ob]
        simp only [iflt, nI_1]
        rw [if_neg (show ¬ (0 : Int32) = 1 by decide), gI kM, ob, s1, if_pos (show nI m < 40 from nI_lt (b := 40) hm (by decide)), gR kM, q0, ob, ob, vC1 1 6, e1, ob, sA 40 kM1 lM1 hm (by decide), ob, gR kM, wrr, u1, ob, gI kM, ob, wIn (by omega), t1, sA 40 kM2 lM2 hm (by decide), ob, gI kM, ob, wIn (by omega), wIn (by omega), t1, pI kM, ob, nI_1, vC1 1 6, hs, ob]
      have pre2 : ∀ (G : Nat) (υ' : hM), ((F = 0 ∧ fX9_takeStop kT2 0 (wI (wI (wI υ2 9 m (υ2.1 0 18)) 10 m br) 0 20 (nI (m + 1))) = some (nI G, υ')) ∨ (F ≠ 0 ∧ G = F ∧ υ' = wI (wI (wI υ2 9 m (υ2.1 0 18)) 10 m br) 0 20 (nI (m + 1)))) → fX9_takeNote kT2 0 br υ0 = some (nI G, υ') := by
        intro G υ' hs
        have hF5 := e5.lt5
        unfold fX9_takeNote
        rw [vC2, d1, ob, gL2, ob, cd_note, ob, if_pos (isN.mpr hN)]
        simp only [iflt, if_neg (show ¬ (1 : Int32) = 0 by decide)]
        have into : fX9_into kT2 0 9 (nI m) 0 36 (wI (wI υ1 0 15 (nI E)) 0 23 0) = some (nI F, wI υ2 9 m (υ2.1 0 18)) := by
          unfold fX9_into
          rw [vC2, e2, ob, gI2, ob, sA2 9 40 (k := m) hm, ob]
        have w20 : (wI (wI υ1 0 15 (nI E)) 0 23 0).1 0 20 = nI m := by rw [wIk (by decide), wIk (by decide)]; exact s2
        rw [gI2, ob, s2, if_neg (show ¬ nI m = 40 from neI (b := 40) (by omega) (by decide) h40), gI2, ob, d5, pI2, ob, pZ2 (Or.inl rfl), ob, gR2, u21, ob, gI2, ob, w20, vC2, into, ob, gR2, u22, ob, gI2, ob, wIn (show 0 ≠ 9 by decide), t2, sZ2 10 40 (k := m) hm, nar_br hb, ob, gI2, ob, wIn (show 0 ≠ 10 by decide), wIn (show 0 ≠ 9 by decide), t2, pI2, ob, nI_1]
        rcases hs with ⟨z1, z2⟩ | ⟨z1, z2, z3⟩
        · rw [z1, if_pos (show nI 0 ≤ 0 by decide), vC2, z2, ob]
        · rw [if_neg (nI_nle (by omega) (by omega)), z2, z3]
      by_cases hF : F = 0
      · obtain ⟨y1, y2, y3, y4⟩ := e7 hF
        subst hF
        obtain ⟨τ3, υ3, G, a'', g1, g2, g3, g4, g5, g6⟩ := stop_both jr2
        refine fin G a'' (m + 1) 0 τ3 υ3 (fun ex f => pre1 ex f τ3 g1) (pre2 G υ3 (Or.inl ⟨rfl, g2⟩)) (fr1.trans g3.fr) (fr2.trans g4.fr) g5 (fun hG0 => ⟨by have := g6 hG0; omega, ?_, ?_, Or.inl rfl⟩)
        · refine nR.fr (τ := wI (wI (wI τ2 (M' + 1) m (100 * v)) (M' + 2) m br) M' 2 (nI (m + 1))) (υ := wI (wI (wI υ2 9 m (υ2.1 0 18)) 10 m br) 0 20 (nI (m + 1))) ?_ (fun x _ _ => g3.2 x (by omega)) (g4.2.1 9 (by decide)) (g4.2.1 10 (by decide)) (g4.2.2 20 (by omega))
          refine ⟨by omega, wIe, wIe, fun j hj => ?_⟩
          rw [wIn (show M' + 1 ≠ M' by omega), wIn (show M' + 1 ≠ M' + 2 by omega), wIs, wIn (show 9 ≠ 0 by decide), wIn (show 9 ≠ 10 by decide), wIs, wIn (show M' + 2 ≠ M' by omega), wIs, wIn (show M' + 2 ≠ M' + 1 by omega), wIn (show 10 ≠ 0 by decide), wIs, wIn (show 10 ≠ 9 by decide)]
          by_cases ej : j = m
          · rw [if_pos ej, if_pos ej, if_pos ej, if_pos ej, y3]
            rw [Int32.le_iff_toInt_le] at y1 y2
            exact ⟨rfl, ⟨y1, y2⟩, rfl, hb⟩
          · rw [if_neg ej, if_neg ej, if_neg ej, if_neg ej, e3.2 _ (by omega), e3.2 _ (by omega), f1.2 _ (by omega), f1.2 _ (by omega), e4.2.1 9 (by decide), e4.2.1 10 (by decide), wIn (show 9 ≠ 0 by decide), wIn (show 9 ≠ 0 by decide), wIn (show 10 ≠ 0 by decide), wIn (show 10 ≠ 0 by decide), f2.2.1 9 (by decide), f2.2.1 10 (by decide)]
            exact hmk j (by omega)
        · rw [g4.2.2 23 (by omega), wIk (by decide), wIn (show 0 ≠ 10 by decide), wIn (show 0 ≠ 9 by decide), b23]
      · obtain ⟨τ3, g1, g2, g3⟩ := stop_F hF jr2
        exact fin F a' 0 0 τ3 _ (fun ex f => pre1 ex f τ3 g1) (pre2 F _ (Or.inr ⟨hF, rfl, rfl⟩)) (fr1.trans g2.fr) fr2 g3 (fun q => absurd q hF)
  · by_cases hBr : tkl t A E = [98, 114, 101, 97, 116, 104]
    · have v1 : wix (tkl t A E) (wds 0) 0 = 1 := by rw [wx, if_neg hN, if_pos hBr]; rfl
      have c4' := c4 (by rw [v1]; decide)
      rw [v1] at c1
      have hEl : E - A = 6 := by rw [← tkl_len (t := t), hBr]; rfl
      have jr1 : jR τ1 (wI (wI υ1 0 15 (nI E)) 0 23 1) w t E 0 := ⟨_, _, c4', by rw [wIk (by decide), wIk (by decide)]; exact d4, fun _ => (d3.at hEw).oth (by decide) (by omega)⟩
      obtain ⟨τ3, υ3, G, a'', g1, g2, g3, g4, g5, g6⟩ := stop_both jr1
      refine fin G a'' m 1 τ3 υ3 (fun ex f => ?_) ?_ (f1.trans g3).fr (((f2.fr.trans (Fr2.w0 (by omega))).trans (Fr2.w0 (by omega))).trans g4.fr) g5 (fun hG0 => ⟨by have := g6 hG0; omega, ?_, ?_, Or.inr rfl⟩)
      · rw [fX1_readFrom_L13, if_neg n400, vC1 1 6, a1, ob, if_pos (show ((0 : Int32), τ0).1 = 0 from rfl), vC1 1 6, c1, ob]
        simp only [iflt, nI_1]
        rw [if_pos trivial, vC1 1 6, g1, ob]
      · unfold fX9_takeNote
        rw [vC2, d1, ob, gL2, ob, cd_note, ob, if_neg (fun q => hN (isN.mp q))]
        simp only [iflt, if_true]
        rw [gL2, ob, cd_brea, ob, ev_longer cd_breat, ob, ev_longer cd_breath, ob, if_pos (isBr.mpr hBr), gI2, ob, d5, pI2, ob, pZ2 (Or.inr rfl), ob, if_pos (by decide), vC2, g2, ob]
      · exact hn.fr (fun x _ _ => by rw [g3.2 x (by omega), f1.2 x (by omega)]) (by rw [g4.2.1 9 (by decide), wIn (by decide), wIn (by decide), f2.2.1 9 (by decide)]) (by rw [g4.2.1 10 (by decide), wIn (by decide), wIn (by decide), f2.2.1 10 (by decide)]) (by rw [g4.2.2 20 (by omega), wIk (by decide), wIk (by decide), f2.2.2 20 (by omega)])
      · rw [g4.2.2 23 (by omega), wIe]
    · have v2 : wix (tkl t A E) (wds 0) 0 = -1 := by rw [wx, if_neg hN, if_neg hBr]
      have c3' := c3 v2
      rw [v2] at c1
      have jr : jR τ1 (wI υ1 0 14 (nI A)) w t E 1 := ⟨_, _, c3', wIe, fun q => absurd q (by decide)⟩
      have tn : fX9_takeNote kT2 0 br υ0 = some (nI 1, wI υ1 0 14 (nI A)) := by
        unfold fX9_takeNote
        rw [vC2, d1, ob, gL2, ob, cd_note, ob, if_neg (fun q => hN (isN.mp q))]
        simp only [iflt, if_true]
        rw [gL2, ob, cd_brea, ob, ev_longer cd_breat, ob, ev_longer cd_breath, ob, if_neg (fun q => hBr (isBr.mp q)), gI2, ob, d3.2.2, vC2, ev_fails, ob]
        rfl
      by_cases h40 : m = 40
      · subst h40
        obtain ⟨τ2, e1, e2, e3⟩ := blame_F (m := 3) (by decide) (by decide) jr
        obtain ⟨τ3, g1, g2, g3⟩ := stop_F (by decide) e3
        refine fin 1 E 0 br τ3 _ (fun ex f => ?_) tn ((f1.trans e2).trans g2).fr (f2.trans (F2.w (by omega))).fr g3 (fun q => absurd q (by decide))
        rw [fX1_readFrom_L13, if_neg n400, vC1 1 6, a1, ob, if_pos (show ((0 : Int32), τ0).1 = 0 from rfl), vC1 1 6, c1, ob]
        simp only [iflt, nI_1]
        rw [if_neg (show ¬ (-1 : Int32) = 1 by decide), gI kM, ob, s1, if_neg (show ¬ nI 40 < 40 by decide), vC1 1 6, show fX6_blame kT1 1 3 τ1 = some τ2 from e1, ob, vC1 1 6, g1, ob]
      · have hm : m < 40 := by omega
        have jr2 : jR (wI (wI (wI τ1 (M' + 1) m (100 * 0)) (M' + 2) m br) M' 2 (nI (m + 1))) (wI υ1 0 14 (nI A)) w t E 1 := ((jr.o1 (by omega) (by omega)).o1 (by omega) (by omega)).o1 (by omega) (by omega)
        obtain ⟨τ3, g1, g2, g3⟩ := stop_F (by decide) jr2
        refine fin 1 E 0 0 τ3 _ (fun ex f => ?_) tn (((((f1.fr).trans (Fr1.w (by omega))).trans (Fr1.w (by omega))).trans (Fr1.w (by omega))).trans g2.fr) (f2.trans (F2.w (by omega))).fr g3 (fun q => absurd q (by decide))
        rw [fX1_readFrom_L13, if_neg n400, vC1 1 6, a1, ob, if_pos (show ((0 : Int32), τ0).1 = 0 from rfl), vC1 1 6, c1, ob]
        simp only [iflt, nI_1]
        rw [if_neg (show ¬ (-1 : Int32) = 1 by decide), gI kM, ob, s1, if_pos (show nI m < 40 from nI_lt (b := 40) hm (by decide)), gR kM, q0, ob, ob, vC1 1 6, num_F (by decide) jr, ob, sA 40 kM1 lM1 hm (by decide), ob, gR kM, wrr, q1, ob, gI kM, ob, wIn (by omega), s1, sA 40 kM2 lM2 hm (by decide), ob, gI kM, ob, wIn (by omega), wIn (by omega), s1, pI kM, ob, nI_1, vC1 1 6, g1, ob]
end TUNE
