def gRs (S' : Nat) (τ υ : hM) (m : Nat) : Prop := m ≤ 12 ∧ υ.1 0 20 = nI m ∧ ∀ s, s < m → (∀ j, j < 8 → τ.1 (S' + 1 + s) j = υ.1 11 (8 * s + j)) ∧ sOk (fun j => υ.1 11 (8 * s + j))
def sG (S' : Nat) (τ υ : hM) : Prop := (kd kT1 S' 15 ∧ kl kT1 S' 12 ∧ ∀ k, k < 12 → kd kT1 (S' + 1 + k) (3 + 1)) ∧ (19 ≤ S' ∧ S' ≤ 36) ∧ (τ.2.2 0 0 = some 1 ∧ τ.2.2 0 5 = some S' ∧ ∀ k, k < 12 → τ.2.2 S' k = some (S' + 1 + k)) ∧ υ.2.2 0 24 = some 11
section SINGERS
variable {τ υ : hM} {w S' : Nat} {t : Nat → Nat} {a i m : Nat}
theorem gRs.fr {τ' υ' : hM} (h : gRs S' τ υ m) (f1 : ∀ x, S' ≤ x → x ≤ S' + 12 → τ'.1 x = τ.1 x) (g1 : υ'.1 11 = υ.1 11) (g3 : υ'.1 0 20 = υ.1 0 20) : gRs S' τ' υ' m := by
  obtain ⟨h1, h2, h3⟩ := h
  exact ⟨h1, by rw [g3]; exact h2, fun s hs => ⟨fun j hj => by rw [f1 _ (by omega) (by omega), g1]; exact (h3 s hs).1 j hj, by rw [g1]; exact (h3 s hs).2⟩⟩
theorem singer_step (hG : sG S' τ υ) (h : jR τ υ w t a 0) (hlt : sk t w a < w) (hi : i < 400) (hn : gRs S' τ υ m) : ∃ (F a' m' : Nat) (τ' υ' : hM), (∀ (ex : Int32 → hM → Option (Int32 × hM)) (f : Nat), fX8_readSingers_L11 kT1 0 ex (f + 1) (nI m) (nI i) τ = fX8_readSingers_L11 kT1 0 ex f (nI m') (nI (i + 1)) τ') ∧ (∀ (ex : Int32 → hM → Option (Int32 × hM)) (g : Nat), fX9_singers_L17 kT2 0 ex (g + 1) 0 υ = fX9_singers_L17 kT2 0 ex g (nI F) υ') ∧ Fr1 S' (S' + 12) τ τ' ∧ Fr2 11 11 υ υ' ∧ jR τ' υ' w t a' F ∧ (F = 0 → sk t w a < a' ∧ gRs S' τ' υ' m') := by
  obtain ⟨⟨kS, lS, kSs⟩, ⟨hS19, hS36⟩, ⟨o00, o05, orow⟩, w24⟩ := hG
  obtain ⟨k, p, h1, h2, h3⟩ := h
  obtain ⟨hm12, hm2, hmk⟩ := id hn
  obtain ⟨τ0, a1, a2, a3⟩ := ev_isOver h1
  rw [if_pos (show 0 = 0 ∧ sk t w a < w from ⟨rfl, hlt⟩)] at a1
  obtain ⟨υ0, b1, b2, b3, b4, -⟩ := ev_here (h3 rfl)
  rw [if_pos hlt] at b1
  have h14 : υ0.1 0 14 = p := (b4 14 (by decide)).trans h2
  have ht256 := ((h3 rfl).1.2.2.2 _ hlt).2
  have skA := sk_sk (t := t) h1.2.1.1
  generalize sk t w a = A at *
  obtain ⟨τ1, υ1, E, c1, d1, c2, d2, d3, d4, d5, d6, hAE, hEw, hlet, c3, c4⟩ := word_both (i := 1) (by decide) skA a3 h14 b3
  have hw := h1.1.2.2.1
  have n400 : ¬ (400 : Int32) ≤ nI i := nI_ge (b := 400) hi (by decide)
  have nneg : ¬ nI (t A) < 0 := nI_pos (by omega)
  have f1 : F1 τ τ1 := a2.trans c2
  have f2 : F2 υ υ1 := b2.trans d2
  have s2 : υ1.1 0 20 = nI m := by rw [f2.2.2 20 (by omega)]; exact hm2
  have r00 : τ1.2.2 0 0 = some 1 := by rw [f1.1]; exact o00
  have r00' : τ0.2.2 0 0 = some 1 := by rw [a2.1]; exact o00
  have r05 : τ1.2.2 0 5 = some S' := by rw [f1.1]; exact o05
  have isS : υ1.2.1 0 16 = lN (cdl [115, 105, 110, 103, 101, 114]) ↔ tkl t A E = [115, 105, 110, 103, 101, 114] := word_is hAE hlet d6 rfl (by decide) (by decide +kernel)
  have wx : wix (tkl t A E) (wds 1) 0 = if tkl t A E = [115, 105, 110, 103, 101, 114] then nI 0 else -1 := rfl
  have fin : ∀ (F a' m' : Nat) (τ' υ' : hM), (∀ (ex : Int32 → hM → Option (Int32 × hM)) (f : Nat), fX8_readSingers_L11 kT1 0 ex (f + 1) (nI m) (nI i) τ = fX8_readSingers_L11 kT1 0 ex f (nI m') (nI (i + 1)) τ') → fX9_takeSinger kT2 0 υ0 = some (nI F, υ') → Fr1 S' (S' + 12) τ τ' → Fr2 11 11 υ υ' → jR τ' υ' w t a' F → (F = 0 → A < a' ∧ gRs S' τ' υ' m') → ∃ (F a' m' : Nat) (τ' υ' : hM), (∀ (ex : Int32 → hM → Option (Int32 × hM)) (f : Nat), fX8_readSingers_L11 kT1 0 ex (f + 1) (nI m) (nI i) τ = fX8_readSingers_L11 kT1 0 ex f (nI m') (nI (i + 1)) τ') ∧ (∀ (ex : Int32 → hM → Option (Int32 × hM)) (g : Nat), fX9_singers_L17 kT2 0 ex (g + 1) 0 υ = fX9_singers_L17 kT2 0 ex g (nI F) υ') ∧ Fr1 S' (S' + 12) τ τ' ∧ Fr2 11 11 υ υ' ∧ jR τ' υ' w t a' F ∧ (F = 0 → A < a' ∧ gRs S' τ' υ' m') := by
    intro F a' m' τ' υ' x1 x2 x3 x4 x5 x6
    refine ⟨F, a', m', τ', υ', x1, fun ex g => ?_, x3, x4, x5, x6⟩
    rw [fX9_singers_L17, if_pos rfl, vC2, b1, ob, if_neg nneg, vC2, x2, ob]
  -- the class's clause, once the singer's row is read or refused
  have clA : ∀ (V : Int32) (τ' : hM), fX6_readWord kT1 1 1 τ0 = some (V, τ1) → m < 12 → fX3_readFrom kT1 (S' + 1 + m) 1 τ1 = some τ' → ∀ (ex : Int32 → hM → Option (Int32 × hM)) (f : Nat), fX8_readSingers_L11 kT1 0 ex (f + 1) (nI m) (nI i) τ = fX8_readSingers_L11 kT1 0 ex f (nI (m + 1)) (nI (i + 1)) τ' := by
    intro V τ' hV hm hrd ex f
    have la : aldr 15 kT1 τ1 S' (nI m) = some (S' + 1 + m) := by rw [lR 12 kS lS hm (by decide), f1.1, orow m hm]
    rw [fX8_readSingers_L11, if_neg n400, gR1 0 8, o00, ob, vC1 1 6, a1, ob, if_pos (show ((0 : Int32), τ0).1 = 0 from rfl), gR1 0 8, r00', ob, vC1 1 6, hV, ob]
    simp only [iflt, nI_1]
    rw [if_pos (show nI m < 12 from nI_lt (b := 12) hm (by decide)), gR1 0 8, r05, ob, la, ob, gR1 0 8, r00, ob, vC (kSs m hm), hrd, ob]
  have clB : ∀ (V : Int32) (τ' : hM), fX6_readWord kT1 1 1 τ0 = some (V, τ1) → m = 12 → fX6_blame kT1 1 3 τ1 = some τ' → ∀ (ex : Int32 → hM → Option (Int32 × hM)) (f : Nat), fX8_readSingers_L11 kT1 0 ex (f + 1) (nI m) (nI i) τ = fX8_readSingers_L11 kT1 0 ex f (nI m) (nI (i + 1)) τ' := by
    intro V τ' hV hm hrd ex f
    rw [fX8_readSingers_L11, if_neg n400, gR1 0 8, o00, ob, vC1 1 6, a1, ob, if_pos (show ((0 : Int32), τ0).1 = 0 from rfl), gR1 0 8, r00', ob, vC1 1 6, hV, ob]
    simp only [iflt, nI_1]
    rw [if_neg (show ¬ nI m < 12 by rw [hm]; decide), gR1 0 8, r00, ob, vC1 1 6, hrd, ob]
  by_cases hN : tkl t A E = [115, 105, 110, 103, 101, 114]
  · have v0 : wix (tkl t A E) (wds 1) 0 = 0 := by rw [wx, if_pos hN, nI_0]
    have c4' := c4 (by rw [v0]; decide)
    rw [v0] at c1
    have hEl : E - A = 6 := by rw [← tkl_len (t := t), hN]; rfl
    have hcode : υ1.2.1 0 16 = lN (cdl [115, 105, 110, 103, 101, 114]) := isS.mpr hN
    by_cases h12 : m = 12
    · obtain ⟨τ2, e1, e2, e3⟩ := ev_blame (m := 3) (by decide) c4'
      rw [if_pos rfl, if_pos rfl] at e3
      refine fin 3 E m τ2 (wI υ1 0 14 (nI A)) (clB 0 τ2 c1 h12 e1) ?_ (f1.trans e2).fr (f2.trans (F2.w (by omega))).fr ⟨_, _, e3, wIe, fun q => absurd q (by decide)⟩ (fun q => absurd q (by decide))
      unfold fX9_takeSinger
      rw [vC2, d1, ob, gL2, ob, hcode, cd_sing_, ob, ev_longer cl_singe_, ob, ev_longer cl_singer_, ob, if_pos rfl, gI2, ob, s2, if_pos (show nI m = 12 by rw [h12]; rfl), gI2, ob, d3.2.2, vC2, ev_fails, ob]
      rfl
    · have hm : m < 12 := by omega
      -- the kind
      have dE : dR (wI υ1 0 15 (nI E)) w t E := d3.at hEw
      have cE : cR τ1 w t E A 0 p := c4'
      obtain ⟨τ2, e1, e2, e3, e4⟩ := ev_readWord0 (i := 2) (by decide) cE
      obtain ⟨υ2, g1, g2, g3, g4, g5, g6⟩ := ev_word dE
      have hin := rn_in (t := t) (lo := 97) (hi := 122) (sk_in (t := t) hEw).2
      have hskE := (sk_in (t := t) hEw).1
      have hlet2 : ∀ j, sk t w E ≤ j → j < rn t w 97 122 (sk t w E) → 97 ≤ t j ∧ t j ≤ 122 := fun j j1 j2 => rn_letter j1 j2
      have kv := ev_kindOf hin.1 hlet2 g6
      have g14 : υ2.1 0 14 = p := by rw [g4, wIk (by decide)]; exact d4
      have u24 : υ2.2.2 0 24 = some 11 := by rw [g2.1, wrr, f2.1]; exact w24
      have u20 : υ2.1 0 20 = nI m := by rw [g2.2.2 20 (by omega), wIk (by decide)]; exact s2
      generalize hV : wix (tkl t (sk t w E) (rn t w 97 122 (sk t w E))) (wds 2) 0 = V at *
      by_cases hm1 : V = -1
      · have e3' := e3 hm1
        -- a kind that is not there
        have jr : jR (wI τ2 (S' + 1 + m) 0 V) (wI (wI υ2 11 (8 * m) (-1)) 0 14 (nI (sk t w E))) w t (rn t w 97 122 (sk t w E)) 1 := ⟨_, _, e3'.oth (by omega) (by omega), wIe, fun q => absurd q (by decide)⟩
        obtain ⟨F9, a9, τ9, υ9, x1, -, x3, x4, x5, x6, x7⟩ := read_both (m := m) (kSs m hm) (by omega) hm (by rw [wrr, wrr]; exact u24) e1 jr
        obtain ⟨y1, y2⟩ := x3 (by decide)
        subst y1
        subst y2
        have fr1 : Fr1 S' (S' + 12) τ τ9 := ⟨by rw [x4.1, e2.1, f1.1], fun x hx1 hx => by rw [x4.2 x hx1 (by omega), e2.2 x hx1, f1.2 x hx1]⟩
        refine fin 1 a9 (m + 1) τ9 _ (clA 0 τ9 c1 hm x1) ?_ fr1 (((((f2.fr).trans (Fr2.w0 (by omega))).trans g2.fr).trans (Fr2.wr (Or.inl rfl) (by decide))).trans (Fr2.w0 (by omega))) x6 (fun q => absurd q (by decide))
        have g15 : υ2.1 0 15 = nI (sk t w E) := g3.2.2
        unfold fX9_takeSinger
        rw [vC2, d1, ob, gL2, ob, hcode, cd_sing_, ob, ev_longer cl_singe_, ob, ev_longer cl_singer_, ob, if_pos rfl, gI2, ob, s2, if_neg (show ¬ nI m = 12 from neI (b := 12) (by omega) (by decide) h12), gI2, ob, d5, pI2, ob, vC2, g1, ob, gI2, ob, u20, mul_nI 8 8 rfl, iflt, gR2, u24, ob, vC2, kv, ob, sA2 11 96 (k := 8 * m) (by omega), ob, gR2, wrr, u24, ob, lA2 11 96 (k := 8 * m) (by omega), ob, wIe, hm1, if_neg (show ¬ (0 : Int32) ≤ -1 by decide), gI2, ob, wIn (show 0 ≠ 11 by decide), g15, vC2, ev_fails, ob]
        rfl
      · have e4' := e4 hm1
        obtain ⟨kd', hkd, hVk⟩ : ∃ kd', kd' < 8 ∧ V = nI kd' := by
          rw [← hV] at hm1 ⊢
          have wq : ∀ l : List Nat, wix l (wds 2) 0 = -1 ∨ ∃ kd', kd' < 8 ∧ wix l (wds 2) 0 = nI kd' := by
            intro l
            simp only [wds, wix]
            repeat' split
            all_goals first
              | exact Or.inr ⟨0, by decide, rfl⟩
              | exact Or.inr ⟨1, by decide, rfl⟩
              | exact Or.inr ⟨2, by decide, rfl⟩
              | exact Or.inr ⟨3, by decide, rfl⟩
              | exact Or.inr ⟨4, by decide, rfl⟩
              | exact Or.inr ⟨5, by decide, rfl⟩
              | exact Or.inr ⟨6, by decide, rfl⟩
              | exact Or.inr ⟨7, by decide, rfl⟩
              | exact Or.inl rfl
          exact (wq _).resolve_left hm1
        subst hVk
        have jr : jR (wI τ2 (S' + 1 + m) 0 (nI kd')) (wI (wI υ2 11 (8 * m) (nI kd')) 0 15 (nI (rn t w 97 122 (sk t w E)))) w t (rn t w 97 122 (sk t w E)) 0 := ⟨_, _, e4'.oth (by omega) (by omega), by rw [wIk (by decide), wIn (by decide)]; exact g14, fun _ => (g3.oth (by decide) (by omega)).at hin.2⟩
        obtain ⟨F9, a9, τ9, υ9, x1, x2, -, x4, x5, x6, x7⟩ := read_both (m := m) (kSs m hm) (by omega) hm (by rw [wrr, wrr]; exact u24) e1 jr
        have fr1 : Fr1 S' (S' + 12) τ τ9 := ⟨by rw [x4.1, e2.1, f1.1], fun x hx1 hx => by rw [x4.2 x hx1 (by omega), e2.2 x hx1, f1.2 x hx1]⟩
        have fr2 : Fr2 11 11 υ υ9 := ((((f2.fr).trans (Fr2.w0 (by omega))).trans g2.fr).trans ((Fr2.wr (Or.inl rfl) (by decide)).trans (Fr2.w0 (by omega)))).trans ⟨x5.1, fun x h0 h11 _ => x5.2.1 x h0 h11, fun j hj => x5.2.2.2 j hj⟩
        refine fin F9 a9 (m + 1) τ9 υ9 (clA 0 τ9 c1 hm x1) (x2 rfl υ0 υ1 υ2 E (rn t w 97 122 (sk t w E)) kd' d1 hcode s2 d5 g1 u20 u24 kv hkd g5 rfl) fr1 fr2 x6 (fun hF => ?_)
        have z20 : (wI (wI υ2 11 (8 * m) (nI kd')) 0 15 (nI (rn t w 97 122 (sk t w E)))).1 0 20 = nI m := by rw [wIk (by decide), wIn (by decide)]; exact u20
        obtain ⟨y1, y2, y3, y4, y5, y6⟩ := x7 hF z20
        have z0 : (wI (wI υ2 11 (8 * m) (nI kd')) 0 15 (nI (rn t w 97 122 (sk t w E)))).1 11 (8 * m) = nI kd' := by rw [wIn (by decide), wIe]
        refine ⟨by omega, by omega, y2, fun s hs => ?_⟩
        by_cases e : s = m
        · subst e
          refine ⟨fun j hj => ?_, y6 (by rw [nI_toInt (by omega)]; omega) z0⟩
          by_cases j0 : j = 0
          · subst j0
            rw [y5, Nat.add_zero, y3, z0]
          · exact y4 j hj (by omega)
        · obtain ⟨q1, q2⟩ := hmk s (by omega)
          have rw11 : ∀ j, j < 8 → υ9.1 11 (8 * s + j) = υ.1 11 (8 * s + j) := fun j hj => by
            rw [x5.2.2.1 _ (by omega), wIn (by decide), wIk (by omega), g2.2.1 11 (by decide), wIn (by decide), f2.2.1 11 (by decide)]
          refine ⟨fun j hj => by rw [rw11 j hj, x4.2 _ (by omega) (by omega), e2.2 _ (by omega), f1.2 _ (by omega)]; exact q1 j hj, ?_⟩
          unfold sOk at q2 ⊢
          simp only [rw11 0 (by decide), rw11 1 (by decide), rw11 2 (by decide), rw11 3 (by decide), rw11 4 (by decide), rw11 5 (by decide), rw11 6 (by decide), rw11 7 (by decide)]
          exact q2
  · have v2 : wix (tkl t A E) (wds 1) 0 = -1 := by rw [wx, if_neg hN]
    have c3' := c3 v2
    rw [v2] at c1
    have jr : jR τ1 (wI υ1 0 14 (nI A)) w t E 1 := ⟨_, _, c3', wIe, fun q => absurd q (by decide)⟩
    have tn : fX9_takeSinger kT2 0 υ0 = some (nI 1, wI υ1 0 14 (nI A)) := by
      unfold fX9_takeSinger
      rw [vC2, d1, ob, gL2, ob, cd_sing_, ob, ev_longer cl_singe_, ob, ev_longer cl_singer_, ob, if_neg (fun q => hN (isS.mp q)), gI2, ob, d3.2.2, vC2, ev_fails, ob]
      rfl
    by_cases h12 : m = 12
    · obtain ⟨τ2, e1, e2, e3⟩ := blame_F (m := 3) (by decide) (by decide) jr
      exact fin 1 E m τ2 _ (clB (-1) τ2 c1 h12 e1) tn (f1.trans e2).fr (f2.trans (F2.w (by omega))).fr e3 (fun q => absurd q (by decide))
    · have hm : m < 12 := by omega
      have e1 : fX6_readWord kT1 1 2 τ1 = some (-1, τ1) := ev_readWordF (by decide) c3'
      obtain ⟨F9, a9, τ9, υ9, x1, -, x3, x4, x5, x6, x7⟩ := read_both (m := m) (kSs m hm) (by omega) hm (by rw [wrr, f2.1]; exact w24) e1 (jr.o1 (x := S' + 1 + m) (j := 0) (v := -1) (by omega) (by omega))
      obtain ⟨y1, y2⟩ := x3 (by decide)
      subst y1
      subst y2
      have fr1 : Fr1 S' (S' + 12) τ τ9 := ⟨by rw [x4.1, f1.1], fun x hx1 hx => by rw [x4.2 x hx1 (by omega), f1.2 x hx1]⟩
      exact fin 1 a9 (m + 1) τ9 _ (clA (-1) τ9 c1 hm x1) tn fr1 (f2.trans (F2.w (by omega))).fr x6 (fun q => absurd q (by decide))
end SINGERS
