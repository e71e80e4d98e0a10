/-! TASKS -/
def kRt (R' : Nat) (τ υ : hM) (m : Nat) : Prop := m ≤ 6 ∧ τ.1 R' 4 = nI m ∧ υ.1 0 20 = nI m ∧ ∀ i, i < m → (τ.1 (R' + 1) i = υ.1 12 (4 * i) ∧ τ.1 (R' + 2) i = υ.1 12 (4 * i + 1) ∧ τ.1 (R' + 3) i = υ.1 12 (4 * i + 2) ∧ τ.1 (R' + 4) i = υ.1 12 (4 * i + 3)) ∧ (1 ≤ (υ.1 12 (4 * i)).toInt ∧ (υ.1 12 (4 * i)).toInt ≤ 30) ∧ (0 ≤ (υ.1 12 (4 * i + 1)).toInt ∧ (υ.1 12 (4 * i + 1)).toInt ≤ 49) ∧ (0 ≤ (υ.1 12 (4 * i + 2)).toInt ∧ (υ.1 12 (4 * i + 2)).toInt ≤ 49) ∧ (0 ≤ (υ.1 12 (4 * i + 3)).toInt ∧ (υ.1 12 (4 * i + 3)).toInt ≤ 15)
def kG (R' : Nat) (τ υ : hM) : Prop := (kd kT1 R' (7 + 1) ∧ (kd kT1 (R' + 1) 11 ∧ kl kT1 (R' + 1) 6) ∧ (kd kT1 (R' + 2) 11 ∧ kl kT1 (R' + 2) 6) ∧ (kd kT1 (R' + 3) 11 ∧ kl kT1 (R' + 3) 6) ∧ kd kT1 (R' + 4) 11 ∧ kl kT1 (R' + 4) 6) ∧ (9 ≤ R' ∧ R' ≤ 14) ∧ (τ.2.2 R' 0 = some (R' + 1) ∧ τ.2.2 R' 1 = some (R' + 2) ∧ τ.2.2 R' 2 = some (R' + 3) ∧ τ.2.2 R' 3 = some (R' + 4)) ∧ υ.2.2 0 25 = some 12
section TASK
variable {τ υ : hM} {w R' : Nat} {t : Nat → Nat} {a i m : Nat}
theorem kRt.fr {τ' υ' : hM} (h : kRt R' τ υ m) (f1 : ∀ x, R' ≤ x → x ≤ R' + 4 → τ'.1 x = τ.1 x) (g1 : υ'.1 12 = υ.1 12) (g3 : υ'.1 0 20 = υ.1 0 20) : kRt R' τ' υ' m := by
  unfold kRt at h ⊢
  rw [f1 R' (by omega) (by omega), f1 (R' + 1) (by omega) (by omega), f1 (R' + 2) (by omega) (by omega), f1 (R' + 3) (by omega) (by omega), f1 (R' + 4) (by omega) (by omega), g1, g3]
  exact h
theorem ev_letter {k f : Nat} {p : Int32} (h : cR τ w t a k f p) : ∃ τ', fX6_isLetterNext kT1 1 τ = some (if sk t w a < w ∧ 97 ≤ t (sk t w a) ∧ t (sk t w a) ≤ 122 then 1 else 0, τ') ∧ F1 τ τ' ∧ cR τ' w t (sk t w a) (sk t w a) f p := by
  obtain ⟨τ', g1, g2, g3⟩ := ev_find h
  obtain ⟨⟨h1, h2, h3, h4⟩, ⟨h5, h6, h7⟩, h8, h9, h10, h11⟩ := id g3
  refine ⟨τ', ?_, g2, g3⟩
  unfold fX6_isLetterNext
  rw [vC1 1 6, g1, ob, gI1 1 6, ob, gI1 1 6, ob, h8, h2]
  by_cases q : sk t w a < w
  · obtain ⟨b1, b2⟩ := h4 _ q
    have bb := (sb_in (t (sk t w a)) b2).1
    rw [if_neg (nI_ge q (by omega)), gR1 1 6, h1, ob, ob, lB1 (k := sk t w a) (by omega), ob, b1, isW, ob]
    by_cases z : 97 ≤ t (sk t w a) ∧ t (sk t w a) ≤ 122
    · rw [ifz1 (of_decide_eq_true (bb.trans (decide_eq_true z))), if_pos (show sk t w a < w ∧ 97 ≤ t (sk t w a) ∧ t (sk t w a) ≤ 122 from ⟨q, z⟩)]
      rfl
    · rw [ifz0 (of_decide_eq_false (bb.trans (decide_eq_false z))), if_neg (show ¬ (sk t w a < w ∧ 97 ≤ t (sk t w a) ∧ t (sk t w a) ≤ 122) from fun y => z y.2)]
      rfl
  · rw [if_pos (nI_le (by omega) (by omega)), if_neg (fun y => q y.1)]
    rfl
theorem ev_partsF {k f : Nat} {p : Int32} (hf : f ≠ 0) (h : cR τ w t a k f p) : fX7_readParts kT1 1 τ = some (0, τ) := by
  have L := pBd_eq (fun x8 u9 => some (x8, u9)) 5999 0 0 τ
  unfold fX7_readParts
  rw [L, if_neg (by decide), if_pos rfl]
  unfold pBd
  rw [vC1 1 6, ev_readWordF hf h, ob, if_pos rfl]
theorem task_step (hG : kG R' τ υ) (h : jR τ υ w t a 0) (hlt : sk t w a < w) (hi : i < 400) (hn : kRt R' τ υ m) : ∃ (F a' m' : Nat) (τ' υ' : hM), (∀ (ex : hM → Option hM) (f : Nat), fX7_readFrom_L11 kT1 R' 1 ex (f + 1) (nI i) τ = fX7_readFrom_L11 kT1 R' 1 ex f (nI (i + 1)) τ') ∧ (∀ (ex : Int32 → hM → Option (Int32 × hM)) (g : Nat), fX9_tasks_L17 kT2 0 ex (g + 1) 0 υ = fX9_tasks_L17 kT2 0 ex g (nI F) υ') ∧ Fr1 R' (R' + 4) τ τ' ∧ Fr2 12 12 υ υ' ∧ jR τ' υ' w t a' F ∧ (F = 0 → sk t w a < a' ∧ kRt R' τ' υ' m') := by
  obtain ⟨⟨kQ, ⟨kQ1, lQ1⟩, ⟨kQ2, lQ2⟩, ⟨kQ3, lQ3⟩, kQ4, lQ4⟩, ⟨hR9, hR14⟩, ⟨r0, r1, r2, r3⟩, w25⟩ := hG
  obtain ⟨k, p, h1, h2, h3⟩ := h
  obtain ⟨hm6, hm1, hm2, hmk⟩ := id hn
  obtain ⟨τ0, a1, a2, a3⟩ := ev_isOver h1
  rw [if_pos (show 0 = 0 ∧ sk t w a < w from ⟨rfl, hlt⟩)] at a1
  obtain ⟨υ0, b1, b2, b3, b4, -⟩ := ev_here (h3 rfl)
  rw [if_pos hlt] at b1
  have h14 : υ0.1 0 14 = p := (b4 14 (by decide)).trans h2
  have ht256 := ((h3 rfl).1.2.2.2 _ hlt).2
  have skA := sk_sk (t := t) h1.2.1.1
  generalize sk t w a = A at *
  obtain ⟨τ1, υ1, E, c1, d1, c2, d2, d3, d4, d5, d6, hAE, hEw, hlet, c3, c4⟩ := word_both (i := 3) (by decide) skA a3 h14 b3
  have hw := h1.1.2.2.1
  have n400 : ¬ (400 : Int32) ≤ nI i := nI_ge (b := 400) hi (by decide)
  have nneg : ¬ nI (t A) < 0 := nI_pos (by omega)
  have f1 : F1 τ τ1 := a2.trans c2
  have f2 : F2 υ υ1 := b2.trans d2
  have s1 : τ1.1 R' 4 = nI m := by rw [f1.2 R' (by omega)]; exact hm1
  have s2 : υ1.1 0 20 = nI m := by rw [f2.2.2 20 (by omega)]; exact hm2
  have isT : υ1.2.1 0 16 = lN (cdl [116, 97, 115, 107]) ↔ tkl t A E = [116, 97, 115, 107] := word_is hAE hlet d6 rfl (by decide) (by decide +kernel)
  have wx : wix (tkl t A E) (wds 3) 0 = if tkl t A E = [116, 97, 115, 107] then nI 0 else -1 := rfl
  have fin : ∀ (F a' m' : Nat) (τ' υ' : hM), (∀ (ex : hM → Option hM) (f : Nat), fX7_readFrom_L11 kT1 R' 1 ex (f + 1) (nI i) τ = fX7_readFrom_L11 kT1 R' 1 ex f (nI (i + 1)) τ') → fX9_takeTask kT2 0 υ0 = some (nI F, υ') → Fr1 R' (R' + 4) τ τ' → Fr2 12 12 υ υ' → jR τ' υ' w t a' F → (F = 0 → A < a' ∧ kRt R' τ' υ' m') → ∃ (F a' m' : Nat) (τ' υ' : hM), (∀ (ex : hM → Option hM) (f : Nat), fX7_readFrom_L11 kT1 R' 1 ex (f + 1) (nI i) τ = fX7_readFrom_L11 kT1 R' 1 ex f (nI (i + 1)) τ') ∧ (∀ (ex : Int32 → hM → Option (Int32 × hM)) (g : Nat), fX9_tasks_L17 kT2 0 ex (g + 1) 0 υ = fX9_tasks_L17 kT2 0 ex g (nI F) υ') ∧ Fr1 R' (R' + 4) τ τ' ∧ Fr2 12 12 υ υ' ∧ jR τ' υ' w t a' F ∧ (F = 0 → A < a' ∧ kRt R' τ' υ' m') := by
    intro F a' m' τ' υ' x1 x2 x3 x4 x5 x6
    refine ⟨F, a', m', τ', υ', x1, fun ex g => ?_, x3, x4, x5, x6⟩
    rw [fX9_tasks_L17, if_pos rfl, vC2, b1, ob, if_neg nneg, vC2, x2, ob]
  -- too many
  have clB : ∀ (V : Int32) (τ2 τ' : hM), fX6_readWord kT1 1 3 τ0 = some (V, τ1) → m = 6 → fX6_blame kT1 1 3 τ1 = some τ2 → fX6_readSign kT1 1 59 τ2 = some τ' → ∀ (ex : hM → Option hM) (f : Nat), fX7_readFrom_L11 kT1 R' 1 ex (f + 1) (nI i) τ = fX7_readFrom_L11 kT1 R' 1 ex f (nI (i + 1)) τ' := by
    intro V τ2 τ' hV hm hb hs ex f
    rw [fX7_readFrom_L11, if_neg n400, vC1 1 6, a1, ob, if_pos (show ((0 : Int32), τ0).1 = 0 from rfl), vC1 1 6, hV, ob, gI kQ, ob, s1]
    simp only [iflt, nI_1]
    rw [if_neg (show ¬ nI m < 6 by rw [hm]; decide), vC1 1 6, hb, ob, vC1 1 6, hs, ob]
  -- the clause from a state of both readers behind the word; υs the reference's memory with the set emptied
  have main : ∀ (V : Int32) (υs : hM) (F0 : Nat), m < 6 → fX6_readWord kT1 1 3 τ0 = some (V, τ1) → jR τ1 υs w t E F0 → υs.2.2 0 25 = some 12 → ∃ (F a' : Nat) (τ' υ' : hM), (∀ (ex : hM → Option hM) (f : Nat), fX7_readFrom_L11 kT1 R' 1 ex (f + 1) (nI i) τ = fX7_readFrom_L11 kT1 R' 1 ex f (nI (i + 1)) τ') ∧ (F0 = 0 → υs.1 0 20 = nI m → υs.1 12 (4 * m + 3) = 0 → υs = wI (wI υ1 0 15 (nI E)) 12 (4 * m + 3) 0 → υ1.2.1 0 16 = lN (cdl [116, 97, 115, 107]) → fX9_takeTask kT2 0 υ0 = some (nI F, υ')) ∧ (F0 ≠ 0 → F = F0 ∧ υ' = υs) ∧ Fr1 R' (R' + 4) τ1 τ' ∧ Fr2 12 12 υs υ' ∧ jR τ' υ' w t a' F ∧ (F = 0 → υs.1 0 20 = nI m → υs.1 12 (4 * m + 3) = 0 → E < a' ∧ τ'.1 R' 4 = nI (m + 1) ∧ υ'.1 0 20 = nI (m + 1) ∧ (∀ j, j < 4 * m → υ'.1 12 j = υs.1 12 j) ∧ (∀ x j, j < m → R' + 1 ≤ x → x ≤ R' + 4 → τ'.1 x j = τ1.1 x j) ∧ (τ'.1 (R' + 1) m = υ'.1 12 (4 * m) ∧ τ'.1 (R' + 2) m = υ'.1 12 (4 * m + 1) ∧ τ'.1 (R' + 3) m = υ'.1 12 (4 * m + 2) ∧ τ'.1 (R' + 4) m = υ'.1 12 (4 * m + 3)) ∧ (1 ≤ (υ'.1 12 (4 * m)).toInt ∧ (υ'.1 12 (4 * m)).toInt ≤ 30) ∧ (0 ≤ (υ'.1 12 (4 * m + 1)).toInt ∧ (υ'.1 12 (4 * m + 1)).toInt ≤ 49) ∧ (0 ≤ (υ'.1 12 (4 * m + 2)).toInt ∧ (υ'.1 12 (4 * m + 2)).toInt ≤ 49) ∧ (0 ≤ (υ'.1 12 (4 * m + 3)).toInt ∧ (υ'.1 12 (4 * m + 3)).toInt ≤ 15)) := by
    intro V υs F0 hm hV jr ws25
    have ix : ∀ (j : Nat) (y : Int32), y = nI j → nI (4 * m) + y = nI (4 * m + j) := fun j y hy => by rw [hy, nI_add]
    obtain ⟨v1, τ3, υ3, F3, x3, n1, i1, j1, e1, g1, q1, l1, o1⟩ := into_any (lo := 1) (hi := 30) (i := nI (4 * m)) (ri := 25) (r := 12) (idx := 4 * m) (L := 24) (by decide) jr ws25 rfl rfl (by omega) (by decide) (by decide) (by decide) rfl
    obtain ⟨v2, τ4, υ4, F4, x4, n2, i2, j2, e2, g2, q2, l2, o2⟩ := into_any (lo := 0) (hi := 49) (i := nI (4 * m) + 1) (ri := 25) (r := 12) (idx := 4 * m + 1) (L := 24) (by decide) (q1.o1 (x := R' + 1) (j := m) (v := v1) (by omega) (by omega)) (by rw [g1.1]; exact ws25) rfl rfl (by omega) (by decide) (by decide) (by decide) (ix 1 1 rfl)
    obtain ⟨v3, τ5, υ5, F5, x5, n3, i3, j3, e3, g3, q3, l3, o3⟩ := into_any (lo := 0) (hi := 49) (i := nI (4 * m) + 2) (ri := 25) (r := 12) (idx := 4 * m + 2) (L := 24) (by decide) (q2.o1 (x := R' + 2) (j := m) (v := v2) (by omega) (by omega)) (by rw [g2.1, g1.1]; exact ws25) rfl rfl (by omega) (by decide) (by decide) (by decide) (ix 2 2 rfl)
    have q3' := q3.o1 (x := R' + 3) (j := m) (v := v3) (by omega) (by omega)
    have hF5 := q3.lt5
    have u25 : υ5.2.2 0 25 = some 12 := by rw [g3.1, g2.1, g1.1]; exact ws25
    have t3 : ∀ x, x ≠ 1 → τ3.1 x = τ1.1 x := fun x hx => e1.2 x hx
    have z1 : τ3.1 R' 4 = nI m := by rw [e1.2 R' (by omega)]; exact s1
    have z2 : τ4.1 R' 4 = nI m := by rw [e2.2 R' (by omega), wIn (by omega)]; exact z1
    have z3 : τ5.1 R' 4 = nI m := by rw [e3.2 R' (by omega), wIn (by omega)]; exact z2
    have y0 : τ1.2.2 R' 0 = some (R' + 1) := by rw [f1.1]; exact r0
    have y1 : τ3.2.2 R' 1 = some (R' + 2) := by rw [e1.1, f1.1]; exact r1
    have y2 : τ4.2.2 R' 2 = some (R' + 3) := by rw [e2.1]; show τ3.2.2 R' 2 = _; rw [e1.1, f1.1]; exact r2
    have y3 : τ5.2.2 R' 3 = some (R' + 4) := by rw [e3.1]; show τ4.2.2 R' 3 = _; rw [e2.1]; show τ3.2.2 R' 3 = _; rw [e1.1, f1.1]; exact r3
    -- the class's clause, once the letter, the parts and the stop are known
    have cls : ∀ (b : Int32) (τ6 τ7 τ8 : hM) (x : Int32), fX6_isLetterNext kT1 1 (wI τ5 (R' + 3) m v3) = some (b, τ6) → ((b = 0 ∧ x = 0 ∧ τ7 = τ6) ∨ (b ≠ 0 ∧ fX7_readParts kT1 1 τ6 = some (x, τ7))) → τ7.1 R' 4 = nI m → fX6_readSign kT1 1 59 (wI (wI τ7 (R' + 4) m x) R' 4 (nI (m + 1))) = some τ8 → ∀ (ex : hM → Option hM) (f : Nat), fX7_readFrom_L11 kT1 R' 1 ex (f + 1) (nI i) τ = fX7_readFrom_L11 kT1 R' 1 ex f (nI (i + 1)) τ8 := by
      intro b τ6 τ7 τ8 x hb hx h7 hs ex f
      rw [fX7_readFrom_L11, if_neg n400, vC1 1 6, a1, ob, if_pos (show ((0 : Int32), τ0).1 = 0 from rfl), vC1 1 6, hV, ob, gI kQ, ob, s1]
      simp only [iflt, nI_1]
      rw [if_pos (show nI m < 6 from nI_lt (b := 6) hm (by decide)), gR kQ, y0, ob, ob, vC1 1 6, n1, ob, sA 6 kQ1 lQ1 hm (by decide), ob, gR kQ, wrr, y1, ob, gI kQ, ob, wIn (by omega), z1, vC1 1 6, n2, ob, sA 6 kQ2 lQ2 hm (by decide), ob, gR kQ, wrr, y2, ob, gI kQ, ob, wIn (by omega), z2, vC1 1 6, n3, ob, sA 6 kQ3 lQ3 hm (by decide), ob, gR kQ, wrr, y3, ob, gI kQ, ob, wIn (by omega), z3, vC1 1 6, hb, ob]
      rcases hx with ⟨k1, k2, k3⟩ | ⟨k1, k2⟩
      · subst k3
        rw [if_pos k1, ← k2, sA 6 kQ4 lQ4 hm (by decide), ob, gI kQ, ob, wIn (by omega), h7, pI kQ, ob, nI_1, vC1 1 6, hs, ob]
      · rw [if_neg k1, k2, ob, sA 6 kQ4 lQ4 hm (by decide), ob, gI kQ, ob, wIn (by omega), h7, pI kQ, ob, nI_1, vC1 1 6, hs, ob]
    have frA : ∀ (τ7 τ8 : hM) (x : Int32), F1 (wI τ5 (R' + 3) m v3) τ7 → F1 (wI (wI τ7 (R' + 4) m x) R' 4 (nI (m + 1))) τ8 → Fr1 R' (R' + 4) τ1 τ8 ∧ (∀ y j, j < m → R' + 1 ≤ y → y ≤ R' + 4 → τ8.1 y j = τ1.1 y j) ∧ τ8.1 (R' + 1) m = v1 ∧ τ8.1 (R' + 2) m = v2 ∧ τ8.1 (R' + 3) m = v3 ∧ τ8.1 (R' + 4) m = x ∧ τ8.1 R' 4 = nI (m + 1) := by
      intro τ7 τ8 x k1 k2
      have ch : Fr1 R' (R' + 4) τ1 τ8 := (((((((((e1.fr).trans (Fr1.w (x := R' + 1) (k := m) (v := v1) (by omega))).trans e2.fr).trans (Fr1.w (x := R' + 2) (k := m) (v := v2) (by omega))).trans e3.fr).trans (Fr1.w (x := R' + 3) (k := m) (v := v3) (by omega))).trans k1.fr).trans (Fr1.w (x := R' + 4) (k := m) (v := x) (by omega))).trans (Fr1.w (x := R') (k := 4) (v := nI (m + 1)) (by omega))).trans k2.fr
      refine ⟨ch, fun y j hj h1 h2 => ?_, ?_, ?_, ?_, ?_, ?_⟩
      · rw [k2.2 y (by omega), wIn (by omega), wIk (by omega), k1.2 y (by omega), wIk (by omega), e3.2 y (by omega), wIk (by omega), e2.2 y (by omega), wIk (by omega), e1.2 y (by omega)]
      · rw [k2.2 _ (by omega), wIn (by omega), wIn (by omega), k1.2 _ (by omega), wIn (by omega), e3.2 _ (by omega), wIn (by omega), e2.2 _ (by omega), wIe]
      · rw [k2.2 _ (by omega), wIn (by omega), wIn (by omega), k1.2 _ (by omega), wIn (by omega), e3.2 _ (by omega), wIe]
      · rw [k2.2 _ (by omega), wIn (by omega), wIn (by omega), k1.2 _ (by omega), wIe]
      · rw [k2.2 _ (by omega), wIn (by omega), wIe]
      · rw [k2.2 _ (by omega), wIe]
    have fiR : Fr2 12 12 υs υ5 := ⟨by rw [g3.1, g2.1, g1.1], fun x h0 h12 _ => by rw [g3.2.1 x h0 h12, g2.2.1 x h0 h12, g1.2.1 x h0 h12], fun j hj => by rw [g3.2.2.2 j (by omega), g2.2.2.2 j (by omega), g1.2.2.2 j (by omega)]⟩
    obtain ⟨k5, p5, cc, pp, dd⟩ := id q3'
    obtain ⟨τ6, lt1, lt2, lt3⟩ := ev_letter cc
    by_cases hF : F5 = 0
    · obtain ⟨m3, m3a, m3b, m3c, m3d, -⟩ := l3 hF
      obtain ⟨m2, m2a, m2b, m2c, m2d, -⟩ := l2 m3
      obtain ⟨m1, m1a, m1b, m1c, m1d, -⟩ := l1 m2
      subst hF
      have dd := dd rfl
      -- the reference up to the parts
      have ref : ∀ z : Option (Int32 × hM), ((vc kT2 0 9 (fX9_here kT2 0 υ5)).bind fun q17 => lt (if q17.1 = (59 : Int32) then (0 : Int32) else (1 : Int32)) fun x18 => fX9_takeTask_L156 kT2 0 (nI (4 * m)) (fun u25 => (gti kT2 u25 0 9 20).bind fun x26 => (pti kT2 u25 0 9 20 (x26 + (1 : Int32))).bind fun u27 => (vc kT2 0 9 (fX9_takeStop kT2 0 u27)).bind fun q28 => some (q28.1, q28.2)) 6000 x18 q17.2) = z → υs.1 0 20 = nI m → υs = wI (wI υ1 0 15 (nI E)) 12 (4 * m + 3) 0 → υ1.2.1 0 16 = lN (cdl [116, 97, 115, 107]) → fX9_takeTask kT2 0 υ0 = z := by
        intro z hz h20 hus hcode
        have i1' := i1 m1
        rw [hus] at i1'
        have w25a : υ1.2.2 0 25 = some 12 := by rw [f2.1]; exact w25
        have h20' : (wI υ1 0 15 (nI E)).1 0 20 = nI m := by rw [wIk (by decide)]; exact s2
        have eF3 : F3 = 0 := m2
        have eF4 : F4 = 0 := m3
        unfold fX9_takeTask
        rw [vC2, d1, ob, gL2, ob, hcode, cd_task_, ob, if_pos rfl, gI2, ob, s2, if_neg (show ¬ nI m = 6 from neI (b := 6) (by omega) (by decide) (by omega)), gI2, ob, d5, pI2, ob, gI2, ob, h20', mul_nI 4 4 rfl, iflt, gR2, wrr, w25a, ob, show nI (4 * m) + 3 = nI (4 * m + 3) from ix 3 3 rfl, sA2 12 24 (k := 4 * m + 3) (by omega), ob, gR2, wrr, wrr, w25a, ob, vC2, i1', ob]
        rw [j2, j3, if_pos (show nI 0 ≤ 0 by decide)]
        exact hz
      have v5 : υ5.1 12 (4 * m) = v1 ∧ υ5.1 12 (4 * m + 1) = v2 ∧ υ5.1 12 (4 * m + 2) = v3 ∧ (∀ j, (j < 4 * m ∨ 4 * m + 2 < j) → υ5.1 12 j = υs.1 12 j) := ⟨by rw [g3.2.2.1 _ (by omega), g2.2.2.1 _ (by omega)]; exact m1b, by rw [g3.2.2.1 _ (by omega)]; exact m2b, m3b, fun j hj => by rw [g3.2.2.1 j (by omega), g2.2.2.1 j (by omega), g1.2.2.1 j (by omega)]⟩
      have bnd : (1 ≤ v1.toInt ∧ v1.toInt ≤ 30) ∧ (0 ≤ v2.toInt ∧ v2.toInt ≤ 49) ∧ (0 ≤ v3.toInt ∧ v3.toInt ≤ 49) := ⟨⟨le_v m1c, le_v m1d⟩, ⟨le_v m2c, le_v m2d⟩, ⟨le_v m3c, le_v m3d⟩⟩
      obtain ⟨υ6, hr1, hr2, hr3, hr4, -⟩ := ev_here dd
      have h20v : υs.1 0 20 = nI m → υ5.1 0 20 = nI m := fun q => by rw [fiR.2.2 20 |> fun _ => g3.2.2.2 20 (by omega), g2.2.2.2 20 (by omega), g1.2.2.2 20 (by omega)]; exact q
      have skE := sk_in (t := t) dd.2.1
      by_cases cs : sk t w x5 < w ∧ t (sk t w x5) = 59
      · -- a stop at once
        have b0 : (if sk t w x5 < w ∧ 97 ≤ t (sk t w x5) ∧ t (sk t w x5) ≤ 122 then (1 : Int32) else 0) = 0 := if_neg (fun y => by omega)
        rw [b0] at lt1
        have ju : jR (wI (wI τ6 (R' + 4) m 0) R' 4 (nI (m + 1))) (wI υ6 0 20 (nI (m + 1))) w t (sk t w x5) 0 := ⟨_, _, (lt3.oth (by omega) (by omega)).oth (by omega) (by omega), by rw [wIk (by decide), hr4 14 (by decide)]; exact pp, fun _ => hr3.oth (by decide) (by omega)⟩
        obtain ⟨τ8, υ8, G, ag, st1, st2, st3, st4, st5, st6⟩ := stop_both ju
        obtain ⟨fa1, fa2, fa3, fa4, fa5, fa6, fa7⟩ := frA τ6 τ8 0 lt2 st3
        refine ⟨G, ag, τ8, υ8, cls 0 τ6 τ6 τ8 0 lt1 (Or.inl ⟨rfl, rfl, rfl⟩) (by rw [lt2.2 R' (by omega), wIn (by omega)]; exact z3) st1, fun _ h20 h123 hus hcode => ref _ ?_ h20 hus hcode, fun q => absurd m1 q, fa1, (fiR.trans hr2.fr).trans ((Fr2.w0 (by omega)).trans st4.fr), st5, fun hG h20 h123 => ?_⟩
        · have bb := (nb_in (t (sk t w x5)) ((dd.1.2.2.2 _ cs.1).2)).2.2.2.1
          rw [vC2, hr1, ob, if_pos cs.1, if_pos (show ((nI (t (sk t w x5)), υ6) : Int32 × hM).1 = 59 from of_decide_eq_true (bb.trans (decide_eq_true cs.2)))]
          simp only [iflt]
          have L0 : ∀ ex2 : hM → Option (Int32 × hM), fX9_takeTask_L156 kT2 0 (nI (4 * m)) ex2 (5999 + 1) 0 υ6 = ex2 υ6 := fun ex2 => by rw [fX9_takeTask_L156, if_pos rfl]
          rw [L0, gI2, ob, hr4 20 (by decide), h20v h20, pI2, ob, nI_1, vC2, st2, ob]
        · have u12 : ∀ j, υ8.1 12 j = υ5.1 12 j := fun j => by rw [st4.2.1 12 (by decide), wIn (by decide), hr2.2.1 12 (by decide)]
          refine ⟨by have := st6 hG; omega, fa7, by rw [st4.2.2 20 (by omega), wIe], fun j hj => by rw [u12, v5.2.2.2 j (by omega)], fa2, ?_, ?_⟩
          · rw [u12, u12, u12, u12, v5.1, v5.2.1, v5.2.2.1, v5.2.2.2 (4 * m + 3) (by omega), h123]
            exact ⟨fa3, fa4, fa5, fa6⟩
          · rw [u12, u12, u12, u12, v5.1, v5.2.1, v5.2.2.1, v5.2.2.2 (4 * m + 3) (by omega), h123]
            exact ⟨bnd.1, bnd.2.1, bnd.2.2, by decide⟩
      · have c59 : ¬ (if sk t w x5 < w then nI (t (sk t w x5)) else (-1 : Int32)) = 59 := by
          by_cases q : sk t w x5 < w
          · rw [if_pos q]
            have bb := (nb_in (t (sk t w x5)) ((dd.1.2.2.2 _ q).2)).2.2.2.1
            exact of_decide_eq_false (bb.trans (decide_eq_false (fun z => cs ⟨q, z⟩)))
          · rw [if_neg q]; decide
        have refP : ∀ ex2 : hM → Option (Int32 × hM), ((vc kT2 0 9 (fX9_here kT2 0 υ5)).bind fun q17 => lt (if q17.1 = (59 : Int32) then (0 : Int32) else (1 : Int32)) fun x18 => fX9_takeTask_L156 kT2 0 (nI (4 * m)) ex2 6000 x18 q17.2) = fX9_takeTask_L156 kT2 0 (nI (4 * m)) ex2 6000 1 υ6 := fun ex2 => by
          rw [vC2, hr1, ob, if_neg c59]
          rfl
        have ss := sk_sk (t := t) dd.2.1
        by_cases cl : sk t w x5 < w ∧ 97 ≤ t (sk t w x5) ∧ t (sk t w x5) ≤ 122
        · -- parts
          rw [if_pos cl] at lt1
          have jp : jR τ6 υ6 w t (sk t w x5) 0 := ⟨_, _, lt3, (hr4 14 (by decide)).trans pp, fun _ => hr3⟩
          have ws6 : υ6.2.2 0 25 = some 12 := by rw [hr2.1]; exact u25
          by_cases h123 : υs.1 12 (4 * m + 3) = 0
          · obtain ⟨G, ag, X', τ7, υ7, p1, p2, p3, p4, p5', p6, p7, p8⟩ := parts_L (w := w) (t := t) hm 4 0 0 5999 6000 (sk t w x5) τ6 υ6 (by omega) (by decide) (by decide) (by omega) (by omega) ws6 (by rw [hr2.2.1 12 (by decide), v5.2.2.2 _ (by omega), h123, nI_0]) jp
            have rp : fX7_readParts kT1 1 τ6 = some (nI X', τ7) := by
              have L := pBd_eq (fun x8 u9 => some (x8, u9)) 5999 0 0 τ6
              unfold fX7_readParts
              rw [L, if_neg (by decide), if_pos rfl]
              rw [nI_0] at p1
              exact p1
            have jw := (p6.o1 (x := R' + 4) (j := m) (v := nI X') (by omega) (by omega)).o1 (x := R') (j := 4) (v := nI (m + 1)) (by omega) (by omega)
            have h7 : τ7.1 R' 4 = nI m := by rw [p4.2 R' (by omega), lt2.2 R' (by omega), wIn (by omega)]; exact z3
            have fi7 : Fr2 12 12 υs υ7 := (fiR.trans hr2.fr).trans ⟨p5'.1, fun x h0 h12 _ => p5'.2.1 x h0 h12, fun j hj => p5'.2.2.2 j (by omega)⟩
            have e7 : ∀ j, j ≠ 4 * m + 3 → υ7.1 12 j = υ5.1 12 j := fun j hj => by rw [p5'.2.2.1 j hj, hr2.2.1 12 (by decide)]
            have hG5 := p6.lt5
            by_cases hG : G = 0
            · subst hG
              obtain ⟨p8a, p8b⟩ := p8 rfl
              have jv := jw.o2 (x := 0) (j := 20) (v := nI (m + 1)) (by decide) (by omega)
              obtain ⟨τ8, υ8, H, ah, st1, st2, st3, st4, st5, st6⟩ := stop_both jv
              obtain ⟨fa1, fa2, fa3, fa4, fa5, fa6, fa7⟩ := frA τ7 τ8 (nI X') (lt2.trans p4) st3
              refine ⟨H, ah, τ8, υ8, cls 1 τ6 τ7 τ8 (nI X') lt1 (Or.inr ⟨by decide, rp⟩) h7 st1, fun _ h20 _ hus hcode => ref _ ?_ h20 hus hcode, fun q => absurd m1 q, fa1, (fi7.trans (Fr2.w0 (by omega))).trans st4.fr, st5, fun hH h20 _ => ?_⟩
              · rw [refP, p2 rfl, gI2, ob, p5'.2.2.2 20 (by omega), hr4 20 (by decide), h20v h20, pI2, ob, nI_1, vC2, st2, ob]
              · have u12 : ∀ j, υ8.1 12 j = υ7.1 12 j := fun j => by rw [st4.2.1 12 (by decide), wIn (by decide)]
                refine ⟨by have := st6 hH; omega, fa7, by rw [st4.2.2 20 (by omega), wIe], fun j hj => by rw [u12, e7 j (by omega), v5.2.2.2 j (by omega)], fa2, ?_, ?_⟩
                · rw [u12, u12, u12, u12, e7 _ (by omega), e7 _ (by omega), e7 _ (by omega), v5.1, v5.2.1, v5.2.2.1, p8b]
                  exact ⟨fa3, fa4, fa5, fa6⟩
                · rw [u12, u12, u12, u12, e7 _ (by omega), e7 _ (by omega), e7 _ (by omega), v5.1, v5.2.1, v5.2.2.1, p8b, nI_toInt (by omega)]
                  exact ⟨bnd.1, bnd.2.1, bnd.2.2, by omega⟩
            · obtain ⟨τ8, st1, st2, st3⟩ := stop_F hG jw
              obtain ⟨fa1, -⟩ := frA τ7 τ8 (nI X') (lt2.trans p4) st2
              exact ⟨G, _, τ8, υ7, cls 1 τ6 τ7 τ8 (nI X') lt1 (Or.inr ⟨by decide, rp⟩) h7 st1, fun _ h20 _ hus hcode => ref _ (by rw [refP, p3 hG]) h20 hus hcode, fun q => absurd m1 q, fa1, fi7, st3, fun q => absurd q hG⟩
          · -- this can't be asked for: the set is emptied first
            obtain ⟨τx, sx1, sx2, sx3⟩ : ∃ τx, fX7_readParts kT1 1 τ6 = some τx ∧ True ∧ True := by
              have L := pBd_eq (fun x8 u9 => some (x8, u9)) 5999 0 0 τ6
              have jq : jR τ6 (wI υ6 12 (4 * m + 3) 0) w t (sk t w x5) 0 := jp.o2 (by decide) (by omega)
              obtain ⟨G, ag, X', τ7, υ7, p1, -⟩ := parts_L (w := w) (t := t) hm 4 0 0 5999 6000 (sk t w x5) τ6 (wI υ6 12 (4 * m + 3) 0) (by omega) (by decide) (by decide) (by omega) (by omega) ws6 (by rw [wIe, nI_0]) jq
              rw [nI_0] at p1
              refine ⟨(nI X', τ7), ?_, trivial, trivial⟩
              unfold fX7_readParts
              rw [L, if_neg (by decide), if_pos rfl]
              exact p1
            have jq : jR τ6 (wI υ6 12 (4 * m + 3) 0) w t (sk t w x5) 0 := jp.o2 (by decide) (by omega)
            obtain ⟨G, ag, X', τ7, υ7, p1, p2, p3, p4, p5', p6, p7, p8⟩ := parts_L (w := w) (t := t) hm 4 0 0 5999 6000 (sk t w x5) τ6 (wI υ6 12 (4 * m + 3) 0) (by omega) (by decide) (by decide) (by omega) (by omega) ws6 (by rw [wIe, nI_0]) jq
            have rp : fX7_readParts kT1 1 τ6 = some (nI X', τ7) := by
              have L := pBd_eq (fun x8 u9 => some (x8, u9)) 5999 0 0 τ6
              unfold fX7_readParts
              rw [L, if_neg (by decide), if_pos rfl]
              rw [nI_0] at p1
              exact p1
            have jw := (p6.o1 (x := R' + 4) (j := m) (v := nI X') (by omega) (by omega)).o1 (x := R') (j := 4) (v := nI (m + 1)) (by omega) (by omega)
            have h7 : τ7.1 R' 4 = nI m := by rw [p4.2 R' (by omega), lt2.2 R' (by omega), wIn (by omega)]; exact z3
            have fi7 : Fr2 12 12 υs υ7 := ((fiR.trans hr2.fr).trans (Fr2.wr (Or.inl rfl) (by decide))).trans ⟨p5'.1, fun x h0 h12 _ => p5'.2.1 x h0 h12, fun j hj => p5'.2.2.2 j (by omega)⟩
            have hG5 := p6.lt5
            by_cases hG : G = 0
            · subst hG
              obtain ⟨τ8, υ8, H, ah, st1, st2, st3, st4, st5, st6⟩ := stop_both jw
              obtain ⟨fa1, -⟩ := frA τ7 τ8 (nI X') (lt2.trans p4) st3
              exact ⟨H, ah, τ8, υ8, cls 1 τ6 τ7 τ8 (nI X') lt1 (Or.inr ⟨by decide, rp⟩) h7 st1, fun _ _ q => absurd q h123, fun q => absurd m1 q, fa1, fi7.trans st4.fr, st5, fun _ _ q => absurd q h123⟩
            · obtain ⟨τ8, st1, st2, st3⟩ := stop_F hG jw
              obtain ⟨fa1, -⟩ := frA τ7 τ8 (nI X') (lt2.trans p4) st2
              exact ⟨G, _, τ8, υ7, cls 1 τ6 τ7 τ8 (nI X') lt1 (Or.inr ⟨by decide, rp⟩) h7 st1, fun _ _ q => absurd q h123, fun q => absurd m1 q, fa1, fi7, st3, fun q => absurd q hG⟩
        · -- neither a stop nor a letter
          rw [if_neg cl] at lt1
          have cw := lt3.oth (x := R' + 4) (j := m) (v := 0) (by omega) (by omega)
          have cw2 := cw.oth (x := R') (j := 4) (v := nI (m + 1)) (by omega) (by omega)
          obtain ⟨τ8, st1, st2, -, st4⟩ := ev_readSign (m := 59) (fun v hv => (sb_in v hv).2.2.2.1) cw2
          have st4 := st4 rfl
          rw [ss, if_neg cs] at st4
          obtain ⟨fa1, fa2, fa3, fa4, fa5, fa6, fa7⟩ := frA τ6 τ8 0 lt2 st2
          have ws6 : υ6.2.2 0 25 = some 12 := by rw [hr2.1]; exact u25
          by_cases h123 : υs.1 12 (4 * m + 3) = 0
          · have h6 : υ6.1 12 (4 * m + 3) = nI 0 := by rw [hr2.2.1 12 (by decide), v5.2.2.2 _ (by omega), h123, nI_0]
            obtain ⟨υ7, tp1, tp2, tp3, tp4, tp5, tp6, -⟩ := ev_takePart (X := 0) hm (by decide) ws6 h6 hr3
            rw [ss] at tp6
            have rE : rn t w 97 122 (sk t w x5) = sk t w x5 := by
              have q1 := rn_in (t := t) (lo := 97) (hi := 122) skE.2
              have q2 := rn_lt (t := t) (lo := 97) (hi := 122) skE.2
              have := mt q2.mp cl
              omega
            rw [rE, tkl_nil] at tp6
            have tp6 := tp6 (by decide)
            refine ⟨1, _, τ8, wI υ7 0 14 (nI (sk t w x5)), cls 0 τ6 τ6 τ8 0 lt1 (Or.inl ⟨rfl, rfl, rfl⟩) (by rw [lt2.2 R' (by omega), wIn (by omega)]; exact z3) st1, fun _ h20 _ hus hcode => ref _ ?_ h20 hus hcode, fun q => absurd m1 q, fa1, (fiR.trans hr2.fr).trans (tp2.fr.trans (Fr2.w0 (by omega))), ⟨_, _, st4, wIe, fun q => absurd q (by decide)⟩, fun q => absurd q (by decide)⟩
            rw [refP]
            have L0 : ∀ ex2 : hM → Option (Int32 × hM), fX9_takeTask_L156 kT2 0 (nI (4 * m)) ex2 (5999 + 1) 1 υ6 = some (nI 1, wI υ7 0 14 (nI (sk t w x5))) := fun ex2 => by
              rw [fX9_takeTask_L156, if_neg (by decide), vC2, tp6, ob, if_neg (show ¬ ((1 : Int32), wI υ7 0 14 (nI (sk t w x5))).1 ≤ 0 from (by decide : ¬ (1 : Int32) ≤ 0))]
              rfl
            exact L0 _
          · exact ⟨1, _, τ8, wI υ6 0 14 (nI (sk t w x5)), cls 0 τ6 τ6 τ8 0 lt1 (Or.inl ⟨rfl, rfl, rfl⟩) (by rw [lt2.2 R' (by omega), wIn (by omega)]; exact z3) st1, fun _ _ q => absurd q h123, fun q => absurd m1 q, fa1, (fiR.trans hr2.fr).trans (Fr2.w0 (by omega)), ⟨_, _, st4, wIe, fun q => absurd q (by decide)⟩, fun q => absurd q (by decide)⟩
    · -- a fault ahead of the parts
      have j6 : jR τ6 υ5 w t (sk t w x5) F5 := ⟨_, _, lt3, pp, fun q => absurd q hF⟩
      have jw := (j6.o1 (x := R' + 4) (j := m) (v := 0) (by omega) (by omega)).o1 (x := R') (j := 4) (v := nI (m + 1)) (by omega) (by omega)
      obtain ⟨τ8, st1, st2, st3⟩ := stop_F hF jw
      obtain ⟨fa1, -⟩ := frA τ6 τ8 0 lt2 st2
      have h7 : τ6.1 R' 4 = nI m := by rw [lt2.2 R' (by omega), wIn (by omega)]; exact z3
      have cl : ∀ (ex : hM → Option hM) (f : Nat), fX7_readFrom_L11 kT1 R' 1 ex (f + 1) (nI i) τ = fX7_readFrom_L11 kT1 R' 1 ex f (nI (i + 1)) τ8 := by
        by_cases b : sk t w x5 < w ∧ 97 ≤ t (sk t w x5) ∧ t (sk t w x5) ≤ 122
        · rw [if_pos b] at lt1
          exact cls 1 τ6 τ6 τ8 0 lt1 (Or.inr ⟨by decide, ev_partsF hF lt3⟩) h7 st1
        · rw [if_neg b] at lt1
          exact cls 0 τ6 τ6 τ8 0 lt1 (Or.inl ⟨rfl, rfl, rfl⟩) h7 st1
      refine ⟨F5, _, τ8, υ5, cl, fun hF0 h20 _ hus hcode => ?_, fun q => ?_, fa1, fiR, st3, fun q => absurd q hF⟩
      · have i1' := i1 hF0
        rw [hus] at i1'
        have w25a : υ1.2.2 0 25 = some 12 := by rw [f2.1]; exact w25
        have h20' : (wI υ1 0 15 (nI E)).1 0 20 = nI m := by rw [wIk (by decide)]; exact s2
        unfold fX9_takeTask
        rw [vC2, d1, ob, gL2, ob, hcode, cd_task_, ob, if_pos rfl, gI2, ob, s2, if_neg (show ¬ nI m = 6 from neI (b := 6) (by omega) (by decide) (by omega)), gI2, ob, d5, pI2, ob, gI2, ob, h20', mul_nI 4 4 rfl, iflt, gR2, wrr, w25a, ob, show nI (4 * m) + 3 = nI (4 * m + 3) from ix 3 3 rfl, sA2 12 24 (k := 4 * m + 3) (by omega), ob, gR2, wrr, wrr, w25a, ob, vC2, i1', ob]
        rw [j2, j3, if_neg (nI_nle (by omega) (by omega))]
      · have w1 := o1 q
        have w2 := o2 (by rw [w1.1]; exact q)
        have w3 := o3 (by rw [w2.1, w1.1]; exact q)
        exact ⟨by rw [w3.1, w2.1, w1.1], by rw [w3.2, w2.2, w1.2]⟩
  by_cases hN : tkl t A E = [116, 97, 115, 107]
  · have v0 : wix (tkl t A E) (wds 3) 0 = 0 := by rw [wx, if_pos hN, nI_0]
    have c4' := c4 (by rw [v0]; decide)
    rw [v0] at c1
    have hcode : υ1.2.1 0 16 = lN (cdl [116, 97, 115, 107]) := isT.mpr hN
    by_cases h6 : m = 6
    · obtain ⟨τ2, e1, e2, e3⟩ := ev_blame (m := 3) (by decide) c4'
      rw [if_pos rfl, if_pos rfl] at e3
      have jr : jR τ2 (wI υ1 0 14 (nI A)) w t E 3 := ⟨_, _, e3, wIe, fun q => absurd q (by decide)⟩
      obtain ⟨τ3, g1, g2, g3⟩ := stop_F (by decide) jr
      refine fin 3 E m τ3 (wI υ1 0 14 (nI A)) (clB 0 τ2 τ3 c1 h6 e1 g1) ?_ ((f1.trans e2).trans g2).fr (f2.trans (F2.w (by omega))).fr g3 (fun q => absurd q (by decide))
      unfold fX9_takeTask
      rw [vC2, d1, ob, gL2, ob, hcode, cd_task_, ob, if_pos rfl, gI2, ob, s2, if_pos (show nI m = 6 by rw [h6]; rfl), gI2, ob, d3.2.2, vC2, ev_fails, ob]
      rfl
    · have hm : m < 6 := by omega
      have jr : jR τ1 (wI (wI υ1 0 15 (nI E)) 12 (4 * m + 3) 0) w t E 0 := ⟨_, _, c4', by rw [wIn (by decide), wIk (by decide)]; exact d4, fun _ => (d3.at hEw).oth (by decide) (by omega)⟩
      have us20 : (wI (wI υ1 0 15 (nI E)) 12 (4 * m + 3) 0).1 0 20 = nI m := by rw [wIn (by decide), wIk (by decide)]; exact s2
      obtain ⟨F, a', τ', υ', x1, x2, -, x4, x5, x6, x7⟩ := main 0 (wI (wI υ1 0 15 (nI E)) 12 (4 * m + 3) 0) 0 hm c1 jr (by rw [wrr, wrr, f2.1]; exact w25)
      refine fin F a' (m + 1) τ' υ' x1 (x2 rfl us20 wIe rfl hcode) (f1.fr.trans x4) ((f2.fr.trans ((Fr2.w0 (by omega)).trans (Fr2.wr (Or.inl rfl) (by decide)))).trans x5) x6 (fun hF => ?_)
      obtain ⟨y1, y2, y3, y4, y5, y6, y7⟩ := x7 hF us20 wIe
      refine ⟨by omega, by omega, y2, y3, fun j hj => ?_⟩
      by_cases e : j = m
      · subst e
        exact ⟨y6, y7⟩
      · have z : ∀ q, q < 4 → υ'.1 12 (4 * j + q) = υ.1 12 (4 * j + q) := fun q hq => by rw [y4 _ (by omega), wIk (by omega), wIn (by decide), f2.2.1 12 (by decide)]
        have z0 := z 0 (by decide)
        rw [Nat.add_zero] at z0
        rw [y5 (R' + 1) j (by omega) (by omega) (by omega), y5 (R' + 2) j (by omega) (by omega) (by omega), y5 (R' + 3) j (by omega) (by omega) (by omega), y5 (R' + 4) j (by omega) (by omega) (by omega), f1.2 _ (by omega), f1.2 _ (by omega), f1.2 _ (by omega), f1.2 _ (by omega), z0, z 1 (by decide), z 2 (by decide), z 3 (by decide)]
        exact hmk j (by omega)
  · have v2 : wix (tkl t A E) (wds 3) 0 = -1 := by rw [wx, if_neg hN]
    have c3' := c3 v2
    rw [v2] at c1
    have jr : jR τ1 (wI υ1 0 14 (nI A)) w t E 1 := ⟨_, _, c3', wIe, fun q => absurd q (by decide)⟩
    have tn : fX9_takeTask kT2 0 υ0 = some (nI 1, wI υ1 0 14 (nI A)) := by
      unfold fX9_takeTask
      rw [vC2, d1, ob, gL2, ob, cd_task_, ob, if_neg (fun q => hN (isT.mp q)), gI2, ob, d3.2.2, vC2, ev_fails, ob]
      rfl
    by_cases h6 : m = 6
    · obtain ⟨τ2, e1, e2, e3⟩ := blame_F (m := 3) (by decide) (by decide) jr
      obtain ⟨τ3, g1, g2, g3⟩ := stop_F (by decide) e3
      exact fin 1 E m τ3 _ (clB (-1) τ2 τ3 c1 h6 e1 g1) tn ((f1.trans e2).trans g2).fr (f2.trans (F2.w (by omega))).fr g3 (fun q => absurd q (by decide))
    · obtain ⟨F, a', τ', υ', x1, -, x3, x4, x5, x6, -⟩ := main (-1) (wI υ1 0 14 (nI A)) 1 (by omega) c1 jr (by rw [wrr, f2.1]; exact w25)
      obtain ⟨y1, y2⟩ := x3 (by decide)
      subst y1
      subst y2
      exact fin 1 a' (m + 1) τ' _ x1 tn (f1.fr.trans x4) (f2.trans (F2.w (by omega))).fr x6 (fun q => absurd q (by decide))
end TASK
