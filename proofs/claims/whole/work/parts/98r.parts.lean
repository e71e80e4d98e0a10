/-! PARTS OF TASKS -/
section PARTS
variable {υ : hM} {t : Nat → Nat} {A E : Nat}
theorem part_one (hAE : A ≤ E) (hlet : ∀ j, A ≤ j → j < E → 97 ≤ t j ∧ t j ≤ 122) (d6 : υ.2.1 0 16 = lN (cdl (tkl t A E))) (J : Int32 → hM → Option (Int32 × hM)) : lt J (fun K => if υ.2.1 0 16 = (3690 : Int64) then (K (0 : Int32) υ) else ((some (υ.2.1 0 16)).bind fun x17 => (fX9_code kT2 (118 : Int32) (111 : Int32) (105 : Int32) (99 : Int32) υ).bind fun q18 => (fX9_longer kT2 q18.1 (101 : Int32) q18.2).bind fun q19 => if x17 = q19.1 then (K (1 : Int32) q19.2) else ((gtl kT2 q19.2 0 9 16).bind fun x20 => (fX9_code kT2 (109 : Int32) (101 : Int32) (109 : Int32) (111 : Int32) q19.2).bind fun q21 => (fX9_longer kT2 q21.1 (114 : Int32) q21.2).bind fun q22 => (fX9_longer kT2 q22.1 (121 : Int32) q22.2).bind fun q23 => if x20 = q23.1 then (K (2 : Int32) q23.2) else ((gtl kT2 q23.2 0 9 16).bind fun x24 => (fX9_code kT2 (114 : Int32) (97 : Int32) (110 : Int32) (103 : Int32) q23.2).bind fun q25 => (fX9_longer kT2 q25.1 (101 : Int32) q25.2).bind fun q26 => if x24 = q26.1 then (K (3 : Int32) q26.2) else (K (-1 : Int32) q26.2))))) = J (wix (tkl t A E) (wds 4) 0) υ := by
  have is_ear : υ.2.1 0 16 = lN (cdl [101, 97, 114]) ↔ tkl t A E = [101, 97, 114] := word_is hAE hlet d6 rfl (by decide) (by decide +kernel)
  have is_voice : υ.2.1 0 16 = lN (cdl [118, 111, 105, 99, 101]) ↔ tkl t A E = [118, 111, 105, 99, 101] := word_is hAE hlet d6 rfl (by decide) (by decide +kernel)
  have is_memory : υ.2.1 0 16 = lN (cdl [109, 101, 109, 111, 114, 121]) ↔ tkl t A E = [109, 101, 109, 111, 114, 121] := word_is hAE hlet d6 rfl (by decide) (by decide +kernel)
  have is_range : υ.2.1 0 16 = lN (cdl [114, 97, 110, 103, 101]) ↔ tkl t A E = [114, 97, 110, 103, 101] := word_is hAE hlet d6 rfl (by decide) (by decide +kernel)
  have e0 : (3690 : Int64) = lN (cdl [101, 97, 114]) := by decide +kernel
  have wx : wix (tkl t A E) (wds 4) 0 = if tkl t A E = [101, 97, 114] then nI 0 else if tkl t A E = [118, 111, 105, 99, 101] then nI 1 else if tkl t A E = [109, 101, 109, 111, 114, 121] then nI 2 else if tkl t A E = [114, 97, 110, 103, 101] then nI 3 else -1 := rfl
  simp only [iflt]
  rw [e0, wx]
  by_cases h0 : tkl t A E = [101, 97, 114]
  · rw [if_pos (is_ear.mpr h0), if_pos h0]; rfl
  · rw [if_neg (fun q => h0 (is_ear.mp q)), ob, cd_voic_, ob, ev_longer cl_voice_, ob]
    by_cases h1 : tkl t A E = [118, 111, 105, 99, 101]
    · rw [if_pos (is_voice.mpr h1), if_neg h0, if_pos h1]; rfl
    · rw [if_neg (fun q => h1 (is_voice.mp q)), gL2, ob, cd_memo_, ob, ev_longer cl_memor_, ob, ev_longer cl_memory_, ob]
      by_cases h2 : tkl t A E = [109, 101, 109, 111, 114, 121]
      · rw [if_pos (is_memory.mpr h2), if_neg h0, if_neg h1, if_pos h2]; rfl
      · rw [if_neg (fun q => h2 (is_memory.mp q)), gL2, ob, cd_rang_, ob, ev_longer cl_range_, ob]
        by_cases h3 : tkl t A E = [114, 97, 110, 103, 101]
        · rw [if_pos (is_range.mpr h3), if_neg h0, if_neg h1, if_neg h2, if_pos h3]; rfl
        · rw [if_neg (fun q => h3 (is_range.mp q)), if_neg h0, if_neg h1, if_neg h2, if_neg h3]
end PARTS
def pcn (X : Nat) : Nat := (((X.testBit 0).toNat + (X.testBit 1).toNat) + (X.testBit 2).toNat) + (X.testBit 3).toNat
theorem pcn_s : ∀ X, X < 16 → ∀ q, q < 4 → X.testBit q = false → (X ||| 2 ^ q) < 16 ∧ pcn (X ||| 2 ^ q) = pcn X + 1 := by decide +kernel
theorem pcn_or : ∀ X, X < 16 → ∀ q, q < 4 → (X ||| 2 ^ q) < 16 := by decide +kernel
theorem pcn_4 : ∀ X, X < 16 → pcn X = 4 → ∀ q, q < 4 → X.testBit q = true := by decide +kernel
theorem wix4 (l : List Nat) : wix l (wds 4) 0 = -1 ∨ ∃ q, q < 4 ∧ wix l (wds 4) 0 = nI q := by
  simp only [wds, wix]
  repeat' split
  all_goals first
    | exact Or.inr ⟨0, by decide, rfl⟩
    | exact Or.inr ⟨1, by decide, rfl⟩
    | exact Or.inr ⟨2, by decide, rfl⟩
    | exact Or.inr ⟨3, by decide, rfl⟩
    | exact Or.inl rfl
theorem bit_if {X q : Nat} (hX : X < 64) (hq : q < 6) {β : Type} {x y : β} : (if ((nI X >>> (nI q &&& 31)) &&& (1 : Int32)) = 1 then x else y) = if X.testBit q = true then x else y := by
  have b := isBit X hX q hq
  by_cases e : X.testBit q = true
  · rw [e] at b
    rw [if_pos e, if_pos (of_decide_eq_true b)]
  · rw [Bool.not_eq_true] at e
    rw [e] at b
    rw [if_neg (of_decide_eq_false b), if_neg (by rw [e]; decide)]
theorem ev_has {X q : Nat} {u : hM} (hX : X < 64) (hq : q < 6) : fX9_has kT2 (nI X) (nI q) u = some (if X.testBit q = true then 1 else 0, u) := by
  unfold fX9_has
  rw [bit_if hX hq]
  split <;> rfl
section PARTS2
variable {τ υ : hM} {w : Nat} {t : Nat → Nat} {a m X : Nat}
/-- a part on the reference's side -/
theorem ev_takePart (hm : m < 6) (hX : X < 16) (w25 : υ.2.2 0 25 = some 12) (h12 : υ.1 12 (4 * m + 3) = nI X) (h : dR υ w t a) : ∃ υ', fX9_readWord kT2 0 υ = some υ' ∧ F2 υ υ' ∧ dR υ' w t (sk t w a) ∧ υ'.1 0 14 = υ.1 0 14 ∧ υ'.1 0 17 = nI (rn t w 97 122 (sk t w a)) ∧ (wix (tkl t (sk t w a) (rn t w 97 122 (sk t w a))) (wds 4) 0 = -1 → fX9_takePart kT2 0 (nI (4 * m)) υ = some (1, wI υ' 0 14 (nI (sk t w a)))) ∧ ∀ q, q < 4 → wix (tkl t (sk t w a) (rn t w 97 122 (sk t w a))) (wds 4) 0 = nI q → fX9_takePart kT2 0 (nI (4 * m)) υ = if X.testBit q = true then some (4, wI υ' 0 14 (nI (sk t w a))) else some (0, wI (wI υ' 0 15 (nI (rn t w 97 122 (sk t w a)))) 12 (4 * m + 3) (nI (X ||| 2 ^ q))) := by
  obtain ⟨υ', g1, g2, g3, g4, g5, g6⟩ := ev_word h
  have hin := rn_in (t := t) (lo := 97) (hi := 122) (sk_in (t := t) h.2.1).2
  have hlet : ∀ j, sk t w a ≤ j → j < rn t w 97 122 (sk t w a) → 97 ≤ t j ∧ t j ≤ 122 := fun j j1 j2 => rn_letter j1 j2
  have u25 : υ'.2.2 0 25 = some 12 := by rw [g2.1]; exact w25
  have u12 : υ'.1 12 (4 * m + 3) = nI X := by rw [g2.2.1 12 (by decide)]; exact h12
  have ix : nI (4 * m) + 3 = nI (4 * m + 3) := nI_add (4 * m) 3
  refine ⟨υ', g1, g2, g3, g4, g5, fun e => ?_, fun q hq e => ?_⟩
  · unfold fX9_takePart
    rw [vC2, g1, ob, gL2, ob, part_one hin.1 hlet g6, e, if_neg (show ¬ (0 : Int32) ≤ -1 by decide), gI2, ob, g3.2.2, vC2, ev_fails, ob]
  · unfold fX9_takePart
    rw [vC2, g1, ob, gL2, ob, part_one hin.1 hlet g6, e, if_pos (nI_pos' (by omega)), gR2, u25, ob, ix, lA2 12 24 (k := 4 * m + 3) (by omega), ob, u12, ev_has (by omega) (by omega), ob]
    by_cases b : X.testBit q = true
    · rw [ifb1 b, if_pos b, gI2, ob, g3.2.2, vC2, ev_fails, ob, if_pos b]
    · rw [ifb0 (by simpa using b), if_neg b, gI2, ob, g5, pI2, ob, gR2, wrr, u25, ob, lA2 12 24 (k := 4 * m + 3) (by omega), ob, wIn (by decide), u12, shl31 q (by omega), or_nI, sA2 12 24 (k := 4 * m + 3) (by omega), ob, if_neg b]
/-- what the class does for a part, once it may -/
def pBd (ex : Int32 → hM → Option (Int32 × hM)) (n : Nat) (v1 v2 : Int32) (u : hM) : Option (Int32 × hM) := (vc kT1 1 6 (fX6_readWord kT1 1 4 u)).bind fun q2 => if q2.1 = (-1 : Int32) then (some (v1, q2.2)) else (if ((v1 >>> (q2.1 &&& 31)) &&& (1 : Int32)) = (1 : Int32) then ((vc kT1 1 6 (fX6_blame kT1 1 (4 : Int32) q2.2)).bind fun q6 => fX7_readParts_L4 kT1 1 ex n (v1 ||| ((1 : Int32) <<< (q2.1 &&& 31))) (v2 + (1 : Int32)) q6) else (fX7_readParts_L4 kT1 1 ex n (v1 ||| ((1 : Int32) <<< (q2.1 &&& 31))) (v2 + (1 : Int32)) q2.2))
theorem pBd_eq (ex : Int32 → hM → Option (Int32 × hM)) (n : Nat) (v1 v2 : Int32) (u : hM) : fX7_readParts_L4 kT1 1 ex (n + 1) v1 v2 u = if (4 : Int32) < v2 then ex v1 u else (if v2 = 0 then pBd ex n v1 v2 u else ((vc kT1 1 6 (fX6_readIf kT1 1 (44 : Int32) u)).bind fun q7 => if q7.1 = 0 then (ex v1 q7.2) else (pBd ex n v1 v2 q7.2))) := by
  rw [fX7_readParts_L4]
  rfl
theorem parts_L (hm : m < 6) : ∀ (d k X n g a : Nat) (τ υ : hM), k + d = 4 → pcn X = k → X < 16 → d + 2 < n → d + 2 < g → υ.2.2 0 25 = some 12 → υ.1 12 (4 * m + 3) = nI X → jR τ υ w t a 0 → ∃ (F a' X' : Nat) (τ' υ' : hM), pBd (fun x8 u9 => some (x8, u9)) n (nI X) (nI k) τ = some (nI X', τ') ∧ (F = 0 → ∀ ex2 : hM → Option (Int32 × hM), fX9_takeTask_L156 kT2 0 (nI (4 * m)) ex2 g 1 υ = ex2 υ') ∧ (F ≠ 0 → ∀ ex2 : hM → Option (Int32 × hM), fX9_takeTask_L156 kT2 0 (nI (4 * m)) ex2 g 1 υ = some (nI F, υ')) ∧ F1 τ τ' ∧ Fi 12 (4 * m + 3) υ υ' ∧ jR τ' υ' w t a' F ∧ X' < 16 ∧ (F = 0 → a ≤ a' ∧ υ'.1 12 (4 * m + 3) = nI X') := by
  intro d
  induction d with
  | zero =>
    intro k X n g a τ υ hk hpc hX hn hg w25 h12 h
    obtain ⟨n, rfl⟩ : ∃ n', n = n' + 1 := ⟨n - 1, by omega⟩
    obtain ⟨g, rfl⟩ : ∃ g', g = g' + 1 := ⟨g - 1, by omega⟩
    obtain ⟨k0, p, h1, h2, h3⟩ := id h
    have hk4 : k = 4 := by omega
    obtain ⟨τ1, c1, c2, c3, c4⟩ := ev_readWord0 (i := 4) (by decide) h1
    obtain ⟨υ1, g1, g2, g3, g4, g5, g6, g7⟩ := ev_takePart hm hX w25 h12 (h3 rfl)
    have fiA : Fi 12 (4 * m + 3) υ (wI υ1 0 14 (nI (sk t w a))) := ⟨g2.1, fun x h0 _ => (wIn h0).trans (g2.2.1 x h0), fun j _ => by rw [wIn (by decide), g2.2.1 12 (by decide)], fun j hj => by rw [wIk (by omega)]; exact g2.2.2 j hj⟩
    unfold pBd
    rw [vC1 1 6, c1, ob]
    rcases wix4 (tkl t (sk t w a) (rn t w 97 122 (sk t w a))) with e | ⟨q, hq, e⟩
    · rw [if_pos e]
      refine ⟨1, _, X, τ1, _, rfl, fun q => absurd q (by decide), fun _ ex2 => ?_, c2, fiA, ⟨_, _, c3 e, wIe, fun q => absurd q (by decide)⟩, hX, fun q => absurd q (by decide)⟩
      rw [fX9_takeTask_L156, if_neg (by decide), vC2, g6 e, ob, if_neg (show ¬ ((1 : Int32), wI υ1 0 14 (nI (sk t w a))).1 ≤ 0 from (by decide : ¬ (1 : Int32) ≤ 0))]
      rfl
    · have ne : ¬ nI q = -1 := nI_m1 (by omega)
      have bt := pcn_4 X hX (by omega) q hq
      have c4' := c4 (by rw [e]; exact ne)
      obtain ⟨τ2, x1, x2, x3⟩ := ev_blame (m := 4) (by decide) c4'
      rw [if_pos rfl, if_pos rfl] at x3
      rw [if_neg (by rw [e]; exact ne), e, bit_if (by omega) (by omega), if_pos bt, vC1 1 6, show fX6_blame kT1 1 4 τ1 = some τ2 from x1, ob, shl31 q (by omega), or_nI, hk4, show nI 4 + 1 = nI 5 from rfl, pBd_eq, if_pos (by decide)]
      refine ⟨4, _, X ||| 2 ^ q, τ2, _, rfl, fun q => absurd q (by decide), fun _ ex2 => ?_, c2.trans x2, fiA, ⟨_, _, x3, wIe, fun q => absurd q (by decide)⟩, pcn_or X hX q hq, fun q => absurd q (by decide)⟩
      rw [fX9_takeTask_L156, if_neg (by decide), vC2, g7 q hq e, if_pos bt, ob, if_neg (show ¬ ((4 : Int32), wI υ1 0 14 (nI (sk t w a))).1 ≤ 0 from (by decide : ¬ (4 : Int32) ≤ 0))]
      rfl
  | succ d ih =>
    intro k X n g a τ υ hk hpc hX hn hg w25 h12 h
    obtain ⟨n, rfl⟩ : ∃ n', n = n' + 1 := ⟨n - 1, by omega⟩
    obtain ⟨g, rfl⟩ : ∃ g', g = g' + 1 := ⟨g - 1, by omega⟩
    obtain ⟨k0, p, h1, h2, h3⟩ := id h
    have n4 : ¬ (4 : Int32) < nI (k + 1) := nI_nlt (a := 4) (by omega) (by decide)
    have nk : ¬ nI (k + 1) = 0 := nI_ne0 (by omega) (by omega)
    obtain ⟨τ1, c1, c2, c3, c4⟩ := ev_readWord0 (i := 4) (by decide) h1
    obtain ⟨υ1, g1, g2, g3, g4, g5, g6, g7⟩ := ev_takePart hm hX w25 h12 (h3 rfl)
    have hsk := sk_in (t := t) h1.2.1.1
    have hin := rn_in (t := t) (lo := 97) (hi := 122) hsk.2
    have fiA : Fi 12 (4 * m + 3) υ (wI υ1 0 14 (nI (sk t w a))) := ⟨g2.1, fun x h0 _ => (wIn h0).trans (g2.2.1 x h0), fun j _ => by rw [wIn (by decide), g2.2.1 12 (by decide)], fun j hj => by rw [wIk (by omega)]; exact g2.2.2 j hj⟩
    unfold pBd
    rw [vC1 1 6, c1, ob]
    rcases wix4 (tkl t (sk t w a) (rn t w 97 122 (sk t w a))) with e | ⟨q, hq, e⟩
    · rw [if_pos e]
      refine ⟨1, _, X, τ1, _, rfl, fun q => absurd q (by decide), fun _ ex2 => ?_, c2, fiA, ⟨_, _, c3 e, wIe, fun q => absurd q (by decide)⟩, hX, fun q => absurd q (by decide)⟩
      rw [fX9_takeTask_L156, if_neg (by decide), vC2, g6 e, ob, if_neg (show ¬ ((1 : Int32), wI υ1 0 14 (nI (sk t w a))).1 ≤ 0 from (by decide : ¬ (1 : Int32) ≤ 0))]
      rfl
    · have ne : ¬ nI q = -1 := nI_m1 (by omega)
      have c4' := c4 (by rw [e]; exact ne)
      rw [if_neg (by rw [e]; exact ne), e, bit_if (by omega) (by omega)]
      by_cases bt : X.testBit q = true
      · obtain ⟨τ2, x1, x2, x3⟩ := ev_blame (m := 4) (by decide) c4'
        rw [if_pos rfl, if_pos rfl] at x3
        obtain ⟨τ3, y1, y2, y3⟩ := ev_readIf (m := 44) (fun v hv => (sb_in v hv).2.2.2.2) x3
        rw [if_neg (show ¬ (4 = 0 ∧ sk t w (rn t w 97 122 (sk t w a)) < w ∧ t (sk t w (rn t w 97 122 (sk t w a))) = 44) from fun z => absurd z.1 (by decide))] at y1
        rw [if_neg (show ¬ 4 = 0 by decide), if_neg (show ¬ 4 = 0 by decide)] at y3
        rw [if_pos bt, vC1 1 6, show fX6_blame kT1 1 4 τ1 = some τ2 from x1, ob, shl31 q (by omega), or_nI, nI_1, pBd_eq, if_neg n4, if_neg nk, vC1 1 6, show fX6_readIf kT1 1 44 τ2 = _ from y1, ob, if_pos (show ((0 : Int32), τ3).1 = 0 from rfl)]
        refine ⟨4, _, X ||| 2 ^ q, τ3, _, rfl, fun q => absurd q (by decide), fun _ ex2 => ?_, (c2.trans x2).trans y2, fiA, ⟨_, _, y3, wIe, fun q => absurd q (by decide)⟩, pcn_or X hX q hq, fun q => absurd q (by decide)⟩
        rw [fX9_takeTask_L156, if_neg (by decide), vC2, g7 q hq e, if_pos bt, ob, if_neg (show ¬ ((4 : Int32), wI υ1 0 14 (nI (sk t w a))).1 ≤ 0 from (by decide : ¬ (4 : Int32) ≤ 0))]
        rfl
      · obtain ⟨px1, px2⟩ := pcn_s X hX q hq (by simpa using bt)
        obtain ⟨τ3, y1, y2, y3⟩ := ev_readIf (m := 44) (fun v hv => (sb_in v hv).2.2.2.2) c4'
        have dE : dR (wI (wI υ1 0 15 (nI (rn t w 97 122 (sk t w a)))) 12 (4 * m + 3) (nI (X ||| 2 ^ q))) w t (rn t w 97 122 (sk t w a)) := (g3.at hin.2).oth (by decide) (by omega)
        obtain ⟨υ2, z1, z2, z3, z4, -⟩ := ev_here dE
        rw [if_pos rfl, if_pos rfl] at y3
        have fiB : Fi 12 (4 * m + 3) υ υ2 := ⟨z2.1.trans g2.1, fun x h0 h12 => by rw [z2.2.1 x h0, wIn h12, wIn h0, g2.2.1 x h0], fun j hj => by rw [z2.2.1 12 (by decide), wIk (by omega), wIn (by decide), g2.2.1 12 (by decide)], fun j hj => by rw [z2.2.2 j hj, wIn (by decide), wIk (by omega), g2.2.2 j hj]⟩
        have e14 : υ2.1 0 14 = p := by rw [z4 14 (by decide), wIn (by decide), wIk (by decide), g4]; exact h2
        have e12 : υ2.1 12 (4 * m + 3) = nI (X ||| 2 ^ q) := by rw [z2.2.1 12 (by decide), wIe]
        have hE := sk_in (t := t) hin.2
        have cd : (if sk t w (rn t w 97 122 (sk t w a)) < w then nI (t (sk t w (rn t w 97 122 (sk t w a)))) else (-1 : Int32)) = 44 ↔ (sk t w (rn t w 97 122 (sk t w a)) < w ∧ t (sk t w (rn t w 97 122 (sk t w a))) = 44) := by
          by_cases q : sk t w (rn t w 97 122 (sk t w a)) < w
          · rw [if_pos q]
            have bb := (nb_in _ ((h3 rfl).1.2.2.2 _ q).2).2.2.2.2
            exact ⟨fun z => ⟨q, of_decide_eq_true (bb.symm.trans (decide_eq_true z))⟩, fun z => of_decide_eq_true (bb.trans (decide_eq_true z.2))⟩
          · rw [if_neg q]
            exact ⟨fun z => absurd z (by decide), fun z => absurd z.1 q⟩
        rw [if_neg bt, shl31 q (by omega), or_nI, nI_1, pBd_eq, if_neg n4, if_neg nk, vC1 1 6, show fX6_readIf kT1 1 44 τ1 = _ from y1, ob]
        have hw := h1.1.2.2.1
        generalize hB : sk t w (rn t w 97 122 (sk t w a)) = B at *
        by_cases cm : B < w ∧ t B = 44
        · rw [if_pos cm] at y3
          rw [if_pos (show 0 = 0 ∧ B < w ∧ t B = 44 from ⟨rfl, cm⟩), if_neg (show ¬ ((1 : Int32), τ3).1 = 0 from (by decide : ¬ (1 : Int32) = 0))]
          have jr : jR τ3 (wI υ2 0 15 (nI (B + 1))) w t (B + 1) 0 := ⟨_, _, y3, by rw [wIk (by decide)]; exact e14, fun _ => z3.at (by omega)⟩
          obtain ⟨F, a', X', τ', υ', i1, i2, i3, i4, i5, i6, i7, i8⟩ := ih (k + 1) (X ||| 2 ^ q) n g (B + 1) τ3 (wI υ2 0 15 (nI (B + 1))) (by omega) (by omega) px1 (by omega) (by omega) (by rw [wrr, fiB.1]; exact w25) (by rw [wIn (by decide)]; exact e12) jr
          have ref : ∀ ex2 : hM → Option (Int32 × hM), fX9_takeTask_L156 kT2 0 (nI (4 * m)) ex2 (g + 1) 1 υ = fX9_takeTask_L156 kT2 0 (nI (4 * m)) ex2 g 1 (wI υ2 0 15 (nI (B + 1))) := fun ex2 => by
            rw [fX9_takeTask_L156, if_neg (by decide), vC2, g7 q hq e, if_neg bt, ob, if_pos (show ((0 : Int32), wI (wI υ1 0 15 (nI (rn t w 97 122 (sk t w a)))) 12 (4 * m + 3) (nI (X ||| 2 ^ q))).1 ≤ 0 from (by decide : (0 : Int32) ≤ 0)), vC2, z1, ob, if_pos (cd.mpr cm)]
            simp only [iflt]
            rw [gI2, ob, z3.2.2, if_neg (show ¬ (1 : Int32) = 0 by decide), pI2, ob, nI_1]
          refine ⟨F, a', X', τ', υ', i1, fun z ex2 => (ref ex2).trans (i2 z ex2), fun z ex2 => (ref ex2).trans (i3 z ex2), (c2.trans y2).trans i4, ⟨i5.1.trans fiB.1, fun x h0 h12 => by rw [i5.2.1 x h0 h12, wIn h0, fiB.2.1 x h0 h12], fun j hj => by rw [i5.2.2.1 j hj, wIn (by decide), fiB.2.2.1 j hj], fun j hj => by rw [i5.2.2.2 j hj, wIk (by omega), fiB.2.2.2 j hj]⟩, i6, i7, fun z => ⟨by have := (i8 z).1; omega, (i8 z).2⟩⟩
        · rw [if_neg cm] at y3
          rw [if_neg (show ¬ (0 = 0 ∧ B < w ∧ t B = 44) from fun z => cm z.2), if_pos (show ((0 : Int32), τ3).1 = 0 from rfl)]
          obtain ⟨g, rfl⟩ : ∃ g', g = g' + 1 := ⟨g - 1, by omega⟩
          refine ⟨0, B, X ||| 2 ^ q, τ3, wI υ2 0 15 (nI B), rfl, fun _ ex2 => ?_, fun z => absurd rfl z, c2.trans y2, ⟨fiB.1, fun x h0 h12 => by rw [wIn h0, fiB.2.1 x h0 h12], fun j hj => by rw [wIn (by decide), fiB.2.2.1 j hj], fun j hj => by rw [wIk (by omega), fiB.2.2.2 j hj]⟩, ⟨_, _, y3, by rw [wIk (by decide)]; exact e14, fun _ => z3.at (by omega)⟩, px1, fun _ => ⟨by omega, by rw [wIn (by decide)]; exact e12⟩⟩
          rw [fX9_takeTask_L156, if_neg (by decide), vC2, g7 q hq e, if_neg bt, ob, if_pos (show ((0 : Int32), wI (wI υ1 0 15 (nI (rn t w 97 122 (sk t w a)))) 12 (4 * m + 3) (nI (X ||| 2 ^ q))).1 ≤ 0 from (by decide : (0 : Int32) ≤ 0)), vC2, z1, ob, if_neg (fun z => cm (cd.mp z))]
          simp only [iflt, if_true]
          rw [gI2, ob, z3.2.2, Int32.add_zero, pI2, ob, fX9_takeTask_L156, if_pos rfl]
end PARTS2
