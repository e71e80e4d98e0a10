/-! NUMBERS AND STOPS, both readers at once -/
def nvl (t : Nat → Nat) (A : Nat) : Nat → Nat
  | 0 => 0
  | d + 1 => 10 * nvl t A d + (t (A + d) - 48)
def rvl (t : Nat → Nat) (A : Nat) : Nat → Nat
  | 0 => 0
  | d + 1 => if rvl t A d ≤ 10000 then 10 * rvl t A d + (t (A + d) - 48) else rvl t A d
theorem rvl_s {t : Nat → Nat} {A d B : Nat} (h : rvl t A d = nvl t A d ∧ nvl t A d ≤ B) (hB : B ≤ 10000) (ht : t (A + d) ≤ 57) : rvl t A (d + 1) = nvl t A (d + 1) ∧ nvl t A (d + 1) ≤ 10 * B + 9 := by
  rw [rvl, nvl, h.1, if_pos (by omega)]
  exact ⟨rfl, by omega⟩
theorem rvl_3 {t : Nat → Nat} {A d : Nat} (hd : d ≤ 3) (h : ∀ j, j < d → t (A + j) ≤ 57) : rvl t A d = nvl t A d ∧ nvl t A d ≤ 999 := by
  have z0 : rvl t A 0 = nvl t A 0 ∧ nvl t A 0 ≤ 0 := ⟨rfl, Nat.le_refl _⟩
  by_cases d0 : d = 0
  · subst d0; exact ⟨z0.1, by omega⟩
  · have z1 := rvl_s z0 (by decide) (h 0 (by omega))
    by_cases d1 : d = 1
    · subst d1; exact ⟨z1.1, Nat.le_trans z1.2 (by decide)⟩
    · have z2 := rvl_s z1 (by decide) (h (0 + 1) (by omega))
      by_cases d2 : d = 2
      · subst d2; exact ⟨z2.1, Nat.le_trans z2.2 (by decide)⟩
      · have z3 := rvl_s z2 (by decide) (h (0 + 1 + 1) (by omega))
        rw [show d = 0 + 1 + 1 + 1 by omega]
        exact ⟨z3.1, by omega⟩
theorem rvl_le {t : Nat → Nat} {A : Nat} : ∀ d, (∀ j, j < d → t (A + j) ≤ 57) → rvl t A d ≤ 100009
  | 0, _ => by simp [rvl]
  | d + 1, h => by
    have := rvl_le d (fun j hj => h j (by omega))
    have := h d (by omega)
    simp only [rvl]
    split <;> omega
section NUM
variable {τ υ : hM} {w : Nat} {t : Nat → Nat} {a k f : Nat} {p lo hi : Int32}
theorem val_L {A E : Nat} {ex : Int32 → hM → Option (Int32 × hM)} (h : cR τ w t E A f p) (hd : ∀ j, A ≤ j → j < E → 48 ≤ t j ∧ t j ≤ 57) : ∀ (d j fuel : Nat), A + j + d = E → d < fuel → fX6_valueOfToken_L7 kT1 1 ex fuel (nI (nvl t A j)) (nI (A + j)) τ = ex (nI (nvl t A (E - A))) τ := by
  obtain ⟨⟨h1, h2, h3, h4⟩, ⟨h5, h6, h7⟩, h8, h9, h10, h11⟩ := id h
  intro d
  induction d with
  | zero =>
    intro j fuel hj hf
    obtain ⟨g, rfl⟩ : ∃ g, fuel = g + 1 := ⟨fuel - 1, by omega⟩
    rw [fX6_valueOfToken_L7, gI1 1 6, ob, h8, if_pos (nI_le (by omega) (by omega)), show E - A = j by omega]
  | succ d ih =>
    intro j fuel hj hf
    obtain ⟨g, rfl⟩ : ∃ g, fuel = g + 1 := ⟨fuel - 1, by omega⟩
    obtain ⟨q1, q2⟩ := hd (A + j) (by omega) (by omega)
    rw [fX6_valueOfToken_L7, gI1 1 6, ob, h8, if_neg (nI_ge (by omega) (by omega)), gR1 1 6, h1, ob, lB1 (k := A + j) (by omega), ob, (h4 (A + j) (by omega)).1, sb_lt (by omega)]
    simp only [iflt, nI_1]
    rw [mul_nI 10 10 rfl, nI_add, show (48 : Int32) = nI 48 from rfl, pk_sub (by omega), show 10 * nvl t A j + t (A + j) - 48 = nvl t A (j + 1) by simp only [nvl]; omega]
    exact ih (j + 1) g (by omega) (by omega)
theorem rn_digit {A j : Nat} (h1 : A ≤ j) (h2 : j < rn t w 48 57 A) : 48 ≤ t j ∧ t j ≤ 57 := of_decide_eq_true (scn_in (isR t 48 57) (w - A) A j h1 h2)
theorem rn_letter {A j : Nat} (h1 : A ≤ j) (h2 : j < rn t w 97 122 A) : 97 ≤ t j ∧ t j ≤ 122 := of_decide_eq_true (scn_in (isR t 97 122) (w - A) A j h1 h2)
theorem rn_lt {A lo hi : Nat} (hA : A ≤ w) : A < rn t w lo hi A ↔ A < w ∧ lo ≤ t A ∧ t A ≤ hi := by
  constructor
  · intro h
    have := (rn_in (t := t) (lo := lo) (hi := hi) hA).2
    exact ⟨by omega, of_decide_eq_true (scn_in (isR t lo hi) (w - A) A A (Nat.le_refl A) h)⟩
  · intro ⟨h1, h2⟩
    unfold rn
    obtain ⟨d, hd⟩ : ∃ d, w - A = d + 1 := ⟨w - A - 1, by omega⟩
    rw [hd, scn, if_pos (show isR t lo hi A = true from decide_eq_true h2)]
    have := (scn_ge (isR t lo hi) d (A + 1)).1
    omega
/-- the class's number -/
theorem ev_num1 (hlo : ¬ lo ≤ -1) (h : cR τ w t a k 0 p) : ∃ v τ', fX6_readNumber kT1 1 lo hi τ = some (v, τ') ∧ F1 τ τ' ∧ ((rn t w 48 57 (sk t w a) = sk t w a ∧ v = lo ∧ cR τ' w t (sk t w a) (sk t w a) 1 (nI (sk t w a))) ∨ (sk t w a < rn t w 48 57 (sk t w a) ∧ (rn t w 48 57 (sk t w a) - sk t w a ≤ 3 ∧ lo ≤ nI (nvl t (sk t w a) (rn t w 48 57 (sk t w a) - sk t w a)) ∧ nI (nvl t (sk t w a) (rn t w 48 57 (sk t w a) - sk t w a)) ≤ hi) ∧ v = nI (nvl t (sk t w a) (rn t w 48 57 (sk t w a) - sk t w a)) ∧ cR τ' w t (rn t w 48 57 (sk t w a)) (sk t w a) 0 p) ∨ (sk t w a < rn t w 48 57 (sk t w a) ∧ ¬ (rn t w 48 57 (sk t w a) - sk t w a ≤ 3 ∧ lo ≤ nI (nvl t (sk t w a) (rn t w 48 57 (sk t w a) - sk t w a)) ∧ nI (nvl t (sk t w a) (rn t w 48 57 (sk t w a) - sk t w a)) ≤ hi) ∧ v = lo ∧ cR τ' w t (rn t w 48 57 (sk t w a)) (sk t w a) 2 (nI (sk t w a)))) := by
  obtain ⟨τ1, a1, a2, a3⟩ := ev_find h
  obtain ⟨τ2, b1, b2, b3⟩ := ev_step (lo := 48) (hi := 57) (fun v hv => (sb_in v hv).2.1) a3 (Nat.le_refl _)
  have hk := (rn_in (t := t) (lo := 48) (hi := 57) a3.2.1.1).1
  have hw := h.1.2.2.1
  have hE := b3.2.1.1
  have vt := val_L (ex := fun x7 u8 => some (x7, u8)) b3 (fun j h1 h2 => rn_digit h1 h2) (rn t w 48 57 (sk t w a) - sk t w a) 0 6000 (by omega) (by omega)
  rw [show nI (nvl t (sk t w a) 0) = 0 from nI_0, Nat.add_zero] at vt
  have vtk : fX6_valueOfToken kT1 1 τ2 = some (nI (nvl t (sk t w a) (rn t w 48 57 (sk t w a) - sk t w a)), τ2) := by
    unfold fX6_valueOfToken
    rw [gI1 1 6, ob, b3.2.2.2.1]
    exact vt
  unfold fX6_readNumber
  rw [vC1 1 6, ev_hasFault h, ob, if_pos (show ((if 0 = 0 then (0 : Int32) else 1), τ).1 = 0 from rfl), vC1 1 6, a1, ob, vC1 1 6, show fX6_stepOver kT1 1 48 57 τ1 = _ from b1, ob]
  simp only [iflt]
  generalize hA : sk t w a = A at *
  generalize hEE : rn t w 48 57 A = E at *
  by_cases e : E = A
  · obtain ⟨τ3, d1, d2, d3⟩ := ev_blame (m := 1) (by decide) b3
    rw [if_pos rfl, if_pos rfl] at d3
    rw [if_pos (by rw [e, Nat.sub_self, nI_0]), vC1 1 6, show fX6_blame kT1 1 1 τ2 = some τ3 from d1, ob]
    refine ⟨lo, τ3, rfl, (a2.trans b2).trans d2, Or.inl ⟨e, rfl, ?_⟩⟩
    rw [e] at d3
    exact d3
  · rw [if_neg (nI_ne0 (by omega) (by omega))]
    obtain ⟨τ3, d1, d2, d3⟩ := ev_blame (m := 2) (by decide) b3
    rw [if_pos rfl, if_pos rfl] at d3
    have d1' : fX6_blame kT1 1 2 τ2 = some τ3 := d1
    by_cases e3 : E - A ≤ 3
    · rw [if_pos (show nI (E - A) ≤ 3 from nI_le (b := 3) e3 (by decide)), vC1 1 6, vtk, ob, isW, ob]
      by_cases q : lo ≤ nI (nvl t A (E - A)) ∧ nI (nvl t A (E - A)) ≤ hi
      · rw [ifz1 q]
        exact ⟨_, τ2, rfl, a2.trans b2, Or.inr (Or.inl ⟨by omega, ⟨e3, q⟩, rfl, b3⟩)⟩
      · rw [ifz0 q, vC1 1 6, d1', ob]
        exact ⟨lo, τ3, rfl, (a2.trans b2).trans d2, Or.inr (Or.inr ⟨by omega, fun z => q z.2, rfl, d3⟩)⟩
    · rw [if_neg (show ¬ nI (E - A) ≤ 3 from nI_ge (a := 3) (by omega) (by omega)), isW, ob, ifz0 (fun z => hlo z.1), vC1 1 6, d1', ob]
      exact ⟨lo, τ3, rfl, (a2.trans b2).trans d2, Or.inr (Or.inr ⟨by omega, fun z => e3 z.1, rfl, d3⟩)⟩
theorem ev_numF (hf : f ≠ 0) (h : cR τ w t a k f p) : fX6_readNumber kT1 1 lo hi τ = some (lo, τ) := by
  unfold fX6_readNumber
  rw [vC1 1 6, ev_hasFault h, ob, if_neg hf, if_neg (show ¬ ((1 : Int32), τ).1 = 0 from (by decide : ¬ (1 : Int32) = 0))]
/-- the reference's number -/
theorem digits_L {ex : hM → Option (Int32 × hM)} {A : Nat} : ∀ (d e fuel : Nat) (υ : hM), e + d = w → A ≤ e → d < fuel → dR υ w t e → (∀ j, A ≤ j → j < e → 48 ≤ t j ∧ t j ≤ 57) → υ.1 0 18 = nI (rvl t A (e - A)) → ∃ υ', fX9_takeNumber_L42 kT2 0 ex fuel υ = ex υ' ∧ F2 υ υ' ∧ dR υ' w t (scn (isR t 48 57) e d) ∧ υ'.1 0 14 = υ.1 0 14 ∧ υ'.1 0 19 = υ.1 0 19 ∧ υ'.1 0 18 = nI (rvl t A (scn (isR t 48 57) e d - A)) := by
  intro d
  induction d with
  | zero =>
    intro e fuel υ ha hA hf h hdg h18
    obtain ⟨g, rfl⟩ : ∃ g, fuel = g + 1 := ⟨fuel - 1, by omega⟩
    obtain ⟨⟨h1, h2, h3, h4⟩, h5, h6⟩ := id h
    refine ⟨υ, ?_, F2.rfl, h, rfl, rfl, h18⟩
    rw [fX9_takeNumber_L42, gI2, ob, h6, gI2, ob, h2, if_pos (nI_le (by omega) (by omega))]
  | succ d ih =>
    intro e fuel υ ha hA hf h hdg h18
    obtain ⟨g, rfl⟩ : ∃ g, fuel = g + 1 := ⟨fuel - 1, by omega⟩
    obtain ⟨⟨h1, h2, h3, h4⟩, h5, h6⟩ := id h
    obtain ⟨b1, b2⟩ := h4 e (by omega)
    have bb := (nb_in (t e) b2).2.1
    have rle := rvl_le (t := t) (A := A) (e - A) (fun j hj => (hdg (A + j) (by omega) (by omega)).2)
    rw [fX9_takeNumber_L42, gI2, ob, h6, gI2, ob, h2, if_neg (nI_ge (by omega) (by omega)), gR2, h1, ob, ob, lA2 8 400 (k := e) (by omega), ob, b1, in9 48 57 (L := 48) (H := 57) rfl rfl, ob, scn]
    by_cases q : 48 ≤ t e ∧ t e ≤ 57
    · rw [ifz1 (of_decide_eq_true (bb.trans (decide_eq_true q))), if_pos (show isR t 48 57 e = true from decide_eq_true q), gI2, ob, h18]
      simp only [iflt]
      have nx : ∀ v : Int32, v = nI (rvl t A (e + 1 - A)) → ∃ υ', fX9_takeNumber_L42 kT2 0 ex g (wI (wI υ 0 18 v) 0 15 (nI (e + 1))) = ex υ' ∧ F2 υ υ' ∧ dR υ' w t (scn (isR t 48 57) (e + 1) d) ∧ υ'.1 0 14 = υ.1 0 14 ∧ υ'.1 0 19 = υ.1 0 19 ∧ υ'.1 0 18 = nI (rvl t A (scn (isR t 48 57) (e + 1) d - A)) := by
        intro v hv
        obtain ⟨υ', g1, g2, g3, g4, g5, g6⟩ := ih (e + 1) g (wI (wI υ 0 18 v) 0 15 (nI (e + 1))) (by omega) (by omega) (by omega) ((h.oth (by decide) (by omega)).at (by omega)) (fun j j1 j2 => by
          by_cases z : j = e
          · rw [z]; exact q
          · exact hdg j j1 (by omega)) (by rw [wIk (by decide), wIe, hv])
        exact ⟨υ', g1, ((F2.w (by omega)).trans (F2.w (by omega))).trans g2, g3, by rw [g4, wIk (by decide), wIk (by decide)], by rw [g5, wIk (by decide), wIk (by decide)], g6⟩
      have e1 : e + 1 - A = (e - A) + 1 := by omega
      have e2 : A + (e - A) = e := by omega
      by_cases c : rvl t A (e - A) ≤ 10000
      · have ev : (10 : Int32) * nI (rvl t A (e - A)) + nI (t e) - 48 = nI (rvl t A (e + 1 - A)) := by
          rw [e1, rvl, if_pos c, e2, mul_nI 10 10 rfl, nI_add, show (48 : Int32) = nI 48 from rfl, pk_sub (by omega)]
          congr 1
          omega
        rw [if_pos (show nI (rvl t A (e - A)) ≤ 10000 from nI_le (b := 10000) c (by decide)), ob, gR2, h1, ob, gI2, ob, h6, lA2 8 400 (k := e) (by omega), ob, b1, pI2, ob, gI2, ob, wIk (by decide), h6, pI2, ob, nI_1]
        exact nx _ ev
      · have ev : nI (rvl t A (e - A)) = nI (rvl t A (e + 1 - A)) := by
          rw [e1, rvl, if_neg c]
        rw [if_neg (show ¬ nI (rvl t A (e - A)) ≤ 10000 from nI_ge (a := 10000) (by omega) (by omega)), ob, pI2, ob, gI2, ob, wIk (by decide), h6, pI2, ob, nI_1]
        exact nx _ ev
    · rw [ifz0 (of_decide_eq_false (bb.trans (decide_eq_false q))), if_neg (show ¬ isR t 48 57 e = true from fun z => q (of_decide_eq_true z))]
      exact ⟨υ, rfl, F2.rfl, h, rfl, rfl, h18⟩
theorem ev_fails {m x : Int32} : fX9_fails kT2 0 m x υ = some (m, wI υ 0 14 x) := by
  unfold fX9_fails
  rw [pI2, ob]
theorem ev_num2 (h : dR υ w t a) : ∃ (F : Nat) (υ' : hM), fX9_takeNumber kT2 0 lo hi υ = some (nI F, υ') ∧ F2 υ υ' ∧ ((rn t w 48 57 (sk t w a) = sk t w a ∧ F = 1 ∧ υ'.1 0 14 = nI (sk t w a)) ∨ (sk t w a < rn t w 48 57 (sk t w a) ∧ (rn t w 48 57 (sk t w a) - sk t w a ≤ 3 ∧ lo ≤ nI (nvl t (sk t w a) (rn t w 48 57 (sk t w a) - sk t w a)) ∧ nI (nvl t (sk t w a) (rn t w 48 57 (sk t w a) - sk t w a)) ≤ hi) ∧ F = 0 ∧ dR υ' w t (rn t w 48 57 (sk t w a)) ∧ υ'.1 0 14 = υ.1 0 14 ∧ υ'.1 0 18 = nI (nvl t (sk t w a) (rn t w 48 57 (sk t w a) - sk t w a)) ∧ υ'.1 0 19 = nI (sk t w a)) ∨ (sk t w a < rn t w 48 57 (sk t w a) ∧ ¬ (rn t w 48 57 (sk t w a) - sk t w a ≤ 3 ∧ lo ≤ nI (nvl t (sk t w a) (rn t w 48 57 (sk t w a) - sk t w a)) ∧ nI (nvl t (sk t w a) (rn t w 48 57 (sk t w a) - sk t w a)) ≤ hi) ∧ F = 2 ∧ υ'.1 0 14 = nI (sk t w a))) := by
  obtain ⟨υ1, a1, a2, a3, a4, -⟩ := ev_here h
  have h3 := h.1.2.2.1
  have hle := (sk_in (t := t) h.2.1).2
  have hlt := rn_lt (t := t) (lo := 48) (hi := 57) hle
  have hin := rn_in (t := t) (lo := 48) (hi := 57) hle
  have dig : ∀ j, sk t w a ≤ j → j < rn t w 48 57 (sk t w a) → 48 ≤ t j ∧ t j ≤ 57 := fun j j1 j2 => rn_digit j1 j2
  unfold fX9_takeNumber
  rw [vC2, a1, ob, in9 48 57 (L := 48) (H := 57) rfl rfl, ob]
  have cd : (48 ≤ (if sk t w a < w then nI (t (sk t w a)) else (-1 : Int32)) ∧ (if sk t w a < w then nI (t (sk t w a)) else (-1 : Int32)) ≤ 57) ↔ sk t w a < rn t w 48 57 (sk t w a) := by
    rw [hlt]
    by_cases q : sk t w a < w
    · rw [if_pos q]
      have bb := (nb_in (t (sk t w a)) (h.1.2.2.2 _ q).2).2.1
      exact ⟨fun z => ⟨q, of_decide_eq_true (bb.symm.trans (decide_eq_true z))⟩, fun z => of_decide_eq_true (bb.trans (decide_eq_true z.2))⟩
    · rw [if_neg q]
      exact ⟨fun z => absurd z.1 (by decide), fun z => absurd z.1 q⟩
  have a3t := a3.2.2
  generalize hA : sk t w a = A at *
  by_cases e : A < rn t w 48 57 A
  · have z := cd.mpr e
    obtain ⟨υ2, b1, b2, b3, b4, b5, b6⟩ := digits_L (A := A) (ex := fun u23 => (gti kT2 u23 0 9 15).bind fun x24 => (gti kT2 u23 0 9 19).bind fun x25 => lt (fun (u26 : hM) => (gti kT2 u26 0 9 19).bind fun x27 => (vc kT2 0 9 (fX9_fails kT2 0 (2 : Int32) x27 u26)).bind fun q28 => some (q28.1, q28.2)) fun J157 => if (3 : Int32) < (x24 - x25) then (J157 u23) else ((gti kT2 u23 0 9 18).bind fun x29 => (fX9_in kT2 x29.toInt64 lo.toInt64 hi.toInt64 u23).bind fun q30 => if q30.1 = 0 then (J157 q30.2) else (some ((0 : Int32), q30.2)))) (w - A) A 6000 (wI (wI υ1 0 19 (nI A)) 0 18 0) (by omega) (Nat.le_refl _) (by omega) ((a3.oth (by decide) (by omega)).oth (by decide) (by omega)) (fun j j1 j2 => absurd j2 (by omega)) (by rw [wIe, Nat.sub_self]; rfl)
    rw [show scn (isR t 48 57) A (w - A) = rn t w 48 57 A from rfl] at b3 b6
    have c5 : υ2.1 0 19 = nI A := by rw [b5, wIk (by decide), wIe]
    have c4 : υ2.1 0 14 = υ.1 0 14 := by rw [b4, wIk (by decide), wIk (by decide)]; exact a4 14 (by decide)
    rw [ifz1 z, gI2, ob, a3t, pI2, ob, pI2, ob, b1, gI2, ob, b3.2.2, gI2, ob, c5, pk_sub (by omega)]
    simp only [iflt]
    have f2 : F2 υ υ2 := (a2.trans ((F2.w (by omega)).trans (F2.w (by omega)))).trans b2
    generalize hE : rn t w 48 57 A = E at *
    by_cases e3 : E - A ≤ 3
    · obtain ⟨r1, r2⟩ := rvl_3 (t := t) (A := A) e3 (fun j hj => (dig (A + j) (by omega) (by omega)).2)
      rw [r1] at b6
      rw [if_neg (show ¬ (3 : Int32) < nI (E - A) from nI_nlt (a := 3) e3 (by decide)), gI2, ob, b6, in9 lo hi rfl rfl, ob]
      by_cases q : lo ≤ nI (nvl t A (E - A)) ∧ nI (nvl t A (E - A)) ≤ hi
      · rw [ifz1 q]
        exact ⟨0, υ2, by rw [nI_0], f2, Or.inr (Or.inl ⟨e, ⟨e3, q⟩, rfl, b3, c4, b6, c5⟩)⟩
      · rw [ifz0 q, gI2, ob, c5, vC2, ev_fails, ob]
        exact ⟨2, _, rfl, f2.trans (F2.w (by omega)), Or.inr (Or.inr ⟨e, fun y => q y.2, rfl, wIe⟩)⟩
    · rw [if_pos (show (3 : Int32) < nI (E - A) from nI_lt (a := 3) (by omega) (by omega)), gI2, ob, c5, vC2, ev_fails, ob]
      exact ⟨2, _, rfl, f2.trans (F2.w (by omega)), Or.inr (Or.inr ⟨e, fun y => e3 y.1, rfl, wIe⟩)⟩
  · rw [ifz0 (fun y => e (cd.mp y)), gI2, ob, a3t, vC2, ev_fails, ob]
    exact ⟨1, _, rfl, a2.trans (F2.w (by omega)), Or.inl ⟨by omega, rfl, wIe⟩⟩
end NUM
