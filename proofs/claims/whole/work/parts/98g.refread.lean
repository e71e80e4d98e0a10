/-! THE REFERENCE'S READER -/
def dR (υ : hM) (w : Nat) (t : Nat → Nat) (a : Nat) : Prop := (υ.2.2 0 12 = some 8 ∧ υ.1 0 13 = nI w ∧ w ≤ 400 ∧ ∀ j, j < w → υ.1 8 j = nI (t j) ∧ t j < 256) ∧ a ≤ w ∧ υ.1 0 15 = nI a
def F2 (υ υ' : hM) : Prop := υ'.2.2 = υ.2.2 ∧ (∀ x, x ≠ 0 → υ'.1 x = υ.1 x) ∧ ∀ j, (j < 14 ∨ 19 < j) → υ'.1 0 j = υ.1 0 j
theorem F2.rfl {υ : hM} : F2 υ υ := ⟨Eq.refl _, fun _ _ => Eq.refl _, fun _ _ => Eq.refl _⟩
theorem F2.trans {υ υ' υ'' : hM} (h : F2 υ υ') (g : F2 υ' υ'') : F2 υ υ'' := ⟨g.1.trans h.1, fun x hx => (g.2.1 x hx).trans (h.2.1 x hx), fun j hj => (g.2.2 j hj).trans (h.2.2 j hj)⟩
theorem F2.w {υ : hM} {k : Nat} {v : Int32} (hk : 14 ≤ k ∧ k ≤ 19) : F2 υ (wI υ 0 k v) := ⟨Eq.refl _, fun _ hx => wIn hx, fun j hj => wIk (by omega)⟩
theorem F2.wl {υ : hM} {k : Nat} {v : Int64} : F2 υ (wL υ 0 k v) := ⟨Eq.refl _, fun _ _ => Eq.refl _, fun j hj => Eq.refl _⟩
section REF
variable {υ : hM} {w : Nat} {t : Nat → Nat} {a : Nat}
theorem dR.at {b : Nat} (h : dR υ w t a) (hb : b ≤ w) : dR (wI υ 0 15 (nI b)) w t b := by
  obtain ⟨⟨h1, h2, h3, h4⟩, h5, h6⟩ := h
  exact ⟨⟨h1, by rw [wIk (by decide)]; exact h2, h3, fun j hj => by rw [wIn (by decide)]; exact h4 j hj⟩, hb, wIe⟩
theorem dR.oth {x j : Nat} {v : Int32} (h : dR υ w t a) (hx : x ≠ 8) (hx2 : ¬ (x = 0 ∧ (j = 13 ∨ j = 15))) : dR (wI υ x j v) w t a := by
  obtain ⟨⟨h1, h2, h3, h4⟩, h5, h6⟩ := h
  exact ⟨⟨h1, by rw [wIk (by omega)]; exact h2, h3, fun j hj => by rw [wIn (by omega)]; exact h4 j hj⟩, h5, by rw [wIk (by omega)]; exact h6⟩
theorem dR.wl {j : Nat} {v : Int64} (h : dR υ w t a) : dR (wL υ 0 j v) w t a := h
theorem pZ2 {σ : hM} {k : Nat} {v : Int32} (h : v = 0 ∨ v = 1) : ptz kT2 σ 0 9 k v = some (wI σ 0 k v) := pZ rfl h
theorem pL2 {σ : hM} {k : Nat} {v : Int64} : ptl kT2 σ 0 9 k v = some (wL σ 0 k v) := pL rfl
theorem gL2 {σ : hM} {k : Nat} : gtl kT2 σ 0 9 k = some (σ.2.1 0 k) := gL rfl
theorem here_L {ex : hM → Option (Int32 × hM)} : ∀ (d a fuel : Nat) (υ : hM), a + d = w → d < fuel → dR υ w t a → ∃ υ', fX9_here_L0 kT2 0 ex fuel υ = ex υ' ∧ F2 υ υ' ∧ dR υ' w t (scn (isB t) a d) ∧ (∀ j, j ≠ 15 → υ'.1 0 j = υ.1 0 j) ∧ υ'.2.1 = υ.2.1 := by
  intro d
  induction d with
  | zero =>
    intro a fuel υ ha hf h
    obtain ⟨g, rfl⟩ : ∃ g, fuel = g + 1 := ⟨fuel - 1, by omega⟩
    obtain ⟨⟨h1, h2, h3, h4⟩, h5, h6⟩ := id h
    refine ⟨υ, ?_, F2.rfl, h, fun _ _ => rfl, rfl⟩
    rw [fX9_here_L0, gI2, ob, h6, gI2, ob, h2, if_pos (nI_le (by omega) (by omega))]
  | succ d ih =>
    intro a fuel υ ha hf h
    obtain ⟨g, rfl⟩ : ∃ g, fuel = g + 1 := ⟨fuel - 1, by omega⟩
    obtain ⟨⟨h1, h2, h3, h4⟩, h5, h6⟩ := id h
    obtain ⟨b1, b2⟩ := h4 a (by omega)
    have bb := (nb_in (t a) b2).2.2.1
    rw [fX9_here_L0, gI2, ob, h6, gI2, ob, h2, if_neg (nI_ge (by omega) (by omega)), gR2, h1, ob, ob, lA2 8 400 (k := a) (by omega), ob, b1, scn]
    by_cases e : t a = 32
    · rw [if_pos (of_decide_eq_true (bb.trans (decide_eq_true e))), if_pos (show isB t a = true from decide_eq_true e), ob, pI2, ob, nI_1]
      obtain ⟨υ', g1, g2, g3, g4, g5⟩ := ih (a + 1) g (wI υ 0 15 (nI (a + 1))) (by omega) (by omega) (h.at (by omega))
      exact ⟨υ', g1, (F2.w (by omega)).trans g2, g3, fun j hj => (g4 j hj).trans (wIk (by omega)), g5⟩
    · rw [if_neg (of_decide_eq_false (bb.trans (decide_eq_false e))), if_neg (show ¬ isB t a = true from fun q => e (of_decide_eq_true q))]
      exact ⟨υ, rfl, F2.rfl, h, fun _ _ => rfl, rfl⟩
theorem ev_here (h : dR υ w t a) : ∃ υ', fX9_here kT2 0 υ = some (if sk t w a < w then nI (t (sk t w a)) else -1, υ') ∧ F2 υ υ' ∧ dR υ' w t (sk t w a) ∧ (∀ j, j ≠ 15 → υ'.1 0 j = υ.1 0 j) ∧ υ'.2.1 = υ.2.1 := by
  have h3 := h.1.2.2.1
  have h5 := h.2.1
  obtain ⟨υ', g1, g2, g3, g4, g5⟩ := here_L (ex := fun u8 => (gti kT2 u8 0 9 15).bind fun x9 => (gti kT2 u8 0 9 13).bind fun x10 => if x10 ≤ x9 then (some ((-1 : Int32), u8)) else ((gtr kT2 u8 0 9 12).bind fun a11 => (gti kT2 u8 0 9 15).bind fun x12 => (ald 11 kT2 u8 a11 x12).bind fun x13 => some (x13, u8))) (w - a) a 6000 υ (by omega) (by omega) h
  refine ⟨υ', ?_, g2, g3, g4, g5⟩
  obtain ⟨⟨k1, k2, k3, k4⟩, k5, k6⟩ := id g3
  have hle := (sk_in (t := t) h5).2
  rw [show scn (isB t) a (w - a) = sk t w a from rfl] at k6
  unfold fX9_here
  rw [g1, gI2, ob, gI2, ob, k6, k2]
  by_cases e : sk t w a < w
  · rw [if_neg (nI_ge e (by omega)), if_pos e, gR2, k1, ob, ob, lA2 8 400 (k := sk t w a) (by omega), ob, (k4 _ e).1]
  · rw [if_pos (nI_le (by omega) (by omega)), if_neg e]
/-! words as numbers -/
def cst (v d : Nat) : Nat := if v ≤ 10000000000000 then 27 * v + (d - 96) else 20000000000000
def cdl (l : List Nat) : Nat := l.foldl cst 0
theorem cdl_snoc (l : List Nat) (d : Nat) : cdl (l ++ [d]) = cst (cdl l) d := by unfold cdl; rw [List.foldl_append]; rfl
theorem cst_le {v d : Nat} (hd : d ≤ 255) : cst v d ≤ 270000000000159 := by unfold cst; split <;> omega
theorem cdl_le : ∀ l : List Nat, (∀ d ∈ l, d ≤ 255) → cdl l ≤ 270000000000159 := by
  intro l h
  rcases List.eq_nil_or_concat l with e | ⟨l', d, e⟩
  · rw [e]; decide
  · rw [List.concat_eq_append] at e
    rw [e, cdl_snoc]
    exact cst_le (h d (by rw [e]; simp))
theorem cdl_inj : ∀ (m : Nat) (u l : List Nat), u.length = m → (∀ d ∈ u, 97 ≤ d ∧ d ≤ 122) → (∀ d ∈ l, 97 ≤ d ∧ d ≤ 122) → cdl u ≤ 10000000000000 → cdl l = cdl u → l = u := by
  intro m
  induction m with
  | zero =>
    intro u l hu h1 h2 h3 h4
    have e := List.length_eq_zero_iff.mp hu
    subst e
    rcases List.eq_nil_or_concat l with e | ⟨l', d, e⟩
    · exact e
    · rw [List.concat_eq_append] at e
      have hd := h2 d (by rw [e]; simp)
      rw [e, cdl_snoc, show cdl [] = 0 from rfl] at h4
      unfold cst at h4
      split at h4 <;> omega
  | succ m ih =>
    intro u l hu h1 h2 h3 h4
    rcases List.eq_nil_or_concat u with e | ⟨u', b, e⟩
    · rw [e] at hu; simp at hu
    · rw [List.concat_eq_append] at e
      have hb := h1 b (by rw [e]; simp)
      rw [e, cdl_snoc] at h3 h4
      have c1 : cdl u' ≤ 10000000000000 := by
        unfold cst at h3
        split at h3 <;> omega
      rw [cst, if_pos c1] at h3 h4
      rcases List.eq_nil_or_concat l with e2 | ⟨l', d, e2⟩
      · rw [e2, show cdl [] = 0 from rfl] at h4
        omega
      · rw [List.concat_eq_append] at e2
        have hd := h2 d (by rw [e2]; simp)
        rw [e2, cdl_snoc] at h4
        have c2 : cdl l' ≤ 10000000000000 := by
          unfold cst at h4
          split at h4 <;> omega
        rw [cst, if_pos c2] at h4
        have e3 := ih u' l' (by rw [e] at hu; simpa using hu) (fun d hd => h1 d (by rw [e]; simp [hd])) (fun d hd => h2 d (by rw [e2]; simp [hd])) c1 (by omega)
        rw [e, e2, e3, show d = b by omega]
theorem lNb {n : Nat} (h : n < 2 ^ 62) : (lN n).toInt = (n : Int) := lg_ofNat_toInt (by omega)
theorem lNb_eq {a b : Nat} (ha : a < 2 ^ 62) (hb : b < 2 ^ 62) : lN a = lN b ↔ a = b := by
  rw [← Int64.toInt_inj, lNb ha, lNb hb]; omega
theorem lNb_le {a b : Nat} (ha : a < 2 ^ 62) (hb : b < 2 ^ 62) : lN a ≤ lN b ↔ a ≤ b := by
  rw [Int64.le_iff_toInt_le, lNb ha, lNb hb]; omega
theorem tkl_snoc {a e : Nat} (h : a ≤ e) : tkl t a (e + 1) = tkl t a e ++ [t e] := by
  unfold tkl
  rw [show e + 1 - a = (e - a) + 1 by omega, List.range_succ, List.map_append, List.map_singleton, show a + (e - a) = e by omega]
theorem tkl_mem {a e d : Nat} (h : d ∈ tkl t a e) : ∃ j, a ≤ j ∧ j < e ∧ d = t j := by
  unfold tkl at h
  obtain ⟨j, h1, h2⟩ := List.mem_map.mp h
  have := List.mem_range.mp h1
  exact ⟨a + j, by omega, by omega, h2.symm⟩
theorem word_L {ex : hM → Option hM} {A : Nat} : ∀ (d e fuel : Nat) (υ : hM), e + d = w → A ≤ e → d < fuel → dR υ w t A → υ.1 0 17 = nI e → υ.2.1 0 16 = lN (cdl (tkl t A e)) → ∃ υ', fX9_readWord_L18 kT2 0 ex fuel υ = ex υ' ∧ F2 υ υ' ∧ dR υ' w t A ∧ υ'.1 0 14 = υ.1 0 14 ∧ υ'.1 0 17 = nI (scn (isR t 97 122) e d) ∧ υ'.2.1 0 16 = lN (cdl (tkl t A (scn (isR t 97 122) e d))) := by
  intro d
  induction d with
  | zero =>
    intro e fuel υ ha hA hf h h17 h16
    obtain ⟨g, rfl⟩ : ∃ g, fuel = g + 1 := ⟨fuel - 1, by omega⟩
    obtain ⟨⟨h1, h2, h3, h4⟩, h5, h6⟩ := id h
    refine ⟨υ, ?_, F2.rfl, h, rfl, h17, h16⟩
    rw [fX9_readWord_L18, gI2, ob, h17, gI2, ob, h2, if_pos (nI_le (by omega) (by omega))]
  | succ d ih =>
    intro e fuel υ ha hA hf h h17 h16
    obtain ⟨g, rfl⟩ : ∃ g, fuel = g + 1 := ⟨fuel - 1, by omega⟩
    obtain ⟨⟨h1, h2, h3, h4⟩, h5, h6⟩ := id h
    obtain ⟨b1, b2⟩ := h4 e (by omega)
    have bb := (nb_in (t e) b2).1
    have cle := cdl_le (tkl t A e) (fun x hx => by
      obtain ⟨j, j1, j2, j3⟩ := tkl_mem hx
      have := (h4 j (by omega)).2
      omega)
    rw [fX9_readWord_L18, gI2, ob, h17, gI2, ob, h2, if_neg (nI_ge (by omega) (by omega)), gR2, h1, ob, ob, lA2 8 400 (k := e) (by omega), ob, b1, in9 97 122 (L := 97) (H := 122) rfl rfl, ob, scn]
    by_cases q : 97 ≤ t e ∧ t e ≤ 122
    · rw [ifz1 (of_decide_eq_true (bb.trans (decide_eq_true q))), if_pos (show isR t 97 122 e = true from decide_eq_true q), gL2, ob, h16]
      simp only [iflt]
      have nx : ∀ v : Int64, v = lN (cdl (tkl t A (e + 1))) → ∃ υ', fX9_readWord_L18 kT2 0 ex g (wI (wL υ 0 16 v) 0 17 (nI (e + 1))) = ex υ' ∧ F2 υ υ' ∧ dR υ' w t A ∧ υ'.1 0 14 = υ.1 0 14 ∧ υ'.1 0 17 = nI (scn (isR t 97 122) (e + 1) d) ∧ υ'.2.1 0 16 = lN (cdl (tkl t A (scn (isR t 97 122) (e + 1) d))) := by
        intro v hv
        obtain ⟨υ', g1, g2, g3, g4, g5, g6⟩ := ih (e + 1) g (wI (wL υ 0 16 v) 0 17 (nI (e + 1))) (by omega) (by omega) (by omega) (h.wl.oth (by decide) (by omega)) wIe (by rw [← hv]; show (h_w2 υ.2.1 0 16 v) 0 16 = v; simp [h_w2])
        exact ⟨υ', g1, (F2.wl.trans (F2.w (by omega))).trans g2, g3, by rw [g4, wIk (by decide)]; rfl, g5, g6⟩
      by_cases c : cdl (tkl t A e) ≤ 10000000000000
      · have ev : (27 : Int64) * lN (cdl (tkl t A e)) + (nI (t e)).toInt64 - 96 = lN (cdl (tkl t A (e + 1))) := by
          rw [tkl_snoc hA, cdl_snoc, cst, if_pos c, nI_l (by omega), show (27 : Int64) = lN 27 from rfl, show (96 : Int64) = lN 96 from rfl, lN_mul, lN_add, lN_sub (by omega)]
          congr 1
          omega
        rw [if_pos (show lN (cdl (tkl t A e)) ≤ (10000000000000 : Int64) from (lNb_le (by omega) (b := 10000000000000) (by decide)).mpr c), ob, gR2, h1, ob, gI2, ob, h17, lA2 8 400 (k := e) (by omega), ob, b1, pL2, ob, gI2, ob, show (wL υ 0 16 (27 * lN (cdl (tkl t A e)) + (nI (t e)).toInt64 - 96)).1 0 17 = nI e from h17, pI2, ob, nI_1]
        exact nx _ ev
      · have ev : (20000000000000 : Int64) = lN (cdl (tkl t A (e + 1))) := by
          rw [tkl_snoc hA, cdl_snoc, cst, if_neg c]
          rfl
        rw [if_neg (show ¬ lN (cdl (tkl t A e)) ≤ (10000000000000 : Int64) from fun z => c ((lNb_le (by omega) (b := 10000000000000) (by decide)).mp z)), pL2, ob, gI2, ob, show (wL υ 0 16 20000000000000).1 0 17 = nI e from h17, pI2, ob, nI_1]
        exact nx _ ev
    · rw [ifz0 (of_decide_eq_false (bb.trans (decide_eq_false q))), if_neg (show ¬ isR t 97 122 e = true from fun z => q (of_decide_eq_true z))]
      exact ⟨υ, rfl, F2.rfl, h, rfl, h17, h16⟩
theorem ev_word (h : dR υ w t a) : ∃ υ', fX9_readWord kT2 0 υ = some υ' ∧ F2 υ υ' ∧ dR υ' w t (sk t w a) ∧ υ'.1 0 14 = υ.1 0 14 ∧ υ'.1 0 17 = nI (rn t w 97 122 (sk t w a)) ∧ υ'.2.1 0 16 = lN (cdl (tkl t (sk t w a) (rn t w 97 122 (sk t w a)))) := by
  obtain ⟨υ1, a1, a2, a3, a4, -⟩ := ev_here h
  have h3 := h.1.2.2.1
  have hle := (sk_in (t := t) h.2.1).2
  obtain ⟨υ2, b1, b2, b3, b4, b5, b6⟩ := word_L (ex := fun u21 => some u21) (w - sk t w a) (sk t w a) 6000 (wI (wL υ1 0 16 0) 0 17 (nI (sk t w a))) (by omega) (Nat.le_refl _) (by omega) (a3.wl.oth (by decide) (by omega)) wIe (by
    unfold tkl
    rw [Nat.sub_self]
    show (h_w2 υ1.2.1 0 16 0) 0 16 = lN 0
    simp [h_w2]
    rfl)
  unfold fX9_readWord
  rw [vC2, a1, ob, pL2, ob, gI2, ob, show (wL υ1 0 16 0).1 0 15 = nI (sk t w a) from a3.2.2, pI2, ob]
  exact ⟨υ2, b1, (a2.trans (F2.wl.trans (F2.w (by omega)))).trans b2, b3, by rw [b4, wIk (by decide)]; exact a4 14 (by decide), b5, b6⟩
/-- the reference's test of a word -/
theorem word_is {A E : Nat} {x c : Int64} {u : List Nat} (hE : A ≤ E) (hin : ∀ j, A ≤ j → j < E → 97 ≤ t j ∧ t j ≤ 122) (hx : x = lN (cdl (tkl t A E))) (hc : c = lN (cdl u)) (hu : ∀ d ∈ u, 97 ≤ d ∧ d ≤ 122) (hu2 : cdl u ≤ 10000000000000) : x = c ↔ tkl t A E = u := by
  have hl : ∀ d ∈ tkl t A E, 97 ≤ d ∧ d ≤ 122 := fun d hd => by
    obtain ⟨j, j1, j2, j3⟩ := tkl_mem hd
    rw [j3]
    exact hin j j1 j2
  have hb := cdl_le (tkl t A E) (fun d hd => by have := hl d hd; omega)
  rw [hx, hc, lNb_eq (by omega) (by omega)]
  constructor
  · intro q
    exact cdl_inj u.length u _ rfl hu hl hu2 q
  · intro q; rw [q]
end REF
