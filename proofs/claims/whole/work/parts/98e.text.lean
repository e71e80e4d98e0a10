/-! TEXTS AND THEIR READERS: t k is the sign at k (0 to 255), w the length -/
def scn (P : Nat → Bool) : Nat → Nat → Nat
  | k, 0 => k
  | k, d + 1 => if P k = true then scn P (k + 1) d else k
def isB (t : Nat → Nat) (k : Nat) : Bool := decide (t k = 32)
def isR (t : Nat → Nat) (lo hi k : Nat) : Bool := decide (lo ≤ t k ∧ t k ≤ hi)
def sk (t : Nat → Nat) (w a : Nat) : Nat := scn (isB t) a (w - a)
def rn (t : Nat → Nat) (w lo hi a : Nat) : Nat := scn (isR t lo hi) a (w - a)
theorem scn_ge (P : Nat → Bool) : ∀ d k, k ≤ scn P k d ∧ scn P k d ≤ k + d
  | 0, k => ⟨Nat.le_refl _, Nat.le_refl _⟩
  | d + 1, k => by
    have := scn_ge P d (k + 1)
    simp only [scn]
    split <;> omega
theorem scn_in (P : Nat → Bool) : ∀ d k j, k ≤ j → j < scn P k d → P j = true
  | 0, k, j, h1, h2 => absurd h2 (by simp only [scn]; omega)
  | d + 1, k, j, h1, h2 => by
    simp only [scn] at h2
    by_cases h : P k = true
    · rw [if_pos h] at h2
      by_cases e : j = k
      · rw [e]; exact h
      · exact scn_in P d (k + 1) j (by omega) h2
    · rw [if_neg h] at h2
      omega
theorem scn_end (P : Nat → Bool) : ∀ d k, scn P k d = k + d ∨ P (scn P k d) = false
  | 0, k => Or.inl rfl
  | d + 1, k => by
    simp only [scn]
    by_cases h : P k = true
    · rw [if_pos h]
      rcases scn_end P d (k + 1) with q | q
      · left; omega
      · exact Or.inr q
    · rw [if_neg h]
      exact Or.inr (by simpa using h)
theorem sk_in {t : Nat → Nat} {w a : Nat} (h : a ≤ w) : a ≤ sk t w a ∧ sk t w a ≤ w := by
  have := scn_ge (isB t) (w - a) a
  unfold sk
  omega
theorem rn_in {t : Nat → Nat} {w lo hi a : Nat} (h : a ≤ w) : a ≤ rn t w lo hi a ∧ rn t w lo hi a ≤ w := by
  have := scn_ge (isR t lo hi) (w - a) a
  unfold rn
  omega
/-- a second skip finds nothing -/
theorem sk_sk {t : Nat → Nat} {w a : Nat} (h : a ≤ w) : sk t w (sk t w a) = sk t w a := by
  have h1 := sk_in (t := t) h
  have h2 := scn_end (isB t) (w - a) a
  by_cases e : sk t w a = w
  · unfold sk at e ⊢
    rw [e, Nat.sub_self, scn]
  · have h3 : isB t (sk t w a) = false := h2.resolve_left (fun q => e (by unfold sk; omega))
    obtain ⟨d, hd⟩ : ∃ d, w - sk t w a = d + 1 := ⟨w - sk t w a - 1, by omega⟩
    show scn (isB t) (sk t w a) (w - sk t w a) = _
    rw [hd, scn, h3]
    rfl
/-- a byte as the class holds it -/
def sb (v : Nat) : Int32 := if v < 128 then nI v else nI v - 256
theorem sb_v : ∀ v, v < 256 → (nI v).toInt8.toInt32 = sb v := by decide +kernel
theorem sb_in : ∀ v, v < 256 → (decide (97 ≤ sb v ∧ sb v ≤ 122) = decide (97 ≤ v ∧ v ≤ 122)) ∧ (decide (48 ≤ sb v ∧ sb v ≤ 57) = decide (48 ≤ v ∧ v ≤ 57)) ∧ (decide (sb v = 32) = decide (v = 32)) ∧ (decide (sb v = 59) = decide (v = 59)) ∧ (decide (sb v = 44) = decide (v = 44)) := by decide +kernel
theorem nb_in : ∀ v, v < 256 → (decide (97 ≤ nI v ∧ nI v ≤ 122) = decide (97 ≤ v ∧ v ≤ 122)) ∧ (decide (48 ≤ nI v ∧ nI v ≤ 57) = decide (48 ≤ v ∧ v ≤ 57)) ∧ (decide (nI v = 32) = decide (v = 32)) ∧ (decide (nI v = 59) = decide (v = 59)) ∧ (decide (nI v = 44) = decide (v = 44)) := by decide +kernel
theorem sb_lt {v : Nat} (h : v < 128) : sb v = nI v := if_pos h
/-- the class's reader: at a, token at k, fault f at p -/
def cR (τ : hM) (w : Nat) (t : Nat → Nat) (a k f : Nat) (p : Int32) : Prop := (τ.2.2 1 0 = some 2 ∧ τ.1 1 1 = nI w ∧ w ≤ 400 ∧ ∀ j, j < w → τ.1 2 j = sb (t j) ∧ t j < 256) ∧ (a ≤ w ∧ k ≤ w ∧ f < 5) ∧ τ.1 1 2 = nI a ∧ τ.1 1 3 = nI k ∧ τ.1 1 4 = nI f ∧ τ.1 1 5 = p
def F1 (τ τ' : hM) : Prop := τ'.2.2 = τ.2.2 ∧ ∀ x, x ≠ 1 → τ'.1 x = τ.1 x
theorem F1.rfl {τ : hM} : F1 τ τ := ⟨Eq.refl _, fun _ _ => Eq.refl _⟩
theorem F1.trans {τ τ' τ'' : hM} (h : F1 τ τ') (g : F1 τ' τ'') : F1 τ τ'' := ⟨g.1.trans h.1, fun x hx => (g.2 x hx).trans (h.2 x hx)⟩
theorem F1.w {τ : hM} {k : Nat} {v : Int32} : F1 τ (wI τ 1 k v) := ⟨Eq.refl _, fun _ hx => wIn hx⟩
section CLASS
variable {τ : hM} {w : Nat} {t : Nat → Nat} {a k f : Nat} {p : Int32}
theorem lB1 {σ : hM} {k : Nat} (hk : k < 400) : ald 12 kT1 σ 2 (nI k) = some (σ.1 2 k) := lA 400 (show kT1.1 2 = 12 from rfl) (show kT1.2 2 = 400 from rfl) hk (by decide)
theorem cR.at {b : Nat} (h : cR τ w t a k f p) (hb : b ≤ w) : cR (wI τ 1 2 (nI b)) w t b k f p := by
  obtain ⟨⟨h1, h2, h3, h4⟩, ⟨h5, h6, h7⟩, h8, h9, h10, h11⟩ := h
  exact ⟨⟨h1, by rw [wIk (by decide)]; exact h2, h3, fun j hj => by rw [wIn (by decide)]; exact h4 j hj⟩, ⟨hb, h6, h7⟩, wIe, by rw [wIk (by decide)]; exact h9, by rw [wIk (by decide)]; exact h10, by rw [wIk (by decide)]; exact h11⟩
theorem cR.tok {b : Nat} (h : cR τ w t a k f p) (hb : b ≤ w) : cR (wI τ 1 3 (nI b)) w t a b f p := by
  obtain ⟨⟨h1, h2, h3, h4⟩, ⟨h5, h6, h7⟩, h8, h9, h10, h11⟩ := h
  exact ⟨⟨h1, by rw [wIk (by decide)]; exact h2, h3, fun j hj => by rw [wIn (by decide)]; exact h4 j hj⟩, ⟨h5, hb, h7⟩, by rw [wIk (by decide)]; exact h8, wIe, by rw [wIk (by decide)]; exact h10, by rw [wIk (by decide)]; exact h11⟩
theorem cR.flt {b : Nat} (h : cR τ w t a k f p) (hb : b < 5) : cR (wI (wI τ 1 4 (nI b)) 1 5 (nI k)) w t a k b (nI k) := by
  obtain ⟨⟨h1, h2, h3, h4⟩, ⟨h5, h6, h7⟩, h8, h9, h10, h11⟩ := h
  exact ⟨⟨h1, by rw [wIk (by decide), wIk (by decide)]; exact h2, h3, fun j hj => by rw [wIn (by decide), wIn (by decide)]; exact h4 j hj⟩, ⟨h5, h6, hb⟩, by rw [wIk (by decide), wIk (by decide)]; exact h8, by rw [wIk (by decide), wIk (by decide)]; exact h9, by rw [wIk (by decide), wIe], wIe⟩
/-- a write elsewhere -/
theorem cR.oth {x j : Nat} {v : Int32} (h : cR τ w t a k f p) (hx : x ≠ 1) (hx2 : x ≠ 2) : cR (wI τ x j v) w t a k f p := by
  obtain ⟨⟨h1, h2, h3, h4⟩, h5, h8, h9, h10, h11⟩ := h
  exact ⟨⟨h1, by rw [wIn hx.symm]; exact h2, h3, fun j hj => by rw [wIn hx2.symm]; exact h4 j hj⟩, h5, by rw [wIn hx.symm]; exact h8, by rw [wIn hx.symm]; exact h9, by rw [wIn hx.symm]; exact h10, by rw [wIn hx.symm]; exact h11⟩
theorem ev_hasFault (h : cR τ w t a k f p) : fX6_hasFault kT1 1 τ = some (if f = 0 then 0 else 1, τ) := by
  obtain ⟨-, ⟨h5, h6, h7⟩, h8, h9, h10, h11⟩ := h
  unfold fX6_hasFault
  rw [gI1 1 6, ob, h10]
  by_cases e : f = 0
  · rw [if_pos e, e, if_pos nI_0]; rfl
  · rw [if_neg e, if_neg (nI_ne0 (by omega) (by omega))]; rfl
theorem find_L {ex : hM → Option hM} : ∀ (d a fuel : Nat) (τ : hM), a + d = w → d < fuel → cR τ w t a k f p → ∃ τ', fX6_findToken_L0 kT1 1 ex fuel τ = ex τ' ∧ F1 τ τ' ∧ cR τ' w t (scn (isB t) a d) k f p := by
  intro d
  induction d with
  | zero =>
    intro a fuel τ ha hf h
    obtain ⟨g, rfl⟩ : ∃ g, fuel = g + 1 := ⟨fuel - 1, by omega⟩
    obtain ⟨⟨h1, h2, h3, h4⟩, ⟨h5, h6, h7⟩, h8, h9, h10, h11⟩ := id h
    refine ⟨τ, ?_, F1.rfl, h⟩
    rw [fX6_findToken_L0, gI1 1 6, ob, h8, gI1 1 6, ob, h2, if_pos (nI_le (by omega) (by omega))]
  | succ d ih =>
    intro a fuel τ ha hf h
    obtain ⟨g, rfl⟩ : ∃ g, fuel = g + 1 := ⟨fuel - 1, by omega⟩
    obtain ⟨⟨h1, h2, h3, h4⟩, ⟨h5, h6, h7⟩, h8, h9, h10, h11⟩ := id h
    obtain ⟨b1, b2⟩ := h4 a (by omega)
    have bb := (sb_in (t a) b2).2.2.1
    rw [fX6_findToken_L0, gI1 1 6, ob, h8, gI1 1 6, ob, h2, if_neg (nI_ge (by omega) (by omega)), gR1 1 6, h1, ob, ob, lB1 (k := a) (by omega), ob, b1, scn]
    by_cases e : t a = 32
    · rw [if_pos (of_decide_eq_true (bb.trans (decide_eq_true e))), if_pos (show isB t a = true from decide_eq_true e), ob, pI1 1 6, ob, nI_1]
      obtain ⟨τ', g1, g2, g3⟩ := ih (a + 1) g (wI τ 1 2 (nI (a + 1))) (by omega) (by omega) (h.at (by omega))
      exact ⟨τ', g1, F1.w.trans g2, g3⟩
    · rw [if_neg (of_decide_eq_false (bb.trans (decide_eq_false e))), if_neg (show ¬ isB t a = true from fun q => e (of_decide_eq_true q))]
      exact ⟨τ, rfl, F1.rfl, h⟩
theorem ev_find (h : cR τ w t a k f p) : ∃ τ', fX6_findToken kT1 1 τ = some τ' ∧ F1 τ τ' ∧ cR τ' w t (sk t w a) (sk t w a) f p := by
  obtain ⟨⟨h1, h2, h3, h4⟩, ⟨h5, h6, h7⟩, h8, h9, h10, h11⟩ := id h
  obtain ⟨τ', g1, g2, g3⟩ := find_L (ex := fun u8 => (gti kT1 u8 1 6 2).bind fun x9 => (pti kT1 u8 1 6 3 x9).bind fun u10 => some u10) (w - a) a 6000 τ (by omega) (by omega) h
  unfold fX6_findToken
  rw [g1, gI1 1 6, ob, g3.2.2.1, pI1 1 6, ob]
  exact ⟨_, rfl, g2.trans F1.w, g3.tok (sk_in h5).2⟩
theorem step_L {ex : hM → Option (Int32 × hM)} {lo hi : Nat} (hb : ∀ v, v < 256 → decide (nI lo ≤ sb v ∧ sb v ≤ nI hi) = decide (lo ≤ v ∧ v ≤ hi)) : ∀ (d a fuel : Nat) (τ : hM), a + d = w → d < fuel → cR τ w t a k f p → ∃ τ', fX6_stepOver_L0 kT1 1 (nI lo) (nI hi) ex fuel τ = ex τ' ∧ F1 τ τ' ∧ cR τ' w t (scn (isR t lo hi) a d) k f p := by
  intro d
  induction d with
  | zero =>
    intro a fuel τ ha hf h
    obtain ⟨g, rfl⟩ : ∃ g, fuel = g + 1 := ⟨fuel - 1, by omega⟩
    obtain ⟨⟨h1, h2, h3, h4⟩, ⟨h5, h6, h7⟩, h8, h9, h10, h11⟩ := id h
    refine ⟨τ, ?_, F1.rfl, h⟩
    rw [fX6_stepOver_L0, gI1 1 6, ob, h8, gI1 1 6, ob, h2, if_pos (nI_le (by omega) (by omega))]
  | succ d ih =>
    intro a fuel τ ha hf h
    obtain ⟨g, rfl⟩ : ∃ g, fuel = g + 1 := ⟨fuel - 1, by omega⟩
    obtain ⟨⟨h1, h2, h3, h4⟩, ⟨h5, h6, h7⟩, h8, h9, h10, h11⟩ := id h
    obtain ⟨b1, b2⟩ := h4 a (by omega)
    have bb := hb (t a) b2
    rw [fX6_stepOver_L0, gI1 1 6, ob, h8, gI1 1 6, ob, h2, if_neg (nI_ge (by omega) (by omega)), gR1 1 6, h1, ob, ob, lB1 (k := a) (by omega), ob, b1, isW, ob, scn]
    by_cases e : lo ≤ t a ∧ t a ≤ hi
    · rw [ifz1 (of_decide_eq_true (bb.trans (decide_eq_true e))), if_pos (show isR t lo hi a = true from decide_eq_true e), gI1 1 6, ob, h8, pI1 1 6, ob, nI_1]
      obtain ⟨τ', g1, g2, g3⟩ := ih (a + 1) g (wI τ 1 2 (nI (a + 1))) (by omega) (by omega) (h.at (by omega))
      exact ⟨τ', g1, F1.w.trans g2, g3⟩
    · rw [ifz0 (of_decide_eq_false (bb.trans (decide_eq_false e))), if_neg (show ¬ isR t lo hi a = true from fun q => e (of_decide_eq_true q))]
      exact ⟨τ, rfl, F1.rfl, h⟩
theorem ev_step {lo hi : Nat} (hb : ∀ v, v < 256 → decide (nI lo ≤ sb v ∧ sb v ≤ nI hi) = decide (lo ≤ v ∧ v ≤ hi)) (h : cR τ w t a k f p) (hk : k ≤ a) : ∃ τ', fX6_stepOver kT1 1 (nI lo) (nI hi) τ = some (nI (rn t w lo hi a - k), τ') ∧ F1 τ τ' ∧ cR τ' w t (rn t w lo hi a) k f p := by
  obtain ⟨⟨h1, h2, h3, h4⟩, ⟨h5, h6, h7⟩, h8, h9, h10, h11⟩ := id h
  obtain ⟨τ', g1, g2, g3⟩ := step_L (ex := fun u9 => (gti kT1 u9 1 6 2).bind fun x10 => (gti kT1 u9 1 6 3).bind fun x11 => some ((x10 - x11), u9)) hb (w - a) a 6000 τ (by omega) (by omega) h
  have := (rn_in (t := t) (lo := lo) (hi := hi) h5).1
  unfold fX6_stepOver
  rw [g1, gI1 1 6, ob, g3.2.2.1, gI1 1 6, ob, g3.2.2.2.1]
  exact ⟨τ', by rw [show scn (isR t lo hi) a (w - a) = rn t w lo hi a from rfl, pk_sub (by omega)], g2, g3⟩
theorem ev_blame {m : Nat} (hm : m < 5) (h : cR τ w t a k f p) : ∃ τ', fX6_blame kT1 1 (nI m) τ = some τ' ∧ F1 τ τ' ∧ cR τ' w t a k (if f = 0 then m else f) (if f = 0 then nI k else p) := by
  unfold fX6_blame
  rw [vC1 1 6, ev_hasFault h, ob]
  by_cases e : f = 0
  · simp only [if_pos e]
    obtain ⟨⟨h1, h2, h3, h4⟩, ⟨h5, h6, h7⟩, h8, h9, h10, h11⟩ := id h
    rw [if_pos trivial, pI1 1 6, ob, gI1 1 6, ob, wIk (by decide), h9, pI1 1 6, ob]
    exact ⟨_, rfl, F1.w.trans F1.w, h.flt hm⟩
  · simp only [if_neg e]
    rw [if_neg (show ¬ (1 : Int32) = 0 by decide)]
    exact ⟨τ, rfl, F1.rfl, h⟩
theorem ev_isOver (h : cR τ w t a k f p) : ∃ τ', fX6_isOver kT1 1 τ = some (if f = 0 ∧ sk t w a < w then 0 else 1, τ') ∧ F1 τ τ' ∧ cR τ' w t (sk t w a) (sk t w a) f p := by
  obtain ⟨τ', g1, g2, g3⟩ := ev_find h
  refine ⟨τ', ?_, g2, g3⟩
  have hw := h.1.2.2.1
  unfold fX6_isOver
  rw [vC1 1 6, g1, ob, vC1 1 6, ev_hasFault g3, ob]
  by_cases e : f = 0
  · simp only [if_pos e]
    rw [if_pos trivial, gI1 1 6, ob, gI1 1 6, ob, g3.2.2.1, g3.1.2.1]
    by_cases q : sk t w a < w
    · rw [if_pos (nI_lt q (by omega)), if_pos ⟨e, q⟩]; rfl
    · rw [if_neg (nI_nlt (by omega) (by have := (sk_in (t := t) h.2.1.1).2; omega)), if_neg (fun z => q z.2)]; rfl
  · simp only [if_neg e]
    rw [if_neg (show ¬ (1 : Int32) = 0 by decide), if_neg (fun z => e z.1)]; rfl
theorem ev_readIf {m : Nat} (hm : ∀ v, v < 256 → decide (sb v = nI m) = decide (v = m)) (h : cR τ w t a k f p) : ∃ τ', fX6_readIf kT1 1 (nI m) τ = some (if f = 0 ∧ sk t w a < w ∧ t (sk t w a) = m then 1 else 0, τ') ∧ F1 τ τ' ∧ cR τ' w t (if f = 0 then (if sk t w a < w ∧ t (sk t w a) = m then sk t w a + 1 else sk t w a) else a) (if f = 0 then sk t w a else k) f p := by
  unfold fX6_readIf
  rw [vC1 1 6, ev_hasFault h, ob]
  by_cases e : f = 0
  · obtain ⟨τ', g1, g2, g3⟩ := ev_find h
    obtain ⟨⟨h1, h2, h3, h4⟩, ⟨h5, h6, h7⟩, h8, h9, h10, h11⟩ := id g3
    simp only [if_pos e]
    rw [if_pos trivial, vC1 1 6, g1, ob, gI1 1 6, ob, gI1 1 6, ob, h8, h2]
    by_cases q : sk t w a < w
    · obtain ⟨b1, b2⟩ := h4 _ q
      have bb := hm (t (sk t w a)) b2
      rw [if_neg (nI_ge q (by omega)), gR1 1 6, h1, ob, ob, lB1 (k := sk t w a) (by omega), ob, b1]
      by_cases z : t (sk t w a) = m
      · rw [if_pos (of_decide_eq_true (bb.trans (decide_eq_true z))), ob, pI1 1 6, ob, nI_1, if_pos ⟨e, q, z⟩, if_pos ⟨q, z⟩]
        exact ⟨_, rfl, g2.trans F1.w, g3.at (by omega)⟩
      · rw [if_neg (of_decide_eq_false (bb.trans (decide_eq_false z))), if_neg (fun y => z y.2.2), if_neg (fun y => z y.2)]
        exact ⟨_, rfl, g2, g3⟩
    · rw [if_pos (nI_le (by omega) (by omega)), if_neg (fun y => q y.2.1), if_neg (fun y => q y.1)]
      exact ⟨_, rfl, g2, g3⟩
  · simp only [if_neg e]
    rw [if_neg (show ¬ (1 : Int32) = 0 by decide), if_neg (fun y => e y.1)]
    exact ⟨τ, rfl, F1.rfl, h⟩
theorem ev_readSign {m : Nat} (hm : ∀ v, v < 256 → decide (sb v = nI m) = decide (v = m)) (h : cR τ w t a k f p) : ∃ τ', fX6_readSign kT1 1 (nI m) τ = some τ' ∧ F1 τ τ' ∧ (f ≠ 0 → cR τ' w t a k f p) ∧ (f = 0 → (if sk t w a < w ∧ t (sk t w a) = m then cR τ' w t (sk t w a + 1) (sk t w a) 0 p else cR τ' w t (sk t w a) (sk t w a) 1 (nI (sk t w a)))) := by
  obtain ⟨τ', g1, g2, g3⟩ := ev_readIf hm h
  unfold fX6_readSign
  by_cases e : f = 0
  · subst e
    rw [if_pos rfl, if_pos rfl] at g3
    by_cases z : sk t w a < w ∧ t (sk t w a) = m
    · rw [if_pos z] at g3
      rw [if_pos (show 0 = 0 ∧ sk t w a < w ∧ t (sk t w a) = m from ⟨rfl, z⟩)] at g1
      rw [vC1 1 6, g1, ob, if_neg (show ¬ ((1 : Int32), τ').1 = 0 from (by decide : ¬ (1 : Int32) = 0))]
      refine ⟨τ', rfl, g2, fun q => absurd rfl q, fun _ => ?_⟩
      rw [if_pos z]
      exact g3
    · rw [if_neg z] at g3
      rw [if_neg (show ¬ (0 = 0 ∧ sk t w a < w ∧ t (sk t w a) = m) from fun q => z q.2)] at g1
      obtain ⟨τ'', k1, k2, k3⟩ := ev_blame (m := 1) (by decide) g3
      rw [if_pos rfl, if_pos rfl] at k3
      rw [vC1 1 6, g1, ob, if_pos (show ((0 : Int32), τ').1 = 0 from rfl), vC1 1 6, show fX6_blame kT1 1 1 τ' = some τ'' from k1, ob]
      refine ⟨τ'', rfl, g2.trans k2, fun q => absurd rfl q, fun _ => ?_⟩
      rw [if_neg z]
      exact k3
  · rw [if_neg e, if_neg e] at g3
    rw [if_neg (show ¬ (f = 0 ∧ sk t w a < w ∧ t (sk t w a) = m) from fun q => e q.1)] at g1
    obtain ⟨τ'', k1, k2, k3⟩ := ev_blame (m := 1) (by decide) g3
    rw [if_neg e, if_neg e] at k3
    rw [vC1 1 6, g1, ob, if_pos (show ((0 : Int32), τ').1 = 0 from rfl), vC1 1 6, show fX6_blame kT1 1 1 τ' = some τ'' from k1, ob]
    exact ⟨τ'', rfl, g2.trans k2, fun _ => k3, fun q => absurd q e⟩
end CLASS
