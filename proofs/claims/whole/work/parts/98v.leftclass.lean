/-! THE FEWEST MINUTES: the class's search, with what it has seen -/
theorem lL (a : Nat) {σ : hM} {k : Nat} (hk : k < 16) (h1 : kT1.1 a = 14) (h2 : kT1.2 a = 16) : aldl kT1 σ a (nI k) = some (σ.2.1 a k) := by
  unfold aldl
  rw [if_pos ⟨h1, by rw [h2]; exact nI_in hk (by decide)⟩, nI_clamp (by omega)]
theorem sL (a : Nat) {σ : hM} {k : Nat} {v : Int64} (hk : k < 16) (h1 : kT1.1 a = 14) (h2 : kT1.2 a = 16) : astl kT1 σ a (nI k) v = some (wL σ a k v) := by
  unfold astl
  rw [if_pos ⟨h1, by rw [h2]; exact nI_in hk (by decide)⟩, nI_clamp (by omega)]
theorem kLg : ∀ d, d < 7 → kT1.1 (86 + d) = 14 ∧ kT1.2 (86 + d) = 16 := by decide +kernel
theorem wLn {σ : hM} {a b k : Nat} {v : Int64} (h : b ≠ a) : (wL σ a k v).2.1 b = σ.2.1 b := by funext j; simp [wL, h_w2, h]
theorem wLs {σ : hM} {a k j : Nat} {v : Int64} : (wL σ a k v).2.1 a j = if j = k then v else σ.2.1 a j := by simp [wL, h_w2]
theorem fill729_L {c1 : Int32} : ∀ (d k fuel : Nat) (σ : hM), k + d = 729 → d < fuel → ∃ σ' : hM, fJ7_fill_53178_L5 kT1 93 c1 (Int32.ofNat 729) (fun u4 => some u4) fuel (nI k) σ = some σ' ∧ σ'.2 = σ.2 ∧ (∀ a, a ≠ 93 → σ'.1 a = σ.1 a) ∧ (∀ j, k ≤ j → j < 729 → σ'.1 93 j = c1) ∧ ∀ j, j < k → σ'.1 93 j = σ.1 93 j := by
  intro d
  induction d with
  | zero =>
    intro k fuel σ hk hf
    obtain ⟨f, rfl⟩ : ∃ f, fuel = f + 1 := ⟨fuel - 1, by omega⟩
    have e : k = 729 := by omega
    subst e
    rw [fJ7_fill_53178_L5, if_pos (show Int32.ofNat 729 ≤ nI 729 by decide)]
    exact ⟨σ, rfl, rfl, fun x _ => rfl, fun s h1 h2 => absurd h1 (by omega), fun x _ => rfl⟩
  | succ d ih =>
    intro k fuel σ hk hf
    obtain ⟨f, rfl⟩ : ∃ f, fuel = f + 1 := ⟨fuel - 1, by omega⟩
    rw [fJ7_fill_53178_L5, if_neg (show ¬ Int32.ofNat 729 ≤ nI k from nI_ge (b := 729) (by omega) (by decide)), sA1 93 729 (k := k) (by omega), ob]
    simp only [iflt, nI_1]
    obtain ⟨σ', h1, h2, h3, h4, h5⟩ := ih (k + 1) f (wI σ 93 k c1) (by omega) (by omega)
    refine ⟨σ', h1, h2, fun a ha => (h3 a ha).trans (wIn ha), fun j hj hj2 => ?_, fun x hx => ?_⟩
    · by_cases e : j = k
      · subst e
        rw [h5 _ (by omega), wIe]
      · exact h4 j (by omega) hj2
    · rw [h5 x (by omega), wIk (by omega)]
theorem ev_fill729 {c1 : Int32} {σ : hM} : ∃ σ' : hM, fJ7_fill_53178 kT1 93 c1 σ = some σ' ∧ σ'.2 = σ.2 ∧ (∀ a, a ≠ 93 → σ'.1 a = σ.1 a) ∧ ∀ j, j < 729 → σ'.1 93 j = c1 := by
  obtain ⟨σ', h1, h2, h3, h4, -⟩ := fill729_L (c1 := c1) 729 0 6000 σ (by omega) (by omega)
  rw [nI_0] at h1
  refine ⟨σ', ?_, h2, h3, fun j hj => h4 j (Nat.zero_le j) hj⟩
  unfold fJ7_fill_53178 aln
  rw [show kT1.1 93 = 11 from rfl, if_pos (by decide), ob, show kT1.2 93 = 729 from rfl]
  exact h1
section SEARCH
variable {wt : Nat → Int64} {tk r0 : Nat → Int32} {t R : Nat} {q : Int32}
/-- the search's own places -/
def lG (σ : hM) (R t : Nat) (tk : Nat → Int32) (q : Int32) : Prop := (σ.2.2 84 0 = some 85 ∧ σ.2.2 84 1 = some 93 ∧ σ.2.2 84 2 = some R ∧ ∀ k, k < 7 → σ.2.2 85 k = some (86 + k)) ∧ tkR σ R t tk ∧ σ.1 84 3 = q ∧ (R = 9 ∨ R = 14)
theorem lG.fr {σ σ' : hM} (h : lG σ R t tk q) (h1 : σ'.2.2 = σ.2.2) (h2 : ∀ a, a ≠ 93 → σ'.1 a = σ.1 a) : lG σ' R t tk q := by
  obtain ⟨g1, g2, g3, g4⟩ := h
  refine ⟨by rw [h1]; exact g1, ?_, by rw [h2 84 (by decide)]; exact g3, g4⟩
  unfold tkR at g2 ⊢
  rw [h1, h2 R (by omega), h2 (R + 1) (by omega), h2 (R + 2) (by omega), h2 (R + 3) (by omega), h2 (R + 4) (by omega)]
  exact g2
/-- results behind the relative code c -/
def rcc (r0 : Nat → Int32) (c j : Nat) : Int32 := if dt j c = 0 then r0 j else nI (dt j c)
def vld (r0 : Nat → Int32) (t c : Nat) : Prop := c < 729 ∧ ∀ i, i < 6 → dt i c ≠ 0 → i < t ∧ r0 i = 0
theorem rcc_add {i c v : Nat} (hv : vld r0 t c) (hi : i < 6) (hit : i < t) (hr : rcc r0 c i = 0) (hv1 : v = 1 ∨ v = 2) : vld r0 t (c + v * 3 ^ i) ∧ rcc r0 (c + v * 3 ^ i) = sx (rcc r0 c) i (nI v) := by
  obtain ⟨hc, hv2⟩ := hv
  have d0 : dt i c = 0 := by
    by_cases e : dt i c = 0
    · exact e
    · unfold rcc at hr
      rw [if_neg e] at hr
      exact absurd hr (nI_ne0 (by omega) (by have := dt_lt i c; omega))
  have r00 : r0 i = 0 := by
    unfold rcc at hr
    rw [if_pos d0] at hr
    exact hr
  obtain ⟨k1, k2⟩ := dt_add i hi c hc d0 v (by omega)
  refine ⟨⟨k1, fun j hj hd => ?_⟩, ?_⟩
  · rw [k2 j hj] at hd
    by_cases e : j = i
    · subst e; exact ⟨hit, r00⟩
    · rw [if_neg e] at hd; exact hv2 j hj hd
  · funext j
    unfold rcc sx
    by_cases hj : j < 6
    · rw [k2 j hj]
      by_cases e : j = i
      · rw [if_pos e, if_pos e, if_neg (by omega)]
      · rw [if_neg e, if_neg e]
    · show (if dt j (c + v * 3 ^ i) = 0 then r0 j else nI (dt j (c + v * 3 ^ i))) = if j = i then nI v else (if dt j c = 0 then r0 j else nI (dt j c))
      rw [dt_6 k1 (by omega), dt_6 hc (by omega), if_neg (show ¬ j = i by omega)]
/-- what is seen is right -/
def mem (wt : Nat → Int64) (tk r0 : Nat → Int32) (t : Nat) (q : Int32) (σ : hM) : Prop := ∀ c, vld r0 t c → σ.1 93 c = -2 ∨ σ.1 93 c = cv (lf wt tk t q (uN (rcc r0 c) t) (rcc r0 c))
theorem known_L8 {σ : hM} {A : Nat} {ex : Int64 → Int64 → hM → Option (Int32 × hM)} (h1 : kT1.1 A = 14) (h2 : kT1.2 A = 16) : ∀ (d k fuel : Nat), k + d = 16 → d < fuel → fX2_isKnown_L8 kT1 A ex fuel (sm (σ.2.1 A) k) (gr (σ.2.1 A) k) (nI k) σ = ex (sm (σ.2.1 A) 16) (gr (σ.2.1 A) 16) σ := by
  intro d
  induction d with
  | zero =>
    intro k fuel hk hf
    obtain ⟨f, rfl⟩ : ∃ f, fuel = f + 1 := ⟨fuel - 1, by omega⟩
    have e : k = 16 := by omega
    subst e
    rw [fX2_isKnown_L8, if_pos (by decide)]
  | succ d ih =>
    intro k fuel hk hf
    obtain ⟨f, rfl⟩ : ∃ f, fuel = f + 1 := ⟨fuel - 1, by omega⟩
    rw [fX2_isKnown_L8, if_neg (show ¬ (16 : Int32) ≤ nI k from nI_ge (b := 16) (by omega) (by decide)), lL A (by omega) h1 h2, ob]
    simp only [iflt, nI_1, ob]
    rw [mx]
    exact ih (k + 1) f (by omega) (by omega)
theorem ev_isKnown {σ : hM} {A : Nat} (h1 : kT1.1 A = 14) (h2 : kT1.2 A = 16) (h3 : σ.1 84 3 = q) : fX2_isKnown kT1 84 A σ = some (if gr (σ.2.1 A) 16 * 100 < q.toInt64 * sm (σ.2.1 A) 16 then 0 else 1, σ) := by
  have L := known_L8 (σ := σ) (ex := fun x6 x7 u8 => (gti kT1 u8 84 2 3).bind fun x9 => if (x7 * (100 : Int64)) < (x9.toInt64 * x6) then (rtz (0 : Int32) u8) else (rtz (1 : Int32) u8)) h1 h2 16 0 6000 (by omega) (by omega)
  rw [nI_0] at L
  unfold fX2_isKnown
  refine L.trans ?_
  rw [gI1 84 2, ob, h3]
  split <;> rfl
theorem fillOdds_L {A B : Nat} {v1 v2 pt : Int32} (hA1 : kT1.1 A = 14) (hA2 : kT1.2 A = 16) (hB1 : kT1.1 B = 14) (hB2 : kT1.2 B = 16) (hAB : A ≠ B) : ∀ (d k fuel : Nat) (σ : hM), k + d = 16 → d < fuel → ∃ σ' : hM, fX2_fillOdds_L75 kT1 v1 v2 pt A B (fun u19 => some u19) fuel (nI k) σ = some σ' ∧ σ'.2.2 = σ.2.2 ∧ σ'.1 = σ.1 ∧ (∀ x, x ≠ B → σ'.2.1 x = σ.2.1 x) ∧ (∀ j, j < k → σ'.2.1 B j = σ.2.1 B j) ∧ ∀ j, k ≤ j → j < 16 → σ'.2.1 B j = σ.2.1 A j * (if (pt &&& nI j) = 0 then v1 else v2).toInt64 := by
  intro d
  induction d with
  | zero =>
    intro k fuel σ hk hf
    obtain ⟨f, rfl⟩ : ∃ f, fuel = f + 1 := ⟨fuel - 1, by omega⟩
    have e : k = 16 := by omega
    subst e
    rw [fX2_fillOdds_L75, if_pos (by decide)]
    exact ⟨σ, rfl, rfl, rfl, fun _ _ => rfl, fun _ _ => rfl, fun j a b => absurd a (by omega)⟩
  | succ d ih =>
    intro k fuel σ hk hf
    obtain ⟨f, rfl⟩ : ∃ f, fuel = f + 1 := ⟨fuel - 1, by omega⟩
    rw [fX2_fillOdds_L75, if_neg (show ¬ (16 : Int32) ≤ nI k from nI_ge (b := 16) (by omega) (by decide)), lL A (by omega) hA1 hA2, ob]
    simp only [iflt, nI_1]
    rw [sL B (by omega) hB1 hB2, ob]
    obtain ⟨σ', g1, g2, g3, g4, g5, g6⟩ := ih (k + 1) f (wL σ B k (σ.2.1 A k * (if (pt &&& nI k) = 0 then v1 else v2).toInt64)) (by omega) (by omega)
    refine ⟨σ', g1, g2, g3, fun x hx => (g4 x hx).trans (wLn hx), fun j hj => ?_, fun j h1 h2 => ?_⟩
    · rw [g5 j (by omega), wLs, if_neg (by omega)]
    · by_cases e : j = k
      · subst e
        rw [g5 _ (by omega), wLs, if_pos rfl]
      · rw [g6 j (by omega) h2, wLn hAB]
theorem pt_15 : ∀ P, P < 16 → ∀ k, k < 16 → (nI P &&& nI k) ≠ 0 → (nI P &&& 15) ≠ 0 ∧ (nI P &&& 0 : Int32) = 0 := by decide +kernel
theorem pt_0 : ∀ P, P < 16 → (nI P &&& 0 : Int32) = 0 := by decide +kernel
/-- the odds behind one result more -/
theorem ev_fillOdds {σ : hM} {dp i : Nat} {p5 : Int32} {r : Nat → Int32} (hG : lG σ R t tk q) (hdp : dp < 6) (hi : i < t) (hr0 : r i = 0) (hp : p5 = 0 ∨ p5 = 1) (hP : ∃ P, P < 16 ∧ tk (4 * i + 3) = nI P) (hrow : ∀ k, k < 16 → σ.2.1 (86 + dp) k = odr wt tk r t k) : ∃ σ', fX2_fillOdds kT1 84 (nI (dp + 1)) (nI i) p5 σ = some σ' ∧ σ'.2.2 = σ.2.2 ∧ σ'.1 = σ.1 ∧ (∀ x, x ≠ 86 + (dp + 1) → σ'.2.1 x = σ.2.1 x) ∧ ∀ k, k < 16 → σ'.2.1 (86 + (dp + 1)) k = odr wt tk (sx r i (if p5 = 0 then 2 else 1)) t k := by
  obtain ⟨⟨o0, o1, o2, o85⟩, hk, h3, hR⟩ := id hG
  have hk' := hk
  obtain ⟨kR, ⟨k1, l1⟩, ⟨k2, l2⟩, ⟨k3, l3⟩, ⟨k4, l4⟩, ⟨e0, e1, e2, e3⟩, et, ht, hkk⟩ := hk'
  obtain ⟨P, hP16, hPe⟩ := hP
  have d4 := (hkk i hi).2.2.2
  obtain ⟨a1, a2⟩ := kLg dp (by omega)
  obtain ⟨b1, b2⟩ := kLg (dp + 1) (by omega)
  have la : aldr 17 kT1 σ 85 (nI dp) = some (86 + dp) := (lR 7 (show kT1.1 85 = 17 from rfl) (show kT1.2 85 = 7 from rfl) (by omega) (by decide)).trans (o85 dp (by omega))
  have lb : aldr 17 kT1 σ 85 (nI (dp + 1)) = some (86 + (dp + 1)) := (lR 7 (show kT1.1 85 = 17 from rfl) (show kT1.2 85 = 7 from rfl) (by omega) (by decide)).trans (o85 (dp + 1) (by omega))
  obtain ⟨σ', g1, g2, g3, g4, -, g6⟩ := fillOdds_L (A := 86 + dp) (B := 86 + (dp + 1)) (v1 := sh tk i 0 (if p5 = 0 then 2 else 1)) (v2 := sh tk i 15 (if p5 = 0 then 2 else 1)) (pt := tk (4 * i + 3)) a1 a2 b1 b2 (by omega) 16 0 6000 σ (by omega) (by omega)
  rw [nI_0] at g1
  have hw : (1 : Int32) ≤ nI (dp + 1) ∧ nI (dp + 1) ≤ 6 := ⟨nI_le (a := 1) (by omega) (by omega), nI_le (b := 6) (by omega) (by decide)⟩
  have nq : gtq kT1 σ 84 2 2 = some (some R) := (gQ (show kT1.1 84 = 3 from rfl)).trans (by rw [o2])
  refine ⟨σ', ?_, g2, g3, g4, fun k hk16 => ?_⟩
  · unfold fX2_fillOdds
    rw [isW, ob, ifz1 hw, nq, ob, if_neg (by simp), gR1 84 2, o2, ob, vC kR, ev_percent hk hi hp, ob, gR1 84 2, o2, ob, vC kR, ev_percent hk hi hp, ob, gR1 84 2, o2, ob, gR kR, e3, ob, lA 6 k4 l4 (by omega) (by decide), ob, d4, gR1 84 2, o0, ob, nI_pred, la, ob, ob, lb, ob]
    exact g1
  · rw [g6 k (Nat.zero_le k) hk16, hrow k hk16]
    have hne : ¬ (if p5 = 0 then (2 : Int32) else 1) ≤ 0 := by rcases hp with rfl | rfl <;> decide
    have e9 := od_at (w := wt k) (tk := tk) (r := r) (r' := sx r i (if p5 = 0 then 2 else 1)) (ty := nI k) (i := i) hr0 (by rw [show sx r i (if p5 = 0 then 2 else 1) i = (if p5 = 0 then (2 : Int32) else 1) from if_pos rfl]; exact hne) (fun j hj => if_neg hj) t
    rw [if_pos hi, show sx r i (if p5 = 0 then 2 else 1) i = (if p5 = 0 then (2 : Int32) else 1) from if_pos rfl] at e9
    show od (wt k) tk r (nI k) t * _ = od (wt k) tk (sx r i (if p5 = 0 then 2 else 1)) (nI k) t
    rw [e9]
    congr 2
    unfold sh
    rw [hPe, pt_0 P hP16]
    by_cases z : (nI P &&& nI k) = 0
    · rw [if_pos z, if_pos z, if_pos rfl]
    · have z2 := (pt_15 P hP16 k hk16 z).1
      rw [if_neg z, if_neg z, if_neg z2]
end SEARCH
