/-! SONGS AND THEIR SCORES -/
theorem i_home (x c d : Int32) : x - c + d = x - (c - d) := by grind
def cS (h d : Nat → Int32) : Nat → Nat
  | 0 => 0
  | k + 1 => cS h d k + (if -50 ≤ (h (k + 1) - d (k + 1)) - (h k - d k) ∧ (h (k + 1) - d (k + 1)) - (h k - d k) ≤ 50 then 1 else 0)
def cH (h d : Nat → Int32) : Nat → Nat
  | 0 => 0
  | k + 1 => cH h d k + (if -50 ≤ h k - d k ∧ h k - d k ≤ 50 then 1 else 0)
theorem cS_le (h d : Nat → Int32) : ∀ k, cS h d k ≤ k
  | 0 => Nat.le_refl _
  | k + 1 => by have := cS_le h d k; simp only [cS]; split <;> omega
theorem cH_le (h d : Nat → Int32) : ∀ k, cH h d k ≤ k
  | 0 => Nat.le_refl _
  | k + 1 => by have := cH_le h d k; simp only [cH]; split <;> omega
theorem cS_cong {h d h' d' : Nat → Int32} : ∀ k, (∀ j, j ≤ k → h j = h' j ∧ d j = d' j) → cS h d k = cS h' d' k
  | 0, _ => rfl
  | k + 1, q => by
    simp only [cS]
    rw [cS_cong k (fun j hj => q j (by omega)), (q (k + 1) (by omega)).1, (q (k + 1) (by omega)).2, (q k (by omega)).1, (q k (by omega)).2]
theorem cH_cong {h d h' d' : Nat → Int32} : ∀ k, (∀ j, j < k → h j = h' j ∧ d j = d' j) → cH h d k = cH h' d' k
  | 0, _ => rfl
  | k + 1, q => by
    simp only [cH]
    rw [cH_cong k (fun j hj => q j (by omega)), (q k (by omega)).1, (q k (by omega)).2]
def pts (h d : Nat → Int32) (n w : Nat) : Int32 :=
  if w = 0 then nI (cS h d (n - 1)) else if w = 1 then nI (cH h d n) else if w = 2 then (if -50 ≤ h 0 - d 0 ∧ h 0 - d 0 ≤ 50 then 1 else 0) else (if -50 ≤ (h (n - 1) - d (n - 1)) - (h 0 - d 0) ∧ (h (n - 1) - d (n - 1)) - (h 0 - d 0) ≤ 50 then 1 else 0)
theorem pts_cong {h d h' d' : Nat → Int32} {n w : Nat} (hn : n ≠ 0) (q : ∀ j, j < n → h j = h' j ∧ d j = d' j) : pts h d n w = pts h' d' n w := by
  unfold pts
  rw [cS_cong (n - 1) (fun j hj => q j (by omega)), cH_cong n q, (q 0 (by omega)).1, (q 0 (by omega)).2, (q (n - 1) (by omega)).1, (q (n - 1) (by omega)).2]
theorem nI_add1 (a : Nat) {P : Prop} [Decidable P] : nI a + (if P then (1 : Int32) else 0) = nI (a + (if P then 1 else 0)) := by
  rw [← nI_add]; congr 1; split <;> rfl
section POINTS
variable {σ : hM} {A H n M : Nat} {ex : Int32 → hM → Option (Int32 × hM)}
theorem ev_steps_L (kA : kd kT1 A (4 + 1)) (rA : σ.2.2 A 0 = some H) (kH : kd kT1 H 11) (lH : kl kT1 H 40) (es : σ.1 A 1 = nI n) (hn : n ≤ 40) (kM : kd kT1 M (1 + 1)) (rM : σ.2.2 M 0 = some (M + 1)) (kM1 : kd kT1 (M + 1) 11) (kM1n : kl kT1 (M + 1) 40) : ∀ (d k fuel : Nat), k + 1 + d = n → d < fuel → fX4_stepsRight_L4 kT1 A M ex fuel (nI (cS (σ.1 H) (σ.1 (M + 1)) k)) (nI (k + 1)) σ = ex (nI (cS (σ.1 H) (σ.1 (M + 1)) (n - 1))) σ := by
  intro d
  induction d with
  | zero =>
    intro k fuel hk hf
    obtain ⟨f, rfl⟩ : ∃ f, fuel = f + 1 := ⟨fuel - 1, by omega⟩
    have e : n = k + 1 := by omega
    subst e
    rw [fX4_stepsRight_L4, gI kA, ob, es, if_pos (nI_le (Nat.le_refl _) (by omega))]
    rfl
  | succ d ih =>
    intro k fuel hk hf
    obtain ⟨f, rfl⟩ : ∃ f, fuel = f + 1 := ⟨fuel - 1, by omega⟩
    have e1 : nI (k + 1) - 1 = nI k := nI_pred k
    rw [fX4_stepsRight_L4, gI kA, ob, es, if_neg (nI_ge (by omega) (by omega)), vC kA, ev_homeAt kA rA kH lH es hn (by omega) kM rM kM1 kM1n, ob, vC kA, e1, ev_homeAt kA rA kH lH es hn (by omega) kM rM kM1 kM1n, ob, ev_isNear1, ob]
    simp only [iflt, nI_1]
    have q := ih (k + 1) f (by omega) (by omega)
    simp only [cS] at q
    by_cases h : -50 ≤ (σ.1 H (k + 1) - σ.1 (M + 1) (k + 1)) - (σ.1 H k - σ.1 (M + 1) k) ∧ (σ.1 H (k + 1) - σ.1 (M + 1) (k + 1)) - (σ.1 H k - σ.1 (M + 1) k) ≤ 50
    · rw [ifz1 h]
      rw [if_pos h] at q
      exact q
    · rw [ifz0 h]
      rw [if_neg h] at q
      exact q
theorem ev_homes_L (kA : kd kT1 A (4 + 1)) (rA : σ.2.2 A 0 = some H) (kH : kd kT1 H 11) (lH : kl kT1 H 40) (es : σ.1 A 1 = nI n) (hn : n ≤ 40) (kM : kd kT1 M (1 + 1)) (rM : σ.2.2 M 0 = some (M + 1)) (kM1 : kd kT1 (M + 1) 11) (kM1n : kl kT1 (M + 1) 40) : ∀ (d k fuel : Nat), k + d = n → d < fuel → fX4_homesRight_L4 kT1 A M ex fuel (nI (cH (σ.1 H) (σ.1 (M + 1)) k)) (nI k) σ = ex (nI (cH (σ.1 H) (σ.1 (M + 1)) n)) σ := by
  intro d
  induction d with
  | zero =>
    intro k fuel hk hf
    obtain ⟨f, rfl⟩ : ∃ f, fuel = f + 1 := ⟨fuel - 1, by omega⟩
    have e : n = k := by omega
    subst e
    rw [fX4_homesRight_L4, gI kA, ob, es, if_pos (nI_le (Nat.le_refl _) (by omega))]
  | succ d ih =>
    intro k fuel hk hf
    obtain ⟨f, rfl⟩ : ∃ f, fuel = f + 1 := ⟨fuel - 1, by omega⟩
    rw [fX4_homesRight_L4, gI kA, ob, es, if_neg (nI_ge (by omega) (by omega)), vC kA, ev_homeAt kA rA kH lH es hn (by omega) kM rM kM1 kM1n, ob, ev_isNear1, ob]
    simp only [iflt, nI_1]
    have q := ih (k + 1) f (by omega) (by omega)
    simp only [cH] at q
    by_cases h : -50 ≤ σ.1 H k - σ.1 (M + 1) k ∧ σ.1 H k - σ.1 (M + 1) k ≤ 50
    · rw [ifz1 h]
      rw [if_pos h] at q
      exact q
    · rw [ifz0 h]
      rw [if_neg h] at q
      exact q
theorem ifc {P : Prop} [Decidable P] {σ : hM} : (if (if P then (1 : Int32) else 0) = 0 then some ((0 : Int32), σ) else some (1, σ)) = some ((if P then (1 : Int32) else 0), σ) := by
  by_cases h : P
  · rw [if_pos h]; rfl
  · rw [if_neg h]; rfl
theorem ifc2 {P : Prop} [Decidable P] : (if (if P then (1 : Int32) else 0) = 0 then (0 : Int32) else 1) = (if P then (1 : Int32) else 0) := by
  by_cases h : P
  · rw [if_pos h]; rfl
  · rw [if_neg h]; rfl
theorem ev_slide (kA : kd kT1 A (4 + 1)) (rA : σ.2.2 A 0 = some H) (kH : kd kT1 H 11) (lH : kl kT1 H 40) (es : σ.1 A 1 = nI n) (hn : n ≤ 40) (kM : kd kT1 M (1 + 1)) (rM : σ.2.2 M 0 = some (M + 1)) (kM1 : kd kT1 (M + 1) 11) (kM1n : kl kT1 (M + 1) 40) (h0 : n ≠ 0) (h1 : ¬ σ.1 H 0 = -1) : fX4_slide kT1 A M σ = some ((σ.1 H (n - 1) - σ.1 (M + 1) (n - 1)) - (σ.1 H 0 - σ.1 (M + 1) 0), σ) := by
  have e1 : nI n - 1 = nI (n - 1) := by
    have := nI_pred (n - 1)
    rwa [show n - 1 + 1 = n by omega] at this
  unfold fX4_slide
  rw [vC kA, ev_isHeard kA rA kH lH es hn, ob, if_neg (show ¬ (n = 0 ∨ σ.1 H 0 = -1) from fun q => q.elim h0 h1), if_neg (fun q => absurd (show (1 : Int32) = 0 from q) (by decide)), gI kA, ob, es, vC kA, e1, ev_homeAt kA rA kH lH es hn (by omega) kM rM kM1 kM1n, ob, vC kA, ← nI_0, ev_homeAt kA rA kH lH es hn (by omega) kM rM kM1 kM1n, ob]
theorem ev_points (kA : kd kT1 A (4 + 1)) (rA : σ.2.2 A 0 = some H) (kH : kd kT1 H 11) (lH : kl kT1 H 40) (es : σ.1 A 1 = nI n) (hn : n ≤ 40) (kM : kd kT1 M (1 + 1)) (rM : σ.2.2 M 0 = some (M + 1)) (kM1 : kd kT1 (M + 1) 11) (kM1n : kl kT1 (M + 1) 40) (h0 : n ≠ 0) (h1 : ¬ σ.1 H 0 = -1) {w : Nat} (hw : w < 4) : fX4_points kT1 A (nI w) M σ = some (pts (σ.1 H) (σ.1 (M + 1)) n w, σ) := by
  unfold fX4_points
  rw [vC kA, ev_isHeard kA rA kH lH es hn, ob, if_neg (show ¬ (n = 0 ∨ σ.1 H 0 = -1) from fun q => q.elim h0 h1), if_neg (fun q => absurd (show (1 : Int32) = 0 from q) (by decide))]
  match w, hw with
  | 0, _ =>
    rw [if_pos nI_0, vC kA]
    unfold fX4_stepsRight
    have q := ev_steps_L (ex := fun x9 u10 => some (x9, u10)) kA rA kH lH es hn kM rM kM1 kM1n (n - 1) 0 6000 (by omega) (by omega)
    rw [show nI (cS (σ.1 H) (σ.1 (M + 1)) 0) = 0 from nI_0, show nI (0 + 1) = 1 from rfl] at q
    rw [q]
    rfl
  | 1, _ =>
    rw [if_neg (by decide), if_pos (by decide), vC kA]
    unfold fX4_homesRight
    have q := ev_homes_L (ex := fun x9 u10 => some (x9, u10)) kA rA kH lH es hn kM rM kM1 kM1n n 0 6000 (by omega) (by omega)
    rw [show nI (cH (σ.1 H) (σ.1 (M + 1)) 0) = 0 from nI_0, nI_0] at q
    rw [q]
    rfl
  | 2, _ =>
    rw [if_neg (by decide), if_neg (by decide)]
    simp only [iflt]
    rw [if_pos (by decide), vC kA, ← nI_0, ev_homeAt kA rA kH lH es hn (by omega) kM rM kM1 kM1n, ob, ev_isNear1, ob]
    exact ifc
  | 3, _ =>
    rw [if_neg (by decide), if_neg (by decide)]
    simp only [iflt]
    rw [if_neg (by decide), vC kA, ev_slide kA rA kH lH es hn kM rM kM1 kM1n h0 h1, ob, ev_isNear1, ob]
    exact ifc
theorem ev_points0 (kA : kd kT1 A (4 + 1)) (rA : σ.2.2 A 0 = some H) (kH : kd kT1 H 11) (lH : kl kT1 H 40) (es : σ.1 A 1 = nI n) (hn : n ≤ 40) (h : n = 0 ∨ σ.1 H 0 = -1) {p : Int32} : fX4_points kT1 A p M σ = some (0, σ) := by
  unfold fX4_points
  rw [vC kA, ev_isHeard kA rA kH lH es hn, ob, if_pos h, if_pos rfl]
variable {r s c : Nat}
theorem ev_score_L0 (kr : kd kT2 r 11) (lr : kl kT2 r 40) (en : σ.1 0 0 = nI n) (hn : n ≤ 40) (w1 : σ.2.2 0 1 = some 1) : ∀ (d k fuel : Nat), k + 1 + d = n → d < fuel → fX9_scoreOf_L107 kT2 0 r 0 ex fuel (nI (cS (σ.1 r) (σ.1 1) k)) (nI (k + 1)) σ = ex (nI (cS (σ.1 r) (σ.1 1) (n - 1))) σ := by
  intro d
  induction d with
  | zero =>
    intro k fuel hk hf
    obtain ⟨f, rfl⟩ : ∃ f, fuel = f + 1 := ⟨fuel - 1, by omega⟩
    have e : n = k + 1 := by omega
    subst e
    rw [fX9_scoreOf_L107, gI2, ob, en, if_pos (nI_le (Nat.le_refl _) (by omega))]
    rfl
  | succ d ih =>
    intro k fuel hk hf
    obtain ⟨f, rfl⟩ : ∃ f, fuel = f + 1 := ⟨fuel - 1, by omega⟩
    have e1 : nI (k + 1) - 1 = nI k := nI_pred k
    rw [fX9_scoreOf_L107, gI2, ob, en, if_neg (nI_ge (by omega) (by omega))]
    simp only [iflt, if_true]
    rw [e1, lA 40 kr lr (show k < 40 by omega) (by decide), ob, gR2, w1, ob, lA2 1 40 (k := k) (by omega), ob, lA 40 kr lr (show k + 1 < 40 by omega) (by decide), ob, ob, lA2 1 40 (k := k + 1) (by omega), ob, ev_isNear2, ob, ifc2, nI_add1, nI_1]
    exact ih (k + 1) f (by omega) (by omega)
theorem ev_score_L1 (kr : kd kT2 r 11) (lr : kl kT2 r 40) (en : σ.1 0 0 = nI n) (hn : n ≤ 40) (w1 : σ.2.2 0 1 = some 1) : ∀ (d k fuel : Nat), k + d = n → d < fuel → fX9_scoreOf_L107 kT2 0 r 1 ex fuel (nI (cH (σ.1 r) (σ.1 1) k)) (nI k) σ = ex (nI (cH (σ.1 r) (σ.1 1) n)) σ := by
  intro d
  induction d with
  | zero =>
    intro k fuel hk hf
    obtain ⟨f, rfl⟩ : ∃ f, fuel = f + 1 := ⟨fuel - 1, by omega⟩
    have e : n = k := by omega
    subst e
    rw [fX9_scoreOf_L107, gI2, ob, en, if_pos (nI_le (Nat.le_refl _) (by omega))]
  | succ d ih =>
    intro k fuel hk hf
    obtain ⟨f, rfl⟩ : ∃ f, fuel = f + 1 := ⟨fuel - 1, by omega⟩
    rw [fX9_scoreOf_L107, gI2, ob, en, if_neg (nI_ge (by omega) (by omega))]
    simp only [iflt]
    rw [if_neg (by decide), lA 40 kr lr (show k < 40 by omega) (by decide), ob, gR2, w1, ob, lA2 1 40 (k := k) (by omega), ob, ev_isNear2, ob, Int32.sub_zero, ifc2, nI_add1, nI_1]
    exact ih (k + 1) f (by omega) (by omega)
theorem ev_scoreOf (kr : kd kT2 r 11) (lr : kl kT2 r 40) (en : σ.1 0 0 = nI n) (hn : n ≤ 40) (w1 : σ.2.2 0 1 = some 1) (w4 : σ.2.2 0 4 = some 3) (hs : s < 12) (h0 : n ≠ 0) (h7 : ¬ σ.1 3 (8 * s) = 7) {w : Nat} (hw : w < 4) : fX9_scoreOf kT2 0 r (nI s) (nI w) σ = some (pts (σ.1 r) (σ.1 1) n w, σ) := by
  unfold fX9_scoreOf
  have e1 : nI n - 1 = nI (n - 1) := by
    have := nI_pred (n - 1)
    rwa [show n - 1 + 1 = n by omega] at this
  rw [gI2, ob, en, if_neg (show ¬ nI n = 0 from nI_ne0 (by omega) (by omega)), gR2, w4, ob, mul_nI 8 8 rfl, lA2 3 96 (k := 8 * s) (by omega), ob, if_neg h7]
  match w, hw with
  | 0, _ =>
    rw [if_pos (by decide)]
    simp only [iflt]
    rw [if_pos (by decide)]
    have q := ev_score_L0 (ex := fun x9 u10 => some (x9, u10)) kr lr en hn w1 (n - 1) 0 6000 (by omega) (by omega)
    rw [show nI (cS (σ.1 r) (σ.1 1) 0) = 0 from nI_0, show nI (0 + 1) = 1 from rfl] at q
    rw [nI_0, q]
    rfl
  | 1, _ =>
    rw [if_pos (by decide)]
    simp only [iflt]
    rw [if_neg (by decide)]
    have q := ev_score_L1 (ex := fun x9 u10 => some (x9, u10)) kr lr en hn w1 n 0 6000 (by omega) (by omega)
    rw [show nI (cH (σ.1 r) (σ.1 1) 0) = 0 from nI_0, nI_0] at q
    rw [show nI 1 = 1 from rfl, q]
    rfl
  | 2, _ =>
    rw [if_neg (by decide)]
    simp only [iflt]
    rw [if_pos (by decide), show ald 11 kT2 σ r 0 = some (σ.1 r 0) from lA 40 (k := 0) kr lr (by omega) (by decide), ob, gR2, w1, ob, show ald 11 kT2 σ 1 0 = some (σ.1 1 0) from lA2 1 40 (k := 0) (by omega), ob, ev_isNear2, ob]
    exact ifc
  | 3, _ =>
    rw [if_neg (by decide)]
    simp only [iflt]
    rw [if_neg (by decide), ob, e1, lA 40 kr lr (show n - 1 < 40 by omega) (by decide), ob, gR2, w1, ob, ob, e1, lA2 1 40 (k := n - 1) (by omega), ob, show ald 11 kT2 σ r 0 = some (σ.1 r 0) from lA 40 (k := 0) kr lr (by omega) (by decide), ob, ob, show ald 11 kT2 σ 1 0 = some (σ.1 1 0) from lA2 1 40 (k := 0) (by omega), ob, ev_isNear2, ob, i_home]
    exact ifc
theorem ev_scoreOf0 (en : σ.1 0 0 = nI n) (hn : n ≤ 40) (w4 : σ.2.2 0 4 = some 3) (hs : s < 12) (h : n = 0 ∨ σ.1 3 (8 * s) = 7) {p : Int32} : fX9_scoreOf kT2 0 r (nI s) p σ = some (0, σ) := by
  unfold fX9_scoreOf
  rw [gI2, ob, en]
  by_cases h0 : n = 0
  · subst h0; rw [if_pos nI_0]
  · rw [if_neg (show ¬ nI n = 0 from nI_ne0 (by omega) (by omega)), gR2, w4, ob, mul_nI 8 8 rfl, lA2 3 96 (k := 8 * s) (by omega), ob, if_pos (h.resolve_left h0)]
end POINTS
