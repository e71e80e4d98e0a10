/-! A SINGER'S NUMBERS, and what follows from them -/
def vLean (x : Nat → Int32) : Int32 := if x 0 = 1 then 0 else x 2
def vDrift (x : Nat → Int32) : Int32 := if x 0 = 1 then 0 else if x 0 = 2 then 2 * x 7 else x 7
def vHigh (x : Nat → Int32) : Int32 := if x 0 = 3 then (if x 5 + 5 < x 6 then x 5 + 5 else x 6) else x 6
def vMem (x : Nat → Int32) : Int32 := if x 0 = 5 then (if 3 < x 4 then 3 else x 4) else x 4
def vEar (x : Nat → Int32) : Int32 := (if x 0 = 6 then 2 * x 1 else x 1) + 50
def vAbs (p : Int32) : Int32 := if 0 ≤ p then p else 0 - p
def vHeld (x : Nat → Int32) (p : Int32) : Int32 := if 100 * x 5 < (if p < 100 * vHigh x then p else 100 * vHigh x) then (if p < 100 * vHigh x then p else 100 * vHigh x) else 100 * x 5
def vMove (x : Nat → Int32) (rise since : Int32) : Int32 := if ¬ x 0 = 1 ∧ ¬ since < vMem x then 0 else (if ¬ x 0 = 1 ∧ vAbs rise ≤ vEar x then 0 else rise) + vDrift x
section VOICE
variable {σ : hM} {w : Nat} {p since : Int32}
theorem ev_lean (kw : kd kT1 w (3 + 1)) : fX3_leanSung kT1 w σ = some (vLean (σ.1 w), σ) := by
  unfold fX3_leanSung vLean
  rw [gI kw, ob]
  by_cases h : σ.1 w 0 = 1
  · rw [if_pos h, if_pos h]
  · rw [if_neg h, if_neg h, gI kw, ob]
theorem ev_drift (kw : kd kT1 w (3 + 1)) : fX3_driftSung kT1 w σ = some (vDrift (σ.1 w), σ) := by
  unfold fX3_driftSung vDrift
  rw [gI kw, ob]
  by_cases h : σ.1 w 0 = 1
  · rw [if_pos h, if_pos h]
  · rw [if_neg h, if_neg h, ob]
    by_cases h2 : σ.1 w 0 = 2
    · rw [if_pos h2, if_pos h2, gI kw, ob]
    · rw [if_neg h2, if_neg h2, gI kw, ob]
theorem ev_high (kw : kd kT1 w (3 + 1)) : fX3_highSung kT1 w σ = some (vHigh (σ.1 w), σ) := by
  unfold fX3_highSung vHigh
  rw [gI kw, ob]
  by_cases h : σ.1 w 0 = 3
  · rw [if_pos h, if_pos h, gI kw, ob, gI kw, ob]
  · rw [if_neg h, if_neg h, gI kw, ob]
theorem ev_past (kw : kd kT1 w (3 + 1)) : fX3_isPastMemory kT1 w since σ = some (if ¬ σ.1 w 0 = 1 ∧ ¬ since < vMem (σ.1 w) then 1 else 0, σ) := by
  unfold fX3_isPastMemory vMem
  rw [gI kw, ob]
  by_cases h : σ.1 w 0 = 1
  · rw [if_pos h, if_neg (show ¬ (¬ σ.1 w 0 = 1 ∧ _) from fun q => q.1 h)]; rfl
  · rw [if_neg h, ob]
    simp only [iflt, gI kw, ob]
    by_cases h5 : σ.1 w 0 = 5
    · simp only [if_pos h5]
      by_cases h6 : since < (if (3 : Int32) < σ.1 w 4 then 3 else σ.1 w 4)
      · rw [if_pos h6, if_neg (fun q => q.2 h6)]; rfl
      · rw [if_neg h6, if_pos ⟨h, h6⟩]; rfl
    · simp only [if_neg h5]
      by_cases h6 : since < σ.1 w 4
      · rw [if_pos h6, if_neg (fun q => q.2 h6)]; rfl
      · rw [if_neg h6, if_pos ⟨h, h6⟩]; rfl
theorem ev_hears (kw : kd kT1 w (3 + 1)) : fX3_hears kT1 w p σ = some (if ¬ σ.1 w 0 = 1 ∧ vAbs p ≤ vEar (σ.1 w) then 0 else 1, σ) := by
  unfold fX3_hears vAbs vEar
  rw [gI kw, ob]
  by_cases h : σ.1 w 0 = 1
  · rw [if_pos h, if_neg (show ¬ (¬ σ.1 w 0 = 1 ∧ _) from fun q => q.1 h)]; rfl
  · rw [if_neg h, ob]
    simp only [iflt, gI kw, ob]
    by_cases h5 : σ.1 w 0 = 6
    · simp only [if_pos h5]
      by_cases h6 : (if 0 ≤ p then p else 0 - p) ≤ 2 * σ.1 w 1 + 50
      · rw [if_pos h6, if_pos ⟨h, h6⟩]; rfl
      · rw [if_neg h6, if_neg (fun q => h6 q.2)]; rfl
    · simp only [if_neg h5]
      by_cases h6 : (if 0 ≤ p then p else 0 - p) ≤ σ.1 w 1 + 50
      · rw [if_pos h6, if_pos ⟨h, h6⟩]; rfl
      · rw [if_neg h6, if_neg (fun q => h6 q.2)]; rfl
theorem ev_move (kw : kd kT1 w (3 + 1)) : fX3_moveOfAim kT1 w p since σ = some (vMove (σ.1 w) p since, σ) := by
  unfold fX3_moveOfAim
  rw [vC kw, ev_past kw, ob]
  by_cases h : ¬ σ.1 w 0 = 1 ∧ ¬ since < vMem (σ.1 w)
  · rw [ifz1 h]
    unfold vMove
    simp only [if_pos h]
  · rw [ifz0 h, vC kw, ev_hears kw, ob]
    simp only [iflt]
    rw [vC kw, ev_drift kw, ob]
    unfold vMove
    simp only [if_neg h]
    by_cases h2 : ¬ σ.1 w 0 = 1 ∧ vAbs p ≤ vEar (σ.1 w)
    · simp only [if_pos h2, if_true]
    · simp only [if_neg h2, if_neg (show ¬ (1 : Int32) = 0 by decide)]
theorem ev_held (kw : kd kT1 w (3 + 1)) : fX3_heldToRange kT1 w p σ = some (vHeld (σ.1 w) p, σ) := by
  unfold fX3_heldToRange vHeld
  rw [gI kw, ob, vC kw, ev_high kw, ob]
variable {s k : Nat} {aim : Int32}
theorem ix8 (s j : Nat) {y : Int32} (h : y = nI j) : nI (8 * s) + y = nI (8 * s + j) := by rw [h, nI_add]
theorem ev_high2 (w4 : σ.2.2 0 4 = some 3) (hs : s < 12) : fX9_highOf kT2 0 (nI s) σ = some (vHigh (fun j => σ.1 3 (8 * s + j)), σ) := by
  unfold fX9_highOf vHigh
  rw [gR2, w4, ob, mul_nI 8 8 rfl, show nI (8 * s) + 6 = nI (8 * s + 6) from ix8 s 6 rfl, lA2 3 96 (k := 8 * s + 6) (by omega), ob, ob, show nI (8 * s) + 5 = nI (8 * s + 5) from ix8 s 5 rfl, lA2 3 96 (k := 8 * s + 5) (by omega), ob]
  simp only [iflt, ob]
  rw [lA2 3 96 (k := 8 * s) (by omega), ob]
  by_cases h : σ.1 3 (8 * s) = 3
  · rw [if_pos h, if_pos (show (fun j => σ.1 3 (8 * s + j)) 0 = 3 from h)]
    by_cases h2 : σ.1 3 (8 * s + 6) ≤ σ.1 3 (8 * s + 5) + 5
    · rw [if_pos h2, if_neg (i_nlt h2)]
    · rw [if_neg h2, if_pos (i_lt h2)]
  · rw [if_neg h, if_neg (show ¬ (fun j => σ.1 3 (8 * s + j)) 0 = 3 from h)]
theorem toInt_add5 {x : Int32} (h : 0 ≤ x.toInt ∧ x.toInt ≤ 100) : (x + 5).toInt = x.toInt + 5 := by
  rw [Int32.toInt_add, show (5 : Int32).toInt = 5 from rfl]
  rw [Int.bmod_eq_of_le (by omega) (by omega)]
theorem toInt_100 {x : Int32} (h : 0 ≤ x.toInt ∧ x.toInt ≤ 100) : (100 * x).toInt = 100 * x.toInt := by
  rw [Int32.toInt_mul, show (100 : Int32).toInt = 100 from rfl]
  rw [Int.bmod_eq_of_le (by omega) (by omega)]
theorem high_in {x : Nat → Int32} (h : sOk x) : (x 5).toInt ≤ (vHigh x).toInt ∧ (vHigh x).toInt ≤ (x 6).toInt := by
  obtain ⟨-, -, -, -, -, ⟨h1, h2, h3⟩, -⟩ := h
  unfold vHigh
  by_cases e : x 0 = 3
  · rw [if_pos e]
    by_cases q : x 5 + 5 < x 6
    · rw [if_pos q, toInt_add5 (by omega)]
      rw [Int32.lt_iff_toInt_lt, toInt_add5 (by omega)] at q
      omega
    · rw [if_neg q]; omega
  · rw [if_neg e]; omega
theorem ev_held2 (w4 : σ.2.2 0 4 = some 3) (hs : s < 12) (hok : sOk (fun j => σ.1 3 (8 * s + j))) : fX9_heldTo kT2 0 (nI s) p σ = some (vHeld (fun j => σ.1 3 (8 * s + j)) p, σ) := by
  have hh := high_in hok
  obtain ⟨-, -, -, -, -, ⟨h1, h2, h3⟩, -⟩ := hok
  dsimp only at hh h1 h2 h3
  unfold fX9_heldTo vHeld
  rw [gR2, w4, ob, mul_nI 8 8 rfl, show nI (8 * s) + 5 = nI (8 * s + 5) from ix8 s 5 rfl, lA2 3 96 (k := 8 * s + 5) (by omega), ob]
  simp only [iflt]
  rw [vC2, ev_high2 w4 hs, ob]
  generalize vHigh (fun j => σ.1 3 (8 * s + j)) = H at hh ⊢
  have e1 := toInt_100 (x := σ.1 3 (8 * s + 5)) (by omega)
  have e2 := toInt_100 (x := H) (by omega)
  show (if 100 * σ.1 3 (8 * s + 5) ≤ p then (if p ≤ 100 * H then some (p, σ) else some (100 * H, σ)) else some (100 * σ.1 3 (8 * s + 5), σ)) = some (if 100 * σ.1 3 (8 * s + 5) < (if p < 100 * H then p else 100 * H) then (if p < 100 * H then p else 100 * H) else 100 * σ.1 3 (8 * s + 5), σ)
  generalize 100 * σ.1 3 (8 * s + 5) = a at e1 ⊢
  generalize 100 * H = b at e2 ⊢
  have hab : a.toInt ≤ b.toInt := by rw [e1, e2]; omega
  by_cases q1 : a ≤ p
  · rw [if_pos q1]
    by_cases q2 : p ≤ b
    · rw [if_pos q2]
      by_cases q3 : p < b
      · rw [if_pos q3]
        by_cases q4 : a < p
        · rw [if_pos q4]
        · rw [if_neg q4, show p = a from Int32.toInt_inj.mp (by rw [Int32.le_iff_toInt_le] at q1; rw [Int32.lt_iff_toInt_lt] at q4; omega)]
      · have e : p = b := Int32.toInt_inj.mp (by rw [Int32.le_iff_toInt_le] at q2; rw [Int32.lt_iff_toInt_lt] at q3; omega)
        rw [if_neg q3, e]
        by_cases q4 : a < b
        · rw [if_pos q4]
        · rw [if_neg q4, show b = a from Int32.toInt_inj.mp (by rw [Int32.lt_iff_toInt_lt] at q4; omega)]
    · rw [if_neg q2, if_neg (show ¬ p < b from fun q => q2 (by rw [Int32.lt_iff_toInt_lt] at q; rw [Int32.le_iff_toInt_le]; omega))]
      by_cases q4 : a < b
      · rw [if_pos q4]
      · rw [if_neg q4, show b = a from Int32.toInt_inj.mp (by rw [Int32.lt_iff_toInt_lt] at q4; omega)]
  · rw [if_neg q1]
    have q3 : p < b := by rw [Int32.le_iff_toInt_le] at q1; rw [Int32.lt_iff_toInt_lt]; omega
    rw [if_pos q3, if_neg (show ¬ a < p from fun q => q1 (by rw [Int32.lt_iff_toInt_lt] at q; rw [Int32.le_iff_toInt_le]; omega))]
end VOICE
