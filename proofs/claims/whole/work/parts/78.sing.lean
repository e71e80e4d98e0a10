/-! SINGING, on both sides at once -/
/-- what singing leaves as it was: all but the row of heights (H, r) and the seed -/
def vR (σ1 σ2 : hM) (H r : Nat) (τ1 τ2 : hM) : Prop := τ1.2.2 = σ1.2.2 ∧ τ2.2.2 = σ2.2.2 ∧ (∀ a, a ≠ H → a ≠ 32 → τ1.1 a = σ1.1 a) ∧ (∀ j, j ≠ 6 → τ1.1 32 j = σ1.1 32 j) ∧ (∀ a, a ≠ r → a ≠ 0 → τ2.1 a = σ2.1 a) ∧ (∀ j, j ≠ 11 → τ2.1 0 j = σ2.1 0 j) ∧ τ1.1 32 6 = τ2.1 0 11 ∧ 0 ≤ (τ2.1 0 11).toInt
theorem vR.draw {σ1 σ2 τ1 τ2 : hM} {H r : Nat} (h : vR σ1 σ2 H r τ1 τ2) (hH : H ≠ 32) (hr : r ≠ 0) {p : Int32} (hp : 0 < p.toInt) : ∃ (v : Int32) (τ1' τ2' : hM), fX5_draw kT1 32 p τ1 = some (v, τ1') ∧ fX9_draw kT2 0 p τ2 = some (v, τ2') ∧ vR σ1 σ2 H r τ1' τ2' ∧ τ1'.1 H = τ1.1 H ∧ τ2'.1 r = τ2.1 r := by
  obtain ⟨h1, h2, h3, h4, h5, h6, h7, h8⟩ := h
  refine ⟨_, _, _, ev_draw1 h7 h8 hp, ev_draw2 rfl hp, ⟨h1, h2, fun a ha hb => (wIn hb).trans (h3 a ha hb), fun j hj => (wIk (fun q => hj q.2)).trans (h4 j hj), fun a ha hb => (wIn hb).trans (h5 a ha hb), fun j hj => (wIk (fun q => hj q.2)).trans (h6 j hj), by rw [wIe, wIe], by rw [wIe]; exact vSeed_pos h8⟩, wIn hH, wIn hr⟩
section SING
variable {σ1 σ2 τ1 τ2 : hM} {H r w s n M md : Nat} {y : Nat → Int32}
theorem start_rel (h : vR σ1 σ2 H r τ1 τ2) (hH : H ≠ 32) (hr : r ≠ 0) (o0_6 : σ1.2.2 0 6 = some 32) (w1 : σ2.2.2 0 1 = some 1) (hmd : md < 4) {d0 : Int32} (hd : τ2.1 1 0 = d0) {p : Int32} (hp : p = if md = 3 then 2 else nI md) : ∃ (v : Int32) (τ1' τ2' : hM), fX8_startOff kT1 0 (nI md) τ1 = some (v, τ1') ∧ fX9_firstAim kT2 0 p τ2 = some (d0 + v, τ2') ∧ vR σ1 σ2 H r τ1' τ2' ∧ τ1'.1 H = τ1.1 H ∧ τ2'.1 r = τ2.1 r := by
  have e6 : τ1.2.2 0 6 = some 32 := by rw [h.1]; exact o0_6
  have e1 : τ2.2.2 0 1 = some 1 := by rw [h.2.1]; exact w1
  have l0 : ald 11 kT2 τ2 1 0 = some d0 := by rw [← hd]; exact lA2 1 40 (k := 0) (by omega)
  subst hp
  unfold fX8_startOff fX9_firstAim
  match md, hmd with
  | 0, _ =>
    obtain ⟨v, a, b, q1, q2, q3, q4, q5⟩ := h.draw hH hr (p := 13) (by decide)
    rw [if_pos nI_0, gR1 0 8, e6, ob, vC1 32 5, q1, ob, gR2, e1, ob, l0, ob, if_pos (by decide), vC2, q2, ob]
    exact ⟨_, a, b, rfl, by rw [Int32.mul_comm], q3, q4, q5⟩
  | 1, _ =>
    obtain ⟨v, a, b, q1, q2, q3, q4, q5⟩ := h.draw hH hr (p := 2) (by decide)
    rw [if_neg (by decide), if_pos (by decide), gR1 0 8, e6, ob, vC1 32 5, q1, ob, gR2, e1, ob, l0, ob, if_neg (by decide), if_pos (by decide), vC2, q2, ob]
    exact ⟨_, a, b, rfl, by rw [Int32.mul_comm], q3, q4, q5⟩
  | 2, _ =>
    rw [if_neg (by decide), if_neg (by decide), gR2, e1, ob, l0, ob, if_neg (by decide), if_neg (by decide)]
    exact ⟨_, τ1, τ2, rfl, rfl, h, rfl, rfl⟩
  | 3, _ =>
    rw [if_neg (by decide), if_neg (by decide), gR2, e1, ob, l0, ob, if_neg (by decide), if_neg (by decide)]
    exact ⟨_, τ1, τ2, rfl, rfl, h, rfl, rfl⟩
theorem fbm {z : Int} (h1 : -1000000 ≤ z) (h2 : z ≤ 1000000) : z.bmod (2 ^ 32) = z := by
  rw [Int.bmod_eq_of_le (by omega) (by omega)]
theorem two_spread {x : Int32} (h : 0 ≤ x.toInt ∧ x.toInt ≤ 99) : 0 < (2 * x + 1).toInt := by
  rw [Int32.toInt_add, Int32.toInt_mul, show (2 : Int32).toInt = 2 from rfl, show (1 : Int32).toInt = 1 from rfl, fbm (z := 2 * x.toInt) (by omega) (by omega), fbm (by omega) (by omega)]
  omega
/-- lean and waver, with a draw or without -/
theorem waver_rel (h : vR σ1 σ2 H r τ1 τ2) (hH : H ≠ 32) (hr : r ≠ 0) (hr3 : r ≠ 3) (hwH : w ≠ H) (hw32 : w ≠ 32) (kw : kd kT1 w (3 + 1)) (o0_6 : σ1.2.2 0 6 = some 32) (w4 : σ2.2.2 0 4 = some 3) (hs : s < 12) (hy : ∀ j, j < 8 → σ1.1 w j = σ2.1 3 (8 * s + j)) (hok : sOk (fun j => σ2.1 3 (8 * s + j))) (h1 : ¬ σ2.1 3 (8 * s) = 1) (hmd : md < 4) {k : Int32} : ∃ (v : Int32) (τ1' τ2' : hM), fX8_waver kT1 0 w k (nI md) τ1 = some (v, τ1') ∧ fX9_swing kT2 0 (nI s) k (if md = 3 then 1 else 0) τ2 = some (v, τ2') ∧ vR σ1 σ2 H r τ1' τ2' ∧ τ1'.1 H = τ1.1 H ∧ τ2'.1 r = τ2.1 r := by
  have e6 : τ1.2.2 0 6 = some 32 := by rw [h.1]; exact o0_6
  have e4 : τ2.2.2 0 4 = some 3 := by rw [h.2.1]; exact w4
  have f0 : τ1.1 w 0 = σ2.1 3 (8 * s) := by rw [h.2.2.1 w hwH hw32]; exact hy 0 (by decide)
  have f3 : τ1.1 w 3 = σ2.1 3 (8 * s + 3) := by rw [h.2.2.1 w hwH hw32]; exact hy 3 (by decide)
  have l3 : ald 11 kT2 τ2 3 (nI (8 * s) + 3) = some (σ2.1 3 (8 * s + 3)) := by
    rw [show nI (8 * s) + 3 = nI (8 * s + 3) from ix8 s 3 rfl, lA2 3 96 (k := 8 * s + 3) (by omega), h.2.2.2.2.1 3 (fun q => hr3 q.symm) (by decide)]
  have sp := two_spread (x := σ2.1 3 (8 * s + 3)) hok.2.2.2.1
  unfold fX8_waver fX9_swing
  rw [gI kw, ob, f0, if_neg h1, gR2, e4, ob, mul_nI 8 8 rfl, l3, ob]
  by_cases e : md = 3
  · subst e
    rw [if_pos (show nI 3 = 3 from rfl), if_neg (show ¬ (if 3 = 3 then (1 : Int32) else 0) = 0 by decide)]
    by_cases q : k - k / 2 * 2 = 0
    · rw [if_pos q, if_pos q, gI kw, ob, f3]
      exact ⟨_, τ1, τ2, rfl, rfl, h, rfl, rfl⟩
    · rw [if_neg q, if_neg q, gI kw, ob, f3]
      exact ⟨_, τ1, τ2, rfl, rfl, h, rfl, rfl⟩
  · obtain ⟨v, a, b, q1, q2, q3, q4, q5⟩ := h.draw hH hr (p := 2 * σ2.1 3 (8 * s + 3) + 1) sp
    have f3' : a.1 w 3 = σ2.1 3 (8 * s + 3) := by rw [q3.2.2.1 w hwH hw32]; exact hy 3 (by decide)
    rw [if_neg (show ¬ nI md = 3 from neI (b := 3) (by omega) (by decide) e), if_neg e, if_pos rfl, gR1 0 8, e6, ob, gI kw, ob, f3, vC1 32 5, q1, ob, gI kw, ob, f3', vC2, q2, ob]
    exact ⟨_, a, b, rfl, rfl, q3, q4, q5⟩
theorem rise_eq {σ : hM} {k : Nat} (kM : kd kT1 M (1 + 1)) (rM : σ.2.2 M 0 = some (M + 1)) (kM1 : kd kT1 (M + 1) 11) (kM1n : kl kT1 (M + 1) 40) (es : σ.1 M 2 = nI n) (hn : n ≤ 40) (hk : k + 1 < n) : fX1_rise kT1 M (nI (k + 1)) σ = some (σ.1 (M + 1) (k + 1) - σ.1 (M + 1) k, σ) := by
  have hin : 1 ≤ nI (k + 1) ∧ nI (k + 1) ≤ nI n - 1 := by
    have e1 : nI n - 1 = nI (n - 1) := by
      have := nI_pred (n - 1)
      rwa [show n - 1 + 1 = n by omega] at this
    rw [e1]
    exact ⟨nI_le (a := 1) (by omega) (by omega), nI_le (by omega) (by omega)⟩
  unfold fX1_rise
  rw [gI kM, ob, es, isW, ob, ifz1 hin, gR kM, rM, ob, lA 40 kM1 kM1n (show k + 1 < 40 by omega) (by decide), ob, ob, nI_pred k, lA 40 kM1 kM1n (show k < 40 by omega) (by decide), ob]
theorem vHeld_in {x : Nat → Int32} (h : sOk x) (p : Int32) : 0 ≤ (vHeld x p).toInt ∧ (vHeld x p).toInt ≤ 3600 := by
  have hh := high_in h
  obtain ⟨-, -, -, -, -, ⟨h1, h2, h3⟩, -⟩ := h
  unfold vHeld
  have e1 := toInt_100 (x := x 5) (by omega)
  have e2 := toInt_100 (x := vHigh x) (by omega)
  by_cases q1 : p < 100 * vHigh x
  · rw [if_pos q1]
    by_cases q2 : 100 * x 5 < p
    · rw [if_pos q2]
      rw [Int32.lt_iff_toInt_lt] at q1 q2
      omega
    · rw [if_neg q2]; omega
  · rw [if_neg q1]
    by_cases q2 : 100 * x 5 < 100 * vHigh x
    · rw [if_pos q2]; omega
    · rw [if_neg q2]; omega
theorem v_cong {x x' : Nat → Int32} (h : ∀ j, j < 8 → x j = x' j) (p q : Int32) : vHeld x p = vHeld x' p ∧ vMove x p q = vMove x' p q ∧ vLean x = vLean x' := by
  unfold vHeld vMove vLean vHigh vMem vEar vDrift
  rw [h 0 (by decide), h 1 (by decide), h 2 (by decide), h 4 (by decide), h 5 (by decide), h 6 (by decide), h 7 (by decide)]
  exact ⟨rfl, rfl, rfl⟩
end SING
