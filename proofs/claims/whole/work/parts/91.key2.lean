section KEY2
variable {σ1 σ2 : hM} {M n s c S : Nat} {b : Int32}
theorem vHigh_cong {x y : Nat → Int32} (h : ∀ j, j < 8 → x j = y j) : vHigh x = vHigh y := by
  unfold vHigh
  rw [h 0 (by decide), h 5 (by decide), h 6 (by decide)]
theorem ev_able_L {ex : Int32 → hM → Option (Int32 × hM)} (o0_6 : σ1.2.2 0 6 = some 32) (e322 : σ1.2.2 32 2 = some S) (e01 : σ1.2.2 0 1 = some M) (kS : kd kT1 S 15) (kSn : kl kT1 S 12) (erow : ∀ s, s < 12 → σ1.2.2 S s = some (S + 1 + s)) (kSs : ∀ s, s < 12 → kd kT1 (S + 1 + s) (3 + 1)) (kM : kd kT1 M (1 + 1)) (rM : σ1.2.2 M 0 = some (M + 1)) (kM1 : kd kT1 (M + 1) 11) (kM1n : kl kT1 (M + 1) 40) (es : σ1.1 M 2 = nI n) (hn : n ≤ 40) (hs3 : σ1.1 32 3 = nI c) (hc : c ≤ 12) (hss : ∀ s, s < c → (∀ j, j < 8 → σ1.1 (S + 1 + s) j = σ2.1 3 (8 * s + j)) ∧ sOk (fun j => σ2.1 3 (8 * s + j))) (hd : ∀ k, k < n → σ1.1 (M + 1) k = σ2.1 1 k ∧ (0 ≤ (σ2.1 1 k).toInt ∧ (σ2.1 1 k).toInt ≤ 3600)) (hb : -12 ≤ b.toInt ∧ b.toInt ≤ 12) : ∀ (d s fuel : Nat), s + d = c → d < fuel → fX8_countAble_L4 kT1 0 b ex fuel (nI (kMany (fun s j => σ2.1 3 (8 * s + j)) (σ2.1 1) n b s)) (nI s) σ1 = ex (nI (kMany (fun s j => σ2.1 3 (8 * s + j)) (σ2.1 1) n b c)) σ1 := by
  intro d
  induction d with
  | zero =>
    intro s fuel hk hf
    obtain ⟨f, rfl⟩ : ∃ f, fuel = f + 1 := ⟨fuel - 1, by omega⟩
    have e : s = c := by omega
    subst e
    rw [fX8_countAble_L4, gR1 0 8, o0_6, ob, gI1 32 5, ob, hs3, if_pos (nI_le (Nat.le_refl _) (by omega))]
  | succ d ih =>
    intro s fuel hk hf
    obtain ⟨f, rfl⟩ : ∃ f, fuel = f + 1 := ⟨fuel - 1, by omega⟩
    obtain ⟨d1, hok⟩ := hss s (by omega)
    have kw := kSs s (by omega)
    have lS : aldr 15 kT1 σ1 S (nI s) = some (S + 1 + s) := by rw [lR 12 kS kSn (by omega) (by decide), erow s (by omega)]
    have nx := ih (s + 1) f (by omega) (by omega)
    simp only [kMany] at nx
    have y0 : σ1.1 (S + 1 + s) 0 = σ2.1 3 (8 * s) := d1 0 (by decide)
    rw [fX8_countAble_L4, gR1 0 8, o0_6, ob, gI1 32 5, ob, hs3, if_neg (nI_ge (by omega) (by omega)), ob, gR1 32 5, e322, ob, lS, ob, gI kw, ob, y0]
    simp only [iflt, nI_1]
    by_cases h4 : σ2.1 3 (8 * s) = 4
    · rw [if_pos h4]
      rw [if_neg (show ¬ kAble (fun j => σ2.1 3 (8 * s + j)) (σ2.1 1) n b = true by unfold kAble; simp [h4])] at nx
      exact nx
    · rw [if_neg h4, ob]
      by_cases h7 : σ2.1 3 (8 * s) = 7
      · rw [if_pos h7]
        rw [if_neg (show ¬ kAble (fun j => σ2.1 3 (8 * s + j)) (σ2.1 1) n b = true by unfold kAble; simp [h7])] at nx
        exact nx
      · have fl := fits_L (σ := σ1) (lo := 100 * (σ1.1 (S + 1 + s) 5 - b)) (hi := 100 * (vHigh (σ1.1 (S + 1 + s)) - b)) kM rM kM1 kM1n es hn n 0 6000 (by omega) (by omega)
        rw [nI_0] at fl
        have ff : fX1_fitsWithin kT1 M (100 * (σ1.1 (S + 1 + s) 5 - b)) (100 * (vHigh (σ1.1 (S + 1 + s)) - b)) σ1 = _ := fl
        have ea : al (fun j => decide (100 * (σ1.1 (S + 1 + s) 5 - b) ≤ σ1.1 (M + 1) j ∧ σ1.1 (M + 1) j ≤ 100 * (vHigh (σ1.1 (S + 1 + s)) - b))) 0 n = kAble (fun j => σ2.1 3 (8 * s + j)) (σ2.1 1) n b := by
          unfold kAble
          have z : (decide ((fun j => σ2.1 3 (8 * s + j)) 0 ≠ 4) && decide ((fun j => σ2.1 3 (8 * s + j)) 0 ≠ 7)) = true := by
            simp [h4, h7]
          rw [z, Bool.true_and]
          refine al_cong n 0 (fun j _ hj => ?_)
          have q := fit_iff (d := σ2.1 1 j) hok (hd j (by omega)).2 hb
          rw [← q, (hd j (by omega)).1, d1 5 (by decide), vHigh_cong d1]
        rw [ea] at ff
        rw [if_neg h7, gR1 0 8, e01, ob, gI kw, ob, vC kw, ev_high kw, ob, vC kM, ff, ob]
        by_cases ha : kAble (fun j => σ2.1 3 (8 * s + j)) (σ2.1 1) n b = true
        · rw [if_pos ha] at nx
          rw [ifb1 ha]
          exact nx
        · rw [if_neg ha] at nx
          rw [ifb0 (by simpa using ha)]
          exact nx
theorem ev_isWithin (w1 : σ2.2.2 0 1 = some 1) (w4 : σ2.2.2 0 4 = some 3) (en : σ2.1 0 0 = nI n) (hn : n ≤ 40) (hs : s < 12) (hok : sOk (fun j => σ2.1 3 (8 * s + j))) : fX9_isWithin kT2 0 (nI s) b σ2 = some (if kAble (fun j => σ2.1 3 (8 * s + j)) (σ2.1 1) n b = true then 1 else 0, σ2) := by
  have L := fun (v : Bool) => within_L (x := fun _ => 0) (bq := b) (ex := fun x14 u15 => rtz x14 u15) w1 w4 en hn hs hok n 0 6000 v (by omega) (by omega)
  have L0 := L false
  have L1 := L true
  rw [if_neg (by decide), Bool.false_and, if_neg (by decide), nI_0] at L0
  rw [if_pos rfl, Bool.true_and, nI_0] at L1
  unfold fX9_isWithin
  rw [gR2, w4, ob, mul_nI 8 8 rfl, lA2 3 96 (k := 8 * s) (by omega), ob]
  simp only [iflt]
  by_cases h4 : σ2.1 3 (8 * s) = 4
  · rw [if_pos h4, L0, if_neg (show ¬ kAble (fun j => σ2.1 3 (8 * s + j)) (σ2.1 1) n b = true by unfold kAble; simp [h4])]
    rfl
  · rw [if_neg h4, ob, lA2 3 96 (k := 8 * s) (by omega), ob]
    by_cases h7 : σ2.1 3 (8 * s) = 7
    · rw [if_pos h7, L0, if_neg (show ¬ kAble (fun j => σ2.1 3 (8 * s + j)) (σ2.1 1) n b = true by unfold kAble; simp [h7])]
      rfl
    · rw [if_neg h7, L1, rzb]
      unfold kAble
      have z : (decide ((fun j => σ2.1 3 (8 * s + j)) 0 ≠ 4) && decide ((fun j => σ2.1 3 (8 * s + j)) 0 ≠ 7)) = true := by
        simp [h4, h7]
      rw [z, Bool.true_and]
theorem key_L34 {ex : Int32 → hM → Option (Int32 × hM)} (w1 : σ2.2.2 0 1 = some 1) (w4 : σ2.2.2 0 4 = some 3) (en : σ2.1 0 0 = nI n) (hn : n ≤ 40) (ec : σ2.1 0 3 = nI c) (hc : c ≤ 12) (hok : ∀ s, s < c → sOk (fun j => σ2.1 3 (8 * s + j))) : ∀ (d s fuel : Nat), s + d = c → d < fuel → fX9_key_L34 kT2 0 b ex fuel (nI (kMany (fun s j => σ2.1 3 (8 * s + j)) (σ2.1 1) n b s)) (nI s) σ2 = ex (nI (kMany (fun s j => σ2.1 3 (8 * s + j)) (σ2.1 1) n b c)) σ2 := by
  intro d
  induction d with
  | zero =>
    intro s fuel hk hf
    obtain ⟨f, rfl⟩ : ∃ f, fuel = f + 1 := ⟨fuel - 1, by omega⟩
    have e : s = c := by omega
    subst e
    rw [fX9_key_L34, gI2, ob, ec, if_pos (nI_le (Nat.le_refl _) (by omega))]
  | succ d ih =>
    intro s fuel hk hf
    obtain ⟨f, rfl⟩ : ∃ f, fuel = f + 1 := ⟨fuel - 1, by omega⟩
    have nx := ih (s + 1) f (by omega) (by omega)
    simp only [kMany] at nx
    rw [fX9_key_L34, gI2, ob, ec, if_neg (nI_ge (by omega) (by omega)), vC2, ev_isWithin w1 w4 en hn (by omega) (hok s (by omega)), ob]
    simp only [iflt, nI_1]
    rw [ifc2, nI_add1]
    exact nx
end KEY2
/-- the turns of the class, as places from 0 (12 low) to 24 (12 high), and their ranks -/
def kTurn (j : Nat) : Nat := if j % 2 = 1 then 12 - (j + 1) / 2 else 12 + j / 2
def kRank (k : Nat) : Nat := if k < 12 then 2 * (12 - k) - 1 else 2 * (k - 12)
def kSize (k : Nat) : Nat := if k < 12 then 12 - k else k - 12
theorem kTurn_v : ∀ j, j < 25 → (if (nI j - nI j / 2 * 2) = 1 then (-(nI j + 1)) / 2 else nI j / 2) = nI (kTurn j) - 12 ∧ kTurn j < 25 ∧ kRank (kTurn j) = j := by decide +kernel
theorem kRank_v : ∀ k, k < 25 → kTurn (kRank k) = k := by decide +kernel
theorem kSize_v : ∀ k, k < 25 → (if 0 ≤ nI k - 12 then nI k - 12 else -(nI k - 12)) = nI (kSize k) ∧ (nI k - 12 + 1 = nI (k + 1) - 12) ∧ ¬ (12 : Int32) < nI k - 12 ∧ -12 ≤ (nI k - 12).toInt ∧ (nI k - 12).toInt ≤ 12 := by decide +kernel
theorem ev_size {T : hT} {u : hM} {k : Nat} (hk : k < 25) : fX9_size T (nI k - 12) u = some (nI (kSize k), u) := by
  unfold fX9_size
  rw [← (kSize_v k hk).1]
  split <;> rfl
def kBest (m : Nat → Nat) (P : Nat → Prop) (b : Nat) : Prop := ∀ k, k < 25 → P k → m k < m b ∨ (m k = m b ∧ kRank b ≤ kRank k)
theorem kBest_one {m : Nat → Nat} {b b' : Nat} (hb : b < 25) (hb' : b' < 25) (h : kBest m (fun _ => True) b) (h' : kBest m (fun _ => True) b') : b = b' := by
  have q1 := h b' hb' trivial
  have q2 := h' b hb trivial
  have e : kRank b = kRank b' := by omega
  rw [← kRank_v b hb, ← kRank_v b' hb', e]
