/-! the scores that call a song wrong; the hum that fools the ear -/
def fp (n w : Nat) : Int32 := if w = 0 then nI n - 1 else if w = 1 then nI n else 1
def bw (h d : Nat → Int32) (n w : Nat) : Int32 := if pts h d n w = fp n w then 0 else nI (2 ^ w)
section WRONG
variable {σ : hM} {A H n M : Nat} {ex : Int32 → hM → Option (Int32 × hM)}
theorem ev_full (kA : kd kT1 A (4 + 1)) (es : σ.1 A 1 = nI n) {w : Nat} (hw : w < 4) : fX4_fullPoints kT1 A (nI w) σ = some (fp n w, σ) := by
  unfold fX4_fullPoints fp
  match w, hw with
  | 0, _ => rw [if_pos (by decide), gI kA, ob, es]; rfl
  | 1, _ => rw [if_neg (by decide), if_pos (by decide), gI kA, ob, es]; rfl
  | 2, _ => rw [if_neg (by decide), if_neg (by decide)]; rfl
  | 3, _ => rw [if_neg (by decide), if_neg (by decide)]; rfl
theorem ev_wrong_L (kA : kd kT1 A (4 + 1)) (rA : σ.2.2 A 0 = some H) (kH : kd kT1 H 11) (lH : kl kT1 H 40) (es : σ.1 A 1 = nI n) (hn : n ≤ 40) (kM : kd kT1 M (1 + 1)) (rM : σ.2.2 M 0 = some (M + 1)) (kM1 : kd kT1 (M + 1) 11) (kM1n : kl kT1 (M + 1) 40) (h0 : n ≠ 0) (h1 : ¬ σ.1 H 0 = -1) {k f : Nat} {v : Int32} (hk : k < 4) : fX4_wrongBy_L4 kT1 A M ex (f + 1) v (nI k) σ = fX4_wrongBy_L4 kT1 A M ex f (v ||| bw (σ.1 H) (σ.1 (M + 1)) n k) (nI (k + 1)) σ := by
  rw [fX4_wrongBy_L4, if_neg (show ¬ (3 : Int32) < nI k from nI_nlt (b := k) (a := 3) (by omega) (by decide)), vC kA, ev_isHeard kA rA kH lH es hn, ob, if_neg (show ¬ (n = 0 ∨ σ.1 H 0 = -1) from fun q => q.elim h0 h1)]
  simp only [iflt]
  rw [if_neg (fun q => absurd (show (1 : Int32) = 0 from q) (by decide)), vC kA, ev_points kA rA kH lH es hn kM rM kM1 kM1n h0 h1 hk, ob, vC kA, ev_full kA es hk, ob, nI_1, shl31 k (by omega)]
  unfold bw
  by_cases e : pts (σ.1 H) (σ.1 (M + 1)) n k = fp n k
  · rw [if_pos e, if_pos e, Int32.or_zero]
  · rw [if_neg e, if_neg e]
theorem ev_wrong_L0 (kA : kd kT1 A (4 + 1)) (rA : σ.2.2 A 0 = some H) (kH : kd kT1 H 11) (lH : kl kT1 H 40) (es : σ.1 A 1 = nI n) (hn : n ≤ 40) (h0 : n = 0 ∨ σ.1 H 0 = -1) {k f : Nat} {v : Int32} (hk : k < 4) : fX4_wrongBy_L4 kT1 A M ex (f + 1) v (nI k) σ = fX4_wrongBy_L4 kT1 A M ex f (v ||| nI (2 ^ k)) (nI (k + 1)) σ := by
  rw [fX4_wrongBy_L4, if_neg (show ¬ (3 : Int32) < nI k from nI_nlt (b := k) (a := 3) (by omega) (by decide)), vC kA, ev_isHeard kA rA kH lH es hn, ob, if_pos h0]
  simp only [iflt]
  rw [if_pos trivial, nI_1, shl31 k (by omega)]
theorem ev_wrongBy (kA : kd kT1 A (4 + 1)) (rA : σ.2.2 A 0 = some H) (kH : kd kT1 H 11) (lH : kl kT1 H 40) (es : σ.1 A 1 = nI n) (hn : n ≤ 40) (kM : kd kT1 M (1 + 1)) (rM : σ.2.2 M 0 = some (M + 1)) (kM1 : kd kT1 (M + 1) 11) (kM1n : kl kT1 (M + 1) 40) (h0 : n ≠ 0) (h1 : ¬ σ.1 H 0 = -1) : fX4_wrongBy kT1 A M σ = some (((bw (σ.1 H) (σ.1 (M + 1)) n 0 ||| bw (σ.1 H) (σ.1 (M + 1)) n 1) ||| bw (σ.1 H) (σ.1 (M + 1)) n 2) ||| bw (σ.1 H) (σ.1 (M + 1)) n 3, σ) := by
  have L := fun (k f : Nat) (v : Int32) (hk : k < 4) => ev_wrong_L (ex := fun x9 u10 => some (x9, u10)) (k := k) (f := f) (v := v) kA rA kH lH es hn kM rM kM1 kM1n h0 h1 hk
  unfold fX4_wrongBy
  have a := L 0 5999 0 (by decide)
  rw [nI_0] at a
  rw [a, L 1 5998 _ (by decide), L 2 5997 _ (by decide), L 3 5996 _ (by decide), fX4_wrongBy_L4, if_pos (by decide), Int32.zero_or]
theorem ev_wrongBy0 (kA : kd kT1 A (4 + 1)) (rA : σ.2.2 A 0 = some H) (kH : kd kT1 H 11) (lH : kl kT1 H 40) (es : σ.1 A 1 = nI n) (hn : n ≤ 40) (h0 : n = 0 ∨ σ.1 H 0 = -1) : fX4_wrongBy kT1 A M σ = some (15, σ) := by
  have L := fun (k f : Nat) (v : Int32) (hk : k < 4) => ev_wrong_L0 (M := M) (ex := fun x9 u10 => some (x9, u10)) (k := k) (f := f) (v := v) kA rA kH lH es hn h0 hk
  unfold fX4_wrongBy
  have a := L 0 5999 0 (by decide)
  rw [nI_0] at a
  rw [a, L 1 5998 _ (by decide), L 2 5997 _ (by decide), L 3 5996 _ (by decide), fX4_wrongBy_L4, if_pos (by decide)]
  rfl
theorem bw0 {h d : Nat → Int32} (h0 : n ≠ 0) (hn : n ≤ 40) : bw h d n 0 = if nI n - 1 ≤ nI (cS h d (n - 1)) then 0 else 1 := by
  have e1 : nI n - 1 = nI (n - 1) := by
    have := nI_pred (n - 1)
    rwa [show n - 1 + 1 = n by omega] at this
  have := cS_le h d (n - 1)
  show (if nI (cS h d (n - 1)) = nI n - 1 then (0 : Int32) else nI 1) = _
  rw [e1]
  by_cases e : cS h d (n - 1) = n - 1
  · rw [e, if_pos rfl, if_pos (nI_le (Nat.le_refl _) (by omega))]
  · rw [if_neg (neI (by omega) (by omega) e), if_neg (nI_ge (by omega) (by omega))]; rfl
theorem bw1 {h d : Nat → Int32} (hn : n ≤ 40) : bw h d n 1 = if nI n ≤ nI (cH h d n) then 0 else 2 := by
  have := cH_le h d n
  show (if nI (cH h d n) = nI n then (0 : Int32) else nI 2) = _
  by_cases e : cH h d n = n
  · rw [e, if_pos rfl, if_pos (nI_le (Nat.le_refl _) (by omega))]
  · rw [if_neg (neI (by omega) (by omega) e), if_neg (nI_ge (by omega) (by omega))]; rfl
theorem bw2 {h d : Nat → Int32} : bw h d n 2 = if pts h d n 2 = 0 then 4 else 0 := by
  show (if (if -50 ≤ h 0 - d 0 ∧ h 0 - d 0 ≤ 50 then (1 : Int32) else 0) = 1 then (0 : Int32) else nI 4) = if (if -50 ≤ h 0 - d 0 ∧ h 0 - d 0 ≤ 50 then (1 : Int32) else 0) = 0 then 4 else 0
  by_cases e : -50 ≤ h 0 - d 0 ∧ h 0 - d 0 ≤ 50
  · rw [if_pos e]; rfl
  · rw [if_neg e]; rfl
theorem bw3 {h d : Nat → Int32} : bw h d n 3 = if pts h d n 3 = 0 then 8 else 0 := by
  show (if (if -50 ≤ (h (n - 1) - d (n - 1)) - (h 0 - d 0) ∧ (h (n - 1) - d (n - 1)) - (h 0 - d 0) ≤ 50 then (1 : Int32) else 0) = 1 then (0 : Int32) else nI 8) = if (if -50 ≤ (h (n - 1) - d (n - 1)) - (h 0 - d 0) ∧ (h (n - 1) - d (n - 1)) - (h 0 - d 0) ≤ 50 then (1 : Int32) else 0) = 0 then 8 else 0
  by_cases e : -50 ≤ (h (n - 1) - d (n - 1)) - (h 0 - d 0) ∧ (h (n - 1) - d (n - 1)) - (h 0 - d 0) ≤ 50
  · rw [if_pos e]; rfl
  · rw [if_neg e]; rfl
end WRONG
theorem s_calls : st_calls Cpl := by
  intro σ1 σ2 hC
  obtain ⟨M, M', R, R', S, S', n, c, t, hC⟩ := hC
  have hQ := hC
  obtain ⟨hr, hf2, hT, hm, hc2, ht, hst, hcr, hb, hi0, hi1⟩ := hQ
  have hr0 := hr
  have hf20 := hf2
  obtain ⟨hMe, hR, hS, e01, e02, e03, e04, e05, e322, ⟨o0_0, o0_6, o0_7, o0_8, o0_9, o0_10, o0_12, o0_13, o1_0, o32_0, o32_1, o33_0, o98_0, o94_0, o94_1, o84_0, o84_1, o49_0, o49_1, o50_0, o51_0, o50_1, o50_2, o67_0, o68_0, o67_1, o67_2, o3_0, o3_1, o6_0, o6_1, o9_0, o9_1, o9_2, o9_3, o14_0, o14_1, o14_2, o14_3⟩, hrow, hodd⟩ := hr0
  obtain ⟨w1, w2, w4, w6, w7, w8, w10, w12, w21, w22, w24, w25, w26, w27, w28, w29, w30, w31, w33, w34, w36, w37, w38⟩ := hf20
  obtain ⟨kM, kM1, kM1n, kM2, kM2n⟩ := kMel hMe
  obtain ⟨kR, ⟨kR1, kR1n⟩, ⟨kR2, kR2n⟩, ⟨kR3, kR3n⟩, ⟨kR4, kR4n⟩⟩ := kTri hR
  obtain ⟨⟨kS, kSn⟩, kSs⟩ := kRow hS
  obtain ⟨em0, em1⟩ := hr.mel
  obtain ⟨et0, et1, et2, et3⟩ := hr.tri
  have erow := hr.row
  obtain ⟨hn40, hn1, hn2, hnk⟩ := id hm
  obtain ⟨ht6, ht1, ht2, htk⟩ := id ht
  obtain ⟨hc12, hc2e⟩ := id hc2
  obtain ⟨hs3, hsw, hsr, hss, hsg, hse, hse0⟩ := id hst
  obtain ⟨hwho, hsg⟩ := hsg
  replace hwho : σ1.1 33 2 = σ2.1 0 9 := hwho
  unfold fX8_calls fX9_calls
  rcases hsg with hsg | ⟨s, hs, hsu, hsz, hsk⟩
  · simp (disch := first | with_reducible assumption | (unfold kd; decide) | (unfold kl; decide) | decide | (apply t_lt; omega)) only [gI, ob, vC, ev_hasSong o0_6 o32_0, hwho, hsg, if_true, if_neg (show ¬ (0 : Int32) ≤ -1 by decide)]
    exact ⟨_, σ1, σ2, rfl, rfl, ⟨M, M', R, R', S, S', n, c, t, hC⟩⟩
  · replace hsz : σ1.1 33 1 = nI n := hsz
    have hsi := song_silent (n := n) (c := c) (size := 0) (who := 0) (su := 0) (s := s) hsk
    by_cases hq : n = 0 ∨ σ2.1 3 (8 * s) = 7
    · have a1 := ev_wrongBy0 (σ := σ1) (A := 33) (M := M) rfl o33_0 rfl rfl hsz hn40 (hsi.mpr hq)
      have a2 := ev_isSilent hn2 hn40 w4 hsu (show s < 12 by omega)
      rw [if_pos hq] at a2
      simp (disch := first | with_reducible assumption | (unfold kd; decide) | (unfold kl; decide) | decide | (apply t_lt; omega)) only [gI, gR, ob, vC, ev_hasSong o0_6 o32_0, hwho, hsu, if_neg (nI_m1 (show s < 2 ^ 31 by omega)), if_neg (show ¬ (1 : Int32) = 0 by decide), if_pos (nI_pos' (show s < 2 ^ 31 by omega)), o0_6, o32_0, e01, a1, a2]
      exact ⟨_, σ1, σ2, rfl, rfl, ⟨M, M', R, R', S, S', n, c, t, hC⟩⟩
    · have h0 : n ≠ 0 := fun q => hq (Or.inl q)
      have a1 := ev_wrongBy (σ := σ1) (A := 33) (M := M) rfl o33_0 rfl rfl hsz hn40 kM em0 kM1 kM1n h0 (fun q => hq (hsi.mp (Or.inr q)))
      have a2 := ev_isSilent hn2 hn40 w4 hsu (show s < 12 by omega)
      rw [if_neg hq] at a2
      have sc := fun (w : Nat) (hw : w < 4) => ev_scoreOf (σ := σ2) (r := 7) rfl rfl hn2 hn40 w1 w4 (show s < 12 by omega) h0 (fun q => hq (Or.inr q)) hw
      have s0 : fX9_scoreOf kT2 0 7 (nI s) 0 σ2 = _ := sc 0 (by decide)
      have s1 : fX9_scoreOf kT2 0 7 (nI s) 1 σ2 = _ := sc 1 (by decide)
      have s2 : fX9_scoreOf kT2 0 7 (nI s) 2 σ2 = _ := sc 2 (by decide)
      have s3 : fX9_scoreOf kT2 0 7 (nI s) 3 σ2 = _ := sc 3 (by decide)
      have cg : ∀ w, bw (σ1.1 34) (σ1.1 (M + 1)) n w = bw (σ2.1 7) (σ2.1 1) n w := by
        intro w
        unfold bw
        rw [pts_cong h0 (fun j hj => ⟨(hsk j hj).1, (hnk j hj).1⟩)]
      rw [cg, cg, cg, cg, bw0 h0 hn40, bw1 hn40, bw2, bw3] at a1
      rw [show pts (σ2.1 7) (σ2.1 1) n 0 = nI (cS (σ2.1 7) (σ2.1 1) (n - 1)) from rfl] at s0
      rw [show pts (σ2.1 7) (σ2.1 1) n 1 = nI (cH (σ2.1 7) (σ2.1 1) n) from rfl] at s1
      simp (disch := first | with_reducible assumption | (unfold kd; decide) | (unfold kl; decide) | decide | (apply t_lt; omega)) only [gI, gR, ob, vC, iflt, ev_hasSong o0_6 o32_0, hwho, hsu, hn2, if_neg (nI_m1 (show s < 2 ^ 31 by omega)), if_neg (show ¬ (1 : Int32) = 0 by decide), if_pos (nI_pos' (show s < 2 ^ 31 by omega)), if_true, o0_6, o32_0, e01, w10, a1, a2, s0, s1, s2, s3]
      exact ⟨_, σ1, σ2, rfl, rfl, ⟨M, M', R, R', S, S', n, c, t, hC⟩⟩
def cN (d : Nat → Int32) (v : Int32) : Nat → Nat
  | 0 => 0
  | k + 1 => cN d v k + (if -50 ≤ d k - v ∧ d k - v ≤ 50 then 1 else 0)
theorem cN_cong {d d' : Nat → Int32} {v : Int32} : ∀ k, (∀ j, j < k → d j = d' j) → cN d v k = cN d' v k
  | 0, _ => rfl
  | k + 1, q => by
    simp only [cN]
    rw [cN_cong k (fun j hj => q j (by omega)), q k (by omega)]
theorem ev_near_L {σ : hM} {n M : Nat} {v : Int32} {ex : Int32 → hM → Option (Int32 × hM)} (kM : kd kT1 M (1 + 1)) (rM : σ.2.2 M 0 = some (M + 1)) (kM1 : kd kT1 (M + 1) 11) (kM1n : kl kT1 (M + 1) 40) (es : σ.1 M 2 = nI n) (hn : n ≤ 40) : ∀ (d k fuel : Nat), k + d = n → d < fuel → fX1_countNear_L4 kT1 M v ex fuel (nI (cN (σ.1 (M + 1)) v k)) (nI k) σ = ex (nI (cN (σ.1 (M + 1)) v n)) σ := by
  intro d
  induction d with
  | zero =>
    intro k fuel hk hf
    obtain ⟨f, rfl⟩ : ∃ f, fuel = f + 1 := ⟨fuel - 1, by omega⟩
    have e : n = k := by omega
    subst e
    rw [fX1_countNear_L4, gI kM, ob, es, if_pos (nI_le (Nat.le_refl _) (by omega))]
  | succ d ih =>
    intro k fuel hk hf
    obtain ⟨f, rfl⟩ : ∃ f, fuel = f + 1 := ⟨fuel - 1, by omega⟩
    rw [fX1_countNear_L4, gI kM, ob, es, if_neg (nI_ge (by omega) (by omega)), gR kM, rM, ob, lA 40 kM1 kM1n (show k < 40 by omega) (by decide), ob, ev_isNear1, ob]
    simp only [iflt, nI_1]
    have q := ih (k + 1) f (by omega) (by omega)
    simp only [cN] at q
    by_cases h : -50 ≤ σ.1 (M + 1) k - v ∧ σ.1 (M + 1) k - v ≤ 50
    · rw [ifz1 h]
      rw [if_pos h] at q
      exact q
    · rw [ifz0 h]
      rw [if_neg h] at q
      exact q
theorem ev_countNear {σ : hM} {n M : Nat} {v : Int32} (kM : kd kT1 M (1 + 1)) (rM : σ.2.2 M 0 = some (M + 1)) (kM1 : kd kT1 (M + 1) 11) (kM1n : kl kT1 (M + 1) 40) (es : σ.1 M 2 = nI n) (hn : n ≤ 40) : fX1_countNear kT1 M v σ = some (nI (cN (σ.1 (M + 1)) v n), σ) := by
  have q := ev_near_L (v := v) (ex := fun x9 u10 => some (x9, u10)) kM rM kM1 kM1n es hn n 0 6000 (by omega) (by omega)
  rw [show nI (cN (σ.1 (M + 1)) v 0) = 0 from nI_0, nI_0] at q
  unfold fX1_countNear
  exact q
theorem ev_fooled_L {σ : hM} {n : Nat} {v : Int32} {ex : Int32 → hM → Option (Int32 × hM)} (w1 : σ.2.2 0 1 = some 1) (es : σ.1 0 0 = nI n) (hn : n ≤ 40) : ∀ (d k fuel : Nat), k + d = n → d < fuel → fX9_fooled_L34 kT2 0 v ex fuel (nI (cN (σ.1 1) v k)) (nI k) σ = ex (nI (cN (σ.1 1) v n)) σ := by
  intro d
  induction d with
  | zero =>
    intro k fuel hk hf
    obtain ⟨f, rfl⟩ : ∃ f, fuel = f + 1 := ⟨fuel - 1, by omega⟩
    have e : n = k := by omega
    subst e
    rw [fX9_fooled_L34, gI2, ob, es, if_pos (nI_le (Nat.le_refl _) (by omega))]
  | succ d ih =>
    intro k fuel hk hf
    obtain ⟨f, rfl⟩ : ∃ f, fuel = f + 1 := ⟨fuel - 1, by omega⟩
    rw [fX9_fooled_L34, gI2, ob, es, if_neg (nI_ge (by omega) (by omega)), gR2, w1, ob, lA2 1 40 (k := k) (by omega), ob, ev_isNear2, ob]
    simp only [iflt, nI_1]
    rw [ifc2, nI_add1]
    exact ih (k + 1) f (by omega) (by omega)
theorem s_fooled : st_fooled Cpl := by
  intro σ1 σ2 hC p1
  obtain ⟨M, M', R, R', S, S', n, c, t, hC⟩ := hC
  have hQ := hC
  obtain ⟨hr, hf2, hT, hm, hc2, ht, hst, hcr, hb, hi0, hi1⟩ := hQ
  have hr0 := hr
  have hf20 := hf2
  obtain ⟨hMe, hR, hS, e01, e02, e03, e04, e05, e322, ⟨o0_0, o0_6, o0_7, o0_8, o0_9, o0_10, o0_12, o0_13, o1_0, o32_0, o32_1, o33_0, o98_0, o94_0, o94_1, o84_0, o84_1, o49_0, o49_1, o50_0, o51_0, o50_1, o50_2, o67_0, o68_0, o67_1, o67_2, o3_0, o3_1, o6_0, o6_1, o9_0, o9_1, o9_2, o9_3, o14_0, o14_1, o14_2, o14_3⟩, hrow, hodd⟩ := hr0
  obtain ⟨w1, w2, w4, w6, w7, w8, w10, w12, w21, w22, w24, w25, w26, w27, w28, w29, w30, w31, w33, w34, w36, w37, w38⟩ := hf20
  obtain ⟨kM, kM1, kM1n, kM2, kM2n⟩ := kMel hMe
  obtain ⟨kR, ⟨kR1, kR1n⟩, ⟨kR2, kR2n⟩, ⟨kR3, kR3n⟩, ⟨kR4, kR4n⟩⟩ := kTri hR
  obtain ⟨⟨kS, kSn⟩, kSs⟩ := kRow hS
  obtain ⟨em0, em1⟩ := hr.mel
  obtain ⟨et0, et1, et2, et3⟩ := hr.tri
  have erow := hr.row
  obtain ⟨hn40, hn1, hn2, hnk⟩ := id hm
  obtain ⟨ht6, ht1, ht2, htk⟩ := id ht
  obtain ⟨hc12, hc2e⟩ := id hc2
  obtain ⟨hs3, hsw, hsr, hss, hsg, hse, hse0⟩ := id hst
  have key : ∀ (d j fuel : Nat) (x y : Int32), j + d = 73 → d < fuel → ∃ r : Int32, fX8_fooled_L19 kT1 0 (fun x8 x9 u10 => if p1 = 0 then (some (x8, u10)) else (some (x9, u10))) fuel x y (nI (50 * j)) σ1 = some (r, σ1) ∧ fX9_fooled_L20 kT2 0 (fun x8 x9 u10 => if p1 = 0 then (some (x8, u10)) else (some (x9, u10))) fuel x y (nI (50 * j)) σ2 = some (r, σ2) := by
    intro d
    induction d with
    | zero =>
      intro j fuel x y hj hf
      obtain ⟨f, rfl⟩ : ∃ f, fuel = f + 1 := ⟨fuel - 1, by omega⟩
      have e : j = 73 := by omega
      subst e
      have h3 : (3600 : Int32) < nI (50 * 73) := by decide
      rw [fX8_fooled_L19, fX9_fooled_L20, if_pos h3, if_pos h3]
      by_cases hp : p1 = 0
      · rw [if_pos hp, if_pos hp]; exact ⟨_, rfl, rfl⟩
      · rw [if_neg hp, if_neg hp]; exact ⟨_, rfl, rfl⟩
    | succ d ih =>
      intro j fuel x y hj hf
      obtain ⟨f, rfl⟩ : ∃ f, fuel = f + 1 := ⟨fuel - 1, by omega⟩
      have hlt : ¬ (3600 : Int32) < nI (50 * j) := nI_nlt (a := 3600) (by omega) (by decide)
      have e50 : nI (50 * j) + 50 = nI (50 * (j + 1)) := by rw [show (50 : Int32) = nI 50 from rfl, nI_add]; rfl
      have q := ev_fooled_L (σ := σ2) (n := n) (v := nI (50 * j)) (ex := fun x9 u10 => lt (if x9 ≤ y then x else nI (50 * j)) fun x11 => lt (if x9 ≤ y then y else x9) fun x12 => lt (nI (50 * j) + 50) fun x13 => fX9_fooled_L20 kT2 0 (fun x8 x9 u10 => if p1 = 0 then (some (x8, u10)) else (some (x9, u10))) f x11 x12 x13 u10) w1 hn2 hn40 n 0 6000 (by omega) (by omega)
      rw [show nI (cN (σ2.1 1) (nI (50 * j)) 0) = 0 from nI_0, nI_0] at q
      have a := ev_countNear (v := nI (50 * j)) kM em0 kM1 kM1n hn1 hn40
      rw [cN_cong n (fun k hk => (hnk k hk).1)] at a
      rw [fX8_fooled_L19, fX9_fooled_L20, if_neg hlt, if_neg hlt, q, gR1 0 8, e01, ob, vC kM, a, ob]
      simp only [iflt, e50]
      by_cases hle : nI (cN (σ2.1 1) (nI (50 * j)) n) ≤ y
      · rw [if_pos hle, if_pos hle, if_pos hle]
        exact ih (j + 1) f _ _ (by omega) (by omega)
      · rw [if_neg hle, if_neg hle, if_neg hle]
        exact ih (j + 1) f _ _ (by omega) (by omega)
  unfold fX8_fooled fX9_fooled
  rw [isW, in9 0 1 (L := 0) (H := 1) rfl rfl, ob, ob]
  by_cases h : 0 ≤ p1 ∧ p1 ≤ 1
  · rw [ifz1 h, ifz1 h]
    obtain ⟨r, a, b⟩ := key 73 0 6000 (-1) 0 (by omega) (by omega)
    rw [show nI (50 * 0) = 0 from nI_0] at a b
    exact ⟨r, σ1, σ2, a, b, ⟨M, M', R, R', S, S', n, c, t, hC⟩⟩
  · rw [ifz0 h, ifz0 h]
    exact ⟨_, σ1, σ2, rfl, rfl, ⟨M, M', R, R', S, S', n, c, t, hC⟩⟩
