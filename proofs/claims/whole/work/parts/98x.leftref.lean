/-! THE FEWEST MINUTES: the reference's table, from the top code down -/
theorem power_L {ex : Int32 → hM → Option (Int32 × hM)} {u : hM} {k : Nat} (hk : k ≤ 6) : ∀ (d j fuel : Nat), j + d = k → d < fuel → fX9_power_L4 kT2 (nI k) ex fuel (nI (3 ^ j)) (nI j) u = ex (nI (3 ^ k)) u := by
  intro d
  induction d with
  | zero =>
    intro j fuel hj hf
    obtain ⟨f, rfl⟩ : ∃ f, fuel = f + 1 := ⟨fuel - 1, by omega⟩
    have e : j = k := by omega
    subst e
    rw [fX9_power_L4, if_pos (nI_le (Nat.le_refl _) (by omega))]
  | succ d ih =>
    intro j fuel hj hf
    obtain ⟨f, rfl⟩ : ∃ f, fuel = f + 1 := ⟨fuel - 1, by omega⟩
    rw [fX9_power_L4, if_neg (nI_ge (by omega) (by omega))]
    simp only [iflt, nI_1]
    rw [show nI (3 ^ j) * 3 = nI (3 ^ (j + 1)) from pk_mul (3 ^ j) 3]
    exact ih (j + 1) f (by omega) (by omega)
theorem ev_power {u : hM} {k : Nat} (hk : k ≤ 6) : fX9_power kT2 (nI k) u = some (nI (3 ^ k), u) := by
  have L := power_L (u := u) (ex := fun x3 u4 => some (x3, u4)) hk k 0 6000 (by omega) (by omega)
  rw [nI_0] at L
  exact L
theorem mod3 {a : Nat} (h : a < 2 ^ 31) : nI a - nI a / 3 * 3 = nI (a % 3) := by
  have e := rmi_nI (k := a) (m := 3) h (by decide) (by decide)
  unfold rmi at e
  rw [if_neg (by decide)] at e
  exact Option.some.inj e
def ra (c j : Nat) : Int32 := nI (dt j c)
theorem ra_0 {c j : Nat} : ra c j = 0 ↔ dt j c = 0 := by
  unfold ra
  have := dt_lt j c
  constructor
  · intro e
    by_cases z : dt j c = 0
    · exact z
    · exact absurd e (nI_ne0 (by omega) (by omega))
  · intro e; rw [e, nI_0]
section REFT
variable {υ : hM} {c t : Nat} {q : Int32} {wt : Nat → Int64} {tk : Nat → Int32}
theorem set_L (hc : c < 729) : ∀ (d j fuel : Nat) (υ : hM), j + d = 6 → d < fuel → υ.2.2 0 8 = some 6 → ∃ υ' : hM, (∀ ex : hM → Option (Int32 × hM), fX9_leftOf_L2 kT2 0 (nI c) ex fuel (nI j) υ = ex υ') ∧ υ'.2.2 = υ.2.2 ∧ (∀ x, x ≠ 6 → υ'.1 x = υ.1 x) ∧ (∀ i, (i < j ∨ 6 ≤ i) → υ'.1 6 i = υ.1 6 i) ∧ ∀ i, j ≤ i → i < 6 → υ'.1 6 i = ra c i := by
  intro d
  induction d with
  | zero =>
    intro j fuel υ hj hf w8
    obtain ⟨f, rfl⟩ : ∃ f, fuel = f + 1 := ⟨fuel - 1, by omega⟩
    have e : j = 6 := by omega
    subst e
    exact ⟨υ, fun ex => by rw [fX9_leftOf_L2, if_pos (by decide)], rfl, fun _ _ => rfl, fun _ _ => rfl, fun i a b => absurd a (by omega)⟩
  | succ d ih =>
    intro j fuel υ hj hf w8
    obtain ⟨f, rfl⟩ : ∃ f, fuel = f + 1 := ⟨fuel - 1, by omega⟩
    have hp := p3_v j (by omega)
    have hp0 : 0 < 3 ^ j := Nat.pow_pos (by decide)
    obtain ⟨υ', g1, g2, g3, g4, g5⟩ := ih (j + 1) f (wI υ 6 j (ra c j)) (by omega) (by omega) w8
    refine ⟨υ', fun ex => ?_, g2, fun x hx => (g3 x hx).trans (wIn hx), fun i hi => by rw [g4 i (by omega), wIk (by omega)], fun i h1 h2 => ?_⟩
    · rw [fX9_leftOf_L2, if_neg (show ¬ (6 : Int32) ≤ nI j from nI_ge (b := 6) (by omega) (by decide)), gR2, w8, ob, ev_power (by omega), ob, dvi_nI (by omega) hp0 (by omega), ob, mod3 (Nat.lt_of_le_of_lt (Nat.div_le_self _ _) (by omega)), sA2 6 6 (k := j) (by omega), ob]
      simp only [iflt, nI_1]
      exact g1 ex
    · by_cases e : i = j
      · subst e; rw [g4 _ (by omega), wIe]
      · exact g5 i (by omega) h2
theorem ra_add {k v : Nat} (hc : c < 3 ^ t) (ht : t ≤ 6) (hk : k < t) (h0 : dt k c = 0) (hv : v = 1 ∨ v = 2) : c + v * 3 ^ k < 3 ^ t ∧ ∀ j, j < 6 → ra (c + v * 3 ^ k) j = sx (ra c) k (nI v) j := by
  have hp := p3_v t (by omega)
  obtain ⟨k1, k2⟩ := dt_add k (by omega) c (by omega) h0 v (by omega)
  refine ⟨(dt_top t (by omega) _ k1).mpr (fun i hi h => ?_), fun j hj => ?_⟩
  · rw [k2 i hi, if_neg (by omega)]
    exact (dt_top t (by omega) c (by omega)).mp hc i hi h
  · unfold ra sx
    rw [k2 j hj]
    by_cases e : j = k
    · rw [if_pos e, if_pos e]
    · rw [if_neg e, if_neg e]
/-- the table above m -/
def tbl (wt : Nat → Int64) (tk : Nat → Int32) (t : Nat) (q : Int32) (υ : hM) (m : Nat) : Prop := ∀ c, m ≤ c → c < 3 ^ t → υ.1 13 c = nI (lf wt tk t q (uN (ra c) t) (ra c))
theorem best_L {ex : Int32 → hM → Option (Int32 × hM)} (hc : c < 3 ^ t) (ht : t ≤ 6) (h5 : υ.1 0 5 = nI t) (w8 : υ.2.2 0 8 = some 6) (w26 : υ.2.2 0 26 = some 13) (w6 : υ.2.2 0 6 = some 4) (h4 : υ.1 4 = tk) (h6 : ∀ i, i < 6 → υ.1 6 i = ra c i) (hm : ∀ i, i < t → ∃ m, m ≤ 30 ∧ tk (4 * i) = nI m) (hT : tbl wt tk t q υ (c + 1)) : ∀ (d k fuel : Nat), k + d = t → d < fuel → fX9_leftOf_L59 kT2 0 (nI c) ex fuel (nI (bsf (gD wt tk t q (uN (ra c) t) (ra c)) (ra c) k)) (nI k) υ = ex (nI (bsf (gD wt tk t q (uN (ra c) t) (ra c)) (ra c) t)) υ := by
  have hp := p3_v t (by omega)
  have hmc : ∀ i, i < t → (tk (4 * i)).toNatClampNeg ≤ 30 ∧ tk (4 * i) = nI (tk (4 * i)).toNatClampNeg := by
    intro i hi
    obtain ⟨m, h1, h2⟩ := hm i hi
    rw [h2, nI_clamp (by omega)]
    exact ⟨h1, rfl⟩
  intro d
  induction d with
  | zero =>
    intro k fuel hk hf
    obtain ⟨f, rfl⟩ : ∃ f, fuel = f + 1 := ⟨fuel - 1, by omega⟩
    have e : k = t := by omega
    subst e
    rw [fX9_leftOf_L59, gI2, ob, h5, if_pos (nI_le (Nat.le_refl k) (by omega))]
  | succ d ih =>
    intro k fuel hk hf
    obtain ⟨f, rfl⟩ : ∃ f, fuel = f + 1 := ⟨fuel - 1, by omega⟩
    have nx := ih (k + 1) f (by omega) (by omega)
    have hbs : bsf (gD wt tk t q (uN (ra c) t) (ra c)) (ra c) (k + 1) = if ra c k = 0 then (if bsf (gD wt tk t q (uN (ra c) t) (ra c)) (ra c) k ≤ gD wt tk t q (uN (ra c) t) (ra c) k then bsf (gD wt tk t q (uN (ra c) t) (ra c)) (ra c) k else gD wt tk t q (uN (ra c) t) (ra c) k) else bsf (gD wt tk t q (uN (ra c) t) (ra c)) (ra c) k := rfl
    rw [fX9_leftOf_L59, gI2, ob, h5, if_neg (nI_ge (by omega) (by omega)), gR2, w8, ob, lA2 6 6 (k := k) (by omega), ob, h6 k (by omega)]
    simp only [iflt, nI_1]
    by_cases h0 : ra c k = 0
    · have d0 := ra_0.mp h0
      have p3 := p3_v k (by omega)
      obtain ⟨b1, c1⟩ := ra_add (v := 1) hc ht (by omega) d0 (Or.inl rfl)
      obtain ⟨b2, c2⟩ := ra_add (v := 2) hc ht (by omega) d0 (Or.inr rfl)
      rw [Nat.one_mul] at b1 c1
      have pp : 0 < 3 ^ k := Nat.pow_pos (by decide)
      have t1 := hT (c + 3 ^ k) (by omega) b1
      have t2 := hT (c + 2 * 3 ^ k) (by omega) b2
      have u1 : uN (ra (c + 3 ^ k)) t = uN (ra c) t - 1 := by
        have := uN_sx (r := ra c) (v := 1) h0 (by decide) t
        rw [if_pos (by omega)] at this
        rw [uN_cong t (fun j hj => c1 j (by omega))]
        show uN (sx (ra c) k 1) t = _
        omega
      have u2 : uN (ra (c + 2 * 3 ^ k)) t = uN (ra c) t - 1 := by
        have := uN_sx (r := ra c) (v := 2) h0 (by decide) t
        rw [if_pos (by omega)] at this
        rw [uN_cong t (fun j hj => c2 j (by omega))]
        show uN (sx (ra c) k 2) t = _
        omega
      rw [u1, lf_cong _ _ (sx (ra c) k 1) (fun j hj => c1 j (by omega))] at t1
      rw [u2, lf_cong _ _ (sx (ra c) k 2) (fun j hj => c2 j (by omega))] at t2
      have lb1 := (lf_bd (wt := wt) (q := q) (fun i hi => (hmc i hi).1) (uN (ra c) t - 1) (sx (ra c) k 1)).1
      have lb2 := (lf_bd (wt := wt) (q := q) (fun i hi => (hmc i hi).1) (uN (ra c) t - 1) (sx (ra c) k 2)).1
      have hmk := hmc k (by omega)
      have hble := bsf_le (g := gD wt tk t q (uN (ra c) t) (ra c)) (r := ra c) k
      have hgD : gD wt tk t q (uN (ra c) t) (ra c) k = (tk (4 * k)).toNatClampNeg + mxn (lf wt tk t q (uN (ra c) t - 1) (sx (ra c) k 1)) (lf wt tk t q (uN (ra c) t - 1) (sx (ra c) k 2)) := rfl
      have hmx : (if nI (lf wt tk t q (uN (ra c) t - 1) (sx (ra c) k 1)) ≤ nI (lf wt tk t q (uN (ra c) t - 1) (sx (ra c) k 2)) then nI (lf wt tk t q (uN (ra c) t - 1) (sx (ra c) k 2)) else nI (lf wt tk t q (uN (ra c) t - 1) (sx (ra c) k 1))) = nI (mxn (lf wt tk t q (uN (ra c) t - 1) (sx (ra c) k 1)) (lf wt tk t q (uN (ra c) t - 1) (sx (ra c) k 2))) := by
        unfold mxn
        by_cases le : lf wt tk t q (uN (ra c) t - 1) (sx (ra c) k 1) ≤ lf wt tk t q (uN (ra c) t - 1) (sx (ra c) k 2)
        · rw [if_pos (nI_le le (by omega)), if_pos le]
        · rw [if_neg (nI_ge (by omega) (by omega)), if_neg le]
      have hgl : gD wt tk t q (uN (ra c) t) (ra c) k ≤ 1000030 := by
        rw [hgD]
        unfold mxn
        split <;> omega
      rw [hbs, if_pos h0] at nx
      rw [if_pos h0, gR2, w26, ob, ev_power (by omega), ob, nI_add, lA2 13 729 (k := c + 3 ^ k) (by omega), ob, t1, gR2, w26, ob, ev_power (by omega), ob, mul_nI 2 2 rfl, nI_add, lA2 13 729 (k := c + 2 * 3 ^ k) (by omega), ob, t2, gR2, w6, ob, mul_nI 4 4 rfl, lA2 4 24 (k := 4 * k) (by omega), ob, h4, hmx, hmk.2, nI_add, ← hgD]
      by_cases le : bsf (gD wt tk t q (uN (ra c) t) (ra c)) (ra c) k ≤ gD wt tk t q (uN (ra c) t) (ra c) k
      · rw [if_pos le] at nx
        rw [if_pos (nI_le le (by omega))]
        exact nx
      · rw [if_neg le] at nx
        rw [if_neg (nI_ge (by omega) (by omega))]
        exact nx
    · rw [hbs, if_neg h0] at nx
      rw [if_neg h0]
      exact nx
theorem ev_leftOf (hc : c < 3 ^ t) (ht : t ≤ 6) (h5 : υ.1 0 5 = nI t) (w8 : υ.2.2 0 8 = some 6) (w7 : υ.2.2 0 7 = some 5) (w26 : υ.2.2 0 26 = some 13) (w6 : υ.2.2 0 6 = some 4) (h4 : υ.1 4 = tk) (hw : ∀ k, k < 16 → wt k = (υ.1 5 k).toInt64) (hm : ∀ i, i < t → ∃ m, m ≤ 30 ∧ tk (4 * i) = nI m) (hT : tbl wt tk t q υ (c + 1)) : ∃ υ', fX9_leftOf kT2 0 (nI c) q υ = some (nI (lf wt tk t q (uN (ra c) t) (ra c)), υ') ∧ υ'.2.2 = υ.2.2 ∧ (∀ x, x ≠ 6 → υ'.1 x = υ.1 x) ∧ ∀ i, 6 ≤ i → υ'.1 6 i = υ.1 6 i := by
  have hp := p3_v t (by omega)
  obtain ⟨υ', g1, g2, g3, g4, g5⟩ := set_L (c := c) (by omega) 6 0 6000 υ (by omega) (by omega) w8
  rw [nI_0] at g1
  have o : ∀ k, k < 16 → od (υ'.1 5 k).toInt64 (υ'.1 4) (υ'.1 6) (nI k) t = odr wt tk (ra c) t k := by
    intro k hk
    rw [g3 5 (by decide), g3 4 (by decide), h4, ← hw k hk]
    exact od_cong t (fun j hj => g5 j (Nat.zero_le j) (by omega))
  have a1 := ev_allOdds (σ2 := υ') (t := t) (by rw [g2]; exact w6) (by rw [g2]; exact w8) (by rw [g2]; exact w7) (by rw [g3 0 (by decide)]; exact h5) ht
  have a2 := ev_greatest (σ2 := υ') (t := t) (by rw [g2]; exact w6) (by rw [g2]; exact w8) (by rw [g2]; exact w7) (by rw [g3 0 (by decide)]; exact h5) ht
  rw [sm_cong 16 o] at a1
  rw [gr_cong 16 o] at a2
  refine ⟨υ', ?_, g2, g3, fun i hi => g4 i (Or.inr hi)⟩
  unfold fX9_leftOf
  rw [g1, vC2, a1, ob, vC2, a2, ob, lf_eq rfl]
  by_cases u : gr (odr wt tk (ra c) t) 16 * 100 < q.toInt64 * sm (odr wt tk (ra c) t) 16
  · have L := best_L (υ := υ') (ex := fun x26 u27 => some (x26, u27)) hc ht (by rw [g3 0 (by decide)]; exact h5) (by rw [g2]; exact w8) (by rw [g2]; exact w26) (by rw [g2]; exact w6) (by rw [g3 4 (by decide)]; exact h4) (fun i hi => g5 i (Nat.zero_le i) hi) hm (fun c2 h1 h2 => by rw [g3 13 (by decide)]; exact hT c2 h1 h2) t 0 6000 (by omega) (by omega)
    rw [nI_0] at L
    rw [if_pos u, if_pos u]
    exact L
  · rw [if_neg u, if_neg u, nI_0]
theorem table_L {ex : hM → Option (Int32 × hM)} (ht : t ≤ 6) (hm : ∀ i, i < t → ∃ m, m ≤ 30 ∧ tk (4 * i) = nI m) : ∀ (m fuel : Nat) (υ : hM), m ≤ 3 ^ t → m < fuel → υ.1 0 5 = nI t → υ.2.2 0 8 = some 6 → υ.2.2 0 7 = some 5 → υ.2.2 0 26 = some 13 → υ.2.2 0 6 = some 4 → υ.1 4 = tk → (∀ k, k < 16 → wt k = (υ.1 5 k).toInt64) → tbl wt tk t q υ m → ∃ υ', fX9_left_L67 kT2 0 q ex fuel (nI m - 1) υ = ex υ' ∧ υ'.2.2 = υ.2.2 ∧ (∀ x, x ≠ 6 → x ≠ 13 → υ'.1 x = υ.1 x) ∧ (∀ i, 6 ≤ i → υ'.1 6 i = υ.1 6 i) ∧ tbl wt tk t q υ' 0 := by
  have hp := p3_v t (by omega)
  intro m
  induction m with
  | zero =>
    intro fuel υ hmt hf h5 w8 w7 w26 w6 h4 hw hT
    obtain ⟨f, rfl⟩ : ∃ f, fuel = f + 1 := ⟨fuel - 1, by omega⟩
    rw [fX9_left_L67, if_pos (by decide)]
    exact ⟨υ, rfl, rfl, fun _ _ _ => rfl, fun _ _ => rfl, hT⟩
  | succ m ih =>
    intro fuel υ hmt hf h5 w8 w7 w26 w6 h4 hw hT
    obtain ⟨f, rfl⟩ : ∃ f, fuel = f + 1 := ⟨fuel - 1, by omega⟩
    obtain ⟨υ1, a1, a2, a3, a4⟩ := ev_leftOf (c := m) (by omega) ht h5 w8 w7 w26 w6 h4 hw hm hT
    obtain ⟨υ', g1, g2, g3, g4, g5⟩ := ih f (wI υ1 13 m (nI (lf wt tk t q (uN (ra m) t) (ra m)))) (by omega) (by omega) (by rw [wIn (by decide), a3 0 (by decide)]; exact h5) (by rw [wrr, a2]; exact w8) (by rw [wrr, a2]; exact w7) (by rw [wrr, a2]; exact w26) (by rw [wrr, a2]; exact w6) (by rw [wIn (by decide), a3 4 (by decide)]; exact h4) (fun k hk => by rw [wIn (by decide), a3 5 (by decide)]; exact hw k hk) (fun c h1 h2 => by
      rw [wIs]
      by_cases e : c = m
      · rw [if_pos e, e]
      · rw [if_neg e, a3 13 (by decide)]
        exact hT c (by omega) h2)
    rw [nI_pred, fX9_left_L67, if_neg (nI_pos (by omega)), gR2, w26, ob, vC2, a1, ob, sA2 13 729 (k := m) (by omega), ob]
    simp only [iflt]
    rw [show nI m + -1 = nI m - 1 by grind]
    exact ⟨υ', g1, g2.trans a2, fun x h6 h13 => by rw [g3 x h6 h13, wIn h13, a3 x h6], fun i hi => by rw [g4 i hi, wIn (by decide), a4 i hi], g5⟩
end REFT
