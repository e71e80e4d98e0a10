/-! THE FEWEST MINUTES: a pure picture -/
theorem od_cong {w : Int64} {tk r r' : Nat → Int32} {ty : Int32} : ∀ k, (∀ j, j < k → r j = r' j) → od w tk r ty k = od w tk r' ty k
  | 0, _ => rfl
  | k + 1, h => by simp only [od]; rw [od_cong k (fun j hj => h j (by omega)), h k (by omega)]
def odr (wt : Nat → Int64) (tk r : Nat → Int32) (t k : Nat) : Int64 := od (wt k) tk r (nI k) t
def unk (wt : Nat → Int64) (tk : Nat → Int32) (t : Nat) (q : Int32) (r : Nat → Int32) : Prop := gr (odr wt tk r t) 16 * 100 < q.toInt64 * sm (odr wt tk r t) 16
def sx (r : Nat → Int32) (i : Nat) (v : Int32) (j : Nat) : Int32 := if j = i then v else r j
def mxn (a b : Nat) : Nat := if a ≤ b then b else a
def bsf (g : Nat → Nat) (r : Nat → Int32) : Nat → Nat
  | 0 => 1000000
  | k + 1 => if r k = 0 then (if bsf g r k ≤ g k then bsf g r k else g k) else bsf g r k
noncomputable def lf (wt : Nat → Int64) (tk : Nat → Int32) (t : Nat) (q : Int32) : Nat → (Nat → Int32) → Nat
  | 0, r => if gr (odr wt tk r t) 16 * 100 < q.toInt64 * sm (odr wt tk r t) 16 then 1000000 else 0
  | d + 1, r => if gr (odr wt tk r t) 16 * 100 < q.toInt64 * sm (odr wt tk r t) 16 then bsf (fun i => (tk (4 * i)).toNatClampNeg + mxn (lf wt tk t q d (sx r i 1)) (lf wt tk t q d (sx r i 2))) r t else 0
def uN (r : Nat → Int32) : Nat → Nat
  | 0 => 0
  | k + 1 => uN r k + (if r k = 0 then 1 else 0)
theorem uN_le (r : Nat → Int32) : ∀ k, uN r k ≤ k
  | 0 => Nat.le_refl _
  | k + 1 => by have := uN_le r k; simp only [uN]; split <;> omega
theorem uN_cong {r r' : Nat → Int32} : ∀ k, (∀ j, j < k → r j = r' j) → uN r k = uN r' k
  | 0, _ => rfl
  | k + 1, h => by simp only [uN]; rw [uN_cong k (fun j hj => h j (by omega)), h k (by omega)]
theorem uN_sx {r : Nat → Int32} {i : Nat} {v : Int32} (h0 : r i = 0) (hv : ¬ v = 0) : ∀ k, uN (sx r i v) k + (if i < k then 1 else 0) = uN r k
  | 0 => rfl
  | k + 1 => by
    have ih := uN_sx h0 hv k
    simp only [uN]
    by_cases e : k = i
    · subst e
      rw [show sx r k v k = v from if_pos rfl, if_neg hv, if_pos h0, if_pos (by omega)]
      rw [if_neg (by omega)] at ih
      omega
    · rw [show sx r i v k = r k from if_neg e]
      by_cases l : i < k
      · rw [if_pos l] at ih
        rw [if_pos (show i < k + 1 by omega)]
        omega
      · rw [if_neg l] at ih
        rw [if_neg (show ¬ i < k + 1 by omega)]
        omega
theorem uN_0 {r : Nat → Int32} : ∀ k, uN r k = 0 → ∀ j, j < k → ¬ r j = 0
  | 0, _, j, hj => absurd hj (by omega)
  | k + 1, h, j, hj => by
    simp only [uN] at h
    by_cases e : r k = 0
    · rw [if_pos e] at h; omega
    · rw [if_neg e] at h
      by_cases z : j = k
      · rw [z]; exact e
      · exact uN_0 k (by omega) j (by omega)
theorem bsf_0 {g : Nat → Nat} {r : Nat → Int32} : ∀ k, (∀ j, j < k → ¬ r j = 0) → bsf g r k = 1000000
  | 0, _ => rfl
  | k + 1, h => by simp only [bsf]; rw [if_neg (h k (by omega)), bsf_0 k (fun j hj => h j (by omega))]
theorem bsf_le {g : Nat → Nat} {r : Nat → Int32} : ∀ k, bsf g r k ≤ 1000000
  | 0 => Nat.le_refl _
  | k + 1 => by
    have := bsf_le (g := g) (r := r) k
    simp only [bsf]
    split
    · split <;> omega
    · exact this
theorem bsf_bd {g : Nat → Nat} {r : Nat → Int32} {B : Nat} : ∀ k, (∀ j, j < k → g j < 1000000 → g j ≤ B) → bsf g r k < 1000000 → bsf g r k ≤ B
  | 0, _, h => absurd h (by simp [bsf])
  | k + 1, hg, h => by
    have ih := bsf_bd (r := r) k (fun j hj => hg j (by omega))
    simp only [bsf] at h ⊢
    by_cases e : r k = 0
    · rw [if_pos e] at h ⊢
      by_cases l : bsf g r k ≤ g k
      · rw [if_pos l] at h ⊢
        exact ih h
      · rw [if_neg l] at h ⊢
        exact hg k (by omega) h
    · rw [if_neg e] at h ⊢
      exact ih h
theorem bsf_cong {g g' : Nat → Nat} {r r' : Nat → Int32} : ∀ k, (∀ j, j < k → r j = r' j ∧ (r j = 0 → g j = g' j)) → bsf g r k = bsf g' r' k
  | 0, _ => rfl
  | k + 1, h => by
    have ih := bsf_cong k (fun j hj => h j (by omega))
    obtain ⟨h1, h2⟩ := h k (by omega)
    simp only [bsf]
    rw [ih, ← h1]
    by_cases e : r k = 0
    · rw [if_pos e, if_pos e, h2 e]
    · rw [if_neg e, if_neg e]
section LFP
variable {wt : Nat → Int64} {tk : Nat → Int32} {t : Nat} {q : Int32}
theorem odr_cong {r r' : Nat → Int32} (h : ∀ j, j < t → r j = r' j) : odr wt tk r t = odr wt tk r' t := by
  funext k
  exact od_cong t h
theorem lf_cong : ∀ (d : Nat) (r r' : Nat → Int32), (∀ j, j < t → r j = r' j) → lf wt tk t q d r = lf wt tk t q d r'
  | 0, r, r', h => by simp only [lf]; rw [odr_cong h]
  | d + 1, r, r', h => by
    simp only [lf]
    rw [odr_cong h, bsf_cong t (fun j hj => ⟨h j hj, fun _ => by
      rw [lf_cong d (sx r j 1) (sx r' j 1) (fun i hi => by unfold sx; split; rfl; exact h i hi), lf_cong d (sx r j 2) (sx r' j 2) (fun i hi => by unfold sx; split; rfl; exact h i hi)]⟩)]
theorem lf_bd (hm : ∀ i, i < t → (tk (4 * i)).toNatClampNeg ≤ 30) : ∀ (d : Nat) (r : Nat → Int32), lf wt tk t q d r ≤ 1000000 ∧ (lf wt tk t q d r < 1000000 → lf wt tk t q d r ≤ 30 * d)
  | 0, r => by simp only [lf]; split <;> omega
  | d + 1, r => by
    simp only [lf]
    split
    · refine ⟨bsf_le t, bsf_bd t (fun j hj hg => ?_)⟩
      have a := lf_bd hm d (sx r j 1)
      have b := lf_bd hm d (sx r j 2)
      have c := hm j hj
      unfold mxn at hg ⊢
      split at hg
      · rename_i h
        rw [if_pos h]
        omega
      · rename_i h
        rw [if_neg h]
        omega
    · omega
/-- the value of a task tried now -/
noncomputable def gD (wt : Nat → Int64) (tk : Nat → Int32) (t : Nat) (q : Int32) (D : Nat) (r : Nat → Int32) (i : Nat) : Nat := (tk (4 * i)).toNatClampNeg + mxn (lf wt tk t q (D - 1) (sx r i 1)) (lf wt tk t q (D - 1) (sx r i 2))
theorem lf_eq {D : Nat} {r : Nat → Int32} (hD : uN r t = D) : lf wt tk t q D r = if gr (odr wt tk r t) 16 * 100 < q.toInt64 * sm (odr wt tk r t) 16 then bsf (gD wt tk t q D r) r t else 0 := by
  match D, hD with
  | 0, hD =>
    simp only [lf]
    rw [bsf_0 t (uN_0 t hD)]
  | D + 1, hD => rfl
end LFP
/-- minutes as the class says them -/
def cv (x : Nat) : Int32 := if x < 1000000 then nI x else -1
/-! digits by threes -/
def dt (i c : Nat) : Nat := c / 3 ^ i % 3
theorem dt_lt (i c : Nat) : dt i c < 3 := Nat.mod_lt _ (by decide)
set_option maxRecDepth 100000 in
theorem dt_add : ∀ i, i < 6 → ∀ c, c < 729 → dt i c = 0 → ∀ v, v < 3 → c + v * 3 ^ i < 729 ∧ ∀ j, j < 6 → dt j (c + v * 3 ^ i) = if j = i then v else dt j c := by decide +kernel
theorem dt_6 {j c : Nat} (hc : c < 729) (hj : 6 ≤ j) : dt j c = 0 := by
  unfold dt
  rw [Nat.div_eq_of_lt (Nat.lt_of_lt_of_le hc (Nat.pow_le_pow_right (n := 3) (by decide) hj : 3 ^ 6 ≤ 3 ^ j))]
set_option maxRecDepth 100000 in
theorem dt_top : ∀ t, t < 7 → ∀ c, c < 729 → (c < 3 ^ t ↔ ∀ i, i < 6 → t ≤ i → dt i c = 0) := by decide +kernel
theorem p3_v : ∀ i, i < 7 → 3 ^ i ≤ 729 := by decide
