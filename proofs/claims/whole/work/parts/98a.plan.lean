/-! PLANS: the class looks at rows that never fall, the reference at all -/
def dg (N r w : Nat) : Nat := r / 4 ^ (N - 1 - w) % 4
def dgs (N r : Nat) : List Nat := (List.range N).map (dg N r)
def insr (p : Nat) : List Nat → List Nat
  | [] => [p]
  | q :: l => if p ≤ q then p :: q :: l else q :: insr p l
def srtl : List Nat → List Nat
  | [] => []
  | p :: l => insr p (srtl l)
def srt (N r : Nat) : Nat := (srtl (dgs N r)).foldl (fun a p => 4 * a + p) 0
def isRis (N r : Nat) : Bool := al (fun j => decide (dg N r (j - 2) ≤ dg N r (j - 1))) 2 (N - 1)
def tN (N r : Nat) (x : Nat → Int32) : Nat → Nat → Int32
  | 0 => x
  | w + 1 => tch (dg N r w) (tN N r x w)
theorem dg_lt (N r w : Nat) : dg N r w < 4 := Nat.mod_lt _ (by decide)
theorem srt_v : ∀ N, N < 5 → ∀ r, r < 4 ^ N → isRis N r = true ∨ (srt N r < r ∧ (dgs N (srt N r)).isPerm (dgs N r) = true) := by decide +kernel
theorem ris0 : ∀ N, N < 5 → isRis N 0 = true := by decide +kernel
theorem pow_v : ∀ N, N < 5 → ((1 : Int32) <<< (((2 : Int32) * nI N) &&& 31)) = nI (4 ^ N) ∧ 4 ^ N ≤ 256 := by decide +kernel
theorem pw1 : ∀ N, N < 5 → ∀ r, r < 256 → ∀ w, w < 4 → w < N → ((nI r >>> (((2 : Int32) * (nI N - nI (w + 1))) &&& 31)) &&& (3 : Int32)) = nI (dg N r w) := by decide +kernel
theorem i_pw (a b : Int32) : (a - 1) - (b - 1) = a - b := by grind
theorem ev_pw1 {T : hT} {u : hM} {N r w : Nat} (hN : N < 5) (hr : r < 256) (hw : w < N) : fX8_partOfWeek T (nI r) (nI N) (nI (w + 1)) u = some (nI (dg N r w), u) := by
  unfold fX8_partOfWeek
  rw [pw1 N hN r hr w (by omega) hw]
theorem ev_pw2 {T : hT} {u : hM} {N r w : Nat} (hN : N < 5) (hr : r < 256) (hw : w < N) : fX9_partOf T (nI r) (nI N) (nI w) u = some (nI (dg N r w), u) := by
  unfold fX9_partOf
  rw [← nI_pred w, i_pw, pw1 N hN r hr w (by omega) hw]
theorem rising_L {T : hT} {u : hM} {N r : Nat} (hN : N < 5) (hr : r < 256) : ∀ (d k fuel : Nat), k + d = N + 1 → 2 ≤ k → d < fuel → fX8_isRising_L2 T (nI r) (nI N) (fun u4 => rtz (1 : Int32) u4) fuel (nI k) u = some (if al (fun j => decide (dg N r (j - 2) ≤ dg N r (j - 1))) k d = true then 1 else 0, u) := by
  intro d
  induction d with
  | zero =>
    intro k fuel hk h2 hf
    obtain ⟨f, rfl⟩ : ∃ f, fuel = f + 1 := ⟨fuel - 1, by omega⟩
    rw [fX8_isRising_L2, if_pos (nI_lt (by omega) (by omega))]
    rfl
  | succ d ih =>
    intro k fuel hk h2 hf
    obtain ⟨f, rfl⟩ : ∃ f, fuel = f + 1 := ⟨fuel - 1, by omega⟩
    obtain ⟨k', rfl⟩ : ∃ k', k = k' + 2 := ⟨k - 2, by omega⟩
    have l1 := dg_lt N r (k' + 1)
    have l2 := dg_lt N r k'
    rw [fX8_isRising_L2, if_neg (nI_nlt (by omega) (by omega)), show k' + 2 = (k' + 1) + 1 from rfl, ev_pw1 hN hr (by omega), ob, nI_pred, ev_pw1 hN hr (by omega), ob, al]
    simp only [iflt, nI_1]
    rw [show k' + 1 + 1 - 2 = k' by omega, show k' + 1 + 1 - 1 = k' + 1 by omega]
    by_cases h : dg N r k' ≤ dg N r (k' + 1)
    · rw [if_pos (nI_le h (by omega)), ih (k' + 1 + 1 + 1) f (by omega) (by omega) (by omega), decide_eq_true h, Bool.true_and]
    · rw [if_neg (nI_ge (by omega) (by omega)), decide_eq_false h, Bool.false_and]
      rfl
theorem ev_isRising {T : hT} {u : hM} {N r : Nat} (hN : N < 5) (h1 : 1 ≤ N) (hr : r < 256) : fX8_isRising T (nI r) (nI N) u = some (if isRis N r = true then 1 else 0, u) := by
  unfold fX8_isRising
  exact rising_L hN hr (N - 1) 2 6000 (by omega) (by omega) (by omega)
/-- lessons may change places -/
theorem tch_comm (p q : Nat) (x : Nat → Int32) : tch p (tch q x) = tch q (tch p x) := by
  funext j
  by_cases p0 : p = 0 <;> by_cases q0 : q = 0 <;> by_cases p1 : p = 1 <;> by_cases q1 : q = 1 <;> by_cases p2 : p = 2 <;> by_cases q2 : q = 2 <;> (try omega) <;> simp only [tch, p0, q0, p1, q1, p2, q2, if_true, if_false] <;> (by_cases j1 : j = 1 <;> by_cases j2 : j = 2 <;> by_cases j3 : j = 3 <;> by_cases j4 : j = 4 <;> by_cases j5 : j = 5 <;> by_cases j6 : j = 6 <;> (try omega) <;> simp [j1, j2, j3, j4, j5, j6])
theorem tN_fold (N r : Nat) (x : Nat → Int32) : ∀ w, tN N r x w = ((List.range w).map (dg N r)).foldl (fun y p => tch p y) x
  | 0 => rfl
  | w + 1 => by
    rw [List.range_succ, List.map_append, List.foldl_append, ← tN_fold N r x w]
    rfl
theorem tN_perm {N r r' : Nat} (h : (dgs N r').isPerm (dgs N r) = true) (x : Nat → Int32) : tN N r' x N = tN N r x N := by
  rw [tN_fold, tN_fold]
  exact (List.isPerm_iff.mp h).foldl_eq' (fun p _ q _ z => tch_comm q p z) x
theorem pSc_pos {x d b : Nat → Int32} {n : Nat} (hn : n ≤ 40) : 0 ≤ (pSc x d b n).toInt := by
  unfold pSc
  by_cases q : n = 0 ∨ x 0 = 7
  · rw [if_pos q]; decide
  · rw [if_neg q]
    show 0 ≤ (nI (cS _ d (n - 1)) + nI (cH _ d n)).toInt
    have l1 := cS_le (pHt x d b) d (n - 1)
    have l2 := cH_le (pHt x d b) d n
    rw [nI_add, nI_toInt (by omega)]
    omega
