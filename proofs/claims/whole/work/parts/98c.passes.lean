/-! A CHOIR IN WHICH ONE GROWLS: the passes of an ear, with a slip or without -/
def tab : Nat → Nat
  | 0 => 8589934595
  | 1 => 8589934599
  | 2 => 25769803807
  | 3 => 73786976561126179327
  | 4 => 9370946024620234506239
  | 5 => 2782148642329552771463869785538286078525439
  | 6 => 15147457949198998677735585896510448425397101497995753558132558483055606705250500607
  | _ => 878694100803598413091306282228964451662305208404527905490506331124813011760246438182230537233886627782261277388274535168277937323553333254493358360034208251903
def pz1 (n : Nat) : Nat := [0, 0, 3, 5, 5, 6, 6, 6, 6, 7, 7, 7, 7, 7, 7, 7, 7].getD n 0
def pz (n e : Nat) : Nat := if e = 0 then lg2 n else pz1 n
def cnd (B : Nat → Bool) (a b k : Nat) : Bool := B (33 * (k / (b + 1)) + a - k / (b + 1) + k % (b + 1)) && B (33 * (a - k / (b + 1)) + k / (b + 1) + b - k % (b + 1))
def exB (B : Nat → Bool) (a b : Nat) : Nat → Nat → Bool
  | _, 0 => false
  | k, d + 1 => cnd B a b k || exB B a b (k + 1) d
def kno (B : Nat → Bool) (a b : Nat) : Bool := B (33 * a + b) || exB B a b 0 ((a + 1) * (b + 1))
set_option maxRecDepth 100000 in
theorem tab_0 : ∀ k, k < 1089 → (if (1 : Int32) < nI k / 33 + (nI k - nI k / 33 * 33) then (0 : Int32) else 1) = if (tab 0).testBit k = true then 1 else 0 := by decide +kernel
set_option maxRecDepth 100000 in
theorem tab_s : ∀ p, p < 7 → ∀ a, a < 17 → ∀ b, b < 17 → a + b ≤ 16 → kno (fun i => (tab p).testBit i) a b = (tab (p + 1)).testBit (33 * a + b) := by decide +kernel
theorem tab_z : ∀ n, n < 17 → 1 ≤ n → pz1 n ≤ 7 ∧ (∀ p, p < pz1 n → (tab p).testBit (33 * n) = false) ∧ (tab (pz1 n)).testBit (33 * n) = true := by decide +kernel
def nd (x e p : Int32) : Int32 := if e = 0 then x else if x = 1 then x else if x - x / 2 * 2 = 1 then x * (p + 1) + (p - 1) else x * (p + 1) + 0
theorem nd_z : ∀ n, n < 17 → 1 ≤ n → ∀ e, e < 2 → pz n e < 30 ∧ (∀ p, p < pz n e → nI (2 ^ p) < nd (nI n) (nI e) (nI p)) ∧ ¬ nI (2 ^ pz n e) < nd (nI n) (nI e) (nI (pz n e)) := by decide +kernel
theorem ev_needed {T : hT} {u : hM} {x e p : Int32} : fX8_answersNeeded T x e p u = some (nd x e p, u) := by
  unfold fX8_answersNeeded nd
  by_cases h1 : e = 0
  · rw [if_pos h1, if_pos h1]
  · rw [if_neg h1, if_neg h1]
    by_cases h2 : x = 1
    · rw [if_pos h2, if_pos h2]
    · rw [if_neg h2, if_neg h2]
      by_cases h3 : x - x / 2 * 2 = 1
      · rw [if_pos h3, if_pos h3]
      · rw [if_neg h3, if_neg h3]
theorem passes_L {x e : Int32} {q : Nat} (hq : q < 30) (h1 : ∀ p, p < q → nI (2 ^ p) < nd x e (nI p)) (h2 : ¬ nI (2 ^ q) < nd x e (nI q)) {ex : hM → Option (Int32 × hM)} {σ1 : hM} : ∀ (d k fuel : Nat), k + d = q → d < fuel → fX8_passes_L24 kT1 x e ex fuel (nI k) σ1 = some (nI q, σ1) := by
  intro d
  induction d with
  | zero =>
    intro k fuel hk hf
    obtain ⟨f, rfl⟩ : ∃ f, fuel = f + 1 := ⟨fuel - 1, by omega⟩
    have e : k = q := by omega
    subst e
    rw [fX8_passes_L24, if_neg (show ¬ (30 : Int32) ≤ nI k from nI_ge (b := 30) hq (by decide)), ev_needed, ob, shl31 k (by omega), if_neg h2]
  | succ d ih =>
    intro k fuel hk hf
    obtain ⟨f, rfl⟩ : ∃ f, fuel = f + 1 := ⟨fuel - 1, by omega⟩
    rw [fX8_passes_L24, if_neg (show ¬ (30 : Int32) ≤ nI k from nI_ge (b := 30) (by omega) (by decide)), ev_needed, ob, shl31 k (by omega), if_pos (h1 k (by omega))]
    simp only [iflt, nI_1]
    exact ih (k + 1) f (by omega) (by omega)
theorem nar01 (b : Bool) : vp_nar .boolean (if b = true then (1 : Int32) else 0) = if b = true then 1 else 0 := by cases b <;> decide
theorem rmi_nI {k m : Nat} (hk : k < 2 ^ 31) (h0 : 0 < m) (hm : m < 2 ^ 31) : rmi (nI k) (nI m) = some (nI (k % m)) := by
  unfold rmi
  rw [if_neg (nI_ne0 h0 hm), pk_div hk h0 hm, pk_mul, pk_sub (Nat.div_mul_le_self k m)]
  congr 2
  have := Nat.div_add_mod k m
  rw [Nat.mul_comm] at this
  omega
theorem dvi_nI {k m : Nat} (hk : k < 2 ^ 31) (h0 : 0 < m) (hm : m < 2 ^ 31) : dvi (nI k) (nI m) = some (nI (k / m)) := by
  unfold dvi
  rw [if_neg (nI_ne0 h0 hm), pk_div hk h0 hm]
theorem known_L {B : Nat → Bool} {σ : hM} {n a b : Nat} {ex : Int32 → hM → Option (Int32 × hM)} (hB : ∀ x y, x + y ≤ n → σ.1 17 (33 * x + y) = if B (33 * x + y) = true then 1 else 0) (w30 : σ.2.2 0 30 = some 17) (hab : a + b ≤ n) (hn : n ≤ 16) : ∀ (d k fuel : Nat) (v : Bool), k + d = (a + 1) * (b + 1) → d < fuel → fX9_isKnownBy_L15 kT2 0 (nI a) (nI b) ex fuel (if v = true then 1 else 0) (nI k) σ = ex (if (v || exB B a b k d) = true then 1 else 0) σ := by
  have hle : (a + 1) * (b + 1) ≤ 17 * 17 := Nat.mul_le_mul (by omega) (by omega)
  have etot : (nI a + 1) * (nI b + 1) = nI ((a + 1) * (b + 1)) := by rw [nI_1, nI_1, pk_mul]
  intro d
  induction d with
  | zero =>
    intro k fuel v hk hf
    obtain ⟨f, rfl⟩ : ∃ f, fuel = f + 1 := ⟨fuel - 1, by omega⟩
    rw [fX9_isKnownBy_L15, etot, if_pos (nI_le (by omega) (by omega)), exB, Bool.or_false]
  | succ d ih =>
    intro k fuel v hk hf
    obtain ⟨f, rfl⟩ : ∃ f, fuel = f + 1 := ⟨fuel - 1, by omega⟩
    rw [fX9_isKnownBy_L15, etot, if_neg (nI_ge (by omega) (by omega))]
    cases v with
    | true => rw [if_neg (show ¬ (if true = true then (1 : Int32) else 0) = 0 by decide), Bool.true_or]
    | false =>
      have hx : k / (b + 1) < a + 1 := (Nat.div_lt_iff_lt_mul (by omega)).mpr (by omega)
      have hy : k % (b + 1) < b + 1 := Nat.mod_lt _ (by omega)
      have i1 := ih (k + 1) f true (by omega) (by omega)
      have i0 := ih (k + 1) f false (by omega) (by omega)
      rw [if_pos rfl, Bool.true_or, if_pos rfl] at i1
      rw [if_neg (show ¬ (false = true) by decide), Bool.false_or] at i0
      rw [if_pos (show (if false = true then (1 : Int32) else 0) = 0 from rfl), nI_1 b, dvi_nI (by omega) (by omega) (by omega), ob, rmi_nI (by omega) (by omega) (by omega), ob, gR2, w30, ob, Bool.false_or, exB]
      simp only [iflt, nI_1]
      unfold cnd
      generalize hX : k / (b + 1) = X at hx ⊢
      generalize hY : k % (b + 1) = Y at hy ⊢
      have e1 : 33 * nI X + nI a - nI X + nI Y = nI (33 * X + a - X + Y) := by rw [mul_nI 33 33 rfl, nI_add, pk_sub (by omega), nI_add]
      have e2 : 33 * (nI a - nI X) + nI X + nI b - nI Y = nI (33 * (a - X) + X + b - Y) := by rw [pk_sub (by omega), mul_nI 33 33 rfl, nI_add, nI_add, pk_sub (by omega)]
      have z1 : 33 * X + a - X + Y = 33 * X + (a - X + Y) := by omega
      have z2 : 33 * (a - X) + X + b - Y = 33 * (a - X) + (X + b - Y) := by omega
      have b1 := hB X (a - X + Y) (by omega)
      have b2 := hB (a - X) (X + b - Y) (by omega)
      rw [e1, e2, z1, z2, lZ2 17 1089 (k := 33 * X + (a - X + Y)) (by omega), ob, b1]
      cases q1 : B (33 * X + (a - X + Y)) with
      | false =>
        rw [if_pos (show (if false = true then (1 : Int32) else 0) = 0 from rfl), Bool.false_and, Bool.false_or]
        exact i0
      | true =>
        rw [if_neg (show ¬ (if true = true then (1 : Int32) else 0) = 0 by decide), ob, lZ2 17 1089 (k := 33 * (a - X) + (X + b - Y)) (by omega), ob, b2, Bool.true_and]
        cases q2 : B (33 * (a - X) + (X + b - Y)) with
        | false =>
          rw [if_pos (show (if false = true then (1 : Int32) else 0) = 0 from rfl), Bool.false_or]
          exact i0
        | true =>
          rw [if_neg (show ¬ (if true = true then (1 : Int32) else 0) = 0 by decide), Bool.true_or]
          exact i1
theorem ev_known {B : Nat → Bool} {σ : hM} {n a b : Nat} (hB : ∀ x y, x + y ≤ n → σ.1 17 (33 * x + y) = if B (33 * x + y) = true then 1 else 0) (w30 : σ.2.2 0 30 = some 17) (hab : a + b ≤ n) (hn : n ≤ 16) : fX9_isKnownBy kT2 0 (nI a) (nI b) σ = some (if kno B a b = true then 1 else 0, σ) := by
  have hle : (a + 1) * (b + 1) ≤ 17 * 17 := Nat.mul_le_mul (by omega) (by omega)
  have L := known_L (ex := fun x13 u14 => rtz x13 u14) hB w30 hab hn ((a + 1) * (b + 1)) 0 6000 (B (33 * a + b)) (by omega) (by omega)
  rw [nI_0] at L
  unfold fX9_isKnownBy kno
  rw [gR2, w30, ob, mul_nI 33 33 rfl, nI_add, lZ2 17 1089 (k := 33 * a + b) (by omega), ob, hB a b hab, L, rzb]
