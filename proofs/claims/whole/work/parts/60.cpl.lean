/-! THE COUPLING OF THE TWO MEMORIES. M, R, S: the melody, the tasks, the row of singers that the class now uses; n notes, c singers, t tasks. -/
def pRf1 (M M' R R' S S' : Nat) (ρ : Nat → Nat → Option Nat) : Prop :=
  ((M = 3 ∧ M' = 6) ∨ (M = 6 ∧ M' = 3)) ∧ ((R = 9 ∧ R' = 14) ∨ (R = 14 ∧ R' = 9)) ∧ ((S = 36 ∧ S' = 19) ∨ (S = 19 ∧ S' = 36)) ∧ ρ 0 1 = some M ∧ ρ 0 2 = some M' ∧ ρ 0 3 = some R ∧ ρ 0 4 = some R' ∧ ρ 0 5 = some S' ∧ ρ 32 2 = some S ∧
  (ρ 0 0 = some 1 ∧ ρ 0 6 = some 32 ∧ ρ 0 7 = some 49 ∧ ρ 0 8 = some 84 ∧ ρ 0 9 = some 94 ∧ ρ 0 10 = some 97 ∧ ρ 0 12 = some 98 ∧ ρ 0 13 = some 100 ∧ ρ 1 0 = some 2 ∧ ρ 32 0 = some 33 ∧ ρ 32 1 = some 35 ∧ ρ 33 0 = some 34 ∧ ρ 98 0 = some 99 ∧ ρ 94 0 = some 95 ∧ ρ 94 1 = some 96 ∧ ρ 84 0 = some 85 ∧ ρ 84 1 = some 93 ∧ ρ 49 0 = some 50 ∧ ρ 49 1 = some 67 ∧ ρ 50 0 = some 51 ∧ ρ 51 0 = some 52 ∧ ρ 50 1 = some 53 ∧ ρ 50 2 = some 54 ∧ ρ 67 0 = some 68 ∧ ρ 68 0 = some 69 ∧ ρ 67 1 = some 70 ∧ ρ 67 2 = some 71 ∧ ρ 3 0 = some 4 ∧ ρ 3 1 = some 5 ∧ ρ 6 0 = some 7 ∧ ρ 6 1 = some 8 ∧ ρ 9 0 = some 10 ∧ ρ 9 1 = some 11 ∧ ρ 9 2 = some 12 ∧ ρ 9 3 = some 13 ∧ ρ 14 0 = some 15 ∧ ρ 14 1 = some 16 ∧ ρ 14 2 = some 17 ∧ ρ 14 3 = some 18) ∧ (∀ k, k < 12 → ρ 36 k = some (37 + k) ∧ ρ 19 k = some (20 + k) ∧ ρ 54 k = some (55 + k) ∧ ρ 71 k = some (72 + k)) ∧ ∀ k, k < 7 → ρ 85 k = some (86 + k)
def pRf2 (ρ : Nat → Nat → Option Nat) : Prop := ρ 0 1 = some 1 ∧ ρ 0 2 = some 2 ∧ ρ 0 4 = some 3 ∧ ρ 0 6 = some 4 ∧ ρ 0 7 = some 5 ∧ ρ 0 8 = some 6 ∧ ρ 0 10 = some 7 ∧ ρ 0 12 = some 8 ∧ ρ 0 21 = some 9 ∧ ρ 0 22 = some 10 ∧ ρ 0 24 = some 11 ∧ ρ 0 25 = some 12 ∧ ρ 0 26 = some 13 ∧ ρ 0 27 = some 14 ∧ ρ 0 28 = some 15 ∧ ρ 0 29 = some 16 ∧ ρ 0 30 = some 17 ∧ ρ 0 31 = some 18 ∧ ρ 0 33 = some 19 ∧ ρ 0 34 = some 20 ∧ ρ 0 36 = some 21 ∧ ρ 0 37 = some 22 ∧ ρ 0 38 = some 23
def pText (f g : Nat → Nat → Int32) : Prop := ∃ w : Nat, w ≤ 400 ∧ f 1 1 = nI w ∧ g 0 13 = nI w ∧ (∀ k, k < w → f 2 k = (g 8 k).toInt8.toInt32 ∧ 0 ≤ (g 8 k).toInt ∧ (g 8 k).toInt ≤ 255) ∧ f 1 5 = g 0 14
def pMel (n M : Nat) (f g : Nat → Nat → Int32) : Prop := n ≤ 40 ∧ f M 2 = nI n ∧ g 0 0 = nI n ∧ ∀ k, k < n → f (M + 1) k = g 1 k ∧ f (M + 2) k = g 2 k ∧ (0 ≤ (g 1 k).toInt ∧ (g 1 k).toInt ≤ 3600) ∧ (g 2 k = 0 ∨ g 2 k = 1)
/-- the numbers of a singer, within their bounds -/
def sOk (x : Nat → Int32) : Prop := (0 ≤ (x 0).toInt ∧ (x 0).toInt ≤ 7) ∧ (0 ≤ (x 1).toInt ∧ (x 1).toInt ≤ 99) ∧ (-50 ≤ (x 2).toInt ∧ (x 2).toInt ≤ 49) ∧ (0 ≤ (x 3).toInt ∧ (x 3).toInt ≤ 99) ∧ (1 ≤ (x 4).toInt ∧ (x 4).toInt ≤ 40) ∧ (0 ≤ (x 5).toInt ∧ (x 5).toInt ≤ (x 6).toInt ∧ (x 6).toInt ≤ 36) ∧ (-20 ≤ (x 7).toInt ∧ (x 7).toInt ≤ 20)
def pTask (t R : Nat) (f g : Nat → Nat → Int32) : Prop := t ≤ 6 ∧ f R 4 = nI t ∧ g 0 5 = nI t ∧ ∀ i, i < t → (f (R + 1) i = g 4 (4 * i) ∧ f (R + 2) i = g 4 (4 * i + 1) ∧ f (R + 3) i = g 4 (4 * i + 2) ∧ f (R + 4) i = g 4 (4 * i + 3)) ∧ (1 ≤ (g 4 (4 * i)).toInt ∧ (g 4 (4 * i)).toInt ≤ 30) ∧ (0 ≤ (g 4 (4 * i + 1)).toInt ∧ (g 4 (4 * i + 1)).toInt ≤ 49) ∧ (0 ≤ (g 4 (4 * i + 2)).toInt ∧ (g 4 (4 * i + 2)).toInt ≤ 49) ∧ (0 ≤ (g 4 (4 * i + 3)).toInt ∧ (g 4 (4 * i + 3)).toInt ≤ 15)
def pRes (t : Nat) (x y : Int32) (r : Nat → Int32) : Prop := ∃ N P : Nat, N < 64 ∧ P < 64 ∧ x = nI N ∧ y = nI P ∧ ∀ i, i < 6 → (r i = 0 ∨ r i = 1 ∨ r i = 2) ∧ N.testBit i = decide (r i ≠ 0) ∧ P.testBit i = decide (r i = 1) ∧ (t ≤ i → r i = 0)
def pSong (n c : Nat) (size who : Int32) (hts : Nat → Int32) (sung : Int32) (song sg : Nat → Int32) : Prop := who = sung ∧ (sung = -1 ∨ ∃ s, s < c ∧ sung = nI s ∧ size = nI n ∧ ∀ k, k < n → hts k = song k ∧ (sg (8 * s) = 7 → song k = -1) ∧ (sg (8 * s) ≠ 7 → 0 ≤ (song k).toInt ∧ (song k).toInt ≤ 3600))
/-- what an image keeps: the class's State at A with the singers' row S; the reference's weights, results, singers, song, who sang it, seed -/
def pState (n c t A S : Nat) (f : Nat → Nat → Int32) (gW gR gS gG : Nat → Int32) (sung seed : Int32) : Prop :=
  f A 3 = nI c ∧ (∀ k, k < 16 → f (A + 3) k = gW k ∧ 0 ≤ (gW k).toInt ∧ (gW k).toInt ≤ 99) ∧ pRes t (f A 4) (f A 5) gR ∧ (∀ s, s < c → (∀ j, j < 8 → f (S + 1 + s) j = gS (8 * s + j)) ∧ sOk (fun j => gS (8 * s + j))) ∧ pSong n c (f (A + 1) 1) (f (A + 1) 2) (f (A + 2)) sung gG gS ∧ f A 6 = seed ∧ 0 ≤ seed.toInt
def pImg (n c t i A : Nat) (f g : Nat → Nat → Int32) : Prop := f A 7 = g 23 i ∧ (g 23 i = 0 ∨ (g 23 i = 1 ∧ pState n c t A (A + 4) f (fun k => g 22 (200 * i + 46 + k)) (fun k => g 22 (200 * i + 40 + k)) (fun k => g 22 (200 * i + 62 + k)) (fun k => g 22 (200 * i + k)) (g 22 (200 * i + 158)) (g 22 (200 * i + 159))))
def pCrowd (f g : Nat → Nat → Int32) : Prop := ∃ m : Nat, m ≤ 8 ∧ f 94 2 = nI m ∧ g 0 32 = nI m ∧ ∀ k, k < m → f 95 k = g 19 k ∧ -1200 ≤ (g 19 k).toInt ∧ (g 19 k).toInt ≤ 1200
def pBook (f g : Nat → Nat → Int32) : Prop := ∃ m : Nat, m ≤ 40 ∧ f 0 11 = nI m ∧ g 0 35 = nI m ∧ ∀ k, k < m → f 97 k = g 21 k
def pCpl (M M' R R' S S' n c t : Nat) (σ1 σ2 : hM) : Prop :=
  pRf1 M M' R R' S S' σ1.2.2 ∧ pRf2 σ2.2.2 ∧ pText σ1.1 σ2.1 ∧ pMel n M σ1.1 σ2.1 ∧ (c ≤ 12 ∧ σ2.1 0 3 = nI c) ∧ pTask t R σ1.1 σ2.1 ∧ pState n c t 32 S σ1.1 (σ2.1 5) (σ2.1 6) (σ2.1 3) (σ2.1 7) (σ2.1 0 9) (σ2.1 0 11) ∧ pCrowd σ1.1 σ2.1 ∧ pBook σ1.1 σ2.1 ∧ pImg n c t 0 50 σ1.1 σ2.1 ∧ pImg n c t 1 67 σ1.1 σ2.1
def Cpl (σ1 σ2 : hM) : Prop := ∃ M M' R R' S S' n c t : Nat, pCpl M M' R R' S S' n c t σ1 σ2
/-! how the functions go on -/
def kd (T : hT) (a x : Nat) : Prop := T.1 a = x
def kl (T : hT) (a x : Nat) : Prop := T.2 a = x
theorem t_lt {a b : Nat} (h : a < b) : a < b := h
theorem t_nq {a b : Nat} (h : a ≠ b) : a ≠ b := h
theorem gI {T : hT} {σ : hM} {a ci k : Nat} (h : kd T a (ci + 1)) : gti T σ a ci k = some (σ.1 a k) := if_pos h
theorem gR {T : hT} {σ : hM} {a ci k : Nat} (h : kd T a (ci + 1)) : gtr T σ a ci k = σ.2.2 a k := if_pos h
theorem gL {T : hT} {σ : hM} {a ci k : Nat} (h : kd T a (ci + 1)) : gtl T σ a ci k = some (σ.2.1 a k) := if_pos h
theorem gQ {T : hT} {σ : hM} {a ci k : Nat} (h : kd T a (ci + 1)) : gtq T σ a ci k = some (σ.2.2 a k) := if_pos h
theorem pI {T : hT} {σ : hM} {a ci k : Nat} {v : Int32} (h : kd T a (ci + 1)) : pti T σ a ci k v = some (wI σ a k v) := if_pos h
theorem pZ {T : hT} {σ : hM} {a ci k : Nat} {v : Int32} (h : kd T a (ci + 1)) (h2 : v = 0 ∨ v = 1) : ptz T σ a ci k v = some (wI σ a k v) := if_pos ⟨h, h2⟩
theorem pL {T : hT} {σ : hM} {a ci k : Nat} {v : Int64} (h : kd T a (ci + 1)) : ptl T σ a ci k v = some (wL σ a k v) := if_pos h
theorem pR {T : hT} {σ : hM} {a ci k : Nat} {v : Option Nat} (h : kd T a (ci + 1)) : ptr T σ a ci k v = some (wR σ a k v) := if_pos h
theorem vC {α : Type} {T : hT} {a ci : Nat} {o : Option α} (h : kd T a (ci + 1)) : vc T a ci o = o := if_pos h
theorem ob {α β : Type} {x : α} {f : α → Option β} : (some x).bind f = f x := rfl
theorem iflt {α β : Type} {e : α} {k : α → β} : lt e k = k e := rfl
theorem wrr {σ : hM} {a k x y : Nat} {v : Int32} : (wI σ a k v).2.2 x y = σ.2.2 x y := rfl
theorem wll {σ : hM} {a k x y : Nat} {v : Int32} : (wI σ a k v).2.1 x y = σ.2.1 x y := rfl
theorem wIn {σ : hM} {a b k : Nat} {v : Int32} (h : b ≠ a) : (wI σ a k v).1 b = σ.1 b := by funext j; simp [wI, h_w2, h]
theorem wIs {σ : hM} {a k j : Nat} {v : Int32} : (wI σ a k v).1 a j = if j = k then v else σ.1 a j := by simp [wI, h_w2]
theorem rz0 {α : Type} {σ : α} : rtz (0 : Int32) σ = some (0, σ) := rfl
theorem rz1 {α : Type} {σ : α} : rtz (1 : Int32) σ = some (1, σ) := rfl
theorem lA {t : Nat} (L : Nat) {T : hT} {σ : hM} {a k : Nat} (h1 : kd T a t) (h2 : kl T a L) (hk : k < L) (hL : L < 2 ^ 31) : ald t T σ a (nI k) = some (σ.1 a k) := by
  unfold ald
  rw [if_pos ⟨h1, by rw [show T.2 a = L from h2]; exact nI_in hk hL⟩, nI_clamp (by omega)]
theorem lR {t : Nat} (L : Nat) {T : hT} {σ : hM} {a k : Nat} (h1 : kd T a t) (h2 : kl T a L) (hk : k < L) (hL : L < 2 ^ 31) : aldr t T σ a (nI k) = σ.2.2 a k := by
  unfold aldr
  rw [if_pos ⟨h1, by rw [show T.2 a = L from h2]; exact nI_in hk hL⟩, nI_clamp (by omega)]
theorem sA (L : Nat) {T : hT} {σ : hM} {a k : Nat} {v : Int32} (h1 : kd T a 11) (h2 : kl T a L) (hk : k < L) (hL : L < 2 ^ 31) : asti T σ a (nI k) v = some (wI σ a k v) := by
  unfold asti
  rw [if_pos ⟨h1, by rw [show T.2 a = L from h2]; exact nI_in hk hL⟩, nI_clamp (by omega)]
theorem sB (L : Nat) {T : hT} {σ : hM} {a k : Nat} {v : Int32} (h1 : kd T a 12) (h2 : kl T a L) (hk : k < L) (hL : L < 2 ^ 31) : astb T σ a (nI k) v = some (wI σ a k (vp_nar .byte v)) := by
  unfold astb
  rw [if_pos ⟨h1, by rw [show T.2 a = L from h2]; exact nI_in hk hL⟩, nI_clamp (by omega)]
theorem sZ (L : Nat) {T : hT} {σ : hM} {a k : Nat} {v : Int32} (h1 : kd T a 13) (h2 : kl T a L) (hk : k < L) (hL : L < 2 ^ 31) : astz T σ a (nI k) v = some (wI σ a k (vp_nar .boolean v)) := by
  unfold astz
  rw [if_pos ⟨h1, by rw [show T.2 a = L from h2]; exact nI_in hk hL⟩, nI_clamp (by omega)]
theorem kMel {M M' : Nat} (h : (M = 3 ∧ M' = 6) ∨ (M = 6 ∧ M' = 3)) : kd kT1 M (1 + 1) ∧ kd kT1 (M + 1) (11) ∧ kl kT1 (M + 1) 40 ∧ kd kT1 (M + 2) (11) ∧ kl kT1 (M + 2) 40 := by rcases h with ⟨rfl, rfl⟩ | ⟨rfl, rfl⟩ <;> exact ⟨rfl, rfl, rfl, rfl, rfl⟩
theorem kTri {R R' : Nat} (h : (R = 9 ∧ R' = 14) ∨ (R = 14 ∧ R' = 9)) : kd kT1 R (7 + 1) ∧ (kd kT1 (R + 1) (11) ∧ kl kT1 (R + 1) 6) ∧ (kd kT1 (R + 2) (11) ∧ kl kT1 (R + 2) 6) ∧ (kd kT1 (R + 3) (11) ∧ kl kT1 (R + 3) 6) ∧ (kd kT1 (R + 4) (11) ∧ kl kT1 (R + 4) 6) := by rcases h with ⟨rfl, rfl⟩ | ⟨rfl, rfl⟩ <;> exact ⟨rfl, ⟨rfl, rfl⟩, ⟨rfl, rfl⟩, ⟨rfl, rfl⟩, rfl, rfl⟩
theorem kSing : ∀ k, k < 12 → kd kT1 (37 + k) (3 + 1) ∧ kd kT1 (20 + k) (3 + 1) ∧ kd kT1 (55 + k) (3 + 1) ∧ kd kT1 (72 + k) (3 + 1) := by unfold kd; decide +kernel
theorem kRow {S S' : Nat} (h : (S = 36 ∧ S' = 19) ∨ (S = 19 ∧ S' = 36)) : (kd kT1 S (15) ∧ kl kT1 S 12) ∧ ∀ k, k < 12 → kd kT1 (S + 1 + k) (3 + 1) := by
  rcases h with ⟨rfl, rfl⟩ | ⟨rfl, rfl⟩
  · exact ⟨⟨rfl, rfl⟩, fun k hk => (kSing k hk).1⟩
  · exact ⟨⟨rfl, rfl⟩, fun k hk => (kSing k hk).2.1⟩
theorem isW {T : hT} {v lo hi : Int32} {u : hM} : fX8_isWithin T v lo hi u = some (if lo ≤ v ∧ v ≤ hi then 1 else 0, u) := by
  unfold fX8_isWithin
  by_cases h1 : v < lo
  · rw [if_pos h1, if_neg (fun q => by have := q.1; rw [Int32.lt_iff_toInt_lt] at h1; rw [Int32.le_iff_toInt_le] at this; omega)]; rfl
  · rw [if_neg h1]
    by_cases h2 : hi < v
    · rw [if_pos h2, if_neg (fun q => by have := q.2; rw [Int32.lt_iff_toInt_lt] at h2; rw [Int32.le_iff_toInt_le] at this; omega)]; rfl
    · rw [if_neg h2, if_pos ⟨by rw [Int32.lt_iff_toInt_lt] at h1; rw [Int32.le_iff_toInt_le]; omega, by rw [Int32.lt_iff_toInt_lt] at h2; rw [Int32.le_iff_toInt_le]; omega⟩]; rfl
theorem l64 {a b : Int32} : a.toInt64 < b.toInt64 ↔ a < b := by rw [Int64.lt_iff_toInt_lt, Int32.lt_iff_toInt_lt, Int32.toInt_toInt64, Int32.toInt_toInt64]
theorem in9 (lo hi : Int32) {L H : Int64} {T : hT} {v : Int32} {u : hM} (h1 : L = lo.toInt64) (h2 : H = hi.toInt64) : fX9_in T v.toInt64 L H u = some (if lo ≤ v ∧ v ≤ hi then 1 else 0, u) := by
  rw [← isW (T := T)]
  unfold fX9_in fX8_isWithin
  rw [h1, h2]
  simp only [l64]
theorem rzb {α : Type} {P : Prop} [Decidable P] {σ : α} : rtz (if P then (1 : Int32) else 0) σ = some ((if P then (1 : Int32) else 0), σ) := by split <;> rfl
/-- a place among n: below, beyond, or one of them -/
theorem inN {p : Int32} {n : Nat} (hn : n < 2 ^ 30) : (0 ≤ p ∧ p ≤ nI n - 1) ↔ ∃ k, k < n ∧ p = nI k := by
  have e1 : (nI n - 1).toInt = (n : Int) - 1 := pk_sub_toInt (b := 1) hn (by decide)
  rw [Int32.le_iff_toInt_le, Int32.le_iff_toInt_le, e1, Int32.toInt_zero]
  constructor
  · intro ⟨h1, h2⟩
    obtain ⟨j, hj, e⟩ := nI_of (x := p) (by rw [Int32.lt_iff_toInt_lt, Int32.toInt_zero]; omega)
    refine ⟨j, ?_, e⟩
    rw [e, nI_toInt hj] at h2
    omega
  · intro ⟨k, hk, e⟩
    rw [e, nI_toInt (by omega)]
    omega
theorem inK {p : Int32} (n : Nat) {H : Int32} (hH : H = nI n) (hn : n < 1000000) : (0 ≤ p ∧ p ≤ H) ↔ ∃ k, k < n + 1 ∧ p = nI k := by
  rw [← inN (n := n + 1) (by omega), hH, ← nI_1]
  have : (nI n + 1 - 1 : Int32) = nI n := by rw [nI_1, show nI (n + 1) - 1 = nI n from nI_pred n]
  rw [this]
theorem ev_isSinger1 {σ : hM} {p : Int32} {c : Nat} (e6 : σ.2.2 0 6 = some 32) (ec : σ.1 32 3 = nI c) : fX8_isSinger kT1 0 p σ = some (if 0 ≤ p ∧ p ≤ nI c - 1 then 1 else 0, σ) := by
  unfold fX8_isSinger
  simp (disch := first | with_reducible assumption | (unfold kd; decide) | (unfold kl; decide) | decide | (apply t_lt; omega)) only [gR, gI, ob, e6, ec, isW, rzb]
theorem ev_isSinger2 {σ : hM} {p : Int32} {c : Nat} (ec : σ.1 0 3 = nI c) : fX9_isSinger kT2 0 p σ = some (if 0 ≤ p ∧ p ≤ nI c - 1 then 1 else 0, σ) := by
  unfold fX9_isSinger
  simp (disch := first | with_reducible assumption | (unfold kd; decide) | (unfold kl; decide) | decide | (apply t_lt; omega)) only [gR, gI, ob, ec, in9 0 (nI c - 1) (L := 0) (H := (nI c - 1).toInt64) rfl rfl, rzb]
theorem ev_isTask1 {σ : hM} {p : Int32} {t R : Nat} (e3 : σ.2.2 0 3 = some R) (kR : kd kT1 R (7 + 1)) (et : σ.1 R 4 = nI t) : fX8_isTask kT1 0 p σ = some (if 0 ≤ p ∧ p ≤ nI t - 1 then 1 else 0, σ) := by
  unfold fX8_isTask
  simp (disch := first | with_reducible assumption | (unfold kd; decide) | (unfold kl; decide) | decide | (apply t_lt; omega)) only [gR, gI, ob, e3, et, isW, rzb]
theorem ev_isTask2 {σ : hM} {p : Int32} {t : Nat} (et : σ.1 0 5 = nI t) : fX9_isTask kT2 0 p σ = some (if 0 ≤ p ∧ p ≤ nI t - 1 then 1 else 0, σ) := by
  unfold fX9_isTask
  simp (disch := first | with_reducible assumption | (unfold kd; decide) | (unfold kl; decide) | decide | (apply t_lt; omega)) only [gR, gI, ob, et, in9 0 (nI t - 1) (L := 0) (H := (nI t - 1).toInt64) rfl rfl, rzb]
theorem ev_isNote2 {σ : hM} {p : Int32} {n : Nat} (en : σ.1 0 0 = nI n) : fX9_isNote kT2 0 p σ = some (if 0 ≤ p ∧ p ≤ nI n - 1 then 1 else 0, σ) := by
  unfold fX9_isNote
  simp (disch := first | with_reducible assumption | (unfold kd; decide) | (unfold kl; decide) | decide | (apply t_lt; omega)) only [gR, gI, ob, en, in9 0 (nI n - 1) (L := 0) (H := (nI n - 1).toInt64) rfl rfl, rzb]
theorem ev_isNear1 {T : hT} {σ : hM} {p : Int32} : fX8_isNear T p σ = some (if -50 ≤ p ∧ p ≤ 50 then 1 else 0, σ) := by
  unfold fX8_isNear
  simp only [ob, isW, rzb]
theorem ev_isNear2 {T : hT} {σ : hM} {p : Int32} : fX9_isNear T p σ = some (if -50 ≤ p ∧ p ≤ 50 then 1 else 0, σ) := by
  unfold fX9_isNear
  simp only [ob, in9 (-50) 50 (L := -50) (H := 50) rfl rfl, rzb]
theorem ev_isType1 {T : hT} {σ : hM} {p : Int32} : fX8_isType T p σ = some (if 0 ≤ p ∧ p ≤ 15 then 1 else 0, σ) := by
  unfold fX8_isType
  simp only [ob, isW, rzb]
theorem ev_isHome1 {T : hT} {σ : hM} {p : Int32} : fX8_isHome T p σ = some (if -1200 ≤ p ∧ p ≤ 1200 then 1 else 0, σ) := by
  unfold fX8_isHome
  simp only [ob, isW, rzb]
theorem ev_isHome2 {T : hT} {σ : hM} {p : Int32} : fX9_isHome T p σ = some (if -1200 ≤ p ∧ p ≤ 1200 then 1 else 0, σ) := by
  unfold fX9_isHome
  simp only [ob, in9 (-1200) 1200 (L := -1200) (H := 1200) rfl rfl, rzb]
theorem gR1 (a ci : Nat) {σ : hM} {k : Nat} (h : kT1.1 a = ci + 1 := by rfl) : gtr kT1 σ a ci k = σ.2.2 a k := gR h
theorem gR2 {σ : hM} {k : Nat} : gtr kT2 σ 0 9 k = σ.2.2 0 k := gR rfl
theorem gI1 (a ci : Nat) {σ : hM} {k : Nat} (h : kT1.1 a = ci + 1 := by rfl) : gti kT1 σ a ci k = some (σ.1 a k) := gI h
theorem gI2 {σ : hM} {k : Nat} : gti kT2 σ 0 9 k = some (σ.1 0 k) := gI rfl
theorem pI1 (a ci : Nat) {σ : hM} {k : Nat} {v : Int32} (h : kT1.1 a = ci + 1 := by rfl) : pti kT1 σ a ci k v = some (wI σ a k v) := pI h
theorem pI2 {σ : hM} {k : Nat} {v : Int32} : pti kT2 σ 0 9 k v = some (wI σ 0 k v) := pI rfl
theorem vC1 {α : Type} (a ci : Nat) {o : Option α} (h : kT1.1 a = ci + 1 := by rfl) : vc kT1 a ci o = o := vC h
theorem vC2 {α : Type} {o : Option α} : vc kT2 0 9 o = o := vC rfl
theorem lA2 (a L : Nat) {σ : hM} {k : Nat} (hk : k < L) (h1 : kT2.1 a = 11 := by rfl) (h2 : kT2.2 a = L := by rfl) (hL : L < 2 ^ 31 := by decide) : ald 11 kT2 σ a (nI k) = some (σ.1 a k) := lA L h1 h2 hk hL
theorem lZ2 (a L : Nat) {σ : hM} {k : Nat} (hk : k < L) (h1 : kT2.1 a = 13 := by rfl) (h2 : kT2.2 a = L := by rfl) (hL : L < 2 ^ 31 := by decide) : ald 13 kT2 σ a (nI k) = some (σ.1 a k) := lA L h1 h2 hk hL
theorem sA2 (a L : Nat) {σ : hM} {k : Nat} {v : Int32} (hk : k < L) (h1 : kT2.1 a = 11 := by rfl) (h2 : kT2.2 a = L := by rfl) (hL : L < 2 ^ 31 := by decide) : asti kT2 σ a (nI k) v = some (wI σ a k v) := sA L h1 h2 hk hL
theorem lA1 (a L : Nat) {σ : hM} {k : Nat} (hk : k < L) (h1 : kT1.1 a = 11 := by rfl) (h2 : kT1.2 a = L := by rfl) (hL : L < 2 ^ 31 := by decide) : ald 11 kT1 σ a (nI k) = some (σ.1 a k) := lA L h1 h2 hk hL
theorem sA1 (a L : Nat) {σ : hM} {k : Nat} {v : Int32} (hk : k < L) (h1 : kT1.1 a = 11 := by rfl) (h2 : kT1.2 a = L := by rfl) (hL : L < 2 ^ 31 := by decide) : asti kT1 σ a (nI k) v = some (wI σ a k v) := sA L h1 h2 hk hL
