/-! MEMORY BY ADDRESS AND PLACE. A world is a block of cells from the address B on: kinds and lengths (hT), what they hold (hM: ints, longs, references, by address and place; references count from B). -/
abbrev hM : Type := (Nat → Nat → Int32) × (Nat → Nat → Int64) × (Nat → Nat → Option Nat)
abbrev hT : Type := (Nat → Nat) × (Nat → Nat)
/-- class numbers and slots, array classes, String constants (objects, byte rows), the row THREES -/
abbrev hE : Type := va_G × (Nat → ClassId) × (Nat → Nat) × (Nat → Nat) × Nat
def h_w2 {α : Type} (f : Nat → Nat → α) (a k : Nat) (v : α) : Nat → Nat → α := fun b j => if b = a ∧ j = k then v else f b j
def wI (σ : hM) (a k : Nat) (v : Int32) : hM := (h_w2 σ.1 a k v, σ.2.1, σ.2.2)
def wL (σ : hM) (a k : Nat) (v : Int64) : hM := (σ.1, h_w2 σ.2.1 a k v, σ.2.2)
def wR (σ : hM) (a k : Nat) (v : Option Nat) : hM := (σ.1, σ.2.1, h_w2 σ.2.2 a k v)
def h_lf (B : Nat) (o : Option Nat) : Option Nat := o.map (fun x => B + x)
def h_C (ci : Nat) : String := match ci with
  | 0 => RX0 | 1 => RX1 | 2 => RX2 | 3 => RX3 | 4 => RX4 | 5 => RX5 | 6 => RX6 | 7 => RX7 | 8 => RX8 | _ => RX9
def h_T (ci : Nat) : u_T := match ci with
  | 0 => TX0 | 1 => TX1 | 2 => TX2 | 3 => TX3 | 4 => TX4 | 5 => TX5 | 6 => TX6 | 7 => TX7 | 8 => TX8 | _ => TX9
def h_N (ci : Nat) : Nat := match ci with
  | 0 => 5 | 1 => 3 | 2 => 4 | 3 => 8 | 4 => 3 | 5 => 8 | 6 => 6 | 7 => 5 | 8 => 14 | _ => 39
def h_fty (ci : Nat) : Nat → FieldType := match ci with
  | 0 => tyX0 | 1 => tyX1 | 2 => tyX2 | 3 => tyX3 | 4 => tyX4 | 5 => tyX5 | 6 => tyX6 | 7 => tyX7 | 8 => tyX8 | _ => tyX9
theorem h_dig {P : Nat → Prop} (h : P 0 ∧ P 1 ∧ P 2 ∧ P 3 ∧ P 4 ∧ P 5 ∧ P 6 ∧ P 7 ∧ P 8 ∧ P 9) : ∀ ci, ci < 10 → P ci := by
  intro ci hci
  obtain ⟨a0, a1, a2, a3, a4, a5, a6, a7, a8, a9⟩ := h
  match ci, hci with
  | 0, _ => exact a0
  | 1, _ => exact a1
  | 2, _ => exact a2
  | 3, _ => exact a3
  | 4, _ => exact a4
  | 5, _ => exact a5
  | 6, _ => exact a6
  | 7, _ => exact a7
  | 8, _ => exact a8
  | 9, _ => exact a9
theorem h_cl_ok : ∀ ci, ci < 10 → vwCl[ci]? = some (h_C ci, h_T ci, h_N ci) := h_dig ⟨rfl, rfl, rfl, rfl, rfl, rfl, rfl, rfl, rfl, rfl⟩
theorem h_ty_ok : ∀ ci, ci < 10 → ∀ k, k < h_N ci → parseFieldDescriptor (h_T ci k).2.2.1 = some (h_fty ci k) := h_dig ⟨tyX0_ok, tyX1_ok, tyX2_ok, tyX3_ok, tyX4_ok, tyX5_ok, tyX6_ok, tyX7_ok, tyX8_ok, tyX9_ok⟩
theorem h_nm_ok : ∀ ci, ci < 10 → ∀ a, a < h_N ci → ∀ b, b < h_N ci → a ≠ b → (h_T ci a).2.1 ≠ (h_T ci b).2.1 := h_dig ⟨nmX0, nmX1, nmX2, nmX3, nmX4, nmX5, nmX6, nmX7, nmX8, nmX9⟩
/-- the words that every method is given -/
def h_tbl : List Cond := lw_tbl.filter goodWord
theorem h_tb {w : Cond} (i : Nat) (h : (lw_tbl[i]? = some w ∧ goodWord w = true)) : w ∈ h_tbl := List.mem_filter.mpr ⟨List.mem_of_getElem? h.1, h.2⟩
theorem h_in : ∀ ci, ci < 10 → ∀ w ∈ u_ws (h_C ci) (h_T ci) (h_N ci), w ∈ h_tbl := h_dig ⟨by decide +kernel, by decide +kernel, by decide +kernel, by decide +kernel, by decide +kernel, by decide +kernel, by decide +kernel, by decide +kernel, by decide +kernel, by decide +kernel⟩
def h_tag (ty : FieldType) : Nat := match ty with
  | .long => 1
  | .object _ => 2
  | .array _ => 2
  | _ => 0
def h_val (B : Nat) (ty : FieldType) (i : Int32) (l : Int64) (r : Option Nat) : Value := match ty with
  | .long => .long l
  | .object _ => va_rf (h_lf B r)
  | .array _ => va_rf (h_lf B r)
  | _ => .int i
theorem h_val0 {B : Nat} {ty : FieldType} {i : Int32} {l : Int64} {r : Option Nat} (h : h_tag ty = 0) : h_val B ty i l r = .int i := by cases ty <;> first | rfl | cases h
theorem h_val1 {B : Nat} {ty : FieldType} {i : Int32} {l : Int64} {r : Option Nat} (h : h_tag ty = 1) : h_val B ty i l r = .long l := by cases ty <;> first | rfl | cases h
theorem h_val2 {B : Nat} {ty : FieldType} {i : Int32} {l : Int64} {r : Option Nat} (h : h_tag ty = 2) : h_val B ty i l r = va_rf (h_lf B r) := by cases ty <;> first | rfl | cases h
def h_V (B ci : Nat) (σ : hM) (a k : Nat) : Value := h_val B (h_fty ci k) (σ.1 a k) (σ.2.1 a k) (σ.2.2 a k)
def h_arr (B t n : Nat) (σ : hM) (a : Nat) : vp_A := (n, if t ≤ 13 then .inl (σ.1 a) else if t = 14 then .inr (.inl (σ.2.1 a)) else .inr (.inr (.inr (.inr (fun j => h_lf B (σ.2.2 a j))))))
/-- a cell: kind ci + 1 is an object of class ci, kinds 11 to 17 are arrays -/
def h_at (E : hE) (B : Nat) (T : hT) (σ : hM) (H : Heap) (a : Nat) : Prop :=
  (∀ ci, T.1 a = ci + 1 → ci < 10 → t_OB (B + a) (E.1.1 ci) (h_N ci) (E.1.2 ci) H (h_V B ci σ a)) ∧
  (∀ t, T.1 a = t → 11 ≤ t → t ≤ 17 → H[B + a]? = some (vp_cell (E.2.1 t) (h_arr B t (T.2 a) σ a)))
def h_P (E : hE) (B : Nat) (T : hT) (σ : hM) (H : Heap) : Prop := (∀ a, h_at E B T σ H a) ∧ ∀ a, T.1 a ≠ 0 → B + a < H.size
/-- which cells a method may change -/
def h_A (B : Nat) (T : hT) (sz : Nat) : Nat → Prop := fun q => (∃ a, T.1 a ≠ 0 ∧ q = B + a) ∨ sz ≤ q
def h_tys (E : hE) : List (ClassId × FieldType) := [(E.2.1 11, .int), (E.2.1 12, .byte), (E.2.1 13, .boolean), (E.2.1 14, .long), (E.2.1 15, .object RX3), (E.2.1 16, .object RX5), (E.2.1 17, .array .long)]
theorem h_at.kept {E : hE} {B : Nat} {T : hT} {σ : hM} {H H1 : Heap} {a : Nat} (h : h_at E B T σ H a) (hq : H1[B + a]? = H[B + a]?) : h_at E B T σ H1 a :=
  ⟨fun ci h1 h2 => (h.1 ci h1 h2).kept hq, fun t h1 h2 h3 => hq.trans (h.2 t h1 h2 h3)⟩
theorem h_at.same {E : hE} {B : Nat} {T : hT} {σ σ1 : hM} {H : Heap} {a : Nat} (h : h_at E B T σ H a) (hq : σ1.1 a = σ.1 a ∧ σ1.2.1 a = σ.2.1 a ∧ σ1.2.2 a = σ.2.2 a) : h_at E B T σ1 H a := by
  obtain ⟨q1, q2, q3⟩ := hq
  have e1 : ∀ ci, h_V B ci σ1 a = h_V B ci σ a := fun ci => by funext k; unfold h_V; rw [q1, q2, q3]
  have e2 : ∀ t n, h_arr B t n σ1 a = h_arr B t n σ a := fun t n => by unfold h_arr; rw [q1, q2, q3]
  exact ⟨fun ci h1 h2 => by rw [e1]; exact h.1 ci h1 h2, fun t h1 h2 h3 => by rw [e2]; exact h.2 t h1 h2 h3⟩
theorem h_P.put {E : hE} {B : Nat} {T : hT} {σ σ1 : hM} {H H1 : Heap} {a : Nat} (hP : h_P E B T σ H) (hs : ∀ b, b ≠ a → σ1.1 b = σ.1 b ∧ σ1.2.1 b = σ.2.1 b ∧ σ1.2.2 b = σ.2.2 b) (hat : h_at E B T σ1 H1 a) (oq : ∀ q, q ≠ B + a → H1[q]? = H[q]?) (z : H1.size = H.size) : h_P E B T σ1 H1 := by
  refine ⟨fun b => ?_, fun b hb => by rw [z]; exact hP.2 b hb⟩
  by_cases e : b = a
  · subst e; exact hat
  · exact ((hP.1 b).same (hs b e)).kept (oq (B + b) (by omega))
theorem h_P.kept {E : hE} {B : Nat} {T : hT} {σ : hM} {H H1 : Heap} (hP : h_P E B T σ H) (hk : ∀ a, T.1 a ≠ 0 → H1[B + a]? = H[B + a]?) (z : H.size ≤ H1.size) : h_P E B T σ H1 := by
  refine ⟨fun a => ?_, fun a ha => Nat.lt_of_lt_of_le (hP.2 a ha) z⟩
  by_cases h : T.1 a = 0
  · exact ⟨fun ci h1 _ => (by omega), fun t h1 h2 _ => (by omega)⟩
  · exact (hP.1 a).kept (hk a h)
theorem h_w2I {σ : hM} {a k : Nat} {v : Int32} : ∀ b, b ≠ a → (wI σ a k v).1 b = σ.1 b ∧ (wI σ a k v).2.1 b = σ.2.1 b ∧ (wI σ a k v).2.2 b = σ.2.2 b := fun b hb => ⟨by funext j; simp [wI, h_w2, hb], rfl, rfl⟩
theorem h_w2L {σ : hM} {a k : Nat} {v : Int64} : ∀ b, b ≠ a → (wL σ a k v).1 b = σ.1 b ∧ (wL σ a k v).2.1 b = σ.2.1 b ∧ (wL σ a k v).2.2 b = σ.2.2 b := fun b hb => ⟨rfl, by funext j; simp [wL, h_w2, hb], rfl⟩
theorem h_w2R {σ : hM} {a k : Nat} {v : Option Nat} : ∀ b, b ≠ a → (wR σ a k v).1 b = σ.1 b ∧ (wR σ a k v).2.1 b = σ.2.1 b ∧ (wR σ a k v).2.2 b = σ.2.2 b := fun b hb => ⟨rfl, rfl, by funext j; simp [wR, h_w2, hb]⟩
/-- a value in its place; the other places of the cell stay -/
theorem h_Vw {B ci : Nat} {σ σ1 : hM} {a k : Nat} {v : Value} (h0 : h_V B ci σ1 a k = v) (h1 : ∀ j, j ≠ k → h_V B ci σ1 a j = h_V B ci σ a j) : ∀ j, updV (h_V B ci σ a) k v j = h_V B ci σ1 a j := by
  intro j
  by_cases e : j = k
  · subst e; simp [updV, h0]
  · simp [updV, e, h1 j e]
