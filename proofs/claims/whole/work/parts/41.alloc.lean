/-! CELLS ARE MADE: the world's kinds are given ahead, its first n cells are there -/
def tr (T : hT) (n : Nat) : hT := (fun a => if a < n then T.1 a else 0, T.2)
def clr (σ : hM) (a : Nat) : hM := (fun b j => if b = a then 0 else σ.1 b j, fun b j => if b = a then 0 else σ.2.1 b j, fun b j => if b = a then none else σ.2.2 b j)
def h_AL (U : State) : Prop := (Cond.arrayOver (.array .long)).before #[] U = true
theorem h_AL.moved {u U : State} (hvm : u.vm.Alike U.vm) (h : h_AL u) : h_AL U := by
  obtain ⟨comp, c, k, h1, h3, h4, h5⟩ := m7_over h
  have h2 : (u.vm.classes.findIdx? fun (x : Class) => match x.kind with | .array component _ => component == comp | _ => false) = some c := by
    have hh := h
    simp only [h_AL, Cond.before, Cond.holds, Cond.value, beq_iff_eq] at hh
    have e1 : (FieldType.array FieldType.long).toString = "[J" := by decide +kernel
    rw [e1, h1] at hh
    simp only [Option.bind_some, Option.bind_eq_some_iff, Option.map_eq_some_iff] at hh
    obtain ⟨c', hi, k', hk', hb⟩ := hh
    cases hkind : k'.kind with
    | array component ty =>
      rw [hkind] at hb
      simp at hb
      have : c' = c := Option.some.inj (hb.2.symm.trans h5)
      rw [← this]
      exact hi
    | _ => rw [hkind] at hb; simp at hb
  obtain ⟨k', hk', he⟩ := hvm.2.2 _ _ h3
  have hi : (U.vm.classes.findIdx? fun (x : Class) => match x.kind with | .array component _ => component == comp | _ => false) = some c := by
    have e0 := va_idx_bare U.vm comp
    rw [show U.vm.bare = u.vm.bare from (by first | exact hvm.bare_eq | exact hvm.bare_eq.symm), va_idx_bare] at e0
    exact e0.symm.trans h2
  have hkind : k'.kind = .array comp (.array .long) := by rw [he]; exact h4
  have f1 : U.vm.findClass (FieldType.array FieldType.long).toString = some comp := by rw [hvm.findClass]; exact h1
  have f2 : U.vm.findClass ("[" ++ (FieldType.array FieldType.long).toString) = some c := by rw [hvm.findClass]; exact h5
  unfold h_AL Cond.before Cond.holds
  simp only [Cond.value]
  rw [f1, Option.bind_some]
  refine (congrArg (fun o : Option Nat => (o.bind (fun c => (U.vm.classes[c]?).map fun (k : Class) => match k.kind with | .array _ ty => decide (ty = FieldType.array FieldType.long) && decide (U.vm.findClass ("[" ++ (FieldType.array FieldType.long).toString) = some c) | _ => false) == some true)) hi).trans ?_
  simp [hk', hkind, f2]
def h_Y (U : State) : Prop := va_AO RX3 U ∧ va_AO RX5 U ∧ h_AL U
theorem h_Y.moved {u U : State} (hvm : u.vm.Alike U.vm) (h : h_Y u) : h_Y U := ⟨h.1.moved hvm, h.2.1.moved hvm, h.2.2.moved hvm⟩
def h_Wa (E : hE) (B : Nat) (T : hT) (H0 : Heap) (σ : hM) (n : Nat) (H : Heap) (locs : List Loc) : Prop := h_P E B (tr T n) σ H ∧ va_S (fun q => B ≤ q) H0 H locs ∧ H.size = B + n ∧ ∀ a, a < n → T.1 a ≠ 0
theorem h_ba {E : hE} {B : Nat} {T : hT} {H0 : Heap} {σ : hM} {n : Nat} {H : Heap} {locs : List Loc} (h : h_Wa E B T H0 σ n H locs) : h_W E B (tr T n) H σ H locs := by
  obtain ⟨h1, h2, h3, h4⟩ := h
  refine ⟨h1, ⟨Nat.le_refl _, fun _ _ _ => rfl, fun q hq => ?_⟩, rfl⟩
  have hB : B ≤ q.base := h2.2.2 q hq
  rcases Nat.lt_or_ge q.base (B + n) with h | h
  · exact Or.inl ⟨q.base - B, by show (if _ then _ else _) ≠ 0; rw [if_pos (by omega)]; exact h4 _ (by omega), by omega⟩
  · exact Or.inr (by rw [h3]; exact h)
theorem h_bb {E : hE} {B : Nat} {T : hT} {H0 : Heap} {σ σ1 : hM} {n : Nat} {H H1 : Heap} {locs locs1 : List Loc} (h : h_Wa E B T H0 σ n H locs) (hw : h_W E B (tr T n) H σ1 H1 locs1) : h_Wa E B T H0 σ1 n H1 locs1 := by
  obtain ⟨h1, h2, h3, h4⟩ := h
  obtain ⟨w1, w2, w3⟩ := hw
  have key : ∀ q, h_A B (tr T n) H.size q → B ≤ q := by
    intro q hq
    rcases hq with ⟨a, -, rfl⟩ | hq
    · exact Nat.le_add_right _ _
    · rw [h3] at hq; omega
  refine ⟨w1, ⟨by rw [w3]; exact h2.1, fun q g1 g2 => ?_, fun q hq => key _ (w2.2.2 q hq)⟩, by rw [w3]; exact h3, h4⟩
  rw [w2.2.1 q (Nat.lt_of_lt_of_le g1 h2.1) (fun z => g2 (key q z))]
  exact h2.2.1 q g1 g2
/-- one more cell -/
theorem h_grow {E : hE} {B : Nat} {T : hT} {H0 : Heap} {σ : hM} {n : Nat} {H H1 : Heap} {locs : List Loc} (h : h_Wa E B T H0 σ n H locs) (hT : T.1 n ≠ 0) (z : H1.size = H.size + 1) (o : ∀ q, q < H.size → H1[q]? = H[q]?) (hat : h_at E B T (clr σ n) H1 n) : h_Wa E B T H0 (clr σ n) (n + 1) H1 locs := by
  obtain ⟨⟨h0, h1⟩, h2, h3, h4⟩ := h
  have hA : B ≤ H0.size ∨ True := Or.inr trivial
  refine ⟨⟨fun a => ?_, fun a ha => ?_⟩, ⟨by rw [z]; have := h2.1; omega, fun q g1 g2 => (o q (Nat.lt_of_lt_of_le g1 h2.1)).trans (h2.2.1 q g1 g2), h2.2.2⟩, by rw [z, h3]; omega, fun a ha => ?_⟩
  · rcases Nat.lt_trichotomy a n with ha | ha | ha
    · have hs : h_at E B (tr T n) (clr σ n) H1 a := ((h0 a).same ⟨by funext j; simp [clr, Nat.ne_of_lt ha], by funext j; simp [clr, Nat.ne_of_lt ha], by funext j; simp [clr, Nat.ne_of_lt ha]⟩).kept (o _ (by rw [h3]; omega))
      have e : (tr T (n + 1)).1 a = (tr T n).1 a := by simp [tr, ha, Nat.lt_succ_of_lt ha]
      exact ⟨fun ci g => by rw [e] at g; exact hs.1 ci g, fun t g => by rw [e] at g; exact hs.2 t g⟩
    · subst ha
      have e : (tr T (a + 1)).1 a = T.1 a := by simp [tr]
      exact ⟨fun ci g => by rw [e] at g; exact hat.1 ci g, fun t g => by rw [e] at g; exact hat.2 t g⟩
    · have e : (tr T (n + 1)).1 a = 0 := by simp [tr, show ¬ a < n + 1 by omega]
      exact ⟨fun ci g => by rw [e] at g; omega, fun t g => by rw [e] at g; omega⟩
  · have hlt : a < n + 1 := by
      rcases Nat.lt_or_ge a (n + 1) with q | q
      · exact q
      · exact absurd (show (if a < n + 1 then T.1 a else 0) = 0 by rw [if_neg (by omega)]) ha
    rw [z, h3]; omega
  · rcases Nat.lt_succ_iff_lt_or_eq.mp ha with q | q
    · exact h4 a q
    · rw [q]; exact hT
def nwo (T : hT) (σ : hM) (n ci : Nat) : Option (hM × Nat) := if T.1 n = ci + 1 then some (clr σ n, n + 1) else none
def nwa (T : hT) (σ : hM) (n t len : Nat) : Option (hM × Nat) := if T.1 n = t ∧ T.2 n = len then some (clr σ n, n + 1) else none
def mnr (σ : hM) (n : Nat) : hM := (fun b j => if n ≤ b ∧ b < n + 8 then 0 else σ.1 b j, fun b j => if n ≤ b ∧ b < n + 8 then 0 else σ.2.1 b j, fun b j => if b = n then (if j < 7 then some (n + 1 + j) else none) else if n ≤ b ∧ b < n + 8 then none else σ.2.2 b j)
def mna (T : hT) (σ : hM) (n : Nat) : Option (hM × Nat) := if (T.1 n = 17 ∧ T.2 n = 7) ∧ (∀ j, j < 7 → T.1 (n + 1 + j) = 14 ∧ T.2 (n + 1 + j) = 16) then some (mnr σ n, n + 8) else none
def astq (T : hT) (σ : hM) (a : Nat) (i : Int32) (v t ci : Nat) : Option hM := if (T.1 a = t ∧ T.1 v = ci + 1) ∧ ¬ (i < 0 ∨ T.2 a ≤ i.toNatClampNeg) then some (wR σ a i.toNatClampNeg (some v)) else none
theorem h_dflt : ∀ ci, ci < 10 → ∀ k, k < h_N ci → ∀ B : Nat, defaultValue (h_fty ci k) = h_val B (h_fty ci k) 0 0 none := by
  have key : ∀ ci, ci < 10 → ∀ k, k < h_N ci → (h_fty ci k = .int ∨ h_fty ci k = .long ∨ h_fty ci k = .boolean ∨ h_tag (h_fty ci k) = 2) := by decide +kernel
  intro ci hci k hk B
  rcases key ci hci k hk with h | h | h | h
  · rw [h]; rfl
  · rw [h]; rfl
  · rw [h]; rfl
  · rw [h_val2 h]
    cases hq : h_fty ci k <;> rw [hq] at h <;> first | rfl | cases h
section HM
variable {p : Program} {l : Launch} {e : Env} {R : Room} {s : State} {m : MethodId} {args : Array Value} {below : List Frame} {meth : Method} {c : Code} {H : Heap} {locs : List Loc} {cells slots : Nat} {Q : State → Prop}
variable {cc : ByteArray} {pc nL : Nat} {ls : Array Slot} {rest st0 As : List Value} {E : hE} {B : Nat} {T : hT} {σ : hM} {α : Type} {z : α} {index ci n : Nat} {own : String} {A : Nat → Prop} {H0 : Heap}
theorem h_new {κ : hM × Nat → Option α} (hf : (nwo T σ n ci).bind κ = some z) (hx : p.tables.exec = Jvm.exec) (hb : c.code = cc) (hts : ∀ w ∈ h_tbl, w.before args s = true) (hown : s.vm.findClass own = some m.cls) (hX : h_X E A s s.heap) (hw : h_Wa E B T H0 σ n H locs) (hci : ci < 10) (hcl : Cond.classLink own index (h_C ci) ∈ h_tbl) (hin : Cond.instantiable (h_C ci) (h_N ci) ∈ h_tbl) (hini : Cond.initialized (h_C ci) ∈ h_tbl) (hcells : cells + 1 ≤ R.cells) (hslots : slots + h_N ci ≤ R.slots) (hdg : decode cc pc = .ok (.new index, 3))
    (kk : ∀ (w : hM × Nat) (H1 : Heap), κ w = some z → h_Wa E B T H0 w.1 w.2 H1 locs → W p l e R s m args below meth c H1 locs (cells + 1) (slots + h_N ci) Q (F0 m (pc + 3) ls (.ref (B + n) :: rest))) : W p l e R s m args below meth c H locs cells slots Q (F0 m pc ls rest) := by
  obtain ⟨hT, hf⟩ := ob_some hf
  have hKn := hX.1.1 ci _ (h_cl_ok ci hci)
  refine W.newcK hx hb hown (hts _ hcl) (hts _ hin) (hts _ hini) rfl hdg hcells hslots hKn.2.1 rfl fun H1 kC hkC e1 z1 o1 => ?_
  rw [hw.2.2.1]
  refine kk _ H1 hf (h_grow hw (by omega) z1 o1 ⟨fun ci' g1 g2 => ?_, fun t g1 g2 g3 => (by omega)⟩)
  have ec : ci' = ci := by omega
  subst ec
  rw [hw.2.2.1] at e1
  refine (u_born (h_fty ci') hts (h_in ci' hci) hKn hkC e1 (h_ty_ok ci' hci)).to (fun k hk => ?_)
  have hg : ∀ ty : FieldType, h_tag ty = 0 ∨ h_tag ty = 1 ∨ h_tag ty = 2 := fun ty => by cases ty <;> simp [h_tag]
  simp only [h_V, clr, if_true]
  have hd := h_dflt ci' hci k hk
  exact hd B
end HM
