/-! ROWS: a value by a test, Math, arraycopy, the row THREES -/
def acp (T : hT) (σ : hM) (a0 : Nat) (sp : Int32) (a1 : Nat) (dp n : Int32) : Option hM := if (T.1 a0 = 11 ∧ T.1 a1 = 11) ∧ (¬ sp < 0 ∧ ¬ dp < 0 ∧ ¬ n < 0) ∧ (sp.toNatClampNeg + n.toNatClampNeg ≤ T.2 a0 ∧ dp.toNatClampNeg + n.toNatClampNeg ≤ T.2 a1) then some (fun b j => if b = a1 then va_cpy (σ.1 a0) (σ.1 a1) sp.toNatClampNeg dp.toNatClampNeg n.toNatClampNeg j else σ.1 b j, σ.2.1, σ.2.2) else none
def thr (i : Int32) : Option Int32 := if ¬ (i < 0 ∨ 6 ≤ i.toNatClampNeg) then some (h_three.getD i.toNatClampNeg 0) else none
theorem h_out1 {x : Int32} (h : ¬ x = 0 ∧ ¬ x = 1) : x.toInt < 0 ∨ 1 < x.toInt := by
  have h0 : ¬ x.toInt = 0 := fun q => h.1 (Int32.toInt_inj.mp q)
  have h1 : ¬ x.toInt = 1 := fun q => h.2 (Int32.toInt_inj.mp q)
  omega
theorem h_out3 {x : Int32} (h : ¬ x = 0 ∧ ¬ x = 1 ∧ ¬ x = 2 ∧ ¬ x = 3) : x.toInt < 0 ∨ 3 < x.toInt := by
  have h0 : ¬ x.toInt = 0 := fun q => h.1 (Int32.toInt_inj.mp q)
  have h1 : ¬ x.toInt = 1 := fun q => h.2.1 (Int32.toInt_inj.mp q)
  have h2 : ¬ x.toInt = 2 := fun q => h.2.2.1 (Int32.toInt_inj.mp q)
  have h3 : ¬ x.toInt = 3 := fun q => h.2.2.2 (Int32.toInt_inj.mp q)
  omega
theorem h_out7 {x : Int32} (h : ¬ x = 0 ∧ ¬ x = 1 ∧ ¬ x = 2 ∧ ¬ x = 3 ∧ ¬ x = 4 ∧ ¬ x = 5 ∧ ¬ x = 6 ∧ ¬ x = 7) : x.toInt < 0 ∨ 7 < x.toInt := by
  obtain ⟨a0, a1, a2, a3, a4, a5, a6, a7⟩ := h
  have h0 : ¬ x.toInt = 0 := fun q => a0 (Int32.toInt_inj.mp q)
  have h1 : ¬ x.toInt = 1 := fun q => a1 (Int32.toInt_inj.mp q)
  have h2 : ¬ x.toInt = 2 := fun q => a2 (Int32.toInt_inj.mp q)
  have h3 : ¬ x.toInt = 3 := fun q => a3 (Int32.toInt_inj.mp q)
  have h4 : ¬ x.toInt = 4 := fun q => a4 (Int32.toInt_inj.mp q)
  have h5 : ¬ x.toInt = 5 := fun q => a5 (Int32.toInt_inj.mp q)
  have h6 : ¬ x.toInt = 6 := fun q => a6 (Int32.toInt_inj.mp q)
  have h7 : ¬ x.toInt = 7 := fun q => a7 (Int32.toInt_inj.mp q)
  omega
theorem h_out8 {x : Int32} (h : ¬ x = 0 ∧ ¬ x = 1 ∧ ¬ x = 2 ∧ ¬ x = 3 ∧ ¬ x = 4 ∧ ¬ x = 5 ∧ ¬ x = 6 ∧ ¬ x = 7 ∧ ¬ x = 8) : x.toInt < 0 ∨ 8 < x.toInt := by
  obtain ⟨a0, a1, a2, a3, a4, a5, a6, a7, a8⟩ := h
  have h8 : ¬ x.toInt = 8 := fun q => a8 (Int32.toInt_inj.mp q)
  have := h_out7 ⟨a0, a1, a2, a3, a4, a5, a6, a7⟩
  omega
theorem h_mx1 : Cond.static Lib.Math.max.name ∈ h_tbl := h_tb 661 (by decide +kernel)
theorem h_mx2 : Cond.code Lib.Math.max.name Lib.Math.max.code 2 (some .int) ∈ h_tbl := h_tb 662 (by decide +kernel)
theorem h_mn1 : Cond.static Lib.Math.min.name ∈ h_tbl := h_tb 631 (by decide +kernel)
theorem h_mn2 : Cond.code Lib.Math.min.name Lib.Math.min.code 2 (some .int) ∈ h_tbl := h_tb 632 (by decide +kernel)
theorem h_ma1 : Cond.static Lib.Math.abs.name ∈ h_tbl := h_tb 638 (by decide +kernel)
theorem h_ma2 : Cond.code Lib.Math.abs.name Lib.Math.abs.code 1 (some .int) ∈ h_tbl := h_tb 639 (by decide +kernel)
theorem h_ml1 : Cond.static Lib.MathLoose.max_long.x ∈ h_tbl := h_tb 792 (by decide +kernel)
theorem h_ml2 : Cond.code Lib.MathLoose.max_long.x Lib.MathLoose.max_long.code 4 (some .long) ∈ h_tbl := h_tb 793 (by decide +kernel)
theorem h_mi0 : Cond.initialized "java/lang/Math" ∈ h_tbl := h_tb 86 (by decide +kernel)
theorem h_ac1 : Cond.static arraycopyName ∈ h_tbl := h_tb 912 (by decide +kernel)
theorem h_ac2 : Cond.native arraycopyName ∈ h_tbl := h_tb 913 (by decide +kernel)
theorem h_ac3 : Cond.initialized "java/lang/System" ∈ h_tbl := h_tb 88 (by decide +kernel)
section HX
variable {p : Program} {l : Launch} {e : Env} {R : Room} {s : State} {m : MethodId} {args : Array Value} {below : List Frame} {meth : Method} {c : Code} {H : Heap} {locs : List Loc} {cells slots : Nat} {Q : State → Prop}
variable {cc : ByteArray} {pc nL : Nat} {ls : Array Slot} {rest st0 As : List Value} {E : hE} {B : Nat} {T : hT} {σ : hM} {α : Type} {z : α} {index : Nat} {own : String} {A : Nat → Prop}
theorem h_ite {C : Prop} {dC : Decidable C} {v1 v2 : Int32} {κ : Int32 → Option α} {jj : Nat} {g : JFrame} (hf : lt (@ite Int32 C dC v1 v2) κ = some z) (br : (C → W p l e R s m args below meth c H locs cells slots Q (F0 m jj ls (.int v1 :: rest))) → (¬ C → W p l e R s m args below meth c H locs cells slots Q (F0 m jj ls (.int v2 :: rest))) → W p l e R s m args below meth c H locs cells slots Q g)
    (kk : ∀ x : Int32, κ x = some z → W p l e R s m args below meth c H locs cells slots Q (F0 m jj ls (.int x :: rest))) : W p l e R s m args below meth c H locs cells slots Q g := by
  have h := kk _ hf
  exact br (fun h1 => by rw [if_pos h1] at h; exact h) (fun h1 => by rw [if_neg h1] at h; exact h)
theorem h_itel {C : Prop} {dC : Decidable C} {v1 v2 : Int64} {κ : Int64 → Option α} {jj : Nat} {g : JFrame} (hf : lt (@ite Int64 C dC v1 v2) κ = some z) (br : (C → W p l e R s m args below meth c H locs cells slots Q (F0 m jj ls (.long v1 :: rest))) → (¬ C → W p l e R s m args below meth c H locs cells slots Q (F0 m jj ls (.long v2 :: rest))) → W p l e R s m args below meth c H locs cells slots Q g)
    (kk : ∀ x : Int64, κ x = some z → W p l e R s m args below meth c H locs cells slots Q (F0 m jj ls (.long x :: rest))) : W p l e R s m args below meth c H locs cells slots Q g := by
  have h := kk _ hf
  exact br (fun h1 => by rw [if_pos h1] at h; exact h) (fun h1 => by rw [if_neg h1] at h; exact h)
theorem h_mmax {x y : Int32} (hx : p.tables.exec = Jvm.exec) (hb : c.code = cc) (hml : c.maxLocals = nL) (hsz : ls.size = nL) (hts : ∀ w ∈ h_tbl, w.before args s = true) (hown : s.vm.findClass own = some m.cls) (hlk : Cond.methodLink own index Lib.Math.max.name ∈ h_tbl) (hR : 1 ≤ R.frames ∧ (rest.map fun v => v.category).sum + 13 ≤ R.locals) (hcs : cells ≤ R.cells ∧ slots ≤ R.slots) (hdg : decode cc pc = .ok (.invokestatic index, 3))
    (kk : W p l e R s m args below meth c H locs cells slots Q (F0 m (pc + 3) ls (.int (if x < y then y else x) :: rest))) : W p l e R s m args below meth c H locs cells slots Q (F0 m pc ls (.int y :: .int x :: rest)) := va_mmax hx hb (hml.trans hsz.symm) hown (hts _ hlk) (hts _ h_mx1) (hts _ h_mi0) (hts _ h_mx2) hR.1 hR.2 hcs.1 hcs.2 hdg kk
theorem h_mmin {x y : Int32} (hx : p.tables.exec = Jvm.exec) (hb : c.code = cc) (hml : c.maxLocals = nL) (hsz : ls.size = nL) (hts : ∀ w ∈ h_tbl, w.before args s = true) (hown : s.vm.findClass own = some m.cls) (hlk : Cond.methodLink own index Lib.Math.min.name ∈ h_tbl) (hR : 1 ≤ R.frames ∧ (rest.map fun v => v.category).sum + 13 ≤ R.locals) (hcs : cells ≤ R.cells ∧ slots ≤ R.slots) (hdg : decode cc pc = .ok (.invokestatic index, 3))
    (kk : W p l e R s m args below meth c H locs cells slots Q (F0 m (pc + 3) ls (.int (if y < x then y else x) :: rest))) : W p l e R s m args below meth c H locs cells slots Q (F0 m pc ls (.int y :: .int x :: rest)) := va_mmin hx hb (hml.trans hsz.symm) hown (hts _ hlk) (hts _ h_mn1) (hts _ h_mi0) (hts _ h_mn2) hR.1 hR.2 hcs.1 hcs.2 hdg kk
theorem h_mabs {x : Int32} (hx : p.tables.exec = Jvm.exec) (hb : c.code = cc) (hml : c.maxLocals = nL) (hsz : ls.size = nL) (hts : ∀ w ∈ h_tbl, w.before args s = true) (hown : s.vm.findClass own = some m.cls) (hlk : Cond.methodLink own index Lib.Math.abs.name ∈ h_tbl) (hR : 1 ≤ R.frames ∧ (rest.map fun v => v.category).sum + 13 ≤ R.locals) (hcs : cells ≤ R.cells ∧ slots ≤ R.slots) (hdg : decode cc pc = .ok (.invokestatic index, 3))
    (kk : W p l e R s m args below meth c H locs cells slots Q (F0 m (pc + 3) ls (.int (if 0 ≤ x then x else 0 - x) :: rest))) : W p l e R s m args below meth c H locs cells slots Q (F0 m pc ls (.int x :: rest)) := va_mabs hx hb (hml.trans hsz.symm) hown (hts _ hlk) (hts _ h_ma1) (hts _ h_mi0) (hts _ h_ma2) hR.1 hR.2 hcs.1 hcs.2 hdg kk
theorem h_mmaxl {x y : Int64} (hx : p.tables.exec = Jvm.exec) (hb : c.code = cc) (hml : c.maxLocals = nL) (hsz : ls.size = nL) (hts : ∀ w ∈ h_tbl, w.before args s = true) (hown : s.vm.findClass own = some m.cls) (hlk : Cond.methodLink own index Lib.MathLoose.max_long.x ∈ h_tbl) (hR : 1 ≤ R.frames ∧ (rest.map fun v => v.category).sum + 15 ≤ R.locals) (hcs : cells ≤ R.cells ∧ slots ≤ R.slots) (hdg : decode cc pc = .ok (.invokestatic index, 3))
    (kk : W p l e R s m args below meth c H locs cells slots Q (F0 m (pc + 3) ls (.long (if y < x then x else y) :: rest))) : W p l e R s m args below meth c H locs cells slots Q (F0 m pc ls (.long y :: .long x :: rest)) := va_mmax_long hx hb (hml.trans hsz.symm) hown (hts _ hlk) (hts _ h_ml1) (hts _ h_mi0) (hts _ h_ml2) hR.1 hR.2 hcs.1 hcs.2 hdg kk
theorem h_thr {κ : Int32 → Option α} {i : Int32} (hf : (thr i).bind κ = some z) (hx : p.tables.exec = Jvm.exec) (hb : c.code = cc) (hX : h_X E (h_A B T s.heap.size) s s.heap) (hw : h_W E B T s.heap σ H locs) (hdg : decode cc pc = .ok (.iaload, 1))
    (kk : ∀ x : Int32, κ x = some z → W p l e R s m args below meth c H locs cells slots Q (F0 m (pc + 1) ls (.int x :: rest))) : W p l e R s m args below meth c H locs cells slots Q (F0 m pc ls (.int i :: .ref E.2.2.2.2 :: rest)) := by
  obtain ⟨hin, hf⟩ := ob_some hf
  exact va_ti hx hb hX.2.2.2.2.1.2 hw.2.1 hin rfl hdg (kk _ hf)
theorem h_nn {w : Int32} (h : ¬ w < 0) : w.toInt = (w.toNatClampNeg : Int) := by
  have h0 : (0 : Int) ≤ w.toInt := by simpa using Int32.le_iff_toInt_le.mp (Int32.not_lt.mp h)
  show w.toInt = ((w.toInt.toNat : Nat) : Int)
  omega
theorem h_acp {κ : hM → Option α} {a0 a1 : Nat} {sp dp n : Int32} (hf : (acp T σ a0 sp a1 dp n).bind κ = some z) (hx : p.tables.exec = Jvm.exec) (hb : c.code = cc) (hml : c.maxLocals = nL) (hsz : ls.size = nL) (hts : ∀ w ∈ h_tbl, w.before args s = true) (hown : s.vm.findClass own = some m.cls) (hX : h_X E A s s.heap) {H0 : Heap} (hw : h_W E B T H0 σ H locs) (hlk : Cond.methodLink own index arraycopyName ∈ h_tbl) (hR : 1 ≤ R.frames ∧ (rest.map fun v => v.category).sum + (nativeFrameWords "java/lang/System" "arraycopy" 5 + 11) ≤ R.locals) (hdg : decode cc pc = .ok (.invokestatic index, 3))
    (kk : ∀ (σ1 : hM) (H1 : Heap) (locs1 : List Loc), κ σ1 = some z → h_W E B T H0 σ1 H1 locs1 → W p l e R s m args below meth c H1 locs1 cells slots Q (F0 m (pc + 3) ls rest)) : W p l e R s m args below meth c H locs cells slots Q (F0 m pc ls (.int n :: .int dp :: .ref (B + a1) :: .int sp :: .ref (B + a0) :: rest)) := by
  obtain ⟨⟨⟨hT0, hT1⟩, ⟨h1, h2, h3⟩, h4, h5⟩, hf⟩ := ob_some hf
  intro TT hT X
  have hc0 := h_cI hw hT0 (by decide) (by decide)
  have hc1 := h_cI hw hT1 (by decide) (by decide)
  obtain ⟨-, k0, hk0, cm0, hkk0⟩ := h_ty11 hX (T.2 a0) (fun j => .int (σ.1 a0 j))
  obtain ⟨-, k1, hk1, cm1, hkk1⟩ := h_ty11 hX (T.2 a1) (fun j => .int (σ.1 a1 j))
  obtain ⟨vm', X', step⟩ := X.arraycopy hx hown (hts _ hlk) (hts _ h_ac2) (hts _ h_ac1) (hts _ h_ac3) (src := B + a0) (dst := B + a1) (srcPos := sp) (destPos := dp) (n := n) (by rw [hT]; exact hc0) (by rw [hT]; exact hc1)
    (fun _ h => by cases h) (fun _ h => by cases h) (fun h => by cases h) (fun h => by cases h) hk0 hk1 hkk0 hkk1 (by simp [refKind]) h1 h2 h3
    (by rw [h_nn h1, h_nn h3, arrV_size]; omega)
    (by rw [h_nn h2, h_nn h3, arrV_size]; omega)
    (fun vm₁ _ i hi => by
      have e1 : (arrV (E.2.1 11) (T.2 a0) (fun j => .int (σ.1 a0 j))).slots.getD (sp.toNatClampNeg + i) .null = .int (σ.1 a0 (sp.toNatClampNeg + i)) := by
        rw [Array.getD_eq_getD_getElem?, arrV_read _ _ (by omega)]
        rfl
      rw [e1]
      exact ⟨rfl, trivial⟩)
    (g := F0 m pc ls (.int n :: .int dp :: .ref (B + a1) :: .int sp :: .ref (B + a0) :: rest)) rfl (by rw [hml]; exact hsz) (rest := rest) rfl (by rw [hb]; exact hdg) hR.1 (by have := hR.2; show 2 * 0 + _ + _ ≤ _; omega)
  have e1 := va_copied (fun q => .int q) (E.2.1 11) (E.2.1 11) (n0 := T.2 a0) (n1 := T.2 a1) (dp := dp.toNatClampNeg) (σ.1 a0) (σ.1 a1) h4
  have hl : B + a1 < H.size := (Array.getElem?_eq_some_iff.mp hc1).1
  generalize hcell : copied (arrV (E.2.1 11) (T.2 a0) (fun j => .int (σ.1 a0 j))) (arrV (E.2.1 11) (T.2 a1) (fun j => .int (σ.1 a1 j))) sp dp n = cell at X' step
  have e2 : cell = arrV (E.2.1 11) (T.2 a1) (fun j => .int (va_cpy (σ.1 a0) (σ.1 a1) sp.toNatClampNeg dp.toNatClampNeg n.toNatClampNeg j)) := by rw [← hcell]; exact e1
  have hheap : ((TT.setVm vm').setCell (B + a1) cell).heap = H.setIfInBounds (B + a1) cell := by rw [← hT]; rfl
  have oq : ∀ q, q ≠ B + a1 → (H.setIfInBounds (B + a1) cell)[q]? = H[q]? := fun q hq => by simp [Array.getElem?_setIfInBounds, Ne.symm hq]
  obtain ⟨t, b1, b2⟩ := kk _ _ _ hf ⟨hw.1.put (a := a1) (fun b hb => ⟨by funext j; simp [hb], rfl, rfl⟩) ⟨fun ci g1 g2 => (by omega), fun t' g1 g2 g3 => by
      have et : t' = 11 := by omega
      subst et
      rw [h_arrI (by decide), vp_cell_i]
      have : (H.setIfInBounds (B + a1) cell)[B + a1]? = some cell := by simp [Array.getElem?_setIfInBounds, hl]
      rw [this, e2]
      simp⟩ oq (by simp), ⟨by simp; exact hw.2.1.1, fun q g1 g2 => by
      rw [oq q (fun e => g2 (Or.inl ⟨a1, by omega, e⟩))]
      exact hw.2.1.2.1 q g1 g2, fun q hq => by
      rcases List.mem_append.mp hq with h | h
      · exact hw.2.1.2.2 q h
      · obtain ⟨w, -, hw2⟩ := List.mem_map.mp h
        rw [← hw2]
        exact Or.inl ⟨a1, by omega, rfl⟩⟩, by simp; exact hw.2.2⟩ _ hheap X'
  exact ⟨t, step t b1, b2⟩
end HX
