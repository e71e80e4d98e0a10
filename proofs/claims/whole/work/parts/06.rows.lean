/-! ROWS: a law's step beside an instruction's. hf says what the function still does; each row takes its head off. -/
def lt {α β : Type} (e : α) (k : α → β) : β := k e
def gti (T : hT) (σ : hM) (a ci k : Nat) : Option Int32 := if T.1 a = ci + 1 then some (σ.1 a k) else none
def gtl (T : hT) (σ : hM) (a ci k : Nat) : Option Int64 := if T.1 a = ci + 1 then some (σ.2.1 a k) else none
def gtr (T : hT) (σ : hM) (a ci k : Nat) : Option Nat := if T.1 a = ci + 1 then σ.2.2 a k else none
def gtq (T : hT) (σ : hM) (a ci k : Nat) : Option (Option Nat) := if T.1 a = ci + 1 then some (σ.2.2 a k) else none
def pti (T : hT) (σ : hM) (a ci k : Nat) (v : Int32) : Option hM := if T.1 a = ci + 1 then some (wI σ a k v) else none
def ptz (T : hT) (σ : hM) (a ci k : Nat) (v : Int32) : Option hM := if T.1 a = ci + 1 ∧ (v = 0 ∨ v = 1) then some (wI σ a k v) else none
def ptl (T : hT) (σ : hM) (a ci k : Nat) (v : Int64) : Option hM := if T.1 a = ci + 1 then some (wL σ a k v) else none
def ptr (T : hT) (σ : hM) (a ci k : Nat) (v : Option Nat) : Option hM := if T.1 a = ci + 1 then some (wR σ a k v) else none
def ald (t : Nat) (T : hT) (σ : hM) (a : Nat) (i : Int32) : Option Int32 := if T.1 a = t ∧ ¬ (i < 0 ∨ T.2 a ≤ i.toNatClampNeg) then some (σ.1 a i.toNatClampNeg) else none
def aldl (T : hT) (σ : hM) (a : Nat) (i : Int32) : Option Int64 := if T.1 a = 14 ∧ ¬ (i < 0 ∨ T.2 a ≤ i.toNatClampNeg) then some (σ.2.1 a i.toNatClampNeg) else none
def aldr (t : Nat) (T : hT) (σ : hM) (a : Nat) (i : Int32) : Option Nat := if T.1 a = t ∧ ¬ (i < 0 ∨ T.2 a ≤ i.toNatClampNeg) then σ.2.2 a i.toNatClampNeg else none
def asti (T : hT) (σ : hM) (a : Nat) (i v : Int32) : Option hM := if T.1 a = 11 ∧ ¬ (i < 0 ∨ T.2 a ≤ i.toNatClampNeg) then some (wI σ a i.toNatClampNeg v) else none
def astb (T : hT) (σ : hM) (a : Nat) (i v : Int32) : Option hM := if T.1 a = 12 ∧ ¬ (i < 0 ∨ T.2 a ≤ i.toNatClampNeg) then some (wI σ a i.toNatClampNeg (vp_nar .byte v)) else none
def astz (T : hT) (σ : hM) (a : Nat) (i v : Int32) : Option hM := if T.1 a = 13 ∧ ¬ (i < 0 ∨ T.2 a ≤ i.toNatClampNeg) then some (wI σ a i.toNatClampNeg (vp_nar .boolean v)) else none
def astl (T : hT) (σ : hM) (a : Nat) (i : Int32) (v : Int64) : Option hM := if T.1 a = 14 ∧ ¬ (i < 0 ∨ T.2 a ≤ i.toNatClampNeg) then some (wL σ a i.toNatClampNeg v) else none
def aln (T : hT) (a : Nat) : Option Int32 := if 11 ≤ T.1 a ∧ T.1 a ≤ 17 then some (Int32.ofNat (T.2 a)) else none
def vc {α : Type} (T : hT) (a ci : Nat) (o : Option α) : Option α := if T.1 a = ci + 1 then o else none
def dvi (x y : Int32) : Option Int32 := if y = 0 then none else some (x / y)
def rmi (x y : Int32) : Option Int32 := if y = 0 then none else some (x - x / y * y)
def rtz {α : Type} (v : Int32) (σ : α) : Option (Int32 × α) := if v = 0 ∨ v = 1 then some (v, σ) else none
theorem ob_some {α β : Type} {c : Prop} [Decidable c] {x : α} {κ : α → Option β} {z : β} (h : (if c then some x else none).bind κ = some z) : c ∧ κ x = some z := by
  by_cases hc : c
  · rw [if_pos hc] at h; exact ⟨hc, h⟩
  · rw [if_neg hc] at h; cases h
theorem ob_opt {α β : Type} {c : Prop} [Decidable c] {o : Option α} {κ : α → Option β} {z : β} (h : (if c then o else none).bind κ = some z) : c ∧ ∃ x, o = some x ∧ κ x = some z := by
  by_cases hc : c
  · rw [if_pos hc] at h
    cases o with
    | none => cases h
    | some x => exact ⟨hc, x, rfl, h⟩
  · rw [if_neg hc] at h; cases h
theorem ifp {c : Prop} [Decidable c] {α : Sort _} {a b X : α} (h : c) (e : (if c then a else b) = X) : a = X := by rwa [if_pos h] at e
theorem ifn {c : Prop} [Decidable c] {α : Sort _} {a b X : α} (h : ¬ c) (e : (if c then a else b) = X) : b = X := by rwa [if_neg h] at e
/-- a link of a field: of class ci, place k -/
def h_FL (own : String) (index ci k : Nat) : Prop := (ci < 10 ∧ k < h_N ci) ∧ Cond.fieldLink own index (h_T ci k).1 (h_T ci k).2.1 (h_T ci k).2.2.1 ∈ h_tbl
section HR
variable {p : Program} {l : Launch} {e : Env} {R : Room} {s : State} {m : MethodId} {args : Array Value} {below : List Frame} {meth : Method} {c : Code} {H : Heap} {locs : List Loc} {cells slots : Nat} {Q : State → Prop}
variable {cc : ByteArray} {pc : Nat} {ls : Array Slot} {rest : List Value} {E : hE} {B : Nat} {T : hT} {σ : hM} {A : Nat → Prop} {H0 : Heap} {α : Type} {z : α} {own : String} {index ci k a : Nat}
theorem h_get0 {v : Value} (hx : p.tables.exec = Jvm.exec) (hb : c.code = cc) (hts : ∀ w ∈ h_tbl, w.before args s = true) (hown : s.vm.findClass own = some m.cls) (hX : h_X E A s s.heap) (hw : h_W E B T H0 σ H locs) (hL : h_FL own index ci k) (hT : T.1 a = ci + 1) (hv : h_V B ci σ a k = v) (hdg : decode cc pc = .ok (.getfield index, 3))
    (kk : W p l e R s m args below meth c H locs cells slots Q (F0 m (pc + 3) ls (v :: rest))) : W p l e R s m args below meth c H locs cells slots Q (F0 m pc ls (.ref (B + a) :: rest)) := by
  obtain ⟨⟨hci, hk⟩, hlk⟩ := hL
  obtain ⟨cell, q1, q2, q3, q4⟩ := (hw.1.1 a).1 ci hT hci
  obtain ⟨hS, hfc, kC, hkC, hkind⟩ := hX.1.1 ci _ (h_cl_ok ci hci)
  obtain ⟨cf, kf, fi, f, hi, hsl⟩ := hS k hk
  refine W.getf hx hb hown (hts _ hlk) hi (u_facts hfc hkC (u_lays hts (h_in ci hci) hk) hi).1 q1 (by rw [q3]; exact fun h => by cases h) (v := v) ?_ rfl rfl hdg kk
  rw [hsl, q4 k hk, hv]
theorem h_geti {κ : Int32 → Option α} (hf : (gti T σ a ci k).bind κ = some z) (hx : p.tables.exec = Jvm.exec) (hb : c.code = cc) (hts : ∀ w ∈ h_tbl, w.before args s = true) (hown : s.vm.findClass own = some m.cls) (hX : h_X E A s s.heap) (hw : h_W E B T H0 σ H locs) (hL : h_FL own index ci k) (ht : h_tag (h_fty ci k) = 0) (hdg : decode cc pc = .ok (.getfield index, 3))
    (kk : ∀ x : Int32, κ x = some z → W p l e R s m args below meth c H locs cells slots Q (F0 m (pc + 3) ls (.int x :: rest))) : W p l e R s m args below meth c H locs cells slots Q (F0 m pc ls (.ref (B + a) :: rest)) := by
  obtain ⟨hT, hf⟩ := ob_some hf
  exact h_get0 hx hb hts hown hX hw hL hT (h_val0 ht) hdg (kk _ hf)
theorem h_getl {κ : Int64 → Option α} (hf : (gtl T σ a ci k).bind κ = some z) (hx : p.tables.exec = Jvm.exec) (hb : c.code = cc) (hts : ∀ w ∈ h_tbl, w.before args s = true) (hown : s.vm.findClass own = some m.cls) (hX : h_X E A s s.heap) (hw : h_W E B T H0 σ H locs) (hL : h_FL own index ci k) (ht : h_tag (h_fty ci k) = 1) (hdg : decode cc pc = .ok (.getfield index, 3))
    (kk : ∀ x : Int64, κ x = some z → W p l e R s m args below meth c H locs cells slots Q (F0 m (pc + 3) ls (.long x :: rest))) : W p l e R s m args below meth c H locs cells slots Q (F0 m pc ls (.ref (B + a) :: rest)) := by
  obtain ⟨hT, hf⟩ := ob_some hf
  exact h_get0 hx hb hts hown hX hw hL hT (h_val1 ht) hdg (kk _ hf)
theorem h_getr {κ : Nat → Option α} (hf : (gtr T σ a ci k).bind κ = some z) (hx : p.tables.exec = Jvm.exec) (hb : c.code = cc) (hts : ∀ w ∈ h_tbl, w.before args s = true) (hown : s.vm.findClass own = some m.cls) (hX : h_X E A s s.heap) (hw : h_W E B T H0 σ H locs) (hL : h_FL own index ci k) (ht : h_tag (h_fty ci k) = 2) (hdg : decode cc pc = .ok (.getfield index, 3))
    (kk : ∀ x : Nat, κ x = some z → W p l e R s m args below meth c H locs cells slots Q (F0 m (pc + 3) ls (.ref (B + x) :: rest))) : W p l e R s m args below meth c H locs cells slots Q (F0 m pc ls (.ref (B + a) :: rest)) := by
  obtain ⟨hT, x, hx2, hf⟩ := ob_opt hf
  exact h_get0 hx hb hts hown hX hw hL hT ((h_val2 ht).trans (by rw [hx2]; rfl)) hdg (kk _ hf)
/-- a field that may be null, asked whether it is -/
theorem h_getq {κ : Option Nat → Option α} (hf : (gtq T σ a ci k).bind κ = some z) (hx : p.tables.exec = Jvm.exec) (hb : c.code = cc) (hts : ∀ w ∈ h_tbl, w.before args s = true) (hown : s.vm.findClass own = some m.cls) (hX : h_X E A s s.heap) (hw : h_W E B T H0 σ H locs) (hL : h_FL own index ci k) (ht : h_tag (h_fty ci k) = 2) (hdg : decode cc pc = .ok (.getfield index, 3))
    (kn : κ none = some z → W p l e R s m args below meth c H locs cells slots Q (F0 m (pc + 3) ls (.null :: rest))) (kk : ∀ x : Nat, κ (some x) = some z → W p l e R s m args below meth c H locs cells slots Q (F0 m (pc + 3) ls (.ref (B + x) :: rest))) : W p l e R s m args below meth c H locs cells slots Q (F0 m pc ls (.ref (B + a) :: rest)) := by
  obtain ⟨hT, hf⟩ := ob_some hf
  cases hq : σ.2.2 a k with
  | none => rw [hq] at hf; exact h_get0 hx hb hts hown hX hw hL hT ((h_val2 ht).trans (by rw [hq]; rfl)) hdg (kn hf)
  | some x => rw [hq] at hf; exact h_get0 hx hb hts hown hX hw hL hT ((h_val2 ht).trans (by rw [hq]; rfl)) hdg (kk x hf)
theorem h_W.put {σ1 : hM} {H1 : Heap} {j : Nat} (hw : h_W E B T H0 σ H locs) (hT : T.1 a ≠ 0) (hs : ∀ b, b ≠ a → σ1.1 b = σ.1 b ∧ σ1.2.1 b = σ.2.1 b ∧ σ1.2.2 b = σ.2.2 b) (hat : h_at E B T σ1 H1 a) (oq : ∀ q, q ≠ B + a → H1[q]? = H[q]?) (zz : H1.size = H.size) : h_W E B T H0 σ1 H1 (locs ++ [⟨B + a, j⟩]) :=
  ⟨hw.1.put hs hat oq zz, hw.2.1.put zz oq (Or.inl ⟨a, hT, rfl⟩), zz.trans hw.2.2⟩
theorem h_put0 {v : Value} {σ1 : hM} (hx : p.tables.exec = Jvm.exec) (hb : c.code = cc) (hts : ∀ w ∈ h_tbl, w.before args s = true) (hown : s.vm.findClass own = some m.cls) (hX : h_X E A s s.heap) (hw : h_W E B T H0 σ H locs) (hL : h_FL own index ci k) (hfin : (h_T ci k).2.2.2 = false) (hT : T.1 a = ci + 1) (hn : narrow (h_fty ci k) v = v) (hfit : fits (h_fty ci k) v = true)
    (hs : ∀ b, b ≠ a → σ1.1 b = σ.1 b ∧ σ1.2.1 b = σ.2.1 b ∧ σ1.2.2 b = σ.2.2 b) (hv : h_V B ci σ1 a k = v) (ho : ∀ j, j ≠ k → h_V B ci σ1 a j = h_V B ci σ a j) (hdg : decode cc pc = .ok (.putfield index, 3))
    (kk : ∀ (H1 : Heap) (locs1 : List Loc), h_W E B T H0 σ1 H1 locs1 → W p l e R s m args below meth c H1 locs1 cells slots Q (F0 m (pc + 3) ls rest)) : W p l e R s m args below meth c H locs cells slots Q (F0 m pc ls (v :: .ref (B + a) :: rest)) := by
  obtain ⟨⟨hci, hk⟩, hlk⟩ := hL
  obtain ⟨cell, q1, q2, q3, q4⟩ := (hw.1.1 a).1 ci hT hci
  have hap := va_apart (own := own) hts (h_in ci hci) (h_fty ci) (h_ty_ok ci hci) (h_nm_ok ci hci) hX.1 (h_cl_ok ci hci)
  obtain ⟨hS, hfc, kC, hkC, hkind⟩ := hX.1.1 ci _ (h_cl_ok ci hci)
  obtain ⟨cf, kf, fi, f, hi, hsl⟩ := hS k hk
  have hlay := hts _ (h_in ci hci _ (u_in_lay hk))
  unfold u_lay at hlay
  rw [if_neg (by rw [hfin]; decide)] at hlay
  have hst := (u_facts hfc hkC (u_lays hts (h_in ci hci) hk) hi).1
  have h6 := u_store hfc hkC hkind hlay hi (h_ty_ok ci hci k hk) hn hfit
  refine W.putK hx hb (f := f) ⟨hown, hts _ hlk, ⟨_, _, _, hi⟩, hst⟩ (by rw [q2]; exact h6) q1 q3 (by rw [hsl]; exact k2_hasslot (q4 k hk)) rfl rfl hdg fun H' e1 e2 e3 => ?_
  rw [hsl] at e1 ⊢
  refine kk H' _ (hw.put (by omega) hs ⟨fun ci' h1 h2 => ?_, fun t h1 h2 h3 => (by omega)⟩ e3 e2)
  have ec : ci' = ci := by omega
  subst ec
  exact t_OB.to ⟨_, e1, q2, q3, t_set q4 hap hk v⟩ (fun j _ => h_Vw hv ho j)
theorem h_wVI {v : Int32} : ∀ j, j ≠ k → h_V B ci (wI σ a k v) a j = h_V B ci σ a j := fun j hj => by simp [h_V, wI, h_w2, hj]
theorem h_wVL {v : Int64} : ∀ j, j ≠ k → h_V B ci (wL σ a k v) a j = h_V B ci σ a j := fun j hj => by simp [h_V, wL, h_w2, hj]
theorem h_wVR {v : Option Nat} : ∀ j, j ≠ k → h_V B ci (wR σ a k v) a j = h_V B ci σ a j := fun j hj => by simp [h_V, wR, h_w2, hj]
theorem h_puti {κ : hM → Option α} {v : Int32} (hf : (pti T σ a ci k v).bind κ = some z) (hx : p.tables.exec = Jvm.exec) (hb : c.code = cc) (hts : ∀ w ∈ h_tbl, w.before args s = true) (hown : s.vm.findClass own = some m.cls) (hX : h_X E A s s.heap) (hw : h_W E B T H0 σ H locs) (hL : h_FL own index ci k) (ht : h_fty ci k = .int ∧ (h_T ci k).2.2.2 = false) (hdg : decode cc pc = .ok (.putfield index, 3))
    (kk : ∀ (σ1 : hM) (H1 : Heap) (locs1 : List Loc), κ σ1 = some z → h_W E B T H0 σ1 H1 locs1 → W p l e R s m args below meth c H1 locs1 cells slots Q (F0 m (pc + 3) ls rest)) : W p l e R s m args below meth c H locs cells slots Q (F0 m pc ls (.int v :: .ref (B + a) :: rest)) := by
  obtain ⟨hT, hf⟩ := ob_some hf
  exact h_put0 hx hb hts hown hX hw hL ht.2 hT (by rw [ht.1]; rfl) (by rw [ht.1]; rfl) h_w2I (by simp [h_V, h_val, ht.1, wI, h_w2]) h_wVI hdg (fun H1 locs1 h => kk _ H1 locs1 hf h)
theorem h_putz {κ : hM → Option α} {v : Int32} (hf : (ptz T σ a ci k v).bind κ = some z) (hx : p.tables.exec = Jvm.exec) (hb : c.code = cc) (hts : ∀ w ∈ h_tbl, w.before args s = true) (hown : s.vm.findClass own = some m.cls) (hX : h_X E A s s.heap) (hw : h_W E B T H0 σ H locs) (hL : h_FL own index ci k) (ht : h_fty ci k = .boolean ∧ (h_T ci k).2.2.2 = false) (hdg : decode cc pc = .ok (.putfield index, 3))
    (kk : ∀ (σ1 : hM) (H1 : Heap) (locs1 : List Loc), κ σ1 = some z → h_W E B T H0 σ1 H1 locs1 → W p l e R s m args below meth c H1 locs1 cells slots Q (F0 m (pc + 3) ls rest)) : W p l e R s m args below meth c H locs cells slots Q (F0 m pc ls (.int v :: .ref (B + a) :: rest)) := by
  obtain ⟨⟨hT, h01⟩, hf⟩ := ob_some hf
  exact h_put0 hx hb hts hown hX hw hL ht.2 hT (by rw [ht.1]; rcases h01 with rfl | rfl <;> rfl) (by rw [ht.1]; rcases h01 with rfl | rfl <;> rfl) h_w2I (by simp [h_V, h_val, ht.1, wI, h_w2]) h_wVI hdg (fun H1 locs1 h => kk _ H1 locs1 hf h)
theorem h_putl {κ : hM → Option α} {v : Int64} (hf : (ptl T σ a ci k v).bind κ = some z) (hx : p.tables.exec = Jvm.exec) (hb : c.code = cc) (hts : ∀ w ∈ h_tbl, w.before args s = true) (hown : s.vm.findClass own = some m.cls) (hX : h_X E A s s.heap) (hw : h_W E B T H0 σ H locs) (hL : h_FL own index ci k) (ht : h_fty ci k = .long ∧ (h_T ci k).2.2.2 = false) (hdg : decode cc pc = .ok (.putfield index, 3))
    (kk : ∀ (σ1 : hM) (H1 : Heap) (locs1 : List Loc), κ σ1 = some z → h_W E B T H0 σ1 H1 locs1 → W p l e R s m args below meth c H1 locs1 cells slots Q (F0 m (pc + 3) ls rest)) : W p l e R s m args below meth c H locs cells slots Q (F0 m pc ls (.long v :: .ref (B + a) :: rest)) := by
  obtain ⟨hT, hf⟩ := ob_some hf
  exact h_put0 hx hb hts hown hX hw hL ht.2 hT (by rw [ht.1]; rfl) (by rw [ht.1]; rfl) h_w2L (by simp [h_V, h_val, ht.1, wL, h_w2]) h_wVL hdg (fun H1 locs1 h => kk _ H1 locs1 hf h)
theorem h_nar2 {ty : FieldType} (h : h_tag ty = 2) (o : Option Nat) : narrow ty (va_rf o) = va_rf o ∧ fits ty (va_rf o) = true := by
  cases ty <;> first | (cases o <;> exact ⟨rfl, rfl⟩) | cases h
theorem h_putr {κ : hM → Option α} {v : Nat} (hf : (ptr T σ a ci k (some v)).bind κ = some z) (hx : p.tables.exec = Jvm.exec) (hb : c.code = cc) (hts : ∀ w ∈ h_tbl, w.before args s = true) (hown : s.vm.findClass own = some m.cls) (hX : h_X E A s s.heap) (hw : h_W E B T H0 σ H locs) (hL : h_FL own index ci k) (ht : h_tag (h_fty ci k) = 2 ∧ (h_T ci k).2.2.2 = false) (hdg : decode cc pc = .ok (.putfield index, 3))
    (kk : ∀ (σ1 : hM) (H1 : Heap) (locs1 : List Loc), κ σ1 = some z → h_W E B T H0 σ1 H1 locs1 → W p l e R s m args below meth c H1 locs1 cells slots Q (F0 m (pc + 3) ls rest)) : W p l e R s m args below meth c H locs cells slots Q (F0 m pc ls (.ref (B + v) :: .ref (B + a) :: rest)) := by
  obtain ⟨hT, hf⟩ := ob_some hf
  exact h_put0 (v := va_rf (some (B + v))) hx hb hts hown hX hw hL ht.2 hT (h_nar2 ht.1 _).1 (h_nar2 ht.1 _).2 h_w2R ((h_val2 ht.1).trans (by simp [wR, h_w2, h_lf])) h_wVR hdg (fun H1 locs1 h => kk _ H1 locs1 hf h)
end HR
