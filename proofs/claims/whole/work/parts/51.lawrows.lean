/-! the kinds and lengths of the cells of the two objects, and the law's rows -/
def kK1 : List Nat := [9, 7, 12, 2, 11, 11, 2, 11, 11, 8, 11, 11, 11, 11, 8, 11, 11, 11, 11, 15, 4, 4, 4, 4, 4, 4, 4, 4, 4, 4, 4, 4, 6, 5, 11, 11, 15, 4, 4, 4, 4, 4, 4, 4, 4, 4, 4, 4, 4, 16, 6, 5, 11, 11, 15, 4, 4, 4, 4, 4, 4, 4, 4, 4, 4, 4, 4, 6, 5, 11, 11, 15, 4, 4, 4, 4, 4, 4, 4, 4, 4, 4, 4, 4, 3, 17, 14, 14, 14, 14, 14, 14, 14, 11, 1, 11, 11, 11, 5, 11, 4]
def kN1 : List Nat := [0, 0, 400, 0, 40, 40, 0, 40, 40, 0, 6, 6, 6, 6, 0, 6, 6, 6, 6, 12, 0, 0, 0, 0, 0, 0, 0, 0, 0, 0, 0, 0, 0, 0, 40, 16, 12, 0, 0, 0, 0, 0, 0, 0, 0, 0, 0, 0, 0, 2, 0, 0, 40, 16, 12, 0, 0, 0, 0, 0, 0, 0, 0, 0, 0, 0, 0, 0, 0, 40, 16, 12, 0, 0, 0, 0, 0, 0, 0, 0, 0, 0, 0, 0, 0, 7, 16, 16, 16, 16, 16, 16, 16, 729, 0, 8, 8, 40, 0, 40, 0]
def kK2 : List Nat := [10, 11, 13, 11, 11, 11, 11, 11, 11, 11, 13, 11, 11, 11, 11, 11, 11, 13, 13, 11, 11, 11, 11, 13]
def kN2 : List Nat := [0, 40, 40, 96, 24, 16, 6, 40, 400, 40, 40, 96, 24, 729, 6, 40, 8, 1089, 1089, 8, 8, 40, 400, 2]
def kT1 : hT := (fun a => kK1.getD a 0, fun a => kN1.getD a 0)
def kT2 : hT := (fun a => kK2.getD a 0, fun a => kN2.getD a 0)
theorem k_out {l : List Nat} {a : Nat} (h : l.length ≤ a) : l.getD a 0 = 0 := by rw [List.getD_eq_getElem?_getD, List.getElem?_eq_none h]; rfl
theorem k_tr1 : tr kT1 101 = kT1 := by
  refine Prod.ext (funext fun a => ?_) rfl
  show (if a < 101 then kT1.1 a else 0) = kT1.1 a
  by_cases h : a < 101
  · rw [if_pos h]
  · rw [if_neg h]; exact (k_out (l := kK1) (Nat.le_of_not_lt h)).symm
theorem k_tr2 : tr kT2 24 = kT2 := by
  refine Prod.ext (funext fun a => ?_) rfl
  show (if a < 24 then kT2.1 a else 0) = kT2.1 a
  by_cases h : a < 24
  · rw [if_pos h]
  · rw [if_neg h]; exact (k_out (l := kK2) (Nat.le_of_not_lt h)).symm
theorem k_lt1 {a : Nat} (h : kT1.1 a ≠ 0) : a < 101 := Nat.lt_of_not_le fun q => h (k_out (l := kK1) q)
theorem k_lt2 {a : Nat} (h : kT2.1 a ≠ 0) : a < 24 := Nat.lt_of_not_le fun q => h (k_out (l := kK2) q)
def h_L (E : hE) (b0 : Nat) (H0 : Heap) (σ1 σ2 : hM) (H : Heap) (locs : List Loc) : Prop := h_P E b0 kT1 σ1 H ∧ h_P E (b0 + 101) kT2 σ2 H ∧ va_S (fun q => b0 ≤ q) H0 H locs ∧ H.size = b0 + 125
theorem h_L.k1 {E : hE} {b0 : Nat} {H0 : Heap} {σ1 σ2 : hM} {H : Heap} {locs : List Loc} (h : h_L E b0 H0 σ1 σ2 H locs) : ∀ q, h_A b0 kT1 H.size q → b0 ≤ q := by
  intro q hq
  rcases hq with ⟨a, -, rfl⟩ | hq
  · exact Nat.le_add_right _ _
  · rw [h.2.2.2] at hq; omega
theorem h_L.k2 {E : hE} {b0 : Nat} {H0 : Heap} {σ1 σ2 : hM} {H : Heap} {locs : List Loc} (h : h_L E b0 H0 σ1 σ2 H locs) : ∀ q, h_A (b0 + 101) kT2 H.size q → b0 ≤ q := by
  intro q hq
  rcases hq with ⟨a, -, rfl⟩ | hq
  · omega
  · rw [h.2.2.2] at hq; omega
section LAW
variable {p : Program} {l : Launch} {e : Env} {R : Room} {s : State} {m : MethodId} {args : Array Value} {below : List Frame} {meth : Method} {c : Code} {H : Heap} {locs : List Loc} {cells slots : Nat} {Q : State → Prop}
variable {cc : ByteArray} {pc nL : Nat} {ls : Array Slot} {rest st0 As : List Value} {E : hE} {B b0 : Nat} {T : hT} {σ σ' σ1 σ2 : hM} {index d2 n nL2 : Nat} {own : String} {y : MethodName} {cc2 : ByteArray} {ret2 : Option FieldType} {v : Option Value} {H0 : Heap}
theorem l_call {a1 : Array Value} (hr : va_Run p l e R s m args below meth c H locs cells slots 0 0 (F0 m pc ls st0) rest (h_Q E B T H.size v σ' a1) (h_A B T H.size)) (hS : va_S (fun q => b0 ≤ q) H0 H locs) (hk : ∀ q, h_A B T H.size q → b0 ≤ q)
    (kk : ∀ (H1 : Heap) (locs1 : List Loc), h_P E B T σ' H1 → H1.size = H.size → (∀ q, q < H.size → ¬ h_A B T H.size q → H1[q]? = H[q]?) → va_S (fun q => b0 ≤ q) H0 H1 locs1 → W p l e R s m args below meth c H1 locs1 cells slots Q (F0 m (pc + 3) ls (v.toList ++ rest))) : W p l e R s m args below meth c H locs cells slots Q (F0 m pc ls st0) := by
  intro TT hT X
  obtain ⟨v', st₀, t, T', L, h0, X', hL, e1, e2, ⟨⟨hv, hp, hz⟩, hF1, hF2⟩, st⟩ := hr TT hT X
  cases hv
  rw [h0] at hF1 hF2
  obtain ⟨t2, a2, b2⟩ := kk T'.heap (locs ++ L) (by rw [e1]; exact hp) (by rw [e1]; exact hz) (fun q h1 h2 => by rw [e1]; exact hF2 q h1 h2) ⟨Nat.le_trans hS.1 (by rw [e1]; exact hF1), fun q h1 h2 => by
      rw [e1, hF2 q (Nat.lt_of_lt_of_le h1 hS.1) (fun z => h2 (hk q z))]
      exact hS.2.1 q h1 h2, fun q hq => by
      rcases List.mem_append.mp hq with h | h
      · exact hS.2.2 q h
      · exact hk _ (hL q h)⟩ T' rfl X'
  exact ⟨t2, st t2 a2, b2⟩
theorem l_run (hx : p.tables.exec = Jvm.exec) (hb : c.code = cc) (hml : c.maxLocals = nL) (hts : ∀ w ∈ h_tbl, w.before args s = true) (hown : s.vm.findClass own = some m.cls) (hX : h_X E (fun q => b0 ≤ q) s s.heap) (hP : h_P E B T σ H) (hS : va_S (fun q => b0 ≤ q) s.heap H locs) (hk : ∀ q, h_A B T H.size q → b0 ≤ q) {ci : Nat}
    (hMY : h_MY y cc2 nL2 ret2 n) (hMI : h_MI y) (hlk : Cond.methodLink own index y ∈ h_tbl) (hcls : y.cls = h_C ci ∧ ci < 10 ∧ T.1 0 = ci + 1) (hC : h_Ct l E B T y cc2 nL2 ret2 d2 (.ref (B + 0) :: As) σ σ' v) (hR : d2 + 1 ≤ R.frames ∧ 8 + (nL2 + 11) + 40 * d2 ≤ R.locals) (hcs : cells ≤ R.cells ∧ slots ≤ R.slots)
    (hn : As.length = n) (hsz : ls.size = nL) (hst : st0 = As.reverse ++ .ref (B + 0) :: rest) (hcat : (rest.map fun v => v.category).sum ≤ 8) (hdg : decode cc pc = .ok (.invokevirtual index, 3)) :
    va_Run p l e R s m args below meth c H locs cells slots 0 0 (F0 m pc ls st0) rest (h_Q E B T H.size v σ' (Value.ref (B + 0) :: As).toArray) (h_A B T H.size) := by
  obtain ⟨g1, g2, g3⟩ := hMY
  obtain ⟨cell, q1, q2, q3, q4⟩ := (hP.1 0).1 ci hcls.2.2 hcls.2.1
  obtain ⟨-, hfc, -⟩ := hX.1.1 ci _ (h_cl_ok ci hcls.2.1)
  exact va_runV (C := y.cls) (Ts := h_tbl) ⟨hx, hb, hml, hown, hts⟩ (hC H.size) ⟨callB_of n hts (h_good g1) rfl rfl rfl (hts _ g2) (hts _ hlk) g3 hR, hts _ hMI.1, hts _ hMI.2⟩ ⟨h_blind, ⟨cell, q1, by rw [q3]; rfl, by rw [q2, hcls.1]; exact hfc⟩, fun U hU hW => ⟨rfl, by rw [hU], by rw [hU]; exact hP, by rw [hU]; exact ((hX.warm hW).kept hS.2.1).narrow hk⟩⟩ rfl hn hsz hst (lv_room hcat) hdg hcs
theorem h_L.go1 {σ1' : hM} {H1 : Heap} {locs1 : List Loc} (hw : h_L E b0 H0 σ1 σ2 H locs) (h1 : h_P E b0 kT1 σ1' H1) (h2 : H1.size = H.size) (h3 : ∀ q, q < H.size → ¬ h_A b0 kT1 H.size q → H1[q]? = H[q]?) (h4 : va_S (fun q => b0 ≤ q) H0 H1 locs1) : h_L E b0 H0 σ1' σ2 H1 locs1 := by
  refine ⟨h1, hw.2.1.kept (fun a ha => h3 _ (hw.2.1.2 a ha) (fun q => ?_)) (Nat.le_of_eq h2.symm), h4, h2.trans hw.2.2.2⟩
  rcases q with ⟨a', ha', e1⟩ | q
  · have := k_lt1 ha'; omega
  · have := hw.2.1.2 a ha; omega
theorem h_L.go2 {σ2' : hM} {H1 : Heap} {locs1 : List Loc} (hw : h_L E b0 H0 σ1 σ2 H locs) (h1 : h_P E (b0 + 101) kT2 σ2' H1) (h2 : H1.size = H.size) (h3 : ∀ q, q < H.size → ¬ h_A (b0 + 101) kT2 H.size q → H1[q]? = H[q]?) (h4 : va_S (fun q => b0 ≤ q) H0 H1 locs1) : h_L E b0 H0 σ1 σ2' H1 locs1 := by
  refine ⟨hw.1.kept (fun a ha => h3 _ (hw.1.2 a ha) (fun q => ?_)) (Nat.le_of_eq h2.symm), h1, h4, h2.trans hw.2.2.2⟩
  have hl := k_lt1 ha
  rcases q with ⟨a', ha', e1⟩ | q
  · omega
  · have := hw.1.2 a ha; omega
theorem l_c1i {F : Option (Int32 × hM)} {r : Int32} {σ1' : hM} (hF : F = some (r, σ1')) (hx : p.tables.exec = Jvm.exec) (hb : c.code = cc) (hml : c.maxLocals = nL) (hts : ∀ w ∈ h_tbl, w.before args s = true) (hown : s.vm.findClass own = some m.cls) (hX : h_X E (fun q => b0 ≤ q) s s.heap) (hw : h_L E b0 s.heap σ1 σ2 H locs)
    (hMY : h_MY y cc2 nL2 ret2 n) (hMI : h_MI y) (hlk : Cond.methodLink own index y ∈ h_tbl) (hcls : y.cls = h_C 8) (hC : ∀ q, F = some q → h_Ct l E b0 kT1 y cc2 nL2 ret2 d2 (.ref (b0 + 0) :: As) σ1 q.2 (some (.int q.1))) (hR : d2 + 1 ≤ R.frames ∧ 8 + (nL2 + 11) + 40 * d2 ≤ R.locals) (hcs : cells ≤ R.cells ∧ slots ≤ R.slots)
    (hn : As.length = n) (hsz : ls.size = nL) (hst : st0 = As.reverse ++ .ref (b0 + 0) :: rest) (hcat : (rest.map fun v => v.category).sum ≤ 8) (hdg : decode cc pc = .ok (.invokevirtual index, 3))
    (kk : ∀ (H1 : Heap) (locs1 : List Loc), h_L E b0 s.heap σ1' σ2 H1 locs1 → W p l e R s m args below meth c H1 locs1 cells slots Q (F0 m (pc + 3) ls (.int r :: rest))) : W p l e R s m args below meth c H locs cells slots Q (F0 m pc ls st0) :=
  l_call (l_run hx hb hml hts hown hX hw.1 hw.2.2.1 hw.k1 hMY hMI hlk ⟨hcls, by decide, rfl⟩ (hC _ hF) hR hcs hn hsz hst hcat hdg) hw.2.2.1 hw.k1 (fun H1 L1 h1 h2 h3 h4 => kk H1 L1 (hw.go1 h1 h2 h3 h4))
theorem l_c1l {F : Option (Int64 × hM)} {r : Int64} {σ1' : hM} (hF : F = some (r, σ1')) (hx : p.tables.exec = Jvm.exec) (hb : c.code = cc) (hml : c.maxLocals = nL) (hts : ∀ w ∈ h_tbl, w.before args s = true) (hown : s.vm.findClass own = some m.cls) (hX : h_X E (fun q => b0 ≤ q) s s.heap) (hw : h_L E b0 s.heap σ1 σ2 H locs)
    (hMY : h_MY y cc2 nL2 ret2 n) (hMI : h_MI y) (hlk : Cond.methodLink own index y ∈ h_tbl) (hcls : y.cls = h_C 8) (hC : ∀ q, F = some q → h_Ct l E b0 kT1 y cc2 nL2 ret2 d2 (.ref (b0 + 0) :: As) σ1 q.2 (some (.long q.1))) (hR : d2 + 1 ≤ R.frames ∧ 8 + (nL2 + 11) + 40 * d2 ≤ R.locals) (hcs : cells ≤ R.cells ∧ slots ≤ R.slots)
    (hn : As.length = n) (hsz : ls.size = nL) (hst : st0 = As.reverse ++ .ref (b0 + 0) :: rest) (hcat : (rest.map fun v => v.category).sum ≤ 8) (hdg : decode cc pc = .ok (.invokevirtual index, 3))
    (kk : ∀ (H1 : Heap) (locs1 : List Loc), h_L E b0 s.heap σ1' σ2 H1 locs1 → W p l e R s m args below meth c H1 locs1 cells slots Q (F0 m (pc + 3) ls (.long r :: rest))) : W p l e R s m args below meth c H locs cells slots Q (F0 m pc ls st0) :=
  l_call (l_run hx hb hml hts hown hX hw.1 hw.2.2.1 hw.k1 hMY hMI hlk ⟨hcls, by decide, rfl⟩ (hC _ hF) hR hcs hn hsz hst hcat hdg) hw.2.2.1 hw.k1 (fun H1 L1 h1 h2 h3 h4 => kk H1 L1 (hw.go1 h1 h2 h3 h4))
theorem l_c2i {F : Option (Int32 × hM)} {r : Int32} {σ2' : hM} (hF : F = some (r, σ2')) (hx : p.tables.exec = Jvm.exec) (hb : c.code = cc) (hml : c.maxLocals = nL) (hts : ∀ w ∈ h_tbl, w.before args s = true) (hown : s.vm.findClass own = some m.cls) (hX : h_X E (fun q => b0 ≤ q) s s.heap) (hw : h_L E b0 s.heap σ1 σ2 H locs)
    (hMY : h_MY y cc2 nL2 ret2 n) (hMI : h_MI y) (hlk : Cond.methodLink own index y ∈ h_tbl) (hcls : y.cls = h_C 9) (hC : ∀ q, F = some q → h_Ct l E (b0 + 101) kT2 y cc2 nL2 ret2 d2 (.ref (b0 + 101 + 0) :: As) σ2 q.2 (some (.int q.1))) (hR : d2 + 1 ≤ R.frames ∧ 8 + (nL2 + 11) + 40 * d2 ≤ R.locals) (hcs : cells ≤ R.cells ∧ slots ≤ R.slots)
    (hn : As.length = n) (hsz : ls.size = nL) (hst : st0 = As.reverse ++ .ref (b0 + 101 + 0) :: rest) (hcat : (rest.map fun v => v.category).sum ≤ 8) (hdg : decode cc pc = .ok (.invokevirtual index, 3))
    (kk : ∀ (H1 : Heap) (locs1 : List Loc), h_L E b0 s.heap σ1 σ2' H1 locs1 → W p l e R s m args below meth c H1 locs1 cells slots Q (F0 m (pc + 3) ls (.int r :: rest))) : W p l e R s m args below meth c H locs cells slots Q (F0 m pc ls st0) :=
  l_call (l_run hx hb hml hts hown hX hw.2.1 hw.2.2.1 hw.k2 hMY hMI hlk ⟨hcls, by decide, rfl⟩ (hC _ hF) hR hcs hn hsz hst hcat hdg) hw.2.2.1 hw.k2 (fun H1 L1 h1 h2 h3 h4 => kk H1 L1 (hw.go2 h1 h2 h3 h4))
theorem l_c2l {F : Option (Int64 × hM)} {r : Int64} {σ2' : hM} (hF : F = some (r, σ2')) (hx : p.tables.exec = Jvm.exec) (hb : c.code = cc) (hml : c.maxLocals = nL) (hts : ∀ w ∈ h_tbl, w.before args s = true) (hown : s.vm.findClass own = some m.cls) (hX : h_X E (fun q => b0 ≤ q) s s.heap) (hw : h_L E b0 s.heap σ1 σ2 H locs)
    (hMY : h_MY y cc2 nL2 ret2 n) (hMI : h_MI y) (hlk : Cond.methodLink own index y ∈ h_tbl) (hcls : y.cls = h_C 9) (hC : ∀ q, F = some q → h_Ct l E (b0 + 101) kT2 y cc2 nL2 ret2 d2 (.ref (b0 + 101 + 0) :: As) σ2 q.2 (some (.long q.1))) (hR : d2 + 1 ≤ R.frames ∧ 8 + (nL2 + 11) + 40 * d2 ≤ R.locals) (hcs : cells ≤ R.cells ∧ slots ≤ R.slots)
    (hn : As.length = n) (hsz : ls.size = nL) (hst : st0 = As.reverse ++ .ref (b0 + 101 + 0) :: rest) (hcat : (rest.map fun v => v.category).sum ≤ 8) (hdg : decode cc pc = .ok (.invokevirtual index, 3))
    (kk : ∀ (H1 : Heap) (locs1 : List Loc), h_L E b0 s.heap σ1 σ2' H1 locs1 → W p l e R s m args below meth c H1 locs1 cells slots Q (F0 m (pc + 3) ls (.long r :: rest))) : W p l e R s m args below meth c H locs cells slots Q (F0 m pc ls st0) :=
  l_call (l_run hx hb hml hts hown hX hw.2.1 hw.2.2.1 hw.k2 hMY hMI hlk ⟨hcls, by decide, rfl⟩ (hC _ hF) hR hcs hn hsz hst hcat hdg) hw.2.2.1 hw.k2 (fun H1 L1 h1 h2 h3 h4 => kk H1 L1 (hw.go2 h1 h2 h3 h4))
end LAW
