/-! ROWS: calls and returns -/
theorem h_good {y : MethodName} {cc : ByteArray} {nL : Nat} {ret : Option FieldType} (hc : Cond.code y cc nL ret ∈ h_tbl) : GoodIn h_tbl (Cond.code y cc nL ret :: h_tbl) := fun w hw => by
  rcases List.mem_cons.mp hw with rfl | h
  · exact ⟨hc, good_of_word (List.mem_filter.mp hc).2⟩
  · exact ⟨h, good_of_word (List.mem_filter.mp h).2⟩
/-- what the tables say of a method -/
def h_MY (y : MethodName) (cc : ByteArray) (nL : Nat) (ret : Option FieldType) (n : Nat) : Prop := Cond.code y cc nL ret ∈ h_tbl ∧ Cond.initialized y.cls ∈ h_tbl ∧ (y.cls ≠ "java/lang/invoke/MethodHandle" ∧ y.cls ≠ "java/lang/invoke/VarHandle" ∧ (parseMethodDescriptor y.desc).map (fun d => d.parameters.length) = some n)
def h_MI (y : MethodName) : Prop := Cond.instanceMethod y ∈ h_tbl ∧ Cond.selects y.cls y y ∈ h_tbl
theorem h_blind {E : hE} {B : Nat} {T : hT} {As : List Value} {σ : hM} {sz : Nat} : FrameBlind (h_Pc E B T As σ sz) := fun a U g mk ⟨q0, q1, q2, q3⟩ => ⟨q0, q1, q2, h_X.same (H := U.heap) (u := U) rfl q3⟩
section HC
variable {p : Program} {l : Launch} {e : Env} {R : Room} {s : State} {m : MethodId} {args : Array Value} {below : List Frame} {meth : Method} {c : Code} {H : Heap} {locs : List Loc} {cells slots : Nat} {Q : State → Prop}
variable {cc : ByteArray} {pc nL : Nat} {ls : Array Slot} {rest st0 As : List Value} {E : hE} {B : Nat} {T : hT} {σ σ' : hM} {α : Type} {z : α} {a ci index d2 n nL2 : Nat} {own host : String} {y : MethodName} {cc2 : ByteArray} {ret2 : Option FieldType} {v : Option Value}
theorem h_X.go {H : Heap} {U : State} (hX : h_X E (h_A B T s.heap.size) s s.heap) (hw : h_W E B T s.heap σ H locs) (hU : U.heap = H) (hW : s.WarmedH U.vm) : h_Pc E B T As σ H.size As.toArray U :=
  ⟨rfl, by rw [hU], by rw [hU]; exact hw.1, by rw [hU, hw.2.2]; exact (hX.warm hW).kept hw.2.1.2.1⟩
theorem h_call {a1 : Array Value} (hr : va_Run p l e R s m args below meth c H locs cells slots 0 0 (F0 m pc ls st0) rest (h_Q E B T H.size v σ' a1) (h_A B T H.size)) {H0 : Heap} (hw : h_W E B T H0 σ H locs)
    (kk : ∀ (H1 : Heap) (locs1 : List Loc), h_W E B T H0 σ' H1 locs1 → W p l e R s m args below meth c H1 locs1 cells slots Q (F0 m (pc + 3) ls (v.toList ++ rest))) : W p l e R s m args below meth c H locs cells slots Q (F0 m pc ls st0) := by
  intro TT hT X
  obtain ⟨v', st₀, t, T', L, h0, X', hL, e1, e2, ⟨⟨hv, hp, hz⟩, hF1, hF2⟩, st⟩ := hr TT hT X
  cases hv
  rw [h0] at hF1 hF2
  have hsz : T'.heap.size = H0.size := by rw [e1, hz, hw.2.2]
  obtain ⟨t2, a2, b2⟩ := kk T'.heap (locs ++ L) ⟨by rw [e1]; exact hp, ⟨Nat.le_of_eq hsz.symm, fun q h1 h2 => by
      rw [e1, hF2 q (by rw [hw.2.2]; exact h1) (by rw [hw.2.2]; exact h2)]
      exact hw.2.1.2.1 q h1 h2, fun q hq => by
      rcases List.mem_append.mp hq with h | h
      · exact hw.2.1.2.2 q h
      · rw [← hw.2.2]; exact hL q h⟩, hsz⟩ T' rfl X'
  exact ⟨t2, st t2 a2, b2⟩
/-- the receiver -/
theorem h_recv (hX : h_X E (h_A B T s.heap.size) s s.heap) {H0 : Heap} (hw : h_W E B T H0 σ H locs) (hT : T.1 a = ci + 1) (hci : ci < 10) : ∃ cell : Cell, H[B + a]? = some cell ∧ cell.vm.isStatics = false ∧ s.vm.findClass (h_C ci) = some cell.cls := by
  obtain ⟨cell, q1, q2, q3, q4⟩ := (hw.1.1 a).1 ci hT hci
  obtain ⟨hS, hfc, -⟩ := hX.1.1 ci _ (h_cl_ok ci hci)
  exact ⟨cell, q1, by rw [q3]; rfl, by rw [q2]; exact hfc⟩
theorem h_cV0 (hx : p.tables.exec = Jvm.exec) (hb : c.code = cc) (hml : c.maxLocals = nL) (hts : ∀ w ∈ h_tbl, w.before args s = true) (hown : s.vm.findClass own = some m.cls) (hX : h_X E (h_A B T s.heap.size) s s.heap) (hw : h_W E B T s.heap σ H locs)
    (hMY : h_MY y cc2 nL2 ret2 n) (hMI : h_MI y) (hlk : Cond.methodLink own index y ∈ h_tbl) (hcls : y.cls = h_C ci ∧ ci < 10) (hT : T.1 a = ci + 1) (hC : h_Ct l E B T y cc2 nL2 ret2 d2 (.ref (B + a) :: As) σ σ' v) (hR : d2 + 1 ≤ R.frames ∧ 8 + (nL2 + 11) + 40 * d2 ≤ R.locals) (hcs : cells ≤ R.cells ∧ slots ≤ R.slots)
    (hn : As.length = n) (hsz : ls.size = nL) (hst : st0 = As.reverse ++ .ref (B + a) :: rest) (hcat : (rest.map fun v => v.category).sum ≤ 8) (hdg : decode cc pc = .ok (.invokevirtual index, 3))
    (kk : ∀ (H1 : Heap) (locs1 : List Loc), h_W E B T s.heap σ' H1 locs1 → W p l e R s m args below meth c H1 locs1 cells slots Q (F0 m (pc + 3) ls (v.toList ++ rest))) : W p l e R s m args below meth c H locs cells slots Q (F0 m pc ls st0) := by
  obtain ⟨g1, g2, g3⟩ := hMY
  refine h_call (va_runV (C := y.cls) (Ts := h_tbl) ⟨hx, hb, hml, hown, hts⟩ (hC H.size) ⟨callB_of n hts (h_good g1) rfl rfl rfl (hts _ g2) (hts _ hlk) g3 hR, hts _ hMI.1, hts _ hMI.2⟩ ⟨h_blind, by rw [hcls.1]; exact h_recv hX hw hT hcls.2, fun U hU hW => h_X.go hX hw hU hW⟩ rfl hn hsz hst (lv_room hcat) hdg hcs) hw kk
theorem h_cVN0 (hx : p.tables.exec = Jvm.exec) (hb : c.code = cc) (hml : c.maxLocals = nL) (hts : ∀ w ∈ h_tbl, w.before args s = true) (hown : s.vm.findClass own = some m.cls) (hX : h_X E (h_A B T s.heap.size) s s.heap) (hw : h_W E B T s.heap σ H locs)
    (hMY : h_MY y cc2 nL2 ret2 n) (hMI : h_MI y) (hlk : Cond.methodLinkNest own index y host ∈ h_nest) (hcls : y.cls = h_C ci ∧ ci < 10) (hT : T.1 a = ci + 1) (hC : h_Ct l E B T y cc2 nL2 ret2 d2 (.ref (B + a) :: As) σ σ' v) (hR : d2 + 1 ≤ R.frames ∧ 8 + (nL2 + 11) + 40 * d2 ≤ R.locals) (hcs : cells ≤ R.cells ∧ slots ≤ R.slots)
    (hn : As.length = n) (hsz : ls.size = nL) (hst : st0 = As.reverse ++ .ref (B + a) :: rest) (hcat : (rest.map fun v => v.category).sum ≤ 8) (hdg : decode cc pc = .ok (.invokevirtual index, 3))
    (kk : ∀ (H1 : Heap) (locs1 : List Loc), h_W E B T s.heap σ' H1 locs1 → W p l e R s m args below meth c H1 locs1 cells slots Q (F0 m (pc + 3) ls (v.toList ++ rest))) : W p l e R s m args below meth c H locs cells slots Q (F0 m pc ls st0) := by
  obtain ⟨g1, g2, g3⟩ := hMY
  refine h_call (va_runVN (C := y.cls) (Ts := h_tbl) ⟨hx, hb, hml, hown, hts⟩ (hC H.size) ⟨va_cnB n hts (h_good g1) rfl rfl rfl (hX.2.1 _ hlk) (hts _ g2) g3 hR, hts _ hMI.1, hts _ hMI.2⟩ ⟨h_blind, by rw [hcls.1]; exact h_recv hX hw hT hcls.2, fun U hU hW => h_X.go hX hw hU hW⟩ rfl hn hsz hst (lv_room hcat) hdg hcs) hw kk
theorem h_cS0 (hx : p.tables.exec = Jvm.exec) (hb : c.code = cc) (hml : c.maxLocals = nL) (hts : ∀ w ∈ h_tbl, w.before args s = true) (hown : s.vm.findClass own = some m.cls) (hX : h_X E (h_A B T s.heap.size) s s.heap) (hw : h_W E B T s.heap σ H locs)
    (hMY : h_MY y cc2 nL2 ret2 n) (hMS : Cond.static y ∈ h_tbl) (hlk : Cond.methodLink own index y ∈ h_tbl) (hC : h_Ct l E B T y cc2 nL2 ret2 d2 As σ σ' v) (hR : d2 + 1 ≤ R.frames ∧ 8 + (nL2 + 11) + 40 * d2 ≤ R.locals) (hcs : cells ≤ R.cells ∧ slots ≤ R.slots)
    (hn : As.length = n) (hsz : ls.size = nL) (hst : st0 = As.reverse ++ rest) (hcat : (rest.map fun v => v.category).sum ≤ 8) (hdg : decode cc pc = .ok (.invokestatic index, 3))
    (kk : ∀ (H1 : Heap) (locs1 : List Loc), h_W E B T s.heap σ' H1 locs1 → W p l e R s m args below meth c H1 locs1 cells slots Q (F0 m (pc + 3) ls (v.toList ++ rest))) : W p l e R s m args below meth c H locs cells slots Q (F0 m pc ls st0) := by
  obtain ⟨g1, g2, g3⟩ := hMY
  refine h_call (va_runS (Ts := h_tbl) ⟨hx, hb, hml, hown, hts⟩ (hC H.size) ⟨callB_of n hts (h_good g1) rfl rfl rfl (hts _ g2) (hts _ hlk) g3 hR, hts _ hMS⟩ ⟨h_blind, fun U hU hW => h_X.go hX hw hU hW⟩ rfl hn hsz hst (lv_room hcat) hdg hcs) hw kk
theorem h_cSN0 (hx : p.tables.exec = Jvm.exec) (hb : c.code = cc) (hml : c.maxLocals = nL) (hts : ∀ w ∈ h_tbl, w.before args s = true) (hown : s.vm.findClass own = some m.cls) (hX : h_X E (h_A B T s.heap.size) s s.heap) (hw : h_W E B T s.heap σ H locs)
    (hMY : h_MY y cc2 nL2 ret2 n) (hMS : Cond.static y ∈ h_tbl) (hlk : Cond.methodLinkNest own index y host ∈ h_nest) (hC : h_Ct l E B T y cc2 nL2 ret2 d2 As σ σ' v) (hR : d2 + 1 ≤ R.frames ∧ 8 + (nL2 + 11) + 40 * d2 ≤ R.locals) (hcs : cells ≤ R.cells ∧ slots ≤ R.slots)
    (hn : As.length = n) (hsz : ls.size = nL) (hst : st0 = As.reverse ++ rest) (hcat : (rest.map fun v => v.category).sum ≤ 8) (hdg : decode cc pc = .ok (.invokestatic index, 3))
    (kk : ∀ (H1 : Heap) (locs1 : List Loc), h_W E B T s.heap σ' H1 locs1 → W p l e R s m args below meth c H1 locs1 cells slots Q (F0 m (pc + 3) ls (v.toList ++ rest))) : W p l e R s m args below meth c H locs cells slots Q (F0 m pc ls st0) := by
  obtain ⟨g1, g2, g3⟩ := hMY
  refine h_call (va_runSN (Ts := h_tbl) ⟨hx, hb, hml, hown, hts⟩ (hC H.size) ⟨va_cnB n hts (h_good g1) rfl rfl rfl (hX.2.1 _ hlk) (hts _ g2) g3 hR, hts _ hMS, trivial⟩ ⟨h_blind, fun U hU hW => h_X.go hX hw hU hW⟩ rfl hn hsz hst (lv_room hcat) hdg hcs) hw kk
theorem h_bind {α β : Type} {o : Option α} {κ : α → Option β} {z : β} (h : o.bind κ = some z) : ∃ x, o = some x ∧ κ x = some z := by
  cases o with
  | none => cases h
  | some x => exact ⟨x, rfl, h⟩
/-- returns -/
theorem h_endQ {v : Option Value} {H0 : Heap} (hw : h_W E B T s.heap σ H locs) : ∀ t : State, t.heap = H → s.WarmedH t.vm → h_Q E B T s.heap.size v σ args s (.returned v) t := fun t ht _ => ⟨⟨rfl, by rw [ht]; exact hw.1, by rw [ht]; exact hw.2.2⟩, hw.2.1.F ht⟩
theorem h_iret {x : Int32} {q : Int32 × hM} (hf : some (x, σ) = some q) (hx : p.tables.exec = Jvm.exec) (hb : c.code = cc) (hr : meth.sig.returnType = some .int) (hlk : meth.locks = false) (hw : h_W E B T s.heap σ H locs) (hdg : decode cc pc = .ok (.ireturn, 1)) :
    W p l e R s m args below meth c H locs 0 0 (MQ below (h_Q E B T s.heap.size (some (.int q.1)) q.2) args s 0 0 (h_A B T s.heap.size)) (F0 m pc ls [.int x]) := by
  cases hf
  exact W.iret hx hb hr (h_endQ (H0 := H) hw) hw.2.1.2.2 hdg hlk
theorem h_zret {x : Int32} {q : Int32 × hM} (hf : rtz x σ = some q) (hx : p.tables.exec = Jvm.exec) (hb : c.code = cc) (hr : meth.sig.returnType = some .boolean) (hlk : meth.locks = false) (hw : h_W E B T s.heap σ H locs) (hdg : decode cc pc = .ok (.ireturn, 1)) :
    W p l e R s m args below meth c H locs 0 0 (MQ below (h_Q E B T s.heap.size (some (.int q.1)) q.2) args s 0 0 (h_A B T s.heap.size)) (F0 m pc ls [.int x]) := by
  unfold rtz at hf
  by_cases h01 : x = 0 ∨ x = 1
  · rw [if_pos h01] at hf
    have hn : narrow .boolean (.int x) = .int x := by rcases h01 with rfl | rfl <;> rfl
    cases hf
    exact W.zret hx hb hr hn (h_endQ (H0 := H) hw) hw.2.1.2.2 hdg hlk
  · rw [if_neg h01] at hf; cases hf
theorem h_vret {q : hM} (hf : some σ = some q) (hx : p.tables.exec = Jvm.exec) (hb : c.code = cc) (hr : meth.sig.returnType = none) (hlk : meth.locks = false) (hw : h_W E B T s.heap σ H locs) (hdg : decode cc pc = .ok (.return_, 1)) :
    W p l e R s m args below meth c H locs 0 0 (MQ below (h_Q E B T s.heap.size none q) args s 0 0 (h_A B T s.heap.size)) (F0 m pc ls []) := by
  cases hf
  exact W.vret hx hb hr (h_endQ (H0 := H) hw) hw.2.1.2.2 hdg hlk
theorem h_lret {x : Int64} {q : Int64 × hM} (hf : some (x, σ) = some q) (hx : p.tables.exec = Jvm.exec) (hb : c.code = cc) (hr : meth.sig.returnType = some .long) (hlk : meth.locks = false) (hw : h_W E B T s.heap σ H locs) (hdg : decode cc pc = .ok (.lreturn, 1)) :
    W p l e R s m args below meth c H locs 0 0 (MQ below (h_Q E B T s.heap.size (some (.long q.1)) q.2) args s 0 0 (h_A B T s.heap.size)) (F0 m pc ls [.long x]) := by
  cases hf
  exact W.lret hx hb hr (h_endQ (H0 := H) hw) hw.2.1.2.2 hdg hlk
end HC
