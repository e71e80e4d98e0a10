/-! contracts of what makes cells -/
def h_PcA (E : hE) (B : Nat) (T : hT) (As : List Value) (σ : hM) (n : Nat) : Array Value → State → Prop := va_Pc As (fun U => U.heap.size = B + n ∧ (h_P E B (tr T n) σ U.heap ∧ ∀ a, a < n → T.1 a ≠ 0) ∧ h_X E (fun q => B ≤ q) U U.heap ∧ h_Y U)
def h_QA (E : hE) (B : Nat) (T : hT) (v : Option Value) (σ' : hM) (n' : Nat) : Array Value → State → Outcome → State → Prop := fun _ st oc t => (oc = .returned v ∧ (h_P E B (tr T n') σ' t.heap ∧ ∀ a, a < n' → T.1 a ≠ 0) ∧ t.heap.size = B + n') ∧ va_F (fun q => B ≤ q) st t
def h_CA (l : Launch) (E : hE) (B : Nat) (T : hT) (y : MethodName) (cc : ByteArray) (nL : Nat) (ret : Option FieldType) (rm : Room) (As : List Value) (σ : hM) (n : Nat) (σ' : hM) (n' : Nat) (v : Option Value) : Prop := Met l y (.code y cc nL ret :: h_tbl) rm (h_PcA E B T As σ n) (h_QA E B T v σ' n') rm.cells rm.slots (fun q => B ≤ q)
def h_ΓA (E : hE) (B : Nat) (p : Program) (s : State) (m : MethodId) (args : Array Value) (meth : Method) (c : Code) (cc : ByteArray) (nL : Nat) (ret : Option FieldType) (y : MethodName) : Prop :=
  p.tables.exec = Jvm.exec ∧ c.code = cc ∧ meth.sig.returnType = ret ∧ c.maxLocals = nL ∧ (∀ w ∈ h_tbl, w.before args s = true) ∧ s.vm.findClass y.cls = some m.cls ∧ meth.locks = false ∧ h_X E (fun q => B ≤ q) s s.heap ∧ h_Y s ∧ meth.name = y.name
abbrev h_QAv (below : List Frame) (E : hE) (B : Nat) (T : hT) (args : Array Value) (s : State) (rm : Room) (z : hM × Nat) : State → Prop := MQ below (h_QA E B T none z.1 z.2) args s rm.cells rm.slots (fun q => B ≤ q)
abbrev h_QAr (below : List Frame) (E : hE) (B : Nat) (T : hT) (args : Array Value) (s : State) (rm : Room) (z : Nat × hM × Nat) : State → Prop := MQ below (h_QA E B T (some (.ref (B + z.1))) z.2.1 z.2.2) args s rm.cells rm.slots (fun q => B ≤ q)
theorem h_ofA {l : Launch} {E : hE} {B : Nat} {T : hT} {y : MethodName} {cc : ByteArray} {nL : Nat} {ret : Option FieldType} {rm : Room} {As : List Value} {σ σ' : hM} {n n' : Nat} {v : Option Value} (hy : plainName y.cls = true) (hn : (lg_sl As).length ≤ nL)
    (body : ∀ (p : Program) (e : Env) (s : State) (m : MethodId) (below : List Frame) (meth : Method) (c : Code) (ls : Array Slot), h_ΓA E B p s m As.toArray meth c cc nL ret y → lv_has ls nL (lv_args 0 As) → h_Wa E B T s.heap σ n s.heap [] →
      W p l e rm s m As.toArray below meth c s.heap [] 0 0 (MQ below (h_QA E B T v σ' n') As.toArray s rm.cells rm.slots (fun q => B ≤ q)) (F0 m 0 ls [])) : h_CA l E B T y cc nL ret rm As σ n σ' n' v := by
  refine Met.ofW (cc := cc) (maxL := nL) (ret := ret) hy rfl ?_
  intro p e s m args below meth c s₁ BB hml hv
  obtain ⟨rfl, hsz, hP, hX, hY⟩ := hv
  have hts := atoms_spec (ws := .code y cc nL ret :: h_tbl) BB.pre
  have hl := lv_entry As (n := nL) hn
  rw [lg_entry_eq]
  generalize (lg_sl As ++ List.replicate (nL - (lg_sl As).length) Slot.unset).toArray = ls at hl ⊢
  exact body p e s m below meth c ls ⟨BB.exec, BB.bytes, BB.returns, hml, fun w h => hts w (List.mem_cons_of_mem _ h), findClass_of_methodNamed BB.named, BB.notSynchronized, hX, hY, (name_of_methodNamed BB.named BB.method).1⟩ hl ⟨hP.1, va_S.rf, hsz, hP.2⟩
theorem h_blindA {E : hE} {B : Nat} {T : hT} {As : List Value} {σ : hM} {n : Nat} : FrameBlind (h_PcA E B T As σ n) := fun a U g mk ⟨q0, q1, q2, q3, q4⟩ => ⟨q0, q1, q2, h_X.same (H := U.heap) (u := U) rfl q3, q4⟩
theorem h_oc : Cond.code objectInit ⟨#[0xb1]⟩ 1 none ∈ h_tbl := h_tb 96 (by decide +kernel)
theorem h_oi : Cond.instanceMethod objectInit ∈ h_tbl := h_tb 95 (by decide +kernel)
theorem h_aci : Cond.arrayClass .int ∈ h_tbl := h_tb 146 (by decide +kernel)
theorem h_acb : Cond.arrayClass .byte ∈ h_tbl := h_tb 125 (by decide +kernel)
theorem h_acz : Cond.arrayClass .boolean ∈ h_tbl := h_tb 1086 (by decide +kernel)
theorem h_acl : Cond.arrayClass .long ∈ h_tbl := h_tb 305 (by decide +kernel)
section HK
variable {p : Program} {l : Launch} {e : Env} {R rm : Room} {s : State} {m : MethodId} {args : Array Value} {below : List Frame} {meth : Method} {c : Code} {H : Heap} {locs : List Loc} {cells slots : Nat} {Q : State → Prop}
variable {cc : ByteArray} {pc nL : Nat} {ls : Array Slot} {rest st0 As : List Value} {E : hE} {B : Nat} {T : hT} {σ σ' : hM} {α : Type} {z : α} {a index d2 n n' np nL2 : Nat} {own host : String} {y : MethodName} {cc2 : ByteArray} {ret2 : Option FieldType} {v : Option Value} {H0 : Heap}
theorem h_obj (hx : p.tables.exec = Jvm.exec) (hb : c.code = cc) (hml : c.maxLocals = nL) (hsz : ls.size = nL) (hts : ∀ w ∈ h_tbl, w.before args s = true) (hown : s.vm.findClass own = some m.cls) (hlk : Cond.methodLink own index objectInit ∈ h_tbl) (hR : 1 ≤ R.frames ∧ (rest.map fun v => v.category).sum + 12 ≤ R.locals) (hdg : decode cc pc = .ok (.invokespecial index, 3))
    (kk : W p l e R s m args below meth c H locs cells slots Q (F0 m (pc + 3) ls rest)) : W p l e R s m args below meth c H locs cells slots Q (F0 m pc ls (.ref a :: rest)) :=
  W.objInit hx hb hown (hts _ hlk) (hts _ h_oi) (hts _ h_oc) rfl (by rw [hml]; exact hsz) rfl hdg hR.1 (by show 2 * 0 + _ + 12 ≤ _; have := hR.2; omega) kk
theorem h_goA {U : State} (hX : h_X E (fun q => B ≤ q) s s.heap) (hY : h_Y s) (hw : h_Wa E B T s.heap σ n H locs) (hU : U.heap = H) (hW : s.WarmedH U.vm) : h_PcA E B T As σ n As.toArray U :=
  ⟨rfl, by rw [hU]; exact hw.2.2.1, by rw [hU]; exact ⟨hw.1, hw.2.2.2⟩, by rw [hU]; exact (hX.warm hW).kept hw.2.1.2.1, hY.moved hW.alike⟩
theorem h_callA {a1 : Array Value} {mc ms : Nat} (hr : va_Run p l e R s m args below meth c H locs cells slots mc ms (F0 m pc ls st0) rest (h_QA E B T v σ' n' a1) (fun q => B ≤ q)) (hw : h_Wa E B T H0 σ n H locs)
    (kk : ∀ (H1 : Heap) (locs1 : List Loc), h_Wa E B T H0 σ' n' H1 locs1 → W p l e R s m args below meth c H1 locs1 (cells + mc) (slots + ms) Q (F0 m (pc + 3) ls (v.toList ++ rest))) : W p l e R s m args below meth c H locs cells slots Q (F0 m pc ls st0) := by
  intro TT hT X
  obtain ⟨v', st₀, t, T', L, h0, X', hL, e1, e2, ⟨⟨hv, hp, hz⟩, hF1, hF2⟩, st⟩ := hr TT hT X
  cases hv
  rw [h0] at hF1 hF2
  obtain ⟨t2, a2, b2⟩ := kk T'.heap (locs ++ L) ⟨by rw [e1]; exact hp.1, ⟨Nat.le_trans hw.2.1.1 (by rw [e1]; exact hF1), fun q h1 h2 => by
      rw [e1, hF2 q (Nat.lt_of_lt_of_le h1 hw.2.1.1) h2]
      exact hw.2.1.2.1 q h1 h2, fun q hq => by
      rcases List.mem_append.mp hq with h | h
      · exact hw.2.1.2.2 q h
      · exact hL q h⟩, by rw [e1]; exact hz, hp.2⟩ T' rfl X'
  exact ⟨t2, st t2 a2, b2⟩
/-- a constructor of a nest mate -/
theorem h_cIN {F : Option (hM × Nat)} {κ : hM × Nat → Option α} (hf : F.bind κ = some z) (hx : p.tables.exec = Jvm.exec) (hb : c.code = cc) (hml : c.maxLocals = nL) (hts : ∀ w ∈ h_tbl, w.before args s = true) (hown : s.vm.findClass own = some m.cls) (hX : h_X E (fun q => B ≤ q) s s.heap) (hY : h_Y s) (hw : h_Wa E B T s.heap σ n H locs)
    (hMY : h_MY y cc2 nL2 none np) (hMI : Cond.instanceMethod y ∈ h_tbl) (hlk : Cond.methodLinkNest own index y host ∈ h_nest) (hnm : y.name = "<init>") (hC : ∀ q, F = some q → h_CA l E B T y cc2 nL2 none rm (.ref (B + a) :: As) σ n q.1 q.2 none) (hR : rm.frames + 1 ≤ R.frames ∧ 8 + (nL2 + 11) + rm.locals ≤ R.locals) (hcs : cells + rm.cells ≤ R.cells ∧ slots + rm.slots ≤ R.slots)
    (hn : As.length = np) (hsz : ls.size = nL) (hst : st0 = As.reverse ++ .ref (B + a) :: rest) (hcat : (rest.map fun v => v.category).sum ≤ 8) (hdg : decode cc pc = .ok (.invokespecial index, 3))
    (kk : ∀ (q : hM × Nat) (H1 : Heap) (locs1 : List Loc), κ q = some z → h_Wa E B T s.heap q.1 q.2 H1 locs1 → W p l e R s m args below meth c H1 locs1 (cells + rm.cells) (slots + rm.slots) Q (F0 m (pc + 3) ls rest)) : W p l e R s m args below meth c H locs cells slots Q (F0 m pc ls st0) := by
  obtain ⟨q, hq, hf⟩ := h_bind hf
  obtain ⟨g1, g2, g3⟩ := hMY
  exact h_callA (va_runIN (Ts := h_tbl) ⟨hx, hb, hml, hown, hts⟩ (hC q hq) ⟨va_cnB np hts (h_good g1) rfl rfl rfl (hX.2.1 _ hlk) (hts _ g2) g3 hR, hnm, hts _ hMI⟩ ⟨h_blindA, fun U hU hW => h_goA hX hY hw hU hW⟩ rfl hn hsz hst (lv_room hcat) hdg hcs) hw (fun H1 L1 h => kk q H1 L1 hf h)
theorem h_cIP {F : Option (hM × Nat)} {κ : hM × Nat → Option α} (hf : F.bind κ = some z) (hx : p.tables.exec = Jvm.exec) (hb : c.code = cc) (hml : c.maxLocals = nL) (hts : ∀ w ∈ h_tbl, w.before args s = true) (hown : s.vm.findClass own = some m.cls) (hX : h_X E (fun q => B ≤ q) s s.heap) (hY : h_Y s) (hw : h_Wa E B T s.heap σ n H locs)
    (hMY : h_MY y cc2 nL2 none np) (hMI : Cond.instanceMethod y ∈ h_tbl) (hlk : Cond.methodLink own index y ∈ h_tbl) (hnm : y.name = "<init>") (hC : ∀ q, F = some q → h_CA l E B T y cc2 nL2 none rm (.ref (B + a) :: As) σ n q.1 q.2 none) (hR : rm.frames + 1 ≤ R.frames ∧ 8 + (nL2 + 11) + rm.locals ≤ R.locals) (hcs : cells + rm.cells ≤ R.cells ∧ slots + rm.slots ≤ R.slots)
    (hn : As.length = np) (hsz : ls.size = nL) (hst : st0 = As.reverse ++ .ref (B + a) :: rest) (hcat : (rest.map fun v => v.category).sum ≤ 8) (hdg : decode cc pc = .ok (.invokespecial index, 3))
    (kk : ∀ (q : hM × Nat) (H1 : Heap) (locs1 : List Loc), κ q = some z → h_Wa E B T s.heap q.1 q.2 H1 locs1 → W p l e R s m args below meth c H1 locs1 (cells + rm.cells) (slots + rm.slots) Q (F0 m (pc + 3) ls rest)) : W p l e R s m args below meth c H locs cells slots Q (F0 m pc ls st0) := by
  obtain ⟨q, hq, hf⟩ := h_bind hf
  obtain ⟨g1, g2, g3⟩ := hMY
  exact h_callA (va_runI (Ts := h_tbl) ⟨hx, hb, hml, hown, hts⟩ (hC q hq) ⟨callB_of np hts (h_good g1) rfl rfl rfl (hts _ g2) (hts _ hlk) g3 hR, hnm, hts _ hMI⟩ ⟨h_blindA, fun U hU hW => h_goA hX hY hw hU hW⟩ rfl hn hsz hst (lv_room hcat) hdg hcs) hw (fun H1 L1 h => kk q H1 L1 hf h)
theorem h_cSr {F : Option (Nat × hM × Nat)} {κ : Nat × hM × Nat → Option α} (hf : F.bind κ = some z) (hx : p.tables.exec = Jvm.exec) (hb : c.code = cc) (hml : c.maxLocals = nL) (hts : ∀ w ∈ h_tbl, w.before args s = true) (hown : s.vm.findClass own = some m.cls) (hX : h_X E (fun q => B ≤ q) s s.heap) (hY : h_Y s) (hw : h_Wa E B T s.heap σ n H locs)
    (hMY : h_MY y cc2 nL2 ret2 np) (hMS : Cond.static y ∈ h_tbl) (hlk : Cond.methodLink own index y ∈ h_tbl) (hC : ∀ q, F = some q → h_CA l E B T y cc2 nL2 ret2 rm As σ n q.2.1 q.2.2 (some (.ref (B + q.1)))) (hR : rm.frames + 1 ≤ R.frames ∧ 8 + (nL2 + 11) + rm.locals ≤ R.locals) (hcs : cells + rm.cells ≤ R.cells ∧ slots + rm.slots ≤ R.slots)
    (hn : As.length = np) (hsz : ls.size = nL) (hst : st0 = As.reverse ++ rest) (hcat : (rest.map fun v => v.category).sum ≤ 8) (hdg : decode cc pc = .ok (.invokestatic index, 3))
    (kk : ∀ (q : Nat × hM × Nat) (H1 : Heap) (locs1 : List Loc), κ q = some z → h_Wa E B T s.heap q.2.1 q.2.2 H1 locs1 → W p l e R s m args below meth c H1 locs1 (cells + rm.cells) (slots + rm.slots) Q (F0 m (pc + 3) ls (.ref (B + q.1) :: rest))) : W p l e R s m args below meth c H locs cells slots Q (F0 m pc ls st0) := by
  obtain ⟨q, hq, hf⟩ := h_bind hf
  obtain ⟨g1, g2, g3⟩ := hMY
  exact h_callA (va_runS (Ts := h_tbl) ⟨hx, hb, hml, hown, hts⟩ (hC q hq) ⟨callB_of np hts (h_good g1) rfl rfl rfl (hts _ g2) (hts _ hlk) g3 hR, hts _ hMS⟩ ⟨h_blindA, fun U hU hW => h_goA hX hY hw hU hW⟩ rfl hn hsz hst (lv_room hcat) hdg hcs) hw (fun H1 L1 h => kk q H1 L1 hf h)
theorem h_cNr {F : Option (Nat × hM × Nat)} {κ : Nat × hM × Nat → Option α} (hf : F.bind κ = some z) (hx : p.tables.exec = Jvm.exec) (hb : c.code = cc) (hml : c.maxLocals = nL) (hts : ∀ w ∈ h_tbl, w.before args s = true) (hown : s.vm.findClass own = some m.cls) (hX : h_X E (fun q => B ≤ q) s s.heap) (hY : h_Y s) (hw : h_Wa E B T s.heap σ n H locs)
    (hMY : h_MY y cc2 nL2 ret2 np) (hMS : Cond.static y ∈ h_tbl) (hlk : Cond.methodLinkNest own index y host ∈ h_nest) (hC : ∀ q, F = some q → h_CA l E B T y cc2 nL2 ret2 rm As σ n q.2.1 q.2.2 (some (.ref (B + q.1)))) (hR : rm.frames + 1 ≤ R.frames ∧ 8 + (nL2 + 11) + rm.locals ≤ R.locals) (hcs : cells + rm.cells ≤ R.cells ∧ slots + rm.slots ≤ R.slots)
    (hn : As.length = np) (hsz : ls.size = nL) (hst : st0 = As.reverse ++ rest) (hcat : (rest.map fun v => v.category).sum ≤ 8) (hdg : decode cc pc = .ok (.invokestatic index, 3))
    (kk : ∀ (q : Nat × hM × Nat) (H1 : Heap) (locs1 : List Loc), κ q = some z → h_Wa E B T s.heap q.2.1 q.2.2 H1 locs1 → W p l e R s m args below meth c H1 locs1 (cells + rm.cells) (slots + rm.slots) Q (F0 m (pc + 3) ls (.ref (B + q.1) :: rest))) : W p l e R s m args below meth c H locs cells slots Q (F0 m pc ls st0) := by
  obtain ⟨q, hq, hf⟩ := h_bind hf
  obtain ⟨g1, g2, g3⟩ := hMY
  exact h_callA (va_runSN (Ts := h_tbl) ⟨hx, hb, hml, hown, hts⟩ (hC q hq) ⟨va_cnB np hts (h_good g1) rfl rfl rfl (hX.2.1 _ hlk) (hts _ g2) g3 hR, hts _ hMS, trivial⟩ ⟨h_blindA, fun U hU hW => h_goA hX hY hw hU hW⟩ rfl hn hsz hst (lv_room hcat) hdg hcs) hw (fun H1 L1 h => kk q H1 L1 hf h)
/-- a static method that makes nothing -/
theorem h_cSvA {F : Option hM} {κ : hM → Option α} (hf : F.bind κ = some z) (hx : p.tables.exec = Jvm.exec) (hb : c.code = cc) (hml : c.maxLocals = nL) (hts : ∀ w ∈ h_tbl, w.before args s = true) (hown : s.vm.findClass own = some m.cls) (hX : h_X E (fun q => B ≤ q) s s.heap) (hw : h_Wa E B T s.heap σ n H locs)
    (hMY : h_MY y cc2 nL2 ret2 np) (hMS : Cond.static y ∈ h_tbl) (hlk : Cond.methodLink own index y ∈ h_tbl) (hC : ∀ q, F = some q → h_Ct l E B (tr T n) y cc2 nL2 ret2 d2 As σ q none) (hR : d2 + 1 ≤ R.frames ∧ 8 + (nL2 + 11) + 40 * d2 ≤ R.locals) (hcs : cells ≤ R.cells ∧ slots ≤ R.slots)
    (hn : As.length = np) (hsz : ls.size = nL) (hst : st0 = As.reverse ++ rest) (hcat : (rest.map fun v => v.category).sum ≤ 8) (hdg : decode cc pc = .ok (.invokestatic index, 3))
    (kk : ∀ (q : hM) (H1 : Heap) (locs1 : List Loc), κ q = some z → h_Wa E B T s.heap q n H1 locs1 → W p l e R s m args below meth c H1 locs1 cells slots Q (F0 m (pc + 3) ls rest)) : W p l e R s m args below meth c H locs cells slots Q (F0 m pc ls st0) := by
  obtain ⟨q, hq, hf⟩ := h_bind hf
  obtain ⟨g1, g2, g3⟩ := hMY
  have hk : ∀ q, h_A B (tr T n) H.size q → B ≤ q := by
    intro q hq
    rcases hq with ⟨a, -, rfl⟩ | hq
    · exact Nat.le_add_right _ _
    · rw [hw.2.2.1] at hq; omega
  exact h_call (va_runS (Ts := h_tbl) ⟨hx, hb, hml, hown, hts⟩ (hC q hq H.size) ⟨callB_of np hts (h_good g1) rfl rfl rfl (hts _ g2) (hts _ hlk) g3 hR, hts _ hMS⟩ ⟨h_blind, fun U hU hW => ⟨rfl, by rw [hU], by rw [hU]; exact hw.1, by rw [hU]; exact ((hX.warm hW).kept hw.2.1.2.1).narrow hk⟩⟩ rfl hn hsz hst (lv_room hcat) hdg hcs) (h_ba hw) (fun H1 L1 h => kk q H1 L1 hf (h_bb hw h))
theorem h_endA {v : Option Value} (hw : h_Wa E B T s.heap σ n H locs) : ∀ t : State, t.heap = H → s.WarmedH t.vm → h_QA E B T v σ n args s (.returned v) t := fun t ht _ => ⟨⟨rfl, by rw [ht]; exact ⟨hw.1, hw.2.2.2⟩, by rw [ht]; exact hw.2.2.1⟩, hw.2.1.F ht⟩
theorem h_vretA {q : hM × Nat} (hf : some (σ, n) = some q) (hx : p.tables.exec = Jvm.exec) (hb : c.code = cc) (hr : meth.sig.returnType = none) (hlk : meth.locks = false) (hw : h_Wa E B T s.heap σ n H locs) (hcs : cells ≤ rm.cells ∧ slots ≤ rm.slots) (hdg : decode cc pc = .ok (.return_, 1)) :
    W p l e R s m args below meth c H locs cells slots (h_QAv below E B T args s rm q) (F0 m pc ls []) := by
  cases hf
  exact W.widen hcs.1 hcs.2 (W.vret hx hb hr (h_endA hw) hw.2.1.2.2 hdg hlk)
theorem h_aretA {q : Nat × hM × Nat} {t : FieldType} (hf : some (a, σ, n) = some q) (hx : p.tables.exec = Jvm.exec) (hb : c.code = cc) (hr : meth.sig.returnType = some (.array t)) (hlk : meth.locks = false) (hw : h_Wa E B T s.heap σ n H locs) (hcs : cells ≤ rm.cells ∧ slots ≤ rm.slots) (hdg : decode cc pc = .ok (.areturn, 1)) :
    W p l e R s m args below meth c H locs cells slots (h_QAr below E B T args s rm q) (F0 m pc ls [.ref (B + a)]) := by
  cases hf
  exact W.widen hcs.1 hcs.2 (W.aret hx hb hr (Or.inr ⟨t, rfl⟩) (Or.inr ⟨_, rfl⟩) (h_endA hw) hw.2.1.2.2 hdg hlk)
theorem h_putn {κ : hM → Option α} {A : Nat → Prop} {ci k : Nat} (hf : (ptr T σ a ci k none).bind κ = some z) (hx : p.tables.exec = Jvm.exec) (hb : c.code = cc) (hts : ∀ w ∈ h_tbl, w.before args s = true) (hown : s.vm.findClass own = some m.cls) (hX : h_X E A s s.heap) (hw : h_W E B T H0 σ H locs) (hL : h_FL own index ci k) (ht : h_tag (h_fty ci k) = 2 ∧ (h_T ci k).2.2.2 = false) (hdg : decode cc pc = .ok (.putfield index, 3))
    (kk : ∀ (σ1 : hM) (H1 : Heap) (locs1 : List Loc), κ σ1 = some z → h_W E B T H0 σ1 H1 locs1 → W p l e R s m args below meth c H1 locs1 cells slots Q (F0 m (pc + 3) ls rest)) : W p l e R s m args below meth c H locs cells slots Q (F0 m pc ls (.null :: .ref (B + a) :: rest)) := by
  obtain ⟨hT, hf⟩ := ob_some hf
  exact h_put0 (v := va_rf none) hx hb hts hown hX hw hL ht.2 hT (h_nar2 ht.1 _).1 (h_nar2 ht.1 _).2 h_w2R ((h_val2 ht.1).trans (by simp [wR, h_w2, h_lf])) h_wVR hdg (fun H1 locs1 h => kk _ H1 locs1 hf h)
end HK
