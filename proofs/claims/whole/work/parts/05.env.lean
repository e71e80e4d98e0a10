/-! WHAT THE MACHINE HOLDS BESIDE THE WORLD: class tables, nest links, String constants, statics -/
def h_isNest (w : Cond) : Bool := match w with
  | .methodLinkNest _ _ _ _ => true
  | _ => false
def h_nest : List Cond := lw_tbl.filter h_isNest
def h_sown (i : Nat) : String × Nat × String := match i with
  | 0 => (RX1, 31, "note breath ")
  | 1 => (RX8, 329, "singer ")
  | 2 => (RX3, 36, "plain true drifting narrow growling short deaf hushed ")
  | 3 => (RX7, 37, "task ")
  | _ => (RX7, 66, "ear voice memory range ")
/-- the signs of the constants -/
def h_sb : List (List Int32) := [[110, 111, 116, 101, 32, 98, 114, 101, 97, 116, 104, 32], [115, 105, 110, 103, 101, 114, 32], [112, 108, 97, 105, 110, 32, 116, 114, 117, 101, 32, 100, 114, 105, 102, 116, 105, 110, 103, 32, 110, 97, 114, 114, 111, 119, 32, 103, 114, 111, 119, 108, 105, 110, 103, 32, 115, 104, 111, 114, 116, 32, 100, 101, 97, 102, 32, 104, 117, 115, 104, 101, 100, 32], [116, 97, 115, 107, 32], [101, 97, 114, 32, 118, 111, 105, 99, 101, 32, 109, 101, 109, 111, 114, 121, 32, 114, 97, 110, 103, 101, 32]]
def h_sl : List Nat := [12, 7, 54, 5, 23]
def h_three : List Int32 := [1, 3, 9, 27, 81, 243]
def h_X (E : hE) (A : Nat → Prop) (U : State) (H : Heap) : Prop :=
  va_K E.1 vwCl (h_tys E) U ∧ (∀ w ∈ h_nest, va_Nw w U) ∧ (∀ i, i < 5 → vk_R (h_sown i).1 (h_sown i).2.1 (h_sown i).2.2 (E.2.2.1 i) U) ∧ vk_S 5 h_sl h_sb E.2.2.1 E.2.2.2.1 A U H ∧ (va_Z RX2 "THREES" "[I" (.ref E.2.2.2.2) A U H ∧ va_T .int E.2.2.2.2 6 (fun j => .int (h_three.getD j 0)) A U H) ∧ va_Z RJ0 "COMPACT_STRINGS" "Z" (.int 1) A U H ∧ va_Zq RJ3 "SIOOBE_FORMATTER" "Ljava/util/function/BiFunction;" A U H
theorem h_alike {u U : State} (hv : U.vm = u.vm) : u.vm.Alike U.vm := by rw [hv]; exact Vm.Alike.refl u.vm
theorem h_nestform {w : Cond} (h : w ∈ h_nest) : ∃ a i x b, w = .methodLinkNest a i x b := by
  have h2 := (List.mem_filter.mp h).2
  cases w <;> first | exact ⟨_, _, _, _, rfl⟩ | cases h2
theorem h_X.same {E : hE} {A : Nat → Prop} {u U : State} {H : Heap} (hv : U.vm = u.vm) (h : h_X E A u H) : h_X E A U H := by
  obtain ⟨h1, h2, h3, h4, ⟨h5, h6⟩, h7, h8⟩ := h
  refine ⟨va_K.moved (h_alike hv) h1, fun w hw => ?_, fun i hi => (h3 i hi).same hv, h4.moved (h_alike hv), ⟨h5.moved (h_alike hv), h6.moved (h_alike hv)⟩, h7.moved (h_alike hv), h8.moved (h_alike hv)⟩
  obtain ⟨a, i, x, b, rfl⟩ := h_nestform hw
  exact va_Nw.same rfl hv.symm (h2 _ hw)
theorem h_X.warm {E : hE} {A : Nat → Prop} {s U : State} {H : Heap} (hW : s.WarmedH U.vm) (h : h_X E A s H) : h_X E A U H := by
  obtain ⟨h1, h2, h3, h4, ⟨h5, h6⟩, h7, h8⟩ := h
  refine ⟨va_K.moved hW.alike h1, fun w hw => ?_, fun i hi => (h3 i hi).warm hW, h4.moved hW.alike, ⟨h5.moved hW.alike, h6.moved hW.alike⟩, h7.moved hW.alike, h8.moved hW.alike⟩
  obtain ⟨a, i, x, b, rfl⟩ := h_nestform hw
  exact va_Nw.warmM hW (h2 _ hw)
theorem h_X.kept {E : hE} {A : Nat → Prop} {U : State} {H H1 : Heap} (h : h_X E A U H) (hq : ∀ a : Nat, a < H.size → ¬ A a → H1[a]? = H[a]?) : h_X E A U H1 := by
  obtain ⟨h1, h2, h3, h4, ⟨h5, h6⟩, h7, h8⟩ := h
  exact ⟨h1, h2, h3, h4.kept hq, ⟨h5.kept hq, h6.kept hq⟩, h7.kept hq, h8.kept hq⟩
theorem h_X.narrow {E : hE} {A A1 : Nat → Prop} {U : State} {H : Heap} (h : h_X E A U H) (hAB : ∀ q, A1 q → A q) : h_X E A1 U H := by
  obtain ⟨h1, h2, h3, h4, ⟨h5, h6⟩, h7, h8⟩ := h
  exact ⟨h1, h2, h3, h4.narrow hAB, ⟨h5.narrow hAB, h6.narrow hAB⟩, h7.narrow hAB, h8.narrow hAB⟩
/-- the room of a method that makes nothing, d calls deep -/
def h_rm (d : Nat) : Room := { frames := d, cells := 0, slots := 0, locals := 40 * d }
def h_Pc (E : hE) (B : Nat) (T : hT) (As : List Value) (σ : hM) (sz : Nat) : Array Value → State → Prop := va_Pc As (fun U => U.heap.size = sz ∧ h_P E B T σ U.heap ∧ h_X E (h_A B T sz) U U.heap)
def h_Q (E : hE) (B : Nat) (T : hT) (sz : Nat) (v : Option Value) (σ' : hM) : Array Value → State → Outcome → State → Prop := fun _ st oc t => (oc = .returned v ∧ h_P E B T σ' t.heap ∧ t.heap.size = sz) ∧ va_F (h_A B T sz) st t
/-- a method's contract: from σ it comes to σ', and answers v -/
def h_Ct (l : Launch) (E : hE) (B : Nat) (T : hT) (y : MethodName) (cc : ByteArray) (nL : Nat) (ret : Option FieldType) (d : Nat) (As : List Value) (σ σ' : hM) (v : Option Value) : Prop :=
  ∀ sz, Met l y (.code y cc nL ret :: h_tbl) (h_rm d) (h_Pc E B T As σ sz) (h_Q E B T sz v σ') 0 0 (h_A B T sz)
/-- the world as it stands within a method -/
def h_W (E : hE) (B : Nat) (T : hT) (H0 : Heap) (σ : hM) (H : Heap) (locs : List Loc) : Prop := h_P E B T σ H ∧ va_S (h_A B T H0.size) H0 H locs ∧ H.size = H0.size
def h_Γ (E : hE) (B : Nat) (T : hT) (p : Program) (s : State) (m : MethodId) (args : Array Value) (meth : Method) (c : Code) (cc : ByteArray) (nL : Nat) (ret : Option FieldType) (own : String) : Prop :=
  p.tables.exec = Jvm.exec ∧ c.code = cc ∧ meth.sig.returnType = ret ∧ c.maxLocals = nL ∧ (∀ w ∈ h_tbl, w.before args s = true) ∧ s.vm.findClass own = some m.cls ∧ meth.locks = false ∧ h_X E (h_A B T s.heap.size) s s.heap
theorem h_ofW {l : Launch} {E : hE} {B : Nat} {T : hT} {y : MethodName} {cc : ByteArray} {nL : Nat} {ret : Option FieldType} {d : Nat} {As : List Value} {σ σ' : hM} {v : Option Value} (hy : plainName y.cls = true) (hn : (lg_sl As).length ≤ nL)
    (body : ∀ (p : Program) (e : Env) (s : State) (m : MethodId) (below : List Frame) (meth : Method) (c : Code) (ls : Array Slot), h_Γ E B T p s m As.toArray meth c cc nL ret y.cls → lv_has ls nL (lv_args 0 As) → h_W E B T s.heap σ s.heap [] →
      W p l e (h_rm d) s m As.toArray below meth c s.heap [] 0 0 (MQ below (h_Q E B T s.heap.size v σ') As.toArray s 0 0 (h_A B T s.heap.size)) (F0 m 0 ls [])) : h_Ct l E B T y cc nL ret d As σ σ' v := by
  intro sz
  refine Met.ofW (cc := cc) (maxL := nL) (ret := ret) hy rfl ?_
  intro p e s m args below meth c s₁ BB hml hv
  obtain ⟨rfl, hsz, hP, hX⟩ := hv
  subst hsz
  have hts := atoms_spec (ws := .code y cc nL ret :: h_tbl) BB.pre
  have hl := lv_entry As (n := nL) hn
  rw [lg_entry_eq]
  generalize (lg_sl As ++ List.replicate (nL - (lg_sl As).length) Slot.unset).toArray = ls at hl ⊢
  exact body p e s m below meth c ls ⟨BB.exec, BB.bytes, BB.returns, hml, fun w h => hts w (List.mem_cons_of_mem _ h), findClass_of_methodNamed BB.named, BB.notSynchronized, hX⟩ hl ⟨hP, va_S.rf, rfl⟩
