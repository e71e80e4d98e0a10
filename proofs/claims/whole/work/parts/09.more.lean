/-! ROWS: names of values, calls by what they answer -/
section HN
variable {p : Program} {l : Launch} {e : Env} {R : Room} {s : State} {m : MethodId} {args : Array Value} {below : List Frame} {meth : Method} {c : Code} {H : Heap} {locs : List Loc} {cells slots : Nat} {Q : State → Prop}
variable {cc : ByteArray} {pc nL : Nat} {ls : Array Slot} {rest st0 As : List Value} {E : hE} {B : Nat} {T : hT} {σ σ' : hM} {α : Type} {z : α} {a ci index d2 n nL2 : Nat} {own host : String} {y : MethodName} {cc2 : ByteArray} {ret2 : Option FieldType} {v : Option Value}
theorem h_nmi {κ : Int32 → Option α} {x : Int32} (hf : lt x κ = some z) (kk : ∀ w : Int32, κ w = some z → W p l e R s m args below meth c H locs cells slots Q (F0 m pc ls (.int w :: rest))) : W p l e R s m args below meth c H locs cells slots Q (F0 m pc ls (.int x :: rest)) := kk x hf
theorem h_nml {κ : Int64 → Option α} {x : Int64} (hf : lt x κ = some z) (kk : ∀ w : Int64, κ w = some z → W p l e R s m args below meth c H locs cells slots Q (F0 m pc ls (.long w :: rest))) : W p l e R s m args below meth c H locs cells slots Q (F0 m pc ls (.long x :: rest)) := kk x hf
theorem h_lt {β γ : Type} {F : β} {κ : β → Option γ} {w : γ} (hf : lt F κ = some w) : ∃ J, J = F ∧ κ J = some w := ⟨F, rfl, hf⟩
theorem h_iinc {κ : Int32 → Option α} {x v0 : Int32} {i k : Nat} {nn : Int} {lv : List (Nat × Value)} (hf : lt (x + v0) κ = some z) (hx : p.tables.exec = Jvm.exec) (hb : c.code = cc) (hdg : decode cc pc = .ok (.iinc i nn, 3)) (h : lv_has ls nL lv) (hk : lv[k]? = some (i, .int x)) (hv : Int32.ofInt nn = v0) (hn : i < nL)
    (kk : ∀ (w : Int32) (ls' : Array Slot), κ w = some z → lv_has ls' nL ((i, Value.int w) :: lv.filter (fun q => !(q.1 == i) && !(q.1 + 1 == i && q.2.category == 2))) → W p l e R s m args below meth c H locs cells slots Q (F0 m (pc + 3) ls' rest)) : W p l e R s m args below meth c H locs cells slots Q (F0 m pc ls rest) := by
  subst hv
  exact lv_iinc hx hb hdg h hk rfl hn rfl (fun ls' hl => kk _ ls' hf hl)
theorem h_dvi {κ : Int32 → Option α} {x w : Int32} (hf : (dvi x w).bind κ = some z) (hx : p.tables.exec = Jvm.exec) (hb : c.code = cc) (hdg : decode cc pc = .ok (.idiv, 1)) (kk : ∀ q : Int32, κ q = some z → W p l e R s m args below meth c H locs cells slots Q (F0 m (pc + 1) ls (.int q :: rest))) : W p l e R s m args below meth c H locs cells slots Q (F0 m pc ls (.int w :: .int x :: rest)) := by
  unfold dvi at hf
  by_cases h0 : w = 0
  · rw [if_pos h0] at hf; cases hf
  · rw [if_neg h0] at hf; exact lv_idiv hx hb hdg h0 (kk _ hf)
theorem h_rmi {κ : Int32 → Option α} {x w : Int32} (hf : (rmi x w).bind κ = some z) (hx : p.tables.exec = Jvm.exec) (hb : c.code = cc) (hdg : decode cc pc = .ok (.irem, 1)) (kk : ∀ q : Int32, κ q = some z → W p l e R s m args below meth c H locs cells slots Q (F0 m (pc + 1) ls (.int q :: rest))) : W p l e R s m args below meth c H locs cells slots Q (F0 m pc ls (.int w :: .int x :: rest)) := by
  unfold rmi at hf
  by_cases h0 : w = 0
  · rw [if_pos h0] at hf; cases hf
  · rw [if_neg h0] at hf; exact lv_irem hx hb hdg h0 (kk _ hf)
theorem h_cVi {F : Option (Int32 × hM)} {κ : Int32 × hM → Option α} (hf : (vc T a ci F).bind κ = some z) (hx : p.tables.exec = Jvm.exec) (hb : c.code = cc) (hml : c.maxLocals = nL) (hts : ∀ w ∈ h_tbl, w.before args s = true) (hown : s.vm.findClass own = some m.cls) (hX : h_X E (h_A B T s.heap.size) s s.heap) (hw : h_W E B T s.heap σ H locs)
    (hMY : h_MY y cc2 nL2 ret2 n) (hMI : h_MI y) (hlk : Cond.methodLink own index y ∈ h_tbl) (hcls : y.cls = h_C ci ∧ ci < 10) (hC : ∀ q, F = some q → h_Ct l E B T y cc2 nL2 ret2 d2 (.ref (B + a) :: As) σ q.2 (some (.int q.1))) (hR : d2 + 1 ≤ R.frames ∧ 8 + (nL2 + 11) + 40 * d2 ≤ R.locals) (hcs : cells ≤ R.cells ∧ slots ≤ R.slots)
    (hn : As.length = n) (hsz : ls.size = nL) (hst : st0 = As.reverse ++ .ref (B + a) :: rest) (hcat : (rest.map fun v => v.category).sum ≤ 8) (hdg : decode cc pc = .ok (.invokevirtual index, 3))
    (kk : ∀ (q : Int32 × hM) (H1 : Heap) (locs1 : List Loc), κ q = some z → h_W E B T s.heap q.2 H1 locs1 → W p l e R s m args below meth c H1 locs1 cells slots Q (F0 m (pc + 3) ls (.int q.1 :: rest))) : W p l e R s m args below meth c H locs cells slots Q (F0 m pc ls st0) := by
  obtain ⟨hT, q, hq, hf⟩ := ob_opt hf
  exact h_cV0 hx hb hml hts hown hX hw hMY hMI hlk hcls hT (hC q hq) hR hcs hn hsz hst hcat hdg (fun H1 L1 h => kk q H1 L1 hf h)
theorem h_cVl {F : Option (Int64 × hM)} {κ : Int64 × hM → Option α} (hf : (vc T a ci F).bind κ = some z) (hx : p.tables.exec = Jvm.exec) (hb : c.code = cc) (hml : c.maxLocals = nL) (hts : ∀ w ∈ h_tbl, w.before args s = true) (hown : s.vm.findClass own = some m.cls) (hX : h_X E (h_A B T s.heap.size) s s.heap) (hw : h_W E B T s.heap σ H locs)
    (hMY : h_MY y cc2 nL2 ret2 n) (hMI : h_MI y) (hlk : Cond.methodLink own index y ∈ h_tbl) (hcls : y.cls = h_C ci ∧ ci < 10) (hC : ∀ q, F = some q → h_Ct l E B T y cc2 nL2 ret2 d2 (.ref (B + a) :: As) σ q.2 (some (.long q.1))) (hR : d2 + 1 ≤ R.frames ∧ 8 + (nL2 + 11) + 40 * d2 ≤ R.locals) (hcs : cells ≤ R.cells ∧ slots ≤ R.slots)
    (hn : As.length = n) (hsz : ls.size = nL) (hst : st0 = As.reverse ++ .ref (B + a) :: rest) (hcat : (rest.map fun v => v.category).sum ≤ 8) (hdg : decode cc pc = .ok (.invokevirtual index, 3))
    (kk : ∀ (q : Int64 × hM) (H1 : Heap) (locs1 : List Loc), κ q = some z → h_W E B T s.heap q.2 H1 locs1 → W p l e R s m args below meth c H1 locs1 cells slots Q (F0 m (pc + 3) ls (.long q.1 :: rest))) : W p l e R s m args below meth c H locs cells slots Q (F0 m pc ls st0) := by
  obtain ⟨hT, q, hq, hf⟩ := ob_opt hf
  exact h_cV0 hx hb hml hts hown hX hw hMY hMI hlk hcls hT (hC q hq) hR hcs hn hsz hst hcat hdg (fun H1 L1 h => kk q H1 L1 hf h)
theorem h_cVv {F : Option hM} {κ : hM → Option α} (hf : (vc T a ci F).bind κ = some z) (hx : p.tables.exec = Jvm.exec) (hb : c.code = cc) (hml : c.maxLocals = nL) (hts : ∀ w ∈ h_tbl, w.before args s = true) (hown : s.vm.findClass own = some m.cls) (hX : h_X E (h_A B T s.heap.size) s s.heap) (hw : h_W E B T s.heap σ H locs)
    (hMY : h_MY y cc2 nL2 ret2 n) (hMI : h_MI y) (hlk : Cond.methodLink own index y ∈ h_tbl) (hcls : y.cls = h_C ci ∧ ci < 10) (hC : ∀ q, F = some q → h_Ct l E B T y cc2 nL2 ret2 d2 (.ref (B + a) :: As) σ q none) (hR : d2 + 1 ≤ R.frames ∧ 8 + (nL2 + 11) + 40 * d2 ≤ R.locals) (hcs : cells ≤ R.cells ∧ slots ≤ R.slots)
    (hn : As.length = n) (hsz : ls.size = nL) (hst : st0 = As.reverse ++ .ref (B + a) :: rest) (hcat : (rest.map fun v => v.category).sum ≤ 8) (hdg : decode cc pc = .ok (.invokevirtual index, 3))
    (kk : ∀ (q : hM) (H1 : Heap) (locs1 : List Loc), κ q = some z → h_W E B T s.heap q H1 locs1 → W p l e R s m args below meth c H1 locs1 cells slots Q (F0 m (pc + 3) ls rest)) : W p l e R s m args below meth c H locs cells slots Q (F0 m pc ls st0) := by
  obtain ⟨hT, q, hq, hf⟩ := ob_opt hf
  exact h_cV0 hx hb hml hts hown hX hw hMY hMI hlk hcls hT (hC q hq) hR hcs hn hsz hst hcat hdg (fun H1 L1 h => kk q H1 L1 hf h)
theorem h_cSi {F : Option (Int32 × hM)} {κ : Int32 × hM → Option α} (hf : F.bind κ = some z) (hx : p.tables.exec = Jvm.exec) (hb : c.code = cc) (hml : c.maxLocals = nL) (hts : ∀ w ∈ h_tbl, w.before args s = true) (hown : s.vm.findClass own = some m.cls) (hX : h_X E (h_A B T s.heap.size) s s.heap) (hw : h_W E B T s.heap σ H locs)
    (hMY : h_MY y cc2 nL2 ret2 n) (hMS : Cond.static y ∈ h_tbl) (hlk : Cond.methodLink own index y ∈ h_tbl) (hC : ∀ q, F = some q → h_Ct l E B T y cc2 nL2 ret2 d2 As σ q.2 (some (.int q.1))) (hR : d2 + 1 ≤ R.frames ∧ 8 + (nL2 + 11) + 40 * d2 ≤ R.locals) (hcs : cells ≤ R.cells ∧ slots ≤ R.slots)
    (hn : As.length = n) (hsz : ls.size = nL) (hst : st0 = As.reverse ++ rest) (hcat : (rest.map fun v => v.category).sum ≤ 8) (hdg : decode cc pc = .ok (.invokestatic index, 3))
    (kk : ∀ (q : Int32 × hM) (H1 : Heap) (locs1 : List Loc), κ q = some z → h_W E B T s.heap q.2 H1 locs1 → W p l e R s m args below meth c H1 locs1 cells slots Q (F0 m (pc + 3) ls (.int q.1 :: rest))) : W p l e R s m args below meth c H locs cells slots Q (F0 m pc ls st0) := by
  obtain ⟨q, hq, hf⟩ := h_bind hf
  exact h_cS0 hx hb hml hts hown hX hw hMY hMS hlk (hC q hq) hR hcs hn hsz hst hcat hdg (fun H1 L1 h => kk q H1 L1 hf h)
theorem h_cSl {F : Option (Int64 × hM)} {κ : Int64 × hM → Option α} (hf : F.bind κ = some z) (hx : p.tables.exec = Jvm.exec) (hb : c.code = cc) (hml : c.maxLocals = nL) (hts : ∀ w ∈ h_tbl, w.before args s = true) (hown : s.vm.findClass own = some m.cls) (hX : h_X E (h_A B T s.heap.size) s s.heap) (hw : h_W E B T s.heap σ H locs)
    (hMY : h_MY y cc2 nL2 ret2 n) (hMS : Cond.static y ∈ h_tbl) (hlk : Cond.methodLink own index y ∈ h_tbl) (hC : ∀ q, F = some q → h_Ct l E B T y cc2 nL2 ret2 d2 As σ q.2 (some (.long q.1))) (hR : d2 + 1 ≤ R.frames ∧ 8 + (nL2 + 11) + 40 * d2 ≤ R.locals) (hcs : cells ≤ R.cells ∧ slots ≤ R.slots)
    (hn : As.length = n) (hsz : ls.size = nL) (hst : st0 = As.reverse ++ rest) (hcat : (rest.map fun v => v.category).sum ≤ 8) (hdg : decode cc pc = .ok (.invokestatic index, 3))
    (kk : ∀ (q : Int64 × hM) (H1 : Heap) (locs1 : List Loc), κ q = some z → h_W E B T s.heap q.2 H1 locs1 → W p l e R s m args below meth c H1 locs1 cells slots Q (F0 m (pc + 3) ls (.long q.1 :: rest))) : W p l e R s m args below meth c H locs cells slots Q (F0 m pc ls st0) := by
  obtain ⟨q, hq, hf⟩ := h_bind hf
  exact h_cS0 hx hb hml hts hown hX hw hMY hMS hlk (hC q hq) hR hcs hn hsz hst hcat hdg (fun H1 L1 h => kk q H1 L1 hf h)
theorem h_cSv {F : Option hM} {κ : hM → Option α} (hf : F.bind κ = some z) (hx : p.tables.exec = Jvm.exec) (hb : c.code = cc) (hml : c.maxLocals = nL) (hts : ∀ w ∈ h_tbl, w.before args s = true) (hown : s.vm.findClass own = some m.cls) (hX : h_X E (h_A B T s.heap.size) s s.heap) (hw : h_W E B T s.heap σ H locs)
    (hMY : h_MY y cc2 nL2 ret2 n) (hMS : Cond.static y ∈ h_tbl) (hlk : Cond.methodLink own index y ∈ h_tbl) (hC : ∀ q, F = some q → h_Ct l E B T y cc2 nL2 ret2 d2 As σ q none) (hR : d2 + 1 ≤ R.frames ∧ 8 + (nL2 + 11) + 40 * d2 ≤ R.locals) (hcs : cells ≤ R.cells ∧ slots ≤ R.slots)
    (hn : As.length = n) (hsz : ls.size = nL) (hst : st0 = As.reverse ++ rest) (hcat : (rest.map fun v => v.category).sum ≤ 8) (hdg : decode cc pc = .ok (.invokestatic index, 3))
    (kk : ∀ (q : hM) (H1 : Heap) (locs1 : List Loc), κ q = some z → h_W E B T s.heap q H1 locs1 → W p l e R s m args below meth c H1 locs1 cells slots Q (F0 m (pc + 3) ls rest)) : W p l e R s m args below meth c H locs cells slots Q (F0 m pc ls st0) := by
  obtain ⟨q, hq, hf⟩ := h_bind hf
  exact h_cS0 hx hb hml hts hown hX hw hMY hMS hlk (hC q hq) hR hcs hn hsz hst hcat hdg (fun H1 L1 h => kk q H1 L1 hf h)
theorem h_cNi {F : Option (Int32 × hM)} {κ : Int32 × hM → Option α} (hf : F.bind κ = some z) (hx : p.tables.exec = Jvm.exec) (hb : c.code = cc) (hml : c.maxLocals = nL) (hts : ∀ w ∈ h_tbl, w.before args s = true) (hown : s.vm.findClass own = some m.cls) (hX : h_X E (h_A B T s.heap.size) s s.heap) (hw : h_W E B T s.heap σ H locs)
    (hMY : h_MY y cc2 nL2 ret2 n) (hMS : Cond.static y ∈ h_tbl) (hlk : Cond.methodLinkNest own index y host ∈ h_nest) (hC : ∀ q, F = some q → h_Ct l E B T y cc2 nL2 ret2 d2 As σ q.2 (some (.int q.1))) (hR : d2 + 1 ≤ R.frames ∧ 8 + (nL2 + 11) + 40 * d2 ≤ R.locals) (hcs : cells ≤ R.cells ∧ slots ≤ R.slots)
    (hn : As.length = n) (hsz : ls.size = nL) (hst : st0 = As.reverse ++ rest) (hcat : (rest.map fun v => v.category).sum ≤ 8) (hdg : decode cc pc = .ok (.invokestatic index, 3))
    (kk : ∀ (q : Int32 × hM) (H1 : Heap) (locs1 : List Loc), κ q = some z → h_W E B T s.heap q.2 H1 locs1 → W p l e R s m args below meth c H1 locs1 cells slots Q (F0 m (pc + 3) ls (.int q.1 :: rest))) : W p l e R s m args below meth c H locs cells slots Q (F0 m pc ls st0) := by
  obtain ⟨q, hq, hf⟩ := h_bind hf
  exact h_cSN0 hx hb hml hts hown hX hw hMY hMS hlk (hC q hq) hR hcs hn hsz hst hcat hdg (fun H1 L1 h => kk q H1 L1 hf h)
end HN
/-- a method's end, by what it answers -/
abbrev h_Qi (below : List Frame) (E : hE) (B : Nat) (T : hT) (args : Array Value) (s : State) (z : Int32 × hM) : State → Prop := MQ below (h_Q E B T s.heap.size (some (.int z.1)) z.2) args s 0 0 (h_A B T s.heap.size)
abbrev h_Ql (below : List Frame) (E : hE) (B : Nat) (T : hT) (args : Array Value) (s : State) (z : Int64 × hM) : State → Prop := MQ below (h_Q E B T s.heap.size (some (.long z.1)) z.2) args s 0 0 (h_A B T s.heap.size)
abbrev h_Qv (below : List Frame) (E : hE) (B : Nat) (T : hT) (args : Array Value) (s : State) (z : hM) : State → Prop := MQ below (h_Q E B T s.heap.size none z) args s 0 0 (h_A B T s.heap.size)
