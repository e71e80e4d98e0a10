/-! new long[7][16]: the machine's step, row by row. (The rounds' library has no law of multianewarray.) -/
def m7_out (cA : ClassId) (h0 i : Nat) : Cell := arrV cA 7 (fun j => va_rf (if j < i then some (h0 + 1 + j) else none))
def m7_in (cC : ClassId) : Cell := arrV cC 16 (fun _ => .long 0)
def m7_st (T : State) (cA cC : ClassId) : Nat → State
  | 0 => T.pushCell (m7_out cA T.heap.size 0)
  | i + 1 => ((m7_st T cA cC i).pushCell (m7_in cC)).setCell T.heap.size (m7_out cA T.heap.size (i + 1))
theorem m7_next (cA : ClassId) (h0 i : Nat) : (m7_out cA h0 i).setSlot i (.ref (h0 + 1 + i)) = m7_out cA h0 (i + 1) := by
  unfold m7_out
  rw [arrV_store]
  refine congrArg (arrV cA 7) (funext fun j => ?_)
  by_cases e : j = i
  · subst e; simp [updV, va_rf]
  · by_cases h : j < i
    · simp [updV, e, h, Nat.lt_succ_of_lt h]
    · simp [updV, e, h, show ¬ j < i + 1 by omega]
theorem m7_facts (T : State) (cA cC : ClassId) : ∀ i, (m7_st T cA cC i).heap.size = T.heap.size + 1 + i ∧ (m7_st T cA cC i).heap[T.heap.size]? = some (m7_out cA T.heap.size i) ∧ (m7_st T cA cC i).vm = T.vm ∧ (m7_st T cA cC i).slotsUsed = T.slotsUsed + 7 + i * 16
  | 0 => ⟨by simp [m7_st], by simp [m7_st], rfl, by simp [m7_st, m7_out, arrV_size]⟩
  | i + 1 => by
    obtain ⟨a, b, d, u⟩ := m7_facts T cA cC i
    have hlt : T.heap.size < (m7_st T cA cC i).heap.size := by omega
    have hb' : ((m7_st T cA cC i).pushCell (m7_in cC)).heap[T.heap.size]? = some (m7_out cA T.heap.size i) := by rw [State.heap_pushCell_of_lt (h := hlt)]; exact b
    refine ⟨?_, State.heap_setCell_self hb', by simp [m7_st, d], ?_⟩
    · simp [m7_st, State.setCell, a]; omega
    · simp [m7_st, u, m7_in, arrV_size, Nat.succ_mul]; omega
theorem m7_top (T : State) (f : JFrame) (cA cC : ClassId) : ∀ i, m7_st (T.setTop f) cA cC i = (m7_st T cA cC i).setTop f
  | 0 => rfl
  | i + 1 => by simp only [m7_st, m7_top T f cA cC i, State.heap_setTop, State.pushCell_setTop, State.setCell_setTop]
theorem m7_old (T : State) (cA cC : ClassId) {a : Addr} (ha : a < T.heap.size) : ∀ i, (m7_st T cA cC i).heap[a]? = T.heap[a]?
  | 0 => State.heap_pushCell_of_lt _ _ ha
  | i + 1 => by
    have f1 := (m7_facts T cA cC i).1
    have hlt : a < (m7_st T cA cC i).heap.size := Nat.lt_of_lt_of_le ha (by rw [f1]; omega)
    show (((m7_st T cA cC i).pushCell (m7_in cC)).setCell T.heap.size _).heap[a]? = _
    rw [State.heap_setCell_other (Nat.ne_of_gt ha), State.heap_pushCell_of_lt (h := hlt)]
    exact m7_old T cA cC ha i
theorem m7_row (T : State) (cA cC : ClassId) : ∀ i j, j < i → (m7_st T cA cC i).heap[T.heap.size + 1 + j]? = some (m7_in cC)
  | 0, _, h => absurd h (Nat.not_lt_zero _)
  | i + 1, j, h => by
    have f1 := (m7_facts T cA cC i).1
    show (((m7_st T cA cC i).pushCell (m7_in cC)).setCell T.heap.size _).heap[T.heap.size + 1 + j]? = _
    rw [State.heap_setCell_other (show T.heap.size ≠ T.heap.size + 1 + j by omega)]
    rcases Nat.lt_or_ge j i with hj | hj
    · rw [State.heap_pushCell_of_lt (h := show T.heap.size + 1 + j < (m7_st T cA cC i).heap.size by omega)]
      exact m7_row T cA cC i j hj
    · rw [show j = i by omega, ← f1]
      exact State.heap_pushCell_size _ _
theorem m7_stand {p : Program} {l : Launch} {e : Env} {R : Room} {s : State} {m : MethodId} {args : Array Value} {below : List Frame} {meth : Method} {c : Code} {T : State} {locs : List Loc} {cells slots : Nat} (X : Stand p l e R s m args below meth c T locs cells slots) (cA cC : ClassId) :
    ∀ i, Stand p l e R s m args below meth c (m7_st T cA cC i) (locs ++ (List.range i).map fun j => ⟨T.heap.size, j⟩) (cells + 1 + i) (slots + 7 + i * 16)
  | 0 => by
    have h := X.pushed (m7_out cA T.heap.size 0)
    rw [show (m7_out cA T.heap.size 0).slots.size = 7 from arrV_size _ _ _] at h
    simpa [m7_st] using h
  | i + 1 => by
    obtain ⟨f1, f2, -, -⟩ := m7_facts T cA cC i
    have hlt0 : T.heap.size < (m7_st T cA cC i).heap.size := by rw [f1]; omega
    have hcell : ((m7_st T cA cC i).pushCell (m7_in cC)).heap[T.heap.size]? = some (m7_out cA T.heap.size i) := by rw [State.heap_pushCell_of_lt (h := hlt0)]; exact f2
    have h := ((m7_stand X cA cC i).pushed (m7_in cC)).stored hcell i (.ref (T.heap.size + 1 + i))
    rw [m7_next, show (m7_in cC).slots.size = 16 from arrV_size _ _ _] at h
    rw [show (locs ++ (List.range (i + 1)).map fun j => (⟨T.heap.size, j⟩ : Loc)) = (locs ++ (List.range i).map fun j => (⟨T.heap.size, j⟩ : Loc)) ++ [⟨T.heap.size, i⟩] by simp [List.range_succ, List.append_assoc], show slots + 7 + (i + 1) * 16 = slots + 7 + i * 16 + 16 by omega]
    exact h
section M7
variable {E : CtlPost} {e : Env} {d : Bool} {acts : List Action} {s : State}
theorem m7_new {c comp : ClassId} {k : Class} {type : FieldType} {len : Nat} {init : Value} (hk : s.vm.classes[c]? = some k) (hkind : k.kind = .array comp type) (h3 : ¬ len > e.platform.arrayLengthLimit) (h4 : ¬ len * componentBytes type > e.platform.maxHeapBytes) (hfit : fits type init = true) (hdef : init.isDefault = true) {Q : Addr → Pre}
    (h1 : s.heap.size < e.platform.maxCells) (h2 : s.slotsUsed + len ≤ e.platform.maxSlots) (hq : Q s.heap.size d acts (s.pushCell (arrV c len (fun _ => init)))) : wp (Jvm.newArray c len init) Q E e d acts s := by
  rw [← arrV_new] at hq
  have ha : allocActs (Array.replicate len init) s.heap.size acts = acts := by
    unfold allocActs
    rw [if_pos (by rw [Array.all_replicate]; split <;> simp [hdef])]
  simp only [Jvm.newArray, Jvm.arrayFits, wp_bind', W.ask, W.ite, h3, if_false, wp_pure', W.theClass, hk, hkind, h4, W.alloc, W.stop, Option.some.injEq, exists_eq_left', Array.size_replicate, ha]
  rw [if_neg (by omega)]
  refine ⟨h1, h2, fun i v hv => ?_, hq⟩
  rw [Array.getElem?_replicate] at hv
  split at hv
  · cases hv; simp [State.fitsSlot, State.slotType?, hk, hkind, hfit]
  · cases hv
theorem m7_make {c comp cc : ClassId} {k kc : Class} (hk : s.vm.classes[c]? = some k) (hkind : k.kind = .array comp (.array .long)) (hkc : s.vm.classes[comp]? = some kc) (hkindc : kc.kind = .array cc .long)
    (hl : ¬ 16 > e.platform.arrayLengthLimit) (hh : ¬ 128 > e.platform.maxHeapBytes) (hc : s.heap.size + 8 ≤ e.platform.maxCells) (hs : s.slotsUsed + 119 ≤ e.platform.maxSlots)
    {Q : Addr → Pre} (hq : ∀ d' acts', Q s.heap.size d' acts' (m7_st s c comp 7)) : wp (multianewarray.make c [7, 16]) Q E e d acts s := by
  have hfind : (([16] : List Int32).find? (· < 0)) = none := by decide
  rw [multianewarray.make]
  simp only [wp_bind', W.ite, show ¬ (7 : Int32) < 0 by decide, if_false, wp_pure', W.theClass, hk, hkind, Option.some.injEq, exists_eq_left']
  refine m7_new (len := 7) hk hkind (by omega) (by show ¬ 7 * 4 > _; omega) rfl rfl (by omega) (by omega) ?_
  simp only [hfind]
  rw [ite_self, wp_bind', Std.Legacy.Range.forIn_eq_forIn_range']
  rw [show ([:(7 : Int32).toNatClampNeg] : Std.Legacy.Range).size = 7 by decide]
  show wp (forIn (List.range' 0 7 1) PUnit.unit _) _ E e d acts _
  refine wp_forIn_inv (fun rest s' => ∃ i, i ≤ 7 ∧ rest = List.range' i (7 - i) ∧ s' = m7_st s c comp i) _ _ ⟨0, Nat.zero_le _, rfl, ?_⟩ ?_ ?_
  · show s.pushCell _ = s.pushCell _
    refine congrArg s.pushCell (congrArg (arrV c 7) (funext fun j => ?_))
    simp [va_rf]
  · rintro x rest s' d' acts' Q' ⟨i, hi, hl2, rfl⟩ hnext
    have hlt : i < 7 := by
      rcases Nat.lt_or_ge i 7 with h | h
      · exact h
      · rw [show 7 - i = 0 by omega] at hl2; simp at hl2
    obtain ⟨rfl, hrest⟩ : x = i ∧ rest = List.range' (i + 1) (7 - (i + 1)) := by
      rw [show 7 - i = (7 - (i + 1)) + 1 by omega, List.range'_succ] at hl2
      exact ⟨(List.cons.inj hl2).1, (List.cons.inj hl2).2⟩
    obtain ⟨f1, f2, f3, f4⟩ := m7_facts s c comp x
    have hlt0 : s.heap.size < (m7_st s c comp x).heap.size := by rw [f1]; omega
    simp only [wp_bind']
    rw [multianewarray.make]
    simp only [wp_bind', W.ite, show ¬ (16 : Int32) < 0 by decide, if_false, wp_pure', W.theClass, f3, hkc, hkindc, Option.some.injEq, exists_eq_left']
    refine m7_new (len := 16) (by rw [f3]; exact hkc) hkindc (by omega) (by show ¬ 16 * 8 > _; omega) rfl rfl (by rw [f1]; omega) (by rw [f4]; omega) ?_
    simp only [wp_bind', W.writeLoc, wp_pure']
    refine ⟨m7_out c s.heap.size x, by rw [State.heap_pushCell_of_lt (h := hlt0)]; exact f2, by simp [m7_out, arrV], by rw [m7_out, arrV_size]; exact hlt, ?_, hnext _ _ _ ⟨x + 1, hlt, hrest, ?_⟩⟩
    · simp [m7_out, arrV, State.fitsSlot, State.slotType?, f3, hk, hkind, fits]
    · rw [f1, m7_next]; rfl
  · rintro s' d' acts' ⟨i, hi, hl2, rfl⟩
    have hi7 : i = 7 := by
      rcases Nat.lt_or_ge i 7 with h | h
      · rw [show 7 - i = (7 - (i + 1)) + 1 by omega, List.range'_succ] at hl2; cases hl2
      · omega
    subst hi7
    simp only [wp_pure']
    exact hq _ _
end M7
/-- the words that the step needs -/
theorem m7_over {args : Array Value} {s : State} (h : (Cond.arrayOver (.array .long)).before args s = true) : ∃ comp c k, s.vm.findClass "[J" = some comp ∧ s.vm.classes[c]? = some k ∧ k.kind = .array comp (.array .long) ∧ s.vm.findClass "[[J" = some c := by
  simp only [Cond.before, Cond.holds, Cond.value, beq_iff_eq] at h
  have e1 : (FieldType.array FieldType.long).toString = "[J" := by decide +kernel
  rw [e1] at h
  cases hc : s.vm.findClass "[J" with
  | none => simp [hc] at h
  | some comp =>
    simp only [hc, Option.bind_some, Option.bind_eq_some_iff, Option.map_eq_some_iff] at h
    obtain ⟨c, hi, k, hk, hb⟩ := h
    obtain ⟨hlt, hp, -⟩ := Array.findIdx?_eq_some_iff_getElem.mp hi
    have hkk : s.vm.classes[c] = k := (Array.getElem?_eq_some_iff.mp hk).2
    rw [hkk] at hp
    cases hkind : k.kind with
    | array component ty =>
      rw [hkind] at hb hp
      simp at hb hp
      exact ⟨comp, c, k, rfl, hk, by rw [hkind, hp, hb.1], hb.2⟩
    | _ => rw [hkind] at hb; simp at hb
section M7W
variable {p : Program} {l : Launch} {e : Env} {R : Room} {s : State} {m : MethodId} {args : Array Value} {below : List Frame} {meth : Method} {c : Code} {H : Heap} {locs : List Loc} {cells slots : Nat} {Q : State → Prop} {cc : ByteArray} {pc : Nat} {ls : Array Slot} {rest : List Value}
theorem m7_W (hx : p.tables.exec = Jvm.exec) (hb : c.code = cc) {own : String} {index : Nat} (hown : s.vm.findClass own = some m.cls) (hclink : (Cond.classLink own index "[[J").before args s = true) (hover : (Cond.arrayOver (.array .long)).before args s = true) (harr : (Cond.arrayClass .long).before args s = true) (hcells : cells + 8 ≤ R.cells) (hslots : slots + 119 ≤ R.slots) (hdg : decode cc pc = .ok (.multianewarray index 2, 4))
    (kk : ∀ (cA cC : ClassId) (H1 : Heap), s.vm.findClass "[[J" = some cA → s.vm.findClass "[J" = some cC → H1.size = H.size + 8 → (∀ q, q < H.size → H1[q]? = H[q]?) → H1[H.size]? = some (m7_out cA H.size 7) → (∀ j, j < 7 → H1[H.size + 1 + j]? = some (m7_in cC)) → W p l e R s m args below meth c H1 locs (cells + 8) (slots + 119) Q (F0 m (pc + 4) ls (.ref H.size :: rest))) : W p l e R s m args below meth c H locs cells slots Q (F0 m pc ls (.int 16 :: .int 7 :: rest)) := by
  intro T hT X
  have hpl : e.platform.magicAccessors = ({} : Platform).magicAccessors := by rw [X.admits.platform]
  obtain ⟨comp, cA, kA, hcomp, hkA, hkindA, hnameA⟩ := m7_over hover
  obtain ⟨comp', kC, cq, hcomp', hkC, hkindC⟩ := Cond.arrayClass_spec harr
  have ecomp : comp' = comp := Option.some.inj ((show s.vm.findClass "[J" = some comp' from hcomp').symm.trans hcomp)
  subst ecomp
  obtain ⟨c0, hfc0, hcl⟩ := Cond.classLink_spec hown hclink e.platform hpl
  cases hnameA.symm.trans hfc0
  obtain ⟨hg₁, hwarm₁, hready₁⟩ := State.classEntry (e := e) X.warmed hcl
  generalize T.vm.noted m.cls index (.cls cA) = vm₁ at hg₁ hwarm₁ hready₁
  obtain ⟨kA₁, hkA₁, heA⟩ := hwarm₁.alike.2.2 _ _ hkA
  obtain ⟨kC₁, hkC₁, heC⟩ := hwarm₁.alike.2.2 _ _ hkC
  have X₁ := X.noted hwarm₁
  obtain ⟨hr1, hr2⟩ := X.roomAbove hcells hslots
  obtain ⟨f1, f2, -, -⟩ := m7_facts (T.setVm vm₁) cA comp' 7
  have hTh : (T.setVm vm₁).heap = H := hT
  have XF := (m7_stand X₁ cA comp' 7).dropFresh (fun x hx => by
    obtain ⟨j, -, rfl⟩ := List.mem_map.mp hx
    exact X.heapGrown)
  rw [hTh] at f1 f2
  obtain ⟨t, b1, b2⟩ := kk cA comp' (m7_st (T.setVm vm₁) cA comp' 7).heap hnameA hcomp f1 (fun q hq => by
      have := m7_old (T.setVm vm₁) cA comp' (a := q) (by rw [hTh]; exact hq) 7
      rw [hTh] at this
      exact this) f2 (fun j hj => by
      have := m7_row (T.setVm vm₁) cA comp' 7 j hj
      rw [hTh] at this
      exact this) _ rfl XF
  refine ⟨t, ?_, b2⟩
  have hd : decode c.code (F0 m pc ls (.int 16 :: .int 7 :: rest)).pc = .ok (.multianewarray index 2, 4) := by rw [hb]; exact hdg
  generalize hgg : F0 m pc ls (.int 16 :: .int 7 :: rest) = g at hd
  have hgm : g.method = m := by rw [← hgg]
  have hgs : g.stack = .int 16 :: .int 7 :: rest := by rw [← hgg]
  subst hgm
  jvm_step X.here [hx, hd]
  simp only [multianewarray.sem, wp_bind', W.resolveClassAt_links (State.method?_setTop g X.here.top) hg₁]
  rw [W.popN, if_neg (by decide)]
  refine ⟨g, State.topJava?_setTop' (s := T.setVm vm₁) g X.here.top, [.int 7, .int 16], rest, rfl, hgs, ?_⟩
  simp only [List.mapM_cons, List.mapM_nil, wp_bind', wp_pure']
  refine m7_make (k := kA₁) (kc := kC₁) (comp := comp') (cc := cq) hkA₁ (by rw [heA]; exact hkindA) hkC₁ (by rw [heC]; exact hkindC) (by rw [Launch.admits_arrayLengthLimit X.admits]; omega) (by rw [Launch.admits_maxHeapBytes X.admits]; omega) (by show T.heap.size + 8 ≤ _; omega) (by show T.slotsUsed + 119 ≤ _; omega) (fun d' acts' => ?_)
  have eS : ((T.setTop g).setVm vm₁).setTop { g with stack := rest } = (T.setVm vm₁).setTop { g with stack := rest } := by
    show ((T.setVm vm₁).setTop g).setTop _ = _
    rw [State.setTop_setTop]
  rw [eS, m7_top]
  simp only [wp_bind', W.mark, W.pushRef, State.topJava?_setTop' _ XF.here.top, Option.some.injEq, exists_eq_left', State.setTop_setTop, State.heap_setTop]
  intro acts
  simp [jvm, XF.here.top]
  rw [← hgg]
  have e8 : (T.setVm vm₁).heap.size = H.size := by rw [hTh]
  rw [show T.heap.size = H.size by rw [hT]]
  exact b1
end M7W
