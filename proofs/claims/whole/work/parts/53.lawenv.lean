/-! what the law's start gives: classes, arrays, Strings, statics -/
def l_tm (i : Nat) : Term := Term.string (h_sown i).1 (h_sown i).2.1
theorem l_str1 : ∀ i, i < 5 → Cond.exactly (l_tm i) "java/lang/String" ∈ flatC (Jvm.Cond.and given_1 narrow_1) ∧ Cond.eq (.field (l_tm i) "java/lang/String" "coder" "B") (.int 0) ∈ flatC (Jvm.Cond.and given_1 narrow_1) ∧ Cond.arrayOf (.field (l_tm i) "java/lang/String" "value" "[B") .byte ∈ flatC (Jvm.Cond.and given_1 narrow_1) ∧ Cond.eq (.length (.field (l_tm i) "java/lang/String" "value" "[B")) (.int (Int32.ofNat (h_sl.getD i 0))) ∈ flatC (Jvm.Cond.and given_1 narrow_1) := by decide +kernel
theorem l_str2 : ∀ i, i < 5 → ∀ j, j < h_sl.getD i 0 → Cond.eq (.elem (.field (l_tm i) "java/lang/String" "value" "[B") (.int (Int32.ofNat j))) (.int ((h_sb.getD i []).getD j 0)) ∈ flatC (Jvm.Cond.and given_1 narrow_1) := by decide +kernel
theorem l_str3 : ∀ i, i < 5 → ∀ j, j < 5 → i ≠ j → Cond.not (Cond.eq (l_tm i) (l_tm j)) ∈ flatC (Jvm.Cond.and given_1 narrow_1) ∨ Cond.not (Cond.eq (l_tm j) (l_tm i)) ∈ flatC (Jvm.Cond.and given_1 narrow_1) := by decide +kernel
theorem l_three : ∀ j, j < 6 → Cond.eq (.elem (.static RX2 "THREES" "[I") (.int (Int32.ofNat j))) (.int (h_three.getD j 0)) ∈ flatC (Jvm.Cond.and given_1 narrow_1) := by decide +kernel
theorem l_sref : ∀ i, i < 5 → Cond.stringRef (h_sown i).1 (h_sown i).2.1 (h_sown i).2.2 ∈ lw_tbl := by decide +kernel
theorem l_arr {s : State} {args : Array Value} {ty : FieldType} (h : (Cond.arrayClass ty).before args s = true) : ∃ cA : ClassId, ArrOfT s cA ty ∧ s.vm.findClass ("[" ++ ty.toString) = some cA := by
  obtain ⟨c, k, comp, h1, h2, h3⟩ := Cond.arrayClass_spec h
  exact ⟨c, fun n z => ⟨fun k h => (by cases h), k, h2, comp, h3⟩, h1⟩
theorem l_arrq {s : State} {args : Array Value} {C : String} (h : (Cond.arrayOver (.object C)).before args s = true) : ∃ cA : ClassId, ArrOfT s cA (.object C) ∧ va_RA s cA (.object C) := by
  obtain ⟨comp, c, k, h1, h2, h3, h4, h5⟩ := Cond.arrayOver_spec h
  exact ⟨c, fun n z => ⟨fun k h => (by cases h), k, h3, comp, h4⟩, k, comp, h3, h4, h1, h5⟩
theorem l_arrl {s : State} {args : Array Value} (h : (Cond.arrayOver (.array .long)).before args s = true) : ∃ cA : ClassId, ArrOfT s cA (.array .long) ∧ va_RA s cA (.array .long) := by
  obtain ⟨comp, c, k, h1, h3, h4, h5⟩ := m7_over h
  exact ⟨c, fun n z => ⟨fun k h => (by cases h), k, h3, comp, h4⟩, h5⟩
theorem l_kn {s : State} {args : Array Value} (hts : ∀ w ∈ lw_tbl, w.before args s = true) (ci : Nat) (hci : ci < 10) (hi : Cond.instantiable (h_C ci) (h_N ci) ∈ lw_tbl) : ∃ (cC : ClassId) (iS : Nat → Nat), u_Kn s (h_C ci) (h_T ci) (h_N ci) cC iS :=
  u_known hts (fun w h => (List.mem_filter.mp (h_in ci hci w h)).1) (hts _ hi)
theorem l_inst : ∀ ci, ci < 10 → Cond.instantiable (h_C ci) (h_N ci) ∈ lw_tbl := by decide +kernel
set_option maxHeartbeats 4000000 in
theorem l_env {p : Program} {s : State} {m : MethodId} {meth : Method} {c : Code} {b L : Nat} {xs : Nat → Int32} (C0 : lw_At p s m meth c b L xs) : ∃ E : hE, h_X E (fun q => s.heap.size ≤ q) s s.heap ∧ h_Y s := by
  obtain ⟨hx, hb, hr, hml, hown, hts, hX, hbl, hlk, hgv⟩ := C0
  have hg := flat_of_before _ hgv
  have hA : ∀ a : Nat, a < s.heap.size → ¬ (fun q : Nat => s.heap.size ≤ q) a := fun a h => Nat.not_le.mpr h
  have hkn : ∀ ci : Nat, ∃ q : ClassId × (Nat → Nat), ci < 10 → u_Kn s (h_C ci) (h_T ci) (h_N ci) q.1 q.2 := by
    intro ci
    by_cases h : ci < 10
    · obtain ⟨cC, iS, hk⟩ := l_kn hts ci h (l_inst ci h)
      exact ⟨(cC, iS), fun _ => hk⟩
    · exact ⟨(0, fun _ => 0), fun q => absurd q h⟩
  obtain ⟨kn, hkn⟩ := Classical.axiomOfChoice hkn
  obtain ⟨c11, a11, r11⟩ := l_arr (hts (.arrayClass .int) (by decide +kernel))
  obtain ⟨c12, a12, r12⟩ := l_arr (hts (.arrayClass .byte) (by decide +kernel))
  obtain ⟨c13, a13, r13⟩ := l_arr (hts (.arrayClass .boolean) (by decide +kernel))
  obtain ⟨c14, a14, r14⟩ := l_arr (hts (.arrayClass .long) (by decide +kernel))
  have hq3 := hts (.arrayOver (.object RX3)) (by decide +kernel)
  have hq5 := hts (.arrayOver (.object RX5)) (by decide +kernel)
  have hql := hts (.arrayOver (.array .long)) (by decide +kernel)
  obtain ⟨c15, a15, r15⟩ := l_arrq hq3
  obtain ⟨c16, a16, r16⟩ := l_arrq hq5
  obtain ⟨c17, a17, r17⟩ := l_arrl hql
  obtain ⟨adK, adV, hS, hSe⟩ := vk_Sof (args := #[Value.ref b]) (s := s) (N := 5) (tm := l_tm) (len := h_sl) (byt := h_sb) (A := fun q : Nat => s.heap.size ≤ q) (fun i hi => (h_slens i hi).1) (fun i hi => hg _ (l_str1 i hi).1) (fun i hi => hg _ (l_str1 i hi).2.1) (fun i hi => hg _ (l_str1 i hi).2.2.1) (fun i hi => hg _ (l_str1 i hi).2.2.2) (fun i hi j hj => hg _ (l_str2 i hi j hj)) (fun i j hi hj hne => (l_str3 i hi j hj hne).imp (hg _) (hg _)) hA
  obtain ⟨t, ht, hT⟩ := va_Tof (args := #[Value.ref b]) (s := s) (tm := .static RX2 "THREES" "[I") (ty := .int) (N := 6) (f := fun j => .int (h_three.getD j 0)) (A := fun q : Nat => s.heap.size ≤ q) (by decide) (hg _ (by decide +kernel)) (va_eqt (hg _ (show Cond.eq (.length (.static RX2 "THREES" "[I")) (.int (Int32.ofNat 6)) ∈ _ by decide +kernel))) (fun j hj => va_eqt (hg _ (l_three j hj))) hA
  refine ⟨((fun ci => (kn ci).1, fun ci => (kn ci).2), fun t => if t = 11 then c11 else if t = 12 then c12 else if t = 13 then c13 else if t = 14 then c14 else if t = 15 then c15 else if t = 16 then c16 else c17, adK, adV, t), ⟨⟨fun ci q hq => ?_, fun k q hq => ?_⟩, fun w hw => ?_, fun i hi => ?_, hS, ⟨va_Zref (hts (.laysStatic RX2 "THREES" "[I") (by decide +kernel)) (hts (.initialized RX2) (by decide +kernel)) ht hA, hT⟩, va_Zof (hts (.laysStatic RJ0 "COMPACT_STRINGS" "Z") (by decide +kernel)) (hts (.initialized RJ0) (by decide +kernel)) (va_eqi (hg _ (by decide +kernel))) hA, va_Zqof (hts (.laysStatic RJ3 "SIOOBE_FORMATTER" "Ljava/util/function/BiFunction;") (by decide +kernel)) (hts (.initialized RJ3) (by decide +kernel)) (hg _ (by decide +kernel)) hA⟩, hq3, hq5, hql⟩
  · have hci : ci < 10 := (List.getElem?_eq_some_iff.mp hq).1
    rw [h_cl_ok ci hci] at hq
    cases hq
    exact hkn ci hci
  · match k, hq with
    | 0, hq => cases hq; exact ⟨a11, r11⟩
    | 1, hq => cases hq; exact ⟨a12, r12⟩
    | 2, hq => cases hq; exact ⟨a13, r13⟩
    | 3, hq => cases hq; exact ⟨a14, r14⟩
    | 4, hq => cases hq; exact ⟨a15, r15⟩
    | 5, hq => cases hq; exact ⟨a16, r16⟩
    | 6, hq => cases hq; exact ⟨a17, r17⟩
    | k + 7, hq => simp [h_tys] at hq
  · obtain ⟨a, i, x, b, rfl⟩ := h_nestform hw
    exact va_Nw.of rfl (hts _ (List.mem_filter.mp hw).1)
  · exact ⟨hts _ (l_sref i hi), hSe i hi⟩
