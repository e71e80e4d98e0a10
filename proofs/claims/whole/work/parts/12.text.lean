/-! String constants: length() and charAt(k) -/
def slen (i : Nat) : Option Int32 := if i < 5 then some (Int32.ofNat (h_sl.getD i 0)) else none
def sat (i : Nat) (k : Int32) : Option Int32 := if i < 5 ∧ ¬ (k < 0 ∨ h_sl.getD i 0 ≤ k.toNatClampNeg) then some ((h_sb.getD i []).getD k.toNatClampNeg 0) else none
theorem h_sigs : ∀ i, i < 5 → ∀ j, j < h_sl.getD i 0 → ((((h_sb.getD i []).getD j 0) &&& 255).toUInt32 % 65536).toInt32 = (h_sb.getD i []).getD j 0 ∧ narrow .char (.int ((h_sb.getD i []).getD j 0)) = .int ((h_sb.getD i []).getD j 0) := by decide +kernel
theorem h_slens : ∀ i, i < 5 → h_sl.getD i 0 < 2 ^ 31 ∧ Int32.ofNat (h_sl.getD i 0) >>> ((0 : Int32) &&& 31) = Int32.ofNat (h_sl.getD i 0) := by decide +kernel
section HS
variable {p : Program} {l : Launch} {e : Env} {R : Room} {s : State} {m : MethodId} {args : Array Value} {below : List Frame} {meth : Method} {c : Code} {H : Heap} {locs : List Loc} {cells slots : Nat} {Q : State → Prop}
variable {cc : ByteArray} {pc nL : Nat} {ls : Array Slot} {rest st0 As : List Value} {E : hE} {B : Nat} {T : hT} {σ : hM} {α : Type} {z : α} {index d2 n nL2 i : Nat} {own : String} {y : MethodName} {cc2 : ByteArray} {ret2 : Option FieldType} {v : Option Value}
theorem h_cT0 (hi : i < 5) (hx : p.tables.exec = Jvm.exec) (hb : c.code = cc) (hml : c.maxLocals = nL) (hts : ∀ w ∈ h_tbl, w.before args s = true) (hown : s.vm.findClass own = some m.cls) (hX : h_X E (h_A B T s.heap.size) s s.heap) (hw : h_W E B T s.heap σ H locs)
    (hMY : h_MY y cc2 nL2 ret2 n) (hMI : h_MI y) (hlk : Cond.methodLink own index y ∈ h_tbl) (hcls : y.cls = "java/lang/String") (hC : h_Ct l E B T y cc2 nL2 ret2 d2 (.ref (E.2.2.1 i) :: As) σ σ v) (hR : d2 + 1 ≤ R.frames ∧ 8 + (nL2 + 11) + 40 * d2 ≤ R.locals) (hcs : cells ≤ R.cells ∧ slots ≤ R.slots)
    (hn : As.length = n) (hsz : ls.size = nL) (hst : st0 = As.reverse ++ .ref (E.2.2.1 i) :: rest) (hcat : (rest.map fun v => v.category).sum ≤ 8) (hdg : decode cc pc = .ok (.invokevirtual index, 3))
    (kk : ∀ (H1 : Heap) (locs1 : List Loc), h_W E B T s.heap σ H1 locs1 → W p l e R s m args below meth c H1 locs1 cells slots Q (F0 m (pc + 3) ls (v.toList ++ rest))) : W p l e R s m args below meth c H locs cells slots Q (F0 m pc ls st0) := by
  obtain ⟨g1, g2, g3⟩ := hMY
  refine h_call (va_runV (C := y.cls) (Ts := h_tbl) ⟨hx, hb, hml, hown, hts⟩ (hC H.size) ⟨callB_of n hts (h_good g1) rfl rfl rfl (hts _ g2) (hts _ hlk) g3 hR, hts _ hMI.1, hts _ hMI.2⟩ ⟨h_blind, by rw [hcls]; exact vk_recv hX.2.2.2.1 hi hw.2.1, fun U hU hW => h_X.go hX hw hU hW⟩ rfl hn hsz hst (lv_room hcat) hdg hcs) hw kk
end HS
theorem c_coder (l : Launch) (E : hE) (B : Nat) (T : hT) {i : Nat} (hi : i < 5) (σ : hM) : h_Ct l E B T yJ0_coder_7d493 cJ0_coder_7d493 1 (some .byte) 0 [.ref (E.2.2.1 i)] σ σ (some (.int 0)) := by
  refine h_ofW (by decide) (Nat.le_of_ble_eq_true rfl) (fun p e s m below meth c ls hΓ hl hw => ?_)
  obtain ⟨hx, hb, hr, hml, hts, hown, hlk, hX⟩ := id hΓ
  refine va_gets (C := RJ0) (ref := RJ0) hx hb hX.2.2.2.2.2.1 hw.2.1 hown (hts _ fsJ0_38) (fun _ h9 => h9) dJ0_coder_7d493_0 ?_
  refine lv_if_eq (tgt := 13) hx hb dJ0_coder_7d493_3 (by decide) (fun c1 => absurd c1 (by decide)) (fun c1 => ?_)
  refine lv_aload_n hx hb dJ0_coder_7d493_6 rfl (lv_at hl 0 rfl) ?_
  refine vk_getf (ref := RJ0) hx hb (hX.2.2.2.1.1 i hi).2.1 hw.2.1 hown (hts _ fsJ0_15) (fun _ h9 => h9) dJ0_coder_7d493_7 ?_
  refine lv_goto (tgt := 14) hx hb dJ0_coder_7d493_10 (by decide) ?_
  exact W.zret hx hb hr rfl (h_endQ (H0 := s.heap) hw) hw.2.1.2.2 dJ0_coder_7d493_14 hlk
theorem c_isLatin1 (l : Launch) (E : hE) (B : Nat) (T : hT) {i : Nat} (hi : i < 5) (σ : hM) : h_Ct l E B T yJ0_isLatin1_aae02 cJ0_isLatin1_aae02 1 (some .boolean) 0 [.ref (E.2.2.1 i)] σ σ (some (.int 1)) := by
  refine h_ofW (by decide) (Nat.le_of_ble_eq_true rfl) (fun p e s m below meth c ls hΓ hl hw => ?_)
  obtain ⟨hx, hb, hr, hml, hts, hown, hlk, hX⟩ := id hΓ
  refine va_gets (C := RJ0) (ref := RJ0) hx hb hX.2.2.2.2.2.1 hw.2.1 hown (hts _ fsJ0_38) (fun _ h9 => h9) dJ0_isLatin1_aae02_0 ?_
  refine lv_if_eq (tgt := 17) hx hb dJ0_isLatin1_aae02_3 (by decide) (fun c1 => absurd c1 (by decide)) (fun c1 => ?_)
  refine lv_aload_n hx hb dJ0_isLatin1_aae02_6 rfl (lv_at hl 0 rfl) ?_
  refine vk_getf (ref := RJ0) hx hb (hX.2.2.2.1.1 i hi).2.1 hw.2.1 hown (hts _ fsJ0_15) (fun _ h9 => h9) dJ0_isLatin1_aae02_7 ?_
  refine lv_if_ne (tgt := 17) hx hb dJ0_isLatin1_aae02_10 (by decide) (fun c1 => absurd rfl c1) (fun c1 => ?_)
  refine lv_iconst (v := 1) hx hb dJ0_isLatin1_aae02_13 (by decide) ?_
  refine lv_goto (tgt := 18) hx hb dJ0_isLatin1_aae02_14 (by decide) ?_
  exact W.zret hx hb hr rfl (h_endQ (H0 := s.heap) hw) hw.2.1.2.2 dJ0_isLatin1_aae02_18 hlk
theorem c_check3 (l : Launch) (E : hE) (B : Nat) (T : hT) {k n : Int32} (h0 : ¬ k < 0) (h1 : k < n) (o : Option Nat) (σ : hM) : h_Ct l E B T yJ3_checkIndex_8e157 cJ3_checkIndex_8e157 3 (some .int) 0 [.int k, .int n, va_rf o] σ σ (some (.int k)) := by
  refine h_ofW (by decide) (by cases o <;> exact Nat.le_of_ble_eq_true rfl) (fun p e s m below meth c ls hΓ hl hw => ?_)
  obtain ⟨hx, hb, hr, hml, hts, hown, hlk, hX⟩ := id hΓ
  have hl : lv_has ls 3 [(0, .int k), (1, .int n)] := by cases o <;> exact lv_sub hl [0, 1] rfl
  refine lv_iload_n hx hb dJ3_checkIndex_8e157_0 rfl (lv_at hl 0 rfl) ?_
  refine lv_if_lt (tgt := 9) hx hb dJ3_checkIndex_8e157_1 (by decide) (fun c1 => absurd c1 h0) (fun c1 => ?_)
  refine lv_iload_n hx hb dJ3_checkIndex_8e157_4 rfl (lv_at hl 0 rfl) ?_
  refine lv_iload_n hx hb dJ3_checkIndex_8e157_5 rfl (lv_at hl 1 rfl) ?_
  refine lv_icmp_lt (tgt := 16) hx hb dJ3_checkIndex_8e157_6 (by decide) (fun c1 => ?_) (fun c1 => absurd h1 c1)
  refine lv_iload_n hx hb dJ3_checkIndex_8e157_16 rfl (lv_at hl 0 rfl) ?_
  exact W.iret hx hb hr (h_endQ (H0 := s.heap) hw) hw.2.1.2.2 dJ3_checkIndex_8e157_17 hlk
theorem c_check0 (l : Launch) (E : hE) (B : Nat) (T : hT) {k n : Int32} (h0 : ¬ k < 0) (h1 : k < n) (σ : hM) : h_Ct l E B T yJ0_checkIndex_df160 cJ0_checkIndex_df160 2 none 1 [.int k, .int n] σ σ none := by
  refine h_ofW (by decide) (Nat.le_of_ble_eq_true rfl) (fun p e s m below meth c ls hΓ hl hw => ?_)
  obtain ⟨hx, hb, hr, hml, hts, hown, hlk, hX⟩ := id hΓ
  have key : ∀ o : Option Nat, va_Z RJ3 "SIOOBE_FORMATTER" "Ljava/util/function/BiFunction;" (va_rf o) (h_A B T s.heap.size) s s.heap → W p l e (h_rm 1) s m ([.int k, .int n] : List Value).toArray below meth c s.heap [] 0 0 (MQ below (h_Q E B T s.heap.size none σ) ([.int k, .int n] : List Value).toArray s 0 0 (h_A B T s.heap.size)) (F0 m 0 ls []) := by
    intro o hZ
    refine lv_iload_n hx hb dJ0_checkIndex_df160_0 rfl (lv_at hl 0 rfl) ?_
    refine lv_iload_n hx hb dJ0_checkIndex_df160_1 rfl (lv_at hl 1 rfl) ?_
    refine va_gets (C := RJ3) (ref := RJ3) hx hb hZ hw.2.1 hown (hts _ fsJ0_1053) (fun _ h9 => h9) dJ0_checkIndex_df160_2 ?_
    refine h_cS0 (As := [.int k, .int n, va_rf o]) (rest := []) hx hb hml hts hown hX hw myJ3_checkIndex_8e157 msJ3_checkIndex_8e157 lkJ0_1059 (c_check3 l E B T h0 h1 o σ) ⟨Nat.le_of_ble_eq_true rfl, Nat.le_of_ble_eq_true rfl⟩ ⟨Nat.le_refl _, Nat.le_refl _⟩ rfl hl.1 rfl (Nat.le_of_ble_eq_true rfl) dJ0_checkIndex_df160_5 (fun H1 L1 hw => ?_)
    refine lv_pop hx hb dJ0_checkIndex_df160_8 rfl ?_
    exact W.vret hx hb hr (h_endQ (H0 := s.heap) hw) hw.2.1.2.2 dJ0_checkIndex_df160_9 hlk
  rcases hX.2.2.2.2.2.2 with h | ⟨t, h⟩
  · exact key none h
  · exact key (some t) h
theorem c_latinAt (l : Launch) (E : hE) (B : Nat) (T : hT) {i : Nat} (hi : i < 5) {k : Int32} (hk : ¬ (k < 0 ∨ h_sl.getD i 0 ≤ k.toNatClampNeg)) (σ : hM) : h_Ct l E B T yJ1_charAt_3b067 cJ1_charAt_3b067 2 (some .char) 2 [.ref (E.2.2.2.1 i), .int k] σ σ (some (.int ((h_sb.getD i []).getD k.toNatClampNeg 0))) := by
  refine h_ofW (by decide) (Nat.le_of_ble_eq_true rfl) (fun p e s m below meth c ls hΓ hl hw => ?_)
  obtain ⟨hx, hb, hr, hml, hts, hown, hlk, hX⟩ := id hΓ
  have hT := (hX.2.2.2.1.1 i hi).2.2.2
  have h0 : ¬ k < 0 := fun h => hk (Or.inl h)
  have hlt : k.toNatClampNeg < h_sl.getD i 0 := Nat.not_le.mp fun h => hk (Or.inr h)
  obtain ⟨j, hj, rfl⟩ := nI_of h0
  rw [nI_clamp hj] at hlt hk ⊢
  have hL := (h_slens i hi).1
  refine lv_iload_n hx hb dJ1_charAt_3b067_0 rfl (lv_at hl 1 rfl) ?_
  refine lv_aload_n hx hb dJ1_charAt_3b067_1 rfl (lv_at hl 0 rfl) ?_
  refine va_tlen hx hb hT hw.2.1 rfl dJ1_charAt_3b067_2 ?_
  refine h_cS0 (As := [.int (nI j), .int (Int32.ofNat (h_sl.getD i 0))]) (rest := []) hx hb hml hts hown hX hw myJ0_checkIndex_df160 msJ0_checkIndex_df160 lkJ1_9 (c_check0 l E B T h0 (nI_lt hlt hL) σ) ⟨Nat.le_of_ble_eq_true rfl, Nat.le_of_ble_eq_true rfl⟩ ⟨Nat.le_refl _, Nat.le_refl _⟩ rfl hl.1 rfl (Nat.le_of_ble_eq_true rfl) dJ1_charAt_3b067_3 (fun H1 L1 hw => ?_)
  refine lv_aload_n hx hb dJ1_charAt_3b067_6 rfl (lv_at hl 0 rfl) ?_
  refine lv_iload_n hx hb dJ1_charAt_3b067_7 rfl (lv_at hl 1 rfl) ?_
  refine va_tb hx hb hT hw.2.1 (vp_in_nI hlt hL) rfl dJ1_charAt_3b067_8 ?_
  refine lv_sipush (v := 255) hx hb dJ1_charAt_3b067_9 (by decide) ?_
  refine lv_iand hx hb dJ1_charAt_3b067_12 ?_
  rw [nI_clamp hj]
  refine lv_i2c hx hb dJ1_charAt_3b067_13 (h_sigs i hi j hlt).1 ?_
  exact W.zret hx hb hr (h_sigs i hi j hlt).2 (h_endQ (H0 := s.heap) hw) hw.2.1.2.2 dJ1_charAt_3b067_14 hlk
theorem c_slen (l : Launch) (E : hE) (B : Nat) (T : hT) {i : Nat} (hi : i < 5) (σ : hM) : h_Ct l E B T yJ0_length_8abf5 cJ0_length_8abf5 1 (some .int) 1 [.ref (E.2.2.1 i)] σ σ (some (.int (Int32.ofNat (h_sl.getD i 0)))) := by
  refine h_ofW (by decide) (Nat.le_of_ble_eq_true rfl) (fun p e s m below meth c ls hΓ hl hw => ?_)
  obtain ⟨hx, hb, hr, hml, hts, hown, hlk, hX⟩ := id hΓ
  refine lv_aload_n hx hb dJ0_length_8abf5_0 rfl (lv_at hl 0 rfl) ?_
  refine vk_getf (ref := RJ0) hx hb (hX.2.2.2.1.1 i hi).2.2.1 hw.2.1 hown (hts _ fsJ0_9) (fun _ h9 => h9) dJ0_length_8abf5_1 ?_
  refine va_tlen hx hb (hX.2.2.2.1.1 i hi).2.2.2 hw.2.1 rfl dJ0_length_8abf5_4 ?_
  refine lv_aload_n hx hb dJ0_length_8abf5_5 rfl (lv_at hl 0 rfl) ?_
  refine h_cT0 (As := []) (rest := [.int (Int32.ofNat (h_sl.getD i 0))]) hi hx hb hml hts hown hX hw myJ0_coder_7d493 miJ0_coder_7d493 lkJ0_335 rfl (c_coder l E B T hi σ) ⟨Nat.le_of_ble_eq_true rfl, Nat.le_of_ble_eq_true rfl⟩ ⟨Nat.le_refl _, Nat.le_refl _⟩ rfl hl.1 rfl (Nat.le_of_ble_eq_true rfl) dJ0_length_8abf5_6 (fun H1 L1 hw => ?_)
  refine lv_ishr hx hb dJ0_length_8abf5_9 ?_
  rw [(h_slens i hi).2]
  exact W.iret hx hb hr (h_endQ (H0 := s.heap) hw) hw.2.1.2.2 dJ0_length_8abf5_10 hlk
theorem c_sat (l : Launch) (E : hE) (B : Nat) (T : hT) {i : Nat} (hi : i < 5) {k : Int32} (hk : ¬ (k < 0 ∨ h_sl.getD i 0 ≤ k.toNatClampNeg)) (σ : hM) : h_Ct l E B T yJ0_charAt_5068e cJ0_charAt_5068e 2 (some .char) 3 [.ref (E.2.2.1 i), .int k] σ σ (some (.int ((h_sb.getD i []).getD k.toNatClampNeg 0))) := by
  refine h_ofW (by decide) (Nat.le_of_ble_eq_true rfl) (fun p e s m below meth c ls hΓ hl hw => ?_)
  obtain ⟨hx, hb, hr, hml, hts, hown, hlk, hX⟩ := id hΓ
  have hlt : k.toNatClampNeg < h_sl.getD i 0 := Nat.not_le.mp fun h => hk (Or.inr h)
  refine lv_aload_n hx hb dJ0_charAt_5068e_0 rfl (lv_at hl 0 rfl) ?_
  refine h_cT0 (As := []) (rest := []) hi hx hb hml hts hown hX hw myJ0_isLatin1_aae02 miJ0_isLatin1_aae02 lkJ0_492 rfl (c_isLatin1 l E B T hi σ) ⟨Nat.le_of_ble_eq_true rfl, Nat.le_of_ble_eq_true rfl⟩ ⟨Nat.le_refl _, Nat.le_refl _⟩ rfl hl.1 rfl (Nat.le_of_ble_eq_true rfl) dJ0_charAt_5068e_1 (fun H1 L1 hw => ?_)
  refine lv_if_eq (tgt := 16) hx hb dJ0_charAt_5068e_4 (by decide) (fun c1 => absurd c1 (by decide)) (fun c1 => ?_)
  refine lv_aload_n hx hb dJ0_charAt_5068e_7 rfl (lv_at hl 0 rfl) ?_
  refine vk_getf (ref := RJ0) hx hb (hX.2.2.2.1.1 i hi).2.2.1 hw.2.1 hown (hts _ fsJ0_9) (fun _ h9 => h9) dJ0_charAt_5068e_8 ?_
  refine lv_iload_n hx hb dJ0_charAt_5068e_11 rfl (lv_at hl 1 rfl) ?_
  refine h_cS0 (As := [.ref (E.2.2.2.1 i), .int k]) (rest := []) hx hb hml hts hown hX hw myJ1_charAt_3b067 msJ1_charAt_3b067 lkJ0_495 (c_latinAt l E B T hi hk σ) ⟨Nat.le_of_ble_eq_true rfl, Nat.le_of_ble_eq_true rfl⟩ ⟨Nat.le_refl _, Nat.le_refl _⟩ rfl hl.1 rfl (Nat.le_of_ble_eq_true rfl) dJ0_charAt_5068e_12 (fun H1 L1 hw => ?_)
  exact W.zret hx hb hr (h_sigs i hi _ hlt).2 (h_endQ (H0 := s.heap) hw) hw.2.1.2.2 dJ0_charAt_5068e_15 hlk
section HS2
variable {p : Program} {l : Launch} {e : Env} {R : Room} {s : State} {m : MethodId} {args : Array Value} {below : List Frame} {meth : Method} {c : Code} {H : Heap} {locs : List Loc} {cells slots : Nat} {Q : State → Prop}
variable {cc : ByteArray} {pc nL : Nat} {ls : Array Slot} {rest : List Value} {E : hE} {B : Nat} {T : hT} {σ : hM} {α : Type} {z : α} {index i : Nat} {own : String}
theorem h_slen {κ : Int32 → Option α} (hf : (slen i).bind κ = some z) (hx : p.tables.exec = Jvm.exec) (hb : c.code = cc) (hml : c.maxLocals = nL) (hsz : ls.size = nL) (hts : ∀ w ∈ h_tbl, w.before args s = true) (hown : s.vm.findClass own = some m.cls) (hX : h_X E (h_A B T s.heap.size) s s.heap) (hw : h_W E B T s.heap σ H locs) (hlk : Cond.methodLink own index yJ0_length_8abf5 ∈ h_tbl) (hR : 4 ≤ R.frames ∧ 160 ≤ R.locals) (hcs : cells ≤ R.cells ∧ slots ≤ R.slots) (hdg : decode cc pc = .ok (.invokevirtual index, 3)) (hcat : (rest.map fun v => v.category).sum ≤ 8)
    (kk : ∀ (x : Int32) (H1 : Heap) (L1 : List Loc), κ x = some z → h_W E B T s.heap σ H1 L1 → W p l e R s m args below meth c H1 L1 cells slots Q (F0 m (pc + 3) ls (.int x :: rest))) : W p l e R s m args below meth c H locs cells slots Q (F0 m pc ls (.ref (E.2.2.1 i) :: rest)) := by
  obtain ⟨hi, hf⟩ := ob_some hf
  exact h_cT0 (As := []) hi hx hb hml hts hown hX hw myJ0_length_8abf5 miJ0_length_8abf5 hlk rfl (c_slen l E B T hi σ) ⟨by omega, by omega⟩ hcs rfl hsz rfl hcat hdg (fun H1 L1 h => kk _ H1 L1 hf h)
theorem h_sat {κ : Int32 → Option α} {k : Int32} (hf : (sat i k).bind κ = some z) (hx : p.tables.exec = Jvm.exec) (hb : c.code = cc) (hml : c.maxLocals = nL) (hsz : ls.size = nL) (hts : ∀ w ∈ h_tbl, w.before args s = true) (hown : s.vm.findClass own = some m.cls) (hX : h_X E (h_A B T s.heap.size) s s.heap) (hw : h_W E B T s.heap σ H locs) (hlk : Cond.methodLink own index yJ0_charAt_5068e ∈ h_tbl) (hR : 4 ≤ R.frames ∧ 160 ≤ R.locals) (hcs : cells ≤ R.cells ∧ slots ≤ R.slots) (hdg : decode cc pc = .ok (.invokevirtual index, 3)) (hcat : (rest.map fun v => v.category).sum ≤ 8)
    (kk : ∀ (x : Int32) (H1 : Heap) (L1 : List Loc), κ x = some z → h_W E B T s.heap σ H1 L1 → W p l e R s m args below meth c H1 L1 cells slots Q (F0 m (pc + 3) ls (.int x :: rest))) : W p l e R s m args below meth c H locs cells slots Q (F0 m pc ls (.int k :: .ref (E.2.2.1 i) :: rest)) := by
  obtain ⟨⟨hi, hk⟩, hf⟩ := ob_some hf
  exact h_cT0 (As := [.int k]) hi hx hb hml hts hown hX hw myJ0_charAt_5068e miJ0_charAt_5068e hlk rfl (c_sat l E B T hi hk σ) ⟨by omega, by omega⟩ hcs rfl hsz rfl hcat hdg (fun H1 L1 h => kk _ H1 L1 hf h)
end HS2
section HS3
variable {p : Program} {l : Launch} {e : Env} {R : Room} {s : State} {m : MethodId} {args : Array Value} {below : List Frame} {meth : Method} {c : Code} {H : Heap} {locs : List Loc} {cells slots : Nat} {Q : State → Prop} {cc : ByteArray} {pc : Nat} {ls : Array Slot} {rest : List Value}
theorem h_ldcSW (hx : p.tables.exec = Jvm.exec) (hb : c.code = cc) {own tx : String} {index q : Nat} (hown : s.vm.findClass own = some m.cls) (hZ : vk_R own index tx q s) (hdg : decode cc pc = .ok (.ldc_w index, 3))
    (k : W p l e R s m args below meth c H locs cells slots Q (F0 m (pc + 3) ls (.ref q :: rest))) : W p l e R s m args below meth c H locs cells slots Q (F0 m pc ls rest) := by
  intro T hT X
  obtain ⟨t, a1, b1⟩ := k T hT X
  exact ⟨t, X.ldcStringW hx hown (text := tx) (a := q) hZ.1 hZ.2 (g := F0 m pc ls rest) rfl (by rw [hb]; exact hdg) t a1, b1⟩
end HS3
