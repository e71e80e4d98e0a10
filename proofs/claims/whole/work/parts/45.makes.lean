section GEN
variable {p : Program} {l : Launch} {e : Env} {s : State} {m : MethodId} {args : Array Value} {below : List Frame} {meth : Method} {c : Code} {E : hE} {B : Nat} {T : hT}
def rmX6_init : Room := { frames := 1, cells := 1, slots := 400, locals := 40 }
def fX6_init (T : hT) (a0 : Nat) (u0 : hM) (n0 : Nat) : Option (hM × Nat) := (nwa T u0 n0 12 400).bind fun w1 => (ptr (tr T w1.2) w1.1 a0 6 0 (some n0)).bind fun u2 => (pti (tr T w1.2) u2 a0 6 1 (0 : Int32)).bind fun u3 => (pti (tr T w1.2) u3 a0 6 2 (0 : Int32)).bind fun u4 => (pti (tr T w1.2) u4 a0 6 3 (0 : Int32)).bind fun u5 => (pti (tr T w1.2) u5 a0 6 4 (0 : Int32)).bind fun u6 => (pti (tr T w1.2) u6 a0 6 5 (-1 : Int32)).bind fun u7 => some (u7, w1.2)
set_option maxRecDepth 100000 in
set_option maxHeartbeats 4000000 in
theorem wX6_init {a0 : Nat} {u0 : hM} {n0 : Nat} {z : hM × Nat} {ls : Array Slot} (hΓ : h_ΓA E B p s m args meth c cX6_init 1 none yX6_init) (hf : fX6_init T a0 u0 n0 = some z) (hw : h_Wa E B T s.heap u0 n0 s.heap []) (hl : lv_has ls 1 [(0, .ref (B + a0))]) : W p l e rmX6_init s m args below meth c s.heap [] 0 0 (h_QAv below E B T args s rmX6_init z) (F0 m 0 ls []) := by
  obtain ⟨hx, hb, hr, hml, hts, hown, hlk, hX, hY, hnm⟩ := id hΓ
  unfold fX6_init at hf
  refine lv_aload_n hx hb dX6_init_0 rfl (lv_at hl 0 rfl) ?_
  refine h_obj (rest := []) hx hb hml hl.1 hts hown loX6_3 ⟨Nat.le_of_ble_eq_true rfl, Nat.le_of_ble_eq_true rfl⟩ dX6_init_1 ?_
  refine lv_aload_n hx hb dX6_init_4 rfl (lv_at hl 0 rfl) ?_
  refine lv_sipush (v := 400) hx hb dX6_init_5 (by decide) ?_
  refine h_newb (len := 400) hf hx hb hts hX hw h_acb ⟨by decide, by decide, by decide⟩ (Nat.le_of_ble_eq_true rfl) (Nat.le_of_ble_eq_true rfl) dX6_init_8 (fun w1 H1 hf hw => ?_)
  refine h_putF hf hx hb hts hown hX (h_ba hw) flX6_9 ⟨rfl, rfl⟩ hnm rfl dX6_init_10 (fun u2 H2 L2 hf hw9 => ?_)
  have hw := h_bb hw hw9
  refine lv_aload_n hx hb dX6_init_13 rfl (lv_at hl 0 rfl) ?_
  refine lv_iconst (v := 0) hx hb dX6_init_14 (by decide) ?_
  refine h_puti hf hx hb hts hown hX (h_ba hw) flX6_15 ⟨rfl, rfl⟩ dX6_init_15 (fun u3 H3 L3 hf hw9 => ?_)
  have hw := h_bb hw hw9
  refine lv_aload_n hx hb dX6_init_18 rfl (lv_at hl 0 rfl) ?_
  refine lv_iconst (v := 0) hx hb dX6_init_19 (by decide) ?_
  refine h_puti hf hx hb hts hown hX (h_ba hw) flX6_19 ⟨rfl, rfl⟩ dX6_init_20 (fun u4 H4 L4 hf hw9 => ?_)
  have hw := h_bb hw hw9
  refine lv_aload_n hx hb dX6_init_23 rfl (lv_at hl 0 rfl) ?_
  refine lv_iconst (v := 0) hx hb dX6_init_24 (by decide) ?_
  refine h_puti hf hx hb hts hown hX (h_ba hw) flX6_22 ⟨rfl, rfl⟩ dX6_init_25 (fun u5 H5 L5 hf hw9 => ?_)
  have hw := h_bb hw hw9
  refine lv_aload_n hx hb dX6_init_28 rfl (lv_at hl 0 rfl) ?_
  refine lv_iconst (v := 0) hx hb dX6_init_29 (by decide) ?_
  refine h_puti hf hx hb hts hown hX (h_ba hw) flX6_25 ⟨rfl, rfl⟩ dX6_init_30 (fun u6 H6 L6 hf hw9 => ?_)
  have hw := h_bb hw hw9
  refine lv_aload_n hx hb dX6_init_33 rfl (lv_at hl 0 rfl) ?_
  refine lv_iconst (v := -1) hx hb dX6_init_34 (by decide) ?_
  refine h_puti hf hx hb hts hown hX (h_ba hw) flX6_28 ⟨rfl, rfl⟩ dX6_init_35 (fun u7 H7 L7 hf hw9 => ?_)
  have hw := h_bb hw hw9
  exact h_vretA (rm := rmX6_init) hf hx hb hr hlk hw ⟨Nat.le_of_ble_eq_true rfl, Nat.le_of_ble_eq_true rfl⟩ dX6_init_38
theorem c_X6_init (l : Launch) (E : hE) (B : Nat) (T : hT) (a0 : Nat) (u0 : hM) (n0 : Nat) {z : hM × Nat} (hf : fX6_init T a0 u0 n0 = some z) : h_CA l E B T yX6_init cX6_init 1 none rmX6_init [.ref (B + a0)] u0 n0 z.1 z.2 none := h_ofA (by decide) (Nat.le_of_ble_eq_true rfl) (fun p e s m below meth c ls hΓ hl hw => wX6_init hΓ hf hw hl)
def rmX1_init : Room := { frames := 1, cells := 2, slots := 80, locals := 40 }
def fX1_init (T : hT) (a0 : Nat) (u0 : hM) (n0 : Nat) : Option (hM × Nat) := (nwa T u0 n0 11 40).bind fun w1 => (ptr (tr T w1.2) w1.1 a0 1 0 (some n0)).bind fun u2 => (nwa T u2 w1.2 11 40).bind fun w3 => (ptr (tr T w3.2) w3.1 a0 1 1 (some w1.2)).bind fun u4 => (pti (tr T w3.2) u4 a0 1 2 (0 : Int32)).bind fun u5 => some (u5, w3.2)
set_option maxRecDepth 100000 in
set_option maxHeartbeats 4000000 in
theorem wX1_init {a0 : Nat} {u0 : hM} {n0 : Nat} {z : hM × Nat} {ls : Array Slot} (hΓ : h_ΓA E B p s m args meth c cX1_init 1 none yX1_init) (hf : fX1_init T a0 u0 n0 = some z) (hw : h_Wa E B T s.heap u0 n0 s.heap []) (hl : lv_has ls 1 [(0, .ref (B + a0))]) : W p l e rmX1_init s m args below meth c s.heap [] 0 0 (h_QAv below E B T args s rmX1_init z) (F0 m 0 ls []) := by
  obtain ⟨hx, hb, hr, hml, hts, hown, hlk, hX, hY, hnm⟩ := id hΓ
  unfold fX1_init at hf
  refine lv_aload_n hx hb dX1_init_0 rfl (lv_at hl 0 rfl) ?_
  refine h_obj (rest := []) hx hb hml hl.1 hts hown loX1_3 ⟨Nat.le_of_ble_eq_true rfl, Nat.le_of_ble_eq_true rfl⟩ dX1_init_1 ?_
  refine lv_aload_n hx hb dX1_init_4 rfl (lv_at hl 0 rfl) ?_
  refine lv_bipush (v := 40) hx hb dX1_init_5 (by decide) ?_
  refine h_newi (len := 40) hf hx hb hts hX hw h_aci ⟨by decide, by decide, by decide⟩ (Nat.le_of_ble_eq_true rfl) (Nat.le_of_ble_eq_true rfl) dX1_init_7 (fun w1 H1 hf hw => ?_)
  refine h_putF hf hx hb hts hown hX (h_ba hw) flX1_9 ⟨rfl, rfl⟩ hnm rfl dX1_init_9 (fun u2 H2 L2 hf hw9 => ?_)
  have hw := h_bb hw hw9
  refine lv_aload_n hx hb dX1_init_12 rfl (lv_at hl 0 rfl) ?_
  refine lv_bipush (v := 40) hx hb dX1_init_13 (by decide) ?_
  refine h_newi (len := 40) hf hx hb hts hX hw h_aci ⟨by decide, by decide, by decide⟩ (Nat.le_of_ble_eq_true rfl) (Nat.le_of_ble_eq_true rfl) dX1_init_15 (fun w3 H3 hf hw => ?_)
  refine h_putF hf hx hb hts hown hX (h_ba hw) flX1_15 ⟨rfl, rfl⟩ hnm rfl dX1_init_17 (fun u4 H4 L4 hf hw9 => ?_)
  have hw := h_bb hw hw9
  refine lv_aload_n hx hb dX1_init_20 rfl (lv_at hl 0 rfl) ?_
  refine lv_iconst (v := 0) hx hb dX1_init_21 (by decide) ?_
  refine h_puti hf hx hb hts hown hX (h_ba hw) flX1_18 ⟨rfl, rfl⟩ dX1_init_22 (fun u5 H5 L5 hf hw9 => ?_)
  have hw := h_bb hw hw9
  exact h_vretA (rm := rmX1_init) hf hx hb hr hlk hw ⟨Nat.le_of_ble_eq_true rfl, Nat.le_of_ble_eq_true rfl⟩ dX1_init_25
theorem c_X1_init (l : Launch) (E : hE) (B : Nat) (T : hT) (a0 : Nat) (u0 : hM) (n0 : Nat) {z : hM × Nat} (hf : fX1_init T a0 u0 n0 = some z) : h_CA l E B T yX1_init cX1_init 1 none rmX1_init [.ref (B + a0)] u0 n0 z.1 z.2 none := h_ofA (by decide) (Nat.le_of_ble_eq_true rfl) (fun p e s m below meth c ls hΓ hl hw => wX1_init hΓ hf hw hl)
def rmX7_init : Room := { frames := 1, cells := 4, slots := 24, locals := 40 }
def fX7_init (T : hT) (a0 : Nat) (u0 : hM) (n0 : Nat) : Option (hM × Nat) := (nwa T u0 n0 11 6).bind fun w1 => (ptr (tr T w1.2) w1.1 a0 7 0 (some n0)).bind fun u2 => (nwa T u2 w1.2 11 6).bind fun w3 => (ptr (tr T w3.2) w3.1 a0 7 1 (some w1.2)).bind fun u4 => (nwa T u4 w3.2 11 6).bind fun w5 => (ptr (tr T w5.2) w5.1 a0 7 2 (some w3.2)).bind fun u6 => (nwa T u6 w5.2 11 6).bind fun w7 => (ptr (tr T w7.2) w7.1 a0 7 3 (some w5.2)).bind fun u8 => (pti (tr T w7.2) u8 a0 7 4 (0 : Int32)).bind fun u9 => some (u9, w7.2)
set_option maxRecDepth 100000 in
set_option maxHeartbeats 4000000 in
theorem wX7_init {a0 : Nat} {u0 : hM} {n0 : Nat} {z : hM × Nat} {ls : Array Slot} (hΓ : h_ΓA E B p s m args meth c cX7_init 1 none yX7_init) (hf : fX7_init T a0 u0 n0 = some z) (hw : h_Wa E B T s.heap u0 n0 s.heap []) (hl : lv_has ls 1 [(0, .ref (B + a0))]) : W p l e rmX7_init s m args below meth c s.heap [] 0 0 (h_QAv below E B T args s rmX7_init z) (F0 m 0 ls []) := by
  obtain ⟨hx, hb, hr, hml, hts, hown, hlk, hX, hY, hnm⟩ := id hΓ
  unfold fX7_init at hf
  refine lv_aload_n hx hb dX7_init_0 rfl (lv_at hl 0 rfl) ?_
  refine h_obj (rest := []) hx hb hml hl.1 hts hown loX7_3 ⟨Nat.le_of_ble_eq_true rfl, Nat.le_of_ble_eq_true rfl⟩ dX7_init_1 ?_
  refine lv_aload_n hx hb dX7_init_4 rfl (lv_at hl 0 rfl) ?_
  refine lv_bipush (v := 6) hx hb dX7_init_5 (by decide) ?_
  refine h_newi (len := 6) hf hx hb hts hX hw h_aci ⟨by decide, by decide, by decide⟩ (Nat.le_of_ble_eq_true rfl) (Nat.le_of_ble_eq_true rfl) dX7_init_7 (fun w1 H1 hf hw => ?_)
  refine h_putF hf hx hb hts hown hX (h_ba hw) flX7_9 ⟨rfl, rfl⟩ hnm rfl dX7_init_9 (fun u2 H2 L2 hf hw9 => ?_)
  have hw := h_bb hw hw9
  refine lv_aload_n hx hb dX7_init_12 rfl (lv_at hl 0 rfl) ?_
  refine lv_bipush (v := 6) hx hb dX7_init_13 (by decide) ?_
  refine h_newi (len := 6) hf hx hb hts hX hw h_aci ⟨by decide, by decide, by decide⟩ (Nat.le_of_ble_eq_true rfl) (Nat.le_of_ble_eq_true rfl) dX7_init_15 (fun w3 H3 hf hw => ?_)
  refine h_putF hf hx hb hts hown hX (h_ba hw) flX7_15 ⟨rfl, rfl⟩ hnm rfl dX7_init_17 (fun u4 H4 L4 hf hw9 => ?_)
  have hw := h_bb hw hw9
  refine lv_aload_n hx hb dX7_init_20 rfl (lv_at hl 0 rfl) ?_
  refine lv_bipush (v := 6) hx hb dX7_init_21 (by decide) ?_
  refine h_newi (len := 6) hf hx hb hts hX hw h_aci ⟨by decide, by decide, by decide⟩ (Nat.le_of_ble_eq_true rfl) (Nat.le_of_ble_eq_true rfl) dX7_init_23 (fun w5 H5 hf hw => ?_)
  refine h_putF hf hx hb hts hown hX (h_ba hw) flX7_18 ⟨rfl, rfl⟩ hnm rfl dX7_init_25 (fun u6 H6 L6 hf hw9 => ?_)
  have hw := h_bb hw hw9
  refine lv_aload_n hx hb dX7_init_28 rfl (lv_at hl 0 rfl) ?_
  refine lv_bipush (v := 6) hx hb dX7_init_29 (by decide) ?_
  refine h_newi (len := 6) hf hx hb hts hX hw h_aci ⟨by decide, by decide, by decide⟩ (Nat.le_of_ble_eq_true rfl) (Nat.le_of_ble_eq_true rfl) dX7_init_31 (fun w7 H7 hf hw => ?_)
  refine h_putF hf hx hb hts hown hX (h_ba hw) flX7_21 ⟨rfl, rfl⟩ hnm rfl dX7_init_33 (fun u8 H8 L8 hf hw9 => ?_)
  have hw := h_bb hw hw9
  refine lv_aload_n hx hb dX7_init_36 rfl (lv_at hl 0 rfl) ?_
  refine lv_iconst (v := 0) hx hb dX7_init_37 (by decide) ?_
  refine h_puti hf hx hb hts hown hX (h_ba hw) flX7_24 ⟨rfl, rfl⟩ dX7_init_38 (fun u9 H9 L9 hf hw9 => ?_)
  have hw := h_bb hw hw9
  exact h_vretA (rm := rmX7_init) hf hx hb hr hlk hw ⟨Nat.le_of_ble_eq_true rfl, Nat.le_of_ble_eq_true rfl⟩ dX7_init_41
theorem c_X7_init (l : Launch) (E : hE) (B : Nat) (T : hT) (a0 : Nat) (u0 : hM) (n0 : Nat) {z : hM × Nat} (hf : fX7_init T a0 u0 n0 = some z) : h_CA l E B T yX7_init cX7_init 1 none rmX7_init [.ref (B + a0)] u0 n0 z.1 z.2 none := h_ofA (by decide) (Nat.le_of_ble_eq_true rfl) (fun p e s m below meth c ls hΓ hl hw => wX7_init hΓ hf hw hl)
def rmX3_init : Room := { frames := 1, cells := 0, slots := 0, locals := 40 }
def fX3_init (T : hT) (a0 : Nat) (u0 : hM) (n0 : Nat) : Option (hM × Nat) := (pti (tr T n0) u0 a0 3 0 (0 : Int32)).bind fun u1 => (pti (tr T n0) u1 a0 3 1 (0 : Int32)).bind fun u2 => (pti (tr T n0) u2 a0 3 2 (0 : Int32)).bind fun u3 => (pti (tr T n0) u3 a0 3 3 (0 : Int32)).bind fun u4 => (pti (tr T n0) u4 a0 3 4 (1 : Int32)).bind fun u5 => (pti (tr T n0) u5 a0 3 5 (0 : Int32)).bind fun u6 => (pti (tr T n0) u6 a0 3 6 (0 : Int32)).bind fun u7 => (pti (tr T n0) u7 a0 3 7 (0 : Int32)).bind fun u8 => some (u8, n0)
set_option maxRecDepth 100000 in
set_option maxHeartbeats 4000000 in
theorem wX3_init {a0 : Nat} {u0 : hM} {n0 : Nat} {z : hM × Nat} {ls : Array Slot} (hΓ : h_ΓA E B p s m args meth c cX3_init 1 none yX3_init) (hf : fX3_init T a0 u0 n0 = some z) (hw : h_Wa E B T s.heap u0 n0 s.heap []) (hl : lv_has ls 1 [(0, .ref (B + a0))]) : W p l e rmX3_init s m args below meth c s.heap [] 0 0 (h_QAv below E B T args s rmX3_init z) (F0 m 0 ls []) := by
  obtain ⟨hx, hb, hr, hml, hts, hown, hlk, hX, hY, hnm⟩ := id hΓ
  unfold fX3_init at hf
  refine lv_aload_n hx hb dX3_init_0 rfl (lv_at hl 0 rfl) ?_
  refine h_obj (rest := []) hx hb hml hl.1 hts hown loX3_3 ⟨Nat.le_of_ble_eq_true rfl, Nat.le_of_ble_eq_true rfl⟩ dX3_init_1 ?_
  refine lv_aload_n hx hb dX3_init_4 rfl (lv_at hl 0 rfl) ?_
  refine lv_iconst (v := 0) hx hb dX3_init_5 (by decide) ?_
  refine h_puti hf hx hb hts hown hX (h_ba hw) flX3_9 ⟨rfl, rfl⟩ dX3_init_6 (fun u1 H1 L1 hf hw9 => ?_)
  have hw := h_bb hw hw9
  refine lv_aload_n hx hb dX3_init_9 rfl (lv_at hl 0 rfl) ?_
  refine lv_iconst (v := 0) hx hb dX3_init_10 (by decide) ?_
  refine h_puti hf hx hb hts hown hX (h_ba hw) flX3_15 ⟨rfl, rfl⟩ dX3_init_11 (fun u2 H2 L2 hf hw9 => ?_)
  have hw := h_bb hw hw9
  refine lv_aload_n hx hb dX3_init_14 rfl (lv_at hl 0 rfl) ?_
  refine lv_iconst (v := 0) hx hb dX3_init_15 (by decide) ?_
  refine h_puti hf hx hb hts hown hX (h_ba hw) flX3_18 ⟨rfl, rfl⟩ dX3_init_16 (fun u3 H3 L3 hf hw9 => ?_)
  have hw := h_bb hw hw9
  refine lv_aload_n hx hb dX3_init_19 rfl (lv_at hl 0 rfl) ?_
  refine lv_iconst (v := 0) hx hb dX3_init_20 (by decide) ?_
  refine h_puti hf hx hb hts hown hX (h_ba hw) flX3_21 ⟨rfl, rfl⟩ dX3_init_21 (fun u4 H4 L4 hf hw9 => ?_)
  have hw := h_bb hw hw9
  refine lv_aload_n hx hb dX3_init_24 rfl (lv_at hl 0 rfl) ?_
  refine lv_iconst (v := 1) hx hb dX3_init_25 (by decide) ?_
  refine h_puti hf hx hb hts hown hX (h_ba hw) flX3_24 ⟨rfl, rfl⟩ dX3_init_26 (fun u5 H5 L5 hf hw9 => ?_)
  have hw := h_bb hw hw9
  refine lv_aload_n hx hb dX3_init_29 rfl (lv_at hl 0 rfl) ?_
  refine lv_iconst (v := 0) hx hb dX3_init_30 (by decide) ?_
  refine h_puti hf hx hb hts hown hX (h_ba hw) flX3_27 ⟨rfl, rfl⟩ dX3_init_31 (fun u6 H6 L6 hf hw9 => ?_)
  have hw := h_bb hw hw9
  refine lv_aload_n hx hb dX3_init_34 rfl (lv_at hl 0 rfl) ?_
  refine lv_iconst (v := 0) hx hb dX3_init_35 (by decide) ?_
  refine h_puti hf hx hb hts hown hX (h_ba hw) flX3_30 ⟨rfl, rfl⟩ dX3_init_36 (fun u7 H7 L7 hf hw9 => ?_)
  have hw := h_bb hw hw9
  refine lv_aload_n hx hb dX3_init_39 rfl (lv_at hl 0 rfl) ?_
  refine lv_iconst (v := 0) hx hb dX3_init_40 (by decide) ?_
  refine h_puti hf hx hb hts hown hX (h_ba hw) flX3_33 ⟨rfl, rfl⟩ dX3_init_41 (fun u8 H8 L8 hf hw9 => ?_)
  have hw := h_bb hw hw9
  exact h_vretA (rm := rmX3_init) hf hx hb hr hlk hw ⟨Nat.le_of_ble_eq_true rfl, Nat.le_of_ble_eq_true rfl⟩ dX3_init_44
theorem c_X3_init (l : Launch) (E : hE) (B : Nat) (T : hT) (a0 : Nat) (u0 : hM) (n0 : Nat) {z : hM × Nat} (hf : fX3_init T a0 u0 n0 = some z) : h_CA l E B T yX3_init cX3_init 1 none rmX3_init [.ref (B + a0)] u0 n0 z.1 z.2 none := h_ofA (by decide) (Nat.le_of_ble_eq_true rfl) (fun p e s m below meth c ls hΓ hl hw => wX3_init hΓ hf hw hl)
def rmX8_newSingers : Room := { frames := 2, cells := 13, slots := 108, locals := 80 }
def fX8_newSingers (T : hT) (u0 : hM) (n0 : Nat) : Option (Nat × hM × Nat) := (nwa T u0 n0 15 12).bind fun w1 => (nwo T w1.1 w1.2 3).bind fun w2 => (fX3_init T w1.2 w2.1 w2.2).bind fun w3 => (astq (tr T w3.2) w3.1 n0 (0 : Int32) w1.2 15 3).bind fun u4 => (nwo T u4 w3.2 3).bind fun w5 => (fX3_init T w3.2 w5.1 w5.2).bind fun w6 => (astq (tr T w6.2) w6.1 n0 (1 : Int32) w3.2 15 3).bind fun u7 => (nwo T u7 w6.2 3).bind fun w8 => (fX3_init T w6.2 w8.1 w8.2).bind fun w9 => (astq (tr T w9.2) w9.1 n0 (2 : Int32) w6.2 15 3).bind fun u10 => (nwo T u10 w9.2 3).bind fun w11 => (fX3_init T w9.2 w11.1 w11.2).bind fun w12 => (astq (tr T w12.2) w12.1 n0 (3 : Int32) w9.2 15 3).bind fun u13 => (nwo T u13 w12.2 3).bind fun w14 => (fX3_init T w12.2 w14.1 w14.2).bind fun w15 => (astq (tr T w15.2) w15.1 n0 (4 : Int32) w12.2 15 3).bind fun u16 => (nwo T u16 w15.2 3).bind fun w17 => (fX3_init T w15.2 w17.1 w17.2).bind fun w18 => (astq (tr T w18.2) w18.1 n0 (5 : Int32) w15.2 15 3).bind fun u19 => (nwo T u19 w18.2 3).bind fun w20 => (fX3_init T w18.2 w20.1 w20.2).bind fun w21 => (astq (tr T w21.2) w21.1 n0 (6 : Int32) w18.2 15 3).bind fun u22 => (nwo T u22 w21.2 3).bind fun w23 => (fX3_init T w21.2 w23.1 w23.2).bind fun w24 => (astq (tr T w24.2) w24.1 n0 (7 : Int32) w21.2 15 3).bind fun u25 => (nwo T u25 w24.2 3).bind fun w26 => (fX3_init T w24.2 w26.1 w26.2).bind fun w27 => (astq (tr T w27.2) w27.1 n0 (8 : Int32) w24.2 15 3).bind fun u28 => (nwo T u28 w27.2 3).bind fun w29 => (fX3_init T w27.2 w29.1 w29.2).bind fun w30 => (astq (tr T w30.2) w30.1 n0 (9 : Int32) w27.2 15 3).bind fun u31 => (nwo T u31 w30.2 3).bind fun w32 => (fX3_init T w30.2 w32.1 w32.2).bind fun w33 => (astq (tr T w33.2) w33.1 n0 (10 : Int32) w30.2 15 3).bind fun u34 => (nwo T u34 w33.2 3).bind fun w35 => (fX3_init T w33.2 w35.1 w35.2).bind fun w36 => (astq (tr T w36.2) w36.1 n0 (11 : Int32) w33.2 15 3).bind fun u37 => some (n0, u37, w36.2)
set_option maxRecDepth 100000 in
set_option maxHeartbeats 4000000 in
theorem wX8_newSingers {u0 : hM} {n0 : Nat} {z : Nat × hM × Nat} {ls : Array Slot} (hΓ : h_ΓA E B p s m args meth c cX8_newSingers 2 (some (.array (.object "SungSteps$Singer"))) yX8_newSingers) (hf : fX8_newSingers T u0 n0 = some z) (hw : h_Wa E B T s.heap u0 n0 s.heap []) (hl : lv_has ls 2 []) : W p l e rmX8_newSingers s m args below meth c s.heap [] 0 0 (h_QAr below E B T args s rmX8_newSingers z) (F0 m 0 ls []) := by
  obtain ⟨hx, hb, hr, hml, hts, hown, hlk, hX, hY, hnm⟩ := id hΓ
  unfold fX8_newSingers at hf
  refine lv_bipush (v := 12) hx hb dX8_newSingers_0 (by decide) ?_
  refine h_newq (t0 := 4) (C := RX3) (len := 12) hf hx hb hts hown hX hw ⟨⟨by decide, by decide⟩, rfl⟩ hY.1 cqX8_84 ⟨by decide, by decide, by decide⟩ (Nat.le_of_ble_eq_true rfl) (Nat.le_of_ble_eq_true rfl) dX8_newSingers_2 (fun w1 H1 hf hw => ?_)
  refine lv_astore_n (lv' := [(0, .ref (B + n0))]) hx hb dX8_newSingers_5 rfl hl (by decide) rfl (fun ls hl => ?_)
  refine lv_iconst (v := 0) hx hb dX8_newSingers_6 (by decide) ?_
  refine lv_istore_n (lv' := [(1, .int (0 : Int32)), (0, .ref (B + n0))]) hx hb dX8_newSingers_7 rfl hl (by decide) rfl (fun ls hl => ?_)
  refine lv_iload_n hx hb dX8_newSingers_8 rfl (lv_at hl 0 rfl) ?_
  refine lv_bipush (v := 12) hx hb dX8_newSingers_9 (by decide) ?_
  refine lv_icmp_ge (tgt := 30) hx hb dX8_newSingers_11 (by decide) (fun hc => absurd hc (by decide)) (fun hc => ?_)
  refine lv_aload_n hx hb dX8_newSingers_14 rfl (lv_at hl 1 rfl) ?_
  refine lv_iload_n hx hb dX8_newSingers_15 rfl (lv_at hl 0 rfl) ?_
  refine h_new hf hx hb hts hown hX hw (by decide) clX8_84 ib3 it3 (Nat.le_of_ble_eq_true rfl) (Nat.le_of_ble_eq_true rfl) dX8_newSingers_16 (fun w2 H2 hf hw => ?_)
  refine lv_dup hx hb dX8_newSingers_19 rfl ?_
  refine h_cIN (rm := rmX3_init) (a := w1.2) (As := []) (rest := [.ref (B + w1.2), .int (0 : Int32), .ref (B + n0)]) hf hx hb hml hts hown hX hY hw myX3_init iiX3_init nkX8_86 rfl (fun q hq => c_X3_init l E B T w1.2 w2.1 w2.2 hq) ⟨Nat.le_of_ble_eq_true rfl, Nat.le_of_ble_eq_true rfl⟩ ⟨Nat.le_of_ble_eq_true rfl, Nat.le_of_ble_eq_true rfl⟩ rfl hl.1 rfl (Nat.le_of_ble_eq_true rfl) dX8_newSingers_20 (fun w3 H3 L3 hf hw => ?_)
  refine h_aastq (t0 := 4) hf hx hb hX (h_ba hw) ⟨⟨by decide, by decide⟩, rfl⟩ (by decide) dX8_newSingers_23 (fun u4 H4 L4 hf hw9 => ?_)
  have hw := h_bb hw hw9
  refine lv_iinc (v := 1) (lv' := [(1, .int (1 : Int32)), (0, .ref (B + n0))]) hx hb dX8_newSingers_24 hl (k := 0) rfl (by decide) (by decide) rfl (fun ls hl => ?_)
  refine lv_goto (tgt := 8) hx hb dX8_newSingers_27 (by decide) ?_
  refine lv_iload_n hx hb dX8_newSingers_8 rfl (lv_at hl 0 rfl) ?_
  refine lv_bipush (v := 12) hx hb dX8_newSingers_9 (by decide) ?_
  refine lv_icmp_ge (tgt := 30) hx hb dX8_newSingers_11 (by decide) (fun hc => absurd hc (by decide)) (fun hc => ?_)
  refine lv_aload_n hx hb dX8_newSingers_14 rfl (lv_at hl 1 rfl) ?_
  refine lv_iload_n hx hb dX8_newSingers_15 rfl (lv_at hl 0 rfl) ?_
  refine h_new hf hx hb hts hown hX hw (by decide) clX8_84 ib3 it3 (Nat.le_of_ble_eq_true rfl) (Nat.le_of_ble_eq_true rfl) dX8_newSingers_16 (fun w5 H5 hf hw => ?_)
  refine lv_dup hx hb dX8_newSingers_19 rfl ?_
  refine h_cIN (rm := rmX3_init) (a := w3.2) (As := []) (rest := [.ref (B + w3.2), .int (1 : Int32), .ref (B + n0)]) hf hx hb hml hts hown hX hY hw myX3_init iiX3_init nkX8_86 rfl (fun q hq => c_X3_init l E B T w3.2 w5.1 w5.2 hq) ⟨Nat.le_of_ble_eq_true rfl, Nat.le_of_ble_eq_true rfl⟩ ⟨Nat.le_of_ble_eq_true rfl, Nat.le_of_ble_eq_true rfl⟩ rfl hl.1 rfl (Nat.le_of_ble_eq_true rfl) dX8_newSingers_20 (fun w6 H6 L6 hf hw => ?_)
  refine h_aastq (t0 := 4) hf hx hb hX (h_ba hw) ⟨⟨by decide, by decide⟩, rfl⟩ (by decide) dX8_newSingers_23 (fun u7 H7 L7 hf hw9 => ?_)
  have hw := h_bb hw hw9
  refine lv_iinc (v := 2) (lv' := [(1, .int (2 : Int32)), (0, .ref (B + n0))]) hx hb dX8_newSingers_24 hl (k := 0) rfl (by decide) (by decide) rfl (fun ls hl => ?_)
  refine lv_goto (tgt := 8) hx hb dX8_newSingers_27 (by decide) ?_
  refine lv_iload_n hx hb dX8_newSingers_8 rfl (lv_at hl 0 rfl) ?_
  refine lv_bipush (v := 12) hx hb dX8_newSingers_9 (by decide) ?_
  refine lv_icmp_ge (tgt := 30) hx hb dX8_newSingers_11 (by decide) (fun hc => absurd hc (by decide)) (fun hc => ?_)
  refine lv_aload_n hx hb dX8_newSingers_14 rfl (lv_at hl 1 rfl) ?_
  refine lv_iload_n hx hb dX8_newSingers_15 rfl (lv_at hl 0 rfl) ?_
  refine h_new hf hx hb hts hown hX hw (by decide) clX8_84 ib3 it3 (Nat.le_of_ble_eq_true rfl) (Nat.le_of_ble_eq_true rfl) dX8_newSingers_16 (fun w8 H8 hf hw => ?_)
  refine lv_dup hx hb dX8_newSingers_19 rfl ?_
  refine h_cIN (rm := rmX3_init) (a := w6.2) (As := []) (rest := [.ref (B + w6.2), .int (2 : Int32), .ref (B + n0)]) hf hx hb hml hts hown hX hY hw myX3_init iiX3_init nkX8_86 rfl (fun q hq => c_X3_init l E B T w6.2 w8.1 w8.2 hq) ⟨Nat.le_of_ble_eq_true rfl, Nat.le_of_ble_eq_true rfl⟩ ⟨Nat.le_of_ble_eq_true rfl, Nat.le_of_ble_eq_true rfl⟩ rfl hl.1 rfl (Nat.le_of_ble_eq_true rfl) dX8_newSingers_20 (fun w9 H9 L9 hf hw => ?_)
  refine h_aastq (t0 := 4) hf hx hb hX (h_ba hw) ⟨⟨by decide, by decide⟩, rfl⟩ (by decide) dX8_newSingers_23 (fun u10 H10 L10 hf hw9 => ?_)
  have hw := h_bb hw hw9
  refine lv_iinc (v := 3) (lv' := [(1, .int (3 : Int32)), (0, .ref (B + n0))]) hx hb dX8_newSingers_24 hl (k := 0) rfl (by decide) (by decide) rfl (fun ls hl => ?_)
  refine lv_goto (tgt := 8) hx hb dX8_newSingers_27 (by decide) ?_
  refine lv_iload_n hx hb dX8_newSingers_8 rfl (lv_at hl 0 rfl) ?_
  refine lv_bipush (v := 12) hx hb dX8_newSingers_9 (by decide) ?_
  refine lv_icmp_ge (tgt := 30) hx hb dX8_newSingers_11 (by decide) (fun hc => absurd hc (by decide)) (fun hc => ?_)
  refine lv_aload_n hx hb dX8_newSingers_14 rfl (lv_at hl 1 rfl) ?_
  refine lv_iload_n hx hb dX8_newSingers_15 rfl (lv_at hl 0 rfl) ?_
  refine h_new hf hx hb hts hown hX hw (by decide) clX8_84 ib3 it3 (Nat.le_of_ble_eq_true rfl) (Nat.le_of_ble_eq_true rfl) dX8_newSingers_16 (fun w11 H11 hf hw => ?_)
  refine lv_dup hx hb dX8_newSingers_19 rfl ?_
  refine h_cIN (rm := rmX3_init) (a := w9.2) (As := []) (rest := [.ref (B + w9.2), .int (3 : Int32), .ref (B + n0)]) hf hx hb hml hts hown hX hY hw myX3_init iiX3_init nkX8_86 rfl (fun q hq => c_X3_init l E B T w9.2 w11.1 w11.2 hq) ⟨Nat.le_of_ble_eq_true rfl, Nat.le_of_ble_eq_true rfl⟩ ⟨Nat.le_of_ble_eq_true rfl, Nat.le_of_ble_eq_true rfl⟩ rfl hl.1 rfl (Nat.le_of_ble_eq_true rfl) dX8_newSingers_20 (fun w12 H12 L12 hf hw => ?_)
  refine h_aastq (t0 := 4) hf hx hb hX (h_ba hw) ⟨⟨by decide, by decide⟩, rfl⟩ (by decide) dX8_newSingers_23 (fun u13 H13 L13 hf hw9 => ?_)
  have hw := h_bb hw hw9
  refine lv_iinc (v := 4) (lv' := [(1, .int (4 : Int32)), (0, .ref (B + n0))]) hx hb dX8_newSingers_24 hl (k := 0) rfl (by decide) (by decide) rfl (fun ls hl => ?_)
  refine lv_goto (tgt := 8) hx hb dX8_newSingers_27 (by decide) ?_
  refine lv_iload_n hx hb dX8_newSingers_8 rfl (lv_at hl 0 rfl) ?_
  refine lv_bipush (v := 12) hx hb dX8_newSingers_9 (by decide) ?_
  refine lv_icmp_ge (tgt := 30) hx hb dX8_newSingers_11 (by decide) (fun hc => absurd hc (by decide)) (fun hc => ?_)
  refine lv_aload_n hx hb dX8_newSingers_14 rfl (lv_at hl 1 rfl) ?_
  refine lv_iload_n hx hb dX8_newSingers_15 rfl (lv_at hl 0 rfl) ?_
  refine h_new hf hx hb hts hown hX hw (by decide) clX8_84 ib3 it3 (Nat.le_of_ble_eq_true rfl) (Nat.le_of_ble_eq_true rfl) dX8_newSingers_16 (fun w14 H14 hf hw => ?_)
  refine lv_dup hx hb dX8_newSingers_19 rfl ?_
  refine h_cIN (rm := rmX3_init) (a := w12.2) (As := []) (rest := [.ref (B + w12.2), .int (4 : Int32), .ref (B + n0)]) hf hx hb hml hts hown hX hY hw myX3_init iiX3_init nkX8_86 rfl (fun q hq => c_X3_init l E B T w12.2 w14.1 w14.2 hq) ⟨Nat.le_of_ble_eq_true rfl, Nat.le_of_ble_eq_true rfl⟩ ⟨Nat.le_of_ble_eq_true rfl, Nat.le_of_ble_eq_true rfl⟩ rfl hl.1 rfl (Nat.le_of_ble_eq_true rfl) dX8_newSingers_20 (fun w15 H15 L15 hf hw => ?_)
  refine h_aastq (t0 := 4) hf hx hb hX (h_ba hw) ⟨⟨by decide, by decide⟩, rfl⟩ (by decide) dX8_newSingers_23 (fun u16 H16 L16 hf hw9 => ?_)
  have hw := h_bb hw hw9
  refine lv_iinc (v := 5) (lv' := [(1, .int (5 : Int32)), (0, .ref (B + n0))]) hx hb dX8_newSingers_24 hl (k := 0) rfl (by decide) (by decide) rfl (fun ls hl => ?_)
  refine lv_goto (tgt := 8) hx hb dX8_newSingers_27 (by decide) ?_
  refine lv_iload_n hx hb dX8_newSingers_8 rfl (lv_at hl 0 rfl) ?_
  refine lv_bipush (v := 12) hx hb dX8_newSingers_9 (by decide) ?_
  refine lv_icmp_ge (tgt := 30) hx hb dX8_newSingers_11 (by decide) (fun hc => absurd hc (by decide)) (fun hc => ?_)
  refine lv_aload_n hx hb dX8_newSingers_14 rfl (lv_at hl 1 rfl) ?_
  refine lv_iload_n hx hb dX8_newSingers_15 rfl (lv_at hl 0 rfl) ?_
  refine h_new hf hx hb hts hown hX hw (by decide) clX8_84 ib3 it3 (Nat.le_of_ble_eq_true rfl) (Nat.le_of_ble_eq_true rfl) dX8_newSingers_16 (fun w17 H17 hf hw => ?_)
  refine lv_dup hx hb dX8_newSingers_19 rfl ?_
  refine h_cIN (rm := rmX3_init) (a := w15.2) (As := []) (rest := [.ref (B + w15.2), .int (5 : Int32), .ref (B + n0)]) hf hx hb hml hts hown hX hY hw myX3_init iiX3_init nkX8_86 rfl (fun q hq => c_X3_init l E B T w15.2 w17.1 w17.2 hq) ⟨Nat.le_of_ble_eq_true rfl, Nat.le_of_ble_eq_true rfl⟩ ⟨Nat.le_of_ble_eq_true rfl, Nat.le_of_ble_eq_true rfl⟩ rfl hl.1 rfl (Nat.le_of_ble_eq_true rfl) dX8_newSingers_20 (fun w18 H18 L18 hf hw => ?_)
  refine h_aastq (t0 := 4) hf hx hb hX (h_ba hw) ⟨⟨by decide, by decide⟩, rfl⟩ (by decide) dX8_newSingers_23 (fun u19 H19 L19 hf hw9 => ?_)
  have hw := h_bb hw hw9
  refine lv_iinc (v := 6) (lv' := [(1, .int (6 : Int32)), (0, .ref (B + n0))]) hx hb dX8_newSingers_24 hl (k := 0) rfl (by decide) (by decide) rfl (fun ls hl => ?_)
  refine lv_goto (tgt := 8) hx hb dX8_newSingers_27 (by decide) ?_
  refine lv_iload_n hx hb dX8_newSingers_8 rfl (lv_at hl 0 rfl) ?_
  refine lv_bipush (v := 12) hx hb dX8_newSingers_9 (by decide) ?_
  refine lv_icmp_ge (tgt := 30) hx hb dX8_newSingers_11 (by decide) (fun hc => absurd hc (by decide)) (fun hc => ?_)
  refine lv_aload_n hx hb dX8_newSingers_14 rfl (lv_at hl 1 rfl) ?_
  refine lv_iload_n hx hb dX8_newSingers_15 rfl (lv_at hl 0 rfl) ?_
  refine h_new hf hx hb hts hown hX hw (by decide) clX8_84 ib3 it3 (Nat.le_of_ble_eq_true rfl) (Nat.le_of_ble_eq_true rfl) dX8_newSingers_16 (fun w20 H20 hf hw => ?_)
  refine lv_dup hx hb dX8_newSingers_19 rfl ?_
  refine h_cIN (rm := rmX3_init) (a := w18.2) (As := []) (rest := [.ref (B + w18.2), .int (6 : Int32), .ref (B + n0)]) hf hx hb hml hts hown hX hY hw myX3_init iiX3_init nkX8_86 rfl (fun q hq => c_X3_init l E B T w18.2 w20.1 w20.2 hq) ⟨Nat.le_of_ble_eq_true rfl, Nat.le_of_ble_eq_true rfl⟩ ⟨Nat.le_of_ble_eq_true rfl, Nat.le_of_ble_eq_true rfl⟩ rfl hl.1 rfl (Nat.le_of_ble_eq_true rfl) dX8_newSingers_20 (fun w21 H21 L21 hf hw => ?_)
  refine h_aastq (t0 := 4) hf hx hb hX (h_ba hw) ⟨⟨by decide, by decide⟩, rfl⟩ (by decide) dX8_newSingers_23 (fun u22 H22 L22 hf hw9 => ?_)
  have hw := h_bb hw hw9
  refine lv_iinc (v := 7) (lv' := [(1, .int (7 : Int32)), (0, .ref (B + n0))]) hx hb dX8_newSingers_24 hl (k := 0) rfl (by decide) (by decide) rfl (fun ls hl => ?_)
  refine lv_goto (tgt := 8) hx hb dX8_newSingers_27 (by decide) ?_
  refine lv_iload_n hx hb dX8_newSingers_8 rfl (lv_at hl 0 rfl) ?_
  refine lv_bipush (v := 12) hx hb dX8_newSingers_9 (by decide) ?_
  refine lv_icmp_ge (tgt := 30) hx hb dX8_newSingers_11 (by decide) (fun hc => absurd hc (by decide)) (fun hc => ?_)
  refine lv_aload_n hx hb dX8_newSingers_14 rfl (lv_at hl 1 rfl) ?_
  refine lv_iload_n hx hb dX8_newSingers_15 rfl (lv_at hl 0 rfl) ?_
  refine h_new hf hx hb hts hown hX hw (by decide) clX8_84 ib3 it3 (Nat.le_of_ble_eq_true rfl) (Nat.le_of_ble_eq_true rfl) dX8_newSingers_16 (fun w23 H23 hf hw => ?_)
  refine lv_dup hx hb dX8_newSingers_19 rfl ?_
  refine h_cIN (rm := rmX3_init) (a := w21.2) (As := []) (rest := [.ref (B + w21.2), .int (7 : Int32), .ref (B + n0)]) hf hx hb hml hts hown hX hY hw myX3_init iiX3_init nkX8_86 rfl (fun q hq => c_X3_init l E B T w21.2 w23.1 w23.2 hq) ⟨Nat.le_of_ble_eq_true rfl, Nat.le_of_ble_eq_true rfl⟩ ⟨Nat.le_of_ble_eq_true rfl, Nat.le_of_ble_eq_true rfl⟩ rfl hl.1 rfl (Nat.le_of_ble_eq_true rfl) dX8_newSingers_20 (fun w24 H24 L24 hf hw => ?_)
  refine h_aastq (t0 := 4) hf hx hb hX (h_ba hw) ⟨⟨by decide, by decide⟩, rfl⟩ (by decide) dX8_newSingers_23 (fun u25 H25 L25 hf hw9 => ?_)
  have hw := h_bb hw hw9
  refine lv_iinc (v := 8) (lv' := [(1, .int (8 : Int32)), (0, .ref (B + n0))]) hx hb dX8_newSingers_24 hl (k := 0) rfl (by decide) (by decide) rfl (fun ls hl => ?_)
  refine lv_goto (tgt := 8) hx hb dX8_newSingers_27 (by decide) ?_
  refine lv_iload_n hx hb dX8_newSingers_8 rfl (lv_at hl 0 rfl) ?_
  refine lv_bipush (v := 12) hx hb dX8_newSingers_9 (by decide) ?_
  refine lv_icmp_ge (tgt := 30) hx hb dX8_newSingers_11 (by decide) (fun hc => absurd hc (by decide)) (fun hc => ?_)
  refine lv_aload_n hx hb dX8_newSingers_14 rfl (lv_at hl 1 rfl) ?_
  refine lv_iload_n hx hb dX8_newSingers_15 rfl (lv_at hl 0 rfl) ?_
  refine h_new hf hx hb hts hown hX hw (by decide) clX8_84 ib3 it3 (Nat.le_of_ble_eq_true rfl) (Nat.le_of_ble_eq_true rfl) dX8_newSingers_16 (fun w26 H26 hf hw => ?_)
  refine lv_dup hx hb dX8_newSingers_19 rfl ?_
  refine h_cIN (rm := rmX3_init) (a := w24.2) (As := []) (rest := [.ref (B + w24.2), .int (8 : Int32), .ref (B + n0)]) hf hx hb hml hts hown hX hY hw myX3_init iiX3_init nkX8_86 rfl (fun q hq => c_X3_init l E B T w24.2 w26.1 w26.2 hq) ⟨Nat.le_of_ble_eq_true rfl, Nat.le_of_ble_eq_true rfl⟩ ⟨Nat.le_of_ble_eq_true rfl, Nat.le_of_ble_eq_true rfl⟩ rfl hl.1 rfl (Nat.le_of_ble_eq_true rfl) dX8_newSingers_20 (fun w27 H27 L27 hf hw => ?_)
  refine h_aastq (t0 := 4) hf hx hb hX (h_ba hw) ⟨⟨by decide, by decide⟩, rfl⟩ (by decide) dX8_newSingers_23 (fun u28 H28 L28 hf hw9 => ?_)
  have hw := h_bb hw hw9
  refine lv_iinc (v := 9) (lv' := [(1, .int (9 : Int32)), (0, .ref (B + n0))]) hx hb dX8_newSingers_24 hl (k := 0) rfl (by decide) (by decide) rfl (fun ls hl => ?_)
  refine lv_goto (tgt := 8) hx hb dX8_newSingers_27 (by decide) ?_
  refine lv_iload_n hx hb dX8_newSingers_8 rfl (lv_at hl 0 rfl) ?_
  refine lv_bipush (v := 12) hx hb dX8_newSingers_9 (by decide) ?_
  refine lv_icmp_ge (tgt := 30) hx hb dX8_newSingers_11 (by decide) (fun hc => absurd hc (by decide)) (fun hc => ?_)
  refine lv_aload_n hx hb dX8_newSingers_14 rfl (lv_at hl 1 rfl) ?_
  refine lv_iload_n hx hb dX8_newSingers_15 rfl (lv_at hl 0 rfl) ?_
  refine h_new hf hx hb hts hown hX hw (by decide) clX8_84 ib3 it3 (Nat.le_of_ble_eq_true rfl) (Nat.le_of_ble_eq_true rfl) dX8_newSingers_16 (fun w29 H29 hf hw => ?_)
  refine lv_dup hx hb dX8_newSingers_19 rfl ?_
  refine h_cIN (rm := rmX3_init) (a := w27.2) (As := []) (rest := [.ref (B + w27.2), .int (9 : Int32), .ref (B + n0)]) hf hx hb hml hts hown hX hY hw myX3_init iiX3_init nkX8_86 rfl (fun q hq => c_X3_init l E B T w27.2 w29.1 w29.2 hq) ⟨Nat.le_of_ble_eq_true rfl, Nat.le_of_ble_eq_true rfl⟩ ⟨Nat.le_of_ble_eq_true rfl, Nat.le_of_ble_eq_true rfl⟩ rfl hl.1 rfl (Nat.le_of_ble_eq_true rfl) dX8_newSingers_20 (fun w30 H30 L30 hf hw => ?_)
  refine h_aastq (t0 := 4) hf hx hb hX (h_ba hw) ⟨⟨by decide, by decide⟩, rfl⟩ (by decide) dX8_newSingers_23 (fun u31 H31 L31 hf hw9 => ?_)
  have hw := h_bb hw hw9
  refine lv_iinc (v := 10) (lv' := [(1, .int (10 : Int32)), (0, .ref (B + n0))]) hx hb dX8_newSingers_24 hl (k := 0) rfl (by decide) (by decide) rfl (fun ls hl => ?_)
  refine lv_goto (tgt := 8) hx hb dX8_newSingers_27 (by decide) ?_
  refine lv_iload_n hx hb dX8_newSingers_8 rfl (lv_at hl 0 rfl) ?_
  refine lv_bipush (v := 12) hx hb dX8_newSingers_9 (by decide) ?_
  refine lv_icmp_ge (tgt := 30) hx hb dX8_newSingers_11 (by decide) (fun hc => absurd hc (by decide)) (fun hc => ?_)
  refine lv_aload_n hx hb dX8_newSingers_14 rfl (lv_at hl 1 rfl) ?_
  refine lv_iload_n hx hb dX8_newSingers_15 rfl (lv_at hl 0 rfl) ?_
  refine h_new hf hx hb hts hown hX hw (by decide) clX8_84 ib3 it3 (Nat.le_of_ble_eq_true rfl) (Nat.le_of_ble_eq_true rfl) dX8_newSingers_16 (fun w32 H32 hf hw => ?_)
  refine lv_dup hx hb dX8_newSingers_19 rfl ?_
  refine h_cIN (rm := rmX3_init) (a := w30.2) (As := []) (rest := [.ref (B + w30.2), .int (10 : Int32), .ref (B + n0)]) hf hx hb hml hts hown hX hY hw myX3_init iiX3_init nkX8_86 rfl (fun q hq => c_X3_init l E B T w30.2 w32.1 w32.2 hq) ⟨Nat.le_of_ble_eq_true rfl, Nat.le_of_ble_eq_true rfl⟩ ⟨Nat.le_of_ble_eq_true rfl, Nat.le_of_ble_eq_true rfl⟩ rfl hl.1 rfl (Nat.le_of_ble_eq_true rfl) dX8_newSingers_20 (fun w33 H33 L33 hf hw => ?_)
  refine h_aastq (t0 := 4) hf hx hb hX (h_ba hw) ⟨⟨by decide, by decide⟩, rfl⟩ (by decide) dX8_newSingers_23 (fun u34 H34 L34 hf hw9 => ?_)
  have hw := h_bb hw hw9
  refine lv_iinc (v := 11) (lv' := [(1, .int (11 : Int32)), (0, .ref (B + n0))]) hx hb dX8_newSingers_24 hl (k := 0) rfl (by decide) (by decide) rfl (fun ls hl => ?_)
  refine lv_goto (tgt := 8) hx hb dX8_newSingers_27 (by decide) ?_
  refine lv_iload_n hx hb dX8_newSingers_8 rfl (lv_at hl 0 rfl) ?_
  refine lv_bipush (v := 12) hx hb dX8_newSingers_9 (by decide) ?_
  refine lv_icmp_ge (tgt := 30) hx hb dX8_newSingers_11 (by decide) (fun hc => absurd hc (by decide)) (fun hc => ?_)
  refine lv_aload_n hx hb dX8_newSingers_14 rfl (lv_at hl 1 rfl) ?_
  refine lv_iload_n hx hb dX8_newSingers_15 rfl (lv_at hl 0 rfl) ?_
  refine h_new hf hx hb hts hown hX hw (by decide) clX8_84 ib3 it3 (Nat.le_of_ble_eq_true rfl) (Nat.le_of_ble_eq_true rfl) dX8_newSingers_16 (fun w35 H35 hf hw => ?_)
  refine lv_dup hx hb dX8_newSingers_19 rfl ?_
  refine h_cIN (rm := rmX3_init) (a := w33.2) (As := []) (rest := [.ref (B + w33.2), .int (11 : Int32), .ref (B + n0)]) hf hx hb hml hts hown hX hY hw myX3_init iiX3_init nkX8_86 rfl (fun q hq => c_X3_init l E B T w33.2 w35.1 w35.2 hq) ⟨Nat.le_of_ble_eq_true rfl, Nat.le_of_ble_eq_true rfl⟩ ⟨Nat.le_of_ble_eq_true rfl, Nat.le_of_ble_eq_true rfl⟩ rfl hl.1 rfl (Nat.le_of_ble_eq_true rfl) dX8_newSingers_20 (fun w36 H36 L36 hf hw => ?_)
  refine h_aastq (t0 := 4) hf hx hb hX (h_ba hw) ⟨⟨by decide, by decide⟩, rfl⟩ (by decide) dX8_newSingers_23 (fun u37 H37 L37 hf hw9 => ?_)
  have hw := h_bb hw hw9
  refine lv_iinc (v := 12) (lv' := [(1, .int (12 : Int32)), (0, .ref (B + n0))]) hx hb dX8_newSingers_24 hl (k := 0) rfl (by decide) (by decide) rfl (fun ls hl => ?_)
  refine lv_goto (tgt := 8) hx hb dX8_newSingers_27 (by decide) ?_
  refine lv_iload_n hx hb dX8_newSingers_8 rfl (lv_at hl 0 rfl) ?_
  refine lv_bipush (v := 12) hx hb dX8_newSingers_9 (by decide) ?_
  refine lv_icmp_ge (tgt := 30) hx hb dX8_newSingers_11 (by decide) (fun hc => ?_) (fun hc => absurd (by decide) hc)
  refine lv_aload_n hx hb dX8_newSingers_30 rfl (lv_at hl 1 rfl) ?_
  exact h_aretA (rm := rmX8_newSingers) hf hx hb hr hlk hw ⟨Nat.le_of_ble_eq_true rfl, Nat.le_of_ble_eq_true rfl⟩ dX8_newSingers_31
theorem c_X8_newSingers (l : Launch) (E : hE) (B : Nat) (T : hT) (u0 : hM) (n0 : Nat) {z : Nat × hM × Nat} (hf : fX8_newSingers T u0 n0 = some z) : h_CA l E B T yX8_newSingers cX8_newSingers 2 (some (.array (.object "SungSteps$Singer"))) rmX8_newSingers [] u0 n0 z.2.1 z.2.2 (some (.ref (B + z.1))) := h_ofA (by decide) (Nat.le_of_ble_eq_true rfl) (fun p e s m below meth c ls hΓ hl hw => wX8_newSingers hΓ hf hw hl)
def rmX4_init : Room := { frames := 1, cells := 1, slots := 40, locals := 40 }
def fX4_init (T : hT) (a0 : Nat) (u0 : hM) (n0 : Nat) : Option (hM × Nat) := (nwa T u0 n0 11 40).bind fun w1 => (ptr (tr T w1.2) w1.1 a0 4 0 (some n0)).bind fun u2 => (pti (tr T w1.2) u2 a0 4 1 (0 : Int32)).bind fun u3 => (pti (tr T w1.2) u3 a0 4 2 (-1 : Int32)).bind fun u4 => some (u4, w1.2)
set_option maxRecDepth 100000 in
set_option maxHeartbeats 4000000 in
theorem wX4_init {a0 : Nat} {u0 : hM} {n0 : Nat} {z : hM × Nat} {ls : Array Slot} (hΓ : h_ΓA E B p s m args meth c cX4_init 1 none yX4_init) (hf : fX4_init T a0 u0 n0 = some z) (hw : h_Wa E B T s.heap u0 n0 s.heap []) (hl : lv_has ls 1 [(0, .ref (B + a0))]) : W p l e rmX4_init s m args below meth c s.heap [] 0 0 (h_QAv below E B T args s rmX4_init z) (F0 m 0 ls []) := by
  obtain ⟨hx, hb, hr, hml, hts, hown, hlk, hX, hY, hnm⟩ := id hΓ
  unfold fX4_init at hf
  refine lv_aload_n hx hb dX4_init_0 rfl (lv_at hl 0 rfl) ?_
  refine h_obj (rest := []) hx hb hml hl.1 hts hown loX4_3 ⟨Nat.le_of_ble_eq_true rfl, Nat.le_of_ble_eq_true rfl⟩ dX4_init_1 ?_
  refine lv_aload_n hx hb dX4_init_4 rfl (lv_at hl 0 rfl) ?_
  refine lv_bipush (v := 40) hx hb dX4_init_5 (by decide) ?_
  refine h_newi (len := 40) hf hx hb hts hX hw h_aci ⟨by decide, by decide, by decide⟩ (Nat.le_of_ble_eq_true rfl) (Nat.le_of_ble_eq_true rfl) dX4_init_7 (fun w1 H1 hf hw => ?_)
  refine h_putF hf hx hb hts hown hX (h_ba hw) flX4_9 ⟨rfl, rfl⟩ hnm rfl dX4_init_9 (fun u2 H2 L2 hf hw9 => ?_)
  have hw := h_bb hw hw9
  refine lv_aload_n hx hb dX4_init_12 rfl (lv_at hl 0 rfl) ?_
  refine lv_iconst (v := 0) hx hb dX4_init_13 (by decide) ?_
  refine h_puti hf hx hb hts hown hX (h_ba hw) flX4_15 ⟨rfl, rfl⟩ dX4_init_14 (fun u3 H3 L3 hf hw9 => ?_)
  have hw := h_bb hw hw9
  refine lv_aload_n hx hb dX4_init_17 rfl (lv_at hl 0 rfl) ?_
  refine lv_iconst (v := -1) hx hb dX4_init_18 (by decide) ?_
  refine h_puti hf hx hb hts hown hX (h_ba hw) flX4_19 ⟨rfl, rfl⟩ dX4_init_19 (fun u4 H4 L4 hf hw9 => ?_)
  have hw := h_bb hw hw9
  exact h_vretA (rm := rmX4_init) hf hx hb hr hlk hw ⟨Nat.le_of_ble_eq_true rfl, Nat.le_of_ble_eq_true rfl⟩ dX4_init_22
theorem c_X4_init (l : Launch) (E : hE) (B : Nat) (T : hT) (a0 : Nat) (u0 : hM) (n0 : Nat) {z : hM × Nat} (hf : fX4_init T a0 u0 n0 = some z) : h_CA l E B T yX4_init cX4_init 1 none rmX4_init [.ref (B + a0)] u0 n0 z.1 z.2 none := h_ofA (by decide) (Nat.le_of_ble_eq_true rfl) (fun p e s m below meth c ls hΓ hl hw => wX4_init hΓ hf hw hl)
def rmX5_init : Room := { frames := 3, cells := 16, slots := 167, locals := 120 }
def fX5_init (T : hT) (a0 : Nat) (u0 : hM) (n0 : Nat) : Option (hM × Nat) := (nwo T u0 n0 4).bind fun w1 => (fX4_init T n0 w1.1 w1.2).bind fun w2 => (ptr (tr T w2.2) w2.1 a0 5 0 (some n0)).bind fun u3 => (nwa T u3 w2.2 11 16).bind fun w4 => (ptr (tr T w4.2) w4.1 a0 5 1 (some w2.2)).bind fun u5 => (fX8_newSingers T u5 w4.2).bind fun w6 => (ptr (tr T w6.2.2) w6.2.1 a0 5 2 (some w6.1)).bind fun u7 => (pti (tr T w6.2.2) u7 a0 5 3 (0 : Int32)).bind fun u8 => (pti (tr T w6.2.2) u8 a0 5 4 (0 : Int32)).bind fun u9 => (pti (tr T w6.2.2) u9 a0 5 5 (0 : Int32)).bind fun u10 => (pti (tr T w6.2.2) u10 a0 5 6 (0 : Int32)).bind fun u11 => (ptz (tr T w6.2.2) u11 a0 5 7 (0 : Int32)).bind fun u12 => (gtr (tr T w6.2.2) u12 a0 5 1).bind fun a13 => (fJ7_fill_53178 (tr T w6.2.2) a13 (1 : Int32) u12).bind fun u14 => some (u14, w6.2.2)
set_option maxRecDepth 100000 in
set_option maxHeartbeats 4000000 in
theorem wX5_init {a0 : Nat} {u0 : hM} {n0 : Nat} {z : hM × Nat} {ls : Array Slot} (hΓ : h_ΓA E B p s m args meth c cX5_init 1 none yX5_init) (hf : fX5_init T a0 u0 n0 = some z) (hw : h_Wa E B T s.heap u0 n0 s.heap []) (hl : lv_has ls 1 [(0, .ref (B + a0))]) : W p l e rmX5_init s m args below meth c s.heap [] 0 0 (h_QAv below E B T args s rmX5_init z) (F0 m 0 ls []) := by
  obtain ⟨hx, hb, hr, hml, hts, hown, hlk, hX, hY, hnm⟩ := id hΓ
  unfold fX5_init at hf
  refine lv_aload_n hx hb dX5_init_0 rfl (lv_at hl 0 rfl) ?_
  refine h_obj (rest := []) hx hb hml hl.1 hts hown loX5_3 ⟨Nat.le_of_ble_eq_true rfl, Nat.le_of_ble_eq_true rfl⟩ dX5_init_1 ?_
  refine lv_aload_n hx hb dX5_init_4 rfl (lv_at hl 0 rfl) ?_
  refine h_new hf hx hb hts hown hX hw (by decide) clX5_9 ib4 it4 (Nat.le_of_ble_eq_true rfl) (Nat.le_of_ble_eq_true rfl) dX5_init_5 (fun w1 H1 hf hw => ?_)
  refine lv_dup hx hb dX5_init_8 rfl ?_
  refine h_cIN (rm := rmX4_init) (a := n0) (As := []) (rest := [.ref (B + n0), .ref (B + a0)]) hf hx hb hml hts hown hX hY hw myX4_init iiX4_init nkX5_11 rfl (fun q hq => c_X4_init l E B T n0 w1.1 w1.2 hq) ⟨Nat.le_of_ble_eq_true rfl, Nat.le_of_ble_eq_true rfl⟩ ⟨Nat.le_of_ble_eq_true rfl, Nat.le_of_ble_eq_true rfl⟩ rfl hl.1 rfl (Nat.le_of_ble_eq_true rfl) dX5_init_9 (fun w2 H2 L2 hf hw => ?_)
  refine h_putF hf hx hb hts hown hX (h_ba hw) flX5_12 ⟨rfl, rfl⟩ hnm rfl dX5_init_12 (fun u3 H3 L3 hf hw9 => ?_)
  have hw := h_bb hw hw9
  refine lv_aload_n hx hb dX5_init_15 rfl (lv_at hl 0 rfl) ?_
  refine lv_bipush (v := 16) hx hb dX5_init_16 (by decide) ?_
  refine h_newi (len := 16) hf hx hb hts hX hw h_aci ⟨by decide, by decide, by decide⟩ (Nat.le_of_ble_eq_true rfl) (Nat.le_of_ble_eq_true rfl) dX5_init_18 (fun w4 H4 hf hw => ?_)
  refine h_putF hf hx hb hts hown hX (h_ba hw) flX5_18 ⟨rfl, rfl⟩ hnm rfl dX5_init_20 (fun u5 H5 L5 hf hw9 => ?_)
  have hw := h_bb hw hw9
  refine lv_aload_n hx hb dX5_init_23 rfl (lv_at hl 0 rfl) ?_
  refine h_cNr (rm := rmX8_newSingers) (As := []) (rest := [.ref (B + a0)]) hf hx hb hml hts hown hX hY hw myX8_newSingers msX8_newSingers nkX5_22 (fun q hq => c_X8_newSingers l E B T u5 w4.2 hq) ⟨Nat.le_of_ble_eq_true rfl, Nat.le_of_ble_eq_true rfl⟩ ⟨Nat.le_of_ble_eq_true rfl, Nat.le_of_ble_eq_true rfl⟩ rfl hl.1 rfl (Nat.le_of_ble_eq_true rfl) dX5_init_24 (fun w6 H6 L6 hf hw => ?_)
  refine h_putr hf hx hb hts hown hX (h_ba hw) flX5_26 ⟨rfl, rfl⟩ dX5_init_27 (fun u7 H7 L7 hf hw9 => ?_)
  have hw := h_bb hw hw9
  refine lv_aload_n hx hb dX5_init_30 rfl (lv_at hl 0 rfl) ?_
  refine lv_iconst (v := 0) hx hb dX5_init_31 (by decide) ?_
  refine h_puti hf hx hb hts hown hX (h_ba hw) flX5_30 ⟨rfl, rfl⟩ dX5_init_32 (fun u8 H8 L8 hf hw9 => ?_)
  have hw := h_bb hw hw9
  refine lv_aload_n hx hb dX5_init_35 rfl (lv_at hl 0 rfl) ?_
  refine lv_iconst (v := 0) hx hb dX5_init_36 (by decide) ?_
  refine h_puti hf hx hb hts hown hX (h_ba hw) flX5_34 ⟨rfl, rfl⟩ dX5_init_37 (fun u9 H9 L9 hf hw9 => ?_)
  have hw := h_bb hw hw9
  refine lv_aload_n hx hb dX5_init_40 rfl (lv_at hl 0 rfl) ?_
  refine lv_iconst (v := 0) hx hb dX5_init_41 (by decide) ?_
  refine h_puti hf hx hb hts hown hX (h_ba hw) flX5_37 ⟨rfl, rfl⟩ dX5_init_42 (fun u10 H10 L10 hf hw9 => ?_)
  have hw := h_bb hw hw9
  refine lv_aload_n hx hb dX5_init_45 rfl (lv_at hl 0 rfl) ?_
  refine lv_iconst (v := 0) hx hb dX5_init_46 (by decide) ?_
  refine h_puti hf hx hb hts hown hX (h_ba hw) flX5_40 ⟨rfl, rfl⟩ dX5_init_47 (fun u11 H11 L11 hf hw9 => ?_)
  have hw := h_bb hw hw9
  refine lv_aload_n hx hb dX5_init_50 rfl (lv_at hl 0 rfl) ?_
  refine lv_iconst (v := 0) hx hb dX5_init_51 (by decide) ?_
  refine h_putz hf hx hb hts hown hX (h_ba hw) flX5_43 ⟨rfl, rfl⟩ dX5_init_52 (fun u12 H12 L12 hf hw9 => ?_)
  have hw := h_bb hw hw9
  refine lv_aload_n hx hb dX5_init_55 rfl (lv_at hl 0 rfl) ?_
  refine h_getr hf hx hb hts hown hX (h_ba hw) flX5_18 rfl dX5_init_56 (fun a13 hf => ?_)
  refine lv_iconst (v := 1) hx hb dX5_init_59 (by decide) ?_
  refine h_cSvA (As := [.ref (B + a13), .int (1 : Int32)]) (rest := []) hf hx hb hml hts hown hX hw myJ7_fill_53178 msJ7_fill_53178 lkX5_47 (fun q hq => c_J7_fill_53178 l E B (tr T w6.2.2) a13 (1 : Int32) u12 hq) ⟨Nat.le_of_ble_eq_true rfl, Nat.le_of_ble_eq_true rfl⟩ ⟨Nat.le_of_ble_eq_true rfl, Nat.le_of_ble_eq_true rfl⟩ rfl hl.1 rfl (Nat.le_of_ble_eq_true rfl) dX5_init_60 (fun u14 H14 L14 hf hw => ?_)
  exact h_vretA (rm := rmX5_init) hf hx hb hr hlk hw ⟨Nat.le_of_ble_eq_true rfl, Nat.le_of_ble_eq_true rfl⟩ dX5_init_63
theorem c_X5_init (l : Launch) (E : hE) (B : Nat) (T : hT) (a0 : Nat) (u0 : hM) (n0 : Nat) {z : hM × Nat} (hf : fX5_init T a0 u0 n0 = some z) : h_CA l E B T yX5_init cX5_init 1 none rmX5_init [.ref (B + a0)] u0 n0 z.1 z.2 none := h_ofA (by decide) (Nat.le_of_ble_eq_true rfl) (fun p e s m below meth c ls hΓ hl hw => wX5_init hΓ hf hw hl)
def rmX2_init : Room := { frames := 1, cells := 9, slots := 848, locals := 40 }
def fX2_init (T : hT) (a0 : Nat) (u0 : hM) (n0 : Nat) : Option (hM × Nat) := (mna T u0 n0).bind fun w1 => (ptr (tr T w1.2) w1.1 a0 2 0 (some n0)).bind fun u2 => (nwa T u2 w1.2 11 729).bind fun w3 => (ptr (tr T w3.2) w3.1 a0 2 1 (some w1.2)).bind fun u4 => (ptr (tr T w3.2) u4 a0 2 2 none).bind fun u5 => (pti (tr T w3.2) u5 a0 2 3 (100 : Int32)).bind fun u6 => some (u6, w3.2)
set_option maxRecDepth 100000 in
set_option maxHeartbeats 4000000 in
theorem wX2_init {a0 : Nat} {u0 : hM} {n0 : Nat} {z : hM × Nat} {ls : Array Slot} (hΓ : h_ΓA E B p s m args meth c cX2_init 1 none yX2_init) (hf : fX2_init T a0 u0 n0 = some z) (hw : h_Wa E B T s.heap u0 n0 s.heap []) (hl : lv_has ls 1 [(0, .ref (B + a0))]) : W p l e rmX2_init s m args below meth c s.heap [] 0 0 (h_QAv below E B T args s rmX2_init z) (F0 m 0 ls []) := by
  obtain ⟨hx, hb, hr, hml, hts, hown, hlk, hX, hY, hnm⟩ := id hΓ
  unfold fX2_init at hf
  refine lv_aload_n hx hb dX2_init_0 rfl (lv_at hl 0 rfl) ?_
  refine h_obj (rest := []) hx hb hml hl.1 hts hown loX2_3 ⟨Nat.le_of_ble_eq_true rfl, Nat.le_of_ble_eq_true rfl⟩ dX2_init_1 ?_
  refine lv_aload_n hx hb dX2_init_4 rfl (lv_at hl 0 rfl) ?_
  refine lv_bipush (v := 7) hx hb dX2_init_5 (by decide) ?_
  refine lv_bipush (v := 16) hx hb dX2_init_7 (by decide) ?_
  refine h_mna hf hx hb hts hown hX hY hw h_acl cmX2_9 (Nat.le_of_ble_eq_true rfl) (Nat.le_of_ble_eq_true rfl) dX2_init_9 (fun w1 H1 hf hw => ?_)
  refine h_putF hf hx hb hts hown hX (h_ba hw) flX2_11 ⟨rfl, rfl⟩ hnm rfl dX2_init_13 (fun u2 H2 L2 hf hw9 => ?_)
  have hw := h_bb hw hw9
  refine lv_aload_n hx hb dX2_init_16 rfl (lv_at hl 0 rfl) ?_
  refine lv_sipush (v := 729) hx hb dX2_init_17 (by decide) ?_
  refine h_newi (len := 729) hf hx hb hts hX hw h_aci ⟨by decide, by decide, by decide⟩ (Nat.le_of_ble_eq_true rfl) (Nat.le_of_ble_eq_true rfl) dX2_init_20 (fun w3 H3 hf hw => ?_)
  refine h_putF hf hx hb hts hown hX (h_ba hw) flX2_16 ⟨rfl, rfl⟩ hnm rfl dX2_init_22 (fun u4 H4 L4 hf hw9 => ?_)
  have hw := h_bb hw hw9
  refine lv_aload_n hx hb dX2_init_25 rfl (lv_at hl 0 rfl) ?_
  refine lv_null hx hb dX2_init_26 ?_
  refine h_putn hf hx hb hts hown hX (h_ba hw) flX2_20 ⟨rfl, rfl⟩ dX2_init_27 (fun u5 H5 L5 hf hw9 => ?_)
  have hw := h_bb hw hw9
  refine lv_aload_n hx hb dX2_init_30 rfl (lv_at hl 0 rfl) ?_
  refine lv_bipush (v := 100) hx hb dX2_init_31 (by decide) ?_
  refine h_puti hf hx hb hts hown hX (h_ba hw) flX2_24 ⟨rfl, rfl⟩ dX2_init_33 (fun u6 H6 L6 hf hw9 => ?_)
  have hw := h_bb hw hw9
  exact h_vretA (rm := rmX2_init) hf hx hb hr hlk hw ⟨Nat.le_of_ble_eq_true rfl, Nat.le_of_ble_eq_true rfl⟩ dX2_init_36
theorem c_X2_init (l : Launch) (E : hE) (B : Nat) (T : hT) (a0 : Nat) (u0 : hM) (n0 : Nat) {z : hM × Nat} (hf : fX2_init T a0 u0 n0 = some z) : h_CA l E B T yX2_init cX2_init 1 none rmX2_init [.ref (B + a0)] u0 n0 z.1 z.2 none := h_ofA (by decide) (Nat.le_of_ble_eq_true rfl) (fun p e s m below meth c ls hΓ hl hw => wX2_init hΓ hf hw hl)
def rmX0_init : Room := { frames := 1, cells := 2, slots := 16, locals := 40 }
def fX0_init (T : hT) (a0 : Nat) (u0 : hM) (n0 : Nat) : Option (hM × Nat) := (nwa T u0 n0 11 8).bind fun w1 => (ptr (tr T w1.2) w1.1 a0 0 0 (some n0)).bind fun u2 => (nwa T u2 w1.2 11 8).bind fun w3 => (ptr (tr T w3.2) w3.1 a0 0 1 (some w1.2)).bind fun u4 => (pti (tr T w3.2) u4 a0 0 2 (0 : Int32)).bind fun u5 => (pti (tr T w3.2) u5 a0 0 3 (0 : Int32)).bind fun u6 => (pti (tr T w3.2) u6 a0 0 4 (0 : Int32)).bind fun u7 => some (u7, w3.2)
set_option maxRecDepth 100000 in
set_option maxHeartbeats 4000000 in
theorem wX0_init {a0 : Nat} {u0 : hM} {n0 : Nat} {z : hM × Nat} {ls : Array Slot} (hΓ : h_ΓA E B p s m args meth c cX0_init 1 none yX0_init) (hf : fX0_init T a0 u0 n0 = some z) (hw : h_Wa E B T s.heap u0 n0 s.heap []) (hl : lv_has ls 1 [(0, .ref (B + a0))]) : W p l e rmX0_init s m args below meth c s.heap [] 0 0 (h_QAv below E B T args s rmX0_init z) (F0 m 0 ls []) := by
  obtain ⟨hx, hb, hr, hml, hts, hown, hlk, hX, hY, hnm⟩ := id hΓ
  unfold fX0_init at hf
  refine lv_aload_n hx hb dX0_init_0 rfl (lv_at hl 0 rfl) ?_
  refine h_obj (rest := []) hx hb hml hl.1 hts hown loX0_3 ⟨Nat.le_of_ble_eq_true rfl, Nat.le_of_ble_eq_true rfl⟩ dX0_init_1 ?_
  refine lv_aload_n hx hb dX0_init_4 rfl (lv_at hl 0 rfl) ?_
  refine lv_bipush (v := 8) hx hb dX0_init_5 (by decide) ?_
  refine h_newi (len := 8) hf hx hb hts hX hw h_aci ⟨by decide, by decide, by decide⟩ (Nat.le_of_ble_eq_true rfl) (Nat.le_of_ble_eq_true rfl) dX0_init_7 (fun w1 H1 hf hw => ?_)
  refine h_putF hf hx hb hts hown hX (h_ba hw) flX0_9 ⟨rfl, rfl⟩ hnm rfl dX0_init_9 (fun u2 H2 L2 hf hw9 => ?_)
  have hw := h_bb hw hw9
  refine lv_aload_n hx hb dX0_init_12 rfl (lv_at hl 0 rfl) ?_
  refine lv_bipush (v := 8) hx hb dX0_init_13 (by decide) ?_
  refine h_newi (len := 8) hf hx hb hts hX hw h_aci ⟨by decide, by decide, by decide⟩ (Nat.le_of_ble_eq_true rfl) (Nat.le_of_ble_eq_true rfl) dX0_init_15 (fun w3 H3 hf hw => ?_)
  refine h_putF hf hx hb hts hown hX (h_ba hw) flX0_15 ⟨rfl, rfl⟩ hnm rfl dX0_init_17 (fun u4 H4 L4 hf hw9 => ?_)
  have hw := h_bb hw hw9
  refine lv_aload_n hx hb dX0_init_20 rfl (lv_at hl 0 rfl) ?_
  refine lv_iconst (v := 0) hx hb dX0_init_21 (by decide) ?_
  refine h_puti hf hx hb hts hown hX (h_ba hw) flX0_18 ⟨rfl, rfl⟩ dX0_init_22 (fun u5 H5 L5 hf hw9 => ?_)
  have hw := h_bb hw hw9
  refine lv_aload_n hx hb dX0_init_25 rfl (lv_at hl 0 rfl) ?_
  refine lv_iconst (v := 0) hx hb dX0_init_26 (by decide) ?_
  refine h_puti hf hx hb hts hown hX (h_ba hw) flX0_22 ⟨rfl, rfl⟩ dX0_init_27 (fun u6 H6 L6 hf hw9 => ?_)
  have hw := h_bb hw hw9
  refine lv_aload_n hx hb dX0_init_30 rfl (lv_at hl 0 rfl) ?_
  refine lv_iconst (v := 0) hx hb dX0_init_31 (by decide) ?_
  refine h_puti hf hx hb hts hown hX (h_ba hw) flX0_25 ⟨rfl, rfl⟩ dX0_init_32 (fun u7 H7 L7 hf hw9 => ?_)
  have hw := h_bb hw hw9
  exact h_vretA (rm := rmX0_init) hf hx hb hr hlk hw ⟨Nat.le_of_ble_eq_true rfl, Nat.le_of_ble_eq_true rfl⟩ dX0_init_35
theorem c_X0_init (l : Launch) (E : hE) (B : Nat) (T : hT) (a0 : Nat) (u0 : hM) (n0 : Nat) {z : hM × Nat} (hf : fX0_init T a0 u0 n0 = some z) : h_CA l E B T yX0_init cX0_init 1 none rmX0_init [.ref (B + a0)] u0 n0 z.1 z.2 none := h_ofA (by decide) (Nat.le_of_ble_eq_true rfl) (fun p e s m below meth c ls hΓ hl hw => wX0_init hΓ hf hw hl)
def rmX8_init : Room := { frames := 4, cells := 100, slots := 2229, locals := 160 }
def fX8_init (T : hT) (a0 : Nat) (u0 : hM) (n0 : Nat) : Option (hM × Nat) := (nwo T u0 n0 6).bind fun w1 => (fX6_init T n0 w1.1 w1.2).bind fun w2 => (ptr (tr T w2.2) w2.1 a0 8 0 (some n0)).bind fun u3 => (nwo T u3 w2.2 1).bind fun w4 => (fX1_init T w2.2 w4.1 w4.2).bind fun w5 => (ptr (tr T w5.2) w5.1 a0 8 1 (some w2.2)).bind fun u6 => (nwo T u6 w5.2 1).bind fun w7 => (fX1_init T w5.2 w7.1 w7.2).bind fun w8 => (ptr (tr T w8.2) w8.1 a0 8 2 (some w5.2)).bind fun u9 => (nwo T u9 w8.2 7).bind fun w10 => (fX7_init T w8.2 w10.1 w10.2).bind fun w11 => (ptr (tr T w11.2) w11.1 a0 8 3 (some w8.2)).bind fun u12 => (nwo T u12 w11.2 7).bind fun w13 => (fX7_init T w11.2 w13.1 w13.2).bind fun w14 => (ptr (tr T w14.2) w14.1 a0 8 4 (some w11.2)).bind fun u15 => (fX8_newSingers T u15 w14.2).bind fun w16 => (ptr (tr T w16.2.2) w16.2.1 a0 8 5 (some w16.1)).bind fun u17 => (nwo T u17 w16.2.2 5).bind fun w18 => (fX5_init T w16.2.2 w18.1 w18.2).bind fun w19 => (ptr (tr T w19.2) w19.1 a0 8 6 (some w16.2.2)).bind fun u20 => (nwa T u20 w19.2 16 2).bind fun w21 => (nwo T w21.1 w21.2 5).bind fun w22 => (fX5_init T w21.2 w22.1 w22.2).bind fun w23 => (astq (tr T w23.2) w23.1 w19.2 (0 : Int32) w21.2 16 5).bind fun u24 => (nwo T u24 w23.2 5).bind fun w25 => (fX5_init T w23.2 w25.1 w25.2).bind fun w26 => (astq (tr T w26.2) w26.1 w19.2 (1 : Int32) w23.2 16 5).bind fun u27 => (ptr (tr T w26.2) u27 a0 8 7 (some w19.2)).bind fun u28 => (nwo T u28 w26.2 2).bind fun w29 => (fX2_init T w26.2 w29.1 w29.2).bind fun w30 => (ptr (tr T w30.2) w30.1 a0 8 8 (some w26.2)).bind fun u31 => (nwo T u31 w30.2 0).bind fun w32 => (fX0_init T w30.2 w32.1 w32.2).bind fun w33 => (ptr (tr T w33.2) w33.1 a0 8 9 (some w30.2)).bind fun u34 => (nwa T u34 w33.2 11 40).bind fun w35 => (ptr (tr T w35.2) w35.1 a0 8 10 (some w33.2)).bind fun u36 => (pti (tr T w35.2) u36 a0 8 11 (0 : Int32)).bind fun u37 => (nwo T u37 w35.2 4).bind fun w38 => (fX4_init T w35.2 w38.1 w38.2).bind fun w39 => (ptr (tr T w39.2) w39.1 a0 8 12 (some w35.2)).bind fun u40 => (nwo T u40 w39.2 3).bind fun w41 => (fX3_init T w39.2 w41.1 w41.2).bind fun w42 => (ptr (tr T w42.2) w42.1 a0 8 13 (some w39.2)).bind fun u43 => some (u43, w42.2)
set_option maxRecDepth 100000 in
set_option maxHeartbeats 4000000 in
theorem wX8_init {a0 : Nat} {u0 : hM} {n0 : Nat} {z : hM × Nat} {ls : Array Slot} (hΓ : h_ΓA E B p s m args meth c cX8_init 1 none yX8_init) (hf : fX8_init T a0 u0 n0 = some z) (hw : h_Wa E B T s.heap u0 n0 s.heap []) (hl : lv_has ls 1 [(0, .ref (B + a0))]) : W p l e rmX8_init s m args below meth c s.heap [] 0 0 (h_QAv below E B T args s rmX8_init z) (F0 m 0 ls []) := by
  obtain ⟨hx, hb, hr, hml, hts, hown, hlk, hX, hY, hnm⟩ := id hΓ
  unfold fX8_init at hf
  refine lv_aload_n hx hb dX8_init_0 rfl (lv_at hl 0 rfl) ?_
  refine h_obj (rest := []) hx hb hml hl.1 hts hown loX8_1 ⟨Nat.le_of_ble_eq_true rfl, Nat.le_of_ble_eq_true rfl⟩ dX8_init_1 ?_
  refine lv_aload_n hx hb dX8_init_4 rfl (lv_at hl 0 rfl) ?_
  refine h_new hf hx hb hts hown hX hw (by decide) clX8_7 ib6 it6 (Nat.le_of_ble_eq_true rfl) (Nat.le_of_ble_eq_true rfl) dX8_init_5 (fun w1 H1 hf hw => ?_)
  refine lv_dup hx hb dX8_init_8 rfl ?_
  refine h_cIN (rm := rmX6_init) (a := n0) (As := []) (rest := [.ref (B + n0), .ref (B + a0)]) hf hx hb hml hts hown hX hY hw myX6_init iiX6_init nkX8_9 rfl (fun q hq => c_X6_init l E B T n0 w1.1 w1.2 hq) ⟨Nat.le_of_ble_eq_true rfl, Nat.le_of_ble_eq_true rfl⟩ ⟨Nat.le_of_ble_eq_true rfl, Nat.le_of_ble_eq_true rfl⟩ rfl hl.1 rfl (Nat.le_of_ble_eq_true rfl) dX8_init_9 (fun w2 H2 L2 hf hw => ?_)
  refine h_putF hf hx hb hts hown hX (h_ba hw) flX8_10 ⟨rfl, rfl⟩ hnm rfl dX8_init_12 (fun u3 H3 L3 hf hw9 => ?_)
  have hw := h_bb hw hw9
  refine lv_aload_n hx hb dX8_init_15 rfl (lv_at hl 0 rfl) ?_
  refine h_new hf hx hb hts hown hX hw (by decide) clX8_16 ib1 it1 (Nat.le_of_ble_eq_true rfl) (Nat.le_of_ble_eq_true rfl) dX8_init_16 (fun w4 H4 hf hw => ?_)
  refine lv_dup hx hb dX8_init_19 rfl ?_
  refine h_cIN (rm := rmX1_init) (a := w2.2) (As := []) (rest := [.ref (B + w2.2), .ref (B + a0)]) hf hx hb hml hts hown hX hY hw myX1_init iiX1_init nkX8_18 rfl (fun q hq => c_X1_init l E B T w2.2 w4.1 w4.2 hq) ⟨Nat.le_of_ble_eq_true rfl, Nat.le_of_ble_eq_true rfl⟩ ⟨Nat.le_of_ble_eq_true rfl, Nat.le_of_ble_eq_true rfl⟩ rfl hl.1 rfl (Nat.le_of_ble_eq_true rfl) dX8_init_20 (fun w5 H5 L5 hf hw => ?_)
  refine h_putr hf hx hb hts hown hX (h_ba hw) flX8_19 ⟨rfl, rfl⟩ dX8_init_23 (fun u6 H6 L6 hf hw9 => ?_)
  have hw := h_bb hw hw9
  refine lv_aload_n hx hb dX8_init_26 rfl (lv_at hl 0 rfl) ?_
  refine h_new hf hx hb hts hown hX hw (by decide) clX8_16 ib1 it1 (Nat.le_of_ble_eq_true rfl) (Nat.le_of_ble_eq_true rfl) dX8_init_27 (fun w7 H7 hf hw => ?_)
  refine lv_dup hx hb dX8_init_30 rfl ?_
  refine h_cIN (rm := rmX1_init) (a := w5.2) (As := []) (rest := [.ref (B + w5.2), .ref (B + a0)]) hf hx hb hml hts hown hX hY hw myX1_init iiX1_init nkX8_18 rfl (fun q hq => c_X1_init l E B T w5.2 w7.1 w7.2 hq) ⟨Nat.le_of_ble_eq_true rfl, Nat.le_of_ble_eq_true rfl⟩ ⟨Nat.le_of_ble_eq_true rfl, Nat.le_of_ble_eq_true rfl⟩ rfl hl.1 rfl (Nat.le_of_ble_eq_true rfl) dX8_init_31 (fun w8 H8 L8 hf hw => ?_)
  refine h_putr hf hx hb hts hown hX (h_ba hw) flX8_23 ⟨rfl, rfl⟩ dX8_init_34 (fun u9 H9 L9 hf hw9 => ?_)
  have hw := h_bb hw hw9
  refine lv_aload_n hx hb dX8_init_37 rfl (lv_at hl 0 rfl) ?_
  refine h_new hf hx hb hts hown hX hw (by decide) clX8_26 ib7 it7 (Nat.le_of_ble_eq_true rfl) (Nat.le_of_ble_eq_true rfl) dX8_init_38 (fun w10 H10 hf hw => ?_)
  refine lv_dup hx hb dX8_init_41 rfl ?_
  refine h_cIN (rm := rmX7_init) (a := w8.2) (As := []) (rest := [.ref (B + w8.2), .ref (B + a0)]) hf hx hb hml hts hown hX hY hw myX7_init iiX7_init nkX8_28 rfl (fun q hq => c_X7_init l E B T w8.2 w10.1 w10.2 hq) ⟨Nat.le_of_ble_eq_true rfl, Nat.le_of_ble_eq_true rfl⟩ ⟨Nat.le_of_ble_eq_true rfl, Nat.le_of_ble_eq_true rfl⟩ rfl hl.1 rfl (Nat.le_of_ble_eq_true rfl) dX8_init_42 (fun w11 H11 L11 hf hw => ?_)
  refine h_putr hf hx hb hts hown hX (h_ba hw) flX8_29 ⟨rfl, rfl⟩ dX8_init_45 (fun u12 H12 L12 hf hw9 => ?_)
  have hw := h_bb hw hw9
  refine lv_aload_n hx hb dX8_init_48 rfl (lv_at hl 0 rfl) ?_
  refine h_new hf hx hb hts hown hX hw (by decide) clX8_26 ib7 it7 (Nat.le_of_ble_eq_true rfl) (Nat.le_of_ble_eq_true rfl) dX8_init_49 (fun w13 H13 hf hw => ?_)
  refine lv_dup hx hb dX8_init_52 rfl ?_
  refine h_cIN (rm := rmX7_init) (a := w11.2) (As := []) (rest := [.ref (B + w11.2), .ref (B + a0)]) hf hx hb hml hts hown hX hY hw myX7_init iiX7_init nkX8_28 rfl (fun q hq => c_X7_init l E B T w11.2 w13.1 w13.2 hq) ⟨Nat.le_of_ble_eq_true rfl, Nat.le_of_ble_eq_true rfl⟩ ⟨Nat.le_of_ble_eq_true rfl, Nat.le_of_ble_eq_true rfl⟩ rfl hl.1 rfl (Nat.le_of_ble_eq_true rfl) dX8_init_53 (fun w14 H14 L14 hf hw => ?_)
  refine h_putr hf hx hb hts hown hX (h_ba hw) flX8_33 ⟨rfl, rfl⟩ dX8_init_56 (fun u15 H15 L15 hf hw9 => ?_)
  have hw := h_bb hw hw9
  refine lv_aload_n hx hb dX8_init_59 rfl (lv_at hl 0 rfl) ?_
  refine h_cSr (rm := rmX8_newSingers) (As := []) (rest := [.ref (B + a0)]) hf hx hb hml hts hown hX hY hw myX8_newSingers msX8_newSingers lkX8_36 (fun q hq => c_X8_newSingers l E B T u15 w14.2 hq) ⟨Nat.le_of_ble_eq_true rfl, Nat.le_of_ble_eq_true rfl⟩ ⟨Nat.le_of_ble_eq_true rfl, Nat.le_of_ble_eq_true rfl⟩ rfl hl.1 rfl (Nat.le_of_ble_eq_true rfl) dX8_init_60 (fun w16 H16 L16 hf hw => ?_)
  refine h_putr hf hx hb hts hown hX (h_ba hw) flX8_40 ⟨rfl, rfl⟩ dX8_init_63 (fun u17 H17 L17 hf hw9 => ?_)
  have hw := h_bb hw hw9
  refine lv_aload_n hx hb dX8_init_66 rfl (lv_at hl 0 rfl) ?_
  refine h_new hf hx hb hts hown hX hw (by decide) clX8_44 ib5 it5 (Nat.le_of_ble_eq_true rfl) (Nat.le_of_ble_eq_true rfl) dX8_init_67 (fun w18 H18 hf hw => ?_)
  refine lv_dup hx hb dX8_init_70 rfl ?_
  refine h_cIP (rm := rmX5_init) (a := w16.2.2) (As := []) (rest := [.ref (B + w16.2.2), .ref (B + a0)]) hf hx hb hml hts hown hX hY hw myX5_init iiX5_init lkX8_46 rfl (fun q hq => c_X5_init l E B T w16.2.2 w18.1 w18.2 hq) ⟨Nat.le_of_ble_eq_true rfl, Nat.le_of_ble_eq_true rfl⟩ ⟨Nat.le_of_ble_eq_true rfl, Nat.le_of_ble_eq_true rfl⟩ rfl hl.1 rfl (Nat.le_of_ble_eq_true rfl) dX8_init_71 (fun w19 H19 L19 hf hw => ?_)
  refine h_putF hf hx hb hts hown hX (h_ba hw) flX8_47 ⟨rfl, rfl⟩ hnm rfl dX8_init_74 (fun u20 H20 L20 hf hw9 => ?_)
  have hw := h_bb hw hw9
  refine lv_aload_n hx hb dX8_init_77 rfl (lv_at hl 0 rfl) ?_
  refine lv_iconst (v := 2) hx hb dX8_init_78 (by decide) ?_
  refine h_newq (t0 := 5) (C := RX5) (len := 2) hf hx hb hts hown hX hw ⟨⟨by decide, by decide⟩, rfl⟩ hY.2.1 cqX8_44 ⟨by decide, by decide, by decide⟩ (Nat.le_of_ble_eq_true rfl) (Nat.le_of_ble_eq_true rfl) dX8_init_79 (fun w21 H21 hf hw => ?_)
  refine lv_dup hx hb dX8_init_82 rfl ?_
  refine lv_iconst (v := 0) hx hb dX8_init_83 (by decide) ?_
  refine h_new hf hx hb hts hown hX hw (by decide) clX8_44 ib5 it5 (Nat.le_of_ble_eq_true rfl) (Nat.le_of_ble_eq_true rfl) dX8_init_84 (fun w22 H22 hf hw => ?_)
  refine lv_dup hx hb dX8_init_87 rfl ?_
  refine h_cIP (rm := rmX5_init) (a := w21.2) (As := []) (rest := [.ref (B + w21.2), .int (0 : Int32), .ref (B + w19.2), .ref (B + w19.2), .ref (B + a0)]) hf hx hb hml hts hown hX hY hw myX5_init iiX5_init lkX8_46 rfl (fun q hq => c_X5_init l E B T w21.2 w22.1 w22.2 hq) ⟨Nat.le_of_ble_eq_true rfl, Nat.le_of_ble_eq_true rfl⟩ ⟨Nat.le_of_ble_eq_true rfl, Nat.le_of_ble_eq_true rfl⟩ rfl hl.1 rfl (Nat.le_of_ble_eq_true rfl) dX8_init_88 (fun w23 H23 L23 hf hw => ?_)
  refine h_aastq (t0 := 5) hf hx hb hX (h_ba hw) ⟨⟨by decide, by decide⟩, rfl⟩ (by decide) dX8_init_91 (fun u24 H24 L24 hf hw9 => ?_)
  have hw := h_bb hw hw9
  refine lv_dup hx hb dX8_init_92 rfl ?_
  refine lv_iconst (v := 1) hx hb dX8_init_93 (by decide) ?_
  refine h_new hf hx hb hts hown hX hw (by decide) clX8_44 ib5 it5 (Nat.le_of_ble_eq_true rfl) (Nat.le_of_ble_eq_true rfl) dX8_init_94 (fun w25 H25 hf hw => ?_)
  refine lv_dup hx hb dX8_init_97 rfl ?_
  refine h_cIP (rm := rmX5_init) (a := w23.2) (As := []) (rest := [.ref (B + w23.2), .int (1 : Int32), .ref (B + w19.2), .ref (B + w19.2), .ref (B + a0)]) hf hx hb hml hts hown hX hY hw myX5_init iiX5_init lkX8_46 rfl (fun q hq => c_X5_init l E B T w23.2 w25.1 w25.2 hq) ⟨Nat.le_of_ble_eq_true rfl, Nat.le_of_ble_eq_true rfl⟩ ⟨Nat.le_of_ble_eq_true rfl, Nat.le_of_ble_eq_true rfl⟩ rfl hl.1 rfl (Nat.le_of_ble_eq_true rfl) dX8_init_98 (fun w26 H26 L26 hf hw => ?_)
  refine h_aastq (t0 := 5) hf hx hb hX (h_ba hw) ⟨⟨by decide, by decide⟩, rfl⟩ (by decide) dX8_init_101 (fun u27 H27 L27 hf hw9 => ?_)
  have hw := h_bb hw hw9
  refine h_putF hf hx hb hts hown hX (h_ba hw) flX8_51 ⟨rfl, rfl⟩ hnm rfl dX8_init_102 (fun u28 H28 L28 hf hw9 => ?_)
  have hw := h_bb hw hw9
  refine lv_aload_n hx hb dX8_init_105 rfl (lv_at hl 0 rfl) ?_
  refine h_new hf hx hb hts hown hX hw (by decide) clX8_55 ib2 it2 (Nat.le_of_ble_eq_true rfl) (Nat.le_of_ble_eq_true rfl) dX8_init_106 (fun w29 H29 hf hw => ?_)
  refine lv_dup hx hb dX8_init_109 rfl ?_
  refine h_cIN (rm := rmX2_init) (a := w26.2) (As := []) (rest := [.ref (B + w26.2), .ref (B + a0)]) hf hx hb hml hts hown hX hY hw myX2_init iiX2_init nkX8_57 rfl (fun q hq => c_X2_init l E B T w26.2 w29.1 w29.2 hq) ⟨Nat.le_of_ble_eq_true rfl, Nat.le_of_ble_eq_true rfl⟩ ⟨Nat.le_of_ble_eq_true rfl, Nat.le_of_ble_eq_true rfl⟩ rfl hl.1 rfl (Nat.le_of_ble_eq_true rfl) dX8_init_110 (fun w30 H30 L30 hf hw => ?_)
  refine h_putF hf hx hb hts hown hX (h_ba hw) flX8_58 ⟨rfl, rfl⟩ hnm rfl dX8_init_113 (fun u31 H31 L31 hf hw9 => ?_)
  have hw := h_bb hw hw9
  refine lv_aload_n hx hb dX8_init_116 rfl (lv_at hl 0 rfl) ?_
  refine h_new hf hx hb hts hown hX hw (by decide) clX8_62 ib0 it0 (Nat.le_of_ble_eq_true rfl) (Nat.le_of_ble_eq_true rfl) dX8_init_117 (fun w32 H32 hf hw => ?_)
  refine lv_dup hx hb dX8_init_120 rfl ?_
  refine h_cIN (rm := rmX0_init) (a := w30.2) (As := []) (rest := [.ref (B + w30.2), .ref (B + a0)]) hf hx hb hml hts hown hX hY hw myX0_init iiX0_init nkX8_64 rfl (fun q hq => c_X0_init l E B T w30.2 w32.1 w32.2 hq) ⟨Nat.le_of_ble_eq_true rfl, Nat.le_of_ble_eq_true rfl⟩ ⟨Nat.le_of_ble_eq_true rfl, Nat.le_of_ble_eq_true rfl⟩ rfl hl.1 rfl (Nat.le_of_ble_eq_true rfl) dX8_init_121 (fun w33 H33 L33 hf hw => ?_)
  refine h_putF hf hx hb hts hown hX (h_ba hw) flX8_65 ⟨rfl, rfl⟩ hnm rfl dX8_init_124 (fun u34 H34 L34 hf hw9 => ?_)
  have hw := h_bb hw hw9
  refine lv_aload_n hx hb dX8_init_127 rfl (lv_at hl 0 rfl) ?_
  refine lv_bipush (v := 40) hx hb dX8_init_128 (by decide) ?_
  refine h_newi (len := 40) hf hx hb hts hX hw h_aci ⟨by decide, by decide, by decide⟩ (Nat.le_of_ble_eq_true rfl) (Nat.le_of_ble_eq_true rfl) dX8_init_130 (fun w35 H35 hf hw => ?_)
  refine h_putF hf hx hb hts hown hX (h_ba hw) flX8_69 ⟨rfl, rfl⟩ hnm rfl dX8_init_132 (fun u36 H36 L36 hf hw9 => ?_)
  have hw := h_bb hw hw9
  refine lv_aload_n hx hb dX8_init_135 rfl (lv_at hl 0 rfl) ?_
  refine lv_iconst (v := 0) hx hb dX8_init_136 (by decide) ?_
  refine h_puti hf hx hb hts hown hX (h_ba hw) flX8_73 ⟨rfl, rfl⟩ dX8_init_137 (fun u37 H37 L37 hf hw9 => ?_)
  have hw := h_bb hw hw9
  refine lv_aload_n hx hb dX8_init_140 rfl (lv_at hl 0 rfl) ?_
  refine h_new hf hx hb hts hown hX hw (by decide) clX8_77 ib4 it4 (Nat.le_of_ble_eq_true rfl) (Nat.le_of_ble_eq_true rfl) dX8_init_141 (fun w38 H38 hf hw => ?_)
  refine lv_dup hx hb dX8_init_144 rfl ?_
  refine h_cIN (rm := rmX4_init) (a := w35.2) (As := []) (rest := [.ref (B + w35.2), .ref (B + a0)]) hf hx hb hml hts hown hX hY hw myX4_init iiX4_init nkX8_79 rfl (fun q hq => c_X4_init l E B T w35.2 w38.1 w38.2 hq) ⟨Nat.le_of_ble_eq_true rfl, Nat.le_of_ble_eq_true rfl⟩ ⟨Nat.le_of_ble_eq_true rfl, Nat.le_of_ble_eq_true rfl⟩ rfl hl.1 rfl (Nat.le_of_ble_eq_true rfl) dX8_init_145 (fun w39 H39 L39 hf hw => ?_)
  refine h_putF hf hx hb hts hown hX (h_ba hw) flX8_80 ⟨rfl, rfl⟩ hnm rfl dX8_init_148 (fun u40 H40 L40 hf hw9 => ?_)
  have hw := h_bb hw hw9
  refine lv_aload_n hx hb dX8_init_151 rfl (lv_at hl 0 rfl) ?_
  refine h_new hf hx hb hts hown hX hw (by decide) clX8_84 ib3 it3 (Nat.le_of_ble_eq_true rfl) (Nat.le_of_ble_eq_true rfl) dX8_init_152 (fun w41 H41 hf hw => ?_)
  refine lv_dup hx hb dX8_init_155 rfl ?_
  refine h_cIN (rm := rmX3_init) (a := w39.2) (As := []) (rest := [.ref (B + w39.2), .ref (B + a0)]) hf hx hb hml hts hown hX hY hw myX3_init iiX3_init nkX8_86 rfl (fun q hq => c_X3_init l E B T w39.2 w41.1 w41.2 hq) ⟨Nat.le_of_ble_eq_true rfl, Nat.le_of_ble_eq_true rfl⟩ ⟨Nat.le_of_ble_eq_true rfl, Nat.le_of_ble_eq_true rfl⟩ rfl hl.1 rfl (Nat.le_of_ble_eq_true rfl) dX8_init_156 (fun w42 H42 L42 hf hw => ?_)
  refine h_putF hf hx hb hts hown hX (h_ba hw) flX8_87 ⟨rfl, rfl⟩ hnm rfl dX8_init_159 (fun u43 H43 L43 hf hw9 => ?_)
  have hw := h_bb hw hw9
  exact h_vretA (rm := rmX8_init) hf hx hb hr hlk hw ⟨Nat.le_of_ble_eq_true rfl, Nat.le_of_ble_eq_true rfl⟩ dX8_init_162
theorem c_X8_init (l : Launch) (E : hE) (B : Nat) (T : hT) (a0 : Nat) (u0 : hM) (n0 : Nat) {z : hM × Nat} (hf : fX8_init T a0 u0 n0 = some z) : h_CA l E B T yX8_init cX8_init 1 none rmX8_init [.ref (B + a0)] u0 n0 z.1 z.2 none := h_ofA (by decide) (Nat.le_of_ble_eq_true rfl) (fun p e s m below meth c ls hΓ hl hw => wX8_init hΓ hf hw hl)
def rmX9_init : Room := { frames := 1, cells := 23, slots := 4281, locals := 40 }
def fX9_init (T : hT) (a0 : Nat) (u0 : hM) (n0 : Nat) : Option (hM × Nat) := (nwa T u0 n0 11 40).bind fun w1 => (ptr (tr T w1.2) w1.1 a0 9 1 (some n0)).bind fun u2 => (nwa T u2 w1.2 13 40).bind fun w3 => (ptr (tr T w3.2) w3.1 a0 9 2 (some w1.2)).bind fun u4 => (nwa T u4 w3.2 11 96).bind fun w5 => (ptr (tr T w5.2) w5.1 a0 9 4 (some w3.2)).bind fun u6 => (nwa T u6 w5.2 11 24).bind fun w7 => (ptr (tr T w7.2) w7.1 a0 9 6 (some w5.2)).bind fun u8 => (nwa T u8 w7.2 11 16).bind fun w9 => (ptr (tr T w9.2) w9.1 a0 9 7 (some w7.2)).bind fun u10 => (nwa T u10 w9.2 11 6).bind fun w11 => (ptr (tr T w11.2) w11.1 a0 9 8 (some w9.2)).bind fun u12 => (pti (tr T w11.2) u12 a0 9 9 (-1 : Int32)).bind fun u13 => (nwa T u13 w11.2 11 40).bind fun w14 => (ptr (tr T w14.2) w14.1 a0 9 10 (some w11.2)).bind fun u15 => (nwa T u15 w14.2 11 400).bind fun w16 => (ptr (tr T w16.2) w16.1 a0 9 12 (some w14.2)).bind fun u17 => (pti (tr T w16.2) u17 a0 9 14 (-1 : Int32)).bind fun u18 => (nwa T u18 w16.2 11 40).bind fun w19 => (ptr (tr T w19.2) w19.1 a0 9 21 (some w16.2)).bind fun u20 => (nwa T u20 w19.2 13 40).bind fun w21 => (ptr (tr T w21.2) w21.1 a0 9 22 (some w19.2)).bind fun u22 => (nwa T u22 w21.2 11 96).bind fun w23 => (ptr (tr T w23.2) w23.1 a0 9 24 (some w21.2)).bind fun u24 => (nwa T u24 w23.2 11 24).bind fun w25 => (ptr (tr T w25.2) w25.1 a0 9 25 (some w23.2)).bind fun u26 => (nwa T u26 w25.2 11 729).bind fun w27 => (ptr (tr T w27.2) w27.1 a0 9 26 (some w25.2)).bind fun u28 => (nwa T u28 w27.2 11 6).bind fun w29 => (ptr (tr T w29.2) w29.1 a0 9 27 (some w27.2)).bind fun u30 => (nwa T u30 w29.2 11 40).bind fun w31 => (ptr (tr T w31.2) w31.1 a0 9 28 (some w29.2)).bind fun u32 => (nwa T u32 w31.2 11 8).bind fun w33 => (ptr (tr T w33.2) w33.1 a0 9 29 (some w31.2)).bind fun u34 => (nwa T u34 w33.2 13 1089).bind fun w35 => (ptr (tr T w35.2) w35.1 a0 9 30 (some w33.2)).bind fun u36 => (nwa T u36 w35.2 13 1089).bind fun w37 => (ptr (tr T w37.2) w37.1 a0 9 31 (some w35.2)).bind fun u38 => (nwa T u38 w37.2 11 8).bind fun w39 => (ptr (tr T w39.2) w39.1 a0 9 33 (some w37.2)).bind fun u40 => (nwa T u40 w39.2 11 8).bind fun w41 => (ptr (tr T w41.2) w41.1 a0 9 34 (some w39.2)).bind fun u42 => (nwa T u42 w41.2 11 40).bind fun w43 => (ptr (tr T w43.2) w43.1 a0 9 36 (some w41.2)).bind fun u44 => (nwa T u44 w43.2 11 400).bind fun w45 => (ptr (tr T w45.2) w45.1 a0 9 37 (some w43.2)).bind fun u46 => (nwa T u46 w45.2 13 2).bind fun w47 => (ptr (tr T w47.2) w47.1 a0 9 38 (some w45.2)).bind fun u48 => (gtr (tr T w47.2) u48 a0 9 7).bind fun a49 => (asti (tr T w47.2) u48 a49 (0 : Int32) (1 : Int32)).bind fun u50 => (gtr (tr T w47.2) u50 a0 9 7).bind fun a51 => (asti (tr T w47.2) u50 a51 (1 : Int32) (1 : Int32)).bind fun u52 => (gtr (tr T w47.2) u52 a0 9 7).bind fun a53 => (asti (tr T w47.2) u52 a53 (2 : Int32) (1 : Int32)).bind fun u54 => (gtr (tr T w47.2) u54 a0 9 7).bind fun a55 => (asti (tr T w47.2) u54 a55 (3 : Int32) (1 : Int32)).bind fun u56 => (gtr (tr T w47.2) u56 a0 9 7).bind fun a57 => (asti (tr T w47.2) u56 a57 (4 : Int32) (1 : Int32)).bind fun u58 => (gtr (tr T w47.2) u58 a0 9 7).bind fun a59 => (asti (tr T w47.2) u58 a59 (5 : Int32) (1 : Int32)).bind fun u60 => (gtr (tr T w47.2) u60 a0 9 7).bind fun a61 => (asti (tr T w47.2) u60 a61 (6 : Int32) (1 : Int32)).bind fun u62 => (gtr (tr T w47.2) u62 a0 9 7).bind fun a63 => (asti (tr T w47.2) u62 a63 (7 : Int32) (1 : Int32)).bind fun u64 => (gtr (tr T w47.2) u64 a0 9 7).bind fun a65 => (asti (tr T w47.2) u64 a65 (8 : Int32) (1 : Int32)).bind fun u66 => (gtr (tr T w47.2) u66 a0 9 7).bind fun a67 => (asti (tr T w47.2) u66 a67 (9 : Int32) (1 : Int32)).bind fun u68 => (gtr (tr T w47.2) u68 a0 9 7).bind fun a69 => (asti (tr T w47.2) u68 a69 (10 : Int32) (1 : Int32)).bind fun u70 => (gtr (tr T w47.2) u70 a0 9 7).bind fun a71 => (asti (tr T w47.2) u70 a71 (11 : Int32) (1 : Int32)).bind fun u72 => (gtr (tr T w47.2) u72 a0 9 7).bind fun a73 => (asti (tr T w47.2) u72 a73 (12 : Int32) (1 : Int32)).bind fun u74 => (gtr (tr T w47.2) u74 a0 9 7).bind fun a75 => (asti (tr T w47.2) u74 a75 (13 : Int32) (1 : Int32)).bind fun u76 => (gtr (tr T w47.2) u76 a0 9 7).bind fun a77 => (asti (tr T w47.2) u76 a77 (14 : Int32) (1 : Int32)).bind fun u78 => (gtr (tr T w47.2) u78 a0 9 7).bind fun a79 => (asti (tr T w47.2) u78 a79 (15 : Int32) (1 : Int32)).bind fun u80 => some (u80, w47.2)
set_option maxRecDepth 100000 in
set_option maxHeartbeats 4000000 in
theorem wX9_init {a0 : Nat} {u0 : hM} {n0 : Nat} {z : hM × Nat} {ls : Array Slot} (hΓ : h_ΓA E B p s m args meth c cX9_init 2 none yX9_init) (hf : fX9_init T a0 u0 n0 = some z) (hw : h_Wa E B T s.heap u0 n0 s.heap []) (hl : lv_has ls 2 [(0, .ref (B + a0))]) : W p l e rmX9_init s m args below meth c s.heap [] 0 0 (h_QAv below E B T args s rmX9_init z) (F0 m 0 ls []) := by
  obtain ⟨hx, hb, hr, hml, hts, hown, hlk, hX, hY, hnm⟩ := id hΓ
  unfold fX9_init at hf
  refine lv_aload_n hx hb dX9_init_0 rfl (lv_at hl 0 rfl) ?_
  refine h_obj (rest := []) hx hb hml hl.1 hts hown loX9_1 ⟨Nat.le_of_ble_eq_true rfl, Nat.le_of_ble_eq_true rfl⟩ dX9_init_1 ?_
  refine lv_aload_n hx hb dX9_init_4 rfl (lv_at hl 0 rfl) ?_
  refine lv_bipush (v := 40) hx hb dX9_init_5 (by decide) ?_
  refine h_newi (len := 40) hf hx hb hts hX hw h_aci ⟨by decide, by decide, by decide⟩ (Nat.le_of_ble_eq_true rfl) (Nat.le_of_ble_eq_true rfl) dX9_init_7 (fun w1 H1 hf hw => ?_)
  refine h_putF hf hx hb hts hown hX (h_ba hw) flX9_7 ⟨rfl, rfl⟩ hnm rfl dX9_init_9 (fun u2 H2 L2 hf hw9 => ?_)
  have hw := h_bb hw hw9
  refine lv_aload_n hx hb dX9_init_12 rfl (lv_at hl 0 rfl) ?_
  refine lv_bipush (v := 40) hx hb dX9_init_13 (by decide) ?_
  refine h_newz (len := 40) hf hx hb hts hX hw h_acz ⟨by decide, by decide, by decide⟩ (Nat.le_of_ble_eq_true rfl) (Nat.le_of_ble_eq_true rfl) dX9_init_15 (fun w3 H3 hf hw => ?_)
  refine h_putF hf hx hb hts hown hX (h_ba hw) flX9_13 ⟨rfl, rfl⟩ hnm rfl dX9_init_17 (fun u4 H4 L4 hf hw9 => ?_)
  have hw := h_bb hw hw9
  refine lv_aload_n hx hb dX9_init_20 rfl (lv_at hl 0 rfl) ?_
  refine lv_bipush (v := 96) hx hb dX9_init_21 (by decide) ?_
  refine h_newi (len := 96) hf hx hb hts hX hw h_aci ⟨by decide, by decide, by decide⟩ (Nat.le_of_ble_eq_true rfl) (Nat.le_of_ble_eq_true rfl) dX9_init_23 (fun w5 H5 hf hw => ?_)
  refine h_putF hf hx hb hts hown hX (h_ba hw) flX9_17 ⟨rfl, rfl⟩ hnm rfl dX9_init_25 (fun u6 H6 L6 hf hw9 => ?_)
  have hw := h_bb hw hw9
  refine lv_aload_n hx hb dX9_init_28 rfl (lv_at hl 0 rfl) ?_
  refine lv_bipush (v := 24) hx hb dX9_init_29 (by decide) ?_
  refine h_newi (len := 24) hf hx hb hts hX hw h_aci ⟨by decide, by decide, by decide⟩ (Nat.le_of_ble_eq_true rfl) (Nat.le_of_ble_eq_true rfl) dX9_init_31 (fun w7 H7 hf hw => ?_)
  refine h_putF hf hx hb hts hown hX (h_ba hw) flX9_20 ⟨rfl, rfl⟩ hnm rfl dX9_init_33 (fun u8 H8 L8 hf hw9 => ?_)
  have hw := h_bb hw hw9
  refine lv_aload_n hx hb dX9_init_36 rfl (lv_at hl 0 rfl) ?_
  refine lv_bipush (v := 16) hx hb dX9_init_37 (by decide) ?_
  refine h_newi (len := 16) hf hx hb hts hX hw h_aci ⟨by decide, by decide, by decide⟩ (Nat.le_of_ble_eq_true rfl) (Nat.le_of_ble_eq_true rfl) dX9_init_39 (fun w9 H9 hf hw => ?_)
  refine h_putF hf hx hb hts hown hX (h_ba hw) flX9_23 ⟨rfl, rfl⟩ hnm rfl dX9_init_41 (fun u10 H10 L10 hf hw9 => ?_)
  have hw := h_bb hw hw9
  refine lv_aload_n hx hb dX9_init_44 rfl (lv_at hl 0 rfl) ?_
  refine lv_bipush (v := 6) hx hb dX9_init_45 (by decide) ?_
  refine h_newi (len := 6) hf hx hb hts hX hw h_aci ⟨by decide, by decide, by decide⟩ (Nat.le_of_ble_eq_true rfl) (Nat.le_of_ble_eq_true rfl) dX9_init_47 (fun w11 H11 hf hw => ?_)
  refine h_putF hf hx hb hts hown hX (h_ba hw) flX9_26 ⟨rfl, rfl⟩ hnm rfl dX9_init_49 (fun u12 H12 L12 hf hw9 => ?_)
  have hw := h_bb hw hw9
  refine lv_aload_n hx hb dX9_init_52 rfl (lv_at hl 0 rfl) ?_
  refine lv_iconst (v := -1) hx hb dX9_init_53 (by decide) ?_
  refine h_puti hf hx hb hts hown hX (h_ba hw) flX9_29 ⟨rfl, rfl⟩ dX9_init_54 (fun u13 H13 L13 hf hw9 => ?_)
  have hw := h_bb hw hw9
  refine lv_aload_n hx hb dX9_init_57 rfl (lv_at hl 0 rfl) ?_
  refine lv_bipush (v := 40) hx hb dX9_init_58 (by decide) ?_
  refine h_newi (len := 40) hf hx hb hts hX hw h_aci ⟨by decide, by decide, by decide⟩ (Nat.le_of_ble_eq_true rfl) (Nat.le_of_ble_eq_true rfl) dX9_init_60 (fun w14 H14 hf hw => ?_)
  refine h_putF hf hx hb hts hown hX (h_ba hw) flX9_33 ⟨rfl, rfl⟩ hnm rfl dX9_init_62 (fun u15 H15 L15 hf hw9 => ?_)
  have hw := h_bb hw hw9
  refine lv_aload_n hx hb dX9_init_65 rfl (lv_at hl 0 rfl) ?_
  refine lv_sipush (v := 400) hx hb dX9_init_66 (by decide) ?_
  refine h_newi (len := 400) hf hx hb hts hX hw h_aci ⟨by decide, by decide, by decide⟩ (Nat.le_of_ble_eq_true rfl) (Nat.le_of_ble_eq_true rfl) dX9_init_69 (fun w16 H16 hf hw => ?_)
  refine h_putF hf hx hb hts hown hX (h_ba hw) flX9_36 ⟨rfl, rfl⟩ hnm rfl dX9_init_71 (fun u17 H17 L17 hf hw9 => ?_)
  have hw := h_bb hw hw9
  refine lv_aload_n hx hb dX9_init_74 rfl (lv_at hl 0 rfl) ?_
  refine lv_iconst (v := -1) hx hb dX9_init_75 (by decide) ?_
  refine h_puti hf hx hb hts hown hX (h_ba hw) flX9_39 ⟨rfl, rfl⟩ dX9_init_76 (fun u18 H18 L18 hf hw9 => ?_)
  have hw := h_bb hw hw9
  refine lv_aload_n hx hb dX9_init_79 rfl (lv_at hl 0 rfl) ?_
  refine lv_bipush (v := 40) hx hb dX9_init_80 (by decide) ?_
  refine h_newi (len := 40) hf hx hb hts hX hw h_aci ⟨by decide, by decide, by decide⟩ (Nat.le_of_ble_eq_true rfl) (Nat.le_of_ble_eq_true rfl) dX9_init_82 (fun w19 H19 hf hw => ?_)
  refine h_putF hf hx hb hts hown hX (h_ba hw) flX9_42 ⟨rfl, rfl⟩ hnm rfl dX9_init_84 (fun u20 H20 L20 hf hw9 => ?_)
  have hw := h_bb hw hw9
  refine lv_aload_n hx hb dX9_init_87 rfl (lv_at hl 0 rfl) ?_
  refine lv_bipush (v := 40) hx hb dX9_init_88 (by decide) ?_
  refine h_newz (len := 40) hf hx hb hts hX hw h_acz ⟨by decide, by decide, by decide⟩ (Nat.le_of_ble_eq_true rfl) (Nat.le_of_ble_eq_true rfl) dX9_init_90 (fun w21 H21 hf hw => ?_)
  refine h_putF hf hx hb hts hown hX (h_ba hw) flX9_45 ⟨rfl, rfl⟩ hnm rfl dX9_init_92 (fun u22 H22 L22 hf hw9 => ?_)
  have hw := h_bb hw hw9
  refine lv_aload_n hx hb dX9_init_95 rfl (lv_at hl 0 rfl) ?_
  refine lv_bipush (v := 96) hx hb dX9_init_96 (by decide) ?_
  refine h_newi (len := 96) hf hx hb hts hX hw h_aci ⟨by decide, by decide, by decide⟩ (Nat.le_of_ble_eq_true rfl) (Nat.le_of_ble_eq_true rfl) dX9_init_98 (fun w23 H23 hf hw => ?_)
  refine h_putF hf hx hb hts hown hX (h_ba hw) flX9_48 ⟨rfl, rfl⟩ hnm rfl dX9_init_100 (fun u24 H24 L24 hf hw9 => ?_)
  have hw := h_bb hw hw9
  refine lv_aload_n hx hb dX9_init_103 rfl (lv_at hl 0 rfl) ?_
  refine lv_bipush (v := 24) hx hb dX9_init_104 (by decide) ?_
  refine h_newi (len := 24) hf hx hb hts hX hw h_aci ⟨by decide, by decide, by decide⟩ (Nat.le_of_ble_eq_true rfl) (Nat.le_of_ble_eq_true rfl) dX9_init_106 (fun w25 H25 hf hw => ?_)
  refine h_putF hf hx hb hts hown hX (h_ba hw) flX9_51 ⟨rfl, rfl⟩ hnm rfl dX9_init_108 (fun u26 H26 L26 hf hw9 => ?_)
  have hw := h_bb hw hw9
  refine lv_aload_n hx hb dX9_init_111 rfl (lv_at hl 0 rfl) ?_
  refine lv_sipush (v := 729) hx hb dX9_init_112 (by decide) ?_
  refine h_newi (len := 729) hf hx hb hts hX hw h_aci ⟨by decide, by decide, by decide⟩ (Nat.le_of_ble_eq_true rfl) (Nat.le_of_ble_eq_true rfl) dX9_init_115 (fun w27 H27 hf hw => ?_)
  refine h_putF hf hx hb hts hown hX (h_ba hw) flX9_54 ⟨rfl, rfl⟩ hnm rfl dX9_init_117 (fun u28 H28 L28 hf hw9 => ?_)
  have hw := h_bb hw hw9
  refine lv_aload_n hx hb dX9_init_120 rfl (lv_at hl 0 rfl) ?_
  refine lv_bipush (v := 6) hx hb dX9_init_121 (by decide) ?_
  refine h_newi (len := 6) hf hx hb hts hX hw h_aci ⟨by decide, by decide, by decide⟩ (Nat.le_of_ble_eq_true rfl) (Nat.le_of_ble_eq_true rfl) dX9_init_123 (fun w29 H29 hf hw => ?_)
  refine h_putF hf hx hb hts hown hX (h_ba hw) flX9_57 ⟨rfl, rfl⟩ hnm rfl dX9_init_125 (fun u30 H30 L30 hf hw9 => ?_)
  have hw := h_bb hw hw9
  refine lv_aload_n hx hb dX9_init_128 rfl (lv_at hl 0 rfl) ?_
  refine lv_bipush (v := 40) hx hb dX9_init_129 (by decide) ?_
  refine h_newi (len := 40) hf hx hb hts hX hw h_aci ⟨by decide, by decide, by decide⟩ (Nat.le_of_ble_eq_true rfl) (Nat.le_of_ble_eq_true rfl) dX9_init_131 (fun w31 H31 hf hw => ?_)
  refine h_putF hf hx hb hts hown hX (h_ba hw) flX9_60 ⟨rfl, rfl⟩ hnm rfl dX9_init_133 (fun u32 H32 L32 hf hw9 => ?_)
  have hw := h_bb hw hw9
  refine lv_aload_n hx hb dX9_init_136 rfl (lv_at hl 0 rfl) ?_
  refine lv_bipush (v := 8) hx hb dX9_init_137 (by decide) ?_
  refine h_newi (len := 8) hf hx hb hts hX hw h_aci ⟨by decide, by decide, by decide⟩ (Nat.le_of_ble_eq_true rfl) (Nat.le_of_ble_eq_true rfl) dX9_init_139 (fun w33 H33 hf hw => ?_)
  refine h_putF hf hx hb hts hown hX (h_ba hw) flX9_63 ⟨rfl, rfl⟩ hnm rfl dX9_init_141 (fun u34 H34 L34 hf hw9 => ?_)
  have hw := h_bb hw hw9
  refine lv_aload_n hx hb dX9_init_144 rfl (lv_at hl 0 rfl) ?_
  refine lv_sipush (v := 1089) hx hb dX9_init_145 (by decide) ?_
  refine h_newz (len := 1089) hf hx hb hts hX hw h_acz ⟨by decide, by decide, by decide⟩ (Nat.le_of_ble_eq_true rfl) (Nat.le_of_ble_eq_true rfl) dX9_init_148 (fun w35 H35 hf hw => ?_)
  refine h_putF hf hx hb hts hown hX (h_ba hw) flX9_66 ⟨rfl, rfl⟩ hnm rfl dX9_init_150 (fun u36 H36 L36 hf hw9 => ?_)
  have hw := h_bb hw hw9
  refine lv_aload_n hx hb dX9_init_153 rfl (lv_at hl 0 rfl) ?_
  refine lv_sipush (v := 1089) hx hb dX9_init_154 (by decide) ?_
  refine h_newz (len := 1089) hf hx hb hts hX hw h_acz ⟨by decide, by decide, by decide⟩ (Nat.le_of_ble_eq_true rfl) (Nat.le_of_ble_eq_true rfl) dX9_init_157 (fun w37 H37 hf hw => ?_)
  refine h_putF hf hx hb hts hown hX (h_ba hw) flX9_69 ⟨rfl, rfl⟩ hnm rfl dX9_init_159 (fun u38 H38 L38 hf hw9 => ?_)
  have hw := h_bb hw hw9
  refine lv_aload_n hx hb dX9_init_162 rfl (lv_at hl 0 rfl) ?_
  refine lv_bipush (v := 8) hx hb dX9_init_163 (by decide) ?_
  refine h_newi (len := 8) hf hx hb hts hX hw h_aci ⟨by decide, by decide, by decide⟩ (Nat.le_of_ble_eq_true rfl) (Nat.le_of_ble_eq_true rfl) dX9_init_165 (fun w39 H39 hf hw => ?_)
  refine h_putF hf hx hb hts hown hX (h_ba hw) flX9_72 ⟨rfl, rfl⟩ hnm rfl dX9_init_167 (fun u40 H40 L40 hf hw9 => ?_)
  have hw := h_bb hw hw9
  refine lv_aload_n hx hb dX9_init_170 rfl (lv_at hl 0 rfl) ?_
  refine lv_bipush (v := 8) hx hb dX9_init_171 (by decide) ?_
  refine h_newi (len := 8) hf hx hb hts hX hw h_aci ⟨by decide, by decide, by decide⟩ (Nat.le_of_ble_eq_true rfl) (Nat.le_of_ble_eq_true rfl) dX9_init_173 (fun w41 H41 hf hw => ?_)
  refine h_putF hf hx hb hts hown hX (h_ba hw) flX9_75 ⟨rfl, rfl⟩ hnm rfl dX9_init_175 (fun u42 H42 L42 hf hw9 => ?_)
  have hw := h_bb hw hw9
  refine lv_aload_n hx hb dX9_init_178 rfl (lv_at hl 0 rfl) ?_
  refine lv_bipush (v := 40) hx hb dX9_init_179 (by decide) ?_
  refine h_newi (len := 40) hf hx hb hts hX hw h_aci ⟨by decide, by decide, by decide⟩ (Nat.le_of_ble_eq_true rfl) (Nat.le_of_ble_eq_true rfl) dX9_init_181 (fun w43 H43 hf hw => ?_)
  refine h_putF hf hx hb hts hown hX (h_ba hw) flX9_78 ⟨rfl, rfl⟩ hnm rfl dX9_init_183 (fun u44 H44 L44 hf hw9 => ?_)
  have hw := h_bb hw hw9
  refine lv_aload_n hx hb dX9_init_186 rfl (lv_at hl 0 rfl) ?_
  refine lv_sipush (v := 400) hx hb dX9_init_187 (by decide) ?_
  refine h_newi (len := 400) hf hx hb hts hX hw h_aci ⟨by decide, by decide, by decide⟩ (Nat.le_of_ble_eq_true rfl) (Nat.le_of_ble_eq_true rfl) dX9_init_190 (fun w45 H45 hf hw => ?_)
  refine h_putF hf hx hb hts hown hX (h_ba hw) flX9_81 ⟨rfl, rfl⟩ hnm rfl dX9_init_192 (fun u46 H46 L46 hf hw9 => ?_)
  have hw := h_bb hw hw9
  refine lv_aload_n hx hb dX9_init_195 rfl (lv_at hl 0 rfl) ?_
  refine lv_iconst (v := 2) hx hb dX9_init_196 (by decide) ?_
  refine h_newz (len := 2) hf hx hb hts hX hw h_acz ⟨by decide, by decide, by decide⟩ (Nat.le_of_ble_eq_true rfl) (Nat.le_of_ble_eq_true rfl) dX9_init_197 (fun w47 H47 hf hw => ?_)
  refine h_putF hf hx hb hts hown hX (h_ba hw) flX9_84 ⟨rfl, rfl⟩ hnm rfl dX9_init_199 (fun u48 H48 L48 hf hw9 => ?_)
  have hw := h_bb hw hw9
  refine lv_iconst (v := 0) hx hb dX9_init_202 (by decide) ?_
  refine lv_istore_n (lv' := [(1, .int (0 : Int32)), (0, .ref (B + a0))]) hx hb dX9_init_203 rfl hl (by decide) rfl (fun ls hl => ?_)
  refine lv_iload_n hx hb dX9_init_204 rfl (lv_at hl 0 rfl) ?_
  refine lv_bipush (v := 16) hx hb dX9_init_205 (by decide) ?_
  refine lv_icmp_ge (tgt := 223) hx hb dX9_init_207 (by decide) (fun hc => absurd hc (by decide)) (fun hc => ?_)
  refine lv_aload_n hx hb dX9_init_210 rfl (lv_at hl 1 rfl) ?_
  refine h_getr hf hx hb hts hown hX (h_ba hw) flX9_23 rfl dX9_init_211 (fun a49 hf => ?_)
  refine lv_iload_n hx hb dX9_init_214 rfl (lv_at hl 0 rfl) ?_
  refine lv_iconst (v := 1) hx hb dX9_init_215 (by decide) ?_
  refine h_iast hf hx hb hX (h_ba hw) dX9_init_216 (fun u50 H50 L50 hf hw9 => ?_)
  have hw := h_bb hw hw9
  refine lv_iinc (v := 1) (lv' := [(1, .int (1 : Int32)), (0, .ref (B + a0))]) hx hb dX9_init_217 hl (k := 0) rfl (by decide) (by decide) rfl (fun ls hl => ?_)
  refine lv_goto (tgt := 204) hx hb dX9_init_220 (by decide) ?_
  refine lv_iload_n hx hb dX9_init_204 rfl (lv_at hl 0 rfl) ?_
  refine lv_bipush (v := 16) hx hb dX9_init_205 (by decide) ?_
  refine lv_icmp_ge (tgt := 223) hx hb dX9_init_207 (by decide) (fun hc => absurd hc (by decide)) (fun hc => ?_)
  refine lv_aload_n hx hb dX9_init_210 rfl (lv_at hl 1 rfl) ?_
  refine h_getr hf hx hb hts hown hX (h_ba hw) flX9_23 rfl dX9_init_211 (fun a51 hf => ?_)
  refine lv_iload_n hx hb dX9_init_214 rfl (lv_at hl 0 rfl) ?_
  refine lv_iconst (v := 1) hx hb dX9_init_215 (by decide) ?_
  refine h_iast hf hx hb hX (h_ba hw) dX9_init_216 (fun u52 H52 L52 hf hw9 => ?_)
  have hw := h_bb hw hw9
  refine lv_iinc (v := 2) (lv' := [(1, .int (2 : Int32)), (0, .ref (B + a0))]) hx hb dX9_init_217 hl (k := 0) rfl (by decide) (by decide) rfl (fun ls hl => ?_)
  refine lv_goto (tgt := 204) hx hb dX9_init_220 (by decide) ?_
  refine lv_iload_n hx hb dX9_init_204 rfl (lv_at hl 0 rfl) ?_
  refine lv_bipush (v := 16) hx hb dX9_init_205 (by decide) ?_
  refine lv_icmp_ge (tgt := 223) hx hb dX9_init_207 (by decide) (fun hc => absurd hc (by decide)) (fun hc => ?_)
  refine lv_aload_n hx hb dX9_init_210 rfl (lv_at hl 1 rfl) ?_
  refine h_getr hf hx hb hts hown hX (h_ba hw) flX9_23 rfl dX9_init_211 (fun a53 hf => ?_)
  refine lv_iload_n hx hb dX9_init_214 rfl (lv_at hl 0 rfl) ?_
  refine lv_iconst (v := 1) hx hb dX9_init_215 (by decide) ?_
  refine h_iast hf hx hb hX (h_ba hw) dX9_init_216 (fun u54 H54 L54 hf hw9 => ?_)
  have hw := h_bb hw hw9
  refine lv_iinc (v := 3) (lv' := [(1, .int (3 : Int32)), (0, .ref (B + a0))]) hx hb dX9_init_217 hl (k := 0) rfl (by decide) (by decide) rfl (fun ls hl => ?_)
  refine lv_goto (tgt := 204) hx hb dX9_init_220 (by decide) ?_
  refine lv_iload_n hx hb dX9_init_204 rfl (lv_at hl 0 rfl) ?_
  refine lv_bipush (v := 16) hx hb dX9_init_205 (by decide) ?_
  refine lv_icmp_ge (tgt := 223) hx hb dX9_init_207 (by decide) (fun hc => absurd hc (by decide)) (fun hc => ?_)
  refine lv_aload_n hx hb dX9_init_210 rfl (lv_at hl 1 rfl) ?_
  refine h_getr hf hx hb hts hown hX (h_ba hw) flX9_23 rfl dX9_init_211 (fun a55 hf => ?_)
  refine lv_iload_n hx hb dX9_init_214 rfl (lv_at hl 0 rfl) ?_
  refine lv_iconst (v := 1) hx hb dX9_init_215 (by decide) ?_
  refine h_iast hf hx hb hX (h_ba hw) dX9_init_216 (fun u56 H56 L56 hf hw9 => ?_)
  have hw := h_bb hw hw9
  refine lv_iinc (v := 4) (lv' := [(1, .int (4 : Int32)), (0, .ref (B + a0))]) hx hb dX9_init_217 hl (k := 0) rfl (by decide) (by decide) rfl (fun ls hl => ?_)
  refine lv_goto (tgt := 204) hx hb dX9_init_220 (by decide) ?_
  refine lv_iload_n hx hb dX9_init_204 rfl (lv_at hl 0 rfl) ?_
  refine lv_bipush (v := 16) hx hb dX9_init_205 (by decide) ?_
  refine lv_icmp_ge (tgt := 223) hx hb dX9_init_207 (by decide) (fun hc => absurd hc (by decide)) (fun hc => ?_)
  refine lv_aload_n hx hb dX9_init_210 rfl (lv_at hl 1 rfl) ?_
  refine h_getr hf hx hb hts hown hX (h_ba hw) flX9_23 rfl dX9_init_211 (fun a57 hf => ?_)
  refine lv_iload_n hx hb dX9_init_214 rfl (lv_at hl 0 rfl) ?_
  refine lv_iconst (v := 1) hx hb dX9_init_215 (by decide) ?_
  refine h_iast hf hx hb hX (h_ba hw) dX9_init_216 (fun u58 H58 L58 hf hw9 => ?_)
  have hw := h_bb hw hw9
  refine lv_iinc (v := 5) (lv' := [(1, .int (5 : Int32)), (0, .ref (B + a0))]) hx hb dX9_init_217 hl (k := 0) rfl (by decide) (by decide) rfl (fun ls hl => ?_)
  refine lv_goto (tgt := 204) hx hb dX9_init_220 (by decide) ?_
  refine lv_iload_n hx hb dX9_init_204 rfl (lv_at hl 0 rfl) ?_
  refine lv_bipush (v := 16) hx hb dX9_init_205 (by decide) ?_
  refine lv_icmp_ge (tgt := 223) hx hb dX9_init_207 (by decide) (fun hc => absurd hc (by decide)) (fun hc => ?_)
  refine lv_aload_n hx hb dX9_init_210 rfl (lv_at hl 1 rfl) ?_
  refine h_getr hf hx hb hts hown hX (h_ba hw) flX9_23 rfl dX9_init_211 (fun a59 hf => ?_)
  refine lv_iload_n hx hb dX9_init_214 rfl (lv_at hl 0 rfl) ?_
  refine lv_iconst (v := 1) hx hb dX9_init_215 (by decide) ?_
  refine h_iast hf hx hb hX (h_ba hw) dX9_init_216 (fun u60 H60 L60 hf hw9 => ?_)
  have hw := h_bb hw hw9
  refine lv_iinc (v := 6) (lv' := [(1, .int (6 : Int32)), (0, .ref (B + a0))]) hx hb dX9_init_217 hl (k := 0) rfl (by decide) (by decide) rfl (fun ls hl => ?_)
  refine lv_goto (tgt := 204) hx hb dX9_init_220 (by decide) ?_
  refine lv_iload_n hx hb dX9_init_204 rfl (lv_at hl 0 rfl) ?_
  refine lv_bipush (v := 16) hx hb dX9_init_205 (by decide) ?_
  refine lv_icmp_ge (tgt := 223) hx hb dX9_init_207 (by decide) (fun hc => absurd hc (by decide)) (fun hc => ?_)
  refine lv_aload_n hx hb dX9_init_210 rfl (lv_at hl 1 rfl) ?_
  refine h_getr hf hx hb hts hown hX (h_ba hw) flX9_23 rfl dX9_init_211 (fun a61 hf => ?_)
  refine lv_iload_n hx hb dX9_init_214 rfl (lv_at hl 0 rfl) ?_
  refine lv_iconst (v := 1) hx hb dX9_init_215 (by decide) ?_
  refine h_iast hf hx hb hX (h_ba hw) dX9_init_216 (fun u62 H62 L62 hf hw9 => ?_)
  have hw := h_bb hw hw9
  refine lv_iinc (v := 7) (lv' := [(1, .int (7 : Int32)), (0, .ref (B + a0))]) hx hb dX9_init_217 hl (k := 0) rfl (by decide) (by decide) rfl (fun ls hl => ?_)
  refine lv_goto (tgt := 204) hx hb dX9_init_220 (by decide) ?_
  refine lv_iload_n hx hb dX9_init_204 rfl (lv_at hl 0 rfl) ?_
  refine lv_bipush (v := 16) hx hb dX9_init_205 (by decide) ?_
  refine lv_icmp_ge (tgt := 223) hx hb dX9_init_207 (by decide) (fun hc => absurd hc (by decide)) (fun hc => ?_)
  refine lv_aload_n hx hb dX9_init_210 rfl (lv_at hl 1 rfl) ?_
  refine h_getr hf hx hb hts hown hX (h_ba hw) flX9_23 rfl dX9_init_211 (fun a63 hf => ?_)
  refine lv_iload_n hx hb dX9_init_214 rfl (lv_at hl 0 rfl) ?_
  refine lv_iconst (v := 1) hx hb dX9_init_215 (by decide) ?_
  refine h_iast hf hx hb hX (h_ba hw) dX9_init_216 (fun u64 H64 L64 hf hw9 => ?_)
  have hw := h_bb hw hw9
  refine lv_iinc (v := 8) (lv' := [(1, .int (8 : Int32)), (0, .ref (B + a0))]) hx hb dX9_init_217 hl (k := 0) rfl (by decide) (by decide) rfl (fun ls hl => ?_)
  refine lv_goto (tgt := 204) hx hb dX9_init_220 (by decide) ?_
  refine lv_iload_n hx hb dX9_init_204 rfl (lv_at hl 0 rfl) ?_
  refine lv_bipush (v := 16) hx hb dX9_init_205 (by decide) ?_
  refine lv_icmp_ge (tgt := 223) hx hb dX9_init_207 (by decide) (fun hc => absurd hc (by decide)) (fun hc => ?_)
  refine lv_aload_n hx hb dX9_init_210 rfl (lv_at hl 1 rfl) ?_
  refine h_getr hf hx hb hts hown hX (h_ba hw) flX9_23 rfl dX9_init_211 (fun a65 hf => ?_)
  refine lv_iload_n hx hb dX9_init_214 rfl (lv_at hl 0 rfl) ?_
  refine lv_iconst (v := 1) hx hb dX9_init_215 (by decide) ?_
  refine h_iast hf hx hb hX (h_ba hw) dX9_init_216 (fun u66 H66 L66 hf hw9 => ?_)
  have hw := h_bb hw hw9
  refine lv_iinc (v := 9) (lv' := [(1, .int (9 : Int32)), (0, .ref (B + a0))]) hx hb dX9_init_217 hl (k := 0) rfl (by decide) (by decide) rfl (fun ls hl => ?_)
  refine lv_goto (tgt := 204) hx hb dX9_init_220 (by decide) ?_
  refine lv_iload_n hx hb dX9_init_204 rfl (lv_at hl 0 rfl) ?_
  refine lv_bipush (v := 16) hx hb dX9_init_205 (by decide) ?_
  refine lv_icmp_ge (tgt := 223) hx hb dX9_init_207 (by decide) (fun hc => absurd hc (by decide)) (fun hc => ?_)
  refine lv_aload_n hx hb dX9_init_210 rfl (lv_at hl 1 rfl) ?_
  refine h_getr hf hx hb hts hown hX (h_ba hw) flX9_23 rfl dX9_init_211 (fun a67 hf => ?_)
  refine lv_iload_n hx hb dX9_init_214 rfl (lv_at hl 0 rfl) ?_
  refine lv_iconst (v := 1) hx hb dX9_init_215 (by decide) ?_
  refine h_iast hf hx hb hX (h_ba hw) dX9_init_216 (fun u68 H68 L68 hf hw9 => ?_)
  have hw := h_bb hw hw9
  refine lv_iinc (v := 10) (lv' := [(1, .int (10 : Int32)), (0, .ref (B + a0))]) hx hb dX9_init_217 hl (k := 0) rfl (by decide) (by decide) rfl (fun ls hl => ?_)
  refine lv_goto (tgt := 204) hx hb dX9_init_220 (by decide) ?_
  refine lv_iload_n hx hb dX9_init_204 rfl (lv_at hl 0 rfl) ?_
  refine lv_bipush (v := 16) hx hb dX9_init_205 (by decide) ?_
  refine lv_icmp_ge (tgt := 223) hx hb dX9_init_207 (by decide) (fun hc => absurd hc (by decide)) (fun hc => ?_)
  refine lv_aload_n hx hb dX9_init_210 rfl (lv_at hl 1 rfl) ?_
  refine h_getr hf hx hb hts hown hX (h_ba hw) flX9_23 rfl dX9_init_211 (fun a69 hf => ?_)
  refine lv_iload_n hx hb dX9_init_214 rfl (lv_at hl 0 rfl) ?_
  refine lv_iconst (v := 1) hx hb dX9_init_215 (by decide) ?_
  refine h_iast hf hx hb hX (h_ba hw) dX9_init_216 (fun u70 H70 L70 hf hw9 => ?_)
  have hw := h_bb hw hw9
  refine lv_iinc (v := 11) (lv' := [(1, .int (11 : Int32)), (0, .ref (B + a0))]) hx hb dX9_init_217 hl (k := 0) rfl (by decide) (by decide) rfl (fun ls hl => ?_)
  refine lv_goto (tgt := 204) hx hb dX9_init_220 (by decide) ?_
  refine lv_iload_n hx hb dX9_init_204 rfl (lv_at hl 0 rfl) ?_
  refine lv_bipush (v := 16) hx hb dX9_init_205 (by decide) ?_
  refine lv_icmp_ge (tgt := 223) hx hb dX9_init_207 (by decide) (fun hc => absurd hc (by decide)) (fun hc => ?_)
  refine lv_aload_n hx hb dX9_init_210 rfl (lv_at hl 1 rfl) ?_
  refine h_getr hf hx hb hts hown hX (h_ba hw) flX9_23 rfl dX9_init_211 (fun a71 hf => ?_)
  refine lv_iload_n hx hb dX9_init_214 rfl (lv_at hl 0 rfl) ?_
  refine lv_iconst (v := 1) hx hb dX9_init_215 (by decide) ?_
  refine h_iast hf hx hb hX (h_ba hw) dX9_init_216 (fun u72 H72 L72 hf hw9 => ?_)
  have hw := h_bb hw hw9
  refine lv_iinc (v := 12) (lv' := [(1, .int (12 : Int32)), (0, .ref (B + a0))]) hx hb dX9_init_217 hl (k := 0) rfl (by decide) (by decide) rfl (fun ls hl => ?_)
  refine lv_goto (tgt := 204) hx hb dX9_init_220 (by decide) ?_
  refine lv_iload_n hx hb dX9_init_204 rfl (lv_at hl 0 rfl) ?_
  refine lv_bipush (v := 16) hx hb dX9_init_205 (by decide) ?_
  refine lv_icmp_ge (tgt := 223) hx hb dX9_init_207 (by decide) (fun hc => absurd hc (by decide)) (fun hc => ?_)
  refine lv_aload_n hx hb dX9_init_210 rfl (lv_at hl 1 rfl) ?_
  refine h_getr hf hx hb hts hown hX (h_ba hw) flX9_23 rfl dX9_init_211 (fun a73 hf => ?_)
  refine lv_iload_n hx hb dX9_init_214 rfl (lv_at hl 0 rfl) ?_
  refine lv_iconst (v := 1) hx hb dX9_init_215 (by decide) ?_
  refine h_iast hf hx hb hX (h_ba hw) dX9_init_216 (fun u74 H74 L74 hf hw9 => ?_)
  have hw := h_bb hw hw9
  refine lv_iinc (v := 13) (lv' := [(1, .int (13 : Int32)), (0, .ref (B + a0))]) hx hb dX9_init_217 hl (k := 0) rfl (by decide) (by decide) rfl (fun ls hl => ?_)
  refine lv_goto (tgt := 204) hx hb dX9_init_220 (by decide) ?_
  refine lv_iload_n hx hb dX9_init_204 rfl (lv_at hl 0 rfl) ?_
  refine lv_bipush (v := 16) hx hb dX9_init_205 (by decide) ?_
  refine lv_icmp_ge (tgt := 223) hx hb dX9_init_207 (by decide) (fun hc => absurd hc (by decide)) (fun hc => ?_)
  refine lv_aload_n hx hb dX9_init_210 rfl (lv_at hl 1 rfl) ?_
  refine h_getr hf hx hb hts hown hX (h_ba hw) flX9_23 rfl dX9_init_211 (fun a75 hf => ?_)
  refine lv_iload_n hx hb dX9_init_214 rfl (lv_at hl 0 rfl) ?_
  refine lv_iconst (v := 1) hx hb dX9_init_215 (by decide) ?_
  refine h_iast hf hx hb hX (h_ba hw) dX9_init_216 (fun u76 H76 L76 hf hw9 => ?_)
  have hw := h_bb hw hw9
  refine lv_iinc (v := 14) (lv' := [(1, .int (14 : Int32)), (0, .ref (B + a0))]) hx hb dX9_init_217 hl (k := 0) rfl (by decide) (by decide) rfl (fun ls hl => ?_)
  refine lv_goto (tgt := 204) hx hb dX9_init_220 (by decide) ?_
  refine lv_iload_n hx hb dX9_init_204 rfl (lv_at hl 0 rfl) ?_
  refine lv_bipush (v := 16) hx hb dX9_init_205 (by decide) ?_
  refine lv_icmp_ge (tgt := 223) hx hb dX9_init_207 (by decide) (fun hc => absurd hc (by decide)) (fun hc => ?_)
  refine lv_aload_n hx hb dX9_init_210 rfl (lv_at hl 1 rfl) ?_
  refine h_getr hf hx hb hts hown hX (h_ba hw) flX9_23 rfl dX9_init_211 (fun a77 hf => ?_)
  refine lv_iload_n hx hb dX9_init_214 rfl (lv_at hl 0 rfl) ?_
  refine lv_iconst (v := 1) hx hb dX9_init_215 (by decide) ?_
  refine h_iast hf hx hb hX (h_ba hw) dX9_init_216 (fun u78 H78 L78 hf hw9 => ?_)
  have hw := h_bb hw hw9
  refine lv_iinc (v := 15) (lv' := [(1, .int (15 : Int32)), (0, .ref (B + a0))]) hx hb dX9_init_217 hl (k := 0) rfl (by decide) (by decide) rfl (fun ls hl => ?_)
  refine lv_goto (tgt := 204) hx hb dX9_init_220 (by decide) ?_
  refine lv_iload_n hx hb dX9_init_204 rfl (lv_at hl 0 rfl) ?_
  refine lv_bipush (v := 16) hx hb dX9_init_205 (by decide) ?_
  refine lv_icmp_ge (tgt := 223) hx hb dX9_init_207 (by decide) (fun hc => absurd hc (by decide)) (fun hc => ?_)
  refine lv_aload_n hx hb dX9_init_210 rfl (lv_at hl 1 rfl) ?_
  refine h_getr hf hx hb hts hown hX (h_ba hw) flX9_23 rfl dX9_init_211 (fun a79 hf => ?_)
  refine lv_iload_n hx hb dX9_init_214 rfl (lv_at hl 0 rfl) ?_
  refine lv_iconst (v := 1) hx hb dX9_init_215 (by decide) ?_
  refine h_iast hf hx hb hX (h_ba hw) dX9_init_216 (fun u80 H80 L80 hf hw9 => ?_)
  have hw := h_bb hw hw9
  refine lv_iinc (v := 16) (lv' := [(1, .int (16 : Int32)), (0, .ref (B + a0))]) hx hb dX9_init_217 hl (k := 0) rfl (by decide) (by decide) rfl (fun ls hl => ?_)
  refine lv_goto (tgt := 204) hx hb dX9_init_220 (by decide) ?_
  refine lv_iload_n hx hb dX9_init_204 rfl (lv_at hl 0 rfl) ?_
  refine lv_bipush (v := 16) hx hb dX9_init_205 (by decide) ?_
  refine lv_icmp_ge (tgt := 223) hx hb dX9_init_207 (by decide) (fun hc => ?_) (fun hc => absurd (by decide) hc)
  exact h_vretA (rm := rmX9_init) hf hx hb hr hlk hw ⟨Nat.le_of_ble_eq_true rfl, Nat.le_of_ble_eq_true rfl⟩ dX9_init_223
theorem c_X9_init (l : Launch) (E : hE) (B : Nat) (T : hT) (a0 : Nat) (u0 : hM) (n0 : Nat) {z : hM × Nat} (hf : fX9_init T a0 u0 n0 = some z) : h_CA l E B T yX9_init cX9_init 2 none rmX9_init [.ref (B + a0)] u0 n0 z.1 z.2 none := h_ofA (by decide) (Nat.le_of_ble_eq_true rfl) (fun p e s m below meth c ls hΓ hl hw => wX9_init hΓ hf hw hl)
end GEN
