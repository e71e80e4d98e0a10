section GEN
variable {p : Program} {l : Launch} {e : Env} {s : State} {m : MethodId} {args : Array Value} {below : List Frame} {meth : Method} {c : Code} {E : hE} {B : Nat} {T : hT}
def fJ7_fill_53178_L5 (T : hT) (c0 : Nat) (c1 : Int32) (c3 : Int32) (ex : hM → Option (hM)) : Nat → Int32 → hM → Option (hM)
  | 0, _, _ => none
  | n + 1, v2, u0 => if c3 ≤ v2 then (ex u0) else ((asti T u0 c0 v2 c1).bind fun u2 => lt (v2 + (1 : Int32)) fun x3 => fJ7_fill_53178_L5 T c0 c1 c3 ex n x3 u2)
def fJ7_fill_53178 (T : hT) (r0 : Nat) (p1 : Int32) (u0 : hM) : Option (hM) := (aln T r0).bind fun x1 => fJ7_fill_53178_L5 T r0 p1 x1 (fun (u4 : hM) => some u4) 6000 (0 : Int32) u0
set_option maxRecDepth 100000 in
set_option maxHeartbeats 4000000 in
theorem wfJ7_fill_53178_L5 {c0 : Nat} {c1 : Int32} {c3 : Int32} {ex : hM → Option (hM)} {z : hM} (hΓ : h_Γ E B T p s m args meth c cJ7_fill_53178 4 none RJ7) (hex : ∀ (u9 : hM) (H9 : Heap) (L9 : List Loc) (ls : Array Slot), ex u9 = some z → h_W E B T s.heap u9 H9 L9 → lv_has ls 4 [] → W p l e (h_rm 0) s m args below meth c H9 L9 0 0 (h_Qv below E B T args s z) (F0 m 20 ls [])) : ∀ (n : Nat) (v2 : Int32) (u0 : hM) (H0 : Heap) (L0 : List Loc) (ls : Array Slot), fJ7_fill_53178_L5 T c0 c1 c3 ex n v2 u0 = some z → h_W E B T s.heap u0 H0 L0 → lv_has ls 4 [(0, .ref (B + c0)), (1, .int c1), (2, .int v2), (3, .int c3)] → W p l e (h_rm 0) s m args below meth c H0 L0 0 0 (h_Qv below E B T args s z) (F0 m 5 ls []) := by
  obtain ⟨hx, hb, hr, hml, hts, hown, hlk, hX⟩ := id hΓ
  intro n
  induction n with
  | zero =>
    intro v2 u0 H0 L0 ls hf hw hl
    exact absurd (show (none : Option (hM)) = some z from hf) (fun h => by cases h)
  | succ n ih =>
    intro v2 u0 H0 L0 ls hf hw hl
    rw [fJ7_fill_53178_L5] at hf
    refine lv_iload_n hx hb dJ7_fill_53178_5 rfl (lv_at hl 2 rfl) ?_
    refine lv_iload_n hx hb dJ7_fill_53178_6 rfl (lv_at hl 3 rfl) ?_
    refine lv_icmp_ge (tgt := 20) hx hb dJ7_fill_53178_7 (by decide) (fun hc => ?_) (fun hc => ?_)
    · have hf := ifp hc hf
      exact hex  u0 _ _ _ hf hw (lv_sub hl [] rfl)
    · have hf := ifn hc hf
      refine lv_aload_n hx hb dJ7_fill_53178_10 rfl (lv_at hl 0 rfl) ?_
      refine lv_iload_n hx hb dJ7_fill_53178_11 rfl (lv_at hl 2 rfl) ?_
      refine lv_iload_n hx hb dJ7_fill_53178_12 rfl (lv_at hl 1 rfl) ?_
      refine h_iast hf hx hb hX hw dJ7_fill_53178_13 (fun u2 H2 L2 hf hw => ?_)
      refine h_iinc (k := 2) hf hx hb dJ7_fill_53178_14 hl rfl (by decide) (by decide) (fun x3 ls hf hl => ?_)
      have hl : lv_has ls 4 [(2, .int x3), (0, .ref (B + c0)), (1, .int c1), (3, .int c3)] := hl
      refine lv_goto (tgt := 5) hx hb dJ7_fill_53178_17 (by decide) ?_
      exact ih x3 u2 _ _ _ hf hw (lv_sub hl [1, 2, 0, 3] rfl)
set_option maxRecDepth 100000 in
set_option maxHeartbeats 4000000 in
theorem wJ7_fill_53178 {r0 : Nat} {p1 : Int32} {u0 : hM} {z : hM} {ls : Array Slot} (hΓ : h_Γ E B T p s m args meth c cJ7_fill_53178 4 none RJ7) (hf : fJ7_fill_53178 T r0 p1 u0 = some z) (hw : h_W E B T s.heap u0 s.heap []) (hl : lv_has ls 4 [(0, .ref (B + r0)), (1, .int p1)]) : W p l e (h_rm 0) s m args below meth c s.heap [] 0 0 (h_Qv below E B T args s z) (F0 m 0 ls []) := by
  obtain ⟨hx, hb, hr, hml, hts, hown, hlk, hX⟩ := id hΓ
  unfold fJ7_fill_53178 at hf
  refine lv_iconst (v := 0) hx hb dJ7_fill_53178_0 (by decide) ?_
  refine lv_istore_n (lv' := [(2, .int (0 : Int32)), (0, .ref (B + r0)), (1, .int p1)]) hx hb dJ7_fill_53178_1 rfl hl (by decide) rfl (fun ls hl => ?_)
  refine lv_aload_n hx hb dJ7_fill_53178_2 rfl (lv_at hl 1 rfl) ?_
  refine h_alen hf hx hb hX hw dJ7_fill_53178_3 (fun x1 hf => ?_)
  refine lv_istore_n (lv' := [(3, .int x1), (2, .int (0 : Int32)), (0, .ref (B + r0)), (1, .int p1)]) hx hb dJ7_fill_53178_4 rfl hl (by decide) rfl (fun ls hl => ?_)
  refine wfJ7_fill_53178_L5 hΓ ?_ 6000 (0 : Int32) u0 _ _ _ hf hw (lv_sub hl [2, 3, 1, 0] rfl)
  intro u4 H4 L4 ls hf hw hl
  exact h_vret hf hx hb hr hlk hw dJ7_fill_53178_20
theorem c_J7_fill_53178 (l : Launch) (E : hE) (B : Nat) (T : hT) (r0 : Nat) (p1 : Int32) (u0 : hM) {z : hM} (hf : fJ7_fill_53178 T r0 p1 u0 = some z) : h_Ct l E B T yJ7_fill_53178 cJ7_fill_53178 4 none 0 [.ref (B + r0), .int p1] u0 z none := h_ofW (by decide) (Nat.le_of_ble_eq_true rfl) (fun p e s m below meth c ls hΓ hl hw => wJ7_fill_53178 hΓ hf hw hl)
def fX5_draw (T : hT) (a0 : Nat) (p1 : Int32) (u0 : hM) : Option (Int32 × hM) := (gti T u0 a0 5 6).bind fun x1 => (pti T u0 a0 5 6 ((((x1.toInt64 * (1103515245 : Int64)) + (12345 : Int64)) &&& (2147483647 : Int64)).toInt32)).bind fun u2 => if p1 ≤ 0 then (some ((0 : Int32), u2)) else ((gti T u2 a0 5 6).bind fun x3 => (rmi (x3 / (65536 : Int32)) p1).bind fun x4 => some (x4, u2))
set_option maxRecDepth 100000 in
set_option maxHeartbeats 4000000 in
theorem wX5_draw {a0 : Nat} {p1 : Int32} {u0 : hM} {z : Int32 × hM} {ls : Array Slot} (hΓ : h_Γ E B T p s m args meth c cX5_draw 2 (some .int) RX5) (hf : fX5_draw T a0 p1 u0 = some z) (hw : h_W E B T s.heap u0 s.heap []) (hl : lv_has ls 2 [(0, .ref (B + a0)), (1, .int p1)]) : W p l e (h_rm 0) s m args below meth c s.heap [] 0 0 (h_Qi below E B T args s z) (F0 m 0 ls []) := by
  obtain ⟨hx, hb, hr, hml, hts, hown, hlk, hX⟩ := id hΓ
  unfold fX5_draw at hf
  refine lv_aload_n hx hb dX5_draw_0 rfl (lv_at hl 0 rfl) ?_
  refine lv_aload_n hx hb dX5_draw_1 rfl (lv_at hl 0 rfl) ?_
  refine h_geti hf hx hb hts hown hX hw flX5_40 rfl dX5_draw_2 (fun x1 hf => ?_)
  refine lv_i2l hx hb dX5_draw_5 rfl ?_
  refine lv_ldc2 hx hb hown (hts _ klX5_68) dX5_draw_6 ?_
  refine lv_lmul hx hb dX5_draw_9 ?_
  refine lv_ldc2 hx hb hown (hts _ klX5_70) dX5_draw_10 ?_
  refine lv_ladd hx hb dX5_draw_13 ?_
  refine lv_ldc2 hx hb hown (hts _ klX5_72) dX5_draw_14 ?_
  refine lv_land hx hb dX5_draw_17 ?_
  refine lv_l2i hx hb dX5_draw_18 rfl ?_
  refine h_puti hf hx hb hts hown hX hw flX5_40 ⟨rfl, rfl⟩ dX5_draw_19 (fun u2 H2 L2 hf hw => ?_)
  refine lv_iload_n hx hb dX5_draw_22 rfl (lv_at hl 1 rfl) ?_
  refine lv_if_le (tgt := 38) hx hb dX5_draw_23 (by decide) (fun hc => ?_) (fun hc => ?_)
  · have hf := ifp hc hf
    refine lv_iconst (v := 0) hx hb dX5_draw_38 (by decide) ?_
    exact h_iret hf hx hb hr hlk hw dX5_draw_39
  · have hf := ifn hc hf
    refine lv_aload_n hx hb dX5_draw_26 rfl (lv_at hl 0 rfl) ?_
    refine h_geti hf hx hb hts hown hX hw flX5_40 rfl dX5_draw_27 (fun x3 hf => ?_)
    refine lv_ldc hx hb hown (hts _ kcX5_74) dX5_draw_30 ?_
    refine lv_idiv hx hb dX5_draw_32 (by decide) ?_
    refine lv_iload_n hx hb dX5_draw_33 rfl (lv_at hl 1 rfl) ?_
    refine h_rmi hf hx hb dX5_draw_34 (fun x4 hf => ?_)
    refine lv_goto (tgt := 39) hx hb dX5_draw_35 (by decide) ?_
    exact h_iret hf hx hb hr hlk hw dX5_draw_39
theorem c_X5_draw (l : Launch) (E : hE) (B : Nat) (T : hT) (a0 : Nat) (p1 : Int32) (u0 : hM) {z : Int32 × hM} (hf : fX5_draw T a0 p1 u0 = some z) : h_Ct l E B T yX5_draw cX5_draw 2 (some .int) 0 [.ref (B + a0), .int p1] u0 z.2 (some (.int z.1)) := h_ofW (by decide) (Nat.le_of_ble_eq_true rfl) (fun p e s m below meth c ls hΓ hl hw => wX5_draw hΓ hf hw hl)
def fX8_startOff (T : hT) (a0 : Nat) (p1 : Int32) (u0 : hM) : Option (Int32 × hM) := if p1 = 0 then ((gtr T u0 a0 8 6).bind fun a3 => (vc T a3 5 (fX5_draw T a3 (13 : Int32) u0)).bind fun q4 => some (((q4.1 - (6 : Int32)) * (100 : Int32)), q4.2)) else (if p1 = (1 : Int32) then ((gtr T u0 a0 8 6).bind fun a1 => (vc T a1 5 (fX5_draw T a1 (2 : Int32) u0)).bind fun q2 => some (((q2.1 - (1 : Int32)) * (1200 : Int32)), q2.2)) else (some ((0 : Int32), u0)))
set_option maxRecDepth 100000 in
set_option maxHeartbeats 4000000 in
theorem wX8_startOff {a0 : Nat} {p1 : Int32} {u0 : hM} {z : Int32 × hM} {ls : Array Slot} (hΓ : h_Γ E B T p s m args meth c cX8_startOff 2 (some .int) RX8) (hf : fX8_startOff T a0 p1 u0 = some z) (hw : h_W E B T s.heap u0 s.heap []) (hl : lv_has ls 2 [(0, .ref (B + a0)), (1, .int p1)]) : W p l e (h_rm 1) s m args below meth c s.heap [] 0 0 (h_Qi below E B T args s z) (F0 m 0 ls []) := by
  obtain ⟨hx, hb, hr, hml, hts, hown, hlk, hX⟩ := id hΓ
  unfold fX8_startOff at hf
  refine lv_iload_n hx hb dX8_startOff_0 rfl (lv_at hl 1 rfl) ?_
  refine lv_if_ne (tgt := 20) hx hb dX8_startOff_1 (by decide) (fun hc => ?_) (fun hc => ?_)
  · have hf := ifn hc hf
    refine lv_iload_n hx hb dX8_startOff_20 rfl (lv_at hl 1 rfl) ?_
    refine lv_iconst (v := 1) hx hb dX8_startOff_21 (by decide) ?_
    refine lv_icmp_ne (tgt := 40) hx hb dX8_startOff_22 (by decide) (fun hc => ?_) (fun hc => ?_)
    · have hf := ifn hc hf
      refine lv_iconst (v := 0) hx hb dX8_startOff_40 (by decide) ?_
      exact h_iret hf hx hb hr hlk hw dX8_startOff_41
    · have hf := ifp hc hf
      refine lv_aload_n hx hb dX8_startOff_25 rfl (lv_at hl 0 rfl) ?_
      refine h_getr hf hx hb hts hown hX hw flX8_47 rfl dX8_startOff_26 (fun a1 hf => ?_)
      refine lv_iconst (v := 2) hx hb dX8_startOff_29 (by decide) ?_
      refine h_cVi (As := [.int (2 : Int32)]) (rest := []) hf hx hb hml hts hown hX hw myX5_draw miX5_draw lkX8_369 ⟨rfl, by decide⟩ (fun q hq => c_X5_draw l E B T a1 (2 : Int32) u0 hq) ⟨Nat.le_of_ble_eq_true rfl, Nat.le_of_ble_eq_true rfl⟩ ⟨Nat.le_refl _, Nat.le_refl _⟩ rfl hl.1 rfl (Nat.le_of_ble_eq_true rfl) dX8_startOff_30 (fun q2 H2 L2 hf hw => ?_)
      refine lv_iconst (v := 1) hx hb dX8_startOff_33 (by decide) ?_
      refine lv_isub hx hb dX8_startOff_34 ?_
      refine lv_sipush (v := 1200) hx hb dX8_startOff_35 (by decide) ?_
      refine lv_imul hx hb dX8_startOff_38 ?_
      exact h_iret hf hx hb hr hlk hw dX8_startOff_39
  · have hf := ifp hc hf
    refine lv_aload_n hx hb dX8_startOff_4 rfl (lv_at hl 0 rfl) ?_
    refine h_getr hf hx hb hts hown hX hw flX8_47 rfl dX8_startOff_5 (fun a3 hf => ?_)
    refine lv_bipush (v := 13) hx hb dX8_startOff_8 (by decide) ?_
    refine h_cVi (As := [.int (13 : Int32)]) (rest := []) hf hx hb hml hts hown hX hw myX5_draw miX5_draw lkX8_369 ⟨rfl, by decide⟩ (fun q hq => c_X5_draw l E B T a3 (13 : Int32) u0 hq) ⟨Nat.le_of_ble_eq_true rfl, Nat.le_of_ble_eq_true rfl⟩ ⟨Nat.le_refl _, Nat.le_refl _⟩ rfl hl.1 rfl (Nat.le_of_ble_eq_true rfl) dX8_startOff_10 (fun q4 H4 L4 hf hw => ?_)
    refine lv_bipush (v := 6) hx hb dX8_startOff_13 (by decide) ?_
    refine lv_isub hx hb dX8_startOff_15 ?_
    refine lv_bipush (v := 100) hx hb dX8_startOff_16 (by decide) ?_
    refine lv_imul hx hb dX8_startOff_18 ?_
    exact h_iret hf hx hb hr hlk hw dX8_startOff_19
theorem c_X8_startOff (l : Launch) (E : hE) (B : Nat) (T : hT) (a0 : Nat) (p1 : Int32) (u0 : hM) {z : Int32 × hM} (hf : fX8_startOff T a0 p1 u0 = some z) : h_Ct l E B T yX8_startOff cX8_startOff 2 (some .int) 1 [.ref (B + a0), .int p1] u0 z.2 (some (.int z.1)) := h_ofW (by decide) (Nat.le_of_ble_eq_true rfl) (fun p e s m below meth c ls hΓ hl hw => wX8_startOff hΓ hf hw hl)
def fX1_rise (T : hT) (a0 : Nat) (p1 : Int32) (u0 : hM) : Option (Int32 × hM) := (gti T u0 a0 1 2).bind fun x1 => (fX8_isWithin T p1 (1 : Int32) (x1 - (1 : Int32)) u0).bind fun q2 => if q2.1 = 0 then (some ((0 : Int32), q2.2)) else ((gtr T q2.2 a0 1 0).bind fun a3 => (ald 11 T q2.2 a3 p1).bind fun x4 => (gtr T q2.2 a0 1 0).bind fun a5 => (ald 11 T q2.2 a5 (p1 - (1 : Int32))).bind fun x6 => some ((x4 - x6), q2.2))
set_option maxRecDepth 100000 in
set_option maxHeartbeats 4000000 in
theorem wX1_rise {a0 : Nat} {p1 : Int32} {u0 : hM} {z : Int32 × hM} {ls : Array Slot} (hΓ : h_Γ E B T p s m args meth c cX1_rise 2 (some .int) RX1) (hf : fX1_rise T a0 p1 u0 = some z) (hw : h_W E B T s.heap u0 s.heap []) (hl : lv_has ls 2 [(0, .ref (B + a0)), (1, .int p1)]) : W p l e (h_rm 1) s m args below meth c s.heap [] 0 0 (h_Qi below E B T args s z) (F0 m 0 ls []) := by
  obtain ⟨hx, hb, hr, hml, hts, hown, hlk, hX⟩ := id hΓ
  unfold fX1_rise at hf
  refine lv_iload_n hx hb dX1_rise_0 rfl (lv_at hl 1 rfl) ?_
  refine lv_iconst (v := 1) hx hb dX1_rise_1 (by decide) ?_
  refine lv_aload_n hx hb dX1_rise_2 rfl (lv_at hl 0 rfl) ?_
  refine h_geti hf hx hb hts hown hX hw flX1_18 rfl dX1_rise_3 (fun x1 hf => ?_)
  refine lv_iconst (v := 1) hx hb dX1_rise_6 (by decide) ?_
  refine lv_isub hx hb dX1_rise_7 ?_
  refine h_cNi (As := [.int p1, .int (1 : Int32), .int (x1 - (1 : Int32))]) (rest := []) hf hx hb hml hts hown hX hw myX8_isWithin msX8_isWithin nkX1_49 (fun q hq => c_X8_isWithin l E B T p1 (1 : Int32) (x1 - (1 : Int32)) u0 hq) ⟨Nat.le_of_ble_eq_true rfl, Nat.le_of_ble_eq_true rfl⟩ ⟨Nat.le_refl _, Nat.le_refl _⟩ rfl hl.1 rfl (Nat.le_of_ble_eq_true rfl) dX1_rise_8 (fun q2 H2 L2 hf hw => ?_)
  refine lv_if_eq (tgt := 32) hx hb dX1_rise_11 (by decide) (fun hc => ?_) (fun hc => ?_)
  · have hf := ifp hc hf
    refine lv_iconst (v := 0) hx hb dX1_rise_32 (by decide) ?_
    exact h_iret hf hx hb hr hlk hw dX1_rise_33
  · have hf := ifn hc hf
    refine lv_aload_n hx hb dX1_rise_14 rfl (lv_at hl 0 rfl) ?_
    refine h_getr hf hx hb hts hown hX hw flX1_9 rfl dX1_rise_15 (fun a3 hf => ?_)
    refine lv_iload_n hx hb dX1_rise_18 rfl (lv_at hl 1 rfl) ?_
    refine h_iald hf hx hb hX hw dX1_rise_19 (fun x4 hf => ?_)
    refine lv_aload_n hx hb dX1_rise_20 rfl (lv_at hl 0 rfl) ?_
    refine h_getr hf hx hb hts hown hX hw flX1_9 rfl dX1_rise_21 (fun a5 hf => ?_)
    refine lv_iload_n hx hb dX1_rise_24 rfl (lv_at hl 1 rfl) ?_
    refine lv_iconst (v := 1) hx hb dX1_rise_25 (by decide) ?_
    refine lv_isub hx hb dX1_rise_26 ?_
    refine h_iald hf hx hb hX hw dX1_rise_27 (fun x6 hf => ?_)
    refine lv_isub hx hb dX1_rise_28 ?_
    refine lv_goto (tgt := 33) hx hb dX1_rise_29 (by decide) ?_
    exact h_iret hf hx hb hr hlk hw dX1_rise_33
theorem c_X1_rise (l : Launch) (E : hE) (B : Nat) (T : hT) (a0 : Nat) (p1 : Int32) (u0 : hM) {z : Int32 × hM} (hf : fX1_rise T a0 p1 u0 = some z) : h_Ct l E B T yX1_rise cX1_rise 2 (some .int) 1 [.ref (B + a0), .int p1] u0 z.2 (some (.int z.1)) := h_ofW (by decide) (Nat.le_of_ble_eq_true rfl) (fun p e s m below meth c ls hΓ hl hw => wX1_rise hΓ hf hw hl)
def fX3_isPastMemory (T : hT) (a0 : Nat) (p1 : Int32) (u0 : hM) : Option (Int32 × hM) := (gti T u0 a0 3 0).bind fun x1 => if x1 = (1 : Int32) then (rtz (0 : Int32) u0) else ((gti T u0 a0 3 0).bind fun x2 => lt (fun (x3 : Int32) (u4 : hM) => if p1 < x3 then (rtz (0 : Int32) u4) else (rtz (1 : Int32) u4)) fun J34 => if x2 = (5 : Int32) then ((gti T u0 a0 3 4).bind fun x6 => J34 (if (3 : Int32) < x6 then (3 : Int32) else x6) u0) else ((gti T u0 a0 3 4).bind fun x5 => J34 x5 u0))
set_option maxRecDepth 100000 in
set_option maxHeartbeats 4000000 in
theorem wX3_isPastMemory {a0 : Nat} {p1 : Int32} {u0 : hM} {z : Int32 × hM} {ls : Array Slot} (hΓ : h_Γ E B T p s m args meth c cX3_isPastMemory 2 (some .boolean) RX3) (hf : fX3_isPastMemory T a0 p1 u0 = some z) (hw : h_W E B T s.heap u0 s.heap []) (hl : lv_has ls 2 [(0, .ref (B + a0)), (1, .int p1)]) : W p l e (h_rm 1) s m args below meth c s.heap [] 0 0 (h_Qi below E B T args s z) (F0 m 0 ls []) := by
  obtain ⟨hx, hb, hr, hml, hts, hown, hlk, hX⟩ := id hΓ
  unfold fX3_isPastMemory at hf
  refine lv_aload_n hx hb dX3_isPastMemory_0 rfl (lv_at hl 0 rfl) ?_
  refine h_geti hf hx hb hts hown hX hw flX3_9 rfl dX3_isPastMemory_1 (fun x1 hf => ?_)
  refine lv_iconst (v := 1) hx hb dX3_isPastMemory_4 (by decide) ?_
  refine lv_icmp_ne (tgt := 10) hx hb dX3_isPastMemory_5 (by decide) (fun hc => ?_) (fun hc => ?_)
  · have hf := ifn hc hf
    refine lv_iload_n hx hb dX3_isPastMemory_10 rfl (lv_at hl 1 rfl) ?_
    refine lv_aload_n hx hb dX3_isPastMemory_11 rfl (lv_at hl 0 rfl) ?_
    refine h_geti hf hx hb hts hown hX hw flX3_9 rfl dX3_isPastMemory_12 (fun x2 hf => ?_)
    refine lv_iconst (v := 5) hx hb dX3_isPastMemory_15 (by decide) ?_
    obtain ⟨J34, eJ34, hf⟩ := h_lt hf
    have hJ34 : ∀ (x3 : Int32) (u4 : hM) (H4 : Heap) (L4 : List Loc) (ls : Array Slot), J34 x3 u4 = some z → h_W E B T s.heap u4 H4 L4 → lv_has ls 2 [] → W p l e (h_rm 1) s m args below meth c H4 L4 0 0 (h_Qi below E B T args s z) (F0 m 34 ls [.int x3, .int p1]) := by
      intro x3 u4 H4 L4 ls hf hw hl
      rw [eJ34] at hf
      refine lv_icmp_lt (tgt := 41) hx hb dX3_isPastMemory_34 (by decide) (fun hc => ?_) (fun hc => ?_)
      · have hf := ifp hc hf
        refine lv_iconst (v := 0) hx hb dX3_isPastMemory_41 (by decide) ?_
        exact h_zret hf hx hb hr hlk hw dX3_isPastMemory_42
      · have hf := ifn hc hf
        refine lv_iconst (v := 1) hx hb dX3_isPastMemory_37 (by decide) ?_
        refine lv_goto (tgt := 42) hx hb dX3_isPastMemory_38 (by decide) ?_
        exact h_zret hf hx hb hr hlk hw dX3_isPastMemory_42
    clear eJ34
    refine lv_icmp_ne (tgt := 30) hx hb dX3_isPastMemory_16 (by decide) (fun hc => ?_) (fun hc => ?_)
    · have hf := ifn hc hf
      refine lv_aload_n hx hb dX3_isPastMemory_30 rfl (lv_at hl 0 rfl) ?_
      refine h_geti hf hx hb hts hown hX hw flX3_24 rfl dX3_isPastMemory_31 (fun x5 hf => ?_)
      exact hJ34 x5 u0 _ _ _ hf hw (lv_sub hl [] rfl)
    · have hf := ifp hc hf
      refine lv_aload_n hx hb dX3_isPastMemory_19 rfl (lv_at hl 0 rfl) ?_
      refine h_geti hf hx hb hts hown hX hw flX3_24 rfl dX3_isPastMemory_20 (fun x6 hf => ?_)
      refine lv_iconst (v := 3) hx hb dX3_isPastMemory_23 (by decide) ?_
      refine h_mmin (rest := [.int p1]) hx hb hml hl.1 hts hown lkX3_61 ⟨Nat.le_of_ble_eq_true rfl, Nat.le_of_ble_eq_true rfl⟩ ⟨Nat.le_refl _, Nat.le_refl _⟩ dX3_isPastMemory_24 ?_
      refine lv_goto (tgt := 34) hx hb dX3_isPastMemory_27 (by decide) ?_
      exact hJ34 (if (3 : Int32) < x6 then (3 : Int32) else x6) u0 _ _ _ hf hw (lv_sub hl [] rfl)
  · have hf := ifp hc hf
    refine lv_iconst (v := 0) hx hb dX3_isPastMemory_8 (by decide) ?_
    exact h_zret hf hx hb hr hlk hw dX3_isPastMemory_9
theorem c_X3_isPastMemory (l : Launch) (E : hE) (B : Nat) (T : hT) (a0 : Nat) (p1 : Int32) (u0 : hM) {z : Int32 × hM} (hf : fX3_isPastMemory T a0 p1 u0 = some z) : h_Ct l E B T yX3_isPastMemory cX3_isPastMemory 2 (some .boolean) 1 [.ref (B + a0), .int p1] u0 z.2 (some (.int z.1)) := h_ofW (by decide) (Nat.le_of_ble_eq_true rfl) (fun p e s m below meth c ls hΓ hl hw => wX3_isPastMemory hΓ hf hw hl)
def fX3_hears (T : hT) (a0 : Nat) (p1 : Int32) (u0 : hM) : Option (Int32 × hM) := (gti T u0 a0 3 0).bind fun x1 => if x1 = (1 : Int32) then (rtz (1 : Int32) u0) else ((gti T u0 a0 3 0).bind fun x2 => lt (fun (x3 : Int32) (u4 : hM) => if (if 0 ≤ p1 then p1 else 0 - p1) ≤ (x3 + (50 : Int32)) then (rtz (0 : Int32) u4) else (rtz (1 : Int32) u4)) fun J36 => if x2 = (6 : Int32) then ((gti T u0 a0 3 1).bind fun x6 => J36 ((2 : Int32) * x6) u0) else ((gti T u0 a0 3 1).bind fun x5 => J36 x5 u0))
set_option maxRecDepth 100000 in
set_option maxHeartbeats 4000000 in
theorem wX3_hears {a0 : Nat} {p1 : Int32} {u0 : hM} {z : Int32 × hM} {ls : Array Slot} (hΓ : h_Γ E B T p s m args meth c cX3_hears 2 (some .boolean) RX3) (hf : fX3_hears T a0 p1 u0 = some z) (hw : h_W E B T s.heap u0 s.heap []) (hl : lv_has ls 2 [(0, .ref (B + a0)), (1, .int p1)]) : W p l e (h_rm 1) s m args below meth c s.heap [] 0 0 (h_Qi below E B T args s z) (F0 m 0 ls []) := by
  obtain ⟨hx, hb, hr, hml, hts, hown, hlk, hX⟩ := id hΓ
  unfold fX3_hears at hf
  refine lv_aload_n hx hb dX3_hears_0 rfl (lv_at hl 0 rfl) ?_
  refine h_geti hf hx hb hts hown hX hw flX3_9 rfl dX3_hears_1 (fun x1 hf => ?_)
  refine lv_iconst (v := 1) hx hb dX3_hears_4 (by decide) ?_
  refine lv_icmp_ne (tgt := 10) hx hb dX3_hears_5 (by decide) (fun hc => ?_) (fun hc => ?_)
  · have hf := ifn hc hf
    refine lv_iload_n hx hb dX3_hears_10 rfl (lv_at hl 1 rfl) ?_
    refine h_mabs (rest := []) hx hb hml hl.1 hts hown lkX3_64 ⟨Nat.le_of_ble_eq_true rfl, Nat.le_of_ble_eq_true rfl⟩ ⟨Nat.le_refl _, Nat.le_refl _⟩ dX3_hears_11 ?_
    refine lv_aload_n hx hb dX3_hears_14 rfl (lv_at hl 0 rfl) ?_
    refine h_geti hf hx hb hts hown hX hw flX3_9 rfl dX3_hears_15 (fun x2 hf => ?_)
    refine lv_bipush (v := 6) hx hb dX3_hears_18 (by decide) ?_
    obtain ⟨J36, eJ36, hf⟩ := h_lt hf
    have hJ36 : ∀ (x3 : Int32) (u4 : hM) (H4 : Heap) (L4 : List Loc) (ls : Array Slot), J36 x3 u4 = some z → h_W E B T s.heap u4 H4 L4 → lv_has ls 2 [] → W p l e (h_rm 1) s m args below meth c H4 L4 0 0 (h_Qi below E B T args s z) (F0 m 36 ls [.int x3, .int (if 0 ≤ p1 then p1 else 0 - p1)]) := by
      intro x3 u4 H4 L4 ls hf hw hl
      rw [eJ36] at hf
      refine lv_bipush (v := 50) hx hb dX3_hears_36 (by decide) ?_
      refine lv_iadd hx hb dX3_hears_38 ?_
      refine lv_icmp_le (tgt := 46) hx hb dX3_hears_39 (by decide) (fun hc => ?_) (fun hc => ?_)
      · have hf := ifp hc hf
        refine lv_iconst (v := 0) hx hb dX3_hears_46 (by decide) ?_
        exact h_zret hf hx hb hr hlk hw dX3_hears_47
      · have hf := ifn hc hf
        refine lv_iconst (v := 1) hx hb dX3_hears_42 (by decide) ?_
        refine lv_goto (tgt := 47) hx hb dX3_hears_43 (by decide) ?_
        exact h_zret hf hx hb hr hlk hw dX3_hears_47
    clear eJ36
    refine lv_icmp_ne (tgt := 32) hx hb dX3_hears_20 (by decide) (fun hc => ?_) (fun hc => ?_)
    · have hf := ifn hc hf
      refine lv_aload_n hx hb dX3_hears_32 rfl (lv_at hl 0 rfl) ?_
      refine h_geti hf hx hb hts hown hX hw flX3_15 rfl dX3_hears_33 (fun x5 hf => ?_)
      exact hJ36 x5 u0 _ _ _ hf hw (lv_sub hl [] rfl)
    · have hf := ifp hc hf
      refine lv_iconst (v := 2) hx hb dX3_hears_23 (by decide) ?_
      refine lv_aload_n hx hb dX3_hears_24 rfl (lv_at hl 0 rfl) ?_
      refine h_geti hf hx hb hts hown hX hw flX3_15 rfl dX3_hears_25 (fun x6 hf => ?_)
      refine lv_imul hx hb dX3_hears_28 ?_
      refine lv_goto (tgt := 36) hx hb dX3_hears_29 (by decide) ?_
      exact hJ36 ((2 : Int32) * x6) u0 _ _ _ hf hw (lv_sub hl [] rfl)
  · have hf := ifp hc hf
    refine lv_iconst (v := 1) hx hb dX3_hears_8 (by decide) ?_
    exact h_zret hf hx hb hr hlk hw dX3_hears_9
theorem c_X3_hears (l : Launch) (E : hE) (B : Nat) (T : hT) (a0 : Nat) (p1 : Int32) (u0 : hM) {z : Int32 × hM} (hf : fX3_hears T a0 p1 u0 = some z) : h_Ct l E B T yX3_hears cX3_hears 2 (some .boolean) 1 [.ref (B + a0), .int p1] u0 z.2 (some (.int z.1)) := h_ofW (by decide) (Nat.le_of_ble_eq_true rfl) (fun p e s m below meth c ls hΓ hl hw => wX3_hears hΓ hf hw hl)
def fX3_driftSung (T : hT) (a0 : Nat) (u0 : hM) : Option (Int32 × hM) := (gti T u0 a0 3 0).bind fun x1 => if x1 = (1 : Int32) then (some ((0 : Int32), u0)) else ((gti T u0 a0 3 0).bind fun x2 => if x2 = (2 : Int32) then ((gti T u0 a0 3 7).bind fun x4 => some (((2 : Int32) * x4), u0)) else ((gti T u0 a0 3 7).bind fun x3 => some (x3, u0)))
set_option maxRecDepth 100000 in
set_option maxHeartbeats 4000000 in
theorem wX3_driftSung {a0 : Nat} {u0 : hM} {z : Int32 × hM} {ls : Array Slot} (hΓ : h_Γ E B T p s m args meth c cX3_driftSung 1 (some .int) RX3) (hf : fX3_driftSung T a0 u0 = some z) (hw : h_W E B T s.heap u0 s.heap []) (hl : lv_has ls 1 [(0, .ref (B + a0))]) : W p l e (h_rm 0) s m args below meth c s.heap [] 0 0 (h_Qi below E B T args s z) (F0 m 0 ls []) := by
  obtain ⟨hx, hb, hr, hml, hts, hown, hlk, hX⟩ := id hΓ
  unfold fX3_driftSung at hf
  refine lv_aload_n hx hb dX3_driftSung_0 rfl (lv_at hl 0 rfl) ?_
  refine h_geti hf hx hb hts hown hX hw flX3_9 rfl dX3_driftSung_1 (fun x1 hf => ?_)
  refine lv_iconst (v := 1) hx hb dX3_driftSung_4 (by decide) ?_
  refine lv_icmp_ne (tgt := 10) hx hb dX3_driftSung_5 (by decide) (fun hc => ?_) (fun hc => ?_)
  · have hf := ifn hc hf
    refine lv_aload_n hx hb dX3_driftSung_10 rfl (lv_at hl 0 rfl) ?_
    refine h_geti hf hx hb hts hown hX hw flX3_9 rfl dX3_driftSung_11 (fun x2 hf => ?_)
    refine lv_iconst (v := 2) hx hb dX3_driftSung_14 (by decide) ?_
    refine lv_icmp_ne (tgt := 27) hx hb dX3_driftSung_15 (by decide) (fun hc => ?_) (fun hc => ?_)
    · have hf := ifn hc hf
      refine lv_aload_n hx hb dX3_driftSung_27 rfl (lv_at hl 0 rfl) ?_
      refine h_geti hf hx hb hts hown hX hw flX3_33 rfl dX3_driftSung_28 (fun x3 hf => ?_)
      exact h_iret hf hx hb hr hlk hw dX3_driftSung_31
    · have hf := ifp hc hf
      refine lv_iconst (v := 2) hx hb dX3_driftSung_18 (by decide) ?_
      refine lv_aload_n hx hb dX3_driftSung_19 rfl (lv_at hl 0 rfl) ?_
      refine h_geti hf hx hb hts hown hX hw flX3_33 rfl dX3_driftSung_20 (fun x4 hf => ?_)
      refine lv_imul hx hb dX3_driftSung_23 ?_
      refine lv_goto (tgt := 31) hx hb dX3_driftSung_24 (by decide) ?_
      exact h_iret hf hx hb hr hlk hw dX3_driftSung_31
  · have hf := ifp hc hf
    refine lv_iconst (v := 0) hx hb dX3_driftSung_8 (by decide) ?_
    exact h_iret hf hx hb hr hlk hw dX3_driftSung_9
theorem c_X3_driftSung (l : Launch) (E : hE) (B : Nat) (T : hT) (a0 : Nat) (u0 : hM) {z : Int32 × hM} (hf : fX3_driftSung T a0 u0 = some z) : h_Ct l E B T yX3_driftSung cX3_driftSung 1 (some .int) 0 [.ref (B + a0)] u0 z.2 (some (.int z.1)) := h_ofW (by decide) (Nat.le_of_ble_eq_true rfl) (fun p e s m below meth c ls hΓ hl hw => wX3_driftSung hΓ hf hw hl)
def fX3_moveOfAim (T : hT) (a0 : Nat) (p1 : Int32) (p2 : Int32) (u0 : hM) : Option (Int32 × hM) := (vc T a0 3 (fX3_isPastMemory T a0 p2 u0)).bind fun q1 => if q1.1 = 0 then ((vc T a0 3 (fX3_hears T a0 p1 q1.2)).bind fun q2 => lt (if q2.1 = 0 then (0 : Int32) else p1) fun x3 => (vc T a0 3 (fX3_driftSung T a0 q2.2)).bind fun q4 => some ((x3 + q4.1), q4.2)) else (some ((0 : Int32), q1.2))
set_option maxRecDepth 100000 in
set_option maxHeartbeats 4000000 in
theorem wX3_moveOfAim {a0 : Nat} {p1 : Int32} {p2 : Int32} {u0 : hM} {z : Int32 × hM} {ls : Array Slot} (hΓ : h_Γ E B T p s m args meth c cX3_moveOfAim 3 (some .int) RX3) (hf : fX3_moveOfAim T a0 p1 p2 u0 = some z) (hw : h_W E B T s.heap u0 s.heap []) (hl : lv_has ls 3 [(0, .ref (B + a0)), (1, .int p1), (2, .int p2)]) : W p l e (h_rm 2) s m args below meth c s.heap [] 0 0 (h_Qi below E B T args s z) (F0 m 0 ls []) := by
  obtain ⟨hx, hb, hr, hml, hts, hown, hlk, hX⟩ := id hΓ
  unfold fX3_moveOfAim at hf
  refine lv_aload_n hx hb dX3_moveOfAim_0 rfl (lv_at hl 0 rfl) ?_
  refine lv_iload_n hx hb dX3_moveOfAim_1 rfl (lv_at hl 2 rfl) ?_
  refine h_cVi (As := [.int p2]) (rest := []) hf hx hb hml hts hown hX hw myX3_isPastMemory miX3_isPastMemory lkX3_68 ⟨rfl, by decide⟩ (fun q hq => c_X3_isPastMemory l E B T a0 p2 u0 hq) ⟨Nat.le_of_ble_eq_true rfl, Nat.le_of_ble_eq_true rfl⟩ ⟨Nat.le_refl _, Nat.le_refl _⟩ rfl hl.1 rfl (Nat.le_of_ble_eq_true rfl) dX3_moveOfAim_2 (fun q1 H1 L1 hf hw => ?_)
  refine lv_if_eq (tgt := 10) hx hb dX3_moveOfAim_5 (by decide) (fun hc => ?_) (fun hc => ?_)
  · have hf := ifp hc hf
    refine lv_aload_n hx hb dX3_moveOfAim_10 rfl (lv_at hl 0 rfl) ?_
    refine lv_iload_n hx hb dX3_moveOfAim_11 rfl (lv_at hl 1 rfl) ?_
    refine h_cVi (As := [.int p1]) (rest := []) hf hx hb hml hts hown hX hw myX3_hears miX3_hears lkX3_72 ⟨rfl, by decide⟩ (fun q hq => c_X3_hears l E B T a0 p1 q1.2 hq) ⟨Nat.le_of_ble_eq_true rfl, Nat.le_of_ble_eq_true rfl⟩ ⟨Nat.le_refl _, Nat.le_refl _⟩ rfl hl.1 rfl (Nat.le_of_ble_eq_true rfl) dX3_moveOfAim_12 (fun q2 H2 L2 hf hw => ?_)
    refine h_ite (ls := ls) (jj := 23) (rest := []) hf (fun k1 k2 => ?_) (fun x3 hf => ?_)
    · refine lv_if_eq (tgt := 22) hx hb dX3_moveOfAim_15 (by decide) (fun hc => ?_) (fun hc => ?_)
      · refine lv_iconst (v := 0) hx hb dX3_moveOfAim_22 (by decide) ?_
        exact k1 hc
      · refine lv_iload_n hx hb dX3_moveOfAim_18 rfl (lv_at hl 1 rfl) ?_
        refine lv_goto (tgt := 23) hx hb dX3_moveOfAim_19 (by decide) ?_
        exact k2 hc
    · refine lv_aload_n hx hb dX3_moveOfAim_23 rfl (lv_at hl 0 rfl) ?_
      refine h_cVi (As := []) (rest := [.int x3]) hf hx hb hml hts hown hX hw myX3_driftSung miX3_driftSung lkX3_75 ⟨rfl, by decide⟩ (fun q hq => c_X3_driftSung l E B T a0 q2.2 hq) ⟨Nat.le_of_ble_eq_true rfl, Nat.le_of_ble_eq_true rfl⟩ ⟨Nat.le_refl _, Nat.le_refl _⟩ rfl hl.1 rfl (Nat.le_of_ble_eq_true rfl) dX3_moveOfAim_24 (fun q4 H4 L4 hf hw => ?_)
      refine lv_iadd hx hb dX3_moveOfAim_27 ?_
      exact h_iret hf hx hb hr hlk hw dX3_moveOfAim_28
  · have hf := ifn hc hf
    refine lv_iconst (v := 0) hx hb dX3_moveOfAim_8 (by decide) ?_
    exact h_iret hf hx hb hr hlk hw dX3_moveOfAim_9
theorem c_X3_moveOfAim (l : Launch) (E : hE) (B : Nat) (T : hT) (a0 : Nat) (p1 : Int32) (p2 : Int32) (u0 : hM) {z : Int32 × hM} (hf : fX3_moveOfAim T a0 p1 p2 u0 = some z) : h_Ct l E B T yX3_moveOfAim cX3_moveOfAim 3 (some .int) 2 [.ref (B + a0), .int p1, .int p2] u0 z.2 (some (.int z.1)) := h_ofW (by decide) (Nat.le_of_ble_eq_true rfl) (fun p e s m below meth c ls hΓ hl hw => wX3_moveOfAim hΓ hf hw hl)
def fX3_leanSung (T : hT) (a0 : Nat) (u0 : hM) : Option (Int32 × hM) := (gti T u0 a0 3 0).bind fun x1 => if x1 = (1 : Int32) then (some ((0 : Int32), u0)) else ((gti T u0 a0 3 2).bind fun x2 => some (x2, u0))
set_option maxRecDepth 100000 in
set_option maxHeartbeats 4000000 in
theorem wX3_leanSung {a0 : Nat} {u0 : hM} {z : Int32 × hM} {ls : Array Slot} (hΓ : h_Γ E B T p s m args meth c cX3_leanSung 1 (some .int) RX3) (hf : fX3_leanSung T a0 u0 = some z) (hw : h_W E B T s.heap u0 s.heap []) (hl : lv_has ls 1 [(0, .ref (B + a0))]) : W p l e (h_rm 0) s m args below meth c s.heap [] 0 0 (h_Qi below E B T args s z) (F0 m 0 ls []) := by
  obtain ⟨hx, hb, hr, hml, hts, hown, hlk, hX⟩ := id hΓ
  unfold fX3_leanSung at hf
  refine lv_aload_n hx hb dX3_leanSung_0 rfl (lv_at hl 0 rfl) ?_
  refine h_geti hf hx hb hts hown hX hw flX3_9 rfl dX3_leanSung_1 (fun x1 hf => ?_)
  refine lv_iconst (v := 1) hx hb dX3_leanSung_4 (by decide) ?_
  refine lv_icmp_ne (tgt := 12) hx hb dX3_leanSung_5 (by decide) (fun hc => ?_) (fun hc => ?_)
  · have hf := ifn hc hf
    refine lv_aload_n hx hb dX3_leanSung_12 rfl (lv_at hl 0 rfl) ?_
    refine h_geti hf hx hb hts hown hX hw flX3_18 rfl dX3_leanSung_13 (fun x2 hf => ?_)
    exact h_iret hf hx hb hr hlk hw dX3_leanSung_16
  · have hf := ifp hc hf
    refine lv_iconst (v := 0) hx hb dX3_leanSung_8 (by decide) ?_
    refine lv_goto (tgt := 16) hx hb dX3_leanSung_9 (by decide) ?_
    exact h_iret hf hx hb hr hlk hw dX3_leanSung_16
theorem c_X3_leanSung (l : Launch) (E : hE) (B : Nat) (T : hT) (a0 : Nat) (u0 : hM) {z : Int32 × hM} (hf : fX3_leanSung T a0 u0 = some z) : h_Ct l E B T yX3_leanSung cX3_leanSung 1 (some .int) 0 [.ref (B + a0)] u0 z.2 (some (.int z.1)) := h_ofW (by decide) (Nat.le_of_ble_eq_true rfl) (fun p e s m below meth c ls hΓ hl hw => wX3_leanSung hΓ hf hw hl)
def fX8_waver (T : hT) (a0 : Nat) (r1 : Nat) (p2 : Int32) (p3 : Int32) (u0 : hM) : Option (Int32 × hM) := (gti T u0 r1 3 0).bind fun x1 => if x1 = (1 : Int32) then (some ((0 : Int32), u0)) else (if p3 = (3 : Int32) then (if (p2 - p2 / (2 : Int32) * (2 : Int32)) = 0 then ((gti T u0 r1 3 3).bind fun x7 => some (x7, u0)) else ((gti T u0 r1 3 3).bind fun x6 => some ((-x6), u0))) else ((gtr T u0 a0 8 6).bind fun a2 => (gti T u0 r1 3 3).bind fun x3 => (vc T a2 5 (fX5_draw T a2 (((2 : Int32) * x3) + (1 : Int32)) u0)).bind fun q4 => (gti T q4.2 r1 3 3).bind fun x5 => some ((q4.1 - x5), q4.2)))
set_option maxRecDepth 100000 in
set_option maxHeartbeats 4000000 in
theorem wX8_waver {a0 : Nat} {r1 : Nat} {p2 : Int32} {p3 : Int32} {u0 : hM} {z : Int32 × hM} {ls : Array Slot} (hΓ : h_Γ E B T p s m args meth c cX8_waver 4 (some .int) RX8) (hf : fX8_waver T a0 r1 p2 p3 u0 = some z) (hw : h_W E B T s.heap u0 s.heap []) (hl : lv_has ls 4 [(0, .ref (B + a0)), (1, .ref (B + r1)), (2, .int p2), (3, .int p3)]) : W p l e (h_rm 1) s m args below meth c s.heap [] 0 0 (h_Qi below E B T args s z) (F0 m 0 ls []) := by
  obtain ⟨hx, hb, hr, hml, hts, hown, hlk, hX⟩ := id hΓ
  unfold fX8_waver at hf
  refine lv_aload_n hx hb dX8_waver_0 rfl (lv_at hl 1 rfl) ?_
  refine h_geti hf hx hb hts hown hX hw flX8_169 rfl dX8_waver_1 (fun x1 hf => ?_)
  refine lv_iconst (v := 1) hx hb dX8_waver_4 (by decide) ?_
  refine lv_icmp_ne (tgt := 10) hx hb dX8_waver_5 (by decide) (fun hc => ?_) (fun hc => ?_)
  · have hf := ifn hc hf
    refine lv_iload_n hx hb dX8_waver_10 rfl (lv_at hl 3 rfl) ?_
    refine lv_iconst (v := 3) hx hb dX8_waver_11 (by decide) ?_
    refine lv_icmp_ne (tgt := 34) hx hb dX8_waver_12 (by decide) (fun hc => ?_) (fun hc => ?_)
    · have hf := ifn hc hf
      refine lv_aload_n hx hb dX8_waver_34 rfl (lv_at hl 0 rfl) ?_
      refine h_getr hf hx hb hts hown hX hw flX8_47 rfl dX8_waver_35 (fun a2 hf => ?_)
      refine lv_iconst (v := 2) hx hb dX8_waver_38 (by decide) ?_
      refine lv_aload_n hx hb dX8_waver_39 rfl (lv_at hl 1 rfl) ?_
      refine h_geti hf hx hb hts hown hX hw flX8_178 rfl dX8_waver_40 (fun x3 hf => ?_)
      refine lv_imul hx hb dX8_waver_43 ?_
      refine lv_iconst (v := 1) hx hb dX8_waver_44 (by decide) ?_
      refine lv_iadd hx hb dX8_waver_45 ?_
      refine h_cVi (As := [.int (((2 : Int32) * x3) + (1 : Int32))]) (rest := []) hf hx hb hml hts hown hX hw myX5_draw miX5_draw lkX8_369 ⟨rfl, by decide⟩ (fun q hq => c_X5_draw l E B T a2 (((2 : Int32) * x3) + (1 : Int32)) u0 hq) ⟨Nat.le_of_ble_eq_true rfl, Nat.le_of_ble_eq_true rfl⟩ ⟨Nat.le_refl _, Nat.le_refl _⟩ rfl hl.1 rfl (Nat.le_of_ble_eq_true rfl) dX8_waver_46 (fun q4 H4 L4 hf hw => ?_)
      refine lv_aload_n hx hb dX8_waver_49 rfl (lv_at hl 1 rfl) ?_
      refine h_geti hf hx hb hts hown hX hw flX8_178 rfl dX8_waver_50 (fun x5 hf => ?_)
      refine lv_isub hx hb dX8_waver_53 ?_
      exact h_iret hf hx hb hr hlk hw dX8_waver_54
    · have hf := ifp hc hf
      refine lv_iload_n hx hb dX8_waver_15 rfl (lv_at hl 2 rfl) ?_
      refine lv_iconst (v := 2) hx hb dX8_waver_16 (by decide) ?_
      refine lv_irem hx hb dX8_waver_17 (by decide) ?_
      refine lv_if_ne (tgt := 28) hx hb dX8_waver_18 (by decide) (fun hc => ?_) (fun hc => ?_)
      · have hf := ifn hc hf
        refine lv_aload_n hx hb dX8_waver_28 rfl (lv_at hl 1 rfl) ?_
        refine h_geti hf hx hb hts hown hX hw flX8_178 rfl dX8_waver_29 (fun x6 hf => ?_)
        refine lv_ineg hx hb dX8_waver_32 ?_
        exact h_iret hf hx hb hr hlk hw dX8_waver_33
      · have hf := ifp hc hf
        refine lv_aload_n hx hb dX8_waver_21 rfl (lv_at hl 1 rfl) ?_
        refine h_geti hf hx hb hts hown hX hw flX8_178 rfl dX8_waver_22 (fun x7 hf => ?_)
        refine lv_goto (tgt := 33) hx hb dX8_waver_25 (by decide) ?_
        exact h_iret hf hx hb hr hlk hw dX8_waver_33
  · have hf := ifp hc hf
    refine lv_iconst (v := 0) hx hb dX8_waver_8 (by decide) ?_
    exact h_iret hf hx hb hr hlk hw dX8_waver_9
theorem c_X8_waver (l : Launch) (E : hE) (B : Nat) (T : hT) (a0 : Nat) (r1 : Nat) (p2 : Int32) (p3 : Int32) (u0 : hM) {z : Int32 × hM} (hf : fX8_waver T a0 r1 p2 p3 u0 = some z) : h_Ct l E B T yX8_waver cX8_waver 4 (some .int) 1 [.ref (B + a0), .ref (B + r1), .int p2, .int p3] u0 z.2 (some (.int z.1)) := h_ofW (by decide) (Nat.le_of_ble_eq_true rfl) (fun p e s m below meth c ls hΓ hl hw => wX8_waver hΓ hf hw hl)
def fX3_highSung (T : hT) (a0 : Nat) (u0 : hM) : Option (Int32 × hM) := (gti T u0 a0 3 0).bind fun x1 => if x1 = (3 : Int32) then ((gti T u0 a0 3 6).bind fun x3 => (gti T u0 a0 3 5).bind fun x4 => some ((if (x4 + (5 : Int32)) < x3 then (x4 + (5 : Int32)) else x3), u0)) else ((gti T u0 a0 3 6).bind fun x2 => some (x2, u0))
set_option maxRecDepth 100000 in
set_option maxHeartbeats 4000000 in
theorem wX3_highSung {a0 : Nat} {u0 : hM} {z : Int32 × hM} {ls : Array Slot} (hΓ : h_Γ E B T p s m args meth c cX3_highSung 1 (some .int) RX3) (hf : fX3_highSung T a0 u0 = some z) (hw : h_W E B T s.heap u0 s.heap []) (hl : lv_has ls 1 [(0, .ref (B + a0))]) : W p l e (h_rm 1) s m args below meth c s.heap [] 0 0 (h_Qi below E B T args s z) (F0 m 0 ls []) := by
  obtain ⟨hx, hb, hr, hml, hts, hown, hlk, hX⟩ := id hΓ
  unfold fX3_highSung at hf
  refine lv_aload_n hx hb dX3_highSung_0 rfl (lv_at hl 0 rfl) ?_
  refine h_geti hf hx hb hts hown hX hw flX3_9 rfl dX3_highSung_1 (fun x1 hf => ?_)
  refine lv_iconst (v := 3) hx hb dX3_highSung_4 (by decide) ?_
  refine lv_icmp_ne (tgt := 24) hx hb dX3_highSung_5 (by decide) (fun hc => ?_) (fun hc => ?_)
  · have hf := ifn hc hf
    refine lv_aload_n hx hb dX3_highSung_24 rfl (lv_at hl 0 rfl) ?_
    refine h_geti hf hx hb hts hown hX hw flX3_30 rfl dX3_highSung_25 (fun x2 hf => ?_)
    exact h_iret hf hx hb hr hlk hw dX3_highSung_28
  · have hf := ifp hc hf
    refine lv_aload_n hx hb dX3_highSung_8 rfl (lv_at hl 0 rfl) ?_
    refine h_geti hf hx hb hts hown hX hw flX3_30 rfl dX3_highSung_9 (fun x3 hf => ?_)
    refine lv_aload_n hx hb dX3_highSung_12 rfl (lv_at hl 0 rfl) ?_
    refine h_geti hf hx hb hts hown hX hw flX3_27 rfl dX3_highSung_13 (fun x4 hf => ?_)
    refine lv_iconst (v := 5) hx hb dX3_highSung_16 (by decide) ?_
    refine lv_iadd hx hb dX3_highSung_17 ?_
    refine h_mmin (rest := []) hx hb hml hl.1 hts hown lkX3_61 ⟨Nat.le_of_ble_eq_true rfl, Nat.le_of_ble_eq_true rfl⟩ ⟨Nat.le_refl _, Nat.le_refl _⟩ dX3_highSung_18 ?_
    refine lv_goto (tgt := 28) hx hb dX3_highSung_21 (by decide) ?_
    exact h_iret hf hx hb hr hlk hw dX3_highSung_28
theorem c_X3_highSung (l : Launch) (E : hE) (B : Nat) (T : hT) (a0 : Nat) (u0 : hM) {z : Int32 × hM} (hf : fX3_highSung T a0 u0 = some z) : h_Ct l E B T yX3_highSung cX3_highSung 1 (some .int) 1 [.ref (B + a0)] u0 z.2 (some (.int z.1)) := h_ofW (by decide) (Nat.le_of_ble_eq_true rfl) (fun p e s m below meth c ls hΓ hl hw => wX3_highSung hΓ hf hw hl)
def fX3_heldToRange (T : hT) (a0 : Nat) (p1 : Int32) (u0 : hM) : Option (Int32 × hM) := (gti T u0 a0 3 5).bind fun x1 => (vc T a0 3 (fX3_highSung T a0 u0)).bind fun q2 => some ((if ((100 : Int32) * x1) < (if p1 < ((100 : Int32) * q2.1) then p1 else ((100 : Int32) * q2.1)) then (if p1 < ((100 : Int32) * q2.1) then p1 else ((100 : Int32) * q2.1)) else ((100 : Int32) * x1)), q2.2)
set_option maxRecDepth 100000 in
set_option maxHeartbeats 4000000 in
theorem wX3_heldToRange {a0 : Nat} {p1 : Int32} {u0 : hM} {z : Int32 × hM} {ls : Array Slot} (hΓ : h_Γ E B T p s m args meth c cX3_heldToRange 2 (some .int) RX3) (hf : fX3_heldToRange T a0 p1 u0 = some z) (hw : h_W E B T s.heap u0 s.heap []) (hl : lv_has ls 2 [(0, .ref (B + a0)), (1, .int p1)]) : W p l e (h_rm 2) s m args below meth c s.heap [] 0 0 (h_Qi below E B T args s z) (F0 m 0 ls []) := by
  obtain ⟨hx, hb, hr, hml, hts, hown, hlk, hX⟩ := id hΓ
  unfold fX3_heldToRange at hf
  refine lv_bipush (v := 100) hx hb dX3_heldToRange_0 (by decide) ?_
  refine lv_aload_n hx hb dX3_heldToRange_2 rfl (lv_at hl 0 rfl) ?_
  refine h_geti hf hx hb hts hown hX hw flX3_27 rfl dX3_heldToRange_3 (fun x1 hf => ?_)
  refine lv_imul hx hb dX3_heldToRange_6 ?_
  refine lv_bipush (v := 100) hx hb dX3_heldToRange_7 (by decide) ?_
  refine lv_aload_n hx hb dX3_heldToRange_9 rfl (lv_at hl 0 rfl) ?_
  refine h_cVi (As := []) (rest := [.int (100 : Int32), .int ((100 : Int32) * x1)]) hf hx hb hml hts hown hX hw myX3_highSung miX3_highSung lkX3_79 ⟨rfl, by decide⟩ (fun q hq => c_X3_highSung l E B T a0 u0 hq) ⟨Nat.le_of_ble_eq_true rfl, Nat.le_of_ble_eq_true rfl⟩ ⟨Nat.le_refl _, Nat.le_refl _⟩ rfl hl.1 rfl (Nat.le_of_ble_eq_true rfl) dX3_heldToRange_10 (fun q2 H2 L2 hf hw => ?_)
  refine lv_imul hx hb dX3_heldToRange_13 ?_
  refine lv_iload_n hx hb dX3_heldToRange_14 rfl (lv_at hl 1 rfl) ?_
  refine h_mmin (rest := [.int ((100 : Int32) * x1)]) hx hb hml hl.1 hts hown lkX3_61 ⟨Nat.le_of_ble_eq_true rfl, Nat.le_of_ble_eq_true rfl⟩ ⟨Nat.le_refl _, Nat.le_refl _⟩ dX3_heldToRange_15 ?_
  refine h_mmax (rest := []) hx hb hml hl.1 hts hown lkX3_56 ⟨Nat.le_of_ble_eq_true rfl, Nat.le_of_ble_eq_true rfl⟩ ⟨Nat.le_refl _, Nat.le_refl _⟩ dX3_heldToRange_18 ?_
  exact h_iret hf hx hb hr hlk hw dX3_heldToRange_21
theorem c_X3_heldToRange (l : Launch) (E : hE) (B : Nat) (T : hT) (a0 : Nat) (p1 : Int32) (u0 : hM) {z : Int32 × hM} (hf : fX3_heldToRange T a0 p1 u0 = some z) : h_Ct l E B T yX3_heldToRange cX3_heldToRange 2 (some .int) 2 [.ref (B + a0), .int p1] u0 z.2 (some (.int z.1)) := h_ofW (by decide) (Nat.le_of_ble_eq_true rfl) (fun p e s m below meth c ls hΓ hl hw => wX3_heldToRange hΓ hf hw hl)
def fX8_singInto_L65 (T : hT) (c0 : Nat) (c1 : Nat) (c2 : Nat) (c3 : Int32) (ex : hM → Option (hM)) : Nat → Int32 → Int32 → Int32 → hM → Option (hM)
  | 0, _, _, _, _ => none
  | n + 1, v4, v5, v6, u0 => (gtr T u0 c0 8 1).bind fun a13 => (gti T u0 a13 1 2).bind fun x14 => if x14 ≤ v6 then (ex u0) else ((gtr T u0 c0 8 1).bind fun a15 => (gtr T u0 a15 1 1).bind fun a16 => (ald 11 T u0 a16 v6).bind fun x17 => lt (fun (x18 : Int32) (u19 : hM) => lt (fun (x20 : Int32) (u21 : hM) => (gtr T u21 c1 4 0).bind fun a22 => (vc T c2 3 (fX3_leanSung T c2 u21)).bind fun q23 => (vc T c0 8 (fX8_waver T c0 c2 v6 c3 q23.2)).bind fun q24 => (vc T c2 3 (fX3_heldToRange T c2 ((x20 + q23.1) + q24.1) q24.2)).bind fun q25 => (asti T q25.2 a22 v6 q25.1).bind fun u26 => lt (x18 + (1 : Int32)) fun x27 => lt (v6 + (1 : Int32)) fun x28 => fX8_singInto_L65 T c0 c1 c2 c3 ex n x20 x27 x28 u26) fun J135 => if v6 = 0 then ((gtr T u19 c0 8 1).bind fun a32 => (gtr T u19 a32 1 0).bind fun a33 => (ald 11 T u19 a33 (0 : Int32)).bind fun x34 => (vc T c0 8 (fX8_startOff T c0 c3 u19)).bind fun q35 => J135 (x34 + q35.1) q35.2) else ((gtr T u19 c0 8 1).bind fun a29 => (vc T a29 1 (fX1_rise T a29 v6 u19)).bind fun q30 => (vc T c2 3 (fX3_moveOfAim T c2 q30.1 x18 q30.2)).bind fun q31 => J135 (v4 + q31.1) q31.2)) fun J94 => if x17 = (1 : Int32) then (J94 (0 : Int32) u0) else (J94 v5 u0))
def fX8_singInto (T : hT) (a0 : Nat) (r1 : Nat) (r2 : Nat) (p3 : Int32) (u0 : hM) : Option (hM) := (gtr T u0 a0 8 1).bind fun a1 => (gti T u0 a1 1 2).bind fun x2 => (pti T u0 r1 4 1 x2).bind fun u3 => (gti T u3 r2 3 0).bind fun x4 => lt (fun (u5 : hM) => (gtr T u5 r1 4 0).bind fun a6 => (gti T u5 r2 3 0).bind fun x7 => lt (fun (x8 : Int32) (u9 : hM) => (fJ7_fill_53178 T a6 x8 u9).bind fun q10 => some q10) fun J52 => if x7 = (7 : Int32) then (J52 (-1 : Int32) u5) else ((gti T u5 r2 3 5).bind fun x11 => J52 ((100 : Int32) * x11) u5)) fun J28 => if x4 = (7 : Int32) then (J28 u3) else ((gti T u3 r2 3 0).bind fun x12 => if x12 = (4 : Int32) then (J28 u3) else (fX8_singInto_L65 T a0 r1 r2 p3 (fun (u36 : hM) => some u36) 6000 (0 : Int32) (0 : Int32) (0 : Int32) u3))
set_option maxRecDepth 100000 in
set_option maxHeartbeats 4000000 in
theorem wfX8_singInto_L65 {c0 : Nat} {c1 : Nat} {c2 : Nat} {c3 : Int32} {ex : hM → Option (hM)} {z : hM} (hΓ : h_Γ E B T p s m args meth c cX8_singInto 7 none RX8) (hex : ∀ (u9 : hM) (H9 : Heap) (L9 : List Loc) (ls : Array Slot), ex u9 = some z → h_W E B T s.heap u9 H9 L9 → lv_has ls 7 [] → W p l e (h_rm 3) s m args below meth c H9 L9 0 0 (h_Qv below E B T args s z) (F0 m 173 ls [])) : ∀ (n : Nat) (v4 : Int32) (v5 : Int32) (v6 : Int32) (u0 : hM) (H0 : Heap) (L0 : List Loc) (ls : Array Slot), fX8_singInto_L65 T c0 c1 c2 c3 ex n v4 v5 v6 u0 = some z → h_W E B T s.heap u0 H0 L0 → lv_has ls 7 [(0, .ref (B + c0)), (1, .ref (B + c1)), (2, .ref (B + c2)), (3, .int c3), (4, .int v4), (5, .int v5), (6, .int v6)] → W p l e (h_rm 3) s m args below meth c H0 L0 0 0 (h_Qv below E B T args s z) (F0 m 65 ls []) := by
  obtain ⟨hx, hb, hr, hml, hts, hown, hlk, hX⟩ := id hΓ
  intro n
  induction n with
  | zero =>
    intro v4 v5 v6 u0 H0 L0 ls hf hw hl
    exact absurd (show (none : Option (hM)) = some z from hf) (fun h => by cases h)
  | succ n ih =>
    intro v4 v5 v6 u0 H0 L0 ls hf hw hl
    rw [fX8_singInto_L65] at hf
    refine lv_iload hx hb dX8_singInto_65 (lv_at hl 6 rfl) ?_
    refine lv_aload_n hx hb dX8_singInto_67 rfl (lv_at hl 0 rfl) ?_
    refine h_getr hf hx hb hts hown hX hw flX8_19 rfl dX8_singInto_68 (fun a13 hf => ?_)
    refine h_geti hf hx hb hts hown hX hw flX8_124 rfl dX8_singInto_71 (fun x14 hf => ?_)
    refine lv_icmp_ge (tgt := 173) hx hb dX8_singInto_74 (by decide) (fun hc => ?_) (fun hc => ?_)
    · have hf := ifp hc hf
      exact hex  u0 _ _ _ hf hw (lv_sub hl [] rfl)
    · have hf := ifn hc hf
      refine lv_aload_n hx hb dX8_singInto_77 rfl (lv_at hl 0 rfl) ?_
      refine h_getr hf hx hb hts hown hX hw flX8_19 rfl dX8_singInto_78 (fun a15 hf => ?_)
      refine h_getr hf hx hb hts hown hX hw flX8_162 rfl dX8_singInto_81 (fun a16 hf => ?_)
      refine lv_iload hx hb dX8_singInto_84 (lv_at hl 6 rfl) ?_
      refine h_iald hf hx hb hX hw dX8_singInto_86 (fun x17 hf => ?_)
      refine lv_iconst (v := 1) hx hb dX8_singInto_87 (by decide) ?_
      obtain ⟨J94, eJ94, hf⟩ := h_lt hf
      have hJ94 : ∀ (x18 : Int32) (u19 : hM) (H19 : Heap) (L19 : List Loc) (ls : Array Slot), J94 x18 u19 = some z → h_W E B T s.heap u19 H19 L19 → lv_has ls 7 [(0, .ref (B + c0)), (1, .ref (B + c1)), (2, .ref (B + c2)), (3, .int c3), (4, .int v4), (5, .int x18), (6, .int v6)] → W p l e (h_rm 3) s m args below meth c H19 L19 0 0 (h_Qv below E B T args s z) (F0 m 94 ls []) := by
        intro x18 u19 H19 L19 ls hf hw hl
        rw [eJ94] at hf
        refine lv_iload hx hb dX8_singInto_94 (lv_at hl 6 rfl) ?_
        obtain ⟨J135, eJ135, hf⟩ := h_lt hf
        have hJ135 : ∀ (x20 : Int32) (u21 : hM) (H21 : Heap) (L21 : List Loc) (ls : Array Slot), J135 x20 u21 = some z → h_W E B T s.heap u21 H21 L21 → lv_has ls 7 [(0, .ref (B + c0)), (1, .ref (B + c1)), (2, .ref (B + c2)), (3, .int c3), (5, .int x18), (6, .int v6)] → W p l e (h_rm 3) s m args below meth c H21 L21 0 0 (h_Qv below E B T args s z) (F0 m 135 ls [.int x20]) := by
          intro x20 u21 H21 L21 ls hf hw hl
          rw [eJ135] at hf
          refine lv_istore (lv' := [(4, .int x20), (0, .ref (B + c0)), (1, .ref (B + c1)), (2, .ref (B + c2)), (3, .int c3), (5, .int x18), (6, .int v6)]) hx hb dX8_singInto_135 hl (by decide) rfl (fun ls hl => ?_)
          refine lv_aload_n hx hb dX8_singInto_137 rfl (lv_at hl 2 rfl) ?_
          refine h_getr hf hx hb hts hown hX hw flX8_340 rfl dX8_singInto_138 (fun a22 hf => ?_)
          refine lv_iload hx hb dX8_singInto_141 (lv_at hl 6 rfl) ?_
          refine lv_aload_n hx hb dX8_singInto_143 rfl (lv_at hl 3 rfl) ?_
          refine lv_iload hx hb dX8_singInto_144 (lv_at hl 0 rfl) ?_
          refine lv_aload_n hx hb dX8_singInto_146 rfl (lv_at hl 3 rfl) ?_
          refine h_cVi (As := []) (rest := [.int x20, .ref (B + c2), .int v6, .ref (B + a22)]) hf hx hb hml hts hown hX hw myX3_leanSung miX3_leanSung lkX8_359 ⟨rfl, by decide⟩ (fun q hq => c_X3_leanSung l E B T c2 u21 hq) ⟨Nat.le_of_ble_eq_true rfl, Nat.le_of_ble_eq_true rfl⟩ ⟨Nat.le_refl _, Nat.le_refl _⟩ rfl hl.1 rfl (Nat.le_of_ble_eq_true rfl) dX8_singInto_147 (fun q23 H23 L23 hf hw => ?_)
          refine lv_iadd hx hb dX8_singInto_150 ?_
          refine lv_aload_n hx hb dX8_singInto_151 rfl (lv_at hl 1 rfl) ?_
          refine lv_aload_n hx hb dX8_singInto_152 rfl (lv_at hl 3 rfl) ?_
          refine lv_iload hx hb dX8_singInto_153 (lv_at hl 6 rfl) ?_
          refine lv_iload_n hx hb dX8_singInto_155 rfl (lv_at hl 4 rfl) ?_
          refine h_cVi (As := [.ref (B + c2), .int v6, .int c3]) (rest := [.int (x20 + q23.1), .ref (B + c2), .int v6, .ref (B + a22)]) hf hx hb hml hts hown hX hw myX8_waver miX8_waver lkX8_362 ⟨rfl, by decide⟩ (fun q hq => c_X8_waver l E B T c0 c2 v6 c3 q23.2 hq) ⟨Nat.le_of_ble_eq_true rfl, Nat.le_of_ble_eq_true rfl⟩ ⟨Nat.le_refl _, Nat.le_refl _⟩ rfl hl.1 rfl (Nat.le_of_ble_eq_true rfl) dX8_singInto_156 (fun q24 H24 L24 hf hw => ?_)
          refine lv_iadd hx hb dX8_singInto_159 ?_
          refine h_cVi (As := [.int ((x20 + q23.1) + q24.1)]) (rest := [.int v6, .ref (B + a22)]) hf hx hb hml hts hown hX hw myX3_heldToRange miX3_heldToRange lkX8_366 ⟨rfl, by decide⟩ (fun q hq => c_X3_heldToRange l E B T c2 ((x20 + q23.1) + q24.1) q24.2 hq) ⟨Nat.le_of_ble_eq_true rfl, Nat.le_of_ble_eq_true rfl⟩ ⟨Nat.le_refl _, Nat.le_refl _⟩ rfl hl.1 rfl (Nat.le_of_ble_eq_true rfl) dX8_singInto_160 (fun q25 H25 L25 hf hw => ?_)
          refine h_iast hf hx hb hX hw dX8_singInto_163 (fun u26 H26 L26 hf hw => ?_)
          refine h_iinc (k := 5) hf hx hb dX8_singInto_164 hl rfl (by decide) (by decide) (fun x27 ls hf hl => ?_)
          have hl : lv_has ls 7 [(5, .int x27), (4, .int x20), (0, .ref (B + c0)), (1, .ref (B + c1)), (2, .ref (B + c2)), (3, .int c3), (6, .int v6)] := hl
          refine h_iinc (k := 6) hf hx hb dX8_singInto_167 hl rfl (by decide) (by decide) (fun x28 ls hf hl => ?_)
          have hl : lv_has ls 7 [(6, .int x28), (5, .int x27), (4, .int x20), (0, .ref (B + c0)), (1, .ref (B + c1)), (2, .ref (B + c2)), (3, .int c3)] := hl
          refine lv_goto (tgt := 65) hx hb dX8_singInto_170 (by decide) ?_
          exact ih x20 x27 x28 u26 _ _ _ hf hw (lv_sub hl [3, 4, 5, 6, 2, 1, 0] rfl)
        clear eJ135
        refine lv_if_ne (tgt := 117) hx hb dX8_singInto_96 (by decide) (fun hc => ?_) (fun hc => ?_)
        · have hf := ifn hc hf
          refine lv_iload hx hb dX8_singInto_117 (lv_at hl 4 rfl) ?_
          refine lv_aload_n hx hb dX8_singInto_119 rfl (lv_at hl 2 rfl) ?_
          refine lv_aload_n hx hb dX8_singInto_120 rfl (lv_at hl 0 rfl) ?_
          refine h_getr hf hx hb hts hown hX hw flX8_19 rfl dX8_singInto_121 (fun a29 hf => ?_)
          refine lv_iload hx hb dX8_singInto_124 (lv_at hl 6 rfl) ?_
          refine h_cVi (As := [.int v6]) (rest := [.ref (B + c2), .int v4]) hf hx hb hml hts hown hX hw myX1_rise miX1_rise lkX8_352 ⟨rfl, by decide⟩ (fun q hq => c_X1_rise l E B T a29 v6 u19 hq) ⟨Nat.le_of_ble_eq_true rfl, Nat.le_of_ble_eq_true rfl⟩ ⟨Nat.le_refl _, Nat.le_refl _⟩ rfl hl.1 rfl (Nat.le_of_ble_eq_true rfl) dX8_singInto_126 (fun q30 H30 L30 hf hw => ?_)
          refine lv_iload hx hb dX8_singInto_129 (lv_at hl 5 rfl) ?_
          refine h_cVi (As := [.int q30.1, .int x18]) (rest := [.int v4]) hf hx hb hml hts hown hX hw myX3_moveOfAim miX3_moveOfAim lkX8_355 ⟨rfl, by decide⟩ (fun q hq => c_X3_moveOfAim l E B T c2 q30.1 x18 q30.2 hq) ⟨Nat.le_of_ble_eq_true rfl, Nat.le_of_ble_eq_true rfl⟩ ⟨Nat.le_refl _, Nat.le_refl _⟩ rfl hl.1 rfl (Nat.le_of_ble_eq_true rfl) dX8_singInto_131 (fun q31 H31 L31 hf hw => ?_)
          refine lv_iadd hx hb dX8_singInto_134 ?_
          exact hJ135 (v4 + q31.1) q31.2 _ _ _ hf hw (lv_sub hl [0, 1, 2, 3, 5, 6] rfl)
        · have hf := ifp hc hf
          refine lv_aload_n hx hb dX8_singInto_99 rfl (lv_at hl 0 rfl) ?_
          refine h_getr hf hx hb hts hown hX hw flX8_19 rfl dX8_singInto_100 (fun a32 hf => ?_)
          refine h_getr hf hx hb hts hown hX hw flX8_159 rfl dX8_singInto_103 (fun a33 hf => ?_)
          refine lv_iconst (v := 0) hx hb dX8_singInto_106 (by decide) ?_
          refine h_iald hf hx hb hX hw dX8_singInto_107 (fun x34 hf => ?_)
          refine lv_aload_n hx hb dX8_singInto_108 rfl (lv_at hl 0 rfl) ?_
          refine lv_iload_n hx hb dX8_singInto_109 rfl (lv_at hl 3 rfl) ?_
          refine h_cVi (As := [.int c3]) (rest := [.int x34]) hf hx hb hml hts hown hX hw myX8_startOff miX8_startOff lkX8_349 ⟨rfl, by decide⟩ (fun q hq => c_X8_startOff l E B T c0 c3 u19 hq) ⟨Nat.le_of_ble_eq_true rfl, Nat.le_of_ble_eq_true rfl⟩ ⟨Nat.le_refl _, Nat.le_refl _⟩ rfl hl.1 rfl (Nat.le_of_ble_eq_true rfl) dX8_singInto_110 (fun q35 H35 L35 hf hw => ?_)
          refine lv_iadd hx hb dX8_singInto_113 ?_
          refine lv_goto (tgt := 135) hx hb dX8_singInto_114 (by decide) ?_
          exact hJ135 (x34 + q35.1) q35.2 _ _ _ hf hw (lv_sub hl [0, 1, 2, 3, 5, 6] rfl)
      clear eJ94
      refine lv_icmp_ne (tgt := 94) hx hb dX8_singInto_88 (by decide) (fun hc => ?_) (fun hc => ?_)
      · have hf := ifn hc hf
        exact hJ94 v5 u0 _ _ _ hf hw (lv_sub hl [0, 1, 2, 3, 4, 5, 6] rfl)
      · have hf := ifp hc hf
        refine lv_iconst (v := 0) hx hb dX8_singInto_91 (by decide) ?_
        refine lv_istore (lv' := [(5, .int (0 : Int32)), (0, .ref (B + c0)), (1, .ref (B + c1)), (2, .ref (B + c2)), (3, .int c3), (4, .int v4), (6, .int v6)]) hx hb dX8_singInto_92 hl (by decide) rfl (fun ls hl => ?_)
        exact hJ94 (0 : Int32) u0 _ _ _ hf hw (lv_sub hl [1, 2, 3, 4, 5, 0, 6] rfl)
set_option maxRecDepth 100000 in
set_option maxHeartbeats 4000000 in
theorem wX8_singInto {a0 : Nat} {r1 : Nat} {r2 : Nat} {p3 : Int32} {u0 : hM} {z : hM} {ls : Array Slot} (hΓ : h_Γ E B T p s m args meth c cX8_singInto 7 none RX8) (hf : fX8_singInto T a0 r1 r2 p3 u0 = some z) (hw : h_W E B T s.heap u0 s.heap []) (hl : lv_has ls 7 [(0, .ref (B + a0)), (1, .ref (B + r1)), (2, .ref (B + r2)), (3, .int p3)]) : W p l e (h_rm 3) s m args below meth c s.heap [] 0 0 (h_Qv below E B T args s z) (F0 m 0 ls []) := by
  obtain ⟨hx, hb, hr, hml, hts, hown, hlk, hX⟩ := id hΓ
  unfold fX8_singInto at hf
  refine lv_aload_n hx hb dX8_singInto_0 rfl (lv_at hl 1 rfl) ?_
  refine lv_aload_n hx hb dX8_singInto_1 rfl (lv_at hl 0 rfl) ?_
  refine h_getr hf hx hb hts hown hX hw flX8_19 rfl dX8_singInto_2 (fun a1 hf => ?_)
  refine h_geti hf hx hb hts hown hX hw flX8_124 rfl dX8_singInto_5 (fun x2 hf => ?_)
  refine h_puti hf hx hb hts hown hX hw flX8_339 ⟨rfl, rfl⟩ dX8_singInto_8 (fun u3 H3 L3 hf hw => ?_)
  refine lv_aload_n hx hb dX8_singInto_11 rfl (lv_at hl 2 rfl) ?_
  refine h_geti hf hx hb hts hown hX hw flX8_169 rfl dX8_singInto_12 (fun x4 hf => ?_)
  refine lv_bipush (v := 7) hx hb dX8_singInto_15 (by decide) ?_
  obtain ⟨J28, eJ28, hf⟩ := h_lt hf
  have hJ28 : ∀ (u5 : hM) (H5 : Heap) (L5 : List Loc) (ls : Array Slot), J28  u5 = some z → h_W E B T s.heap u5 H5 L5 → lv_has ls 7 [(1, .ref (B + r1)), (2, .ref (B + r2))] → W p l e (h_rm 3) s m args below meth c H5 L5 0 0 (h_Qv below E B T args s z) (F0 m 28 ls []) := by
    intro  u5 H5 L5 ls hf hw hl
    rw [eJ28] at hf
    refine lv_aload_n hx hb dX8_singInto_28 rfl (lv_at hl 0 rfl) ?_
    refine h_getr hf hx hb hts hown hX hw flX8_340 rfl dX8_singInto_29 (fun a6 hf => ?_)
    refine lv_aload_n hx hb dX8_singInto_32 rfl (lv_at hl 1 rfl) ?_
    refine h_geti hf hx hb hts hown hX hw flX8_169 rfl dX8_singInto_33 (fun x7 hf => ?_)
    refine lv_bipush (v := 7) hx hb dX8_singInto_36 (by decide) ?_
    obtain ⟨J52, eJ52, hf⟩ := h_lt hf
    have hJ52 : ∀ (x8 : Int32) (u9 : hM) (H9 : Heap) (L9 : List Loc) (ls : Array Slot), J52 x8 u9 = some z → h_W E B T s.heap u9 H9 L9 → lv_has ls 7 [] → W p l e (h_rm 3) s m args below meth c H9 L9 0 0 (h_Qv below E B T args s z) (F0 m 52 ls [.int x8, .ref (B + a6)]) := by
      intro x8 u9 H9 L9 ls hf hw hl
      rw [eJ52] at hf
      refine h_cSv (As := [.ref (B + a6), .int x8]) (rest := []) hf hx hb hml hts hown hX hw myJ7_fill_53178 msJ7_fill_53178 lkX8_343 (fun q hq => c_J7_fill_53178 l E B T a6 x8 u9 hq) ⟨Nat.le_of_ble_eq_true rfl, Nat.le_of_ble_eq_true rfl⟩ ⟨Nat.le_refl _, Nat.le_refl _⟩ rfl hl.1 rfl (Nat.le_of_ble_eq_true rfl) dX8_singInto_52 (fun q10 H10 L10 hf hw => ?_)
      exact h_vret hf hx hb hr hlk hw dX8_singInto_55
    clear eJ52
    refine lv_icmp_ne (tgt := 45) hx hb dX8_singInto_38 (by decide) (fun hc => ?_) (fun hc => ?_)
    · have hf := ifn hc hf
      refine lv_bipush (v := 100) hx hb dX8_singInto_45 (by decide) ?_
      refine lv_aload_n hx hb dX8_singInto_47 rfl (lv_at hl 1 rfl) ?_
      refine h_geti hf hx hb hts hown hX hw flX8_184 rfl dX8_singInto_48 (fun x11 hf => ?_)
      refine lv_imul hx hb dX8_singInto_51 ?_
      exact hJ52 ((100 : Int32) * x11) u5 _ _ _ hf hw (lv_sub hl [] rfl)
    · have hf := ifp hc hf
      refine lv_iconst (v := -1) hx hb dX8_singInto_41 (by decide) ?_
      refine lv_goto (tgt := 52) hx hb dX8_singInto_42 (by decide) ?_
      exact hJ52 (-1 : Int32) u5 _ _ _ hf hw (lv_sub hl [] rfl)
  clear eJ28
  refine lv_icmp_eq (tgt := 28) hx hb dX8_singInto_17 (by decide) (fun hc => ?_) (fun hc => ?_)
  · have hf := ifp hc hf
    exact hJ28  u3 _ _ _ hf hw (lv_sub hl [1, 2] rfl)
  · have hf := ifn hc hf
    refine lv_aload_n hx hb dX8_singInto_20 rfl (lv_at hl 2 rfl) ?_
    refine h_geti hf hx hb hts hown hX hw flX8_169 rfl dX8_singInto_21 (fun x12 hf => ?_)
    refine lv_iconst (v := 4) hx hb dX8_singInto_24 (by decide) ?_
    refine lv_icmp_ne (tgt := 56) hx hb dX8_singInto_25 (by decide) (fun hc => ?_) (fun hc => ?_)
    · have hf := ifn hc hf
      refine lv_iconst (v := 0) hx hb dX8_singInto_56 (by decide) ?_
      refine lv_istore (lv' := [(4, .int (0 : Int32)), (0, .ref (B + a0)), (1, .ref (B + r1)), (2, .ref (B + r2)), (3, .int p3)]) hx hb dX8_singInto_57 hl (by decide) rfl (fun ls hl => ?_)
      refine lv_iconst (v := 0) hx hb dX8_singInto_59 (by decide) ?_
      refine lv_istore (lv' := [(5, .int (0 : Int32)), (4, .int (0 : Int32)), (0, .ref (B + a0)), (1, .ref (B + r1)), (2, .ref (B + r2)), (3, .int p3)]) hx hb dX8_singInto_60 hl (by decide) rfl (fun ls hl => ?_)
      refine lv_iconst (v := 0) hx hb dX8_singInto_62 (by decide) ?_
      refine lv_istore (lv' := [(6, .int (0 : Int32)), (5, .int (0 : Int32)), (4, .int (0 : Int32)), (0, .ref (B + a0)), (1, .ref (B + r1)), (2, .ref (B + r2)), (3, .int p3)]) hx hb dX8_singInto_63 hl (by decide) rfl (fun ls hl => ?_)
      refine wfX8_singInto_L65 hΓ ?_ 6000 (0 : Int32) (0 : Int32) (0 : Int32) u3 _ _ _ hf hw (lv_sub hl [3, 4, 5, 6, 2, 1, 0] rfl)
      intro u36 H36 L36 ls hf hw hl
      exact h_vret hf hx hb hr hlk hw dX8_singInto_173
    · have hf := ifp hc hf
      exact hJ28  u3 _ _ _ hf hw (lv_sub hl [1, 2] rfl)
theorem c_X8_singInto (l : Launch) (E : hE) (B : Nat) (T : hT) (a0 : Nat) (r1 : Nat) (r2 : Nat) (p3 : Int32) (u0 : hM) {z : hM} (hf : fX8_singInto T a0 r1 r2 p3 u0 = some z) : h_Ct l E B T yX8_singInto cX8_singInto 7 none 3 [.ref (B + a0), .ref (B + r1), .ref (B + r2), .int p3] u0 z none := h_ofW (by decide) (Nat.le_of_ble_eq_true rfl) (fun p e s m below meth c ls hΓ hl hw => wX8_singInto hΓ hf hw hl)
def fX4_heightAt (T : hT) (a0 : Nat) (p1 : Int32) (u0 : hM) : Option (Int32 × hM) := (gti T u0 a0 4 1).bind fun x1 => (fX8_isWithin T p1 (0 : Int32) (x1 - (1 : Int32)) u0).bind fun q2 => if q2.1 = 0 then (some ((-1 : Int32), q2.2)) else ((gtr T q2.2 a0 4 0).bind fun a3 => (ald 11 T q2.2 a3 p1).bind fun x4 => some (x4, q2.2))
set_option maxRecDepth 100000 in
set_option maxHeartbeats 4000000 in
theorem wX4_heightAt {a0 : Nat} {p1 : Int32} {u0 : hM} {z : Int32 × hM} {ls : Array Slot} (hΓ : h_Γ E B T p s m args meth c cX4_heightAt 2 (some .int) RX4) (hf : fX4_heightAt T a0 p1 u0 = some z) (hw : h_W E B T s.heap u0 s.heap []) (hl : lv_has ls 2 [(0, .ref (B + a0)), (1, .int p1)]) : W p l e (h_rm 1) s m args below meth c s.heap [] 0 0 (h_Qi below E B T args s z) (F0 m 0 ls []) := by
  obtain ⟨hx, hb, hr, hml, hts, hown, hlk, hX⟩ := id hΓ
  unfold fX4_heightAt at hf
  refine lv_iload_n hx hb dX4_heightAt_0 rfl (lv_at hl 1 rfl) ?_
  refine lv_iconst (v := 0) hx hb dX4_heightAt_1 (by decide) ?_
  refine lv_aload_n hx hb dX4_heightAt_2 rfl (lv_at hl 0 rfl) ?_
  refine h_geti hf hx hb hts hown hX hw flX4_15 rfl dX4_heightAt_3 (fun x1 hf => ?_)
  refine lv_iconst (v := 1) hx hb dX4_heightAt_6 (by decide) ?_
  refine lv_isub hx hb dX4_heightAt_7 ?_
  refine h_cNi (As := [.int p1, .int (0 : Int32), .int (x1 - (1 : Int32))]) (rest := []) hf hx hb hml hts hown hX hw myX8_isWithin msX8_isWithin nkX4_28 (fun q hq => c_X8_isWithin l E B T p1 (0 : Int32) (x1 - (1 : Int32)) u0 hq) ⟨Nat.le_of_ble_eq_true rfl, Nat.le_of_ble_eq_true rfl⟩ ⟨Nat.le_refl _, Nat.le_refl _⟩ rfl hl.1 rfl (Nat.le_of_ble_eq_true rfl) dX4_heightAt_8 (fun q2 H2 L2 hf hw => ?_)
  refine lv_if_eq (tgt := 23) hx hb dX4_heightAt_11 (by decide) (fun hc => ?_) (fun hc => ?_)
  · have hf := ifp hc hf
    refine lv_iconst (v := -1) hx hb dX4_heightAt_23 (by decide) ?_
    exact h_iret hf hx hb hr hlk hw dX4_heightAt_24
  · have hf := ifn hc hf
    refine lv_aload_n hx hb dX4_heightAt_14 rfl (lv_at hl 0 rfl) ?_
    refine h_getr hf hx hb hts hown hX hw flX4_9 rfl dX4_heightAt_15 (fun a3 hf => ?_)
    refine lv_iload_n hx hb dX4_heightAt_18 rfl (lv_at hl 1 rfl) ?_
    refine h_iald hf hx hb hX hw dX4_heightAt_19 (fun x4 hf => ?_)
    refine lv_goto (tgt := 24) hx hb dX4_heightAt_20 (by decide) ?_
    exact h_iret hf hx hb hr hlk hw dX4_heightAt_24
theorem c_X4_heightAt (l : Launch) (E : hE) (B : Nat) (T : hT) (a0 : Nat) (p1 : Int32) (u0 : hM) {z : Int32 × hM} (hf : fX4_heightAt T a0 p1 u0 = some z) : h_Ct l E B T yX4_heightAt cX4_heightAt 2 (some .int) 1 [.ref (B + a0), .int p1] u0 z.2 (some (.int z.1)) := h_ofW (by decide) (Nat.le_of_ble_eq_true rfl) (fun p e s m below meth c ls hΓ hl hw => wX4_heightAt hΓ hf hw hl)
def fX4_isHeard (T : hT) (a0 : Nat) (u0 : hM) : Option (Int32 × hM) := (vc T a0 4 (fX4_heightAt T a0 (0 : Int32) u0)).bind fun q1 => if q1.1 = (-1 : Int32) then (rtz (0 : Int32) q1.2) else (rtz (1 : Int32) q1.2)
set_option maxRecDepth 100000 in
set_option maxHeartbeats 4000000 in
theorem wX4_isHeard {a0 : Nat} {u0 : hM} {z : Int32 × hM} {ls : Array Slot} (hΓ : h_Γ E B T p s m args meth c cX4_isHeard 1 (some .boolean) RX4) (hf : fX4_isHeard T a0 u0 = some z) (hw : h_W E B T s.heap u0 s.heap []) (hl : lv_has ls 1 [(0, .ref (B + a0))]) : W p l e (h_rm 2) s m args below meth c s.heap [] 0 0 (h_Qi below E B T args s z) (F0 m 0 ls []) := by
  obtain ⟨hx, hb, hr, hml, hts, hown, hlk, hX⟩ := id hΓ
  unfold fX4_isHeard at hf
  refine lv_aload_n hx hb dX4_isHeard_0 rfl (lv_at hl 0 rfl) ?_
  refine lv_iconst (v := 0) hx hb dX4_isHeard_1 (by decide) ?_
  refine h_cVi (As := [.int (0 : Int32)]) (rest := []) hf hx hb hml hts hown hX hw myX4_heightAt miX4_heightAt lkX4_32 ⟨rfl, by decide⟩ (fun q hq => c_X4_heightAt l E B T a0 (0 : Int32) u0 hq) ⟨Nat.le_of_ble_eq_true rfl, Nat.le_of_ble_eq_true rfl⟩ ⟨Nat.le_refl _, Nat.le_refl _⟩ rfl hl.1 rfl (Nat.le_of_ble_eq_true rfl) dX4_isHeard_2 (fun q1 H1 L1 hf hw => ?_)
  refine lv_iconst (v := -1) hx hb dX4_isHeard_5 (by decide) ?_
  refine lv_icmp_eq (tgt := 13) hx hb dX4_isHeard_6 (by decide) (fun hc => ?_) (fun hc => ?_)
  · have hf := ifp hc hf
    refine lv_iconst (v := 0) hx hb dX4_isHeard_13 (by decide) ?_
    exact h_zret hf hx hb hr hlk hw dX4_isHeard_14
  · have hf := ifn hc hf
    refine lv_iconst (v := 1) hx hb dX4_isHeard_9 (by decide) ?_
    refine lv_goto (tgt := 14) hx hb dX4_isHeard_10 (by decide) ?_
    exact h_zret hf hx hb hr hlk hw dX4_isHeard_14
theorem c_X4_isHeard (l : Launch) (E : hE) (B : Nat) (T : hT) (a0 : Nat) (u0 : hM) {z : Int32 × hM} (hf : fX4_isHeard T a0 u0 = some z) : h_Ct l E B T yX4_isHeard cX4_isHeard 1 (some .boolean) 2 [.ref (B + a0)] u0 z.2 (some (.int z.1)) := h_ofW (by decide) (Nat.le_of_ble_eq_true rfl) (fun p e s m below meth c ls hΓ hl hw => wX4_isHeard hΓ hf hw hl)
def fX4_homeAt (T : hT) (a0 : Nat) (p1 : Int32) (r2 : Nat) (u0 : hM) : Option (Int32 × hM) := (gti T u0 a0 4 1).bind fun x1 => (fX8_isWithin T p1 (0 : Int32) (x1 - (1 : Int32)) u0).bind fun q2 => if q2.1 = 0 then (some ((0 : Int32), q2.2)) else ((gtr T q2.2 a0 4 0).bind fun a3 => (ald 11 T q2.2 a3 p1).bind fun x4 => (gtr T q2.2 r2 1 0).bind fun a5 => (ald 11 T q2.2 a5 p1).bind fun x6 => some ((x4 - x6), q2.2))
set_option maxRecDepth 100000 in
set_option maxHeartbeats 4000000 in
theorem wX4_homeAt {a0 : Nat} {p1 : Int32} {r2 : Nat} {u0 : hM} {z : Int32 × hM} {ls : Array Slot} (hΓ : h_Γ E B T p s m args meth c cX4_homeAt 3 (some .int) RX4) (hf : fX4_homeAt T a0 p1 r2 u0 = some z) (hw : h_W E B T s.heap u0 s.heap []) (hl : lv_has ls 3 [(0, .ref (B + a0)), (1, .int p1), (2, .ref (B + r2))]) : W p l e (h_rm 1) s m args below meth c s.heap [] 0 0 (h_Qi below E B T args s z) (F0 m 0 ls []) := by
  obtain ⟨hx, hb, hr, hml, hts, hown, hlk, hX⟩ := id hΓ
  unfold fX4_homeAt at hf
  refine lv_iload_n hx hb dX4_homeAt_0 rfl (lv_at hl 1 rfl) ?_
  refine lv_iconst (v := 0) hx hb dX4_homeAt_1 (by decide) ?_
  refine lv_aload_n hx hb dX4_homeAt_2 rfl (lv_at hl 0 rfl) ?_
  refine h_geti hf hx hb hts hown hX hw flX4_15 rfl dX4_homeAt_3 (fun x1 hf => ?_)
  refine lv_iconst (v := 1) hx hb dX4_homeAt_6 (by decide) ?_
  refine lv_isub hx hb dX4_homeAt_7 ?_
  refine h_cNi (As := [.int p1, .int (0 : Int32), .int (x1 - (1 : Int32))]) (rest := []) hf hx hb hml hts hown hX hw myX8_isWithin msX8_isWithin nkX4_28 (fun q hq => c_X8_isWithin l E B T p1 (0 : Int32) (x1 - (1 : Int32)) u0 hq) ⟨Nat.le_of_ble_eq_true rfl, Nat.le_of_ble_eq_true rfl⟩ ⟨Nat.le_refl _, Nat.le_refl _⟩ rfl hl.1 rfl (Nat.le_of_ble_eq_true rfl) dX4_homeAt_8 (fun q2 H2 L2 hf hw => ?_)
  refine lv_if_eq (tgt := 30) hx hb dX4_homeAt_11 (by decide) (fun hc => ?_) (fun hc => ?_)
  · have hf := ifp hc hf
    refine lv_iconst (v := 0) hx hb dX4_homeAt_30 (by decide) ?_
    exact h_iret hf hx hb hr hlk hw dX4_homeAt_31
  · have hf := ifn hc hf
    refine lv_aload_n hx hb dX4_homeAt_14 rfl (lv_at hl 0 rfl) ?_
    refine h_getr hf hx hb hts hown hX hw flX4_9 rfl dX4_homeAt_15 (fun a3 hf => ?_)
    refine lv_iload_n hx hb dX4_homeAt_18 rfl (lv_at hl 1 rfl) ?_
    refine h_iald hf hx hb hX hw dX4_homeAt_19 (fun x4 hf => ?_)
    refine lv_aload_n hx hb dX4_homeAt_20 rfl (lv_at hl 2 rfl) ?_
    refine h_getr hf hx hb hts hown hX hw flX4_36 rfl dX4_homeAt_21 (fun a5 hf => ?_)
    refine lv_iload_n hx hb dX4_homeAt_24 rfl (lv_at hl 1 rfl) ?_
    refine h_iald hf hx hb hX hw dX4_homeAt_25 (fun x6 hf => ?_)
    refine lv_isub hx hb dX4_homeAt_26 ?_
    refine lv_goto (tgt := 31) hx hb dX4_homeAt_27 (by decide) ?_
    exact h_iret hf hx hb hr hlk hw dX4_homeAt_31
theorem c_X4_homeAt (l : Launch) (E : hE) (B : Nat) (T : hT) (a0 : Nat) (p1 : Int32) (r2 : Nat) (u0 : hM) {z : Int32 × hM} (hf : fX4_homeAt T a0 p1 r2 u0 = some z) : h_Ct l E B T yX4_homeAt cX4_homeAt 3 (some .int) 1 [.ref (B + a0), .int p1, .ref (B + r2)] u0 z.2 (some (.int z.1)) := h_ofW (by decide) (Nat.le_of_ble_eq_true rfl) (fun p e s m below meth c ls hΓ hl hw => wX4_homeAt hΓ hf hw hl)
def fX8_isNear (T : hT) (p0 : Int32) (u0 : hM) : Option (Int32 × hM) := (fX8_isWithin T p0 (-50 : Int32) (50 : Int32) u0).bind fun q1 => rtz q1.1 q1.2
set_option maxRecDepth 100000 in
set_option maxHeartbeats 4000000 in
theorem wX8_isNear {p0 : Int32} {u0 : hM} {z : Int32 × hM} {ls : Array Slot} (hΓ : h_Γ E B T p s m args meth c cX8_isNear 1 (some .boolean) RX8) (hf : fX8_isNear T p0 u0 = some z) (hw : h_W E B T s.heap u0 s.heap []) (hl : lv_has ls 1 [(0, .int p0)]) : W p l e (h_rm 1) s m args below meth c s.heap [] 0 0 (h_Qi below E B T args s z) (F0 m 0 ls []) := by
  obtain ⟨hx, hb, hr, hml, hts, hown, hlk, hX⟩ := id hΓ
  unfold fX8_isNear at hf
  refine lv_iload_n hx hb dX8_isNear_0 rfl (lv_at hl 0 rfl) ?_
  refine lv_bipush (v := -50) hx hb dX8_isNear_1 (by decide) ?_
  refine lv_bipush (v := 50) hx hb dX8_isNear_3 (by decide) ?_
  refine h_cSi (As := [.int p0, .int (-50 : Int32), .int (50 : Int32)]) (rest := []) hf hx hb hml hts hown hX hw myX8_isWithin msX8_isWithin lkX8_91 (fun q hq => c_X8_isWithin l E B T p0 (-50 : Int32) (50 : Int32) u0 hq) ⟨Nat.le_of_ble_eq_true rfl, Nat.le_of_ble_eq_true rfl⟩ ⟨Nat.le_refl _, Nat.le_refl _⟩ rfl hl.1 rfl (Nat.le_of_ble_eq_true rfl) dX8_isNear_5 (fun q1 H1 L1 hf hw => ?_)
  exact h_zret hf hx hb hr hlk hw dX8_isNear_8
theorem c_X8_isNear (l : Launch) (E : hE) (B : Nat) (T : hT) (p0 : Int32) (u0 : hM) {z : Int32 × hM} (hf : fX8_isNear T p0 u0 = some z) : h_Ct l E B T yX8_isNear cX8_isNear 1 (some .boolean) 1 [.int p0] u0 z.2 (some (.int z.1)) := h_ofW (by decide) (Nat.le_of_ble_eq_true rfl) (fun p e s m below meth c ls hΓ hl hw => wX8_isNear hΓ hf hw hl)
def fX4_stepsRight_L4 (T : hT) (c0 : Nat) (c1 : Nat) (ex : Int32 → hM → Option (Int32 × hM)) : Nat → Int32 → Int32 → hM → Option (Int32 × hM)
  | 0, _, _, _ => none
  | n + 1, v2, v3, u0 => (gti T u0 c0 4 1).bind fun x1 => if x1 ≤ v3 then (ex v2 u0) else ((vc T c0 4 (fX4_homeAt T c0 v3 c1 u0)).bind fun q2 => (vc T c0 4 (fX4_homeAt T c0 (v3 - (1 : Int32)) c1 q2.2)).bind fun q3 => (fX8_isNear T (q2.1 - q3.1) q3.2).bind fun q4 => lt (fun (x5 : Int32) (u6 : hM) => lt (v3 + (1 : Int32)) fun x7 => fX4_stepsRight_L4 T c0 c1 ex n x5 x7 u6) fun J36 => if q4.1 = 0 then (J36 v2 q4.2) else (lt (v2 + (1 : Int32)) fun x8 => J36 x8 q4.2))
def fX4_stepsRight (T : hT) (a0 : Nat) (r1 : Nat) (u0 : hM) : Option (Int32 × hM) := fX4_stepsRight_L4 T a0 r1 (fun (x9 : Int32) (u10 : hM) => some (x9, u10)) 6000 (0 : Int32) (1 : Int32) u0
set_option maxRecDepth 100000 in
set_option maxHeartbeats 4000000 in
theorem wfX4_stepsRight_L4 {c0 : Nat} {c1 : Nat} {ex : Int32 → hM → Option (Int32 × hM)} {z : Int32 × hM} (hΓ : h_Γ E B T p s m args meth c cX4_stepsRight 4 (some .int) RX4) (hex : ∀ (y2 : Int32) (u9 : hM) (H9 : Heap) (L9 : List Loc) (ls : Array Slot), ex y2 u9 = some z → h_W E B T s.heap u9 H9 L9 → lv_has ls 4 [(2, .int y2)] → W p l e (h_rm 2) s m args below meth c H9 L9 0 0 (h_Qi below E B T args s z) (F0 m 42 ls [])) : ∀ (n : Nat) (v2 : Int32) (v3 : Int32) (u0 : hM) (H0 : Heap) (L0 : List Loc) (ls : Array Slot), fX4_stepsRight_L4 T c0 c1 ex n v2 v3 u0 = some z → h_W E B T s.heap u0 H0 L0 → lv_has ls 4 [(0, .ref (B + c0)), (1, .ref (B + c1)), (2, .int v2), (3, .int v3)] → W p l e (h_rm 2) s m args below meth c H0 L0 0 0 (h_Qi below E B T args s z) (F0 m 4 ls []) := by
  obtain ⟨hx, hb, hr, hml, hts, hown, hlk, hX⟩ := id hΓ
  intro n
  induction n with
  | zero =>
    intro v2 v3 u0 H0 L0 ls hf hw hl
    exact absurd (show (none : Option (Int32 × hM)) = some z from hf) (fun h => by cases h)
  | succ n ih =>
    intro v2 v3 u0 H0 L0 ls hf hw hl
    rw [fX4_stepsRight_L4] at hf
    refine lv_iload_n hx hb dX4_stepsRight_4 rfl (lv_at hl 3 rfl) ?_
    refine lv_aload_n hx hb dX4_stepsRight_5 rfl (lv_at hl 0 rfl) ?_
    refine h_geti hf hx hb hts hown hX hw flX4_15 rfl dX4_stepsRight_6 (fun x1 hf => ?_)
    refine lv_icmp_ge (tgt := 42) hx hb dX4_stepsRight_9 (by decide) (fun hc => ?_) (fun hc => ?_)
    · have hf := ifp hc hf
      exact hex v2 u0 _ _ _ hf hw (lv_sub hl [2] rfl)
    · have hf := ifn hc hf
      refine lv_aload_n hx hb dX4_stepsRight_12 rfl (lv_at hl 0 rfl) ?_
      refine lv_iload_n hx hb dX4_stepsRight_13 rfl (lv_at hl 3 rfl) ?_
      refine lv_aload_n hx hb dX4_stepsRight_14 rfl (lv_at hl 1 rfl) ?_
      refine h_cVi (As := [.int v3, .ref (B + c1)]) (rest := []) hf hx hb hml hts hown hX hw myX4_homeAt miX4_homeAt lkX4_45 ⟨rfl, by decide⟩ (fun q hq => c_X4_homeAt l E B T c0 v3 c1 u0 hq) ⟨Nat.le_of_ble_eq_true rfl, Nat.le_of_ble_eq_true rfl⟩ ⟨Nat.le_refl _, Nat.le_refl _⟩ rfl hl.1 rfl (Nat.le_of_ble_eq_true rfl) dX4_stepsRight_15 (fun q2 H2 L2 hf hw => ?_)
      refine lv_aload_n hx hb dX4_stepsRight_18 rfl (lv_at hl 0 rfl) ?_
      refine lv_iload_n hx hb dX4_stepsRight_19 rfl (lv_at hl 3 rfl) ?_
      refine lv_iconst (v := 1) hx hb dX4_stepsRight_20 (by decide) ?_
      refine lv_isub hx hb dX4_stepsRight_21 ?_
      refine lv_aload_n hx hb dX4_stepsRight_22 rfl (lv_at hl 1 rfl) ?_
      refine h_cVi (As := [.int (v3 - (1 : Int32)), .ref (B + c1)]) (rest := [.int q2.1]) hf hx hb hml hts hown hX hw myX4_homeAt miX4_homeAt lkX4_45 ⟨rfl, by decide⟩ (fun q hq => c_X4_homeAt l E B T c0 (v3 - (1 : Int32)) c1 q2.2 hq) ⟨Nat.le_of_ble_eq_true rfl, Nat.le_of_ble_eq_true rfl⟩ ⟨Nat.le_refl _, Nat.le_refl _⟩ rfl hl.1 rfl (Nat.le_of_ble_eq_true rfl) dX4_stepsRight_23 (fun q3 H3 L3 hf hw => ?_)
      refine lv_isub hx hb dX4_stepsRight_26 ?_
      refine h_cNi (As := [.int (q2.1 - q3.1)]) (rest := []) hf hx hb hml hts hown hX hw myX8_isNear msX8_isNear nkX4_59 (fun q hq => c_X8_isNear l E B T (q2.1 - q3.1) q3.2 hq) ⟨Nat.le_of_ble_eq_true rfl, Nat.le_of_ble_eq_true rfl⟩ ⟨Nat.le_refl _, Nat.le_refl _⟩ rfl hl.1 rfl (Nat.le_of_ble_eq_true rfl) dX4_stepsRight_27 (fun q4 H4 L4 hf hw => ?_)
      obtain ⟨J36, eJ36, hf⟩ := h_lt hf
      have hJ36 : ∀ (x5 : Int32) (u6 : hM) (H6 : Heap) (L6 : List Loc) (ls : Array Slot), J36 x5 u6 = some z → h_W E B T s.heap u6 H6 L6 → lv_has ls 4 [(0, .ref (B + c0)), (1, .ref (B + c1)), (2, .int x5), (3, .int v3)] → W p l e (h_rm 2) s m args below meth c H6 L6 0 0 (h_Qi below E B T args s z) (F0 m 36 ls []) := by
        intro x5 u6 H6 L6 ls hf hw hl
        rw [eJ36] at hf
        refine h_iinc (k := 3) hf hx hb dX4_stepsRight_36 hl rfl (by decide) (by decide) (fun x7 ls hf hl => ?_)
        have hl : lv_has ls 4 [(3, .int x7), (0, .ref (B + c0)), (1, .ref (B + c1)), (2, .int x5)] := hl
        refine lv_goto (tgt := 4) hx hb dX4_stepsRight_39 (by decide) ?_
        exact ih x5 x7 u6 _ _ _ hf hw (lv_sub hl [1, 2, 3, 0] rfl)
      clear eJ36
      refine lv_if_eq (tgt := 36) hx hb dX4_stepsRight_30 (by decide) (fun hc => ?_) (fun hc => ?_)
      · have hf := ifp hc hf
        exact hJ36 v2 q4.2 _ _ _ hf hw (lv_sub hl [0, 1, 2, 3] rfl)
      · have hf := ifn hc hf
        refine h_iinc (k := 2) hf hx hb dX4_stepsRight_33 hl rfl (by decide) (by decide) (fun x8 ls hf hl => ?_)
        have hl : lv_has ls 4 [(2, .int x8), (0, .ref (B + c0)), (1, .ref (B + c1)), (3, .int v3)] := hl
        exact hJ36 x8 q4.2 _ _ _ hf hw (lv_sub hl [1, 2, 0, 3] rfl)
set_option maxRecDepth 100000 in
set_option maxHeartbeats 4000000 in
theorem wX4_stepsRight {a0 : Nat} {r1 : Nat} {u0 : hM} {z : Int32 × hM} {ls : Array Slot} (hΓ : h_Γ E B T p s m args meth c cX4_stepsRight 4 (some .int) RX4) (hf : fX4_stepsRight T a0 r1 u0 = some z) (hw : h_W E B T s.heap u0 s.heap []) (hl : lv_has ls 4 [(0, .ref (B + a0)), (1, .ref (B + r1))]) : W p l e (h_rm 2) s m args below meth c s.heap [] 0 0 (h_Qi below E B T args s z) (F0 m 0 ls []) := by
  obtain ⟨hx, hb, hr, hml, hts, hown, hlk, hX⟩ := id hΓ
  unfold fX4_stepsRight at hf
  refine lv_iconst (v := 0) hx hb dX4_stepsRight_0 (by decide) ?_
  refine lv_istore_n (lv' := [(2, .int (0 : Int32)), (0, .ref (B + a0)), (1, .ref (B + r1))]) hx hb dX4_stepsRight_1 rfl hl (by decide) rfl (fun ls hl => ?_)
  refine lv_iconst (v := 1) hx hb dX4_stepsRight_2 (by decide) ?_
  refine lv_istore_n (lv' := [(3, .int (1 : Int32)), (2, .int (0 : Int32)), (0, .ref (B + a0)), (1, .ref (B + r1))]) hx hb dX4_stepsRight_3 rfl hl (by decide) rfl (fun ls hl => ?_)
  refine wfX4_stepsRight_L4 hΓ ?_ 6000 (0 : Int32) (1 : Int32) u0 _ _ _ hf hw (lv_sub hl [2, 3, 1, 0] rfl)
  intro x9 u10 H10 L10 ls hf hw hl
  refine lv_iload_n hx hb dX4_stepsRight_42 rfl (lv_at hl 0 rfl) ?_
  exact h_iret hf hx hb hr hlk hw dX4_stepsRight_43
theorem c_X4_stepsRight (l : Launch) (E : hE) (B : Nat) (T : hT) (a0 : Nat) (r1 : Nat) (u0 : hM) {z : Int32 × hM} (hf : fX4_stepsRight T a0 r1 u0 = some z) : h_Ct l E B T yX4_stepsRight cX4_stepsRight 4 (some .int) 2 [.ref (B + a0), .ref (B + r1)] u0 z.2 (some (.int z.1)) := h_ofW (by decide) (Nat.le_of_ble_eq_true rfl) (fun p e s m below meth c ls hΓ hl hw => wX4_stepsRight hΓ hf hw hl)
def fX4_homesRight_L4 (T : hT) (c0 : Nat) (c1 : Nat) (ex : Int32 → hM → Option (Int32 × hM)) : Nat → Int32 → Int32 → hM → Option (Int32 × hM)
  | 0, _, _, _ => none
  | n + 1, v2, v3, u0 => (gti T u0 c0 4 1).bind fun x1 => if x1 ≤ v3 then (ex v2 u0) else ((vc T c0 4 (fX4_homeAt T c0 v3 c1 u0)).bind fun q2 => (fX8_isNear T q2.1 q2.2).bind fun q3 => lt (fun (x4 : Int32) (u5 : hM) => lt (v3 + (1 : Int32)) fun x6 => fX4_homesRight_L4 T c0 c1 ex n x4 x6 u5) fun J27 => if q3.1 = 0 then (J27 v2 q3.2) else (lt (v2 + (1 : Int32)) fun x7 => J27 x7 q3.2))
def fX4_homesRight (T : hT) (a0 : Nat) (r1 : Nat) (u0 : hM) : Option (Int32 × hM) := fX4_homesRight_L4 T a0 r1 (fun (x8 : Int32) (u9 : hM) => some (x8, u9)) 6000 (0 : Int32) (0 : Int32) u0
set_option maxRecDepth 100000 in
set_option maxHeartbeats 4000000 in
theorem wfX4_homesRight_L4 {c0 : Nat} {c1 : Nat} {ex : Int32 → hM → Option (Int32 × hM)} {z : Int32 × hM} (hΓ : h_Γ E B T p s m args meth c cX4_homesRight 4 (some .int) RX4) (hex : ∀ (y2 : Int32) (u9 : hM) (H9 : Heap) (L9 : List Loc) (ls : Array Slot), ex y2 u9 = some z → h_W E B T s.heap u9 H9 L9 → lv_has ls 4 [(2, .int y2)] → W p l e (h_rm 2) s m args below meth c H9 L9 0 0 (h_Qi below E B T args s z) (F0 m 33 ls [])) : ∀ (n : Nat) (v2 : Int32) (v3 : Int32) (u0 : hM) (H0 : Heap) (L0 : List Loc) (ls : Array Slot), fX4_homesRight_L4 T c0 c1 ex n v2 v3 u0 = some z → h_W E B T s.heap u0 H0 L0 → lv_has ls 4 [(0, .ref (B + c0)), (1, .ref (B + c1)), (2, .int v2), (3, .int v3)] → W p l e (h_rm 2) s m args below meth c H0 L0 0 0 (h_Qi below E B T args s z) (F0 m 4 ls []) := by
  obtain ⟨hx, hb, hr, hml, hts, hown, hlk, hX⟩ := id hΓ
  intro n
  induction n with
  | zero =>
    intro v2 v3 u0 H0 L0 ls hf hw hl
    exact absurd (show (none : Option (Int32 × hM)) = some z from hf) (fun h => by cases h)
  | succ n ih =>
    intro v2 v3 u0 H0 L0 ls hf hw hl
    rw [fX4_homesRight_L4] at hf
    refine lv_iload_n hx hb dX4_homesRight_4 rfl (lv_at hl 3 rfl) ?_
    refine lv_aload_n hx hb dX4_homesRight_5 rfl (lv_at hl 0 rfl) ?_
    refine h_geti hf hx hb hts hown hX hw flX4_15 rfl dX4_homesRight_6 (fun x1 hf => ?_)
    refine lv_icmp_ge (tgt := 33) hx hb dX4_homesRight_9 (by decide) (fun hc => ?_) (fun hc => ?_)
    · have hf := ifp hc hf
      exact hex v2 u0 _ _ _ hf hw (lv_sub hl [2] rfl)
    · have hf := ifn hc hf
      refine lv_aload_n hx hb dX4_homesRight_12 rfl (lv_at hl 0 rfl) ?_
      refine lv_iload_n hx hb dX4_homesRight_13 rfl (lv_at hl 3 rfl) ?_
      refine lv_aload_n hx hb dX4_homesRight_14 rfl (lv_at hl 1 rfl) ?_
      refine h_cVi (As := [.int v3, .ref (B + c1)]) (rest := []) hf hx hb hml hts hown hX hw myX4_homeAt miX4_homeAt lkX4_45 ⟨rfl, by decide⟩ (fun q hq => c_X4_homeAt l E B T c0 v3 c1 u0 hq) ⟨Nat.le_of_ble_eq_true rfl, Nat.le_of_ble_eq_true rfl⟩ ⟨Nat.le_refl _, Nat.le_refl _⟩ rfl hl.1 rfl (Nat.le_of_ble_eq_true rfl) dX4_homesRight_15 (fun q2 H2 L2 hf hw => ?_)
      refine h_cNi (As := [.int q2.1]) (rest := []) hf hx hb hml hts hown hX hw myX8_isNear msX8_isNear nkX4_59 (fun q hq => c_X8_isNear l E B T q2.1 q2.2 hq) ⟨Nat.le_of_ble_eq_true rfl, Nat.le_of_ble_eq_true rfl⟩ ⟨Nat.le_refl _, Nat.le_refl _⟩ rfl hl.1 rfl (Nat.le_of_ble_eq_true rfl) dX4_homesRight_18 (fun q3 H3 L3 hf hw => ?_)
      obtain ⟨J27, eJ27, hf⟩ := h_lt hf
      have hJ27 : ∀ (x4 : Int32) (u5 : hM) (H5 : Heap) (L5 : List Loc) (ls : Array Slot), J27 x4 u5 = some z → h_W E B T s.heap u5 H5 L5 → lv_has ls 4 [(0, .ref (B + c0)), (1, .ref (B + c1)), (2, .int x4), (3, .int v3)] → W p l e (h_rm 2) s m args below meth c H5 L5 0 0 (h_Qi below E B T args s z) (F0 m 27 ls []) := by
        intro x4 u5 H5 L5 ls hf hw hl
        rw [eJ27] at hf
        refine h_iinc (k := 3) hf hx hb dX4_homesRight_27 hl rfl (by decide) (by decide) (fun x6 ls hf hl => ?_)
        have hl : lv_has ls 4 [(3, .int x6), (0, .ref (B + c0)), (1, .ref (B + c1)), (2, .int x4)] := hl
        refine lv_goto (tgt := 4) hx hb dX4_homesRight_30 (by decide) ?_
        exact ih x4 x6 u5 _ _ _ hf hw (lv_sub hl [1, 2, 3, 0] rfl)
      clear eJ27
      refine lv_if_eq (tgt := 27) hx hb dX4_homesRight_21 (by decide) (fun hc => ?_) (fun hc => ?_)
      · have hf := ifp hc hf
        exact hJ27 v2 q3.2 _ _ _ hf hw (lv_sub hl [0, 1, 2, 3] rfl)
      · have hf := ifn hc hf
        refine h_iinc (k := 2) hf hx hb dX4_homesRight_24 hl rfl (by decide) (by decide) (fun x7 ls hf hl => ?_)
        have hl : lv_has ls 4 [(2, .int x7), (0, .ref (B + c0)), (1, .ref (B + c1)), (3, .int v3)] := hl
        exact hJ27 x7 q3.2 _ _ _ hf hw (lv_sub hl [1, 2, 0, 3] rfl)
set_option maxRecDepth 100000 in
set_option maxHeartbeats 4000000 in
theorem wX4_homesRight {a0 : Nat} {r1 : Nat} {u0 : hM} {z : Int32 × hM} {ls : Array Slot} (hΓ : h_Γ E B T p s m args meth c cX4_homesRight 4 (some .int) RX4) (hf : fX4_homesRight T a0 r1 u0 = some z) (hw : h_W E B T s.heap u0 s.heap []) (hl : lv_has ls 4 [(0, .ref (B + a0)), (1, .ref (B + r1))]) : W p l e (h_rm 2) s m args below meth c s.heap [] 0 0 (h_Qi below E B T args s z) (F0 m 0 ls []) := by
  obtain ⟨hx, hb, hr, hml, hts, hown, hlk, hX⟩ := id hΓ
  unfold fX4_homesRight at hf
  refine lv_iconst (v := 0) hx hb dX4_homesRight_0 (by decide) ?_
  refine lv_istore_n (lv' := [(2, .int (0 : Int32)), (0, .ref (B + a0)), (1, .ref (B + r1))]) hx hb dX4_homesRight_1 rfl hl (by decide) rfl (fun ls hl => ?_)
  refine lv_iconst (v := 0) hx hb dX4_homesRight_2 (by decide) ?_
  refine lv_istore_n (lv' := [(3, .int (0 : Int32)), (2, .int (0 : Int32)), (0, .ref (B + a0)), (1, .ref (B + r1))]) hx hb dX4_homesRight_3 rfl hl (by decide) rfl (fun ls hl => ?_)
  refine wfX4_homesRight_L4 hΓ ?_ 6000 (0 : Int32) (0 : Int32) u0 _ _ _ hf hw (lv_sub hl [2, 3, 1, 0] rfl)
  intro x8 u9 H9 L9 ls hf hw hl
  refine lv_iload_n hx hb dX4_homesRight_33 rfl (lv_at hl 0 rfl) ?_
  exact h_iret hf hx hb hr hlk hw dX4_homesRight_34
theorem c_X4_homesRight (l : Launch) (E : hE) (B : Nat) (T : hT) (a0 : Nat) (r1 : Nat) (u0 : hM) {z : Int32 × hM} (hf : fX4_homesRight T a0 r1 u0 = some z) : h_Ct l E B T yX4_homesRight cX4_homesRight 4 (some .int) 2 [.ref (B + a0), .ref (B + r1)] u0 z.2 (some (.int z.1)) := h_ofW (by decide) (Nat.le_of_ble_eq_true rfl) (fun p e s m below meth c ls hΓ hl hw => wX4_homesRight hΓ hf hw hl)
def fX4_slide (T : hT) (a0 : Nat) (r1 : Nat) (u0 : hM) : Option (Int32 × hM) := (vc T a0 4 (fX4_isHeard T a0 u0)).bind fun q1 => if q1.1 = 0 then (some ((0 : Int32), q1.2)) else ((gti T q1.2 a0 4 1).bind fun x2 => (vc T a0 4 (fX4_homeAt T a0 (x2 - (1 : Int32)) r1 q1.2)).bind fun q3 => (vc T a0 4 (fX4_homeAt T a0 (0 : Int32) r1 q3.2)).bind fun q4 => some ((q3.1 - q4.1), q4.2))
set_option maxRecDepth 100000 in
set_option maxHeartbeats 4000000 in
theorem wX4_slide {a0 : Nat} {r1 : Nat} {u0 : hM} {z : Int32 × hM} {ls : Array Slot} (hΓ : h_Γ E B T p s m args meth c cX4_slide 2 (some .int) RX4) (hf : fX4_slide T a0 r1 u0 = some z) (hw : h_W E B T s.heap u0 s.heap []) (hl : lv_has ls 2 [(0, .ref (B + a0)), (1, .ref (B + r1))]) : W p l e (h_rm 3) s m args below meth c s.heap [] 0 0 (h_Qi below E B T args s z) (F0 m 0 ls []) := by
  obtain ⟨hx, hb, hr, hml, hts, hown, hlk, hX⟩ := id hΓ
  unfold fX4_slide at hf
  refine lv_aload_n hx hb dX4_slide_0 rfl (lv_at hl 0 rfl) ?_
  refine h_cVi (As := []) (rest := []) hf hx hb hml hts hown hX hw myX4_isHeard miX4_isHeard lkX4_41 ⟨rfl, by decide⟩ (fun q hq => c_X4_isHeard l E B T a0 u0 hq) ⟨Nat.le_of_ble_eq_true rfl, Nat.le_of_ble_eq_true rfl⟩ ⟨Nat.le_refl _, Nat.le_refl _⟩ rfl hl.1 rfl (Nat.le_of_ble_eq_true rfl) dX4_slide_1 (fun q1 H1 L1 hf hw => ?_)
  refine lv_if_eq (tgt := 28) hx hb dX4_slide_4 (by decide) (fun hc => ?_) (fun hc => ?_)
  · have hf := ifp hc hf
    refine lv_iconst (v := 0) hx hb dX4_slide_28 (by decide) ?_
    exact h_iret hf hx hb hr hlk hw dX4_slide_29
  · have hf := ifn hc hf
    refine lv_aload_n hx hb dX4_slide_7 rfl (lv_at hl 0 rfl) ?_
    refine lv_aload_n hx hb dX4_slide_8 rfl (lv_at hl 0 rfl) ?_
    refine h_geti hf hx hb hts hown hX hw flX4_15 rfl dX4_slide_9 (fun x2 hf => ?_)
    refine lv_iconst (v := 1) hx hb dX4_slide_12 (by decide) ?_
    refine lv_isub hx hb dX4_slide_13 ?_
    refine lv_aload_n hx hb dX4_slide_14 rfl (lv_at hl 1 rfl) ?_
    refine h_cVi (As := [.int (x2 - (1 : Int32)), .ref (B + r1)]) (rest := []) hf hx hb hml hts hown hX hw myX4_homeAt miX4_homeAt lkX4_45 ⟨rfl, by decide⟩ (fun q hq => c_X4_homeAt l E B T a0 (x2 - (1 : Int32)) r1 q1.2 hq) ⟨Nat.le_of_ble_eq_true rfl, Nat.le_of_ble_eq_true rfl⟩ ⟨Nat.le_refl _, Nat.le_refl _⟩ rfl hl.1 rfl (Nat.le_of_ble_eq_true rfl) dX4_slide_15 (fun q3 H3 L3 hf hw => ?_)
    refine lv_aload_n hx hb dX4_slide_18 rfl (lv_at hl 0 rfl) ?_
    refine lv_iconst (v := 0) hx hb dX4_slide_19 (by decide) ?_
    refine lv_aload_n hx hb dX4_slide_20 rfl (lv_at hl 1 rfl) ?_
    refine h_cVi (As := [.int (0 : Int32), .ref (B + r1)]) (rest := [.int q3.1]) hf hx hb hml hts hown hX hw myX4_homeAt miX4_homeAt lkX4_45 ⟨rfl, by decide⟩ (fun q hq => c_X4_homeAt l E B T a0 (0 : Int32) r1 q3.2 hq) ⟨Nat.le_of_ble_eq_true rfl, Nat.le_of_ble_eq_true rfl⟩ ⟨Nat.le_refl _, Nat.le_refl _⟩ rfl hl.1 rfl (Nat.le_of_ble_eq_true rfl) dX4_slide_21 (fun q4 H4 L4 hf hw => ?_)
    refine lv_isub hx hb dX4_slide_24 ?_
    refine lv_goto (tgt := 29) hx hb dX4_slide_25 (by decide) ?_
    exact h_iret hf hx hb hr hlk hw dX4_slide_29
theorem c_X4_slide (l : Launch) (E : hE) (B : Nat) (T : hT) (a0 : Nat) (r1 : Nat) (u0 : hM) {z : Int32 × hM} (hf : fX4_slide T a0 r1 u0 = some z) : h_Ct l E B T yX4_slide cX4_slide 2 (some .int) 3 [.ref (B + a0), .ref (B + r1)] u0 z.2 (some (.int z.1)) := h_ofW (by decide) (Nat.le_of_ble_eq_true rfl) (fun p e s m below meth c ls hΓ hl hw => wX4_slide hΓ hf hw hl)
def fX4_points (T : hT) (a0 : Nat) (p1 : Int32) (r2 : Nat) (u0 : hM) : Option (Int32 × hM) := (vc T a0 4 (fX4_isHeard T a0 u0)).bind fun q1 => if q1.1 = 0 then (some ((0 : Int32), q1.2)) else (if p1 = 0 then ((vc T a0 4 (fX4_stepsRight T a0 r2 q1.2)).bind fun q8 => some (q8.1, q8.2)) else (if p1 = (1 : Int32) then ((vc T a0 4 (fX4_homesRight T a0 r2 q1.2)).bind fun q7 => some (q7.1, q7.2)) else (lt (fun (x2 : Int32) (u3 : hM) => (fX8_isNear T x2 u3).bind fun q4 => if q4.1 = 0 then (some ((0 : Int32), q4.2)) else (some ((1 : Int32), q4.2))) fun J49 => if p1 = (2 : Int32) then ((vc T a0 4 (fX4_homeAt T a0 (0 : Int32) r2 q1.2)).bind fun q6 => J49 q6.1 q6.2) else ((vc T a0 4 (fX4_slide T a0 r2 q1.2)).bind fun q5 => J49 q5.1 q5.2))))
set_option maxRecDepth 100000 in
set_option maxHeartbeats 4000000 in
theorem wX4_points {a0 : Nat} {p1 : Int32} {r2 : Nat} {u0 : hM} {z : Int32 × hM} {ls : Array Slot} (hΓ : h_Γ E B T p s m args meth c cX4_points 3 (some .int) RX4) (hf : fX4_points T a0 p1 r2 u0 = some z) (hw : h_W E B T s.heap u0 s.heap []) (hl : lv_has ls 3 [(0, .ref (B + a0)), (1, .int p1), (2, .ref (B + r2))]) : W p l e (h_rm 4) s m args below meth c s.heap [] 0 0 (h_Qi below E B T args s z) (F0 m 0 ls []) := by
  obtain ⟨hx, hb, hr, hml, hts, hown, hlk, hX⟩ := id hΓ
  unfold fX4_points at hf
  refine lv_aload_n hx hb dX4_points_0 rfl (lv_at hl 0 rfl) ?_
  refine h_cVi (As := []) (rest := []) hf hx hb hml hts hown hX hw myX4_isHeard miX4_isHeard lkX4_41 ⟨rfl, by decide⟩ (fun q hq => c_X4_isHeard l E B T a0 u0 hq) ⟨Nat.le_of_ble_eq_true rfl, Nat.le_of_ble_eq_true rfl⟩ ⟨Nat.le_refl _, Nat.le_refl _⟩ rfl hl.1 rfl (Nat.le_of_ble_eq_true rfl) dX4_points_1 (fun q1 H1 L1 hf hw => ?_)
  refine lv_if_ne (tgt := 9) hx hb dX4_points_4 (by decide) (fun hc => ?_) (fun hc => ?_)
  · have hf := ifn hc hf
    refine lv_iload_n hx hb dX4_points_9 rfl (lv_at hl 1 rfl) ?_
    refine lv_if_ne (tgt := 19) hx hb dX4_points_10 (by decide) (fun hc => ?_) (fun hc => ?_)
    · have hf := ifn hc hf
      refine lv_iload_n hx hb dX4_points_19 rfl (lv_at hl 1 rfl) ?_
      refine lv_iconst (v := 1) hx hb dX4_points_20 (by decide) ?_
      refine lv_icmp_ne (tgt := 30) hx hb dX4_points_21 (by decide) (fun hc => ?_) (fun hc => ?_)
      · have hf := ifn hc hf
        refine lv_iload_n hx hb dX4_points_30 rfl (lv_at hl 1 rfl) ?_
        refine lv_iconst (v := 2) hx hb dX4_points_31 (by decide) ?_
        obtain ⟨J49, eJ49, hf⟩ := h_lt hf
        have hJ49 : ∀ (x2 : Int32) (u3 : hM) (H3 : Heap) (L3 : List Loc) (ls : Array Slot), J49 x2 u3 = some z → h_W E B T s.heap u3 H3 L3 → lv_has ls 3 [] → W p l e (h_rm 4) s m args below meth c H3 L3 0 0 (h_Qi below E B T args s z) (F0 m 49 ls [.int x2]) := by
          intro x2 u3 H3 L3 ls hf hw hl
          rw [eJ49] at hf
          refine h_cNi (As := [.int x2]) (rest := []) hf hx hb hml hts hown hX hw myX8_isNear msX8_isNear nkX4_59 (fun q hq => c_X8_isNear l E B T x2 u3 hq) ⟨Nat.le_of_ble_eq_true rfl, Nat.le_of_ble_eq_true rfl⟩ ⟨Nat.le_refl _, Nat.le_refl _⟩ rfl hl.1 rfl (Nat.le_of_ble_eq_true rfl) dX4_points_49 (fun q4 H4 L4 hf hw => ?_)
          refine lv_if_eq (tgt := 59) hx hb dX4_points_52 (by decide) (fun hc => ?_) (fun hc => ?_)
          · have hf := ifp hc hf
            refine lv_iconst (v := 0) hx hb dX4_points_59 (by decide) ?_
            exact h_iret hf hx hb hr hlk hw dX4_points_60
          · have hf := ifn hc hf
            refine lv_iconst (v := 1) hx hb dX4_points_55 (by decide) ?_
            refine lv_goto (tgt := 60) hx hb dX4_points_56 (by decide) ?_
            exact h_iret hf hx hb hr hlk hw dX4_points_60
        clear eJ49
        refine lv_icmp_ne (tgt := 44) hx hb dX4_points_32 (by decide) (fun hc => ?_) (fun hc => ?_)
        · have hf := ifn hc hf
          refine lv_aload_n hx hb dX4_points_44 rfl (lv_at hl 0 rfl) ?_
          refine lv_aload_n hx hb dX4_points_45 rfl (lv_at hl 2 rfl) ?_
          refine h_cVi (As := [.ref (B + r2)]) (rest := []) hf hx hb hml hts hown hX hw myX4_slide miX4_slide lkX4_56 ⟨rfl, by decide⟩ (fun q hq => c_X4_slide l E B T a0 r2 q1.2 hq) ⟨Nat.le_of_ble_eq_true rfl, Nat.le_of_ble_eq_true rfl⟩ ⟨Nat.le_refl _, Nat.le_refl _⟩ rfl hl.1 rfl (Nat.le_of_ble_eq_true rfl) dX4_points_46 (fun q5 H5 L5 hf hw => ?_)
          exact hJ49 q5.1 q5.2 _ _ _ hf hw (lv_sub hl [] rfl)
        · have hf := ifp hc hf
          refine lv_aload_n hx hb dX4_points_35 rfl (lv_at hl 0 rfl) ?_
          refine lv_iconst (v := 0) hx hb dX4_points_36 (by decide) ?_
          refine lv_aload_n hx hb dX4_points_37 rfl (lv_at hl 2 rfl) ?_
          refine h_cVi (As := [.int (0 : Int32), .ref (B + r2)]) (rest := []) hf hx hb hml hts hown hX hw myX4_homeAt miX4_homeAt lkX4_45 ⟨rfl, by decide⟩ (fun q hq => c_X4_homeAt l E B T a0 (0 : Int32) r2 q1.2 hq) ⟨Nat.le_of_ble_eq_true rfl, Nat.le_of_ble_eq_true rfl⟩ ⟨Nat.le_refl _, Nat.le_refl _⟩ rfl hl.1 rfl (Nat.le_of_ble_eq_true rfl) dX4_points_38 (fun q6 H6 L6 hf hw => ?_)
          refine lv_goto (tgt := 49) hx hb dX4_points_41 (by decide) ?_
          exact hJ49 q6.1 q6.2 _ _ _ hf hw (lv_sub hl [] rfl)
      · have hf := ifp hc hf
        refine lv_aload_n hx hb dX4_points_24 rfl (lv_at hl 0 rfl) ?_
        refine lv_aload_n hx hb dX4_points_25 rfl (lv_at hl 2 rfl) ?_
        refine h_cVi (As := [.ref (B + r2)]) (rest := []) hf hx hb hml hts hown hX hw myX4_homesRight miX4_homesRight lkX4_53 ⟨rfl, by decide⟩ (fun q hq => c_X4_homesRight l E B T a0 r2 q1.2 hq) ⟨Nat.le_of_ble_eq_true rfl, Nat.le_of_ble_eq_true rfl⟩ ⟨Nat.le_refl _, Nat.le_refl _⟩ rfl hl.1 rfl (Nat.le_of_ble_eq_true rfl) dX4_points_26 (fun q7 H7 L7 hf hw => ?_)
        exact h_iret hf hx hb hr hlk hw dX4_points_29
    · have hf := ifp hc hf
      refine lv_aload_n hx hb dX4_points_13 rfl (lv_at hl 0 rfl) ?_
      refine lv_aload_n hx hb dX4_points_14 rfl (lv_at hl 2 rfl) ?_
      refine h_cVi (As := [.ref (B + r2)]) (rest := []) hf hx hb hml hts hown hX hw myX4_stepsRight miX4_stepsRight lkX4_49 ⟨rfl, by decide⟩ (fun q hq => c_X4_stepsRight l E B T a0 r2 q1.2 hq) ⟨Nat.le_of_ble_eq_true rfl, Nat.le_of_ble_eq_true rfl⟩ ⟨Nat.le_refl _, Nat.le_refl _⟩ rfl hl.1 rfl (Nat.le_of_ble_eq_true rfl) dX4_points_15 (fun q8 H8 L8 hf hw => ?_)
      exact h_iret hf hx hb hr hlk hw dX4_points_18
  · have hf := ifp hc hf
    refine lv_iconst (v := 0) hx hb dX4_points_7 (by decide) ?_
    exact h_iret hf hx hb hr hlk hw dX4_points_8
theorem c_X4_points (l : Launch) (E : hE) (B : Nat) (T : hT) (a0 : Nat) (p1 : Int32) (r2 : Nat) (u0 : hM) {z : Int32 × hM} (hf : fX4_points T a0 p1 r2 u0 = some z) : h_Ct l E B T yX4_points cX4_points 3 (some .int) 4 [.ref (B + a0), .int p1, .ref (B + r2)] u0 z.2 (some (.int z.1)) := h_ofW (by decide) (Nat.le_of_ble_eq_true rfl) (fun p e s m below meth c ls hΓ hl hw => wX4_points hΓ hf hw hl)
def fX8_sing (T : hT) (a0 : Nat) (p1 : Int32) (p2 : Int32) (u0 : hM) : Option (Int32 × hM) := (vc T a0 8 (fX8_isSinger T a0 p1 u0)).bind fun q1 => if q1.1 = 0 then (some ((-1000000001 : Int32), q1.2)) else ((fX8_isWithin T p2 (0 : Int32) (2 : Int32) q1.2).bind fun q2 => if q2.1 = 0 then (some ((-1000000002 : Int32), q2.2)) else ((gtr T q2.2 a0 8 6).bind fun a3 => (gtr T q2.2 a3 5 0).bind fun a4 => (gtr T q2.2 a0 8 6).bind fun a5 => (gtr T q2.2 a5 5 2).bind fun a6 => (aldr 15 T q2.2 a6 p1).bind fun a7 => (vc T a0 8 (fX8_singInto T a0 a4 a7 p2 q2.2)).bind fun q8 => (gtr T q8 a0 8 6).bind fun a9 => (gtr T q8 a9 5 0).bind fun a10 => (pti T q8 a10 4 2 p1).bind fun u11 => (gtr T u11 a0 8 6).bind fun a12 => (gtr T u11 a12 5 0).bind fun a13 => (gtr T u11 a0 8 1).bind fun a14 => (vc T a13 4 (fX4_points T a13 (0 : Int32) a14 u11)).bind fun q15 => some (q15.1, q15.2)))
set_option maxRecDepth 100000 in
set_option maxHeartbeats 4000000 in
theorem wX8_sing {a0 : Nat} {p1 : Int32} {p2 : Int32} {u0 : hM} {z : Int32 × hM} {ls : Array Slot} (hΓ : h_Γ E B T p s m args meth c cX8_sing 3 (some .int) RX8) (hf : fX8_sing T a0 p1 p2 u0 = some z) (hw : h_W E B T s.heap u0 s.heap []) (hl : lv_has ls 3 [(0, .ref (B + a0)), (1, .int p1), (2, .int p2)]) : W p l e (h_rm 5) s m args below meth c s.heap [] 0 0 (h_Qi below E B T args s z) (F0 m 0 ls []) := by
  obtain ⟨hx, hb, hr, hml, hts, hown, hlk, hX⟩ := id hΓ
  unfold fX8_sing at hf
  refine lv_aload_n hx hb dX8_sing_0 rfl (lv_at hl 0 rfl) ?_
  refine lv_iload_n hx hb dX8_sing_1 rfl (lv_at hl 1 rfl) ?_
  refine h_cVi (As := [.int p1]) (rest := []) hf hx hb hml hts hown hX hw myX8_isSinger miX8_isSinger lkX8_165 ⟨rfl, by decide⟩ (fun q hq => c_X8_isSinger l E B T a0 p1 u0 hq) ⟨Nat.le_of_ble_eq_true rfl, Nat.le_of_ble_eq_true rfl⟩ ⟨Nat.le_refl _, Nat.le_refl _⟩ rfl hl.1 rfl (Nat.le_of_ble_eq_true rfl) dX8_sing_2 (fun q1 H1 L1 hf hw => ?_)
  refine lv_if_ne (tgt := 11) hx hb dX8_sing_5 (by decide) (fun hc => ?_) (fun hc => ?_)
  · have hf := ifn hc hf
    refine lv_iload_n hx hb dX8_sing_11 rfl (lv_at hl 2 rfl) ?_
    refine lv_iconst (v := 0) hx hb dX8_sing_12 (by decide) ?_
    refine lv_iconst (v := 2) hx hb dX8_sing_13 (by decide) ?_
    refine h_cSi (As := [.int p2, .int (0 : Int32), .int (2 : Int32)]) (rest := []) hf hx hb hml hts hown hX hw myX8_isWithin msX8_isWithin lkX8_91 (fun q hq => c_X8_isWithin l E B T p2 (0 : Int32) (2 : Int32) q1.2 hq) ⟨Nat.le_of_ble_eq_true rfl, Nat.le_of_ble_eq_true rfl⟩ ⟨Nat.le_refl _, Nat.le_refl _⟩ rfl hl.1 rfl (Nat.le_of_ble_eq_true rfl) dX8_sing_14 (fun q2 H2 L2 hf hw => ?_)
    refine lv_if_ne (tgt := 23) hx hb dX8_sing_17 (by decide) (fun hc => ?_) (fun hc => ?_)
    · have hf := ifn hc hf
      refine lv_aload_n hx hb dX8_sing_23 rfl (lv_at hl 0 rfl) ?_
      refine lv_aload_n hx hb dX8_sing_24 rfl (lv_at hl 0 rfl) ?_
      refine h_getr hf hx hb hts hown hX hw flX8_47 rfl dX8_sing_25 (fun a3 hf => ?_)
      refine h_getr hf hx hb hts hown hX hw flX8_145 rfl dX8_sing_28 (fun a4 hf => ?_)
      refine lv_aload_n hx hb dX8_sing_31 rfl (lv_at hl 0 rfl) ?_
      refine h_getr hf hx hb hts hown hX hw flX8_47 rfl dX8_sing_32 (fun a5 hf => ?_)
      refine h_getr hf hx hb hts hown hX hw flX8_131 rfl dX8_sing_35 (fun a6 hf => ?_)
      refine lv_iload_n hx hb dX8_sing_38 rfl (lv_at hl 1 rfl) ?_
      refine h_aald15 hf hx hb hX hw dX8_sing_39 (fun a7 hf => ?_)
      refine lv_iload_n hx hb dX8_sing_40 rfl (lv_at hl 2 rfl) ?_
      refine h_cVv (As := [.ref (B + a4), .ref (B + a7), .int p2]) (rest := []) hf hx hb hml hts hown hX hw myX8_singInto miX8_singInto lkX8_208 ⟨rfl, by decide⟩ (fun q hq => c_X8_singInto l E B T a0 a4 a7 p2 q2.2 hq) ⟨Nat.le_of_ble_eq_true rfl, Nat.le_of_ble_eq_true rfl⟩ ⟨Nat.le_refl _, Nat.le_refl _⟩ rfl hl.1 rfl (Nat.le_of_ble_eq_true rfl) dX8_sing_41 (fun q8 H8 L8 hf hw => ?_)
      refine lv_aload_n hx hb dX8_sing_44 rfl (lv_at hl 0 rfl) ?_
      refine h_getr hf hx hb hts hown hX hw flX8_47 rfl dX8_sing_45 (fun a9 hf => ?_)
      refine h_getr hf hx hb hts hown hX hw flX8_145 rfl dX8_sing_48 (fun a10 hf => ?_)
      refine lv_iload_n hx hb dX8_sing_51 rfl (lv_at hl 1 rfl) ?_
      refine h_puti hf hx hb hts hown hX hw flX8_148 ⟨rfl, rfl⟩ dX8_sing_52 (fun u11 H11 L11 hf hw => ?_)
      refine lv_aload_n hx hb dX8_sing_55 rfl (lv_at hl 0 rfl) ?_
      refine h_getr hf hx hb hts hown hX hw flX8_47 rfl dX8_sing_56 (fun a12 hf => ?_)
      refine h_getr hf hx hb hts hown hX hw flX8_145 rfl dX8_sing_59 (fun a13 hf => ?_)
      refine lv_iconst (v := 0) hx hb dX8_sing_62 (by decide) ?_
      refine lv_aload_n hx hb dX8_sing_63 rfl (lv_at hl 0 rfl) ?_
      refine h_getr hf hx hb hts hown hX hw flX8_19 rfl dX8_sing_64 (fun a14 hf => ?_)
      refine h_cVi (As := [.int (0 : Int32), .ref (B + a14)]) (rest := []) hf hx hb hml hts hown hX hw myX4_points miX4_points lkX8_212 ⟨rfl, by decide⟩ (fun q hq => c_X4_points l E B T a13 (0 : Int32) a14 u11 hq) ⟨Nat.le_of_ble_eq_true rfl, Nat.le_of_ble_eq_true rfl⟩ ⟨Nat.le_refl _, Nat.le_refl _⟩ rfl hl.1 rfl (Nat.le_of_ble_eq_true rfl) dX8_sing_67 (fun q15 H15 L15 hf hw => ?_)
      exact h_iret hf hx hb hr hlk hw dX8_sing_70
    · have hf := ifp hc hf
      refine lv_ldc hx hb hown (hts _ kcX8_95) dX8_sing_20 ?_
      exact h_iret hf hx hb hr hlk hw dX8_sing_22
  · have hf := ifp hc hf
    refine lv_ldc hx hb hown (hts _ kcX8_158) dX8_sing_8 ?_
    exact h_iret hf hx hb hr hlk hw dX8_sing_10
theorem c_X8_sing (l : Launch) (E : hE) (B : Nat) (T : hT) (a0 : Nat) (p1 : Int32) (p2 : Int32) (u0 : hM) {z : Int32 × hM} (hf : fX8_sing T a0 p1 p2 u0 = some z) : h_Ct l E B T yX8_sing cX8_sing 3 (some .int) 5 [.ref (B + a0), .int p1, .int p2] u0 z.2 (some (.int z.1)) := h_ofW (by decide) (Nat.le_of_ble_eq_true rfl) (fun p e s m below meth c ls hΓ hl hw => wX8_sing hΓ hf hw hl)
end GEN
