section GEN
variable {p : Program} {l : Launch} {e : Env} {s : State} {m : MethodId} {args : Array Value} {below : List Frame} {meth : Method} {c : Code} {E : hE} {B : Nat} {T : hT}
def fX9_sing (T : hT) (a0 : Nat) (p1 : Int32) (p2 : Int32) (u0 : hM) : Option (Int32 × hM) := (vc T a0 9 (fX9_isSinger T a0 p1 u0)).bind fun q1 => if q1.1 = 0 then (some ((-1000000001 : Int32), q1.2)) else ((fX9_in T p2.toInt64 (0 : Int64) (2 : Int64) q1.2).bind fun q2 => if q2.1 = 0 then (some ((-1000000002 : Int32), q2.2)) else ((gtr T q2.2 a0 9 10).bind fun a3 => (vc T a0 9 (fX9_singInto T a0 a3 p1 p2 (0 : Int32) q2.2)).bind fun q4 => (pti T q4 a0 9 9 p1).bind fun u5 => (gtr T u5 a0 9 10).bind fun a6 => (vc T a0 9 (fX9_scoreOf T a0 a6 p1 (0 : Int32) u5)).bind fun q7 => some (q7.1, q7.2)))
set_option maxRecDepth 100000 in
set_option maxHeartbeats 4000000 in
theorem wX9_sing {a0 : Nat} {p1 : Int32} {p2 : Int32} {u0 : hM} {z : Int32 × hM} {ls : Array Slot} (hΓ : h_Γ E B T p s m args meth c cX9_sing 3 (some .int) RX9) (hf : fX9_sing T a0 p1 p2 u0 = some z) (hw : h_W E B T s.heap u0 s.heap []) (hl : lv_has ls 3 [(0, .ref (B + a0)), (1, .int p1), (2, .int p2)]) : W p l e (h_rm 3) s m args below meth c s.heap [] 0 0 (h_Qi below E B T args s z) (F0 m 0 ls []) := by
  obtain ⟨hx, hb, hr, hml, hts, hown, hlk, hX⟩ := id hΓ
  unfold fX9_sing at hf
  refine lv_aload_n hx hb dX9_sing_0 rfl (lv_at hl 0 rfl) ?_
  refine lv_iload_n hx hb dX9_sing_1 rfl (lv_at hl 1 rfl) ?_
  refine h_cVi (As := [.int p1]) (rest := []) hf hx hb hml hts hown hX hw myX9_isSinger miX9_isSinger lkX9_217 ⟨rfl, by decide⟩ (fun q hq => c_X9_isSinger l E B T a0 p1 u0 hq) ⟨Nat.le_of_ble_eq_true rfl, Nat.le_of_ble_eq_true rfl⟩ ⟨Nat.le_refl _, Nat.le_refl _⟩ rfl hl.1 rfl (Nat.le_of_ble_eq_true rfl) dX9_sing_2 (fun q1 H1 L1 hf hw => ?_)
  refine lv_if_ne (tgt := 11) hx hb dX9_sing_5 (by decide) (fun hc => ?_) (fun hc => ?_)
  · have hf := ifn hc hf
    refine lv_iload_n hx hb dX9_sing_11 rfl (lv_at hl 2 rfl) ?_
    refine lv_i2l hx hb dX9_sing_12 rfl ?_
    refine lv_lconst (v := 0) hx hb dX9_sing_13 (by decide) ?_
    refine lv_ldc2 hx hb hown (hts _ klX9_267) dX9_sing_14 ?_
    refine h_cSi (As := [.long p2.toInt64, .long (0 : Int64), .long (2 : Int64)]) (rest := []) hf hx hb hml hts hown hX hw myX9_in msX9_in lkX9_90 (fun q hq => c_X9_in l E B T p2.toInt64 (0 : Int64) (2 : Int64) q1.2 hq) ⟨Nat.le_of_ble_eq_true rfl, Nat.le_of_ble_eq_true rfl⟩ ⟨Nat.le_refl _, Nat.le_refl _⟩ rfl hl.1 rfl (Nat.le_of_ble_eq_true rfl) dX9_sing_17 (fun q2 H2 L2 hf hw => ?_)
    refine lv_if_ne (tgt := 26) hx hb dX9_sing_20 (by decide) (fun hc => ?_) (fun hc => ?_)
    · have hf := ifn hc hf
      refine lv_aload_n hx hb dX9_sing_26 rfl (lv_at hl 0 rfl) ?_
      refine lv_aload_n hx hb dX9_sing_27 rfl (lv_at hl 0 rfl) ?_
      refine h_getr hf hx hb hts hown hX hw flX9_33 rfl dX9_sing_28 (fun a3 hf => ?_)
      refine lv_iload_n hx hb dX9_sing_31 rfl (lv_at hl 1 rfl) ?_
      refine lv_iload_n hx hb dX9_sing_32 rfl (lv_at hl 2 rfl) ?_
      refine lv_iconst (v := 0) hx hb dX9_sing_33 (by decide) ?_
      refine h_cVv (As := [.ref (B + a3), .int p1, .int p2, .int (0 : Int32)]) (rest := []) hf hx hb hml hts hown hX hw myX9_singInto miX9_singInto lkX9_269 ⟨rfl, by decide⟩ (fun q hq => c_X9_singInto l E B T a0 a3 p1 p2 (0 : Int32) q2.2 hq) ⟨Nat.le_of_ble_eq_true rfl, Nat.le_of_ble_eq_true rfl⟩ ⟨Nat.le_refl _, Nat.le_refl _⟩ rfl hl.1 rfl (Nat.le_of_ble_eq_true rfl) dX9_sing_34 (fun q4 H4 L4 hf hw => ?_)
      refine lv_aload_n hx hb dX9_sing_37 rfl (lv_at hl 0 rfl) ?_
      refine lv_iload_n hx hb dX9_sing_38 rfl (lv_at hl 1 rfl) ?_
      refine h_puti hf hx hb hts hown hX hw flX9_29 ⟨rfl, rfl⟩ dX9_sing_39 (fun u5 H5 L5 hf hw => ?_)
      refine lv_aload_n hx hb dX9_sing_42 rfl (lv_at hl 0 rfl) ?_
      refine lv_aload_n hx hb dX9_sing_43 rfl (lv_at hl 0 rfl) ?_
      refine h_getr hf hx hb hts hown hX hw flX9_33 rfl dX9_sing_44 (fun a6 hf => ?_)
      refine lv_iload_n hx hb dX9_sing_47 rfl (lv_at hl 1 rfl) ?_
      refine lv_iconst (v := 0) hx hb dX9_sing_48 (by decide) ?_
      refine h_cVi (As := [.ref (B + a6), .int p1, .int (0 : Int32)]) (rest := []) hf hx hb hml hts hown hX hw myX9_scoreOf miX9_scoreOf lkX9_273 ⟨rfl, by decide⟩ (fun q hq => c_X9_scoreOf l E B T a0 a6 p1 (0 : Int32) u5 hq) ⟨Nat.le_of_ble_eq_true rfl, Nat.le_of_ble_eq_true rfl⟩ ⟨Nat.le_refl _, Nat.le_refl _⟩ rfl hl.1 rfl (Nat.le_of_ble_eq_true rfl) dX9_sing_49 (fun q7 H7 L7 hf hw => ?_)
      exact h_iret hf hx hb hr hlk hw dX9_sing_52
    · have hf := ifp hc hf
      refine lv_ldc hx hb hown (hts _ kcX9_99) dX9_sing_23 ?_
      exact h_iret hf hx hb hr hlk hw dX9_sing_25
  · have hf := ifp hc hf
    refine lv_ldc hx hb hown (hts _ kcX9_216) dX9_sing_8 ?_
    exact h_iret hf hx hb hr hlk hw dX9_sing_10
theorem c_X9_sing (l : Launch) (E : hE) (B : Nat) (T : hT) (a0 : Nat) (p1 : Int32) (p2 : Int32) (u0 : hM) {z : Int32 × hM} (hf : fX9_sing T a0 p1 p2 u0 = some z) : h_Ct l E B T yX9_sing cX9_sing 3 (some .int) 3 [.ref (B + a0), .int p1, .int p2] u0 z.2 (some (.int z.1)) := h_ofW (by decide) (Nat.le_of_ble_eq_true rfl) (fun p e s m below meth c ls hΓ hl hw => wX9_sing hΓ hf hw hl)
def fX9_height (T : hT) (a0 : Nat) (p1 : Int32) (u0 : hM) : Option (Int32 × hM) := (vc T a0 9 (fX9_isNote T a0 p1 u0)).bind fun q1 => if q1.1 = 0 then (some ((-1000000001 : Int32), q1.2)) else ((gti T q1.2 a0 9 9).bind fun x2 => if 0 ≤ x2 then ((gtr T q1.2 a0 9 10).bind fun a3 => (ald 11 T q1.2 a3 p1).bind fun x4 => some (x4, q1.2)) else (some ((-1000000003 : Int32), q1.2)))
set_option maxRecDepth 100000 in
set_option maxHeartbeats 4000000 in
theorem wX9_height {a0 : Nat} {p1 : Int32} {u0 : hM} {z : Int32 × hM} {ls : Array Slot} (hΓ : h_Γ E B T p s m args meth c cX9_height 2 (some .int) RX9) (hf : fX9_height T a0 p1 u0 = some z) (hw : h_W E B T s.heap u0 s.heap []) (hl : lv_has ls 2 [(0, .ref (B + a0)), (1, .int p1)]) : W p l e (h_rm 2) s m args below meth c s.heap [] 0 0 (h_Qi below E B T args s z) (F0 m 0 ls []) := by
  obtain ⟨hx, hb, hr, hml, hts, hown, hlk, hX⟩ := id hΓ
  unfold fX9_height at hf
  refine lv_aload_n hx hb dX9_height_0 rfl (lv_at hl 0 rfl) ?_
  refine lv_iload_n hx hb dX9_height_1 rfl (lv_at hl 1 rfl) ?_
  refine h_cVi (As := [.int p1]) (rest := []) hf hx hb hml hts hown hX hw myX9_isNote miX9_isNote lkX9_212 ⟨rfl, by decide⟩ (fun q hq => c_X9_isNote l E B T a0 p1 u0 hq) ⟨Nat.le_of_ble_eq_true rfl, Nat.le_of_ble_eq_true rfl⟩ ⟨Nat.le_refl _, Nat.le_refl _⟩ rfl hl.1 rfl (Nat.le_of_ble_eq_true rfl) dX9_height_2 (fun q1 H1 L1 hf hw => ?_)
  refine lv_if_ne (tgt := 11) hx hb dX9_height_5 (by decide) (fun hc => ?_) (fun hc => ?_)
  · have hf := ifn hc hf
    refine lv_aload_n hx hb dX9_height_11 rfl (lv_at hl 0 rfl) ?_
    refine h_geti hf hx hb hts hown hX hw flX9_29 rfl dX9_height_12 (fun x2 hf => ?_)
    refine lv_if_ge (tgt := 24) hx hb dX9_height_15 (by decide) (fun hc => ?_) (fun hc => ?_)
    · have hf := ifp hc hf
      refine lv_aload_n hx hb dX9_height_24 rfl (lv_at hl 0 rfl) ?_
      refine h_getr hf hx hb hts hown hX hw flX9_33 rfl dX9_height_25 (fun a3 hf => ?_)
      refine lv_iload_n hx hb dX9_height_28 rfl (lv_at hl 1 rfl) ?_
      refine h_iald hf hx hb hX hw dX9_height_29 (fun x4 hf => ?_)
      exact h_iret hf hx hb hr hlk hw dX9_height_30
    · have hf := ifn hc hf
      refine lv_ldcw hx hb hown (hts _ kcX9_277) dX9_height_18 ?_
      refine lv_goto (tgt := 30) hx hb dX9_height_21 (by decide) ?_
      exact h_iret hf hx hb hr hlk hw dX9_height_30
  · have hf := ifp hc hf
    refine lv_ldc hx hb hown (hts _ kcX9_216) dX9_height_8 ?_
    exact h_iret hf hx hb hr hlk hw dX9_height_10
theorem c_X9_height (l : Launch) (E : hE) (B : Nat) (T : hT) (a0 : Nat) (p1 : Int32) (u0 : hM) {z : Int32 × hM} (hf : fX9_height T a0 p1 u0 = some z) : h_Ct l E B T yX9_height cX9_height 2 (some .int) 2 [.ref (B + a0), .int p1] u0 z.2 (some (.int z.1)) := h_ofW (by decide) (Nat.le_of_ble_eq_true rfl) (fun p e s m below meth c ls hΓ hl hw => wX9_height hΓ hf hw hl)
def fX9_isSilent (T : hT) (a0 : Nat) (u0 : hM) : Option (Int32 × hM) := (gti T u0 a0 9 0).bind fun x1 => if x1 = 0 then (rtz (1 : Int32) u0) else ((gtr T u0 a0 9 4).bind fun a2 => (gti T u0 a0 9 9).bind fun x3 => (ald 11 T u0 a2 ((8 : Int32) * x3)).bind fun x4 => if x4 = (7 : Int32) then (rtz (1 : Int32) u0) else (rtz (0 : Int32) u0))
set_option maxRecDepth 100000 in
set_option maxHeartbeats 4000000 in
theorem wX9_isSilent {a0 : Nat} {u0 : hM} {z : Int32 × hM} {ls : Array Slot} (hΓ : h_Γ E B T p s m args meth c cX9_isSilent 1 (some .boolean) RX9) (hf : fX9_isSilent T a0 u0 = some z) (hw : h_W E B T s.heap u0 s.heap []) (hl : lv_has ls 1 [(0, .ref (B + a0))]) : W p l e (h_rm 0) s m args below meth c s.heap [] 0 0 (h_Qi below E B T args s z) (F0 m 0 ls []) := by
  obtain ⟨hx, hb, hr, hml, hts, hown, hlk, hX⟩ := id hΓ
  unfold fX9_isSilent at hf
  refine lv_aload_n hx hb dX9_isSilent_0 rfl (lv_at hl 0 rfl) ?_
  refine h_geti hf hx hb hts hown hX hw flX9_178 rfl dX9_isSilent_1 (fun x1 hf => ?_)
  refine lv_if_eq (tgt := 24) hx hb dX9_isSilent_4 (by decide) (fun hc => ?_) (fun hc => ?_)
  · have hf := ifp hc hf
    refine lv_iconst (v := 1) hx hb dX9_isSilent_24 (by decide) ?_
    refine lv_goto (tgt := 29) hx hb dX9_isSilent_25 (by decide) ?_
    exact h_zret hf hx hb hr hlk hw dX9_isSilent_29
  · have hf := ifn hc hf
    refine lv_aload_n hx hb dX9_isSilent_7 rfl (lv_at hl 0 rfl) ?_
    refine h_getr hf hx hb hts hown hX hw flX9_17 rfl dX9_isSilent_8 (fun a2 hf => ?_)
    refine lv_bipush (v := 8) hx hb dX9_isSilent_11 (by decide) ?_
    refine lv_aload_n hx hb dX9_isSilent_13 rfl (lv_at hl 0 rfl) ?_
    refine h_geti hf hx hb hts hown hX hw flX9_29 rfl dX9_isSilent_14 (fun x3 hf => ?_)
    refine lv_imul hx hb dX9_isSilent_17 ?_
    refine h_iald hf hx hb hX hw dX9_isSilent_18 (fun x4 hf => ?_)
    refine lv_bipush (v := 7) hx hb dX9_isSilent_19 (by decide) ?_
    refine lv_icmp_ne (tgt := 28) hx hb dX9_isSilent_21 (by decide) (fun hc => ?_) (fun hc => ?_)
    · have hf := ifn hc hf
      refine lv_iconst (v := 0) hx hb dX9_isSilent_28 (by decide) ?_
      exact h_zret hf hx hb hr hlk hw dX9_isSilent_29
    · have hf := ifp hc hf
      refine lv_iconst (v := 1) hx hb dX9_isSilent_24 (by decide) ?_
      refine lv_goto (tgt := 29) hx hb dX9_isSilent_25 (by decide) ?_
      exact h_zret hf hx hb hr hlk hw dX9_isSilent_29
theorem c_X9_isSilent (l : Launch) (E : hE) (B : Nat) (T : hT) (a0 : Nat) (u0 : hM) {z : Int32 × hM} (hf : fX9_isSilent T a0 u0 = some z) : h_Ct l E B T yX9_isSilent cX9_isSilent 1 (some .boolean) 0 [.ref (B + a0)] u0 z.2 (some (.int z.1)) := h_ofW (by decide) (Nat.le_of_ble_eq_true rfl) (fun p e s m below meth c ls hΓ hl hw => wX9_isSilent hΓ hf hw hl)
def fX9_slid (T : hT) (a0 : Nat) (u0 : hM) : Option (Int32 × hM) := (gti T u0 a0 9 9).bind fun x1 => if 0 ≤ x1 then ((vc T a0 9 (fX9_isSilent T a0 u0)).bind fun q2 => if q2.1 = 0 then ((gtr T q2.2 a0 9 10).bind fun a3 => (gti T q2.2 a0 9 0).bind fun x4 => (ald 11 T q2.2 a3 (x4 - (1 : Int32))).bind fun x5 => (gtr T q2.2 a0 9 1).bind fun a6 => (gti T q2.2 a0 9 0).bind fun x7 => (ald 11 T q2.2 a6 (x7 - (1 : Int32))).bind fun x8 => (gtr T q2.2 a0 9 10).bind fun a9 => (ald 11 T q2.2 a9 (0 : Int32)).bind fun x10 => (gtr T q2.2 a0 9 1).bind fun a11 => (ald 11 T q2.2 a11 (0 : Int32)).bind fun x12 => some ((((x5 - x8) - x10) + x12), q2.2)) else (some ((0 : Int32), q2.2))) else (some ((-1000000003 : Int32), u0))
set_option maxRecDepth 100000 in
set_option maxHeartbeats 4000000 in
theorem wX9_slid {a0 : Nat} {u0 : hM} {z : Int32 × hM} {ls : Array Slot} (hΓ : h_Γ E B T p s m args meth c cX9_slid 1 (some .int) RX9) (hf : fX9_slid T a0 u0 = some z) (hw : h_W E B T s.heap u0 s.heap []) (hl : lv_has ls 1 [(0, .ref (B + a0))]) : W p l e (h_rm 1) s m args below meth c s.heap [] 0 0 (h_Qi below E B T args s z) (F0 m 0 ls []) := by
  obtain ⟨hx, hb, hr, hml, hts, hown, hlk, hX⟩ := id hΓ
  unfold fX9_slid at hf
  refine lv_aload_n hx hb dX9_slid_0 rfl (lv_at hl 0 rfl) ?_
  refine h_geti hf hx hb hts hown hX hw flX9_29 rfl dX9_slid_1 (fun x1 hf => ?_)
  refine lv_if_ge (tgt := 11) hx hb dX9_slid_4 (by decide) (fun hc => ?_) (fun hc => ?_)
  · have hf := ifp hc hf
    refine lv_aload_n hx hb dX9_slid_11 rfl (lv_at hl 0 rfl) ?_
    refine h_cVi (As := []) (rest := []) hf hx hb hml hts hown hX hw myX9_isSilent miX9_isSilent lkX9_278 ⟨rfl, by decide⟩ (fun q hq => c_X9_isSilent l E B T a0 u0 hq) ⟨Nat.le_of_ble_eq_true rfl, Nat.le_of_ble_eq_true rfl⟩ ⟨Nat.le_refl _, Nat.le_refl _⟩ rfl hl.1 rfl (Nat.le_of_ble_eq_true rfl) dX9_slid_12 (fun q2 H2 L2 hf hw => ?_)
    refine lv_if_eq (tgt := 22) hx hb dX9_slid_15 (by decide) (fun hc => ?_) (fun hc => ?_)
    · have hf := ifp hc hf
      refine lv_aload_n hx hb dX9_slid_22 rfl (lv_at hl 0 rfl) ?_
      refine h_getr hf hx hb hts hown hX hw flX9_33 rfl dX9_slid_23 (fun a3 hf => ?_)
      refine lv_aload_n hx hb dX9_slid_26 rfl (lv_at hl 0 rfl) ?_
      refine h_geti hf hx hb hts hown hX hw flX9_178 rfl dX9_slid_27 (fun x4 hf => ?_)
      refine lv_iconst (v := 1) hx hb dX9_slid_30 (by decide) ?_
      refine lv_isub hx hb dX9_slid_31 ?_
      refine h_iald hf hx hb hX hw dX9_slid_32 (fun x5 hf => ?_)
      refine lv_aload_n hx hb dX9_slid_33 rfl (lv_at hl 0 rfl) ?_
      refine h_getr hf hx hb hts hown hX hw flX9_7 rfl dX9_slid_34 (fun a6 hf => ?_)
      refine lv_aload_n hx hb dX9_slid_37 rfl (lv_at hl 0 rfl) ?_
      refine h_geti hf hx hb hts hown hX hw flX9_178 rfl dX9_slid_38 (fun x7 hf => ?_)
      refine lv_iconst (v := 1) hx hb dX9_slid_41 (by decide) ?_
      refine lv_isub hx hb dX9_slid_42 ?_
      refine h_iald hf hx hb hX hw dX9_slid_43 (fun x8 hf => ?_)
      refine lv_isub hx hb dX9_slid_44 ?_
      refine lv_aload_n hx hb dX9_slid_45 rfl (lv_at hl 0 rfl) ?_
      refine h_getr hf hx hb hts hown hX hw flX9_33 rfl dX9_slid_46 (fun a9 hf => ?_)
      refine lv_iconst (v := 0) hx hb dX9_slid_49 (by decide) ?_
      refine h_iald hf hx hb hX hw dX9_slid_50 (fun x10 hf => ?_)
      refine lv_isub hx hb dX9_slid_51 ?_
      refine lv_aload_n hx hb dX9_slid_52 rfl (lv_at hl 0 rfl) ?_
      refine h_getr hf hx hb hts hown hX hw flX9_7 rfl dX9_slid_53 (fun a11 hf => ?_)
      refine lv_iconst (v := 0) hx hb dX9_slid_56 (by decide) ?_
      refine h_iald hf hx hb hX hw dX9_slid_57 (fun x12 hf => ?_)
      refine lv_iadd hx hb dX9_slid_58 ?_
      exact h_iret hf hx hb hr hlk hw dX9_slid_59
    · have hf := ifn hc hf
      refine lv_iconst (v := 0) hx hb dX9_slid_18 (by decide) ?_
      refine lv_goto (tgt := 59) hx hb dX9_slid_19 (by decide) ?_
      exact h_iret hf hx hb hr hlk hw dX9_slid_59
  · have hf := ifn hc hf
    refine lv_ldcw hx hb hown (hts _ kcX9_277) dX9_slid_7 ?_
    exact h_iret hf hx hb hr hlk hw dX9_slid_10
theorem c_X9_slid (l : Launch) (E : hE) (B : Nat) (T : hT) (a0 : Nat) (u0 : hM) {z : Int32 × hM} (hf : fX9_slid T a0 u0 = some z) : h_Ct l E B T yX9_slid cX9_slid 1 (some .int) 1 [.ref (B + a0)] u0 z.2 (some (.int z.1)) := h_ofW (by decide) (Nat.le_of_ble_eq_true rfl) (fun p e s m below meth c ls hΓ hl hw => wX9_slid hΓ hf hw hl)
def fX9_score (T : hT) (a0 : Nat) (p1 : Int32) (u0 : hM) : Option (Int32 × hM) := (fX9_in T p1.toInt64 (0 : Int64) (3 : Int64) u0).bind fun q1 => if q1.1 = 0 then (some ((-1000000002 : Int32), q1.2)) else ((gti T q1.2 a0 9 9).bind fun x2 => if 0 ≤ x2 then ((gtr T q1.2 a0 9 10).bind fun a3 => (gti T q1.2 a0 9 9).bind fun x4 => (vc T a0 9 (fX9_scoreOf T a0 a3 x4 p1 q1.2)).bind fun q5 => some (q5.1, q5.2)) else (some ((-1000000003 : Int32), q1.2)))
set_option maxRecDepth 100000 in
set_option maxHeartbeats 4000000 in
theorem wX9_score {a0 : Nat} {p1 : Int32} {u0 : hM} {z : Int32 × hM} {ls : Array Slot} (hΓ : h_Γ E B T p s m args meth c cX9_score 2 (some .int) RX9) (hf : fX9_score T a0 p1 u0 = some z) (hw : h_W E B T s.heap u0 s.heap []) (hl : lv_has ls 2 [(0, .ref (B + a0)), (1, .int p1)]) : W p l e (h_rm 3) s m args below meth c s.heap [] 0 0 (h_Qi below E B T args s z) (F0 m 0 ls []) := by
  obtain ⟨hx, hb, hr, hml, hts, hown, hlk, hX⟩ := id hΓ
  unfold fX9_score at hf
  refine lv_iload_n hx hb dX9_score_0 rfl (lv_at hl 1 rfl) ?_
  refine lv_i2l hx hb dX9_score_1 rfl ?_
  refine lv_lconst (v := 0) hx hb dX9_score_2 (by decide) ?_
  refine lv_ldc2 hx hb hown (hts _ klX9_225) dX9_score_3 ?_
  refine h_cSi (As := [.long p1.toInt64, .long (0 : Int64), .long (3 : Int64)]) (rest := []) hf hx hb hml hts hown hX hw myX9_in msX9_in lkX9_90 (fun q hq => c_X9_in l E B T p1.toInt64 (0 : Int64) (3 : Int64) u0 hq) ⟨Nat.le_of_ble_eq_true rfl, Nat.le_of_ble_eq_true rfl⟩ ⟨Nat.le_refl _, Nat.le_refl _⟩ rfl hl.1 rfl (Nat.le_of_ble_eq_true rfl) dX9_score_6 (fun q1 H1 L1 hf hw => ?_)
  refine lv_if_ne (tgt := 15) hx hb dX9_score_9 (by decide) (fun hc => ?_) (fun hc => ?_)
  · have hf := ifn hc hf
    refine lv_aload_n hx hb dX9_score_15 rfl (lv_at hl 0 rfl) ?_
    refine h_geti hf hx hb hts hown hX hw flX9_29 rfl dX9_score_16 (fun x2 hf => ?_)
    refine lv_if_ge (tgt := 28) hx hb dX9_score_19 (by decide) (fun hc => ?_) (fun hc => ?_)
    · have hf := ifp hc hf
      refine lv_aload_n hx hb dX9_score_28 rfl (lv_at hl 0 rfl) ?_
      refine lv_aload_n hx hb dX9_score_29 rfl (lv_at hl 0 rfl) ?_
      refine h_getr hf hx hb hts hown hX hw flX9_33 rfl dX9_score_30 (fun a3 hf => ?_)
      refine lv_aload_n hx hb dX9_score_33 rfl (lv_at hl 0 rfl) ?_
      refine h_geti hf hx hb hts hown hX hw flX9_29 rfl dX9_score_34 (fun x4 hf => ?_)
      refine lv_iload_n hx hb dX9_score_37 rfl (lv_at hl 1 rfl) ?_
      refine h_cVi (As := [.ref (B + a3), .int x4, .int p1]) (rest := []) hf hx hb hml hts hown hX hw myX9_scoreOf miX9_scoreOf lkX9_273 ⟨rfl, by decide⟩ (fun q hq => c_X9_scoreOf l E B T a0 a3 x4 p1 q1.2 hq) ⟨Nat.le_of_ble_eq_true rfl, Nat.le_of_ble_eq_true rfl⟩ ⟨Nat.le_refl _, Nat.le_refl _⟩ rfl hl.1 rfl (Nat.le_of_ble_eq_true rfl) dX9_score_38 (fun q5 H5 L5 hf hw => ?_)
      exact h_iret hf hx hb hr hlk hw dX9_score_41
    · have hf := ifn hc hf
      refine lv_ldcw hx hb hown (hts _ kcX9_277) dX9_score_22 ?_
      refine lv_goto (tgt := 41) hx hb dX9_score_25 (by decide) ?_
      exact h_iret hf hx hb hr hlk hw dX9_score_41
  · have hf := ifp hc hf
    refine lv_ldc hx hb hown (hts _ kcX9_99) dX9_score_12 ?_
    exact h_iret hf hx hb hr hlk hw dX9_score_14
theorem c_X9_score (l : Launch) (E : hE) (B : Nat) (T : hT) (a0 : Nat) (p1 : Int32) (u0 : hM) {z : Int32 × hM} (hf : fX9_score T a0 p1 u0 = some z) : h_Ct l E B T yX9_score cX9_score 2 (some .int) 3 [.ref (B + a0), .int p1] u0 z.2 (some (.int z.1)) := h_ofW (by decide) (Nat.le_of_ble_eq_true rfl) (fun p e s m below meth c ls hΓ hl hw => wX9_score hΓ hf hw hl)
def fX9_calls (T : hT) (a0 : Nat) (u0 : hM) : Option (Int32 × hM) := (gti T u0 a0 9 9).bind fun x1 => if 0 ≤ x1 then ((vc T a0 9 (fX9_isSilent T a0 u0)).bind fun q2 => if q2.1 = 0 then ((gtr T q2.2 a0 9 10).bind fun a3 => (gti T q2.2 a0 9 9).bind fun x4 => (vc T a0 9 (fX9_scoreOf T a0 a3 x4 (0 : Int32) q2.2)).bind fun q5 => (gti T q5.2 a0 9 0).bind fun x6 => lt (if (x6 - (1 : Int32)) ≤ q5.1 then (0 : Int32) else (1 : Int32)) fun x7 => (gtr T q5.2 a0 9 10).bind fun a8 => (gti T q5.2 a0 9 9).bind fun x9 => (vc T a0 9 (fX9_scoreOf T a0 a8 x9 (1 : Int32) q5.2)).bind fun q10 => (gti T q10.2 a0 9 0).bind fun x11 => lt (if x11 ≤ q10.1 then (0 : Int32) else (2 : Int32)) fun x12 => lt ((x7 ||| x12)) fun x13 => (gtr T q10.2 a0 9 10).bind fun a14 => (gti T q10.2 a0 9 9).bind fun x15 => (vc T a0 9 (fX9_scoreOf T a0 a14 x15 (2 : Int32) q10.2)).bind fun q16 => lt (if q16.1 = 0 then (4 : Int32) else (0 : Int32)) fun x17 => lt ((x13 ||| x17)) fun x18 => (gtr T q16.2 a0 9 10).bind fun a19 => (gti T q16.2 a0 9 9).bind fun x20 => (vc T a0 9 (fX9_scoreOf T a0 a19 x20 (3 : Int32) q16.2)).bind fun q21 => lt (if q21.1 = 0 then (8 : Int32) else (0 : Int32)) fun x22 => some ((x18 ||| x22), q21.2)) else (some ((15 : Int32), q2.2))) else (some ((-1000000003 : Int32), u0))
set_option maxRecDepth 100000 in
set_option maxHeartbeats 4000000 in
theorem wX9_calls {a0 : Nat} {u0 : hM} {z : Int32 × hM} {ls : Array Slot} (hΓ : h_Γ E B T p s m args meth c cX9_calls 2 (some .int) RX9) (hf : fX9_calls T a0 u0 = some z) (hw : h_W E B T s.heap u0 s.heap []) (hl : lv_has ls 2 [(0, .ref (B + a0))]) : W p l e (h_rm 3) s m args below meth c s.heap [] 0 0 (h_Qi below E B T args s z) (F0 m 0 ls []) := by
  obtain ⟨hx, hb, hr, hml, hts, hown, hlk, hX⟩ := id hΓ
  unfold fX9_calls at hf
  refine lv_aload_n hx hb dX9_calls_0 rfl (lv_at hl 0 rfl) ?_
  refine h_geti hf hx hb hts hown hX hw flX9_29 rfl dX9_calls_1 (fun x1 hf => ?_)
  refine lv_if_ge (tgt := 11) hx hb dX9_calls_4 (by decide) (fun hc => ?_) (fun hc => ?_)
  · have hf := ifp hc hf
    refine lv_aload_n hx hb dX9_calls_11 rfl (lv_at hl 0 rfl) ?_
    refine h_cVi (As := []) (rest := []) hf hx hb hml hts hown hX hw myX9_isSilent miX9_isSilent lkX9_278 ⟨rfl, by decide⟩ (fun q hq => c_X9_isSilent l E B T a0 u0 hq) ⟨Nat.le_of_ble_eq_true rfl, Nat.le_of_ble_eq_true rfl⟩ ⟨Nat.le_refl _, Nat.le_refl _⟩ rfl hl.1 rfl (Nat.le_of_ble_eq_true rfl) dX9_calls_12 (fun q2 H2 L2 hf hw => ?_)
    refine lv_if_eq (tgt := 21) hx hb dX9_calls_15 (by decide) (fun hc => ?_) (fun hc => ?_)
    · have hf := ifp hc hf
      refine lv_aload_n hx hb dX9_calls_21 rfl (lv_at hl 0 rfl) ?_
      refine lv_aload_n hx hb dX9_calls_22 rfl (lv_at hl 0 rfl) ?_
      refine h_getr hf hx hb hts hown hX hw flX9_33 rfl dX9_calls_23 (fun a3 hf => ?_)
      refine lv_aload_n hx hb dX9_calls_26 rfl (lv_at hl 0 rfl) ?_
      refine h_geti hf hx hb hts hown hX hw flX9_29 rfl dX9_calls_27 (fun x4 hf => ?_)
      refine lv_iconst (v := 0) hx hb dX9_calls_30 (by decide) ?_
      refine h_cVi (As := [.ref (B + a3), .int x4, .int (0 : Int32)]) (rest := []) hf hx hb hml hts hown hX hw myX9_scoreOf miX9_scoreOf lkX9_273 ⟨rfl, by decide⟩ (fun q hq => c_X9_scoreOf l E B T a0 a3 x4 (0 : Int32) q2.2 hq) ⟨Nat.le_of_ble_eq_true rfl, Nat.le_of_ble_eq_true rfl⟩ ⟨Nat.le_refl _, Nat.le_refl _⟩ rfl hl.1 rfl (Nat.le_of_ble_eq_true rfl) dX9_calls_31 (fun q5 H5 L5 hf hw => ?_)
      refine lv_aload_n hx hb dX9_calls_34 rfl (lv_at hl 0 rfl) ?_
      refine h_geti hf hx hb hts hown hX hw flX9_178 rfl dX9_calls_35 (fun x6 hf => ?_)
      refine lv_iconst (v := 1) hx hb dX9_calls_38 (by decide) ?_
      refine lv_isub hx hb dX9_calls_39 ?_
      refine h_ite (ls := ls) (jj := 48) (rest := []) hf (fun k1 k2 => ?_) (fun x7 hf => ?_)
      · refine lv_icmp_ge (tgt := 47) hx hb dX9_calls_40 (by decide) (fun hc => ?_) (fun hc => ?_)
        · refine lv_iconst (v := 0) hx hb dX9_calls_47 (by decide) ?_
          exact k1 hc
        · refine lv_iconst (v := 1) hx hb dX9_calls_43 (by decide) ?_
          refine lv_goto (tgt := 48) hx hb dX9_calls_44 (by decide) ?_
          exact k2 hc
      · refine lv_istore_n (lv' := [(1, .int x7), (0, .ref (B + a0))]) hx hb dX9_calls_48 rfl hl (by decide) rfl (fun ls hl => ?_)
        refine lv_iload_n hx hb dX9_calls_49 rfl (lv_at hl 0 rfl) ?_
        refine lv_aload_n hx hb dX9_calls_50 rfl (lv_at hl 1 rfl) ?_
        refine lv_aload_n hx hb dX9_calls_51 rfl (lv_at hl 1 rfl) ?_
        refine h_getr hf hx hb hts hown hX hw flX9_33 rfl dX9_calls_52 (fun a8 hf => ?_)
        refine lv_aload_n hx hb dX9_calls_55 rfl (lv_at hl 1 rfl) ?_
        refine h_geti hf hx hb hts hown hX hw flX9_29 rfl dX9_calls_56 (fun x9 hf => ?_)
        refine lv_iconst (v := 1) hx hb dX9_calls_59 (by decide) ?_
        refine h_cVi (As := [.ref (B + a8), .int x9, .int (1 : Int32)]) (rest := [.int x7]) hf hx hb hml hts hown hX hw myX9_scoreOf miX9_scoreOf lkX9_273 ⟨rfl, by decide⟩ (fun q hq => c_X9_scoreOf l E B T a0 a8 x9 (1 : Int32) q5.2 hq) ⟨Nat.le_of_ble_eq_true rfl, Nat.le_of_ble_eq_true rfl⟩ ⟨Nat.le_refl _, Nat.le_refl _⟩ rfl hl.1 rfl (Nat.le_of_ble_eq_true rfl) dX9_calls_60 (fun q10 H10 L10 hf hw => ?_)
        refine lv_aload_n hx hb dX9_calls_63 rfl (lv_at hl 1 rfl) ?_
        refine h_geti hf hx hb hts hown hX hw flX9_178 rfl dX9_calls_64 (fun x11 hf => ?_)
        refine h_ite (ls := ls) (jj := 75) (rest := [.int x7]) hf (fun k1 k2 => ?_) (fun x12 hf => ?_)
        · refine lv_icmp_ge (tgt := 74) hx hb dX9_calls_67 (by decide) (fun hc => ?_) (fun hc => ?_)
          · refine lv_iconst (v := 0) hx hb dX9_calls_74 (by decide) ?_
            exact k1 hc
          · refine lv_iconst (v := 2) hx hb dX9_calls_70 (by decide) ?_
            refine lv_goto (tgt := 75) hx hb dX9_calls_71 (by decide) ?_
            exact k2 hc
        · refine lv_ior hx hb dX9_calls_75 ?_
          refine h_nmi hf (fun x13 hf => ?_)
          refine lv_istore_n (lv' := [(1, .int x13), (0, .ref (B + a0))]) hx hb dX9_calls_76 rfl hl (by decide) rfl (fun ls hl => ?_)
          refine lv_iload_n hx hb dX9_calls_77 rfl (lv_at hl 0 rfl) ?_
          refine lv_aload_n hx hb dX9_calls_78 rfl (lv_at hl 1 rfl) ?_
          refine lv_aload_n hx hb dX9_calls_79 rfl (lv_at hl 1 rfl) ?_
          refine h_getr hf hx hb hts hown hX hw flX9_33 rfl dX9_calls_80 (fun a14 hf => ?_)
          refine lv_aload_n hx hb dX9_calls_83 rfl (lv_at hl 1 rfl) ?_
          refine h_geti hf hx hb hts hown hX hw flX9_29 rfl dX9_calls_84 (fun x15 hf => ?_)
          refine lv_iconst (v := 2) hx hb dX9_calls_87 (by decide) ?_
          refine h_cVi (As := [.ref (B + a14), .int x15, .int (2 : Int32)]) (rest := [.int x13]) hf hx hb hml hts hown hX hw myX9_scoreOf miX9_scoreOf lkX9_273 ⟨rfl, by decide⟩ (fun q hq => c_X9_scoreOf l E B T a0 a14 x15 (2 : Int32) q10.2 hq) ⟨Nat.le_of_ble_eq_true rfl, Nat.le_of_ble_eq_true rfl⟩ ⟨Nat.le_refl _, Nat.le_refl _⟩ rfl hl.1 rfl (Nat.le_of_ble_eq_true rfl) dX9_calls_88 (fun q16 H16 L16 hf hw => ?_)
          refine h_ite (ls := ls) (jj := 99) (rest := [.int x13]) hf (fun k1 k2 => ?_) (fun x17 hf => ?_)
          · refine lv_if_ne (tgt := 98) hx hb dX9_calls_91 (by decide) (fun hc => ?_) (fun hc => ?_)
            · refine lv_iconst (v := 0) hx hb dX9_calls_98 (by decide) ?_
              exact k2 hc
            · refine lv_iconst (v := 4) hx hb dX9_calls_94 (by decide) ?_
              refine lv_goto (tgt := 99) hx hb dX9_calls_95 (by decide) ?_
              exact k1 hc
          · refine lv_ior hx hb dX9_calls_99 ?_
            refine h_nmi hf (fun x18 hf => ?_)
            refine lv_istore_n (lv' := [(1, .int x18), (0, .ref (B + a0))]) hx hb dX9_calls_100 rfl hl (by decide) rfl (fun ls hl => ?_)
            refine lv_iload_n hx hb dX9_calls_101 rfl (lv_at hl 0 rfl) ?_
            refine lv_aload_n hx hb dX9_calls_102 rfl (lv_at hl 1 rfl) ?_
            refine lv_aload_n hx hb dX9_calls_103 rfl (lv_at hl 1 rfl) ?_
            refine h_getr hf hx hb hts hown hX hw flX9_33 rfl dX9_calls_104 (fun a19 hf => ?_)
            refine lv_aload_n hx hb dX9_calls_107 rfl (lv_at hl 1 rfl) ?_
            refine h_geti hf hx hb hts hown hX hw flX9_29 rfl dX9_calls_108 (fun x20 hf => ?_)
            refine lv_iconst (v := 3) hx hb dX9_calls_111 (by decide) ?_
            refine h_cVi (As := [.ref (B + a19), .int x20, .int (3 : Int32)]) (rest := [.int x18]) hf hx hb hml hts hown hX hw myX9_scoreOf miX9_scoreOf lkX9_273 ⟨rfl, by decide⟩ (fun q hq => c_X9_scoreOf l E B T a0 a19 x20 (3 : Int32) q16.2 hq) ⟨Nat.le_of_ble_eq_true rfl, Nat.le_of_ble_eq_true rfl⟩ ⟨Nat.le_refl _, Nat.le_refl _⟩ rfl hl.1 rfl (Nat.le_of_ble_eq_true rfl) dX9_calls_112 (fun q21 H21 L21 hf hw => ?_)
            refine h_ite (ls := ls) (jj := 124) (rest := [.int x18]) hf (fun k1 k2 => ?_) (fun x22 hf => ?_)
            · refine lv_if_ne (tgt := 123) hx hb dX9_calls_115 (by decide) (fun hc => ?_) (fun hc => ?_)
              · refine lv_iconst (v := 0) hx hb dX9_calls_123 (by decide) ?_
                exact k2 hc
              · refine lv_bipush (v := 8) hx hb dX9_calls_118 (by decide) ?_
                refine lv_goto (tgt := 124) hx hb dX9_calls_120 (by decide) ?_
                exact k1 hc
            · refine lv_ior hx hb dX9_calls_124 ?_
              exact h_iret hf hx hb hr hlk hw dX9_calls_125
    · have hf := ifn hc hf
      refine lv_bipush (v := 15) hx hb dX9_calls_18 (by decide) ?_
      exact h_iret hf hx hb hr hlk hw dX9_calls_20
  · have hf := ifn hc hf
    refine lv_ldcw hx hb hown (hts _ kcX9_277) dX9_calls_7 ?_
    exact h_iret hf hx hb hr hlk hw dX9_calls_10
theorem c_X9_calls (l : Launch) (E : hE) (B : Nat) (T : hT) (a0 : Nat) (u0 : hM) {z : Int32 × hM} (hf : fX9_calls T a0 u0 = some z) : h_Ct l E B T yX9_calls cX9_calls 2 (some .int) 3 [.ref (B + a0)] u0 z.2 (some (.int z.1)) := h_ofW (by decide) (Nat.le_of_ble_eq_true rfl) (fun p e s m below meth c ls hΓ hl hw => wX9_calls hΓ hf hw hl)
def fX9_fooled_L34 (T : hT) (c0 : Nat) (c4 : Int32) (ex : Int32 → hM → Option (Int32 × hM)) : Nat → Int32 → Int32 → hM → Option (Int32 × hM)
  | 0, _, _, _ => none
  | n + 1, v5, v6, u0 => (gti T u0 c0 9 0).bind fun x2 => if x2 ≤ v6 then (ex v5 u0) else ((gtr T u0 c0 9 1).bind fun a3 => (ald 11 T u0 a3 v6).bind fun x4 => (fX9_isNear T (x4 - c4) u0).bind fun q5 => lt (if q5.1 = 0 then (0 : Int32) else (1 : Int32)) fun x6 => lt ((v5 + x6)) fun x7 => lt (v6 + (1 : Int32)) fun x8 => fX9_fooled_L34 T c0 c4 ex n x7 x8 q5.2)
def fX9_fooled_L20 (T : hT) (c0 : Nat) (ex : Int32 → Int32 → hM → Option (Int32 × hM)) : Nat → Int32 → Int32 → Int32 → hM → Option (Int32 × hM)
  | 0, _, _, _, _ => none
  | n + 1, v2, v3, v4, u0 => if (3600 : Int32) < v4 then (ex v2 v3 u0) else (fX9_fooled_L34 T c0 v4 (fun (x9 : Int32) (u10 : hM) => lt (if x9 ≤ v3 then v2 else v4) fun x11 => lt (if x9 ≤ v3 then v3 else x9) fun x12 => lt (v4 + (50 : Int32)) fun x13 => fX9_fooled_L20 T c0 ex n x11 x12 x13 u10) 6000 (0 : Int32) (0 : Int32) u0)
def fX9_fooled (T : hT) (a0 : Nat) (p1 : Int32) (u0 : hM) : Option (Int32 × hM) := (fX9_in T p1.toInt64 (0 : Int64) (1 : Int64) u0).bind fun q1 => if q1.1 = 0 then (some ((-1000000002 : Int32), q1.2)) else (fX9_fooled_L20 T a0 (fun (x14 : Int32) (x15 : Int32) (u16 : hM) => if p1 = 0 then (some (x14, u16)) else (some (x15, u16))) 6000 (-1 : Int32) (0 : Int32) (0 : Int32) q1.2)
set_option maxRecDepth 100000 in
set_option maxHeartbeats 4000000 in
theorem wfX9_fooled_L34 {c0 : Nat} {c1 : Int32} {c2 : Int32} {c3 : Int32} {c4 : Int32} {ex : Int32 → hM → Option (Int32 × hM)} {z : Int32 × hM} (hΓ : h_Γ E B T p s m args meth c cX9_fooled 7 (some .int) RX9) (hex : ∀ (y5 : Int32) (u9 : hM) (H9 : Heap) (L9 : List Loc) (ls : Array Slot), ex y5 u9 = some z → h_W E B T s.heap u9 H9 L9 → lv_has ls 7 [(0, .ref (B + c0)), (1, .int c1), (2, .int c2), (3, .int c3), (4, .int c4), (5, .int y5)] → W p l e (h_rm 2) s m args below meth c H9 L9 0 0 (h_Qi below E B T args s z) (F0 m 75 ls [])) : ∀ (n : Nat) (v5 : Int32) (v6 : Int32) (u0 : hM) (H0 : Heap) (L0 : List Loc) (ls : Array Slot), fX9_fooled_L34 T c0 c4 ex n v5 v6 u0 = some z → h_W E B T s.heap u0 H0 L0 → lv_has ls 7 [(0, .ref (B + c0)), (1, .int c1), (2, .int c2), (3, .int c3), (4, .int c4), (5, .int v5), (6, .int v6)] → W p l e (h_rm 2) s m args below meth c H0 L0 0 0 (h_Qi below E B T args s z) (F0 m 34 ls []) := by
  obtain ⟨hx, hb, hr, hml, hts, hown, hlk, hX⟩ := id hΓ
  intro n
  induction n with
  | zero =>
    intro v5 v6 u0 H0 L0 ls hf hw hl
    exact absurd (show (none : Option (Int32 × hM)) = some z from hf) (fun h => by cases h)
  | succ n ih =>
    intro v5 v6 u0 H0 L0 ls hf hw hl
    rw [fX9_fooled_L34] at hf
    refine lv_iload hx hb dX9_fooled_34 (lv_at hl 6 rfl) ?_
    refine lv_aload_n hx hb dX9_fooled_36 rfl (lv_at hl 0 rfl) ?_
    refine h_geti hf hx hb hts hown hX hw flX9_178 rfl dX9_fooled_37 (fun x2 hf => ?_)
    refine lv_icmp_ge (tgt := 75) hx hb dX9_fooled_40 (by decide) (fun hc => ?_) (fun hc => ?_)
    · have hf := ifp hc hf
      exact hex v5 u0 _ _ _ hf hw (lv_sub hl [0, 1, 2, 3, 4, 5] rfl)
    · have hf := ifn hc hf
      refine lv_iload hx hb dX9_fooled_43 (lv_at hl 5 rfl) ?_
      refine lv_aload_n hx hb dX9_fooled_45 rfl (lv_at hl 0 rfl) ?_
      refine h_getr hf hx hb hts hown hX hw flX9_7 rfl dX9_fooled_46 (fun a3 hf => ?_)
      refine lv_iload hx hb dX9_fooled_49 (lv_at hl 6 rfl) ?_
      refine h_iald hf hx hb hX hw dX9_fooled_51 (fun x4 hf => ?_)
      refine lv_iload hx hb dX9_fooled_52 (lv_at hl 4 rfl) ?_
      refine lv_isub hx hb dX9_fooled_54 ?_
      refine h_cSi (As := [.int (x4 - c4)]) (rest := [.int v5]) hf hx hb hml hts hown hX hw myX9_isNear msX9_isNear lkX9_264 (fun q hq => c_X9_isNear l E B T (x4 - c4) u0 hq) ⟨Nat.le_of_ble_eq_true rfl, Nat.le_of_ble_eq_true rfl⟩ ⟨Nat.le_refl _, Nat.le_refl _⟩ rfl hl.1 rfl (Nat.le_of_ble_eq_true rfl) dX9_fooled_55 (fun q5 H5 L5 hf hw => ?_)
      refine h_ite (ls := ls) (jj := 66) (rest := [.int v5]) hf (fun k1 k2 => ?_) (fun x6 hf => ?_)
      · refine lv_if_eq (tgt := 65) hx hb dX9_fooled_58 (by decide) (fun hc => ?_) (fun hc => ?_)
        · refine lv_iconst (v := 0) hx hb dX9_fooled_65 (by decide) ?_
          exact k1 hc
        · refine lv_iconst (v := 1) hx hb dX9_fooled_61 (by decide) ?_
          refine lv_goto (tgt := 66) hx hb dX9_fooled_62 (by decide) ?_
          exact k2 hc
      · refine lv_iadd hx hb dX9_fooled_66 ?_
        refine h_nmi hf (fun x7 hf => ?_)
        refine lv_istore (lv' := [(5, .int x7), (0, .ref (B + c0)), (1, .int c1), (2, .int c2), (3, .int c3), (4, .int c4), (6, .int v6)]) hx hb dX9_fooled_67 hl (by decide) rfl (fun ls hl => ?_)
        refine h_iinc (k := 6) hf hx hb dX9_fooled_69 hl rfl (by decide) (by decide) (fun x8 ls hf hl => ?_)
        have hl : lv_has ls 7 [(6, .int x8), (5, .int x7), (0, .ref (B + c0)), (1, .int c1), (2, .int c2), (3, .int c3), (4, .int c4)] := hl
        refine lv_goto (tgt := 34) hx hb dX9_fooled_72 (by decide) ?_
        exact ih x7 x8 q5.2 _ _ _ hf hw (lv_sub hl [2, 3, 4, 5, 6, 1, 0] rfl)
set_option maxRecDepth 100000 in
set_option maxHeartbeats 4000000 in
theorem wfX9_fooled_L20 {c0 : Nat} {c1 : Int32} {ex : Int32 → Int32 → hM → Option (Int32 × hM)} {z : Int32 × hM} (hΓ : h_Γ E B T p s m args meth c cX9_fooled 7 (some .int) RX9) (hex : ∀ (y2 : Int32) (y3 : Int32) (u9 : hM) (H9 : Heap) (L9 : List Loc) (ls : Array Slot), ex y2 y3 u9 = some z → h_W E B T s.heap u9 H9 L9 → lv_has ls 7 [(1, .int c1), (2, .int y2), (3, .int y3)] → W p l e (h_rm 2) s m args below meth c H9 L9 0 0 (h_Qi below E B T args s z) (F0 m 107 ls [])) : ∀ (n : Nat) (v2 : Int32) (v3 : Int32) (v4 : Int32) (u0 : hM) (H0 : Heap) (L0 : List Loc) (ls : Array Slot), fX9_fooled_L20 T c0 ex n v2 v3 v4 u0 = some z → h_W E B T s.heap u0 H0 L0 → lv_has ls 7 [(0, .ref (B + c0)), (1, .int c1), (2, .int v2), (3, .int v3), (4, .int v4)] → W p l e (h_rm 2) s m args below meth c H0 L0 0 0 (h_Qi below E B T args s z) (F0 m 20 ls []) := by
  obtain ⟨hx, hb, hr, hml, hts, hown, hlk, hX⟩ := id hΓ
  intro n
  induction n with
  | zero =>
    intro v2 v3 v4 u0 H0 L0 ls hf hw hl
    exact absurd (show (none : Option (Int32 × hM)) = some z from hf) (fun h => by cases h)
  | succ n ih =>
    intro v2 v3 v4 u0 H0 L0 ls hf hw hl
    rw [fX9_fooled_L20] at hf
    refine lv_iload hx hb dX9_fooled_20 (lv_at hl 4 rfl) ?_
    refine lv_sipush (v := 3600) hx hb dX9_fooled_22 (by decide) ?_
    refine lv_icmp_gt (tgt := 107) hx hb dX9_fooled_25 (by decide) (fun hc => ?_) (fun hc => ?_)
    · have hf := ifp hc hf
      exact hex v2 v3 u0 _ _ _ hf hw (lv_sub hl [1, 2, 3] rfl)
    · have hf := ifn hc hf
      refine lv_iconst (v := 0) hx hb dX9_fooled_28 (by decide) ?_
      refine lv_istore (lv' := [(5, .int (0 : Int32)), (0, .ref (B + c0)), (1, .int c1), (2, .int v2), (3, .int v3), (4, .int v4)]) hx hb dX9_fooled_29 hl (by decide) rfl (fun ls hl => ?_)
      refine lv_iconst (v := 0) hx hb dX9_fooled_31 (by decide) ?_
      refine lv_istore (lv' := [(6, .int (0 : Int32)), (5, .int (0 : Int32)), (0, .ref (B + c0)), (1, .int c1), (2, .int v2), (3, .int v3), (4, .int v4)]) hx hb dX9_fooled_32 hl (by decide) rfl (fun ls hl => ?_)
      refine wfX9_fooled_L34 hΓ ?_ 6000 (0 : Int32) (0 : Int32) u0 _ _ _ hf hw (lv_sub hl [2, 3, 4, 5, 6, 1, 0] rfl)
      intro x9 u10 H10 L10 ls hf hw hl
      refine lv_iload hx hb dX9_fooled_75 (lv_at hl 5 rfl) ?_
      refine lv_iload_n hx hb dX9_fooled_77 rfl (lv_at hl 3 rfl) ?_
      refine h_ite (ls := ls) (jj := 87) (rest := []) hf (fun k1 k2 => ?_) (fun x11 hf => ?_)
      · refine lv_icmp_le (tgt := 86) hx hb dX9_fooled_78 (by decide) (fun hc => ?_) (fun hc => ?_)
        · refine lv_iload_n hx hb dX9_fooled_86 rfl (lv_at hl 2 rfl) ?_
          exact k1 hc
        · refine lv_iload hx hb dX9_fooled_81 (lv_at hl 4 rfl) ?_
          refine lv_goto (tgt := 87) hx hb dX9_fooled_83 (by decide) ?_
          exact k2 hc
      · refine lv_istore_n (lv' := [(2, .int x11), (0, .ref (B + c0)), (1, .int c1), (3, .int v3), (4, .int v4), (5, .int x9)]) hx hb dX9_fooled_87 rfl hl (by decide) rfl (fun ls hl => ?_)
        refine lv_iload hx hb dX9_fooled_88 (lv_at hl 5 rfl) ?_
        refine lv_iload_n hx hb dX9_fooled_90 rfl (lv_at hl 3 rfl) ?_
        refine h_ite (ls := ls) (jj := 100) (rest := []) hf (fun k1 k2 => ?_) (fun x12 hf => ?_)
        · refine lv_icmp_le (tgt := 99) hx hb dX9_fooled_91 (by decide) (fun hc => ?_) (fun hc => ?_)
          · refine lv_iload_n hx hb dX9_fooled_99 rfl (lv_at hl 3 rfl) ?_
            exact k1 hc
          · refine lv_iload hx hb dX9_fooled_94 (lv_at hl 5 rfl) ?_
            refine lv_goto (tgt := 100) hx hb dX9_fooled_96 (by decide) ?_
            exact k2 hc
        · refine lv_istore_n (lv' := [(3, .int x12), (2, .int x11), (0, .ref (B + c0)), (1, .int c1), (4, .int v4), (5, .int x9)]) hx hb dX9_fooled_100 rfl hl (by decide) rfl (fun ls hl => ?_)
          refine h_iinc (k := 4) hf hx hb dX9_fooled_101 hl rfl (by decide) (by decide) (fun x13 ls hf hl => ?_)
          have hl : lv_has ls 7 [(4, .int x13), (3, .int x12), (2, .int x11), (0, .ref (B + c0)), (1, .int c1), (5, .int x9)] := hl
          refine lv_goto (tgt := 20) hx hb dX9_fooled_104 (by decide) ?_
          exact ih x11 x12 x13 u10 _ _ _ hf hw (lv_sub hl [3, 4, 2, 1, 0] rfl)
set_option maxRecDepth 100000 in
set_option maxHeartbeats 4000000 in
theorem wX9_fooled {a0 : Nat} {p1 : Int32} {u0 : hM} {z : Int32 × hM} {ls : Array Slot} (hΓ : h_Γ E B T p s m args meth c cX9_fooled 7 (some .int) RX9) (hf : fX9_fooled T a0 p1 u0 = some z) (hw : h_W E B T s.heap u0 s.heap []) (hl : lv_has ls 7 [(0, .ref (B + a0)), (1, .int p1)]) : W p l e (h_rm 2) s m args below meth c s.heap [] 0 0 (h_Qi below E B T args s z) (F0 m 0 ls []) := by
  obtain ⟨hx, hb, hr, hml, hts, hown, hlk, hX⟩ := id hΓ
  unfold fX9_fooled at hf
  refine lv_iload_n hx hb dX9_fooled_0 rfl (lv_at hl 1 rfl) ?_
  refine lv_i2l hx hb dX9_fooled_1 rfl ?_
  refine lv_lconst (v := 0) hx hb dX9_fooled_2 (by decide) ?_
  refine lv_lconst (v := 1) hx hb dX9_fooled_3 (by decide) ?_
  refine h_cSi (As := [.long p1.toInt64, .long (0 : Int64), .long (1 : Int64)]) (rest := []) hf hx hb hml hts hown hX hw myX9_in msX9_in lkX9_90 (fun q hq => c_X9_in l E B T p1.toInt64 (0 : Int64) (1 : Int64) u0 hq) ⟨Nat.le_of_ble_eq_true rfl, Nat.le_of_ble_eq_true rfl⟩ ⟨Nat.le_refl _, Nat.le_refl _⟩ rfl hl.1 rfl (Nat.le_of_ble_eq_true rfl) dX9_fooled_4 (fun q1 H1 L1 hf hw => ?_)
  refine lv_if_ne (tgt := 13) hx hb dX9_fooled_7 (by decide) (fun hc => ?_) (fun hc => ?_)
  · have hf := ifn hc hf
    refine lv_iconst (v := -1) hx hb dX9_fooled_13 (by decide) ?_
    refine lv_istore_n (lv' := [(2, .int (-1 : Int32)), (0, .ref (B + a0)), (1, .int p1)]) hx hb dX9_fooled_14 rfl hl (by decide) rfl (fun ls hl => ?_)
    refine lv_iconst (v := 0) hx hb dX9_fooled_15 (by decide) ?_
    refine lv_istore_n (lv' := [(3, .int (0 : Int32)), (2, .int (-1 : Int32)), (0, .ref (B + a0)), (1, .int p1)]) hx hb dX9_fooled_16 rfl hl (by decide) rfl (fun ls hl => ?_)
    refine lv_iconst (v := 0) hx hb dX9_fooled_17 (by decide) ?_
    refine lv_istore (lv' := [(4, .int (0 : Int32)), (3, .int (0 : Int32)), (2, .int (-1 : Int32)), (0, .ref (B + a0)), (1, .int p1)]) hx hb dX9_fooled_18 hl (by decide) rfl (fun ls hl => ?_)
    refine wfX9_fooled_L20 hΓ ?_ 6000 (-1 : Int32) (0 : Int32) (0 : Int32) q1.2 _ _ _ hf hw (lv_sub hl [3, 4, 2, 1, 0] rfl)
    intro x14 x15 u16 H16 L16 ls hf hw hl
    refine lv_iload_n hx hb dX9_fooled_107 rfl (lv_at hl 0 rfl) ?_
    refine lv_if_ne (tgt := 115) hx hb dX9_fooled_108 (by decide) (fun hc => ?_) (fun hc => ?_)
    · have hf := ifn hc hf
      refine lv_iload_n hx hb dX9_fooled_115 rfl (lv_at hl 2 rfl) ?_
      exact h_iret hf hx hb hr hlk hw dX9_fooled_116
    · have hf := ifp hc hf
      refine lv_iload_n hx hb dX9_fooled_111 rfl (lv_at hl 1 rfl) ?_
      refine lv_goto (tgt := 116) hx hb dX9_fooled_112 (by decide) ?_
      exact h_iret hf hx hb hr hlk hw dX9_fooled_116
  · have hf := ifp hc hf
    refine lv_ldc hx hb hown (hts _ kcX9_99) dX9_fooled_10 ?_
    exact h_iret hf hx hb hr hlk hw dX9_fooled_12
theorem c_X9_fooled (l : Launch) (E : hE) (B : Nat) (T : hT) (a0 : Nat) (p1 : Int32) (u0 : hM) {z : Int32 × hM} (hf : fX9_fooled T a0 p1 u0 = some z) : h_Ct l E B T yX9_fooled cX9_fooled 7 (some .int) 2 [.ref (B + a0), .int p1] u0 z.2 (some (.int z.1)) := h_ofW (by decide) (Nat.le_of_ble_eq_true rfl) (fun p e s m below meth c ls hΓ hl hw => wX9_fooled hΓ hf hw hl)
def fX9_weigh (T : hT) (a0 : Nat) (p1 : Int32) (p2 : Int32) (u0 : hM) : Option (Int32 × hM) := (fX9_in T p1.toInt64 (0 : Int64) (15 : Int64) u0).bind fun q1 => if q1.1 = 0 then (some ((-1000000001 : Int32), q1.2)) else ((fX9_in T p2.toInt64 (0 : Int64) (99 : Int64) q1.2).bind fun q2 => if q2.1 = 0 then (some ((-1000000002 : Int32), q2.2)) else ((gtr T q2.2 a0 9 7).bind fun a3 => (ald 11 T q2.2 a3 p1).bind fun x4 => (gtr T q2.2 a0 9 7).bind fun a5 => (asti T q2.2 a5 p1 p2).bind fun u6 => some (x4, u6)))
set_option maxRecDepth 100000 in
set_option maxHeartbeats 4000000 in
theorem wX9_weigh {a0 : Nat} {p1 : Int32} {p2 : Int32} {u0 : hM} {z : Int32 × hM} {ls : Array Slot} (hΓ : h_Γ E B T p s m args meth c cX9_weigh 4 (some .int) RX9) (hf : fX9_weigh T a0 p1 p2 u0 = some z) (hw : h_W E B T s.heap u0 s.heap []) (hl : lv_has ls 4 [(0, .ref (B + a0)), (1, .int p1), (2, .int p2)]) : W p l e (h_rm 1) s m args below meth c s.heap [] 0 0 (h_Qi below E B T args s z) (F0 m 0 ls []) := by
  obtain ⟨hx, hb, hr, hml, hts, hown, hlk, hX⟩ := id hΓ
  unfold fX9_weigh at hf
  refine lv_iload_n hx hb dX9_weigh_0 rfl (lv_at hl 1 rfl) ?_
  refine lv_i2l hx hb dX9_weigh_1 rfl ?_
  refine lv_lconst (v := 0) hx hb dX9_weigh_2 (by decide) ?_
  refine lv_ldc2 hx hb hown (hts _ klX9_282) dX9_weigh_3 ?_
  refine h_cSi (As := [.long p1.toInt64, .long (0 : Int64), .long (15 : Int64)]) (rest := []) hf hx hb hml hts hown hX hw myX9_in msX9_in lkX9_90 (fun q hq => c_X9_in l E B T p1.toInt64 (0 : Int64) (15 : Int64) u0 hq) ⟨Nat.le_of_ble_eq_true rfl, Nat.le_of_ble_eq_true rfl⟩ ⟨Nat.le_refl _, Nat.le_refl _⟩ rfl hl.1 rfl (Nat.le_of_ble_eq_true rfl) dX9_weigh_6 (fun q1 H1 L1 hf hw => ?_)
  refine lv_if_ne (tgt := 15) hx hb dX9_weigh_9 (by decide) (fun hc => ?_) (fun hc => ?_)
  · have hf := ifn hc hf
    refine lv_iload_n hx hb dX9_weigh_15 rfl (lv_at hl 2 rfl) ?_
    refine lv_i2l hx hb dX9_weigh_16 rfl ?_
    refine lv_lconst (v := 0) hx hb dX9_weigh_17 (by decide) ?_
    refine lv_ldc2 hx hb hown (hts _ klX9_284) dX9_weigh_18 ?_
    refine h_cSi (As := [.long p2.toInt64, .long (0 : Int64), .long (99 : Int64)]) (rest := []) hf hx hb hml hts hown hX hw myX9_in msX9_in lkX9_90 (fun q hq => c_X9_in l E B T p2.toInt64 (0 : Int64) (99 : Int64) q1.2 hq) ⟨Nat.le_of_ble_eq_true rfl, Nat.le_of_ble_eq_true rfl⟩ ⟨Nat.le_refl _, Nat.le_refl _⟩ rfl hl.1 rfl (Nat.le_of_ble_eq_true rfl) dX9_weigh_21 (fun q2 H2 L2 hf hw => ?_)
    refine lv_if_ne (tgt := 30) hx hb dX9_weigh_24 (by decide) (fun hc => ?_) (fun hc => ?_)
    · have hf := ifn hc hf
      refine lv_aload_n hx hb dX9_weigh_30 rfl (lv_at hl 0 rfl) ?_
      refine h_getr hf hx hb hts hown hX hw flX9_23 rfl dX9_weigh_31 (fun a3 hf => ?_)
      refine lv_iload_n hx hb dX9_weigh_34 rfl (lv_at hl 1 rfl) ?_
      refine h_iald hf hx hb hX hw dX9_weigh_35 (fun x4 hf => ?_)
      refine lv_istore_n (lv' := [(3, .int x4), (0, .ref (B + a0)), (1, .int p1), (2, .int p2)]) hx hb dX9_weigh_36 rfl hl (by decide) rfl (fun ls hl => ?_)
      refine lv_aload_n hx hb dX9_weigh_37 rfl (lv_at hl 1 rfl) ?_
      refine h_getr hf hx hb hts hown hX hw flX9_23 rfl dX9_weigh_38 (fun a5 hf => ?_)
      refine lv_iload_n hx hb dX9_weigh_41 rfl (lv_at hl 2 rfl) ?_
      refine lv_iload_n hx hb dX9_weigh_42 rfl (lv_at hl 3 rfl) ?_
      refine h_iast hf hx hb hX hw dX9_weigh_43 (fun u6 H6 L6 hf hw => ?_)
      refine lv_iload_n hx hb dX9_weigh_44 rfl (lv_at hl 0 rfl) ?_
      exact h_iret hf hx hb hr hlk hw dX9_weigh_45
    · have hf := ifp hc hf
      refine lv_ldc hx hb hown (hts _ kcX9_99) dX9_weigh_27 ?_
      exact h_iret hf hx hb hr hlk hw dX9_weigh_29
  · have hf := ifp hc hf
    refine lv_ldc hx hb hown (hts _ kcX9_216) dX9_weigh_12 ?_
    exact h_iret hf hx hb hr hlk hw dX9_weigh_14
theorem c_X9_weigh (l : Launch) (E : hE) (B : Nat) (T : hT) (a0 : Nat) (p1 : Int32) (p2 : Int32) (u0 : hM) {z : Int32 × hM} (hf : fX9_weigh T a0 p1 p2 u0 = some z) : h_Ct l E B T yX9_weigh cX9_weigh 4 (some .int) 1 [.ref (B + a0), .int p1, .int p2] u0 z.2 (some (.int z.1)) := h_ofW (by decide) (Nat.le_of_ble_eq_true rfl) (fun p e s m below meth c ls hΓ hl hw => wX9_weigh hΓ hf hw hl)
def fX9_doneMany_L4 (T : hT) (c0 : Nat) (ex : Int32 → hM → Option (Int32 × hM)) : Nat → Int32 → Int32 → hM → Option (Int32 × hM)
  | 0, _, _, _ => none
  | n + 1, v1, v2, u0 => (gti T u0 c0 9 5).bind fun x1 => if x1 ≤ v2 then (ex v1 u0) else ((gtr T u0 c0 9 8).bind fun a2 => (ald 11 T u0 a2 v2).bind fun x3 => lt (if x3 ≤ 0 then (0 : Int32) else (1 : Int32)) fun x4 => lt ((v1 + x4)) fun x5 => lt (v2 + (1 : Int32)) fun x6 => fX9_doneMany_L4 T c0 ex n x5 x6 u0)
def fX9_doneMany (T : hT) (a0 : Nat) (u0 : hM) : Option (Int32 × hM) := fX9_doneMany_L4 T a0 (fun (x7 : Int32) (u8 : hM) => some (x7, u8)) 6000 (0 : Int32) (0 : Int32) u0
set_option maxRecDepth 100000 in
set_option maxHeartbeats 4000000 in
theorem wfX9_doneMany_L4 {c0 : Nat} {ex : Int32 → hM → Option (Int32 × hM)} {z : Int32 × hM} (hΓ : h_Γ E B T p s m args meth c cX9_doneMany 3 (some .int) RX9) (hex : ∀ (y1 : Int32) (u9 : hM) (H9 : Heap) (L9 : List Loc) (ls : Array Slot), ex y1 u9 = some z → h_W E B T s.heap u9 H9 L9 → lv_has ls 3 [(1, .int y1)] → W p l e (h_rm 0) s m args below meth c H9 L9 0 0 (h_Qi below E B T args s z) (F0 m 35 ls [])) : ∀ (n : Nat) (v1 : Int32) (v2 : Int32) (u0 : hM) (H0 : Heap) (L0 : List Loc) (ls : Array Slot), fX9_doneMany_L4 T c0 ex n v1 v2 u0 = some z → h_W E B T s.heap u0 H0 L0 → lv_has ls 3 [(0, .ref (B + c0)), (1, .int v1), (2, .int v2)] → W p l e (h_rm 0) s m args below meth c H0 L0 0 0 (h_Qi below E B T args s z) (F0 m 4 ls []) := by
  obtain ⟨hx, hb, hr, hml, hts, hown, hlk, hX⟩ := id hΓ
  intro n
  induction n with
  | zero =>
    intro v1 v2 u0 H0 L0 ls hf hw hl
    exact absurd (show (none : Option (Int32 × hM)) = some z from hf) (fun h => by cases h)
  | succ n ih =>
    intro v1 v2 u0 H0 L0 ls hf hw hl
    rw [fX9_doneMany_L4] at hf
    refine lv_iload_n hx hb dX9_doneMany_4 rfl (lv_at hl 2 rfl) ?_
    refine lv_aload_n hx hb dX9_doneMany_5 rfl (lv_at hl 0 rfl) ?_
    refine h_geti hf hx hb hts hown hX hw flX9_94 rfl dX9_doneMany_6 (fun x1 hf => ?_)
    refine lv_icmp_ge (tgt := 35) hx hb dX9_doneMany_9 (by decide) (fun hc => ?_) (fun hc => ?_)
    · have hf := ifp hc hf
      exact hex v1 u0 _ _ _ hf hw (lv_sub hl [1] rfl)
    · have hf := ifn hc hf
      refine lv_iload_n hx hb dX9_doneMany_12 rfl (lv_at hl 1 rfl) ?_
      refine lv_aload_n hx hb dX9_doneMany_13 rfl (lv_at hl 0 rfl) ?_
      refine h_getr hf hx hb hts hown hX hw flX9_26 rfl dX9_doneMany_14 (fun a2 hf => ?_)
      refine lv_iload_n hx hb dX9_doneMany_17 rfl (lv_at hl 2 rfl) ?_
      refine h_iald hf hx hb hX hw dX9_doneMany_18 (fun x3 hf => ?_)
      refine h_ite (ls := ls) (jj := 27) (rest := [.int v1]) hf (fun k1 k2 => ?_) (fun x4 hf => ?_)
      · refine lv_if_le (tgt := 26) hx hb dX9_doneMany_19 (by decide) (fun hc => ?_) (fun hc => ?_)
        · refine lv_iconst (v := 0) hx hb dX9_doneMany_26 (by decide) ?_
          exact k1 hc
        · refine lv_iconst (v := 1) hx hb dX9_doneMany_22 (by decide) ?_
          refine lv_goto (tgt := 27) hx hb dX9_doneMany_23 (by decide) ?_
          exact k2 hc
      · refine lv_iadd hx hb dX9_doneMany_27 ?_
        refine h_nmi hf (fun x5 hf => ?_)
        refine lv_istore_n (lv' := [(1, .int x5), (0, .ref (B + c0)), (2, .int v2)]) hx hb dX9_doneMany_28 rfl hl (by decide) rfl (fun ls hl => ?_)
        refine h_iinc (k := 2) hf hx hb dX9_doneMany_29 hl rfl (by decide) (by decide) (fun x6 ls hf hl => ?_)
        have hl : lv_has ls 3 [(2, .int x6), (1, .int x5), (0, .ref (B + c0))] := hl
        refine lv_goto (tgt := 4) hx hb dX9_doneMany_32 (by decide) ?_
        exact ih x5 x6 u0 _ _ _ hf hw (lv_sub hl [2, 1, 0] rfl)
set_option maxRecDepth 100000 in
set_option maxHeartbeats 4000000 in
theorem wX9_doneMany {a0 : Nat} {u0 : hM} {z : Int32 × hM} {ls : Array Slot} (hΓ : h_Γ E B T p s m args meth c cX9_doneMany 3 (some .int) RX9) (hf : fX9_doneMany T a0 u0 = some z) (hw : h_W E B T s.heap u0 s.heap []) (hl : lv_has ls 3 [(0, .ref (B + a0))]) : W p l e (h_rm 0) s m args below meth c s.heap [] 0 0 (h_Qi below E B T args s z) (F0 m 0 ls []) := by
  obtain ⟨hx, hb, hr, hml, hts, hown, hlk, hX⟩ := id hΓ
  unfold fX9_doneMany at hf
  refine lv_iconst (v := 0) hx hb dX9_doneMany_0 (by decide) ?_
  refine lv_istore_n (lv' := [(1, .int (0 : Int32)), (0, .ref (B + a0))]) hx hb dX9_doneMany_1 rfl hl (by decide) rfl (fun ls hl => ?_)
  refine lv_iconst (v := 0) hx hb dX9_doneMany_2 (by decide) ?_
  refine lv_istore_n (lv' := [(2, .int (0 : Int32)), (1, .int (0 : Int32)), (0, .ref (B + a0))]) hx hb dX9_doneMany_3 rfl hl (by decide) rfl (fun ls hl => ?_)
  refine wfX9_doneMany_L4 hΓ ?_ 6000 (0 : Int32) (0 : Int32) u0 _ _ _ hf hw (lv_sub hl [2, 1, 0] rfl)
  intro x7 u8 H8 L8 ls hf hw hl
  refine lv_iload_n hx hb dX9_doneMany_35 rfl (lv_at hl 0 rfl) ?_
  exact h_iret hf hx hb hr hlk hw dX9_doneMany_36
theorem c_X9_doneMany (l : Launch) (E : hE) (B : Nat) (T : hT) (a0 : Nat) (u0 : hM) {z : Int32 × hM} (hf : fX9_doneMany T a0 u0 = some z) : h_Ct l E B T yX9_doneMany cX9_doneMany 3 (some .int) 0 [.ref (B + a0)] u0 z.2 (some (.int z.1)) := h_ofW (by decide) (Nat.le_of_ble_eq_true rfl) (fun p e s m below meth c ls hΓ hl hw => wX9_doneMany hΓ hf hw hl)
def fX9_result (T : hT) (a0 : Nat) (p1 : Int32) (p2 : Int32) (u0 : hM) : Option (Int32 × hM) := (vc T a0 9 (fX9_isTask T a0 p1 u0)).bind fun q1 => if q1.1 = 0 then (some ((-1000000001 : Int32), q1.2)) else ((gtr T q1.2 a0 9 8).bind fun a2 => (ald 11 T q1.2 a2 p1).bind fun x3 => if x3 ≤ 0 then ((gtr T q1.2 a0 9 8).bind fun a4 => lt (if p2 = 0 then (2 : Int32) else (1 : Int32)) fun x5 => (asti T q1.2 a4 p1 x5).bind fun u6 => (vc T a0 9 (fX9_doneMany T a0 u6)).bind fun q7 => some (q7.1, q7.2)) else (some ((-1000000003 : Int32), q1.2)))
set_option maxRecDepth 100000 in
set_option maxHeartbeats 4000000 in
theorem wX9_result {a0 : Nat} {p1 : Int32} {p2 : Int32} {u0 : hM} {z : Int32 × hM} {ls : Array Slot} (hΓ : h_Γ E B T p s m args meth c cX9_result 3 (some .int) RX9) (hf : fX9_result T a0 p1 p2 u0 = some z) (hw : h_W E B T s.heap u0 s.heap []) (hl : lv_has ls 3 [(0, .ref (B + a0)), (1, .int p1), (2, .int p2)]) : W p l e (h_rm 2) s m args below meth c s.heap [] 0 0 (h_Qi below E B T args s z) (F0 m 0 ls []) := by
  obtain ⟨hx, hb, hr, hml, hts, hown, hlk, hX⟩ := id hΓ
  unfold fX9_result at hf
  refine lv_aload_n hx hb dX9_result_0 rfl (lv_at hl 0 rfl) ?_
  refine lv_iload_n hx hb dX9_result_1 rfl (lv_at hl 1 rfl) ?_
  refine h_cVi (As := [.int p1]) (rest := []) hf hx hb hml hts hown hX hw myX9_isTask miX9_isTask lkX9_222 ⟨rfl, by decide⟩ (fun q hq => c_X9_isTask l E B T a0 p1 u0 hq) ⟨Nat.le_of_ble_eq_true rfl, Nat.le_of_ble_eq_true rfl⟩ ⟨Nat.le_refl _, Nat.le_refl _⟩ rfl hl.1 rfl (Nat.le_of_ble_eq_true rfl) dX9_result_2 (fun q1 H1 L1 hf hw => ?_)
  refine lv_if_ne (tgt := 11) hx hb dX9_result_5 (by decide) (fun hc => ?_) (fun hc => ?_)
  · have hf := ifn hc hf
    refine lv_aload_n hx hb dX9_result_11 rfl (lv_at hl 0 rfl) ?_
    refine h_getr hf hx hb hts hown hX hw flX9_26 rfl dX9_result_12 (fun a2 hf => ?_)
    refine lv_iload_n hx hb dX9_result_15 rfl (lv_at hl 1 rfl) ?_
    refine h_iald hf hx hb hX hw dX9_result_16 (fun x3 hf => ?_)
    refine lv_if_le (tgt := 24) hx hb dX9_result_17 (by decide) (fun hc => ?_) (fun hc => ?_)
    · have hf := ifp hc hf
      refine lv_aload_n hx hb dX9_result_24 rfl (lv_at hl 0 rfl) ?_
      refine h_getr hf hx hb hts hown hX hw flX9_26 rfl dX9_result_25 (fun a4 hf => ?_)
      refine lv_iload_n hx hb dX9_result_28 rfl (lv_at hl 1 rfl) ?_
      refine lv_iload_n hx hb dX9_result_29 rfl (lv_at hl 2 rfl) ?_
      refine h_ite (ls := ls) (jj := 38) (rest := [.int p1, .ref (B + a4)]) hf (fun k1 k2 => ?_) (fun x5 hf => ?_)
      · refine lv_if_eq (tgt := 37) hx hb dX9_result_30 (by decide) (fun hc => ?_) (fun hc => ?_)
        · refine lv_iconst (v := 2) hx hb dX9_result_37 (by decide) ?_
          exact k1 hc
        · refine lv_iconst (v := 1) hx hb dX9_result_33 (by decide) ?_
          refine lv_goto (tgt := 38) hx hb dX9_result_34 (by decide) ?_
          exact k2 hc
      · refine h_iast hf hx hb hX hw dX9_result_38 (fun u6 H6 L6 hf hw => ?_)
        refine lv_aload_n hx hb dX9_result_39 rfl (lv_at hl 0 rfl) ?_
        refine h_cVi (As := []) (rest := []) hf hx hb hml hts hown hX hw myX9_doneMany miX9_doneMany lkX9_286 ⟨rfl, by decide⟩ (fun q hq => c_X9_doneMany l E B T a0 u6 hq) ⟨Nat.le_of_ble_eq_true rfl, Nat.le_of_ble_eq_true rfl⟩ ⟨Nat.le_refl _, Nat.le_refl _⟩ rfl hl.1 rfl (Nat.le_of_ble_eq_true rfl) dX9_result_40 (fun q7 H7 L7 hf hw => ?_)
        exact h_iret hf hx hb hr hlk hw dX9_result_43
    · have hf := ifn hc hf
      refine lv_ldcw hx hb hown (hts _ kcX9_277) dX9_result_20 ?_
      exact h_iret hf hx hb hr hlk hw dX9_result_23
  · have hf := ifp hc hf
    refine lv_ldc hx hb hown (hts _ kcX9_216) dX9_result_8 ?_
    exact h_iret hf hx hb hr hlk hw dX9_result_10
theorem c_X9_result (l : Launch) (E : hE) (B : Nat) (T : hT) (a0 : Nat) (p1 : Int32) (p2 : Int32) (u0 : hM) {z : Int32 × hM} (hf : fX9_result T a0 p1 p2 u0 = some z) : h_Ct l E B T yX9_result cX9_result 3 (some .int) 2 [.ref (B + a0), .int p1, .int p2] u0 z.2 (some (.int z.1)) := h_ofW (by decide) (Nat.le_of_ble_eq_true rfl) (fun p e s m below meth c ls hΓ hl hw => wX9_result hΓ hf hw hl)
def fX9_forget_L7 (T : hT) (c0 : Nat) (ex : hM → Option (Int32 × hM)) : Nat → Int32 → hM → Option (Int32 × hM)
  | 0, _, _ => none
  | n + 1, v2, u0 => if (6 : Int32) ≤ v2 then (ex u0) else ((gtr T u0 c0 9 8).bind fun a2 => (asti T u0 a2 v2 (0 : Int32)).bind fun u3 => lt (v2 + (1 : Int32)) fun x4 => fX9_forget_L7 T c0 ex n x4 u3)
def fX9_forget (T : hT) (a0 : Nat) (u0 : hM) : Option (Int32 × hM) := (vc T a0 9 (fX9_doneMany T a0 u0)).bind fun q1 => fX9_forget_L7 T a0 (fun (u5 : hM) => some (q1.1, u5)) 6000 (0 : Int32) q1.2
set_option maxRecDepth 100000 in
set_option maxHeartbeats 4000000 in
theorem wfX9_forget_L7 {c0 : Nat} {c1 : Int32} {ex : hM → Option (Int32 × hM)} {z : Int32 × hM} (hΓ : h_Γ E B T p s m args meth c cX9_forget 3 (some .int) RX9) (hex : ∀ (u9 : hM) (H9 : Heap) (L9 : List Loc) (ls : Array Slot), ex u9 = some z → h_W E B T s.heap u9 H9 L9 → lv_has ls 3 [(1, .int c1)] → W p l e (h_rm 1) s m args below meth c H9 L9 0 0 (h_Qi below E B T args s z) (F0 m 26 ls [])) : ∀ (n : Nat) (v2 : Int32) (u0 : hM) (H0 : Heap) (L0 : List Loc) (ls : Array Slot), fX9_forget_L7 T c0 ex n v2 u0 = some z → h_W E B T s.heap u0 H0 L0 → lv_has ls 3 [(0, .ref (B + c0)), (1, .int c1), (2, .int v2)] → W p l e (h_rm 1) s m args below meth c H0 L0 0 0 (h_Qi below E B T args s z) (F0 m 7 ls []) := by
  obtain ⟨hx, hb, hr, hml, hts, hown, hlk, hX⟩ := id hΓ
  intro n
  induction n with
  | zero =>
    intro v2 u0 H0 L0 ls hf hw hl
    exact absurd (show (none : Option (Int32 × hM)) = some z from hf) (fun h => by cases h)
  | succ n ih =>
    intro v2 u0 H0 L0 ls hf hw hl
    rw [fX9_forget_L7] at hf
    refine lv_iload_n hx hb dX9_forget_7 rfl (lv_at hl 2 rfl) ?_
    refine lv_bipush (v := 6) hx hb dX9_forget_8 (by decide) ?_
    refine lv_icmp_ge (tgt := 26) hx hb dX9_forget_10 (by decide) (fun hc => ?_) (fun hc => ?_)
    · have hf := ifp hc hf
      exact hex  u0 _ _ _ hf hw (lv_sub hl [1] rfl)
    · have hf := ifn hc hf
      refine lv_aload_n hx hb dX9_forget_13 rfl (lv_at hl 0 rfl) ?_
      refine h_getr hf hx hb hts hown hX hw flX9_26 rfl dX9_forget_14 (fun a2 hf => ?_)
      refine lv_iload_n hx hb dX9_forget_17 rfl (lv_at hl 2 rfl) ?_
      refine lv_iconst (v := 0) hx hb dX9_forget_18 (by decide) ?_
      refine h_iast hf hx hb hX hw dX9_forget_19 (fun u3 H3 L3 hf hw => ?_)
      refine h_iinc (k := 2) hf hx hb dX9_forget_20 hl rfl (by decide) (by decide) (fun x4 ls hf hl => ?_)
      have hl : lv_has ls 3 [(2, .int x4), (0, .ref (B + c0)), (1, .int c1)] := hl
      refine lv_goto (tgt := 7) hx hb dX9_forget_23 (by decide) ?_
      exact ih x4 u3 _ _ _ hf hw (lv_sub hl [1, 2, 0] rfl)
set_option maxRecDepth 100000 in
set_option maxHeartbeats 4000000 in
theorem wX9_forget {a0 : Nat} {u0 : hM} {z : Int32 × hM} {ls : Array Slot} (hΓ : h_Γ E B T p s m args meth c cX9_forget 3 (some .int) RX9) (hf : fX9_forget T a0 u0 = some z) (hw : h_W E B T s.heap u0 s.heap []) (hl : lv_has ls 3 [(0, .ref (B + a0))]) : W p l e (h_rm 1) s m args below meth c s.heap [] 0 0 (h_Qi below E B T args s z) (F0 m 0 ls []) := by
  obtain ⟨hx, hb, hr, hml, hts, hown, hlk, hX⟩ := id hΓ
  unfold fX9_forget at hf
  refine lv_aload_n hx hb dX9_forget_0 rfl (lv_at hl 0 rfl) ?_
  refine h_cVi (As := []) (rest := []) hf hx hb hml hts hown hX hw myX9_doneMany miX9_doneMany lkX9_286 ⟨rfl, by decide⟩ (fun q hq => c_X9_doneMany l E B T a0 u0 hq) ⟨Nat.le_of_ble_eq_true rfl, Nat.le_of_ble_eq_true rfl⟩ ⟨Nat.le_refl _, Nat.le_refl _⟩ rfl hl.1 rfl (Nat.le_of_ble_eq_true rfl) dX9_forget_1 (fun q1 H1 L1 hf hw => ?_)
  refine lv_istore_n (lv' := [(1, .int q1.1), (0, .ref (B + a0))]) hx hb dX9_forget_4 rfl hl (by decide) rfl (fun ls hl => ?_)
  refine lv_iconst (v := 0) hx hb dX9_forget_5 (by decide) ?_
  refine lv_istore_n (lv' := [(2, .int (0 : Int32)), (1, .int q1.1), (0, .ref (B + a0))]) hx hb dX9_forget_6 rfl hl (by decide) rfl (fun ls hl => ?_)
  refine wfX9_forget_L7 hΓ ?_ 6000 (0 : Int32) q1.2 _ _ _ hf hw (lv_sub hl [2, 1, 0] rfl)
  intro u5 H5 L5 ls hf hw hl
  refine lv_iload_n hx hb dX9_forget_26 rfl (lv_at hl 0 rfl) ?_
  exact h_iret hf hx hb hr hlk hw dX9_forget_27
theorem c_X9_forget (l : Launch) (E : hE) (B : Nat) (T : hT) (a0 : Nat) (u0 : hM) {z : Int32 × hM} (hf : fX9_forget T a0 u0 = some z) : h_Ct l E B T yX9_forget cX9_forget 3 (some .int) 1 [.ref (B + a0)] u0 z.2 (some (.int z.1)) := h_ofW (by decide) (Nat.le_of_ble_eq_true rfl) (fun p e s m below meth c ls hΓ hl hw => wX9_forget hΓ hf hw hl)
def fX9_lacks (T : hT) (a0 : Nat) (p1 : Int32) (p2 : Int32) (u0 : hM) : Option (Int32 × hM) := (gtr T u0 a0 9 6).bind fun a1 => (ald 11 T u0 a1 (((4 : Int32) * p1) + (3 : Int32))).bind fun x2 => if (x2 &&& p2) = 0 then (rtz (0 : Int32) u0) else (rtz (1 : Int32) u0)
set_option maxRecDepth 100000 in
set_option maxHeartbeats 4000000 in
theorem wX9_lacks {a0 : Nat} {p1 : Int32} {p2 : Int32} {u0 : hM} {z : Int32 × hM} {ls : Array Slot} (hΓ : h_Γ E B T p s m args meth c cX9_lacks 3 (some .boolean) RX9) (hf : fX9_lacks T a0 p1 p2 u0 = some z) (hw : h_W E B T s.heap u0 s.heap []) (hl : lv_has ls 3 [(0, .ref (B + a0)), (1, .int p1), (2, .int p2)]) : W p l e (h_rm 0) s m args below meth c s.heap [] 0 0 (h_Qi below E B T args s z) (F0 m 0 ls []) := by
  obtain ⟨hx, hb, hr, hml, hts, hown, hlk, hX⟩ := id hΓ
  unfold fX9_lacks at hf
  refine lv_aload_n hx hb dX9_lacks_0 rfl (lv_at hl 0 rfl) ?_
  refine h_getr hf hx hb hts hown hX hw flX9_20 rfl dX9_lacks_1 (fun a1 hf => ?_)
  refine lv_iconst (v := 4) hx hb dX9_lacks_4 (by decide) ?_
  refine lv_iload_n hx hb dX9_lacks_5 rfl (lv_at hl 1 rfl) ?_
  refine lv_imul hx hb dX9_lacks_6 ?_
  refine lv_iconst (v := 3) hx hb dX9_lacks_7 (by decide) ?_
  refine lv_iadd hx hb dX9_lacks_8 ?_
  refine h_iald hf hx hb hX hw dX9_lacks_9 (fun x2 hf => ?_)
  refine lv_iload_n hx hb dX9_lacks_10 rfl (lv_at hl 2 rfl) ?_
  refine lv_iand hx hb dX9_lacks_11 ?_
  refine lv_if_eq (tgt := 19) hx hb dX9_lacks_12 (by decide) (fun hc => ?_) (fun hc => ?_)
  · have hf := ifp hc hf
    refine lv_iconst (v := 0) hx hb dX9_lacks_19 (by decide) ?_
    exact h_zret hf hx hb hr hlk hw dX9_lacks_20
  · have hf := ifn hc hf
    refine lv_iconst (v := 1) hx hb dX9_lacks_15 (by decide) ?_
    refine lv_goto (tgt := 20) hx hb dX9_lacks_16 (by decide) ?_
    exact h_zret hf hx hb hr hlk hw dX9_lacks_20
theorem c_X9_lacks (l : Launch) (E : hE) (B : Nat) (T : hT) (a0 : Nat) (p1 : Int32) (p2 : Int32) (u0 : hM) {z : Int32 × hM} (hf : fX9_lacks T a0 p1 p2 u0 = some z) : h_Ct l E B T yX9_lacks cX9_lacks 3 (some .boolean) 0 [.ref (B + a0), .int p1, .int p2] u0 z.2 (some (.int z.1)) := h_ofW (by decide) (Nat.le_of_ble_eq_true rfl) (fun p e s m below meth c ls hΓ hl hw => wX9_lacks hΓ hf hw hl)
def fX9_shareOf (T : hT) (a0 : Nat) (p1 : Int32) (p2 : Int32) (p3 : Int32) (u0 : hM) : Option (Int32 × hM) := (vc T a0 9 (fX9_lacks T a0 p1 p2 u0)).bind fun q1 => lt (fun (x2 : Int32) (u3 : hM) => if p3 = (1 : Int32) then (some (x2, u3)) else (some (((100 : Int32) - x2), u3))) fun J35 => if q1.1 = 0 then ((gtr T q1.2 a0 9 6).bind fun a4 => (ald 11 T q1.2 a4 (((4 : Int32) * p1) + (1 : Int32))).bind fun x5 => J35 ((100 : Int32) - x5) q1.2) else ((gtr T q1.2 a0 9 6).bind fun a6 => (ald 11 T q1.2 a6 (((4 : Int32) * p1) + (2 : Int32))).bind fun x7 => J35 x7 q1.2)
set_option maxRecDepth 100000 in
set_option maxHeartbeats 4000000 in
theorem wX9_shareOf {a0 : Nat} {p1 : Int32} {p2 : Int32} {p3 : Int32} {u0 : hM} {z : Int32 × hM} {ls : Array Slot} (hΓ : h_Γ E B T p s m args meth c cX9_shareOf 5 (some .int) RX9) (hf : fX9_shareOf T a0 p1 p2 p3 u0 = some z) (hw : h_W E B T s.heap u0 s.heap []) (hl : lv_has ls 5 [(0, .ref (B + a0)), (1, .int p1), (2, .int p2), (3, .int p3)]) : W p l e (h_rm 1) s m args below meth c s.heap [] 0 0 (h_Qi below E B T args s z) (F0 m 0 ls []) := by
  obtain ⟨hx, hb, hr, hml, hts, hown, hlk, hX⟩ := id hΓ
  unfold fX9_shareOf at hf
  refine lv_aload_n hx hb dX9_shareOf_0 rfl (lv_at hl 0 rfl) ?_
  refine lv_iload_n hx hb dX9_shareOf_1 rfl (lv_at hl 1 rfl) ?_
  refine lv_iload_n hx hb dX9_shareOf_2 rfl (lv_at hl 2 rfl) ?_
  refine h_cVi (As := [.int p1, .int p2]) (rest := []) hf hx hb hml hts hown hX hw myX9_lacks miX9_lacks lkX9_289 ⟨rfl, by decide⟩ (fun q hq => c_X9_lacks l E B T a0 p1 p2 u0 hq) ⟨Nat.le_of_ble_eq_true rfl, Nat.le_of_ble_eq_true rfl⟩ ⟨Nat.le_refl _, Nat.le_refl _⟩ rfl hl.1 rfl (Nat.le_of_ble_eq_true rfl) dX9_shareOf_3 (fun q1 H1 L1 hf hw => ?_)
  obtain ⟨J35, eJ35, hf⟩ := h_lt hf
  have hJ35 : ∀ (x2 : Int32) (u3 : hM) (H3 : Heap) (L3 : List Loc) (ls : Array Slot), J35 x2 u3 = some z → h_W E B T s.heap u3 H3 L3 → lv_has ls 5 [(3, .int p3)] → W p l e (h_rm 1) s m args below meth c H3 L3 0 0 (h_Qi below E B T args s z) (F0 m 35 ls [.int x2]) := by
    intro x2 u3 H3 L3 ls hf hw hl
    rw [eJ35] at hf
    refine lv_istore (lv' := [(4, .int x2), (3, .int p3)]) hx hb dX9_shareOf_35 hl (by decide) rfl (fun ls hl => ?_)
    refine lv_iload_n hx hb dX9_shareOf_37 rfl (lv_at hl 1 rfl) ?_
    refine lv_iconst (v := 1) hx hb dX9_shareOf_38 (by decide) ?_
    refine lv_icmp_ne (tgt := 47) hx hb dX9_shareOf_39 (by decide) (fun hc => ?_) (fun hc => ?_)
    · have hf := ifn hc hf
      refine lv_bipush (v := 100) hx hb dX9_shareOf_47 (by decide) ?_
      refine lv_iload hx hb dX9_shareOf_49 (lv_at hl 0 rfl) ?_
      refine lv_isub hx hb dX9_shareOf_51 ?_
      exact h_iret hf hx hb hr hlk hw dX9_shareOf_52
    · have hf := ifp hc hf
      refine lv_iload hx hb dX9_shareOf_42 (lv_at hl 0 rfl) ?_
      refine lv_goto (tgt := 52) hx hb dX9_shareOf_44 (by decide) ?_
      exact h_iret hf hx hb hr hlk hw dX9_shareOf_52
  clear eJ35
  refine lv_if_eq (tgt := 22) hx hb dX9_shareOf_6 (by decide) (fun hc => ?_) (fun hc => ?_)
  · have hf := ifp hc hf
    refine lv_bipush (v := 100) hx hb dX9_shareOf_22 (by decide) ?_
    refine lv_aload_n hx hb dX9_shareOf_24 rfl (lv_at hl 0 rfl) ?_
    refine h_getr hf hx hb hts hown hX hw flX9_20 rfl dX9_shareOf_25 (fun a4 hf => ?_)
    refine lv_iconst (v := 4) hx hb dX9_shareOf_28 (by decide) ?_
    refine lv_iload_n hx hb dX9_shareOf_29 rfl (lv_at hl 1 rfl) ?_
    refine lv_imul hx hb dX9_shareOf_30 ?_
    refine lv_iconst (v := 1) hx hb dX9_shareOf_31 (by decide) ?_
    refine lv_iadd hx hb dX9_shareOf_32 ?_
    refine h_iald hf hx hb hX hw dX9_shareOf_33 (fun x5 hf => ?_)
    refine lv_isub hx hb dX9_shareOf_34 ?_
    exact hJ35 ((100 : Int32) - x5) q1.2 _ _ _ hf hw (lv_sub hl [3] rfl)
  · have hf := ifn hc hf
    refine lv_aload_n hx hb dX9_shareOf_9 rfl (lv_at hl 0 rfl) ?_
    refine h_getr hf hx hb hts hown hX hw flX9_20 rfl dX9_shareOf_10 (fun a6 hf => ?_)
    refine lv_iconst (v := 4) hx hb dX9_shareOf_13 (by decide) ?_
    refine lv_iload_n hx hb dX9_shareOf_14 rfl (lv_at hl 1 rfl) ?_
    refine lv_imul hx hb dX9_shareOf_15 ?_
    refine lv_iconst (v := 2) hx hb dX9_shareOf_16 (by decide) ?_
    refine lv_iadd hx hb dX9_shareOf_17 ?_
    refine h_iald hf hx hb hX hw dX9_shareOf_18 (fun x7 hf => ?_)
    refine lv_goto (tgt := 35) hx hb dX9_shareOf_19 (by decide) ?_
    exact hJ35 x7 q1.2 _ _ _ hf hw (lv_sub hl [3] rfl)
theorem c_X9_shareOf (l : Launch) (E : hE) (B : Nat) (T : hT) (a0 : Nat) (p1 : Int32) (p2 : Int32) (p3 : Int32) (u0 : hM) {z : Int32 × hM} (hf : fX9_shareOf T a0 p1 p2 p3 u0 = some z) : h_Ct l E B T yX9_shareOf cX9_shareOf 5 (some .int) 1 [.ref (B + a0), .int p1, .int p2, .int p3] u0 z.2 (some (.int z.1)) := h_ofW (by decide) (Nat.le_of_ble_eq_true rfl) (fun p e s m below meth c ls hΓ hl hw => wX9_shareOf hΓ hf hw hl)
def fX9_oddsOf_L11 (T : hT) (c0 : Nat) (c1 : Int32) (ex : Int64 → hM → Option (Int64 × hM)) : Nat → Int64 → Int32 → hM → Option (Int64 × hM)
  | 0, _, _, _ => none
  | n + 1, v2, v4, u0 => (gti T u0 c0 9 5).bind fun x3 => if x3 ≤ v4 then (ex v2 u0) else ((gtr T u0 c0 9 8).bind fun a4 => (ald 11 T u0 a4 v4).bind fun x5 => lt (fun (x6 : Int64) (u7 : hM) => lt ((v2 * x6)) fun x8 => lt (v4 + (1 : Int32)) fun x9 => fX9_oddsOf_L11 T c0 c1 ex n x8 x9 u7) fun J50 => if x5 ≤ 0 then (J50 (1 : Int64) u0) else ((gtr T u0 c0 9 8).bind fun a10 => (ald 11 T u0 a10 v4).bind fun x11 => (vc T c0 9 (fX9_shareOf T c0 v4 c1 x11 u0)).bind fun q12 => J50 q12.1.toInt64 q12.2))
def fX9_oddsOf (T : hT) (a0 : Nat) (p1 : Int32) (u0 : hM) : Option (Int64 × hM) := (gtr T u0 a0 9 7).bind fun a1 => (ald 11 T u0 a1 p1).bind fun x2 => fX9_oddsOf_L11 T a0 p1 (fun (x13 : Int64) (u14 : hM) => some (x13, u14)) 6000 x2.toInt64 (0 : Int32) u0
set_option maxRecDepth 100000 in
set_option maxHeartbeats 4000000 in
theorem wfX9_oddsOf_L11 {c0 : Nat} {c1 : Int32} {ex : Int64 → hM → Option (Int64 × hM)} {z : Int64 × hM} (hΓ : h_Γ E B T p s m args meth c cX9_oddsOf 5 (some .long) RX9) (hex : ∀ (y2 : Int64) (u9 : hM) (H9 : Heap) (L9 : List Loc) (ls : Array Slot), ex y2 u9 = some z → h_W E B T s.heap u9 H9 L9 → lv_has ls 5 [(2, .long y2)] → W p l e (h_rm 2) s m args below meth c H9 L9 0 0 (h_Ql below E B T args s z) (F0 m 58 ls [])) : ∀ (n : Nat) (v2 : Int64) (v4 : Int32) (u0 : hM) (H0 : Heap) (L0 : List Loc) (ls : Array Slot), fX9_oddsOf_L11 T c0 c1 ex n v2 v4 u0 = some z → h_W E B T s.heap u0 H0 L0 → lv_has ls 5 [(0, .ref (B + c0)), (1, .int c1), (2, .long v2), (4, .int v4)] → W p l e (h_rm 2) s m args below meth c H0 L0 0 0 (h_Ql below E B T args s z) (F0 m 11 ls []) := by
  obtain ⟨hx, hb, hr, hml, hts, hown, hlk, hX⟩ := id hΓ
  intro n
  induction n with
  | zero =>
    intro v2 v4 u0 H0 L0 ls hf hw hl
    exact absurd (show (none : Option (Int64 × hM)) = some z from hf) (fun h => by cases h)
  | succ n ih =>
    intro v2 v4 u0 H0 L0 ls hf hw hl
    rw [fX9_oddsOf_L11] at hf
    refine lv_iload hx hb dX9_oddsOf_11 (lv_at hl 3 rfl) ?_
    refine lv_aload_n hx hb dX9_oddsOf_13 rfl (lv_at hl 0 rfl) ?_
    refine h_geti hf hx hb hts hown hX hw flX9_94 rfl dX9_oddsOf_14 (fun x3 hf => ?_)
    refine lv_icmp_ge (tgt := 58) hx hb dX9_oddsOf_17 (by decide) (fun hc => ?_) (fun hc => ?_)
    · have hf := ifp hc hf
      exact hex v2 u0 _ _ _ hf hw (lv_sub hl [2] rfl)
    · have hf := ifn hc hf
      refine lv_lload_n hx hb dX9_oddsOf_20 rfl (lv_at hl 2 rfl) ?_
      refine lv_aload_n hx hb dX9_oddsOf_21 rfl (lv_at hl 0 rfl) ?_
      refine h_getr hf hx hb hts hown hX hw flX9_26 rfl dX9_oddsOf_22 (fun a4 hf => ?_)
      refine lv_iload hx hb dX9_oddsOf_25 (lv_at hl 3 rfl) ?_
      refine h_iald hf hx hb hX hw dX9_oddsOf_27 (fun x5 hf => ?_)
      obtain ⟨J50, eJ50, hf⟩ := h_lt hf
      have hJ50 : ∀ (x6 : Int64) (u7 : hM) (H7 : Heap) (L7 : List Loc) (ls : Array Slot), J50 x6 u7 = some z → h_W E B T s.heap u7 H7 L7 → lv_has ls 5 [(0, .ref (B + c0)), (1, .int c1), (4, .int v4)] → W p l e (h_rm 2) s m args below meth c H7 L7 0 0 (h_Ql below E B T args s z) (F0 m 50 ls [.long x6, .long v2]) := by
        intro x6 u7 H7 L7 ls hf hw hl
        rw [eJ50] at hf
        refine lv_lmul hx hb dX9_oddsOf_50 ?_
        refine h_nml hf (fun x8 hf => ?_)
        refine lv_lstore_n (lv' := [(2, .long x8), (0, .ref (B + c0)), (1, .int c1), (4, .int v4)]) hx hb dX9_oddsOf_51 rfl hl (by decide) rfl (fun ls hl => ?_)
        refine h_iinc (k := 3) hf hx hb dX9_oddsOf_52 hl rfl (by decide) (by decide) (fun x9 ls hf hl => ?_)
        have hl : lv_has ls 5 [(4, .int x9), (2, .long x8), (0, .ref (B + c0)), (1, .int c1)] := hl
        refine lv_goto (tgt := 11) hx hb dX9_oddsOf_55 (by decide) ?_
        exact ih x8 x9 u7 _ _ _ hf hw (lv_sub hl [2, 3, 1, 0] rfl)
      clear eJ50
      refine lv_if_le (tgt := 49) hx hb dX9_oddsOf_28 (by decide) (fun hc => ?_) (fun hc => ?_)
      · have hf := ifp hc hf
        refine lv_lconst (v := 1) hx hb dX9_oddsOf_49 (by decide) ?_
        exact hJ50 (1 : Int64) u0 _ _ _ hf hw (lv_sub hl [0, 1, 3] rfl)
      · have hf := ifn hc hf
        refine lv_aload_n hx hb dX9_oddsOf_31 rfl (lv_at hl 0 rfl) ?_
        refine lv_iload hx hb dX9_oddsOf_32 (lv_at hl 3 rfl) ?_
        refine lv_iload_n hx hb dX9_oddsOf_34 rfl (lv_at hl 1 rfl) ?_
        refine lv_aload_n hx hb dX9_oddsOf_35 rfl (lv_at hl 0 rfl) ?_
        refine h_getr hf hx hb hts hown hX hw flX9_26 rfl dX9_oddsOf_36 (fun a10 hf => ?_)
        refine lv_iload hx hb dX9_oddsOf_39 (lv_at hl 3 rfl) ?_
        refine h_iald hf hx hb hX hw dX9_oddsOf_41 (fun x11 hf => ?_)
        refine h_cVi (As := [.int v4, .int c1, .int x11]) (rest := [.long v2]) hf hx hb hml hts hown hX hw myX9_shareOf miX9_shareOf lkX9_292 ⟨rfl, by decide⟩ (fun q hq => c_X9_shareOf l E B T c0 v4 c1 x11 u0 hq) ⟨Nat.le_of_ble_eq_true rfl, Nat.le_of_ble_eq_true rfl⟩ ⟨Nat.le_refl _, Nat.le_refl _⟩ rfl hl.1 rfl (Nat.le_of_ble_eq_true rfl) dX9_oddsOf_42 (fun q12 H12 L12 hf hw => ?_)
        refine lv_i2l hx hb dX9_oddsOf_45 rfl ?_
        refine lv_goto (tgt := 50) hx hb dX9_oddsOf_46 (by decide) ?_
        exact hJ50 q12.1.toInt64 q12.2 _ _ _ hf hw (lv_sub hl [0, 1, 3] rfl)
set_option maxRecDepth 100000 in
set_option maxHeartbeats 4000000 in
theorem wX9_oddsOf {a0 : Nat} {p1 : Int32} {u0 : hM} {z : Int64 × hM} {ls : Array Slot} (hΓ : h_Γ E B T p s m args meth c cX9_oddsOf 5 (some .long) RX9) (hf : fX9_oddsOf T a0 p1 u0 = some z) (hw : h_W E B T s.heap u0 s.heap []) (hl : lv_has ls 5 [(0, .ref (B + a0)), (1, .int p1)]) : W p l e (h_rm 2) s m args below meth c s.heap [] 0 0 (h_Ql below E B T args s z) (F0 m 0 ls []) := by
  obtain ⟨hx, hb, hr, hml, hts, hown, hlk, hX⟩ := id hΓ
  unfold fX9_oddsOf at hf
  refine lv_aload_n hx hb dX9_oddsOf_0 rfl (lv_at hl 0 rfl) ?_
  refine h_getr hf hx hb hts hown hX hw flX9_23 rfl dX9_oddsOf_1 (fun a1 hf => ?_)
  refine lv_iload_n hx hb dX9_oddsOf_4 rfl (lv_at hl 1 rfl) ?_
  refine h_iald hf hx hb hX hw dX9_oddsOf_5 (fun x2 hf => ?_)
  refine lv_i2l hx hb dX9_oddsOf_6 rfl ?_
  refine lv_lstore_n (lv' := [(2, .long x2.toInt64), (0, .ref (B + a0)), (1, .int p1)]) hx hb dX9_oddsOf_7 rfl hl (by decide) rfl (fun ls hl => ?_)
  refine lv_iconst (v := 0) hx hb dX9_oddsOf_8 (by decide) ?_
  refine lv_istore (lv' := [(4, .int (0 : Int32)), (2, .long x2.toInt64), (0, .ref (B + a0)), (1, .int p1)]) hx hb dX9_oddsOf_9 hl (by decide) rfl (fun ls hl => ?_)
  refine wfX9_oddsOf_L11 hΓ ?_ 6000 x2.toInt64 (0 : Int32) u0 _ _ _ hf hw (lv_sub hl [2, 3, 1, 0] rfl)
  intro x13 u14 H14 L14 ls hf hw hl
  refine lv_lload_n hx hb dX9_oddsOf_58 rfl (lv_at hl 0 rfl) ?_
  exact h_lret hf hx hb hr hlk hw dX9_oddsOf_59
theorem c_X9_oddsOf (l : Launch) (E : hE) (B : Nat) (T : hT) (a0 : Nat) (p1 : Int32) (u0 : hM) {z : Int64 × hM} (hf : fX9_oddsOf T a0 p1 u0 = some z) : h_Ct l E B T yX9_oddsOf cX9_oddsOf 5 (some .long) 2 [.ref (B + a0), .int p1] u0 z.2 (some (.long z.1)) := h_ofW (by decide) (Nat.le_of_ble_eq_true rfl) (fun p e s m below meth c ls hΓ hl hw => wX9_oddsOf hΓ hf hw hl)
def fX9_allOdds_L4 (T : hT) (c0 : Nat) (ex : Int64 → hM → Option (Int64 × hM)) : Nat → Int64 → Int32 → hM → Option (Int64 × hM)
  | 0, _, _, _ => none
  | n + 1, v1, v3, u0 => if (16 : Int32) ≤ v3 then (ex v1 u0) else ((vc T c0 9 (fX9_oddsOf T c0 v3 u0)).bind fun q1 => lt ((v1 + q1.1)) fun x2 => lt (v3 + (1 : Int32)) fun x3 => fX9_allOdds_L4 T c0 ex n x2 x3 q1.2)
def fX9_allOdds (T : hT) (a0 : Nat) (u0 : hM) : Option (Int64 × hM) := fX9_allOdds_L4 T a0 (fun (x4 : Int64) (u5 : hM) => some (x4, u5)) 6000 (0 : Int64) (0 : Int32) u0
set_option maxRecDepth 100000 in
set_option maxHeartbeats 4000000 in
theorem wfX9_allOdds_L4 {c0 : Nat} {ex : Int64 → hM → Option (Int64 × hM)} {z : Int64 × hM} (hΓ : h_Γ E B T p s m args meth c cX9_allOdds 4 (some .long) RX9) (hex : ∀ (y1 : Int64) (u9 : hM) (H9 : Heap) (L9 : List Loc) (ls : Array Slot), ex y1 u9 = some z → h_W E B T s.heap u9 H9 L9 → lv_has ls 4 [(1, .long y1)] → W p l e (h_rm 3) s m args below meth c H9 L9 0 0 (h_Ql below E B T args s z) (F0 m 24 ls [])) : ∀ (n : Nat) (v1 : Int64) (v3 : Int32) (u0 : hM) (H0 : Heap) (L0 : List Loc) (ls : Array Slot), fX9_allOdds_L4 T c0 ex n v1 v3 u0 = some z → h_W E B T s.heap u0 H0 L0 → lv_has ls 4 [(0, .ref (B + c0)), (1, .long v1), (3, .int v3)] → W p l e (h_rm 3) s m args below meth c H0 L0 0 0 (h_Ql below E B T args s z) (F0 m 4 ls []) := by
  obtain ⟨hx, hb, hr, hml, hts, hown, hlk, hX⟩ := id hΓ
  intro n
  induction n with
  | zero =>
    intro v1 v3 u0 H0 L0 ls hf hw hl
    exact absurd (show (none : Option (Int64 × hM)) = some z from hf) (fun h => by cases h)
  | succ n ih =>
    intro v1 v3 u0 H0 L0 ls hf hw hl
    rw [fX9_allOdds_L4] at hf
    refine lv_iload_n hx hb dX9_allOdds_4 rfl (lv_at hl 2 rfl) ?_
    refine lv_bipush (v := 16) hx hb dX9_allOdds_5 (by decide) ?_
    refine lv_icmp_ge (tgt := 24) hx hb dX9_allOdds_7 (by decide) (fun hc => ?_) (fun hc => ?_)
    · have hf := ifp hc hf
      exact hex v1 u0 _ _ _ hf hw (lv_sub hl [1] rfl)
    · have hf := ifn hc hf
      refine lv_lload_n hx hb dX9_allOdds_10 rfl (lv_at hl 1 rfl) ?_
      refine lv_aload_n hx hb dX9_allOdds_11 rfl (lv_at hl 0 rfl) ?_
      refine lv_iload_n hx hb dX9_allOdds_12 rfl (lv_at hl 2 rfl) ?_
      refine h_cVl (As := [.int v3]) (rest := [.long v1]) hf hx hb hml hts hown hX hw myX9_oddsOf miX9_oddsOf lkX9_300 ⟨rfl, by decide⟩ (fun q hq => c_X9_oddsOf l E B T c0 v3 u0 hq) ⟨Nat.le_of_ble_eq_true rfl, Nat.le_of_ble_eq_true rfl⟩ ⟨Nat.le_refl _, Nat.le_refl _⟩ rfl hl.1 rfl (Nat.le_of_ble_eq_true rfl) dX9_allOdds_13 (fun q1 H1 L1 hf hw => ?_)
      refine lv_ladd hx hb dX9_allOdds_16 ?_
      refine h_nml hf (fun x2 hf => ?_)
      refine lv_lstore_n (lv' := [(1, .long x2), (0, .ref (B + c0)), (3, .int v3)]) hx hb dX9_allOdds_17 rfl hl (by decide) rfl (fun ls hl => ?_)
      refine h_iinc (k := 2) hf hx hb dX9_allOdds_18 hl rfl (by decide) (by decide) (fun x3 ls hf hl => ?_)
      have hl : lv_has ls 4 [(3, .int x3), (1, .long x2), (0, .ref (B + c0))] := hl
      refine lv_goto (tgt := 4) hx hb dX9_allOdds_21 (by decide) ?_
      exact ih x2 x3 q1.2 _ _ _ hf hw (lv_sub hl [2, 1, 0] rfl)
set_option maxRecDepth 100000 in
set_option maxHeartbeats 4000000 in
theorem wX9_allOdds {a0 : Nat} {u0 : hM} {z : Int64 × hM} {ls : Array Slot} (hΓ : h_Γ E B T p s m args meth c cX9_allOdds 4 (some .long) RX9) (hf : fX9_allOdds T a0 u0 = some z) (hw : h_W E B T s.heap u0 s.heap []) (hl : lv_has ls 4 [(0, .ref (B + a0))]) : W p l e (h_rm 3) s m args below meth c s.heap [] 0 0 (h_Ql below E B T args s z) (F0 m 0 ls []) := by
  obtain ⟨hx, hb, hr, hml, hts, hown, hlk, hX⟩ := id hΓ
  unfold fX9_allOdds at hf
  refine lv_lconst (v := 0) hx hb dX9_allOdds_0 (by decide) ?_
  refine lv_lstore_n (lv' := [(1, .long (0 : Int64)), (0, .ref (B + a0))]) hx hb dX9_allOdds_1 rfl hl (by decide) rfl (fun ls hl => ?_)
  refine lv_iconst (v := 0) hx hb dX9_allOdds_2 (by decide) ?_
  refine lv_istore_n (lv' := [(3, .int (0 : Int32)), (1, .long (0 : Int64)), (0, .ref (B + a0))]) hx hb dX9_allOdds_3 rfl hl (by decide) rfl (fun ls hl => ?_)
  refine wfX9_allOdds_L4 hΓ ?_ 6000 (0 : Int64) (0 : Int32) u0 _ _ _ hf hw (lv_sub hl [2, 1, 0] rfl)
  intro x4 u5 H5 L5 ls hf hw hl
  refine lv_lload_n hx hb dX9_allOdds_24 rfl (lv_at hl 0 rfl) ?_
  exact h_lret hf hx hb hr hlk hw dX9_allOdds_25
theorem c_X9_allOdds (l : Launch) (E : hE) (B : Nat) (T : hT) (a0 : Nat) (u0 : hM) {z : Int64 × hM} (hf : fX9_allOdds T a0 u0 = some z) : h_Ct l E B T yX9_allOdds cX9_allOdds 4 (some .long) 3 [.ref (B + a0)] u0 z.2 (some (.long z.1)) := h_ofW (by decide) (Nat.le_of_ble_eq_true rfl) (fun p e s m below meth c ls hΓ hl hw => wX9_allOdds hΓ hf hw hl)
def fX9_odds (T : hT) (a0 : Nat) (p1 : Int32) (u0 : hM) : Option (Int64 × hM) := if p1 = (-1 : Int32) then ((vc T a0 9 (fX9_allOdds T a0 u0)).bind fun q3 => some (q3.1, q3.2)) else ((fX9_in T p1.toInt64 (0 : Int64) (15 : Int64) u0).bind fun q1 => if q1.1 = 0 then (some ((-1000000001 : Int64), q1.2)) else ((vc T a0 9 (fX9_oddsOf T a0 p1 q1.2)).bind fun q2 => some (q2.1, q2.2)))
set_option maxRecDepth 100000 in
set_option maxHeartbeats 4000000 in
theorem wX9_odds {a0 : Nat} {p1 : Int32} {u0 : hM} {z : Int64 × hM} {ls : Array Slot} (hΓ : h_Γ E B T p s m args meth c cX9_odds 2 (some .long) RX9) (hf : fX9_odds T a0 p1 u0 = some z) (hw : h_W E B T s.heap u0 s.heap []) (hl : lv_has ls 2 [(0, .ref (B + a0)), (1, .int p1)]) : W p l e (h_rm 4) s m args below meth c s.heap [] 0 0 (h_Ql below E B T args s z) (F0 m 0 ls []) := by
  obtain ⟨hx, hb, hr, hml, hts, hown, hlk, hX⟩ := id hΓ
  unfold fX9_odds at hf
  refine lv_iload_n hx hb dX9_odds_0 rfl (lv_at hl 1 rfl) ?_
  refine lv_iconst (v := -1) hx hb dX9_odds_1 (by decide) ?_
  refine lv_icmp_ne (tgt := 10) hx hb dX9_odds_2 (by decide) (fun hc => ?_) (fun hc => ?_)
  · have hf := ifn hc hf
    refine lv_iload_n hx hb dX9_odds_10 rfl (lv_at hl 1 rfl) ?_
    refine lv_i2l hx hb dX9_odds_11 rfl ?_
    refine lv_lconst (v := 0) hx hb dX9_odds_12 (by decide) ?_
    refine lv_ldc2 hx hb hown (hts _ klX9_282) dX9_odds_13 ?_
    refine h_cSi (As := [.long p1.toInt64, .long (0 : Int64), .long (15 : Int64)]) (rest := []) hf hx hb hml hts hown hX hw myX9_in msX9_in lkX9_90 (fun q hq => c_X9_in l E B T p1.toInt64 (0 : Int64) (15 : Int64) u0 hq) ⟨Nat.le_of_ble_eq_true rfl, Nat.le_of_ble_eq_true rfl⟩ ⟨Nat.le_refl _, Nat.le_refl _⟩ rfl hl.1 rfl (Nat.le_of_ble_eq_true rfl) dX9_odds_16 (fun q1 H1 L1 hf hw => ?_)
    refine lv_if_eq (tgt := 30) hx hb dX9_odds_19 (by decide) (fun hc => ?_) (fun hc => ?_)
    · have hf := ifp hc hf
      refine lv_ldc2 hx hb hown (hts _ klX9_304) dX9_odds_30 ?_
      exact h_lret hf hx hb hr hlk hw dX9_odds_33
    · have hf := ifn hc hf
      refine lv_aload_n hx hb dX9_odds_22 rfl (lv_at hl 0 rfl) ?_
      refine lv_iload_n hx hb dX9_odds_23 rfl (lv_at hl 1 rfl) ?_
      refine h_cVl (As := [.int p1]) (rest := []) hf hx hb hml hts hown hX hw myX9_oddsOf miX9_oddsOf lkX9_300 ⟨rfl, by decide⟩ (fun q hq => c_X9_oddsOf l E B T a0 p1 q1.2 hq) ⟨Nat.le_of_ble_eq_true rfl, Nat.le_of_ble_eq_true rfl⟩ ⟨Nat.le_refl _, Nat.le_refl _⟩ rfl hl.1 rfl (Nat.le_of_ble_eq_true rfl) dX9_odds_24 (fun q2 H2 L2 hf hw => ?_)
      refine lv_goto (tgt := 33) hx hb dX9_odds_27 (by decide) ?_
      exact h_lret hf hx hb hr hlk hw dX9_odds_33
  · have hf := ifp hc hf
    refine lv_aload_n hx hb dX9_odds_5 rfl (lv_at hl 0 rfl) ?_
    refine h_cVl (As := []) (rest := []) hf hx hb hml hts hown hX hw myX9_allOdds miX9_allOdds lkX9_296 ⟨rfl, by decide⟩ (fun q hq => c_X9_allOdds l E B T a0 u0 hq) ⟨Nat.le_of_ble_eq_true rfl, Nat.le_of_ble_eq_true rfl⟩ ⟨Nat.le_refl _, Nat.le_refl _⟩ rfl hl.1 rfl (Nat.le_of_ble_eq_true rfl) dX9_odds_6 (fun q3 H3 L3 hf hw => ?_)
    exact h_lret hf hx hb hr hlk hw dX9_odds_9
theorem c_X9_odds (l : Launch) (E : hE) (B : Nat) (T : hT) (a0 : Nat) (p1 : Int32) (u0 : hM) {z : Int64 × hM} (hf : fX9_odds T a0 p1 u0 = some z) : h_Ct l E B T yX9_odds cX9_odds 2 (some .long) 4 [.ref (B + a0), .int p1] u0 z.2 (some (.long z.1)) := h_ofW (by decide) (Nat.le_of_ble_eq_true rfl) (fun p e s m below meth c ls hΓ hl hw => wX9_odds hΓ hf hw hl)
def fX9_greatest_L4 (T : hT) (c0 : Nat) (ex : Int64 → hM → Option (Int64 × hM)) : Nat → Int64 → Int32 → hM → Option (Int64 × hM)
  | 0, _, _, _ => none
  | n + 1, v1, v3, u0 => if (16 : Int32) ≤ v3 then (ex v1 u0) else ((vc T c0 9 (fX9_oddsOf T c0 v3 u0)).bind fun q1 => lt (if q1.1 ≤ v1 then v1 else q1.1) fun x2 => lt (v3 + (1 : Int32)) fun x3 => fX9_greatest_L4 T c0 ex n x2 x3 q1.2)
def fX9_greatest (T : hT) (a0 : Nat) (u0 : hM) : Option (Int64 × hM) := fX9_greatest_L4 T a0 (fun (x4 : Int64) (u5 : hM) => some (x4, u5)) 6000 (0 : Int64) (0 : Int32) u0
set_option maxRecDepth 100000 in
set_option maxHeartbeats 4000000 in
theorem wfX9_greatest_L4 {c0 : Nat} {ex : Int64 → hM → Option (Int64 × hM)} {z : Int64 × hM} (hΓ : h_Γ E B T p s m args meth c cX9_greatest 6 (some .long) RX9) (hex : ∀ (y1 : Int64) (u9 : hM) (H9 : Heap) (L9 : List Loc) (ls : Array Slot), ex y1 u9 = some z → h_W E B T s.heap u9 H9 L9 → lv_has ls 6 [(1, .long y1)] → W p l e (h_rm 3) s m args below meth c H9 L9 0 0 (h_Ql below E B T args s z) (F0 m 37 ls [])) : ∀ (n : Nat) (v1 : Int64) (v3 : Int32) (u0 : hM) (H0 : Heap) (L0 : List Loc) (ls : Array Slot), fX9_greatest_L4 T c0 ex n v1 v3 u0 = some z → h_W E B T s.heap u0 H0 L0 → lv_has ls 6 [(0, .ref (B + c0)), (1, .long v1), (3, .int v3)] → W p l e (h_rm 3) s m args below meth c H0 L0 0 0 (h_Ql below E B T args s z) (F0 m 4 ls []) := by
  obtain ⟨hx, hb, hr, hml, hts, hown, hlk, hX⟩ := id hΓ
  intro n
  induction n with
  | zero =>
    intro v1 v3 u0 H0 L0 ls hf hw hl
    exact absurd (show (none : Option (Int64 × hM)) = some z from hf) (fun h => by cases h)
  | succ n ih =>
    intro v1 v3 u0 H0 L0 ls hf hw hl
    rw [fX9_greatest_L4] at hf
    refine lv_iload_n hx hb dX9_greatest_4 rfl (lv_at hl 2 rfl) ?_
    refine lv_bipush (v := 16) hx hb dX9_greatest_5 (by decide) ?_
    refine lv_icmp_ge (tgt := 37) hx hb dX9_greatest_7 (by decide) (fun hc => ?_) (fun hc => ?_)
    · have hf := ifp hc hf
      exact hex v1 u0 _ _ _ hf hw (lv_sub hl [1] rfl)
    · have hf := ifn hc hf
      refine lv_aload_n hx hb dX9_greatest_10 rfl (lv_at hl 0 rfl) ?_
      refine lv_iload_n hx hb dX9_greatest_11 rfl (lv_at hl 2 rfl) ?_
      refine h_cVl (As := [.int v3]) (rest := []) hf hx hb hml hts hown hX hw myX9_oddsOf miX9_oddsOf lkX9_300 ⟨rfl, by decide⟩ (fun q hq => c_X9_oddsOf l E B T c0 v3 u0 hq) ⟨Nat.le_of_ble_eq_true rfl, Nat.le_of_ble_eq_true rfl⟩ ⟨Nat.le_refl _, Nat.le_refl _⟩ rfl hl.1 rfl (Nat.le_of_ble_eq_true rfl) dX9_greatest_12 (fun q1 H1 L1 hf hw => ?_)
      refine lv_lstore (lv' := [(4, .long q1.1), (0, .ref (B + c0)), (1, .long v1), (3, .int v3)]) hx hb dX9_greatest_15 hl (by decide) rfl (fun ls hl => ?_)
      refine lv_lload hx hb dX9_greatest_17 (lv_at hl 0 rfl) ?_
      refine lv_lload_n hx hb dX9_greatest_19 rfl (lv_at hl 2 rfl) ?_
      refine W.lcmp hx hb dX9_greatest_20 ?_
      refine h_itel (ls := ls) (jj := 30) (rest := []) hf (fun k1 k2 => ?_) (fun x2 hf => ?_)
      · refine lv_if_le (tgt := 29) hx hb dX9_greatest_21 (by decide) (fun hc => ?_) (fun hc => ?_)
        · have hc := (lg_cmp_le _ _).mp hc
          refine lv_lload_n hx hb dX9_greatest_29 rfl (lv_at hl 2 rfl) ?_
          exact k1 hc
        · have hc := (not_congr (lg_cmp_le _ _)).mp hc
          refine lv_lload hx hb dX9_greatest_24 (lv_at hl 0 rfl) ?_
          refine lv_goto (tgt := 30) hx hb dX9_greatest_26 (by decide) ?_
          exact k2 hc
      · refine lv_lstore_n (lv' := [(1, .long x2), (4, .long q1.1), (0, .ref (B + c0)), (3, .int v3)]) hx hb dX9_greatest_30 rfl hl (by decide) rfl (fun ls hl => ?_)
        refine h_iinc (k := 3) hf hx hb dX9_greatest_31 hl rfl (by decide) (by decide) (fun x3 ls hf hl => ?_)
        have hl : lv_has ls 6 [(3, .int x3), (1, .long x2), (4, .long q1.1), (0, .ref (B + c0))] := hl
        refine lv_goto (tgt := 4) hx hb dX9_greatest_34 (by decide) ?_
        exact ih x2 x3 q1.2 _ _ _ hf hw (lv_sub hl [3, 1, 0] rfl)
set_option maxRecDepth 100000 in
set_option maxHeartbeats 4000000 in
theorem wX9_greatest {a0 : Nat} {u0 : hM} {z : Int64 × hM} {ls : Array Slot} (hΓ : h_Γ E B T p s m args meth c cX9_greatest 6 (some .long) RX9) (hf : fX9_greatest T a0 u0 = some z) (hw : h_W E B T s.heap u0 s.heap []) (hl : lv_has ls 6 [(0, .ref (B + a0))]) : W p l e (h_rm 3) s m args below meth c s.heap [] 0 0 (h_Ql below E B T args s z) (F0 m 0 ls []) := by
  obtain ⟨hx, hb, hr, hml, hts, hown, hlk, hX⟩ := id hΓ
  unfold fX9_greatest at hf
  refine lv_lconst (v := 0) hx hb dX9_greatest_0 (by decide) ?_
  refine lv_lstore_n (lv' := [(1, .long (0 : Int64)), (0, .ref (B + a0))]) hx hb dX9_greatest_1 rfl hl (by decide) rfl (fun ls hl => ?_)
  refine lv_iconst (v := 0) hx hb dX9_greatest_2 (by decide) ?_
  refine lv_istore_n (lv' := [(3, .int (0 : Int32)), (1, .long (0 : Int64)), (0, .ref (B + a0))]) hx hb dX9_greatest_3 rfl hl (by decide) rfl (fun ls hl => ?_)
  refine wfX9_greatest_L4 hΓ ?_ 6000 (0 : Int64) (0 : Int32) u0 _ _ _ hf hw (lv_sub hl [2, 1, 0] rfl)
  intro x4 u5 H5 L5 ls hf hw hl
  refine lv_lload_n hx hb dX9_greatest_37 rfl (lv_at hl 0 rfl) ?_
  exact h_lret hf hx hb hr hlk hw dX9_greatest_38
theorem c_X9_greatest (l : Launch) (E : hE) (B : Nat) (T : hT) (a0 : Nat) (u0 : hM) {z : Int64 × hM} (hf : fX9_greatest T a0 u0 = some z) : h_Ct l E B T yX9_greatest cX9_greatest 6 (some .long) 3 [.ref (B + a0)] u0 z.2 (some (.long z.1)) := h_ofW (by decide) (Nat.le_of_ble_eq_true rfl) (fun p e s m below meth c ls hΓ hl hw => wX9_greatest hΓ hf hw hl)
def fX9_partsBy (T : hT) (a0 : Nat) (p1 : Int32) (u0 : hM) : Option (Int64 × hM) := (gtr T u0 a0 9 8).bind fun a1 => (asti T u0 a1 p1 (1 : Int32)).bind fun u2 => (vc T a0 9 (fX9_greatest T a0 u2)).bind fun q3 => (gtr T q3.2 a0 9 8).bind fun a4 => (asti T q3.2 a4 p1 (2 : Int32)).bind fun u5 => (vc T a0 9 (fX9_greatest T a0 u5)).bind fun q6 => lt ((q3.1 + q6.1)) fun x7 => (gtr T q6.2 a0 9 8).bind fun a8 => (asti T q6.2 a8 p1 (0 : Int32)).bind fun u9 => some (x7, u9)
set_option maxRecDepth 100000 in
set_option maxHeartbeats 4000000 in
theorem wX9_partsBy {a0 : Nat} {p1 : Int32} {u0 : hM} {z : Int64 × hM} {ls : Array Slot} (hΓ : h_Γ E B T p s m args meth c cX9_partsBy 4 (some .long) RX9) (hf : fX9_partsBy T a0 p1 u0 = some z) (hw : h_W E B T s.heap u0 s.heap []) (hl : lv_has ls 4 [(0, .ref (B + a0)), (1, .int p1)]) : W p l e (h_rm 4) s m args below meth c s.heap [] 0 0 (h_Ql below E B T args s z) (F0 m 0 ls []) := by
  obtain ⟨hx, hb, hr, hml, hts, hown, hlk, hX⟩ := id hΓ
  unfold fX9_partsBy at hf
  refine lv_aload_n hx hb dX9_partsBy_0 rfl (lv_at hl 0 rfl) ?_
  refine h_getr hf hx hb hts hown hX hw flX9_26 rfl dX9_partsBy_1 (fun a1 hf => ?_)
  refine lv_iload_n hx hb dX9_partsBy_4 rfl (lv_at hl 1 rfl) ?_
  refine lv_iconst (v := 1) hx hb dX9_partsBy_5 (by decide) ?_
  refine h_iast hf hx hb hX hw dX9_partsBy_6 (fun u2 H2 L2 hf hw => ?_)
  refine lv_aload_n hx hb dX9_partsBy_7 rfl (lv_at hl 0 rfl) ?_
  refine h_cVl (As := []) (rest := []) hf hx hb hml hts hown hX hw myX9_greatest miX9_greatest lkX9_306 ⟨rfl, by decide⟩ (fun q hq => c_X9_greatest l E B T a0 u2 hq) ⟨Nat.le_of_ble_eq_true rfl, Nat.le_of_ble_eq_true rfl⟩ ⟨Nat.le_refl _, Nat.le_refl _⟩ rfl hl.1 rfl (Nat.le_of_ble_eq_true rfl) dX9_partsBy_8 (fun q3 H3 L3 hf hw => ?_)
  refine lv_lstore_n (lv' := [(2, .long q3.1), (0, .ref (B + a0)), (1, .int p1)]) hx hb dX9_partsBy_11 rfl hl (by decide) rfl (fun ls hl => ?_)
  refine lv_aload_n hx hb dX9_partsBy_12 rfl (lv_at hl 1 rfl) ?_
  refine h_getr hf hx hb hts hown hX hw flX9_26 rfl dX9_partsBy_13 (fun a4 hf => ?_)
  refine lv_iload_n hx hb dX9_partsBy_16 rfl (lv_at hl 2 rfl) ?_
  refine lv_iconst (v := 2) hx hb dX9_partsBy_17 (by decide) ?_
  refine h_iast hf hx hb hX hw dX9_partsBy_18 (fun u5 H5 L5 hf hw => ?_)
  refine lv_lload_n hx hb dX9_partsBy_19 rfl (lv_at hl 0 rfl) ?_
  refine lv_aload_n hx hb dX9_partsBy_20 rfl (lv_at hl 1 rfl) ?_
  refine h_cVl (As := []) (rest := [.long q3.1]) hf hx hb hml hts hown hX hw myX9_greatest miX9_greatest lkX9_306 ⟨rfl, by decide⟩ (fun q hq => c_X9_greatest l E B T a0 u5 hq) ⟨Nat.le_of_ble_eq_true rfl, Nat.le_of_ble_eq_true rfl⟩ ⟨Nat.le_refl _, Nat.le_refl _⟩ rfl hl.1 rfl (Nat.le_of_ble_eq_true rfl) dX9_partsBy_21 (fun q6 H6 L6 hf hw => ?_)
  refine lv_ladd hx hb dX9_partsBy_24 ?_
  refine h_nml hf (fun x7 hf => ?_)
  refine lv_lstore_n (lv' := [(2, .long x7), (0, .ref (B + a0)), (1, .int p1)]) hx hb dX9_partsBy_25 rfl hl (by decide) rfl (fun ls hl => ?_)
  refine lv_aload_n hx hb dX9_partsBy_26 rfl (lv_at hl 1 rfl) ?_
  refine h_getr hf hx hb hts hown hX hw flX9_26 rfl dX9_partsBy_27 (fun a8 hf => ?_)
  refine lv_iload_n hx hb dX9_partsBy_30 rfl (lv_at hl 2 rfl) ?_
  refine lv_iconst (v := 0) hx hb dX9_partsBy_31 (by decide) ?_
  refine h_iast hf hx hb hX hw dX9_partsBy_32 (fun u9 H9 L9 hf hw => ?_)
  refine lv_lload_n hx hb dX9_partsBy_33 rfl (lv_at hl 0 rfl) ?_
  exact h_lret hf hx hb hr hlk hw dX9_partsBy_34
theorem c_X9_partsBy (l : Launch) (E : hE) (B : Nat) (T : hT) (a0 : Nat) (p1 : Int32) (u0 : hM) {z : Int64 × hM} (hf : fX9_partsBy T a0 p1 u0 = some z) : h_Ct l E B T yX9_partsBy cX9_partsBy 4 (some .long) 4 [.ref (B + a0), .int p1] u0 z.2 (some (.long z.1)) := h_ofW (by decide) (Nat.le_of_ble_eq_true rfl) (fun p e s m below meth c ls hΓ hl hw => wX9_partsBy hΓ hf hw hl)
def fX9_next_L7 (T : hT) (c0 : Nat) (ex : Int32 → hM → Option (Int32 × hM)) : Nat → Int32 → Int64 → Int32 → hM → Option (Int32 × hM)
  | 0, _, _, _, _ => none
  | n + 1, v1, v2, v4, u0 => (gti T u0 c0 9 5).bind fun x1 => if x1 ≤ v4 then (ex v1 u0) else ((gtr T u0 c0 9 8).bind fun a2 => (ald 11 T u0 a2 v4).bind fun x3 => lt (fun (x4 : Int32) (x5 : Int64) (u6 : hM) => lt (v4 + (1 : Int32)) fun x7 => fX9_next_L7 T c0 ex n x4 x5 x7 u6) fun J103 => if x3 = 0 then ((vc T c0 9 (fX9_partsBy T c0 v4 u0)).bind fun q8 => lt (fun (x9 : Int32) (u10 : hM) => lt (if x9 = 0 then v1 else v4) fun x11 => lt (if x9 = 0 then v2 else q8.1) fun x12 => J103 x11 x12 u10) fun J77 => lt (fun (u13 : hM) => J77 (1 : Int32) u13) fun J72 => if v1 < 0 then (J72 q8.2) else (if v2 < q8.1 then (J72 q8.2) else (lt (fun (u14 : hM) => J77 (0 : Int32) u14) fun J76 => if q8.1 = v2 then ((gtr T q8.2 c0 9 6).bind fun a15 => (ald 11 T q8.2 a15 ((4 : Int32) * v4)).bind fun x16 => (gtr T q8.2 c0 9 6).bind fun a17 => (ald 11 T q8.2 a17 ((4 : Int32) * v1)).bind fun x18 => if x18 ≤ x16 then (J76 q8.2) else (J72 q8.2)) else (J76 q8.2)))) else (J103 v1 v2 u0))
def fX9_next (T : hT) (a0 : Nat) (u0 : hM) : Option (Int32 × hM) := fX9_next_L7 T a0 (fun (x19 : Int32) (u20 : hM) => some (x19, u20)) 6000 (-1 : Int32) (0 : Int64) (0 : Int32) u0
set_option maxRecDepth 100000 in
set_option maxHeartbeats 4000000 in
theorem wfX9_next_L7 {c0 : Nat} {ex : Int32 → hM → Option (Int32 × hM)} {z : Int32 × hM} (hΓ : h_Γ E B T p s m args meth c cX9_next 8 (some .int) RX9) (hex : ∀ (y1 : Int32) (u9 : hM) (H9 : Heap) (L9 : List Loc) (ls : Array Slot), ex y1 u9 = some z → h_W E B T s.heap u9 H9 L9 → lv_has ls 8 [(1, .int y1)] → W p l e (h_rm 5) s m args below meth c H9 L9 0 0 (h_Qi below E B T args s z) (F0 m 109 ls [])) : ∀ (n : Nat) (v1 : Int32) (v2 : Int64) (v4 : Int32) (u0 : hM) (H0 : Heap) (L0 : List Loc) (ls : Array Slot), fX9_next_L7 T c0 ex n v1 v2 v4 u0 = some z → h_W E B T s.heap u0 H0 L0 → lv_has ls 8 [(0, .ref (B + c0)), (1, .int v1), (2, .long v2), (4, .int v4)] → W p l e (h_rm 5) s m args below meth c H0 L0 0 0 (h_Qi below E B T args s z) (F0 m 7 ls []) := by
  obtain ⟨hx, hb, hr, hml, hts, hown, hlk, hX⟩ := id hΓ
  intro n
  induction n with
  | zero =>
    intro v1 v2 v4 u0 H0 L0 ls hf hw hl
    exact absurd (show (none : Option (Int32 × hM)) = some z from hf) (fun h => by cases h)
  | succ n ih =>
    intro v1 v2 v4 u0 H0 L0 ls hf hw hl
    rw [fX9_next_L7] at hf
    refine lv_iload hx hb dX9_next_7 (lv_at hl 3 rfl) ?_
    refine lv_aload_n hx hb dX9_next_9 rfl (lv_at hl 0 rfl) ?_
    refine h_geti hf hx hb hts hown hX hw flX9_94 rfl dX9_next_10 (fun x1 hf => ?_)
    refine lv_icmp_ge (tgt := 109) hx hb dX9_next_13 (by decide) (fun hc => ?_) (fun hc => ?_)
    · have hf := ifp hc hf
      exact hex v1 u0 _ _ _ hf hw (lv_sub hl [1] rfl)
    · have hf := ifn hc hf
      refine lv_aload_n hx hb dX9_next_16 rfl (lv_at hl 0 rfl) ?_
      refine h_getr hf hx hb hts hown hX hw flX9_26 rfl dX9_next_17 (fun a2 hf => ?_)
      refine lv_iload hx hb dX9_next_20 (lv_at hl 3 rfl) ?_
      refine h_iald hf hx hb hX hw dX9_next_22 (fun x3 hf => ?_)
      obtain ⟨J103, eJ103, hf⟩ := h_lt hf
      have hJ103 : ∀ (x4 : Int32) (x5 : Int64) (u6 : hM) (H6 : Heap) (L6 : List Loc) (ls : Array Slot), J103 x4 x5 u6 = some z → h_W E B T s.heap u6 H6 L6 → lv_has ls 8 [(0, .ref (B + c0)), (1, .int x4), (2, .long x5), (4, .int v4)] → W p l e (h_rm 5) s m args below meth c H6 L6 0 0 (h_Qi below E B T args s z) (F0 m 103 ls []) := by
        intro x4 x5 u6 H6 L6 ls hf hw hl
        rw [eJ103] at hf
        refine h_iinc (k := 3) hf hx hb dX9_next_103 hl rfl (by decide) (by decide) (fun x7 ls hf hl => ?_)
        have hl : lv_has ls 8 [(4, .int x7), (0, .ref (B + c0)), (1, .int x4), (2, .long x5)] := hl
        refine lv_goto (tgt := 7) hx hb dX9_next_106 (by decide) ?_
        exact ih x4 x5 x7 u6 _ _ _ hf hw (lv_sub hl [1, 2, 3, 0] rfl)
      clear eJ103
      refine lv_if_ne (tgt := 103) hx hb dX9_next_23 (by decide) (fun hc => ?_) (fun hc => ?_)
      · have hf := ifn hc hf
        exact hJ103 v1 v2 u0 _ _ _ hf hw (lv_sub hl [0, 1, 2, 3] rfl)
      · have hf := ifp hc hf
        refine lv_aload_n hx hb dX9_next_26 rfl (lv_at hl 0 rfl) ?_
        refine lv_iload hx hb dX9_next_27 (lv_at hl 3 rfl) ?_
        refine h_cVl (As := [.int v4]) (rest := []) hf hx hb hml hts hown hX hw myX9_partsBy miX9_partsBy lkX9_309 ⟨rfl, by decide⟩ (fun q hq => c_X9_partsBy l E B T c0 v4 u0 hq) ⟨Nat.le_of_ble_eq_true rfl, Nat.le_of_ble_eq_true rfl⟩ ⟨Nat.le_refl _, Nat.le_refl _⟩ rfl hl.1 rfl (Nat.le_of_ble_eq_true rfl) dX9_next_29 (fun q8 H8 L8 hf hw => ?_)
        refine lv_lstore (lv' := [(5, .long q8.1), (0, .ref (B + c0)), (1, .int v1), (2, .long v2), (4, .int v4)]) hx hb dX9_next_32 hl (by decide) rfl (fun ls hl => ?_)
        refine lv_iload_n hx hb dX9_next_34 rfl (lv_at hl 2 rfl) ?_
        obtain ⟨J77, eJ77, hf⟩ := h_lt hf
        have hJ77 : ∀ (x9 : Int32) (u10 : hM) (H10 : Heap) (L10 : List Loc) (ls : Array Slot), J77 x9 u10 = some z → h_W E B T s.heap u10 H10 L10 → lv_has ls 8 [(0, .ref (B + c0)), (1, .int v1), (2, .long v2), (4, .int v4), (5, .long q8.1)] → W p l e (h_rm 5) s m args below meth c H10 L10 0 0 (h_Qi below E B T args s z) (F0 m 77 ls [.int x9]) := by
          intro x9 u10 H10 L10 ls hf hw hl
          rw [eJ77] at hf
          refine lv_istore (lv' := [(7, .int x9), (0, .ref (B + c0)), (1, .int v1), (2, .long v2), (4, .int v4), (5, .long q8.1)]) hx hb dX9_next_77 hl (by decide) rfl (fun ls hl => ?_)
          refine lv_iload hx hb dX9_next_79 (lv_at hl 0 rfl) ?_
          refine h_ite (ls := ls) (jj := 90) (rest := []) hf (fun k1 k2 => ?_) (fun x11 hf => ?_)
          · refine lv_if_eq (tgt := 89) hx hb dX9_next_81 (by decide) (fun hc => ?_) (fun hc => ?_)
            · refine lv_iload_n hx hb dX9_next_89 rfl (lv_at hl 2 rfl) ?_
              exact k1 hc
            · refine lv_iload hx hb dX9_next_84 (lv_at hl 4 rfl) ?_
              refine lv_goto (tgt := 90) hx hb dX9_next_86 (by decide) ?_
              exact k2 hc
          · refine lv_istore_n (lv' := [(1, .int x11), (7, .int x9), (0, .ref (B + c0)), (2, .long v2), (4, .int v4), (5, .long q8.1)]) hx hb dX9_next_90 rfl hl (by decide) rfl (fun ls hl => ?_)
            refine lv_iload hx hb dX9_next_91 (lv_at hl 1 rfl) ?_
            refine h_itel (ls := ls) (jj := 102) (rest := []) hf (fun k1 k2 => ?_) (fun x12 hf => ?_)
            · refine lv_if_eq (tgt := 101) hx hb dX9_next_93 (by decide) (fun hc => ?_) (fun hc => ?_)
              · refine lv_lload_n hx hb dX9_next_101 rfl (lv_at hl 3 rfl) ?_
                exact k1 hc
              · refine lv_lload hx hb dX9_next_96 (lv_at hl 5 rfl) ?_
                refine lv_goto (tgt := 102) hx hb dX9_next_98 (by decide) ?_
                exact k2 hc
            · refine lv_lstore_n (lv' := [(2, .long x12), (1, .int x11), (7, .int x9), (0, .ref (B + c0)), (4, .int v4), (5, .long q8.1)]) hx hb dX9_next_102 rfl hl (by decide) rfl (fun ls hl => ?_)
              exact hJ103 x11 x12 u10 _ _ _ hf hw (lv_sub hl [3, 1, 0, 4] rfl)
        clear eJ77
        obtain ⟨J72, eJ72, hf⟩ := h_lt hf
        have hJ72 : ∀ (u13 : hM) (H13 : Heap) (L13 : List Loc) (ls : Array Slot), J72  u13 = some z → h_W E B T s.heap u13 H13 L13 → lv_has ls 8 [(0, .ref (B + c0)), (1, .int v1), (2, .long v2), (4, .int v4), (5, .long q8.1)] → W p l e (h_rm 5) s m args below meth c H13 L13 0 0 (h_Qi below E B T args s z) (F0 m 72 ls []) := by
          intro  u13 H13 L13 ls hf hw hl
          rw [eJ72] at hf
          refine lv_iconst (v := 1) hx hb dX9_next_72 (by decide) ?_
          refine lv_goto (tgt := 77) hx hb dX9_next_73 (by decide) ?_
          exact hJ77 (1 : Int32) u13 _ _ _ hf hw (lv_sub hl [0, 1, 2, 3, 4] rfl)
        clear eJ72
        refine lv_if_lt (tgt := 72) hx hb dX9_next_35 (by decide) (fun hc => ?_) (fun hc => ?_)
        · have hf := ifp hc hf
          exact hJ72  q8.2 _ _ _ hf hw (lv_sub hl [1, 2, 3, 4, 0] rfl)
        · have hf := ifn hc hf
          refine lv_lload hx hb dX9_next_38 (lv_at hl 0 rfl) ?_
          refine lv_lload_n hx hb dX9_next_40 rfl (lv_at hl 3 rfl) ?_
          refine W.lcmp hx hb dX9_next_41 ?_
          refine lv_if_gt (tgt := 72) hx hb dX9_next_42 (by decide) (fun hc => ?_) (fun hc => ?_)
          · have hc := (lg_cmp_gt _ _).mp hc
            have hf := ifp hc hf
            exact hJ72  q8.2 _ _ _ hf hw (lv_sub hl [1, 2, 3, 4, 0] rfl)
          · have hc := (not_congr (lg_cmp_gt _ _)).mp hc
            have hf := ifn hc hf
            refine lv_lload hx hb dX9_next_45 (lv_at hl 0 rfl) ?_
            refine lv_lload_n hx hb dX9_next_47 rfl (lv_at hl 3 rfl) ?_
            refine W.lcmp hx hb dX9_next_48 ?_
            obtain ⟨J76, eJ76, hf⟩ := h_lt hf
            have hJ76 : ∀ (u14 : hM) (H14 : Heap) (L14 : List Loc) (ls : Array Slot), J76  u14 = some z → h_W E B T s.heap u14 H14 L14 → lv_has ls 8 [(0, .ref (B + c0)), (1, .int v1), (2, .long v2), (4, .int v4), (5, .long q8.1)] → W p l e (h_rm 5) s m args below meth c H14 L14 0 0 (h_Qi below E B T args s z) (F0 m 76 ls []) := by
              intro  u14 H14 L14 ls hf hw hl
              rw [eJ76] at hf
              refine lv_iconst (v := 0) hx hb dX9_next_76 (by decide) ?_
              exact hJ77 (0 : Int32) u14 _ _ _ hf hw (lv_sub hl [0, 1, 2, 3, 4] rfl)
            clear eJ76
            refine lv_if_ne (tgt := 76) hx hb dX9_next_49 (by decide) (fun hc => ?_) (fun hc => ?_)
            · have hc := (not_congr (lg_cmp_eq _ _)).mp hc
              have hf := ifn hc hf
              exact hJ76  q8.2 _ _ _ hf hw (lv_sub hl [1, 2, 3, 4, 0] rfl)
            · have hc := (lg_cmp_eq _ _).mp hc
              have hf := ifp hc hf
              refine lv_aload_n hx hb dX9_next_52 rfl (lv_at hl 1 rfl) ?_
              refine h_getr hf hx hb hts hown hX hw flX9_20 rfl dX9_next_53 (fun a15 hf => ?_)
              refine lv_iconst (v := 4) hx hb dX9_next_56 (by decide) ?_
              refine lv_iload hx hb dX9_next_57 (lv_at hl 4 rfl) ?_
              refine lv_imul hx hb dX9_next_59 ?_
              refine h_iald hf hx hb hX hw dX9_next_60 (fun x16 hf => ?_)
              refine lv_aload_n hx hb dX9_next_61 rfl (lv_at hl 1 rfl) ?_
              refine h_getr hf hx hb hts hown hX hw flX9_20 rfl dX9_next_62 (fun a17 hf => ?_)
              refine lv_iconst (v := 4) hx hb dX9_next_65 (by decide) ?_
              refine lv_iload_n hx hb dX9_next_66 rfl (lv_at hl 2 rfl) ?_
              refine lv_imul hx hb dX9_next_67 ?_
              refine h_iald hf hx hb hX hw dX9_next_68 (fun x18 hf => ?_)
              refine lv_icmp_ge (tgt := 76) hx hb dX9_next_69 (by decide) (fun hc => ?_) (fun hc => ?_)
              · have hf := ifp hc hf
                exact hJ76  q8.2 _ _ _ hf hw (lv_sub hl [1, 2, 3, 4, 0] rfl)
              · have hf := ifn hc hf
                exact hJ72  q8.2 _ _ _ hf hw (lv_sub hl [1, 2, 3, 4, 0] rfl)
set_option maxRecDepth 100000 in
set_option maxHeartbeats 4000000 in
theorem wX9_next {a0 : Nat} {u0 : hM} {z : Int32 × hM} {ls : Array Slot} (hΓ : h_Γ E B T p s m args meth c cX9_next 8 (some .int) RX9) (hf : fX9_next T a0 u0 = some z) (hw : h_W E B T s.heap u0 s.heap []) (hl : lv_has ls 8 [(0, .ref (B + a0))]) : W p l e (h_rm 5) s m args below meth c s.heap [] 0 0 (h_Qi below E B T args s z) (F0 m 0 ls []) := by
  obtain ⟨hx, hb, hr, hml, hts, hown, hlk, hX⟩ := id hΓ
  unfold fX9_next at hf
  refine lv_iconst (v := -1) hx hb dX9_next_0 (by decide) ?_
  refine lv_istore_n (lv' := [(1, .int (-1 : Int32)), (0, .ref (B + a0))]) hx hb dX9_next_1 rfl hl (by decide) rfl (fun ls hl => ?_)
  refine lv_lconst (v := 0) hx hb dX9_next_2 (by decide) ?_
  refine lv_lstore_n (lv' := [(2, .long (0 : Int64)), (1, .int (-1 : Int32)), (0, .ref (B + a0))]) hx hb dX9_next_3 rfl hl (by decide) rfl (fun ls hl => ?_)
  refine lv_iconst (v := 0) hx hb dX9_next_4 (by decide) ?_
  refine lv_istore (lv' := [(4, .int (0 : Int32)), (2, .long (0 : Int64)), (1, .int (-1 : Int32)), (0, .ref (B + a0))]) hx hb dX9_next_5 hl (by decide) rfl (fun ls hl => ?_)
  refine wfX9_next_L7 hΓ ?_ 6000 (-1 : Int32) (0 : Int64) (0 : Int32) u0 _ _ _ hf hw (lv_sub hl [3, 2, 1, 0] rfl)
  intro x19 u20 H20 L20 ls hf hw hl
  refine lv_iload_n hx hb dX9_next_109 rfl (lv_at hl 0 rfl) ?_
  exact h_iret hf hx hb hr hlk hw dX9_next_110
theorem c_X9_next (l : Launch) (E : hE) (B : Nat) (T : hT) (a0 : Nat) (u0 : hM) {z : Int32 × hM} (hf : fX9_next T a0 u0 = some z) : h_Ct l E B T yX9_next cX9_next 8 (some .int) 5 [.ref (B + a0)] u0 z.2 (some (.int z.1)) := h_ofW (by decide) (Nat.le_of_ble_eq_true rfl) (fun p e s m below meth c ls hΓ hl hw => wX9_next hΓ hf hw hl)
end GEN
