section GEN
variable {p : Program} {l : Launch} {e : Env} {s : State} {m : MethodId} {args : Array Value} {below : List Frame} {meth : Method} {c : Code} {E : hE} {B : Nat} {T : hT}
def fX8_isWithin (T : hT) (p0 : Int32) (p1 : Int32) (p2 : Int32) (u0 : hM) : Option (Int32 × hM) := if p0 < p1 then (rtz (0 : Int32) u0) else (if p2 < p0 then (rtz (0 : Int32) u0) else (rtz (1 : Int32) u0))
set_option maxRecDepth 100000 in
set_option maxHeartbeats 4000000 in
theorem wX8_isWithin {p0 : Int32} {p1 : Int32} {p2 : Int32} {u0 : hM} {z : Int32 × hM} {ls : Array Slot} (hΓ : h_Γ E B T p s m args meth c cX8_isWithin 3 (some .boolean) RX8) (hf : fX8_isWithin T p0 p1 p2 u0 = some z) (hw : h_W E B T s.heap u0 s.heap []) (hl : lv_has ls 3 [(0, .int p0), (1, .int p1), (2, .int p2)]) : W p l e (h_rm 0) s m args below meth c s.heap [] 0 0 (h_Qi below E B T args s z) (F0 m 0 ls []) := by
  obtain ⟨hx, hb, hr, hml, hts, hown, hlk, hX⟩ := id hΓ
  unfold fX8_isWithin at hf
  refine lv_iload_n hx hb dX8_isWithin_0 rfl (lv_at hl 0 rfl) ?_
  refine lv_iload_n hx hb dX8_isWithin_1 rfl (lv_at hl 1 rfl) ?_
  refine lv_icmp_lt (tgt := 14) hx hb dX8_isWithin_2 (by decide) (fun hc => ?_) (fun hc => ?_)
  · have hf := ifp hc hf
    refine lv_iconst (v := 0) hx hb dX8_isWithin_14 (by decide) ?_
    exact h_zret hf hx hb hr hlk hw dX8_isWithin_15
  · have hf := ifn hc hf
    refine lv_iload_n hx hb dX8_isWithin_5 rfl (lv_at hl 0 rfl) ?_
    refine lv_iload_n hx hb dX8_isWithin_6 rfl (lv_at hl 2 rfl) ?_
    refine lv_icmp_gt (tgt := 14) hx hb dX8_isWithin_7 (by decide) (fun hc => ?_) (fun hc => ?_)
    · have hf := ifp hc hf
      refine lv_iconst (v := 0) hx hb dX8_isWithin_14 (by decide) ?_
      exact h_zret hf hx hb hr hlk hw dX8_isWithin_15
    · have hf := ifn hc hf
      refine lv_iconst (v := 1) hx hb dX8_isWithin_10 (by decide) ?_
      refine lv_goto (tgt := 15) hx hb dX8_isWithin_11 (by decide) ?_
      exact h_zret hf hx hb hr hlk hw dX8_isWithin_15
theorem c_X8_isWithin (l : Launch) (E : hE) (B : Nat) (T : hT) (p0 : Int32) (p1 : Int32) (p2 : Int32) (u0 : hM) {z : Int32 × hM} (hf : fX8_isWithin T p0 p1 p2 u0 = some z) : h_Ct l E B T yX8_isWithin cX8_isWithin 3 (some .boolean) 0 [.int p0, .int p1, .int p2] u0 z.2 (some (.int z.1)) := h_ofW (by decide) (Nat.le_of_ble_eq_true rfl) (fun p e s m below meth c ls hΓ hl hw => wX8_isWithin hΓ hf hw hl)
def fX6_add (T : hT) (a0 : Nat) (p1 : Int32) (u0 : hM) : Option (hM) := (gti T u0 a0 6 1).bind fun x1 => if x1 < (400 : Int32) then ((gtr T u0 a0 6 0).bind fun a2 => (gti T u0 a0 6 1).bind fun x3 => (astb T u0 a2 x3 p1).bind fun u4 => (gti T u4 a0 6 1).bind fun x5 => (pti T u4 a0 6 1 (x5 + (1 : Int32))).bind fun u6 => some u6) else (some u0)
set_option maxRecDepth 100000 in
set_option maxHeartbeats 4000000 in
theorem wX6_add {a0 : Nat} {p1 : Int32} {u0 : hM} {z : hM} {ls : Array Slot} (hΓ : h_Γ E B T p s m args meth c cX6_add 2 none RX6) (hf : fX6_add T a0 p1 u0 = some z) (hw : h_W E B T s.heap u0 s.heap []) (hl : lv_has ls 2 [(0, .ref (B + a0)), (1, .int p1)]) : W p l e (h_rm 0) s m args below meth c s.heap [] 0 0 (h_Qv below E B T args s z) (F0 m 0 ls []) := by
  obtain ⟨hx, hb, hr, hml, hts, hown, hlk, hX⟩ := id hΓ
  unfold fX6_add at hf
  refine lv_aload_n hx hb dX6_add_0 rfl (lv_at hl 0 rfl) ?_
  refine h_geti hf hx hb hts hown hX hw flX6_15 rfl dX6_add_1 (fun x1 hf => ?_)
  refine lv_sipush (v := 400) hx hb dX6_add_4 (by decide) ?_
  refine lv_icmp_lt (tgt := 11) hx hb dX6_add_7 (by decide) (fun hc => ?_) (fun hc => ?_)
  · have hf := ifp hc hf
    refine lv_aload_n hx hb dX6_add_11 rfl (lv_at hl 0 rfl) ?_
    refine h_getr hf hx hb hts hown hX hw flX6_9 rfl dX6_add_12 (fun a2 hf => ?_)
    refine lv_aload_n hx hb dX6_add_15 rfl (lv_at hl 0 rfl) ?_
    refine h_geti hf hx hb hts hown hX hw flX6_15 rfl dX6_add_16 (fun x3 hf => ?_)
    refine lv_iload_n hx hb dX6_add_19 rfl (lv_at hl 1 rfl) ?_
    refine h_bast hf hx hb hX hw dX6_add_20 (fun u4 H4 L4 hf hw => ?_)
    refine lv_aload_n hx hb dX6_add_21 rfl (lv_at hl 0 rfl) ?_
    refine lv_dup hx hb dX6_add_22 rfl ?_
    refine h_geti hf hx hb hts hown hX hw flX6_15 rfl dX6_add_23 (fun x5 hf => ?_)
    refine lv_iconst (v := 1) hx hb dX6_add_26 (by decide) ?_
    refine lv_iadd hx hb dX6_add_27 ?_
    refine h_puti hf hx hb hts hown hX hw flX6_15 ⟨rfl, rfl⟩ dX6_add_28 (fun u6 H6 L6 hf hw => ?_)
    exact h_vret hf hx hb hr hlk hw dX6_add_31
  · have hf := ifn hc hf
    exact h_vret hf hx hb hr hlk hw dX6_add_10
theorem c_X6_add (l : Launch) (E : hE) (B : Nat) (T : hT) (a0 : Nat) (p1 : Int32) (u0 : hM) {z : hM} (hf : fX6_add T a0 p1 u0 = some z) : h_Ct l E B T yX6_add cX6_add 2 none 0 [.ref (B + a0), .int p1] u0 z none := h_ofW (by decide) (Nat.le_of_ble_eq_true rfl) (fun p e s m below meth c ls hΓ hl hw => wX6_add hΓ hf hw hl)
def fX8_feed_L36 (T : hT) (c0 : Nat) (c2 : Int64) (ex : hM → Option (Int32 × hM)) : Nat → Int32 → hM → Option (Int32 × hM)
  | 0, _, _ => none
  | n + 1, v4, u0 => if v4 < 0 then (ex u0) else ((gtr T u0 c0 8 0).bind fun a5 => (vc T a5 6 (fX6_add T a5 ((((c2.toUInt64 >>> (((8 : Int32) * v4).toInt64.toUInt64 &&& Int64.toUInt64 63)).toInt64).toInt32).toInt8.toInt32) u0)).bind fun q6 => lt (v4 + (-1 : Int32)) fun x7 => fX8_feed_L36 T c0 c2 ex n x7 q6)
def fX8_feed (T : hT) (a0 : Nat) (p1 : Int32) (p2 : Int64) (u0 : hM) : Option (Int32 × hM) := (fX8_isWithin T p1 (1 : Int32) (8 : Int32) u0).bind fun q1 => if q1.1 = 0 then (some ((-1000000002 : Int32), q1.2)) else ((gtr T q1.2 a0 8 0).bind fun a2 => (gti T q1.2 a2 6 1).bind fun x3 => if (x3 + p1) ≤ (400 : Int32) then (lt ((p1 - (1 : Int32))) fun x4 => fX8_feed_L36 T a0 p2 (fun (u8 : hM) => (gtr T u8 a0 8 0).bind fun a9 => (gti T u8 a9 6 1).bind fun x10 => some (x10, u8)) 6000 x4 q1.2) else (some ((-1000000004 : Int32), q1.2)))
set_option maxRecDepth 100000 in
set_option maxHeartbeats 4000000 in
theorem wfX8_feed_L36 {c0 : Nat} {c2 : Int64} {ex : hM → Option (Int32 × hM)} {z : Int32 × hM} (hΓ : h_Γ E B T p s m args meth c cX8_feed 5 (some .int) RX8) (hex : ∀ (u9 : hM) (H9 : Heap) (L9 : List Loc) (ls : Array Slot), ex u9 = some z → h_W E B T s.heap u9 H9 L9 → lv_has ls 5 [(0, .ref (B + c0))] → W p l e (h_rm 1) s m args below meth c H9 L9 0 0 (h_Qi below E B T args s z) (F0 m 63 ls [])) : ∀ (n : Nat) (v4 : Int32) (u0 : hM) (H0 : Heap) (L0 : List Loc) (ls : Array Slot), fX8_feed_L36 T c0 c2 ex n v4 u0 = some z → h_W E B T s.heap u0 H0 L0 → lv_has ls 5 [(0, .ref (B + c0)), (2, .long c2), (4, .int v4)] → W p l e (h_rm 1) s m args below meth c H0 L0 0 0 (h_Qi below E B T args s z) (F0 m 36 ls []) := by
  obtain ⟨hx, hb, hr, hml, hts, hown, hlk, hX⟩ := id hΓ
  intro n
  induction n with
  | zero =>
    intro v4 u0 H0 L0 ls hf hw hl
    exact absurd (show (none : Option (Int32 × hM)) = some z from hf) (fun h => by cases h)
  | succ n ih =>
    intro v4 u0 H0 L0 ls hf hw hl
    rw [fX8_feed_L36] at hf
    refine lv_iload hx hb dX8_feed_36 (lv_at hl 2 rfl) ?_
    refine lv_if_lt (tgt := 63) hx hb dX8_feed_38 (by decide) (fun hc => ?_) (fun hc => ?_)
    · have hf := ifp hc hf
      exact hex  u0 _ _ _ hf hw (lv_sub hl [0] rfl)
    · have hf := ifn hc hf
      refine lv_aload_n hx hb dX8_feed_41 rfl (lv_at hl 0 rfl) ?_
      refine h_getr hf hx hb hts hown hX hw flX8_10 rfl dX8_feed_42 (fun a5 hf => ?_)
      refine lv_lload_n hx hb dX8_feed_45 rfl (lv_at hl 1 rfl) ?_
      refine lv_bipush (v := 8) hx hb dX8_feed_46 (by decide) ?_
      refine lv_iload hx hb dX8_feed_48 (lv_at hl 2 rfl) ?_
      refine lv_imul hx hb dX8_feed_50 ?_
      refine lv_lushr hx hb dX8_feed_51 rfl ?_
      refine lv_l2i hx hb dX8_feed_52 rfl ?_
      refine lv_i2b hx hb dX8_feed_53 rfl ?_
      refine h_cVv (As := [.int (((c2.toUInt64 >>> (((8 : Int32) * v4).toInt64.toUInt64 &&& Int64.toUInt64 63)).toInt64).toInt32).toInt8.toInt32]) (rest := []) hf hx hb hml hts hown hX hw myX6_add miX6_add lkX8_100 ⟨rfl, by decide⟩ (fun q hq => c_X6_add l E B T a5 ((((c2.toUInt64 >>> (((8 : Int32) * v4).toInt64.toUInt64 &&& Int64.toUInt64 63)).toInt64).toInt32).toInt8.toInt32) u0 hq) ⟨Nat.le_of_ble_eq_true rfl, Nat.le_of_ble_eq_true rfl⟩ ⟨Nat.le_refl _, Nat.le_refl _⟩ rfl hl.1 rfl (Nat.le_of_ble_eq_true rfl) dX8_feed_54 (fun q6 H6 L6 hf hw => ?_)
      refine h_iinc (k := 2) hf hx hb dX8_feed_57 hl rfl (by decide) (by decide) (fun x7 ls hf hl => ?_)
      have hl : lv_has ls 5 [(4, .int x7), (0, .ref (B + c0)), (2, .long c2)] := hl
      refine lv_goto (tgt := 36) hx hb dX8_feed_60 (by decide) ?_
      exact ih x7 q6 _ _ _ hf hw (lv_sub hl [1, 2, 0] rfl)
set_option maxRecDepth 100000 in
set_option maxHeartbeats 4000000 in
theorem wX8_feed {a0 : Nat} {p1 : Int32} {p2 : Int64} {u0 : hM} {z : Int32 × hM} {ls : Array Slot} (hΓ : h_Γ E B T p s m args meth c cX8_feed 5 (some .int) RX8) (hf : fX8_feed T a0 p1 p2 u0 = some z) (hw : h_W E B T s.heap u0 s.heap []) (hl : lv_has ls 5 [(0, .ref (B + a0)), (1, .int p1), (2, .long p2)]) : W p l e (h_rm 1) s m args below meth c s.heap [] 0 0 (h_Qi below E B T args s z) (F0 m 0 ls []) := by
  obtain ⟨hx, hb, hr, hml, hts, hown, hlk, hX⟩ := id hΓ
  unfold fX8_feed at hf
  refine lv_iload_n hx hb dX8_feed_0 rfl (lv_at hl 1 rfl) ?_
  refine lv_iconst (v := 1) hx hb dX8_feed_1 (by decide) ?_
  refine lv_bipush (v := 8) hx hb dX8_feed_2 (by decide) ?_
  refine h_cSi (As := [.int p1, .int (1 : Int32), .int (8 : Int32)]) (rest := []) hf hx hb hml hts hown hX hw myX8_isWithin msX8_isWithin lkX8_91 (fun q hq => c_X8_isWithin l E B T p1 (1 : Int32) (8 : Int32) u0 hq) ⟨Nat.le_of_ble_eq_true rfl, Nat.le_of_ble_eq_true rfl⟩ ⟨Nat.le_refl _, Nat.le_refl _⟩ rfl hl.1 rfl (Nat.le_of_ble_eq_true rfl) dX8_feed_4 (fun q1 H1 L1 hf hw => ?_)
  refine lv_if_ne (tgt := 13) hx hb dX8_feed_7 (by decide) (fun hc => ?_) (fun hc => ?_)
  · have hf := ifn hc hf
    refine lv_aload_n hx hb dX8_feed_13 rfl (lv_at hl 0 rfl) ?_
    refine h_getr hf hx hb hts hown hX hw flX8_10 rfl dX8_feed_14 (fun a2 hf => ?_)
    refine h_geti hf hx hb hts hown hX hw flX8_96 rfl dX8_feed_17 (fun x3 hf => ?_)
    refine lv_iload_n hx hb dX8_feed_20 rfl (lv_at hl 1 rfl) ?_
    refine lv_iadd hx hb dX8_feed_21 ?_
    refine lv_sipush (v := 400) hx hb dX8_feed_22 (by decide) ?_
    refine lv_icmp_le (tgt := 31) hx hb dX8_feed_25 (by decide) (fun hc => ?_) (fun hc => ?_)
    · have hf := ifp hc hf
      refine lv_iload_n hx hb dX8_feed_31 rfl (lv_at hl 1 rfl) ?_
      refine lv_iconst (v := 1) hx hb dX8_feed_32 (by decide) ?_
      refine lv_isub hx hb dX8_feed_33 ?_
      refine h_nmi hf (fun x4 hf => ?_)
      refine lv_istore (lv' := [(4, .int x4), (0, .ref (B + a0)), (1, .int p1), (2, .long p2)]) hx hb dX8_feed_34 hl (by decide) rfl (fun ls hl => ?_)
      refine wfX8_feed_L36 hΓ ?_ 6000 x4 q1.2 _ _ _ hf hw (lv_sub hl [1, 3, 0] rfl)
      intro u8 H8 L8 ls hf hw hl
      refine lv_aload_n hx hb dX8_feed_63 rfl (lv_at hl 0 rfl) ?_
      refine h_getr hf hx hb hts hown hX hw flX8_10 rfl dX8_feed_64 (fun a9 hf => ?_)
      refine h_geti hf hx hb hts hown hX hw flX8_96 rfl dX8_feed_67 (fun x10 hf => ?_)
      exact h_iret hf hx hb hr hlk hw dX8_feed_70
    · have hf := ifn hc hf
      refine lv_ldc hx hb hown (hts _ kcX8_99) dX8_feed_28 ?_
      exact h_iret hf hx hb hr hlk hw dX8_feed_30
  · have hf := ifp hc hf
    refine lv_ldc hx hb hown (hts _ kcX8_95) dX8_feed_10 ?_
    exact h_iret hf hx hb hr hlk hw dX8_feed_12
theorem c_X8_feed (l : Launch) (E : hE) (B : Nat) (T : hT) (a0 : Nat) (p1 : Int32) (p2 : Int64) (u0 : hM) {z : Int32 × hM} (hf : fX8_feed T a0 p1 p2 u0 = some z) : h_Ct l E B T yX8_feed cX8_feed 5 (some .int) 1 [.ref (B + a0), .int p1, .long p2] u0 z.2 (some (.int z.1)) := h_ofW (by decide) (Nat.le_of_ble_eq_true rfl) (fun p e s m below meth c ls hΓ hl hw => wX8_feed hΓ hf hw hl)
def fX6_open (T : hT) (a0 : Nat) (u0 : hM) : Option (hM) := (pti T u0 a0 6 2 (0 : Int32)).bind fun u1 => (pti T u1 a0 6 3 (0 : Int32)).bind fun u2 => (pti T u2 a0 6 4 (0 : Int32)).bind fun u3 => (pti T u3 a0 6 5 (-1 : Int32)).bind fun u4 => some u4
set_option maxRecDepth 100000 in
set_option maxHeartbeats 4000000 in
theorem wX6_open {a0 : Nat} {u0 : hM} {z : hM} {ls : Array Slot} (hΓ : h_Γ E B T p s m args meth c cX6_open 1 none RX6) (hf : fX6_open T a0 u0 = some z) (hw : h_W E B T s.heap u0 s.heap []) (hl : lv_has ls 1 [(0, .ref (B + a0))]) : W p l e (h_rm 0) s m args below meth c s.heap [] 0 0 (h_Qv below E B T args s z) (F0 m 0 ls []) := by
  obtain ⟨hx, hb, hr, hml, hts, hown, hlk, hX⟩ := id hΓ
  unfold fX6_open at hf
  refine lv_aload_n hx hb dX6_open_0 rfl (lv_at hl 0 rfl) ?_
  refine lv_iconst (v := 0) hx hb dX6_open_1 (by decide) ?_
  refine h_puti hf hx hb hts hown hX hw flX6_19 ⟨rfl, rfl⟩ dX6_open_2 (fun u1 H1 L1 hf hw => ?_)
  refine lv_aload_n hx hb dX6_open_5 rfl (lv_at hl 0 rfl) ?_
  refine lv_iconst (v := 0) hx hb dX6_open_6 (by decide) ?_
  refine h_puti hf hx hb hts hown hX hw flX6_22 ⟨rfl, rfl⟩ dX6_open_7 (fun u2 H2 L2 hf hw => ?_)
  refine lv_aload_n hx hb dX6_open_10 rfl (lv_at hl 0 rfl) ?_
  refine lv_iconst (v := 0) hx hb dX6_open_11 (by decide) ?_
  refine h_puti hf hx hb hts hown hX hw flX6_25 ⟨rfl, rfl⟩ dX6_open_12 (fun u3 H3 L3 hf hw => ?_)
  refine lv_aload_n hx hb dX6_open_15 rfl (lv_at hl 0 rfl) ?_
  refine lv_iconst (v := -1) hx hb dX6_open_16 (by decide) ?_
  refine h_puti hf hx hb hts hown hX hw flX6_28 ⟨rfl, rfl⟩ dX6_open_17 (fun u4 H4 L4 hf hw => ?_)
  exact h_vret hf hx hb hr hlk hw dX6_open_20
theorem c_X6_open (l : Launch) (E : hE) (B : Nat) (T : hT) (a0 : Nat) (u0 : hM) {z : hM} (hf : fX6_open T a0 u0 = some z) : h_Ct l E B T yX6_open cX6_open 1 none 0 [.ref (B + a0)] u0 z none := h_ofW (by decide) (Nat.le_of_ble_eq_true rfl) (fun p e s m below meth c ls hΓ hl hw => wX6_open hΓ hf hw hl)
def fX6_findToken_L0 (T : hT) (c0 : Nat) (ex : hM → Option (hM)) : Nat → hM → Option (hM)
  | 0, _ => none
  | n + 1, u0 => (gti T u0 c0 6 2).bind fun x1 => (gti T u0 c0 6 1).bind fun x2 => if x2 ≤ x1 then (ex u0) else ((gtr T u0 c0 6 0).bind fun a3 => (gti T u0 c0 6 2).bind fun x4 => (ald 12 T u0 a3 x4).bind fun x5 => if x5 = (32 : Int32) then ((gti T u0 c0 6 2).bind fun x6 => (pti T u0 c0 6 2 (x6 + (1 : Int32))).bind fun u7 => fX6_findToken_L0 T c0 ex n u7) else (ex u0))
def fX6_findToken (T : hT) (a0 : Nat) (u0 : hM) : Option (hM) := fX6_findToken_L0 T a0 (fun (u8 : hM) => (gti T u8 a0 6 2).bind fun x9 => (pti T u8 a0 6 3 x9).bind fun u10 => some u10) 6000 u0
set_option maxRecDepth 100000 in
set_option maxHeartbeats 4000000 in
theorem wfX6_findToken_L0 {c0 : Nat} {ex : hM → Option (hM)} {z : hM} (hΓ : h_Γ E B T p s m args meth c cX6_findToken 1 none RX6) (hex : ∀ (u9 : hM) (H9 : Heap) (L9 : List Loc) (ls : Array Slot), ex u9 = some z → h_W E B T s.heap u9 H9 L9 → lv_has ls 1 [(0, .ref (B + c0))] → W p l e (h_rm 0) s m args below meth c H9 L9 0 0 (h_Qv below E B T args s z) (F0 m 38 ls [])) : ∀ (n : Nat) (u0 : hM) (H0 : Heap) (L0 : List Loc) (ls : Array Slot), fX6_findToken_L0 T c0 ex n u0 = some z → h_W E B T s.heap u0 H0 L0 → lv_has ls 1 [(0, .ref (B + c0))] → W p l e (h_rm 0) s m args below meth c H0 L0 0 0 (h_Qv below E B T args s z) (F0 m 0 ls []) := by
  obtain ⟨hx, hb, hr, hml, hts, hown, hlk, hX⟩ := id hΓ
  intro n
  induction n with
  | zero =>
    intro u0 H0 L0 ls hf hw hl
    exact absurd (show (none : Option (hM)) = some z from hf) (fun h => by cases h)
  | succ n ih =>
    intro u0 H0 L0 ls hf hw hl
    rw [fX6_findToken_L0] at hf
    refine lv_aload_n hx hb dX6_findToken_0 rfl (lv_at hl 0 rfl) ?_
    refine h_geti hf hx hb hts hown hX hw flX6_19 rfl dX6_findToken_1 (fun x1 hf => ?_)
    refine lv_aload_n hx hb dX6_findToken_4 rfl (lv_at hl 0 rfl) ?_
    refine h_geti hf hx hb hts hown hX hw flX6_15 rfl dX6_findToken_5 (fun x2 hf => ?_)
    refine lv_icmp_ge (tgt := 38) hx hb dX6_findToken_8 (by decide) (fun hc => ?_) (fun hc => ?_)
    · have hf := ifp hc hf
      exact hex  u0 _ _ _ hf hw (lv_sub hl [0] rfl)
    · have hf := ifn hc hf
      refine lv_aload_n hx hb dX6_findToken_11 rfl (lv_at hl 0 rfl) ?_
      refine h_getr hf hx hb hts hown hX hw flX6_9 rfl dX6_findToken_12 (fun a3 hf => ?_)
      refine lv_aload_n hx hb dX6_findToken_15 rfl (lv_at hl 0 rfl) ?_
      refine h_geti hf hx hb hts hown hX hw flX6_19 rfl dX6_findToken_16 (fun x4 hf => ?_)
      refine h_bald hf hx hb hX hw dX6_findToken_19 (fun x5 hf => ?_)
      refine lv_bipush (v := 32) hx hb dX6_findToken_20 (by decide) ?_
      refine lv_icmp_ne (tgt := 38) hx hb dX6_findToken_22 (by decide) (fun hc => ?_) (fun hc => ?_)
      · have hf := ifn hc hf
        exact hex  u0 _ _ _ hf hw (lv_sub hl [0] rfl)
      · have hf := ifp hc hf
        refine lv_aload_n hx hb dX6_findToken_25 rfl (lv_at hl 0 rfl) ?_
        refine lv_dup hx hb dX6_findToken_26 rfl ?_
        refine h_geti hf hx hb hts hown hX hw flX6_19 rfl dX6_findToken_27 (fun x6 hf => ?_)
        refine lv_iconst (v := 1) hx hb dX6_findToken_30 (by decide) ?_
        refine lv_iadd hx hb dX6_findToken_31 ?_
        refine h_puti hf hx hb hts hown hX hw flX6_19 ⟨rfl, rfl⟩ dX6_findToken_32 (fun u7 H7 L7 hf hw => ?_)
        refine lv_goto (tgt := 0) hx hb dX6_findToken_35 (by decide) ?_
        exact ih  u7 _ _ _ hf hw (lv_sub hl [0] rfl)
set_option maxRecDepth 100000 in
set_option maxHeartbeats 4000000 in
theorem wX6_findToken {a0 : Nat} {u0 : hM} {z : hM} {ls : Array Slot} (hΓ : h_Γ E B T p s m args meth c cX6_findToken 1 none RX6) (hf : fX6_findToken T a0 u0 = some z) (hw : h_W E B T s.heap u0 s.heap []) (hl : lv_has ls 1 [(0, .ref (B + a0))]) : W p l e (h_rm 0) s m args below meth c s.heap [] 0 0 (h_Qv below E B T args s z) (F0 m 0 ls []) := by
  obtain ⟨hx, hb, hr, hml, hts, hown, hlk, hX⟩ := id hΓ
  unfold fX6_findToken at hf
  refine wfX6_findToken_L0 hΓ ?_ 6000 u0 _ _ _ hf hw (lv_sub hl [0] rfl)
  intro u8 H8 L8 ls hf hw hl
  refine lv_aload_n hx hb dX6_findToken_38 rfl (lv_at hl 0 rfl) ?_
  refine lv_aload_n hx hb dX6_findToken_39 rfl (lv_at hl 0 rfl) ?_
  refine h_geti hf hx hb hts hown hX hw flX6_19 rfl dX6_findToken_40 (fun x9 hf => ?_)
  refine h_puti hf hx hb hts hown hX hw flX6_22 ⟨rfl, rfl⟩ dX6_findToken_43 (fun u10 H10 L10 hf hw => ?_)
  exact h_vret hf hx hb hr hlk hw dX6_findToken_46
theorem c_X6_findToken (l : Launch) (E : hE) (B : Nat) (T : hT) (a0 : Nat) (u0 : hM) {z : hM} (hf : fX6_findToken T a0 u0 = some z) : h_Ct l E B T yX6_findToken cX6_findToken 1 none 0 [.ref (B + a0)] u0 z none := h_ofW (by decide) (Nat.le_of_ble_eq_true rfl) (fun p e s m below meth c ls hΓ hl hw => wX6_findToken hΓ hf hw hl)
def fX6_hasFault (T : hT) (a0 : Nat) (u0 : hM) : Option (Int32 × hM) := (gti T u0 a0 6 4).bind fun x1 => if x1 = 0 then (rtz (0 : Int32) u0) else (rtz (1 : Int32) u0)
set_option maxRecDepth 100000 in
set_option maxHeartbeats 4000000 in
theorem wX6_hasFault {a0 : Nat} {u0 : hM} {z : Int32 × hM} {ls : Array Slot} (hΓ : h_Γ E B T p s m args meth c cX6_hasFault 1 (some .boolean) RX6) (hf : fX6_hasFault T a0 u0 = some z) (hw : h_W E B T s.heap u0 s.heap []) (hl : lv_has ls 1 [(0, .ref (B + a0))]) : W p l e (h_rm 0) s m args below meth c s.heap [] 0 0 (h_Qi below E B T args s z) (F0 m 0 ls []) := by
  obtain ⟨hx, hb, hr, hml, hts, hown, hlk, hX⟩ := id hΓ
  unfold fX6_hasFault at hf
  refine lv_aload_n hx hb dX6_hasFault_0 rfl (lv_at hl 0 rfl) ?_
  refine h_geti hf hx hb hts hown hX hw flX6_25 rfl dX6_hasFault_1 (fun x1 hf => ?_)
  refine lv_if_eq (tgt := 11) hx hb dX6_hasFault_4 (by decide) (fun hc => ?_) (fun hc => ?_)
  · have hf := ifp hc hf
    refine lv_iconst (v := 0) hx hb dX6_hasFault_11 (by decide) ?_
    exact h_zret hf hx hb hr hlk hw dX6_hasFault_12
  · have hf := ifn hc hf
    refine lv_iconst (v := 1) hx hb dX6_hasFault_7 (by decide) ?_
    refine lv_goto (tgt := 12) hx hb dX6_hasFault_8 (by decide) ?_
    exact h_zret hf hx hb hr hlk hw dX6_hasFault_12
theorem c_X6_hasFault (l : Launch) (E : hE) (B : Nat) (T : hT) (a0 : Nat) (u0 : hM) {z : Int32 × hM} (hf : fX6_hasFault T a0 u0 = some z) : h_Ct l E B T yX6_hasFault cX6_hasFault 1 (some .boolean) 0 [.ref (B + a0)] u0 z.2 (some (.int z.1)) := h_ofW (by decide) (Nat.le_of_ble_eq_true rfl) (fun p e s m below meth c ls hΓ hl hw => wX6_hasFault hΓ hf hw hl)
def fX6_isOver (T : hT) (a0 : Nat) (u0 : hM) : Option (Int32 × hM) := (vc T a0 6 (fX6_findToken T a0 u0)).bind fun q1 => (vc T a0 6 (fX6_hasFault T a0 q1)).bind fun q2 => if q2.1 = 0 then ((gti T q2.2 a0 6 2).bind fun x3 => (gti T q2.2 a0 6 1).bind fun x4 => if x3 < x4 then (rtz (0 : Int32) q2.2) else (rtz (1 : Int32) q2.2)) else (rtz (1 : Int32) q2.2)
set_option maxRecDepth 100000 in
set_option maxHeartbeats 4000000 in
theorem wX6_isOver {a0 : Nat} {u0 : hM} {z : Int32 × hM} {ls : Array Slot} (hΓ : h_Γ E B T p s m args meth c cX6_isOver 1 (some .boolean) RX6) (hf : fX6_isOver T a0 u0 = some z) (hw : h_W E B T s.heap u0 s.heap []) (hl : lv_has ls 1 [(0, .ref (B + a0))]) : W p l e (h_rm 1) s m args below meth c s.heap [] 0 0 (h_Qi below E B T args s z) (F0 m 0 ls []) := by
  obtain ⟨hx, hb, hr, hml, hts, hown, hlk, hX⟩ := id hΓ
  unfold fX6_isOver at hf
  refine lv_aload_n hx hb dX6_isOver_0 rfl (lv_at hl 0 rfl) ?_
  refine h_cVv (As := []) (rest := []) hf hx hb hml hts hown hX hw myX6_findToken miX6_findToken lkX6_35 ⟨rfl, by decide⟩ (fun q hq => c_X6_findToken l E B T a0 u0 hq) ⟨Nat.le_of_ble_eq_true rfl, Nat.le_of_ble_eq_true rfl⟩ ⟨Nat.le_refl _, Nat.le_refl _⟩ rfl hl.1 rfl (Nat.le_of_ble_eq_true rfl) dX6_isOver_1 (fun q1 H1 L1 hf hw => ?_)
  refine lv_aload_n hx hb dX6_isOver_4 rfl (lv_at hl 0 rfl) ?_
  refine h_cVi (As := []) (rest := []) hf hx hb hml hts hown hX hw myX6_hasFault miX6_hasFault lkX6_31 ⟨rfl, by decide⟩ (fun q hq => c_X6_hasFault l E B T a0 q1 hq) ⟨Nat.le_of_ble_eq_true rfl, Nat.le_of_ble_eq_true rfl⟩ ⟨Nat.le_refl _, Nat.le_refl _⟩ rfl hl.1 rfl (Nat.le_of_ble_eq_true rfl) dX6_isOver_5 (fun q2 H2 L2 hf hw => ?_)
  refine lv_if_ne (tgt := 22) hx hb dX6_isOver_8 (by decide) (fun hc => ?_) (fun hc => ?_)
  · have hf := ifn hc hf
    refine lv_iconst (v := 1) hx hb dX6_isOver_22 (by decide) ?_
    refine lv_goto (tgt := 27) hx hb dX6_isOver_23 (by decide) ?_
    exact h_zret hf hx hb hr hlk hw dX6_isOver_27
  · have hf := ifp hc hf
    refine lv_aload_n hx hb dX6_isOver_11 rfl (lv_at hl 0 rfl) ?_
    refine h_geti hf hx hb hts hown hX hw flX6_19 rfl dX6_isOver_12 (fun x3 hf => ?_)
    refine lv_aload_n hx hb dX6_isOver_15 rfl (lv_at hl 0 rfl) ?_
    refine h_geti hf hx hb hts hown hX hw flX6_15 rfl dX6_isOver_16 (fun x4 hf => ?_)
    refine lv_icmp_lt (tgt := 26) hx hb dX6_isOver_19 (by decide) (fun hc => ?_) (fun hc => ?_)
    · have hf := ifp hc hf
      refine lv_iconst (v := 0) hx hb dX6_isOver_26 (by decide) ?_
      exact h_zret hf hx hb hr hlk hw dX6_isOver_27
    · have hf := ifn hc hf
      refine lv_iconst (v := 1) hx hb dX6_isOver_22 (by decide) ?_
      refine lv_goto (tgt := 27) hx hb dX6_isOver_23 (by decide) ?_
      exact h_zret hf hx hb hr hlk hw dX6_isOver_27
theorem c_X6_isOver (l : Launch) (E : hE) (B : Nat) (T : hT) (a0 : Nat) (u0 : hM) {z : Int32 × hM} (hf : fX6_isOver T a0 u0 = some z) : h_Ct l E B T yX6_isOver cX6_isOver 1 (some .boolean) 1 [.ref (B + a0)] u0 z.2 (some (.int z.1)) := h_ofW (by decide) (Nat.le_of_ble_eq_true rfl) (fun p e s m below meth c ls hΓ hl hw => wX6_isOver hΓ hf hw hl)
def fX6_stepOver_L0 (T : hT) (c0 : Nat) (c1 : Int32) (c2 : Int32) (ex : hM → Option (Int32 × hM)) : Nat → hM → Option (Int32 × hM)
  | 0, _ => none
  | n + 1, u0 => (gti T u0 c0 6 2).bind fun x1 => (gti T u0 c0 6 1).bind fun x2 => if x2 ≤ x1 then (ex u0) else ((gtr T u0 c0 6 0).bind fun a3 => (gti T u0 c0 6 2).bind fun x4 => (ald 12 T u0 a3 x4).bind fun x5 => (fX8_isWithin T x5 c1 c2 u0).bind fun q6 => if q6.1 = 0 then (ex q6.2) else ((gti T q6.2 c0 6 2).bind fun x7 => (pti T q6.2 c0 6 2 (x7 + (1 : Int32))).bind fun u8 => fX6_stepOver_L0 T c0 c1 c2 ex n u8))
def fX6_stepOver (T : hT) (a0 : Nat) (p1 : Int32) (p2 : Int32) (u0 : hM) : Option (Int32 × hM) := fX6_stepOver_L0 T a0 p1 p2 (fun (u9 : hM) => (gti T u9 a0 6 2).bind fun x10 => (gti T u9 a0 6 3).bind fun x11 => some ((x10 - x11), u9)) 6000 u0
set_option maxRecDepth 100000 in
set_option maxHeartbeats 4000000 in
theorem wfX6_stepOver_L0 {c0 : Nat} {c1 : Int32} {c2 : Int32} {ex : hM → Option (Int32 × hM)} {z : Int32 × hM} (hΓ : h_Γ E B T p s m args meth c cX6_stepOver 3 (some .int) RX6) (hex : ∀ (u9 : hM) (H9 : Heap) (L9 : List Loc) (ls : Array Slot), ex u9 = some z → h_W E B T s.heap u9 H9 L9 → lv_has ls 3 [(0, .ref (B + c0))] → W p l e (h_rm 1) s m args below meth c H9 L9 0 0 (h_Qi below E B T args s z) (F0 m 41 ls [])) : ∀ (n : Nat) (u0 : hM) (H0 : Heap) (L0 : List Loc) (ls : Array Slot), fX6_stepOver_L0 T c0 c1 c2 ex n u0 = some z → h_W E B T s.heap u0 H0 L0 → lv_has ls 3 [(0, .ref (B + c0)), (1, .int c1), (2, .int c2)] → W p l e (h_rm 1) s m args below meth c H0 L0 0 0 (h_Qi below E B T args s z) (F0 m 0 ls []) := by
  obtain ⟨hx, hb, hr, hml, hts, hown, hlk, hX⟩ := id hΓ
  intro n
  induction n with
  | zero =>
    intro u0 H0 L0 ls hf hw hl
    exact absurd (show (none : Option (Int32 × hM)) = some z from hf) (fun h => by cases h)
  | succ n ih =>
    intro u0 H0 L0 ls hf hw hl
    rw [fX6_stepOver_L0] at hf
    refine lv_aload_n hx hb dX6_stepOver_0 rfl (lv_at hl 0 rfl) ?_
    refine h_geti hf hx hb hts hown hX hw flX6_19 rfl dX6_stepOver_1 (fun x1 hf => ?_)
    refine lv_aload_n hx hb dX6_stepOver_4 rfl (lv_at hl 0 rfl) ?_
    refine h_geti hf hx hb hts hown hX hw flX6_15 rfl dX6_stepOver_5 (fun x2 hf => ?_)
    refine lv_icmp_ge (tgt := 41) hx hb dX6_stepOver_8 (by decide) (fun hc => ?_) (fun hc => ?_)
    · have hf := ifp hc hf
      exact hex  u0 _ _ _ hf hw (lv_sub hl [0] rfl)
    · have hf := ifn hc hf
      refine lv_aload_n hx hb dX6_stepOver_11 rfl (lv_at hl 0 rfl) ?_
      refine h_getr hf hx hb hts hown hX hw flX6_9 rfl dX6_stepOver_12 (fun a3 hf => ?_)
      refine lv_aload_n hx hb dX6_stepOver_15 rfl (lv_at hl 0 rfl) ?_
      refine h_geti hf hx hb hts hown hX hw flX6_19 rfl dX6_stepOver_16 (fun x4 hf => ?_)
      refine h_bald hf hx hb hX hw dX6_stepOver_19 (fun x5 hf => ?_)
      refine lv_iload_n hx hb dX6_stepOver_20 rfl (lv_at hl 1 rfl) ?_
      refine lv_iload_n hx hb dX6_stepOver_21 rfl (lv_at hl 2 rfl) ?_
      refine h_cNi (As := [.int x5, .int c1, .int c2]) (rest := []) hf hx hb hml hts hown hX hw myX8_isWithin msX8_isWithin nkX6_38 (fun q hq => c_X8_isWithin l E B T x5 c1 c2 u0 hq) ⟨Nat.le_of_ble_eq_true rfl, Nat.le_of_ble_eq_true rfl⟩ ⟨Nat.le_refl _, Nat.le_refl _⟩ rfl hl.1 rfl (Nat.le_of_ble_eq_true rfl) dX6_stepOver_22 (fun q6 H6 L6 hf hw => ?_)
      refine lv_if_eq (tgt := 41) hx hb dX6_stepOver_25 (by decide) (fun hc => ?_) (fun hc => ?_)
      · have hf := ifp hc hf
        exact hex  q6.2 _ _ _ hf hw (lv_sub hl [0] rfl)
      · have hf := ifn hc hf
        refine lv_aload_n hx hb dX6_stepOver_28 rfl (lv_at hl 0 rfl) ?_
        refine lv_dup hx hb dX6_stepOver_29 rfl ?_
        refine h_geti hf hx hb hts hown hX hw flX6_19 rfl dX6_stepOver_30 (fun x7 hf => ?_)
        refine lv_iconst (v := 1) hx hb dX6_stepOver_33 (by decide) ?_
        refine lv_iadd hx hb dX6_stepOver_34 ?_
        refine h_puti hf hx hb hts hown hX hw flX6_19 ⟨rfl, rfl⟩ dX6_stepOver_35 (fun u8 H8 L8 hf hw => ?_)
        refine lv_goto (tgt := 0) hx hb dX6_stepOver_38 (by decide) ?_
        exact ih  u8 _ _ _ hf hw (lv_sub hl [0, 1, 2] rfl)
set_option maxRecDepth 100000 in
set_option maxHeartbeats 4000000 in
theorem wX6_stepOver {a0 : Nat} {p1 : Int32} {p2 : Int32} {u0 : hM} {z : Int32 × hM} {ls : Array Slot} (hΓ : h_Γ E B T p s m args meth c cX6_stepOver 3 (some .int) RX6) (hf : fX6_stepOver T a0 p1 p2 u0 = some z) (hw : h_W E B T s.heap u0 s.heap []) (hl : lv_has ls 3 [(0, .ref (B + a0)), (1, .int p1), (2, .int p2)]) : W p l e (h_rm 1) s m args below meth c s.heap [] 0 0 (h_Qi below E B T args s z) (F0 m 0 ls []) := by
  obtain ⟨hx, hb, hr, hml, hts, hown, hlk, hX⟩ := id hΓ
  unfold fX6_stepOver at hf
  refine wfX6_stepOver_L0 hΓ ?_ 6000 u0 _ _ _ hf hw (lv_sub hl [0, 1, 2] rfl)
  intro u9 H9 L9 ls hf hw hl
  refine lv_aload_n hx hb dX6_stepOver_41 rfl (lv_at hl 0 rfl) ?_
  refine h_geti hf hx hb hts hown hX hw flX6_19 rfl dX6_stepOver_42 (fun x10 hf => ?_)
  refine lv_aload_n hx hb dX6_stepOver_45 rfl (lv_at hl 0 rfl) ?_
  refine h_geti hf hx hb hts hown hX hw flX6_22 rfl dX6_stepOver_46 (fun x11 hf => ?_)
  refine lv_isub hx hb dX6_stepOver_49 ?_
  exact h_iret hf hx hb hr hlk hw dX6_stepOver_50
theorem c_X6_stepOver (l : Launch) (E : hE) (B : Nat) (T : hT) (a0 : Nat) (p1 : Int32) (p2 : Int32) (u0 : hM) {z : Int32 × hM} (hf : fX6_stepOver T a0 p1 p2 u0 = some z) : h_Ct l E B T yX6_stepOver cX6_stepOver 3 (some .int) 1 [.ref (B + a0), .int p1, .int p2] u0 z.2 (some (.int z.1)) := h_ofW (by decide) (Nat.le_of_ble_eq_true rfl) (fun p e s m below meth c ls hΓ hl hw => wX6_stepOver hΓ hf hw hl)
def fX6_isToken_L20 (T : hT) (c0 : Nat) (c1 : Nat) (c2 : Int32) (c3 : Int32) (ex : hM → Option (Int32 × hM)) : Nat → Int32 → hM → Option (Int32 × hM)
  | 0, _, _ => none
  | n + 1, v4, u0 => if c3 ≤ v4 then (ex u0) else ((sat c1 v4).bind fun x3 => (gtr T u0 c0 6 0).bind fun a4 => (gti T u0 c0 6 3).bind fun x5 => (ald 12 T u0 a4 ((x5 + v4) - c2)).bind fun x6 => if x3 = x6 then (lt (v4 + (1 : Int32)) fun x7 => fX6_isToken_L20 T c0 c1 c2 c3 ex n x7 u0) else (rtz (0 : Int32) u0))
def fX6_isToken (T : hT) (a0 : Nat) (r1 : Nat) (p2 : Int32) (p3 : Int32) (u0 : hM) : Option (Int32 × hM) := (gti T u0 a0 6 2).bind fun x1 => (gti T u0 a0 6 3).bind fun x2 => if (p3 - p2) = (x1 - x2) then (fX6_isToken_L20 T a0 r1 p2 p3 (fun (u8 : hM) => rtz (1 : Int32) u8) 6000 p2 u0) else (rtz (0 : Int32) u0)
set_option maxRecDepth 100000 in
set_option maxHeartbeats 4000000 in
theorem wfX6_isToken_L20 {c0 : Nat} {c1 : Nat} {c2 : Int32} {c3 : Int32} {ex : hM → Option (Int32 × hM)} {z : Int32 × hM} (hΓ : h_Γ E B T p s m args meth c cX6_isToken 5 (some .boolean) RX6) (hex : ∀ (u9 : hM) (H9 : Heap) (L9 : List Loc) (ls : Array Slot), ex u9 = some z → h_W E B T s.heap u9 H9 L9 → lv_has ls 5 [] → W p l e (h_rm 6) s m args below meth c H9 L9 0 0 (h_Qi below E B T args s z) (F0 m 57 ls [])) : ∀ (n : Nat) (v4 : Int32) (u0 : hM) (H0 : Heap) (L0 : List Loc) (ls : Array Slot), fX6_isToken_L20 T c0 c1 c2 c3 ex n v4 u0 = some z → h_W E B T s.heap u0 H0 L0 → lv_has ls 5 [(0, .ref (B + c0)), (1, .ref (E.2.2.1 c1)), (2, .int c2), (3, .int c3), (4, .int v4)] → W p l e (h_rm 6) s m args below meth c H0 L0 0 0 (h_Qi below E B T args s z) (F0 m 20 ls []) := by
  obtain ⟨hx, hb, hr, hml, hts, hown, hlk, hX⟩ := id hΓ
  intro n
  induction n with
  | zero =>
    intro v4 u0 H0 L0 ls hf hw hl
    exact absurd (show (none : Option (Int32 × hM)) = some z from hf) (fun h => by cases h)
  | succ n ih =>
    intro v4 u0 H0 L0 ls hf hw hl
    rw [fX6_isToken_L20] at hf
    refine lv_iload hx hb dX6_isToken_20 (lv_at hl 4 rfl) ?_
    refine lv_iload_n hx hb dX6_isToken_22 rfl (lv_at hl 3 rfl) ?_
    refine lv_icmp_ge (tgt := 57) hx hb dX6_isToken_23 (by decide) (fun hc => ?_) (fun hc => ?_)
    · have hf := ifp hc hf
      exact hex  u0 _ _ _ hf hw (lv_sub hl [] rfl)
    · have hf := ifn hc hf
      refine lv_aload_n hx hb dX6_isToken_26 rfl (lv_at hl 1 rfl) ?_
      refine lv_iload hx hb dX6_isToken_27 (lv_at hl 4 rfl) ?_
      refine h_sat (rest := []) hf hx hb hml hl.1 hts hown hX hw lkX6_59 ⟨Nat.le_of_ble_eq_true rfl, Nat.le_of_ble_eq_true rfl⟩ ⟨Nat.le_refl _, Nat.le_refl _⟩ dX6_isToken_29 (Nat.le_of_ble_eq_true rfl) (fun x3 H3 L3 hf hw => ?_)
      refine lv_aload_n hx hb dX6_isToken_32 rfl (lv_at hl 0 rfl) ?_
      refine h_getr hf hx hb hts hown hX hw flX6_9 rfl dX6_isToken_33 (fun a4 hf => ?_)
      refine lv_aload_n hx hb dX6_isToken_36 rfl (lv_at hl 0 rfl) ?_
      refine h_geti hf hx hb hts hown hX hw flX6_22 rfl dX6_isToken_37 (fun x5 hf => ?_)
      refine lv_iload hx hb dX6_isToken_40 (lv_at hl 4 rfl) ?_
      refine lv_iadd hx hb dX6_isToken_42 ?_
      refine lv_iload_n hx hb dX6_isToken_43 rfl (lv_at hl 2 rfl) ?_
      refine lv_isub hx hb dX6_isToken_44 ?_
      refine h_bald hf hx hb hX hw dX6_isToken_45 (fun x6 hf => ?_)
      refine lv_icmp_eq (tgt := 51) hx hb dX6_isToken_46 (by decide) (fun hc => ?_) (fun hc => ?_)
      · have hf := ifp hc hf
        refine h_iinc (k := 4) hf hx hb dX6_isToken_51 hl rfl (by decide) (by decide) (fun x7 ls hf hl => ?_)
        have hl : lv_has ls 5 [(4, .int x7), (0, .ref (B + c0)), (1, .ref (E.2.2.1 c1)), (2, .int c2), (3, .int c3)] := hl
        refine lv_goto (tgt := 20) hx hb dX6_isToken_54 (by decide) ?_
        exact ih x7 u0 _ _ _ hf hw (lv_sub hl [1, 2, 3, 4, 0] rfl)
      · have hf := ifn hc hf
        refine lv_iconst (v := 0) hx hb dX6_isToken_49 (by decide) ?_
        exact h_zret hf hx hb hr hlk hw dX6_isToken_50
set_option maxRecDepth 100000 in
set_option maxHeartbeats 4000000 in
theorem wX6_isToken {a0 : Nat} {r1 : Nat} {p2 : Int32} {p3 : Int32} {u0 : hM} {z : Int32 × hM} {ls : Array Slot} (hΓ : h_Γ E B T p s m args meth c cX6_isToken 5 (some .boolean) RX6) (hf : fX6_isToken T a0 r1 p2 p3 u0 = some z) (hw : h_W E B T s.heap u0 s.heap []) (hl : lv_has ls 5 [(0, .ref (B + a0)), (1, .ref (E.2.2.1 r1)), (2, .int p2), (3, .int p3)]) : W p l e (h_rm 6) s m args below meth c s.heap [] 0 0 (h_Qi below E B T args s z) (F0 m 0 ls []) := by
  obtain ⟨hx, hb, hr, hml, hts, hown, hlk, hX⟩ := id hΓ
  unfold fX6_isToken at hf
  refine lv_iload_n hx hb dX6_isToken_0 rfl (lv_at hl 3 rfl) ?_
  refine lv_iload_n hx hb dX6_isToken_1 rfl (lv_at hl 2 rfl) ?_
  refine lv_isub hx hb dX6_isToken_2 ?_
  refine lv_aload_n hx hb dX6_isToken_3 rfl (lv_at hl 0 rfl) ?_
  refine h_geti hf hx hb hts hown hX hw flX6_19 rfl dX6_isToken_4 (fun x1 hf => ?_)
  refine lv_aload_n hx hb dX6_isToken_7 rfl (lv_at hl 0 rfl) ?_
  refine h_geti hf hx hb hts hown hX hw flX6_22 rfl dX6_isToken_8 (fun x2 hf => ?_)
  refine lv_isub hx hb dX6_isToken_11 ?_
  refine lv_icmp_eq (tgt := 17) hx hb dX6_isToken_12 (by decide) (fun hc => ?_) (fun hc => ?_)
  · have hf := ifp hc hf
    refine lv_iload_n hx hb dX6_isToken_17 rfl (lv_at hl 2 rfl) ?_
    refine lv_istore (lv' := [(4, .int p2), (0, .ref (B + a0)), (1, .ref (E.2.2.1 r1)), (2, .int p2), (3, .int p3)]) hx hb dX6_isToken_18 hl (by decide) rfl (fun ls hl => ?_)
    refine wfX6_isToken_L20 hΓ ?_ 6000 p2 u0 _ _ _ hf hw (lv_sub hl [1, 2, 3, 4, 0] rfl)
    intro u8 H8 L8 ls hf hw hl
    refine lv_iconst (v := 1) hx hb dX6_isToken_57 (by decide) ?_
    exact h_zret hf hx hb hr hlk hw dX6_isToken_58
  · have hf := ifn hc hf
    refine lv_iconst (v := 0) hx hb dX6_isToken_15 (by decide) ?_
    exact h_zret hf hx hb hr hlk hw dX6_isToken_16
theorem c_X6_isToken (l : Launch) (E : hE) (B : Nat) (T : hT) (a0 : Nat) (r1 : Nat) (p2 : Int32) (p3 : Int32) (u0 : hM) {z : Int32 × hM} (hf : fX6_isToken T a0 r1 p2 p3 u0 = some z) : h_Ct l E B T yX6_isToken cX6_isToken 5 (some .boolean) 6 [.ref (B + a0), .ref (E.2.2.1 r1), .int p2, .int p3] u0 z.2 (some (.int z.1)) := h_ofW (by decide) (Nat.le_of_ble_eq_true rfl) (fun p e s m below meth c ls hΓ hl hw => wX6_isToken hΓ hf hw hl)
def fX6_numberInList_L7 (T : hT) (c0 : Nat) (c1 : Nat) (ex : hM → Option (Int32 × hM)) : Nat → Int32 → Int32 → Int32 → hM → Option (Int32 × hM)
  | 0, _, _, _, _ => none
  | n + 1, v2, v3, v4, u0 => (slen c1).bind fun x1 => if x1 ≤ v4 then (ex u0) else ((sat c1 v4).bind fun x2 => lt (fun (x3 : Int32) (x4 : Int32) (u5 : hM) => lt (v4 + (1 : Int32)) fun x6 => fX6_numberInList_L7 T c0 c1 ex n x3 x4 x6 u5) fun J51 => if x2 = (32 : Int32) then ((vc T c0 6 (fX6_isToken T c0 c1 v3 v4 u0)).bind fun q7 => if q7.1 = 0 then (lt (v2 + (1 : Int32)) fun x8 => lt ((v4 + (1 : Int32))) fun x9 => J51 x8 x9 q7.2) else (some (v2, q7.2))) else (J51 v2 v3 u0))
def fX6_numberInList (T : hT) (a0 : Nat) (r1 : Nat) (u0 : hM) : Option (Int32 × hM) := fX6_numberInList_L7 T a0 r1 (fun (u10 : hM) => some ((-1 : Int32), u10)) 6000 (0 : Int32) (0 : Int32) (0 : Int32) u0
set_option maxRecDepth 100000 in
set_option maxHeartbeats 4000000 in
theorem wfX6_numberInList_L7 {c0 : Nat} {c1 : Nat} {ex : hM → Option (Int32 × hM)} {z : Int32 × hM} (hΓ : h_Γ E B T p s m args meth c cX6_numberInList 5 (some .int) RX6) (hex : ∀ (u9 : hM) (H9 : Heap) (L9 : List Loc) (ls : Array Slot), ex u9 = some z → h_W E B T s.heap u9 H9 L9 → lv_has ls 5 [] → W p l e (h_rm 7) s m args below meth c H9 L9 0 0 (h_Qi below E B T args s z) (F0 m 57 ls [])) : ∀ (n : Nat) (v2 : Int32) (v3 : Int32) (v4 : Int32) (u0 : hM) (H0 : Heap) (L0 : List Loc) (ls : Array Slot), fX6_numberInList_L7 T c0 c1 ex n v2 v3 v4 u0 = some z → h_W E B T s.heap u0 H0 L0 → lv_has ls 5 [(0, .ref (B + c0)), (1, .ref (E.2.2.1 c1)), (2, .int v2), (3, .int v3), (4, .int v4)] → W p l e (h_rm 7) s m args below meth c H0 L0 0 0 (h_Qi below E B T args s z) (F0 m 7 ls []) := by
  obtain ⟨hx, hb, hr, hml, hts, hown, hlk, hX⟩ := id hΓ
  intro n
  induction n with
  | zero =>
    intro v2 v3 v4 u0 H0 L0 ls hf hw hl
    exact absurd (show (none : Option (Int32 × hM)) = some z from hf) (fun h => by cases h)
  | succ n ih =>
    intro v2 v3 v4 u0 H0 L0 ls hf hw hl
    rw [fX6_numberInList_L7] at hf
    refine lv_iload hx hb dX6_numberInList_7 (lv_at hl 4 rfl) ?_
    refine lv_aload_n hx hb dX6_numberInList_9 rfl (lv_at hl 1 rfl) ?_
    refine h_slen (rest := [.int v4]) hf hx hb hml hl.1 hts hown hX hw lkX6_54 ⟨Nat.le_of_ble_eq_true rfl, Nat.le_of_ble_eq_true rfl⟩ ⟨Nat.le_refl _, Nat.le_refl _⟩ dX6_numberInList_10 (Nat.le_of_ble_eq_true rfl) (fun x1 H1 L1 hf hw => ?_)
    refine lv_icmp_ge (tgt := 57) hx hb dX6_numberInList_13 (by decide) (fun hc => ?_) (fun hc => ?_)
    · have hf := ifp hc hf
      exact hex  u0 _ _ _ hf hw (lv_sub hl [] rfl)
    · have hf := ifn hc hf
      refine lv_aload_n hx hb dX6_numberInList_16 rfl (lv_at hl 1 rfl) ?_
      refine lv_iload hx hb dX6_numberInList_17 (lv_at hl 4 rfl) ?_
      refine h_sat (rest := []) hf hx hb hml hl.1 hts hown hX hw lkX6_59 ⟨Nat.le_of_ble_eq_true rfl, Nat.le_of_ble_eq_true rfl⟩ ⟨Nat.le_refl _, Nat.le_refl _⟩ dX6_numberInList_19 (Nat.le_of_ble_eq_true rfl) (fun x2 H2 L2 hf hw => ?_)
      refine lv_bipush (v := 32) hx hb dX6_numberInList_22 (by decide) ?_
      obtain ⟨J51, eJ51, hf⟩ := h_lt hf
      have hJ51 : ∀ (x3 : Int32) (x4 : Int32) (u5 : hM) (H5 : Heap) (L5 : List Loc) (ls : Array Slot), J51 x3 x4 u5 = some z → h_W E B T s.heap u5 H5 L5 → lv_has ls 5 [(0, .ref (B + c0)), (1, .ref (E.2.2.1 c1)), (2, .int x3), (3, .int x4), (4, .int v4)] → W p l e (h_rm 7) s m args below meth c H5 L5 0 0 (h_Qi below E B T args s z) (F0 m 51 ls []) := by
        intro x3 x4 u5 H5 L5 ls hf hw hl
        rw [eJ51] at hf
        refine h_iinc (k := 4) hf hx hb dX6_numberInList_51 hl rfl (by decide) (by decide) (fun x6 ls hf hl => ?_)
        have hl : lv_has ls 5 [(4, .int x6), (0, .ref (B + c0)), (1, .ref (E.2.2.1 c1)), (2, .int x3), (3, .int x4)] := hl
        refine lv_goto (tgt := 7) hx hb dX6_numberInList_54 (by decide) ?_
        exact ih x3 x4 x6 u5 _ _ _ hf hw (lv_sub hl [1, 2, 3, 4, 0] rfl)
      clear eJ51
      refine lv_icmp_eq (tgt := 30) hx hb dX6_numberInList_24 (by decide) (fun hc => ?_) (fun hc => ?_)
      · have hf := ifp hc hf
        refine lv_aload_n hx hb dX6_numberInList_30 rfl (lv_at hl 0 rfl) ?_
        refine lv_aload_n hx hb dX6_numberInList_31 rfl (lv_at hl 1 rfl) ?_
        refine lv_iload_n hx hb dX6_numberInList_32 rfl (lv_at hl 3 rfl) ?_
        refine lv_iload hx hb dX6_numberInList_33 (lv_at hl 4 rfl) ?_
        refine h_cVi (As := [.ref (E.2.2.1 c1), .int v3, .int v4]) (rest := []) hf hx hb hml hts hown hX hw myX6_isToken miX6_isToken lkX6_63 ⟨rfl, by decide⟩ (fun q hq => c_X6_isToken l E B T c0 c1 v3 v4 u0 hq) ⟨Nat.le_of_ble_eq_true rfl, Nat.le_of_ble_eq_true rfl⟩ ⟨Nat.le_refl _, Nat.le_refl _⟩ rfl hl.1 rfl (Nat.le_of_ble_eq_true rfl) dX6_numberInList_35 (fun q7 H7 L7 hf hw => ?_)
        refine lv_if_eq (tgt := 43) hx hb dX6_numberInList_38 (by decide) (fun hc => ?_) (fun hc => ?_)
        · have hf := ifp hc hf
          refine h_iinc (k := 2) hf hx hb dX6_numberInList_43 hl rfl (by decide) (by decide) (fun x8 ls hf hl => ?_)
          have hl : lv_has ls 5 [(2, .int x8), (0, .ref (B + c0)), (1, .ref (E.2.2.1 c1)), (3, .int v3), (4, .int v4)] := hl
          refine lv_iload hx hb dX6_numberInList_46 (lv_at hl 4 rfl) ?_
          refine lv_iconst (v := 1) hx hb dX6_numberInList_48 (by decide) ?_
          refine lv_iadd hx hb dX6_numberInList_49 ?_
          refine h_nmi hf (fun x9 hf => ?_)
          refine lv_istore_n (lv' := [(3, .int x9), (2, .int x8), (0, .ref (B + c0)), (1, .ref (E.2.2.1 c1)), (4, .int v4)]) hx hb dX6_numberInList_50 rfl hl (by decide) rfl (fun ls hl => ?_)
          exact hJ51 x8 x9 q7.2 _ _ _ hf hw (lv_sub hl [2, 3, 1, 0, 4] rfl)
        · have hf := ifn hc hf
          refine lv_iload_n hx hb dX6_numberInList_41 rfl (lv_at hl 2 rfl) ?_
          exact h_iret hf hx hb hr hlk hw dX6_numberInList_42
      · have hf := ifn hc hf
        refine lv_goto (tgt := 51) hx hb dX6_numberInList_27 (by decide) ?_
        exact hJ51 v2 v3 u0 _ _ _ hf hw (lv_sub hl [0, 1, 2, 3, 4] rfl)
set_option maxRecDepth 100000 in
set_option maxHeartbeats 4000000 in
theorem wX6_numberInList {a0 : Nat} {r1 : Nat} {u0 : hM} {z : Int32 × hM} {ls : Array Slot} (hΓ : h_Γ E B T p s m args meth c cX6_numberInList 5 (some .int) RX6) (hf : fX6_numberInList T a0 r1 u0 = some z) (hw : h_W E B T s.heap u0 s.heap []) (hl : lv_has ls 5 [(0, .ref (B + a0)), (1, .ref (E.2.2.1 r1))]) : W p l e (h_rm 7) s m args below meth c s.heap [] 0 0 (h_Qi below E B T args s z) (F0 m 0 ls []) := by
  obtain ⟨hx, hb, hr, hml, hts, hown, hlk, hX⟩ := id hΓ
  unfold fX6_numberInList at hf
  refine lv_iconst (v := 0) hx hb dX6_numberInList_0 (by decide) ?_
  refine lv_istore_n (lv' := [(2, .int (0 : Int32)), (0, .ref (B + a0)), (1, .ref (E.2.2.1 r1))]) hx hb dX6_numberInList_1 rfl hl (by decide) rfl (fun ls hl => ?_)
  refine lv_iconst (v := 0) hx hb dX6_numberInList_2 (by decide) ?_
  refine lv_istore_n (lv' := [(3, .int (0 : Int32)), (2, .int (0 : Int32)), (0, .ref (B + a0)), (1, .ref (E.2.2.1 r1))]) hx hb dX6_numberInList_3 rfl hl (by decide) rfl (fun ls hl => ?_)
  refine lv_iconst (v := 0) hx hb dX6_numberInList_4 (by decide) ?_
  refine lv_istore (lv' := [(4, .int (0 : Int32)), (3, .int (0 : Int32)), (2, .int (0 : Int32)), (0, .ref (B + a0)), (1, .ref (E.2.2.1 r1))]) hx hb dX6_numberInList_5 hl (by decide) rfl (fun ls hl => ?_)
  refine wfX6_numberInList_L7 hΓ ?_ 6000 (0 : Int32) (0 : Int32) (0 : Int32) u0 _ _ _ hf hw (lv_sub hl [3, 4, 2, 1, 0] rfl)
  intro u10 H10 L10 ls hf hw hl
  refine lv_iconst (v := -1) hx hb dX6_numberInList_57 (by decide) ?_
  exact h_iret hf hx hb hr hlk hw dX6_numberInList_58
theorem c_X6_numberInList (l : Launch) (E : hE) (B : Nat) (T : hT) (a0 : Nat) (r1 : Nat) (u0 : hM) {z : Int32 × hM} (hf : fX6_numberInList T a0 r1 u0 = some z) : h_Ct l E B T yX6_numberInList cX6_numberInList 5 (some .int) 7 [.ref (B + a0), .ref (E.2.2.1 r1)] u0 z.2 (some (.int z.1)) := h_ofW (by decide) (Nat.le_of_ble_eq_true rfl) (fun p e s m below meth c ls hΓ hl hw => wX6_numberInList hΓ hf hw hl)
def fX6_blame (T : hT) (a0 : Nat) (p1 : Int32) (u0 : hM) : Option (hM) := (vc T a0 6 (fX6_hasFault T a0 u0)).bind fun q1 => if q1.1 = 0 then ((pti T q1.2 a0 6 4 p1).bind fun u2 => (gti T u2 a0 6 3).bind fun x3 => (pti T u2 a0 6 5 x3).bind fun u4 => some u4) else (some q1.2)
set_option maxRecDepth 100000 in
set_option maxHeartbeats 4000000 in
theorem wX6_blame {a0 : Nat} {p1 : Int32} {u0 : hM} {z : hM} {ls : Array Slot} (hΓ : h_Γ E B T p s m args meth c cX6_blame 2 none RX6) (hf : fX6_blame T a0 p1 u0 = some z) (hw : h_W E B T s.heap u0 s.heap []) (hl : lv_has ls 2 [(0, .ref (B + a0)), (1, .int p1)]) : W p l e (h_rm 1) s m args below meth c s.heap [] 0 0 (h_Qv below E B T args s z) (F0 m 0 ls []) := by
  obtain ⟨hx, hb, hr, hml, hts, hown, hlk, hX⟩ := id hΓ
  unfold fX6_blame at hf
  refine lv_aload_n hx hb dX6_blame_0 rfl (lv_at hl 0 rfl) ?_
  refine h_cVi (As := []) (rest := []) hf hx hb hml hts hown hX hw myX6_hasFault miX6_hasFault lkX6_31 ⟨rfl, by decide⟩ (fun q hq => c_X6_hasFault l E B T a0 u0 hq) ⟨Nat.le_of_ble_eq_true rfl, Nat.le_of_ble_eq_true rfl⟩ ⟨Nat.le_refl _, Nat.le_refl _⟩ rfl hl.1 rfl (Nat.le_of_ble_eq_true rfl) dX6_blame_1 (fun q1 H1 L1 hf hw => ?_)
  refine lv_if_eq (tgt := 8) hx hb dX6_blame_4 (by decide) (fun hc => ?_) (fun hc => ?_)
  · have hf := ifp hc hf
    refine lv_aload_n hx hb dX6_blame_8 rfl (lv_at hl 0 rfl) ?_
    refine lv_iload_n hx hb dX6_blame_9 rfl (lv_at hl 1 rfl) ?_
    refine h_puti hf hx hb hts hown hX hw flX6_25 ⟨rfl, rfl⟩ dX6_blame_10 (fun u2 H2 L2 hf hw => ?_)
    refine lv_aload_n hx hb dX6_blame_13 rfl (lv_at hl 0 rfl) ?_
    refine lv_aload_n hx hb dX6_blame_14 rfl (lv_at hl 0 rfl) ?_
    refine h_geti hf hx hb hts hown hX hw flX6_22 rfl dX6_blame_15 (fun x3 hf => ?_)
    refine h_puti hf hx hb hts hown hX hw flX6_28 ⟨rfl, rfl⟩ dX6_blame_18 (fun u4 H4 L4 hf hw => ?_)
    exact h_vret hf hx hb hr hlk hw dX6_blame_21
  · have hf := ifn hc hf
    exact h_vret hf hx hb hr hlk hw dX6_blame_7
theorem c_X6_blame (l : Launch) (E : hE) (B : Nat) (T : hT) (a0 : Nat) (p1 : Int32) (u0 : hM) {z : hM} (hf : fX6_blame T a0 p1 u0 = some z) : h_Ct l E B T yX6_blame cX6_blame 2 none 1 [.ref (B + a0), .int p1] u0 z none := h_ofW (by decide) (Nat.le_of_ble_eq_true rfl) (fun p e s m below meth c ls hΓ hl hw => wX6_blame hΓ hf hw hl)
def fX6_readWord (T : hT) (a0 : Nat) (r1 : Nat) (u0 : hM) : Option (Int32 × hM) := (vc T a0 6 (fX6_hasFault T a0 u0)).bind fun q1 => if q1.1 = 0 then ((vc T a0 6 (fX6_findToken T a0 q1.2)).bind fun q2 => (vc T a0 6 (fX6_stepOver T a0 (97 : Int32) (122 : Int32) q2)).bind fun q3 => (vc T a0 6 (fX6_numberInList T a0 r1 q3.2)).bind fun q4 => if q4.1 = (-1 : Int32) then ((vc T a0 6 (fX6_blame T a0 (1 : Int32) q4.2)).bind fun q5 => some (q4.1, q5)) else (some (q4.1, q4.2))) else (some ((-1 : Int32), q1.2))
set_option maxRecDepth 100000 in
set_option maxHeartbeats 4000000 in
theorem wX6_readWord {a0 : Nat} {r1 : Nat} {u0 : hM} {z : Int32 × hM} {ls : Array Slot} (hΓ : h_Γ E B T p s m args meth c cX6_readWord 3 (some .int) RX6) (hf : fX6_readWord T a0 r1 u0 = some z) (hw : h_W E B T s.heap u0 s.heap []) (hl : lv_has ls 3 [(0, .ref (B + a0)), (1, .ref (E.2.2.1 r1))]) : W p l e (h_rm 8) s m args below meth c s.heap [] 0 0 (h_Qi below E B T args s z) (F0 m 0 ls []) := by
  obtain ⟨hx, hb, hr, hml, hts, hown, hlk, hX⟩ := id hΓ
  unfold fX6_readWord at hf
  refine lv_aload_n hx hb dX6_readWord_0 rfl (lv_at hl 0 rfl) ?_
  refine h_cVi (As := []) (rest := []) hf hx hb hml hts hown hX hw myX6_hasFault miX6_hasFault lkX6_31 ⟨rfl, by decide⟩ (fun q hq => c_X6_hasFault l E B T a0 u0 hq) ⟨Nat.le_of_ble_eq_true rfl, Nat.le_of_ble_eq_true rfl⟩ ⟨Nat.le_refl _, Nat.le_refl _⟩ rfl hl.1 rfl (Nat.le_of_ble_eq_true rfl) dX6_readWord_1 (fun q1 H1 L1 hf hw => ?_)
  refine lv_if_eq (tgt := 9) hx hb dX6_readWord_4 (by decide) (fun hc => ?_) (fun hc => ?_)
  · have hf := ifp hc hf
    refine lv_aload_n hx hb dX6_readWord_9 rfl (lv_at hl 0 rfl) ?_
    refine h_cVv (As := []) (rest := []) hf hx hb hml hts hown hX hw myX6_findToken miX6_findToken lkX6_35 ⟨rfl, by decide⟩ (fun q hq => c_X6_findToken l E B T a0 q1.2 hq) ⟨Nat.le_of_ble_eq_true rfl, Nat.le_of_ble_eq_true rfl⟩ ⟨Nat.le_refl _, Nat.le_refl _⟩ rfl hl.1 rfl (Nat.le_of_ble_eq_true rfl) dX6_readWord_10 (fun q2 H2 L2 hf hw => ?_)
    refine lv_aload_n hx hb dX6_readWord_13 rfl (lv_at hl 0 rfl) ?_
    refine lv_bipush (v := 97) hx hb dX6_readWord_14 (by decide) ?_
    refine lv_bipush (v := 122) hx hb dX6_readWord_16 (by decide) ?_
    refine h_cVi (As := [.int (97 : Int32), .int (122 : Int32)]) (rest := []) hf hx hb hml hts hown hX hw myX6_stepOver miX6_stepOver lkX6_42 ⟨rfl, by decide⟩ (fun q hq => c_X6_stepOver l E B T a0 (97 : Int32) (122 : Int32) q2 hq) ⟨Nat.le_of_ble_eq_true rfl, Nat.le_of_ble_eq_true rfl⟩ ⟨Nat.le_refl _, Nat.le_refl _⟩ rfl hl.1 rfl (Nat.le_of_ble_eq_true rfl) dX6_readWord_18 (fun q3 H3 L3 hf hw => ?_)
    refine lv_pop hx hb dX6_readWord_21 rfl ?_
    refine lv_aload_n hx hb dX6_readWord_22 rfl (lv_at hl 0 rfl) ?_
    refine lv_aload_n hx hb dX6_readWord_23 rfl (lv_at hl 1 rfl) ?_
    refine h_cVi (As := [.ref (E.2.2.1 r1)]) (rest := []) hf hx hb hml hts hown hX hw myX6_numberInList miX6_numberInList lkX6_46 ⟨rfl, by decide⟩ (fun q hq => c_X6_numberInList l E B T a0 r1 q3.2 hq) ⟨Nat.le_of_ble_eq_true rfl, Nat.le_of_ble_eq_true rfl⟩ ⟨Nat.le_refl _, Nat.le_refl _⟩ rfl hl.1 rfl (Nat.le_of_ble_eq_true rfl) dX6_readWord_24 (fun q4 H4 L4 hf hw => ?_)
    refine lv_istore_n (lv' := [(2, .int q4.1), (0, .ref (B + a0)), (1, .ref (E.2.2.1 r1))]) hx hb dX6_readWord_27 rfl hl (by decide) rfl (fun ls hl => ?_)
    refine lv_iload_n hx hb dX6_readWord_28 rfl (lv_at hl 0 rfl) ?_
    refine lv_iconst (v := -1) hx hb dX6_readWord_29 (by decide) ?_
    refine lv_icmp_ne (tgt := 38) hx hb dX6_readWord_30 (by decide) (fun hc => ?_) (fun hc => ?_)
    · have hf := ifn hc hf
      refine lv_iload_n hx hb dX6_readWord_38 rfl (lv_at hl 0 rfl) ?_
      exact h_iret hf hx hb hr hlk hw dX6_readWord_39
    · have hf := ifp hc hf
      refine lv_aload_n hx hb dX6_readWord_33 rfl (lv_at hl 1 rfl) ?_
      refine lv_iconst (v := 1) hx hb dX6_readWord_34 (by decide) ?_
      refine h_cVv (As := [.int (1 : Int32)]) (rest := []) hf hx hb hml hts hown hX hw myX6_blame miX6_blame lkX6_50 ⟨rfl, by decide⟩ (fun q hq => c_X6_blame l E B T a0 (1 : Int32) q4.2 hq) ⟨Nat.le_of_ble_eq_true rfl, Nat.le_of_ble_eq_true rfl⟩ ⟨Nat.le_refl _, Nat.le_refl _⟩ rfl hl.1 rfl (Nat.le_of_ble_eq_true rfl) dX6_readWord_35 (fun q5 H5 L5 hf hw => ?_)
      refine lv_iload_n hx hb dX6_readWord_38 rfl (lv_at hl 0 rfl) ?_
      exact h_iret hf hx hb hr hlk hw dX6_readWord_39
  · have hf := ifn hc hf
    refine lv_iconst (v := -1) hx hb dX6_readWord_7 (by decide) ?_
    exact h_iret hf hx hb hr hlk hw dX6_readWord_8
theorem c_X6_readWord (l : Launch) (E : hE) (B : Nat) (T : hT) (a0 : Nat) (r1 : Nat) (u0 : hM) {z : Int32 × hM} (hf : fX6_readWord T a0 r1 u0 = some z) : h_Ct l E B T yX6_readWord cX6_readWord 3 (some .int) 8 [.ref (B + a0), .ref (E.2.2.1 r1)] u0 z.2 (some (.int z.1)) := h_ofW (by decide) (Nat.le_of_ble_eq_true rfl) (fun p e s m below meth c ls hΓ hl hw => wX6_readWord hΓ hf hw hl)
def fX6_valueOfToken_L7 (T : hT) (c0 : Nat) (ex : Int32 → hM → Option (Int32 × hM)) : Nat → Int32 → Int32 → hM → Option (Int32 × hM)
  | 0, _, _, _ => none
  | n + 1, v1, v2, u0 => (gti T u0 c0 6 2).bind fun x2 => if x2 ≤ v2 then (ex v1 u0) else ((gtr T u0 c0 6 0).bind fun a3 => (ald 12 T u0 a3 v2).bind fun x4 => lt (((((10 : Int32) * v1) + x4) - (48 : Int32))) fun x5 => lt (v2 + (1 : Int32)) fun x6 => fX6_valueOfToken_L7 T c0 ex n x5 x6 u0)
def fX6_valueOfToken (T : hT) (a0 : Nat) (u0 : hM) : Option (Int32 × hM) := (gti T u0 a0 6 3).bind fun x1 => fX6_valueOfToken_L7 T a0 (fun (x7 : Int32) (u8 : hM) => some (x7, u8)) 6000 (0 : Int32) x1 u0
set_option maxRecDepth 100000 in
set_option maxHeartbeats 4000000 in
theorem wfX6_valueOfToken_L7 {c0 : Nat} {ex : Int32 → hM → Option (Int32 × hM)} {z : Int32 × hM} (hΓ : h_Γ E B T p s m args meth c cX6_valueOfToken 3 (some .int) RX6) (hex : ∀ (y1 : Int32) (u9 : hM) (H9 : Heap) (L9 : List Loc) (ls : Array Slot), ex y1 u9 = some z → h_W E B T s.heap u9 H9 L9 → lv_has ls 3 [(1, .int y1)] → W p l e (h_rm 0) s m args below meth c H9 L9 0 0 (h_Qi below E B T args s z) (F0 m 36 ls [])) : ∀ (n : Nat) (v1 : Int32) (v2 : Int32) (u0 : hM) (H0 : Heap) (L0 : List Loc) (ls : Array Slot), fX6_valueOfToken_L7 T c0 ex n v1 v2 u0 = some z → h_W E B T s.heap u0 H0 L0 → lv_has ls 3 [(0, .ref (B + c0)), (1, .int v1), (2, .int v2)] → W p l e (h_rm 0) s m args below meth c H0 L0 0 0 (h_Qi below E B T args s z) (F0 m 7 ls []) := by
  obtain ⟨hx, hb, hr, hml, hts, hown, hlk, hX⟩ := id hΓ
  intro n
  induction n with
  | zero =>
    intro v1 v2 u0 H0 L0 ls hf hw hl
    exact absurd (show (none : Option (Int32 × hM)) = some z from hf) (fun h => by cases h)
  | succ n ih =>
    intro v1 v2 u0 H0 L0 ls hf hw hl
    rw [fX6_valueOfToken_L7] at hf
    refine lv_iload_n hx hb dX6_valueOfToken_7 rfl (lv_at hl 2 rfl) ?_
    refine lv_aload_n hx hb dX6_valueOfToken_8 rfl (lv_at hl 0 rfl) ?_
    refine h_geti hf hx hb hts hown hX hw flX6_19 rfl dX6_valueOfToken_9 (fun x2 hf => ?_)
    refine lv_icmp_ge (tgt := 36) hx hb dX6_valueOfToken_12 (by decide) (fun hc => ?_) (fun hc => ?_)
    · have hf := ifp hc hf
      exact hex v1 u0 _ _ _ hf hw (lv_sub hl [1] rfl)
    · have hf := ifn hc hf
      refine lv_bipush (v := 10) hx hb dX6_valueOfToken_15 (by decide) ?_
      refine lv_iload_n hx hb dX6_valueOfToken_17 rfl (lv_at hl 1 rfl) ?_
      refine lv_imul hx hb dX6_valueOfToken_18 ?_
      refine lv_aload_n hx hb dX6_valueOfToken_19 rfl (lv_at hl 0 rfl) ?_
      refine h_getr hf hx hb hts hown hX hw flX6_9 rfl dX6_valueOfToken_20 (fun a3 hf => ?_)
      refine lv_iload_n hx hb dX6_valueOfToken_23 rfl (lv_at hl 2 rfl) ?_
      refine h_bald hf hx hb hX hw dX6_valueOfToken_24 (fun x4 hf => ?_)
      refine lv_iadd hx hb dX6_valueOfToken_25 ?_
      refine lv_bipush (v := 48) hx hb dX6_valueOfToken_26 (by decide) ?_
      refine lv_isub hx hb dX6_valueOfToken_28 ?_
      refine h_nmi hf (fun x5 hf => ?_)
      refine lv_istore_n (lv' := [(1, .int x5), (0, .ref (B + c0)), (2, .int v2)]) hx hb dX6_valueOfToken_29 rfl hl (by decide) rfl (fun ls hl => ?_)
      refine h_iinc (k := 2) hf hx hb dX6_valueOfToken_30 hl rfl (by decide) (by decide) (fun x6 ls hf hl => ?_)
      have hl : lv_has ls 3 [(2, .int x6), (1, .int x5), (0, .ref (B + c0))] := hl
      refine lv_goto (tgt := 7) hx hb dX6_valueOfToken_33 (by decide) ?_
      exact ih x5 x6 u0 _ _ _ hf hw (lv_sub hl [2, 1, 0] rfl)
set_option maxRecDepth 100000 in
set_option maxHeartbeats 4000000 in
theorem wX6_valueOfToken {a0 : Nat} {u0 : hM} {z : Int32 × hM} {ls : Array Slot} (hΓ : h_Γ E B T p s m args meth c cX6_valueOfToken 3 (some .int) RX6) (hf : fX6_valueOfToken T a0 u0 = some z) (hw : h_W E B T s.heap u0 s.heap []) (hl : lv_has ls 3 [(0, .ref (B + a0))]) : W p l e (h_rm 0) s m args below meth c s.heap [] 0 0 (h_Qi below E B T args s z) (F0 m 0 ls []) := by
  obtain ⟨hx, hb, hr, hml, hts, hown, hlk, hX⟩ := id hΓ
  unfold fX6_valueOfToken at hf
  refine lv_iconst (v := 0) hx hb dX6_valueOfToken_0 (by decide) ?_
  refine lv_istore_n (lv' := [(1, .int (0 : Int32)), (0, .ref (B + a0))]) hx hb dX6_valueOfToken_1 rfl hl (by decide) rfl (fun ls hl => ?_)
  refine lv_aload_n hx hb dX6_valueOfToken_2 rfl (lv_at hl 1 rfl) ?_
  refine h_geti hf hx hb hts hown hX hw flX6_22 rfl dX6_valueOfToken_3 (fun x1 hf => ?_)
  refine lv_istore_n (lv' := [(2, .int x1), (1, .int (0 : Int32)), (0, .ref (B + a0))]) hx hb dX6_valueOfToken_6 rfl hl (by decide) rfl (fun ls hl => ?_)
  refine wfX6_valueOfToken_L7 hΓ ?_ 6000 (0 : Int32) x1 u0 _ _ _ hf hw (lv_sub hl [2, 1, 0] rfl)
  intro x7 u8 H8 L8 ls hf hw hl
  refine lv_iload_n hx hb dX6_valueOfToken_36 rfl (lv_at hl 0 rfl) ?_
  exact h_iret hf hx hb hr hlk hw dX6_valueOfToken_37
theorem c_X6_valueOfToken (l : Launch) (E : hE) (B : Nat) (T : hT) (a0 : Nat) (u0 : hM) {z : Int32 × hM} (hf : fX6_valueOfToken T a0 u0 = some z) : h_Ct l E B T yX6_valueOfToken cX6_valueOfToken 3 (some .int) 0 [.ref (B + a0)] u0 z.2 (some (.int z.1)) := h_ofW (by decide) (Nat.le_of_ble_eq_true rfl) (fun p e s m below meth c ls hΓ hl hw => wX6_valueOfToken hΓ hf hw hl)
def fX6_readNumber (T : hT) (a0 : Nat) (p1 : Int32) (p2 : Int32) (u0 : hM) : Option (Int32 × hM) := (vc T a0 6 (fX6_hasFault T a0 u0)).bind fun q1 => if q1.1 = 0 then ((vc T a0 6 (fX6_findToken T a0 q1.2)).bind fun q2 => (vc T a0 6 (fX6_stepOver T a0 (48 : Int32) (57 : Int32) q2)).bind fun q3 => if q3.1 = 0 then ((vc T a0 6 (fX6_blame T a0 (1 : Int32) q3.2)).bind fun q9 => some (p1, q9)) else (lt (fun (x4 : Int32) (u5 : hM) => (fX8_isWithin T x4 p1 p2 u5).bind fun q6 => if q6.1 = 0 then ((vc T a0 6 (fX6_blame T a0 (2 : Int32) q6.2)).bind fun q7 => some (p1, q7)) else (some (x4, q6.2))) fun J46 => if q3.1 ≤ (3 : Int32) then ((vc T a0 6 (fX6_valueOfToken T a0 q3.2)).bind fun q8 => J46 q8.1 q8.2) else (J46 (-1 : Int32) q3.2))) else (some (p1, q1.2))
set_option maxRecDepth 100000 in
set_option maxHeartbeats 4000000 in
theorem wX6_readNumber {a0 : Nat} {p1 : Int32} {p2 : Int32} {u0 : hM} {z : Int32 × hM} {ls : Array Slot} (hΓ : h_Γ E B T p s m args meth c cX6_readNumber 5 (some .int) RX6) (hf : fX6_readNumber T a0 p1 p2 u0 = some z) (hw : h_W E B T s.heap u0 s.heap []) (hl : lv_has ls 5 [(0, .ref (B + a0)), (1, .int p1), (2, .int p2)]) : W p l e (h_rm 2) s m args below meth c s.heap [] 0 0 (h_Qi below E B T args s z) (F0 m 0 ls []) := by
  obtain ⟨hx, hb, hr, hml, hts, hown, hlk, hX⟩ := id hΓ
  unfold fX6_readNumber at hf
  refine lv_aload_n hx hb dX6_readNumber_0 rfl (lv_at hl 0 rfl) ?_
  refine h_cVi (As := []) (rest := []) hf hx hb hml hts hown hX hw myX6_hasFault miX6_hasFault lkX6_31 ⟨rfl, by decide⟩ (fun q hq => c_X6_hasFault l E B T a0 u0 hq) ⟨Nat.le_of_ble_eq_true rfl, Nat.le_of_ble_eq_true rfl⟩ ⟨Nat.le_refl _, Nat.le_refl _⟩ rfl hl.1 rfl (Nat.le_of_ble_eq_true rfl) dX6_readNumber_1 (fun q1 H1 L1 hf hw => ?_)
  refine lv_if_eq (tgt := 9) hx hb dX6_readNumber_4 (by decide) (fun hc => ?_) (fun hc => ?_)
  · have hf := ifp hc hf
    refine lv_aload_n hx hb dX6_readNumber_9 rfl (lv_at hl 0 rfl) ?_
    refine h_cVv (As := []) (rest := []) hf hx hb hml hts hown hX hw myX6_findToken miX6_findToken lkX6_35 ⟨rfl, by decide⟩ (fun q hq => c_X6_findToken l E B T a0 q1.2 hq) ⟨Nat.le_of_ble_eq_true rfl, Nat.le_of_ble_eq_true rfl⟩ ⟨Nat.le_refl _, Nat.le_refl _⟩ rfl hl.1 rfl (Nat.le_of_ble_eq_true rfl) dX6_readNumber_10 (fun q2 H2 L2 hf hw => ?_)
    refine lv_aload_n hx hb dX6_readNumber_13 rfl (lv_at hl 0 rfl) ?_
    refine lv_bipush (v := 48) hx hb dX6_readNumber_14 (by decide) ?_
    refine lv_bipush (v := 57) hx hb dX6_readNumber_16 (by decide) ?_
    refine h_cVi (As := [.int (48 : Int32), .int (57 : Int32)]) (rest := []) hf hx hb hml hts hown hX hw myX6_stepOver miX6_stepOver lkX6_42 ⟨rfl, by decide⟩ (fun q hq => c_X6_stepOver l E B T a0 (48 : Int32) (57 : Int32) q2 hq) ⟨Nat.le_of_ble_eq_true rfl, Nat.le_of_ble_eq_true rfl⟩ ⟨Nat.le_refl _, Nat.le_refl _⟩ rfl hl.1 rfl (Nat.le_of_ble_eq_true rfl) dX6_readNumber_18 (fun q3 H3 L3 hf hw => ?_)
    refine lv_istore_n (lv' := [(3, .int q3.1), (0, .ref (B + a0)), (1, .int p1), (2, .int p2)]) hx hb dX6_readNumber_21 rfl hl (by decide) rfl (fun ls hl => ?_)
    refine lv_iload_n hx hb dX6_readNumber_22 rfl (lv_at hl 0 rfl) ?_
    refine lv_if_ne (tgt := 33) hx hb dX6_readNumber_23 (by decide) (fun hc => ?_) (fun hc => ?_)
    · have hf := ifn hc hf
      refine lv_iload_n hx hb dX6_readNumber_33 rfl (lv_at hl 0 rfl) ?_
      refine lv_iconst (v := 3) hx hb dX6_readNumber_34 (by decide) ?_
      obtain ⟨J46, eJ46, hf⟩ := h_lt hf
      have hJ46 : ∀ (x4 : Int32) (u5 : hM) (H5 : Heap) (L5 : List Loc) (ls : Array Slot), J46 x4 u5 = some z → h_W E B T s.heap u5 H5 L5 → lv_has ls 5 [(0, .ref (B + a0)), (1, .int p1), (2, .int p2)] → W p l e (h_rm 2) s m args below meth c H5 L5 0 0 (h_Qi below E B T args s z) (F0 m 46 ls [.int x4]) := by
        intro x4 u5 H5 L5 ls hf hw hl
        rw [eJ46] at hf
        refine lv_istore (lv' := [(4, .int x4), (0, .ref (B + a0)), (1, .int p1), (2, .int p2)]) hx hb dX6_readNumber_46 hl (by decide) rfl (fun ls hl => ?_)
        refine lv_iload hx hb dX6_readNumber_48 (lv_at hl 0 rfl) ?_
        refine lv_iload_n hx hb dX6_readNumber_50 rfl (lv_at hl 2 rfl) ?_
        refine lv_iload_n hx hb dX6_readNumber_51 rfl (lv_at hl 3 rfl) ?_
        refine h_cNi (As := [.int x4, .int p1, .int p2]) (rest := []) hf hx hb hml hts hown hX hw myX8_isWithin msX8_isWithin nkX6_38 (fun q hq => c_X8_isWithin l E B T x4 p1 p2 u5 hq) ⟨Nat.le_of_ble_eq_true rfl, Nat.le_of_ble_eq_true rfl⟩ ⟨Nat.le_refl _, Nat.le_refl _⟩ rfl hl.1 rfl (Nat.le_of_ble_eq_true rfl) dX6_readNumber_52 (fun q6 H6 L6 hf hw => ?_)
        refine lv_if_eq (tgt := 61) hx hb dX6_readNumber_55 (by decide) (fun hc => ?_) (fun hc => ?_)
        · have hf := ifp hc hf
          refine lv_aload_n hx hb dX6_readNumber_61 rfl (lv_at hl 1 rfl) ?_
          refine lv_iconst (v := 2) hx hb dX6_readNumber_62 (by decide) ?_
          refine h_cVv (As := [.int (2 : Int32)]) (rest := []) hf hx hb hml hts hown hX hw myX6_blame miX6_blame lkX6_50 ⟨rfl, by decide⟩ (fun q hq => c_X6_blame l E B T a0 (2 : Int32) q6.2 hq) ⟨Nat.le_of_ble_eq_true rfl, Nat.le_of_ble_eq_true rfl⟩ ⟨Nat.le_refl _, Nat.le_refl _⟩ rfl hl.1 rfl (Nat.le_of_ble_eq_true rfl) dX6_readNumber_63 (fun q7 H7 L7 hf hw => ?_)
          refine lv_iload_n hx hb dX6_readNumber_66 rfl (lv_at hl 2 rfl) ?_
          exact h_iret hf hx hb hr hlk hw dX6_readNumber_67
        · have hf := ifn hc hf
          refine lv_iload hx hb dX6_readNumber_58 (lv_at hl 0 rfl) ?_
          exact h_iret hf hx hb hr hlk hw dX6_readNumber_60
      clear eJ46
      refine lv_icmp_le (tgt := 42) hx hb dX6_readNumber_35 (by decide) (fun hc => ?_) (fun hc => ?_)
      · have hf := ifp hc hf
        refine lv_aload_n hx hb dX6_readNumber_42 rfl (lv_at hl 1 rfl) ?_
        refine h_cVi (As := []) (rest := []) hf hx hb hml hts hown hX hw myX6_valueOfToken miX6_valueOfToken lkX6_67 ⟨rfl, by decide⟩ (fun q hq => c_X6_valueOfToken l E B T a0 q3.2 hq) ⟨Nat.le_of_ble_eq_true rfl, Nat.le_of_ble_eq_true rfl⟩ ⟨Nat.le_refl _, Nat.le_refl _⟩ rfl hl.1 rfl (Nat.le_of_ble_eq_true rfl) dX6_readNumber_43 (fun q8 H8 L8 hf hw => ?_)
        exact hJ46 q8.1 q8.2 _ _ _ hf hw (lv_sub hl [1, 2, 3] rfl)
      · have hf := ifn hc hf
        refine lv_iconst (v := -1) hx hb dX6_readNumber_38 (by decide) ?_
        refine lv_goto (tgt := 46) hx hb dX6_readNumber_39 (by decide) ?_
        exact hJ46 (-1 : Int32) q3.2 _ _ _ hf hw (lv_sub hl [1, 2, 3] rfl)
    · have hf := ifp hc hf
      refine lv_aload_n hx hb dX6_readNumber_26 rfl (lv_at hl 1 rfl) ?_
      refine lv_iconst (v := 1) hx hb dX6_readNumber_27 (by decide) ?_
      refine h_cVv (As := [.int (1 : Int32)]) (rest := []) hf hx hb hml hts hown hX hw myX6_blame miX6_blame lkX6_50 ⟨rfl, by decide⟩ (fun q hq => c_X6_blame l E B T a0 (1 : Int32) q3.2 hq) ⟨Nat.le_of_ble_eq_true rfl, Nat.le_of_ble_eq_true rfl⟩ ⟨Nat.le_refl _, Nat.le_refl _⟩ rfl hl.1 rfl (Nat.le_of_ble_eq_true rfl) dX6_readNumber_28 (fun q9 H9 L9 hf hw => ?_)
      refine lv_iload_n hx hb dX6_readNumber_31 rfl (lv_at hl 2 rfl) ?_
      exact h_iret hf hx hb hr hlk hw dX6_readNumber_32
  · have hf := ifn hc hf
    refine lv_iload_n hx hb dX6_readNumber_7 rfl (lv_at hl 1 rfl) ?_
    exact h_iret hf hx hb hr hlk hw dX6_readNumber_8
theorem c_X6_readNumber (l : Launch) (E : hE) (B : Nat) (T : hT) (a0 : Nat) (p1 : Int32) (p2 : Int32) (u0 : hM) {z : Int32 × hM} (hf : fX6_readNumber T a0 p1 p2 u0 = some z) : h_Ct l E B T yX6_readNumber cX6_readNumber 5 (some .int) 2 [.ref (B + a0), .int p1, .int p2] u0 z.2 (some (.int z.1)) := h_ofW (by decide) (Nat.le_of_ble_eq_true rfl) (fun p e s m below meth c ls hΓ hl hw => wX6_readNumber hΓ hf hw hl)
def fX6_readIf (T : hT) (a0 : Nat) (p1 : Int32) (u0 : hM) : Option (Int32 × hM) := (vc T a0 6 (fX6_hasFault T a0 u0)).bind fun q1 => if q1.1 = 0 then ((vc T a0 6 (fX6_findToken T a0 q1.2)).bind fun q2 => (gti T q2 a0 6 2).bind fun x3 => (gti T q2 a0 6 1).bind fun x4 => if x4 ≤ x3 then (rtz (0 : Int32) q2) else ((gtr T q2 a0 6 0).bind fun a5 => (gti T q2 a0 6 2).bind fun x6 => (ald 12 T q2 a5 x6).bind fun x7 => if x7 = p1 then ((gti T q2 a0 6 2).bind fun x8 => (pti T q2 a0 6 2 (x8 + (1 : Int32))).bind fun u9 => rtz (1 : Int32) u9) else (rtz (0 : Int32) q2))) else (rtz (0 : Int32) q1.2)
set_option maxRecDepth 100000 in
set_option maxHeartbeats 4000000 in
theorem wX6_readIf {a0 : Nat} {p1 : Int32} {u0 : hM} {z : Int32 × hM} {ls : Array Slot} (hΓ : h_Γ E B T p s m args meth c cX6_readIf 2 (some .boolean) RX6) (hf : fX6_readIf T a0 p1 u0 = some z) (hw : h_W E B T s.heap u0 s.heap []) (hl : lv_has ls 2 [(0, .ref (B + a0)), (1, .int p1)]) : W p l e (h_rm 1) s m args below meth c s.heap [] 0 0 (h_Qi below E B T args s z) (F0 m 0 ls []) := by
  obtain ⟨hx, hb, hr, hml, hts, hown, hlk, hX⟩ := id hΓ
  unfold fX6_readIf at hf
  refine lv_aload_n hx hb dX6_readIf_0 rfl (lv_at hl 0 rfl) ?_
  refine h_cVi (As := []) (rest := []) hf hx hb hml hts hown hX hw myX6_hasFault miX6_hasFault lkX6_31 ⟨rfl, by decide⟩ (fun q hq => c_X6_hasFault l E B T a0 u0 hq) ⟨Nat.le_of_ble_eq_true rfl, Nat.le_of_ble_eq_true rfl⟩ ⟨Nat.le_refl _, Nat.le_refl _⟩ rfl hl.1 rfl (Nat.le_of_ble_eq_true rfl) dX6_readIf_1 (fun q1 H1 L1 hf hw => ?_)
  refine lv_if_eq (tgt := 9) hx hb dX6_readIf_4 (by decide) (fun hc => ?_) (fun hc => ?_)
  · have hf := ifp hc hf
    refine lv_aload_n hx hb dX6_readIf_9 rfl (lv_at hl 0 rfl) ?_
    refine h_cVv (As := []) (rest := []) hf hx hb hml hts hown hX hw myX6_findToken miX6_findToken lkX6_35 ⟨rfl, by decide⟩ (fun q hq => c_X6_findToken l E B T a0 q1.2 hq) ⟨Nat.le_of_ble_eq_true rfl, Nat.le_of_ble_eq_true rfl⟩ ⟨Nat.le_refl _, Nat.le_refl _⟩ rfl hl.1 rfl (Nat.le_of_ble_eq_true rfl) dX6_readIf_10 (fun q2 H2 L2 hf hw => ?_)
    refine lv_aload_n hx hb dX6_readIf_13 rfl (lv_at hl 0 rfl) ?_
    refine h_geti hf hx hb hts hown hX hw flX6_19 rfl dX6_readIf_14 (fun x3 hf => ?_)
    refine lv_aload_n hx hb dX6_readIf_17 rfl (lv_at hl 0 rfl) ?_
    refine h_geti hf hx hb hts hown hX hw flX6_15 rfl dX6_readIf_18 (fun x4 hf => ?_)
    refine lv_icmp_ge (tgt := 37) hx hb dX6_readIf_21 (by decide) (fun hc => ?_) (fun hc => ?_)
    · have hf := ifp hc hf
      refine lv_iconst (v := 0) hx hb dX6_readIf_37 (by decide) ?_
      exact h_zret hf hx hb hr hlk hw dX6_readIf_38
    · have hf := ifn hc hf
      refine lv_aload_n hx hb dX6_readIf_24 rfl (lv_at hl 0 rfl) ?_
      refine h_getr hf hx hb hts hown hX hw flX6_9 rfl dX6_readIf_25 (fun a5 hf => ?_)
      refine lv_aload_n hx hb dX6_readIf_28 rfl (lv_at hl 0 rfl) ?_
      refine h_geti hf hx hb hts hown hX hw flX6_19 rfl dX6_readIf_29 (fun x6 hf => ?_)
      refine h_bald hf hx hb hX hw dX6_readIf_32 (fun x7 hf => ?_)
      refine lv_iload_n hx hb dX6_readIf_33 rfl (lv_at hl 1 rfl) ?_
      refine lv_icmp_eq (tgt := 39) hx hb dX6_readIf_34 (by decide) (fun hc => ?_) (fun hc => ?_)
      · have hf := ifp hc hf
        refine lv_aload_n hx hb dX6_readIf_39 rfl (lv_at hl 0 rfl) ?_
        refine lv_dup hx hb dX6_readIf_40 rfl ?_
        refine h_geti hf hx hb hts hown hX hw flX6_19 rfl dX6_readIf_41 (fun x8 hf => ?_)
        refine lv_iconst (v := 1) hx hb dX6_readIf_44 (by decide) ?_
        refine lv_iadd hx hb dX6_readIf_45 ?_
        refine h_puti hf hx hb hts hown hX hw flX6_19 ⟨rfl, rfl⟩ dX6_readIf_46 (fun u9 H9 L9 hf hw => ?_)
        refine lv_iconst (v := 1) hx hb dX6_readIf_49 (by decide) ?_
        exact h_zret hf hx hb hr hlk hw dX6_readIf_50
      · have hf := ifn hc hf
        refine lv_iconst (v := 0) hx hb dX6_readIf_37 (by decide) ?_
        exact h_zret hf hx hb hr hlk hw dX6_readIf_38
  · have hf := ifn hc hf
    refine lv_iconst (v := 0) hx hb dX6_readIf_7 (by decide) ?_
    exact h_zret hf hx hb hr hlk hw dX6_readIf_8
theorem c_X6_readIf (l : Launch) (E : hE) (B : Nat) (T : hT) (a0 : Nat) (p1 : Int32) (u0 : hM) {z : Int32 × hM} (hf : fX6_readIf T a0 p1 u0 = some z) : h_Ct l E B T yX6_readIf cX6_readIf 2 (some .boolean) 1 [.ref (B + a0), .int p1] u0 z.2 (some (.int z.1)) := h_ofW (by decide) (Nat.le_of_ble_eq_true rfl) (fun p e s m below meth c ls hΓ hl hw => wX6_readIf hΓ hf hw hl)
def fX6_readSign (T : hT) (a0 : Nat) (p1 : Int32) (u0 : hM) : Option (hM) := (vc T a0 6 (fX6_readIf T a0 p1 u0)).bind fun q1 => if q1.1 = 0 then ((vc T a0 6 (fX6_blame T a0 (1 : Int32) q1.2)).bind fun q2 => some q2) else (some q1.2)
set_option maxRecDepth 100000 in
set_option maxHeartbeats 4000000 in
theorem wX6_readSign {a0 : Nat} {p1 : Int32} {u0 : hM} {z : hM} {ls : Array Slot} (hΓ : h_Γ E B T p s m args meth c cX6_readSign 2 none RX6) (hf : fX6_readSign T a0 p1 u0 = some z) (hw : h_W E B T s.heap u0 s.heap []) (hl : lv_has ls 2 [(0, .ref (B + a0)), (1, .int p1)]) : W p l e (h_rm 2) s m args below meth c s.heap [] 0 0 (h_Qv below E B T args s z) (F0 m 0 ls []) := by
  obtain ⟨hx, hb, hr, hml, hts, hown, hlk, hX⟩ := id hΓ
  unfold fX6_readSign at hf
  refine lv_aload_n hx hb dX6_readSign_0 rfl (lv_at hl 0 rfl) ?_
  refine lv_iload_n hx hb dX6_readSign_1 rfl (lv_at hl 1 rfl) ?_
  refine h_cVi (As := [.int p1]) (rest := []) hf hx hb hml hts hown hX hw myX6_readIf miX6_readIf lkX6_70 ⟨rfl, by decide⟩ (fun q hq => c_X6_readIf l E B T a0 p1 u0 hq) ⟨Nat.le_of_ble_eq_true rfl, Nat.le_of_ble_eq_true rfl⟩ ⟨Nat.le_refl _, Nat.le_refl _⟩ rfl hl.1 rfl (Nat.le_of_ble_eq_true rfl) dX6_readSign_2 (fun q1 H1 L1 hf hw => ?_)
  refine lv_if_ne (tgt := 13) hx hb dX6_readSign_5 (by decide) (fun hc => ?_) (fun hc => ?_)
  · have hf := ifn hc hf
    exact h_vret hf hx hb hr hlk hw dX6_readSign_13
  · have hf := ifp hc hf
    refine lv_aload_n hx hb dX6_readSign_8 rfl (lv_at hl 0 rfl) ?_
    refine lv_iconst (v := 1) hx hb dX6_readSign_9 (by decide) ?_
    refine h_cVv (As := [.int (1 : Int32)]) (rest := []) hf hx hb hml hts hown hX hw myX6_blame miX6_blame lkX6_50 ⟨rfl, by decide⟩ (fun q hq => c_X6_blame l E B T a0 (1 : Int32) q1.2 hq) ⟨Nat.le_of_ble_eq_true rfl, Nat.le_of_ble_eq_true rfl⟩ ⟨Nat.le_refl _, Nat.le_refl _⟩ rfl hl.1 rfl (Nat.le_of_ble_eq_true rfl) dX6_readSign_10 (fun q2 H2 L2 hf hw => ?_)
    exact h_vret hf hx hb hr hlk hw dX6_readSign_13
theorem c_X6_readSign (l : Launch) (E : hE) (B : Nat) (T : hT) (a0 : Nat) (p1 : Int32) (u0 : hM) {z : hM} (hf : fX6_readSign T a0 p1 u0 = some z) : h_Ct l E B T yX6_readSign cX6_readSign 2 none 2 [.ref (B + a0), .int p1] u0 z none := h_ofW (by decide) (Nat.le_of_ble_eq_true rfl) (fun p e s m below meth c ls hΓ hl hw => wX6_readSign hΓ hf hw hl)
def fX1_readFrom_L13 (T : hT) (c0 : Nat) (c1 : Nat) (ex : hM → Option (hM)) : Nat → Int32 → Int32 → hM → Option (hM)
  | 0, _, _, _ => none
  | n + 1, v2, v3, u0 => if (400 : Int32) ≤ v3 then (ex u0) else ((vc T c1 6 (fX6_isOver T c1 u0)).bind fun q3 => if q3.1 = 0 then ((vc T c1 6 (fX6_readWord T c1 0 q3.2)).bind fun q4 => lt (fun (x5 : Int32) (u6 : hM) => (vc T c1 6 (fX6_readSign T c1 (59 : Int32) u6)).bind fun q7 => lt (v3 + (1 : Int32)) fun x8 => fX1_readFrom_L13 T c0 c1 ex n x5 x8 q7) fun J104 => if q4.1 = (1 : Int32) then (J104 (1 : Int32) q4.2) else ((gti T q4.2 c0 1 2).bind fun x9 => if x9 < (40 : Int32) then ((gtr T q4.2 c0 1 0).bind fun a10 => (gti T q4.2 c0 1 2).bind fun x11 => (vc T c1 6 (fX6_readNumber T c1 (0 : Int32) (36 : Int32) q4.2)).bind fun q12 => (asti T q12.2 a10 x11 ((100 : Int32) * q12.1)).bind fun u13 => (gtr T u13 c0 1 1).bind fun a14 => (gti T u13 c0 1 2).bind fun x15 => (asti T u13 a14 x15 v2).bind fun u16 => (gti T u16 c0 1 2).bind fun x17 => (pti T u16 c0 1 2 (x17 + (1 : Int32))).bind fun u18 => J104 (0 : Int32) u18) else ((vc T c1 6 (fX6_blame T c1 (3 : Int32) q4.2)).bind fun q19 => J104 v2 q19))) else (ex q3.2))
def fX1_readFrom (T : hT) (a0 : Nat) (r1 : Nat) (u0 : hM) : Option (hM) := (pti T u0 a0 1 2 (0 : Int32)).bind fun u1 => (vc T r1 6 (fX6_open T r1 u1)).bind fun q2 => fX1_readFrom_L13 T a0 r1 (fun (u20 : hM) => some u20) 6000 (0 : Int32) (0 : Int32) q2
set_option maxRecDepth 100000 in
set_option maxHeartbeats 4000000 in
theorem wfX1_readFrom_L13 {c0 : Nat} {c1 : Nat} {ex : hM → Option (hM)} {z : hM} (hΓ : h_Γ E B T p s m args meth c cX1_readFrom 5 none RX1) (hex : ∀ (u9 : hM) (H9 : Heap) (L9 : List Loc) (ls : Array Slot), ex u9 = some z → h_W E B T s.heap u9 H9 L9 → lv_has ls 5 [] → W p l e (h_rm 9) s m args below meth c H9 L9 0 0 (h_Qv below E B T args s z) (F0 m 116 ls [])) : ∀ (n : Nat) (v2 : Int32) (v3 : Int32) (u0 : hM) (H0 : Heap) (L0 : List Loc) (ls : Array Slot), fX1_readFrom_L13 T c0 c1 ex n v2 v3 u0 = some z → h_W E B T s.heap u0 H0 L0 → lv_has ls 5 [(0, .ref (B + c0)), (1, .ref (B + c1)), (2, .int v2), (3, .int v3)] → W p l e (h_rm 9) s m args below meth c H0 L0 0 0 (h_Qv below E B T args s z) (F0 m 13 ls []) := by
  obtain ⟨hx, hb, hr, hml, hts, hown, hlk, hX⟩ := id hΓ
  intro n
  induction n with
  | zero =>
    intro v2 v3 u0 H0 L0 ls hf hw hl
    exact absurd (show (none : Option (hM)) = some z from hf) (fun h => by cases h)
  | succ n ih =>
    intro v2 v3 u0 H0 L0 ls hf hw hl
    rw [fX1_readFrom_L13] at hf
    refine lv_iload_n hx hb dX1_readFrom_13 rfl (lv_at hl 3 rfl) ?_
    refine lv_sipush (v := 400) hx hb dX1_readFrom_14 (by decide) ?_
    refine lv_icmp_ge (tgt := 116) hx hb dX1_readFrom_17 (by decide) (fun hc => ?_) (fun hc => ?_)
    · have hf := ifp hc hf
      exact hex  u0 _ _ _ hf hw (lv_sub hl [] rfl)
    · have hf := ifn hc hf
      refine lv_aload_n hx hb dX1_readFrom_20 rfl (lv_at hl 1 rfl) ?_
      refine h_cVi (As := []) (rest := []) hf hx hb hml hts hown hX hw myX6_isOver miX6_isOver lkX1_27 ⟨rfl, by decide⟩ (fun q hq => c_X6_isOver l E B T c1 u0 hq) ⟨Nat.le_of_ble_eq_true rfl, Nat.le_of_ble_eq_true rfl⟩ ⟨Nat.le_refl _, Nat.le_refl _⟩ rfl hl.1 rfl (Nat.le_of_ble_eq_true rfl) dX1_readFrom_21 (fun q3 H3 L3 hf hw => ?_)
      refine lv_if_ne (tgt := 116) hx hb dX1_readFrom_24 (by decide) (fun hc => ?_) (fun hc => ?_)
      · have hf := ifn hc hf
        exact hex  q3.2 _ _ _ hf hw (lv_sub hl [] rfl)
      · have hf := ifp hc hf
        refine lv_aload_n hx hb dX1_readFrom_27 rfl (lv_at hl 1 rfl) ?_
        refine va_ldcS hx hb hown (show vk_R RX1 31 "note breath " (E.2.2.1 0) s from hX.2.2.1 0 (by decide)) dX1_readFrom_28 ?_
        refine h_cVi (As := [.ref (E.2.2.1 0)]) (rest := []) hf hx hb hml hts hown hX hw myX6_readWord miX6_readWord lkX1_33 ⟨rfl, by decide⟩ (fun q hq => c_X6_readWord l E B T c1 0 q3.2 hq) ⟨Nat.le_of_ble_eq_true rfl, Nat.le_of_ble_eq_true rfl⟩ ⟨Nat.le_refl _, Nat.le_refl _⟩ rfl hl.1 rfl (Nat.le_of_ble_eq_true rfl) dX1_readFrom_30 (fun q4 H4 L4 hf hw => ?_)
        refine lv_istore (lv' := [(4, .int q4.1), (0, .ref (B + c0)), (1, .ref (B + c1)), (2, .int v2), (3, .int v3)]) hx hb dX1_readFrom_33 hl (by decide) rfl (fun ls hl => ?_)
        refine lv_iload hx hb dX1_readFrom_35 (lv_at hl 0 rfl) ?_
        refine lv_iconst (v := 1) hx hb dX1_readFrom_37 (by decide) ?_
        obtain ⟨J104, eJ104, hf⟩ := h_lt hf
        have hJ104 : ∀ (x5 : Int32) (u6 : hM) (H6 : Heap) (L6 : List Loc) (ls : Array Slot), J104 x5 u6 = some z → h_W E B T s.heap u6 H6 L6 → lv_has ls 5 [(0, .ref (B + c0)), (1, .ref (B + c1)), (2, .int x5), (3, .int v3)] → W p l e (h_rm 9) s m args below meth c H6 L6 0 0 (h_Qv below E B T args s z) (F0 m 104 ls []) := by
          intro x5 u6 H6 L6 ls hf hw hl
          rw [eJ104] at hf
          refine lv_aload_n hx hb dX1_readFrom_104 rfl (lv_at hl 1 rfl) ?_
          refine lv_bipush (v := 59) hx hb dX1_readFrom_105 (by decide) ?_
          refine h_cVv (As := [.int (59 : Int32)]) (rest := []) hf hx hb hml hts hown hX hw myX6_readSign miX6_readSign lkX1_45 ⟨rfl, by decide⟩ (fun q hq => c_X6_readSign l E B T c1 (59 : Int32) u6 hq) ⟨Nat.le_of_ble_eq_true rfl, Nat.le_of_ble_eq_true rfl⟩ ⟨Nat.le_refl _, Nat.le_refl _⟩ rfl hl.1 rfl (Nat.le_of_ble_eq_true rfl) dX1_readFrom_107 (fun q7 H7 L7 hf hw => ?_)
          refine h_iinc (k := 3) hf hx hb dX1_readFrom_110 hl rfl (by decide) (by decide) (fun x8 ls hf hl => ?_)
          have hl : lv_has ls 5 [(3, .int x8), (0, .ref (B + c0)), (1, .ref (B + c1)), (2, .int x5)] := hl
          refine lv_goto (tgt := 13) hx hb dX1_readFrom_113 (by decide) ?_
          exact ih x5 x8 q7 _ _ _ hf hw (lv_sub hl [1, 2, 3, 0] rfl)
        clear eJ104
        refine lv_icmp_ne (tgt := 46) hx hb dX1_readFrom_38 (by decide) (fun hc => ?_) (fun hc => ?_)
        · have hf := ifn hc hf
          refine lv_aload_n hx hb dX1_readFrom_46 rfl (lv_at hl 1 rfl) ?_
          refine h_geti hf hx hb hts hown hX hw flX1_18 rfl dX1_readFrom_47 (fun x9 hf => ?_)
          refine lv_bipush (v := 40) hx hb dX1_readFrom_50 (by decide) ?_
          refine lv_icmp_lt (tgt := 63) hx hb dX1_readFrom_52 (by decide) (fun hc => ?_) (fun hc => ?_)
          · have hf := ifp hc hf
            refine lv_aload_n hx hb dX1_readFrom_63 rfl (lv_at hl 1 rfl) ?_
            refine h_getr hf hx hb hts hown hX hw flX1_9 rfl dX1_readFrom_64 (fun a10 hf => ?_)
            refine lv_aload_n hx hb dX1_readFrom_67 rfl (lv_at hl 1 rfl) ?_
            refine h_geti hf hx hb hts hown hX hw flX1_18 rfl dX1_readFrom_68 (fun x11 hf => ?_)
            refine lv_bipush (v := 100) hx hb dX1_readFrom_71 (by decide) ?_
            refine lv_aload_n hx hb dX1_readFrom_73 rfl (lv_at hl 2 rfl) ?_
            refine lv_iconst (v := 0) hx hb dX1_readFrom_74 (by decide) ?_
            refine lv_bipush (v := 36) hx hb dX1_readFrom_75 (by decide) ?_
            refine h_cVi (As := [.int (0 : Int32), .int (36 : Int32)]) (rest := [.int (100 : Int32), .int x11, .ref (B + a10)]) hf hx hb hml hts hown hX hw myX6_readNumber miX6_readNumber lkX1_41 ⟨rfl, by decide⟩ (fun q hq => c_X6_readNumber l E B T c1 (0 : Int32) (36 : Int32) q4.2 hq) ⟨Nat.le_of_ble_eq_true rfl, Nat.le_of_ble_eq_true rfl⟩ ⟨Nat.le_refl _, Nat.le_refl _⟩ rfl hl.1 rfl (Nat.le_of_ble_eq_true rfl) dX1_readFrom_77 (fun q12 H12 L12 hf hw => ?_)
            refine lv_imul hx hb dX1_readFrom_80 ?_
            refine h_iast hf hx hb hX hw dX1_readFrom_81 (fun u13 H13 L13 hf hw => ?_)
            refine lv_aload_n hx hb dX1_readFrom_82 rfl (lv_at hl 1 rfl) ?_
            refine h_getr hf hx hb hts hown hX hw flX1_15 rfl dX1_readFrom_83 (fun a14 hf => ?_)
            refine lv_aload_n hx hb dX1_readFrom_86 rfl (lv_at hl 1 rfl) ?_
            refine h_geti hf hx hb hts hown hX hw flX1_18 rfl dX1_readFrom_87 (fun x15 hf => ?_)
            refine lv_iload_n hx hb dX1_readFrom_90 rfl (lv_at hl 3 rfl) ?_
            refine h_iast hf hx hb hX hw dX1_readFrom_91 (fun u16 H16 L16 hf hw => ?_)
            refine lv_iconst (v := 0) hx hb dX1_readFrom_92 (by decide) ?_
            refine lv_istore_n (lv' := [(2, .int (0 : Int32)), (4, .int q4.1), (0, .ref (B + c0)), (1, .ref (B + c1)), (3, .int v3)]) hx hb dX1_readFrom_93 rfl hl (by decide) rfl (fun ls hl => ?_)
            refine lv_aload_n hx hb dX1_readFrom_94 rfl (lv_at hl 2 rfl) ?_
            refine lv_dup hx hb dX1_readFrom_95 rfl ?_
            refine h_geti hf hx hb hts hown hX hw flX1_18 rfl dX1_readFrom_96 (fun x17 hf => ?_)
            refine lv_iconst (v := 1) hx hb dX1_readFrom_99 (by decide) ?_
            refine lv_iadd hx hb dX1_readFrom_100 ?_
            refine h_puti hf hx hb hts hown hX hw flX1_18 ⟨rfl, rfl⟩ dX1_readFrom_101 (fun u18 H18 L18 hf hw => ?_)
            exact hJ104 (0 : Int32) u18 _ _ _ hf hw (lv_sub hl [2, 3, 0, 4] rfl)
          · have hf := ifn hc hf
            refine lv_aload_n hx hb dX1_readFrom_55 rfl (lv_at hl 2 rfl) ?_
            refine lv_iconst (v := 3) hx hb dX1_readFrom_56 (by decide) ?_
            refine h_cVv (As := [.int (3 : Int32)]) (rest := []) hf hx hb hml hts hown hX hw myX6_blame miX6_blame lkX1_37 ⟨rfl, by decide⟩ (fun q hq => c_X6_blame l E B T c1 (3 : Int32) q4.2 hq) ⟨Nat.le_of_ble_eq_true rfl, Nat.le_of_ble_eq_true rfl⟩ ⟨Nat.le_refl _, Nat.le_refl _⟩ rfl hl.1 rfl (Nat.le_of_ble_eq_true rfl) dX1_readFrom_57 (fun q19 H19 L19 hf hw => ?_)
            refine lv_goto (tgt := 104) hx hb dX1_readFrom_60 (by decide) ?_
            exact hJ104 v2 q19 _ _ _ hf hw (lv_sub hl [1, 2, 3, 4] rfl)
        · have hf := ifp hc hf
          refine lv_iconst (v := 1) hx hb dX1_readFrom_41 (by decide) ?_
          refine lv_istore_n (lv' := [(2, .int (1 : Int32)), (4, .int q4.1), (0, .ref (B + c0)), (1, .ref (B + c1)), (3, .int v3)]) hx hb dX1_readFrom_42 rfl hl (by decide) rfl (fun ls hl => ?_)
          refine lv_goto (tgt := 104) hx hb dX1_readFrom_43 (by decide) ?_
          exact hJ104 (1 : Int32) q4.2 _ _ _ hf hw (lv_sub hl [2, 3, 0, 4] rfl)
set_option maxRecDepth 100000 in
set_option maxHeartbeats 4000000 in
theorem wX1_readFrom {a0 : Nat} {r1 : Nat} {u0 : hM} {z : hM} {ls : Array Slot} (hΓ : h_Γ E B T p s m args meth c cX1_readFrom 5 none RX1) (hf : fX1_readFrom T a0 r1 u0 = some z) (hw : h_W E B T s.heap u0 s.heap []) (hl : lv_has ls 5 [(0, .ref (B + a0)), (1, .ref (B + r1))]) : W p l e (h_rm 9) s m args below meth c s.heap [] 0 0 (h_Qv below E B T args s z) (F0 m 0 ls []) := by
  obtain ⟨hx, hb, hr, hml, hts, hown, hlk, hX⟩ := id hΓ
  unfold fX1_readFrom at hf
  refine lv_aload_n hx hb dX1_readFrom_0 rfl (lv_at hl 0 rfl) ?_
  refine lv_iconst (v := 0) hx hb dX1_readFrom_1 (by decide) ?_
  refine h_puti hf hx hb hts hown hX hw flX1_18 ⟨rfl, rfl⟩ dX1_readFrom_2 (fun u1 H1 L1 hf hw => ?_)
  refine lv_iconst (v := 0) hx hb dX1_readFrom_5 (by decide) ?_
  refine lv_istore_n (lv' := [(2, .int (0 : Int32)), (0, .ref (B + a0)), (1, .ref (B + r1))]) hx hb dX1_readFrom_6 rfl hl (by decide) rfl (fun ls hl => ?_)
  refine lv_aload_n hx hb dX1_readFrom_7 rfl (lv_at hl 2 rfl) ?_
  refine h_cVv (As := []) (rest := []) hf hx hb hml hts hown hX hw myX6_open miX6_open lkX1_22 ⟨rfl, by decide⟩ (fun q hq => c_X6_open l E B T r1 u1 hq) ⟨Nat.le_of_ble_eq_true rfl, Nat.le_of_ble_eq_true rfl⟩ ⟨Nat.le_refl _, Nat.le_refl _⟩ rfl hl.1 rfl (Nat.le_of_ble_eq_true rfl) dX1_readFrom_8 (fun q2 H2 L2 hf hw => ?_)
  refine lv_iconst (v := 0) hx hb dX1_readFrom_11 (by decide) ?_
  refine lv_istore_n (lv' := [(3, .int (0 : Int32)), (2, .int (0 : Int32)), (0, .ref (B + a0)), (1, .ref (B + r1))]) hx hb dX1_readFrom_12 rfl hl (by decide) rfl (fun ls hl => ?_)
  refine wfX1_readFrom_L13 hΓ ?_ 6000 (0 : Int32) (0 : Int32) q2 _ _ _ hf hw (lv_sub hl [2, 3, 1, 0] rfl)
  intro u20 H20 L20 ls hf hw hl
  exact h_vret hf hx hb hr hlk hw dX1_readFrom_116
theorem c_X1_readFrom (l : Launch) (E : hE) (B : Nat) (T : hT) (a0 : Nat) (r1 : Nat) (u0 : hM) {z : hM} (hf : fX1_readFrom T a0 r1 u0 = some z) : h_Ct l E B T yX1_readFrom cX1_readFrom 5 none 9 [.ref (B + a0), .ref (B + r1)] u0 z none := h_ofW (by decide) (Nat.le_of_ble_eq_true rfl) (fun p e s m below meth c ls hΓ hl hw => wX1_readFrom hΓ hf hw hl)
def fX6_clear (T : hT) (a0 : Nat) (u0 : hM) : Option (hM) := (pti T u0 a0 6 1 (0 : Int32)).bind fun u1 => some u1
set_option maxRecDepth 100000 in
set_option maxHeartbeats 4000000 in
theorem wX6_clear {a0 : Nat} {u0 : hM} {z : hM} {ls : Array Slot} (hΓ : h_Γ E B T p s m args meth c cX6_clear 1 none RX6) (hf : fX6_clear T a0 u0 = some z) (hw : h_W E B T s.heap u0 s.heap []) (hl : lv_has ls 1 [(0, .ref (B + a0))]) : W p l e (h_rm 0) s m args below meth c s.heap [] 0 0 (h_Qv below E B T args s z) (F0 m 0 ls []) := by
  obtain ⟨hx, hb, hr, hml, hts, hown, hlk, hX⟩ := id hΓ
  unfold fX6_clear at hf
  refine lv_aload_n hx hb dX6_clear_0 rfl (lv_at hl 0 rfl) ?_
  refine lv_iconst (v := 0) hx hb dX6_clear_1 (by decide) ?_
  refine h_puti hf hx hb hts hown hX hw flX6_15 ⟨rfl, rfl⟩ dX6_clear_2 (fun u1 H1 L1 hf hw => ?_)
  exact h_vret hf hx hb hr hlk hw dX6_clear_5
theorem c_X6_clear (l : Launch) (E : hE) (B : Nat) (T : hT) (a0 : Nat) (u0 : hM) {z : hM} (hf : fX6_clear T a0 u0 = some z) : h_Ct l E B T yX6_clear cX6_clear 1 none 0 [.ref (B + a0)] u0 z none := h_ofW (by decide) (Nat.le_of_ble_eq_true rfl) (fun p e s m below meth c ls hΓ hl hw => wX6_clear hΓ hf hw hl)
def fX4_clear (T : hT) (a0 : Nat) (u0 : hM) : Option (hM) := (pti T u0 a0 4 1 (0 : Int32)).bind fun u1 => (pti T u1 a0 4 2 (-1 : Int32)).bind fun u2 => some u2
set_option maxRecDepth 100000 in
set_option maxHeartbeats 4000000 in
theorem wX4_clear {a0 : Nat} {u0 : hM} {z : hM} {ls : Array Slot} (hΓ : h_Γ E B T p s m args meth c cX4_clear 1 none RX4) (hf : fX4_clear T a0 u0 = some z) (hw : h_W E B T s.heap u0 s.heap []) (hl : lv_has ls 1 [(0, .ref (B + a0))]) : W p l e (h_rm 0) s m args below meth c s.heap [] 0 0 (h_Qv below E B T args s z) (F0 m 0 ls []) := by
  obtain ⟨hx, hb, hr, hml, hts, hown, hlk, hX⟩ := id hΓ
  unfold fX4_clear at hf
  refine lv_aload_n hx hb dX4_clear_0 rfl (lv_at hl 0 rfl) ?_
  refine lv_iconst (v := 0) hx hb dX4_clear_1 (by decide) ?_
  refine h_puti hf hx hb hts hown hX hw flX4_15 ⟨rfl, rfl⟩ dX4_clear_2 (fun u1 H1 L1 hf hw => ?_)
  refine lv_aload_n hx hb dX4_clear_5 rfl (lv_at hl 0 rfl) ?_
  refine lv_iconst (v := -1) hx hb dX4_clear_6 (by decide) ?_
  refine h_puti hf hx hb hts hown hX hw flX4_19 ⟨rfl, rfl⟩ dX4_clear_7 (fun u2 H2 L2 hf hw => ?_)
  exact h_vret hf hx hb hr hlk hw dX4_clear_10
theorem c_X4_clear (l : Launch) (E : hE) (B : Nat) (T : hT) (a0 : Nat) (u0 : hM) {z : hM} (hf : fX4_clear T a0 u0 = some z) : h_Ct l E B T yX4_clear cX4_clear 1 none 0 [.ref (B + a0)] u0 z none := h_ofW (by decide) (Nat.le_of_ble_eq_true rfl) (fun p e s m below meth c ls hΓ hl hw => wX4_clear hΓ hf hw hl)
def fX8_dropSong (T : hT) (a0 : Nat) (u0 : hM) : Option (hM) := (gtr T u0 a0 8 6).bind fun a1 => (gtr T u0 a1 5 0).bind fun a2 => (vc T a2 4 (fX4_clear T a2 u0)).bind fun q3 => (pti T q3 a0 8 11 (0 : Int32)).bind fun u4 => some u4
set_option maxRecDepth 100000 in
set_option maxHeartbeats 4000000 in
theorem wX8_dropSong {a0 : Nat} {u0 : hM} {z : hM} {ls : Array Slot} (hΓ : h_Γ E B T p s m args meth c cX8_dropSong 1 none RX8) (hf : fX8_dropSong T a0 u0 = some z) (hw : h_W E B T s.heap u0 s.heap []) (hl : lv_has ls 1 [(0, .ref (B + a0))]) : W p l e (h_rm 1) s m args below meth c s.heap [] 0 0 (h_Qv below E B T args s z) (F0 m 0 ls []) := by
  obtain ⟨hx, hb, hr, hml, hts, hown, hlk, hX⟩ := id hΓ
  unfold fX8_dropSong at hf
  refine lv_aload_n hx hb dX8_dropSong_0 rfl (lv_at hl 0 rfl) ?_
  refine h_getr hf hx hb hts hown hX hw flX8_47 rfl dX8_dropSong_1 (fun a1 hf => ?_)
  refine h_getr hf hx hb hts hown hX hw flX8_145 rfl dX8_dropSong_4 (fun a2 hf => ?_)
  refine h_cVv (As := []) (rest := []) hf hx hb hml hts hown hX hw myX4_clear miX4_clear lkX8_322 ⟨rfl, by decide⟩ (fun q hq => c_X4_clear l E B T a2 u0 hq) ⟨Nat.le_of_ble_eq_true rfl, Nat.le_of_ble_eq_true rfl⟩ ⟨Nat.le_refl _, Nat.le_refl _⟩ rfl hl.1 rfl (Nat.le_of_ble_eq_true rfl) dX8_dropSong_7 (fun q3 H3 L3 hf hw => ?_)
  refine lv_aload_n hx hb dX8_dropSong_10 rfl (lv_at hl 0 rfl) ?_
  refine lv_iconst (v := 0) hx hb dX8_dropSong_11 (by decide) ?_
  refine h_puti hf hx hb hts hown hX hw flX8_73 ⟨rfl, rfl⟩ dX8_dropSong_12 (fun u4 H4 L4 hf hw => ?_)
  exact h_vret hf hx hb hr hlk hw dX8_dropSong_15
theorem c_X8_dropSong (l : Launch) (E : hE) (B : Nat) (T : hT) (a0 : Nat) (u0 : hM) {z : hM} (hf : fX8_dropSong T a0 u0 = some z) : h_Ct l E B T yX8_dropSong cX8_dropSong 1 none 1 [.ref (B + a0)] u0 z none := h_ofW (by decide) (Nat.le_of_ble_eq_true rfl) (fun p e s m below meth c ls hΓ hl hw => wX8_dropSong hΓ hf hw hl)
def fX8_dropImages_L2 (T : hT) (c0 : Nat) (ex : hM → Option (hM)) : Nat → Int32 → hM → Option (hM)
  | 0, _, _ => none
  | n + 1, v1, u0 => if (2 : Int32) ≤ v1 then (ex u0) else ((gtr T u0 c0 8 7).bind fun a1 => (aldr 16 T u0 a1 v1).bind fun a2 => (ptz T u0 a2 5 7 (0 : Int32)).bind fun u3 => lt (v1 + (1 : Int32)) fun x4 => fX8_dropImages_L2 T c0 ex n x4 u3)
def fX8_dropImages (T : hT) (a0 : Nat) (u0 : hM) : Option (hM) := fX8_dropImages_L2 T a0 (fun (u5 : hM) => some u5) 6000 (0 : Int32) u0
set_option maxRecDepth 100000 in
set_option maxHeartbeats 4000000 in
theorem wfX8_dropImages_L2 {c0 : Nat} {ex : hM → Option (hM)} {z : hM} (hΓ : h_Γ E B T p s m args meth c cX8_dropImages 2 none RX8) (hex : ∀ (u9 : hM) (H9 : Heap) (L9 : List Loc) (ls : Array Slot), ex u9 = some z → h_W E B T s.heap u9 H9 L9 → lv_has ls 2 [] → W p l e (h_rm 0) s m args below meth c H9 L9 0 0 (h_Qv below E B T args s z) (F0 m 23 ls [])) : ∀ (n : Nat) (v1 : Int32) (u0 : hM) (H0 : Heap) (L0 : List Loc) (ls : Array Slot), fX8_dropImages_L2 T c0 ex n v1 u0 = some z → h_W E B T s.heap u0 H0 L0 → lv_has ls 2 [(0, .ref (B + c0)), (1, .int v1)] → W p l e (h_rm 0) s m args below meth c H0 L0 0 0 (h_Qv below E B T args s z) (F0 m 2 ls []) := by
  obtain ⟨hx, hb, hr, hml, hts, hown, hlk, hX⟩ := id hΓ
  intro n
  induction n with
  | zero =>
    intro v1 u0 H0 L0 ls hf hw hl
    exact absurd (show (none : Option (hM)) = some z from hf) (fun h => by cases h)
  | succ n ih =>
    intro v1 u0 H0 L0 ls hf hw hl
    rw [fX8_dropImages_L2] at hf
    refine lv_iload_n hx hb dX8_dropImages_2 rfl (lv_at hl 1 rfl) ?_
    refine lv_iconst (v := 2) hx hb dX8_dropImages_3 (by decide) ?_
    refine lv_icmp_ge (tgt := 23) hx hb dX8_dropImages_4 (by decide) (fun hc => ?_) (fun hc => ?_)
    · have hf := ifp hc hf
      exact hex  u0 _ _ _ hf hw (lv_sub hl [] rfl)
    · have hf := ifn hc hf
      refine lv_aload_n hx hb dX8_dropImages_7 rfl (lv_at hl 0 rfl) ?_
      refine h_getr hf hx hb hts hown hX hw flX8_51 rfl dX8_dropImages_8 (fun a1 hf => ?_)
      refine lv_iload_n hx hb dX8_dropImages_11 rfl (lv_at hl 1 rfl) ?_
      refine h_aald16 hf hx hb hX hw dX8_dropImages_12 (fun a2 hf => ?_)
      refine lv_iconst (v := 0) hx hb dX8_dropImages_13 (by decide) ?_
      refine h_putz hf hx hb hts hown hX hw flX8_318 ⟨rfl, rfl⟩ dX8_dropImages_14 (fun u3 H3 L3 hf hw => ?_)
      refine h_iinc (k := 1) hf hx hb dX8_dropImages_17 hl rfl (by decide) (by decide) (fun x4 ls hf hl => ?_)
      have hl : lv_has ls 2 [(1, .int x4), (0, .ref (B + c0))] := hl
      refine lv_goto (tgt := 2) hx hb dX8_dropImages_20 (by decide) ?_
      exact ih x4 u3 _ _ _ hf hw (lv_sub hl [1, 0] rfl)
set_option maxRecDepth 100000 in
set_option maxHeartbeats 4000000 in
theorem wX8_dropImages {a0 : Nat} {u0 : hM} {z : hM} {ls : Array Slot} (hΓ : h_Γ E B T p s m args meth c cX8_dropImages 2 none RX8) (hf : fX8_dropImages T a0 u0 = some z) (hw : h_W E B T s.heap u0 s.heap []) (hl : lv_has ls 2 [(0, .ref (B + a0))]) : W p l e (h_rm 0) s m args below meth c s.heap [] 0 0 (h_Qv below E B T args s z) (F0 m 0 ls []) := by
  obtain ⟨hx, hb, hr, hml, hts, hown, hlk, hX⟩ := id hΓ
  unfold fX8_dropImages at hf
  refine lv_iconst (v := 0) hx hb dX8_dropImages_0 (by decide) ?_
  refine lv_istore_n (lv' := [(1, .int (0 : Int32)), (0, .ref (B + a0))]) hx hb dX8_dropImages_1 rfl hl (by decide) rfl (fun ls hl => ?_)
  refine wfX8_dropImages_L2 hΓ ?_ 6000 (0 : Int32) u0 _ _ _ hf hw (lv_sub hl [1, 0] rfl)
  intro u5 H5 L5 ls hf hw hl
  exact h_vret hf hx hb hr hlk hw dX8_dropImages_23
theorem c_X8_dropImages (l : Launch) (E : hE) (B : Nat) (T : hT) (a0 : Nat) (u0 : hM) {z : hM} (hf : fX8_dropImages T a0 u0 = some z) : h_Ct l E B T yX8_dropImages cX8_dropImages 2 none 0 [.ref (B + a0)] u0 z none := h_ofW (by decide) (Nat.le_of_ble_eq_true rfl) (fun p e s m below meth c ls hΓ hl hw => wX8_dropImages hΓ hf hw hl)
def fX8_tune (T : hT) (a0 : Nat) (u0 : hM) : Option (Int32 × hM) := (gtr T u0 a0 8 2).bind fun a1 => (gtr T u0 a0 8 0).bind fun a2 => (vc T a1 1 (fX1_readFrom T a1 a2 u0)).bind fun q3 => (gtr T q3 a0 8 0).bind fun a4 => (vc T a4 6 (fX6_clear T a4 q3)).bind fun q5 => (gtr T q5 a0 8 0).bind fun a6 => (vc T a6 6 (fX6_hasFault T a6 q5)).bind fun q7 => if q7.1 = 0 then ((gtr T q7.2 a0 8 1).bind fun a8 => (gtr T q7.2 a0 8 2).bind fun a9 => (ptr T q7.2 a0 8 1 (some a9)).bind fun u10 => (ptr T u10 a0 8 2 (some a8)).bind fun u11 => (vc T a0 8 (fX8_dropSong T a0 u11)).bind fun q12 => (vc T a0 8 (fX8_dropImages T a0 q12)).bind fun q13 => (gtr T q13 a0 8 1).bind fun a14 => (gti T q13 a14 1 2).bind fun x15 => some (x15, q13)) else ((gtr T q7.2 a0 8 0).bind fun a16 => (gti T q7.2 a16 6 4).bind fun x17 => some (((-10 : Int32) - x17), q7.2))
set_option maxRecDepth 100000 in
set_option maxHeartbeats 4000000 in
theorem wX8_tune {a0 : Nat} {u0 : hM} {z : Int32 × hM} {ls : Array Slot} (hΓ : h_Γ E B T p s m args meth c cX8_tune 2 (some .int) RX8) (hf : fX8_tune T a0 u0 = some z) (hw : h_W E B T s.heap u0 s.heap []) (hl : lv_has ls 2 [(0, .ref (B + a0))]) : W p l e (h_rm 10) s m args below meth c s.heap [] 0 0 (h_Qi below E B T args s z) (F0 m 0 ls []) := by
  obtain ⟨hx, hb, hr, hml, hts, hown, hlk, hX⟩ := id hΓ
  unfold fX8_tune at hf
  refine lv_aload_n hx hb dX8_tune_0 rfl (lv_at hl 0 rfl) ?_
  refine h_getr hf hx hb hts hown hX hw flX8_23 rfl dX8_tune_1 (fun a1 hf => ?_)
  refine lv_aload_n hx hb dX8_tune_4 rfl (lv_at hl 0 rfl) ?_
  refine h_getr hf hx hb hts hown hX hw flX8_10 rfl dX8_tune_5 (fun a2 hf => ?_)
  refine h_cVv (As := [.ref (B + a2)]) (rest := []) hf hx hb hml hts hown hX hw myX1_readFrom miX1_readFrom lkX8_104 ⟨rfl, by decide⟩ (fun q hq => c_X1_readFrom l E B T a1 a2 u0 hq) ⟨Nat.le_of_ble_eq_true rfl, Nat.le_of_ble_eq_true rfl⟩ ⟨Nat.le_refl _, Nat.le_refl _⟩ rfl hl.1 rfl (Nat.le_of_ble_eq_true rfl) dX8_tune_8 (fun q3 H3 L3 hf hw => ?_)
  refine lv_aload_n hx hb dX8_tune_11 rfl (lv_at hl 0 rfl) ?_
  refine h_getr hf hx hb hts hown hX hw flX8_10 rfl dX8_tune_12 (fun a4 hf => ?_)
  refine h_cVv (As := []) (rest := []) hf hx hb hml hts hown hX hw myX6_clear miX6_clear lkX8_108 ⟨rfl, by decide⟩ (fun q hq => c_X6_clear l E B T a4 q3 hq) ⟨Nat.le_of_ble_eq_true rfl, Nat.le_of_ble_eq_true rfl⟩ ⟨Nat.le_refl _, Nat.le_refl _⟩ rfl hl.1 rfl (Nat.le_of_ble_eq_true rfl) dX8_tune_15 (fun q5 H5 L5 hf hw => ?_)
  refine lv_aload_n hx hb dX8_tune_18 rfl (lv_at hl 0 rfl) ?_
  refine h_getr hf hx hb hts hown hX hw flX8_10 rfl dX8_tune_19 (fun a6 hf => ?_)
  refine h_cVi (As := []) (rest := []) hf hx hb hml hts hown hX hw myX6_hasFault miX6_hasFault lkX8_111 ⟨rfl, by decide⟩ (fun q hq => c_X6_hasFault l E B T a6 q5 hq) ⟨Nat.le_of_ble_eq_true rfl, Nat.le_of_ble_eq_true rfl⟩ ⟨Nat.le_refl _, Nat.le_refl _⟩ rfl hl.1 rfl (Nat.le_of_ble_eq_true rfl) dX8_tune_22 (fun q7 H7 L7 hf hw => ?_)
  refine lv_if_eq (tgt := 39) hx hb dX8_tune_25 (by decide) (fun hc => ?_) (fun hc => ?_)
  · have hf := ifp hc hf
    refine lv_aload_n hx hb dX8_tune_39 rfl (lv_at hl 0 rfl) ?_
    refine h_getr hf hx hb hts hown hX hw flX8_19 rfl dX8_tune_40 (fun a8 hf => ?_)
    refine lv_astore_n (lv' := [(1, .ref (B + a8)), (0, .ref (B + a0))]) hx hb dX8_tune_43 rfl hl (by decide) rfl (fun ls hl => ?_)
    refine lv_aload_n hx hb dX8_tune_44 rfl (lv_at hl 1 rfl) ?_
    refine lv_aload_n hx hb dX8_tune_45 rfl (lv_at hl 1 rfl) ?_
    refine h_getr hf hx hb hts hown hX hw flX8_23 rfl dX8_tune_46 (fun a9 hf => ?_)
    refine h_putr hf hx hb hts hown hX hw flX8_19 ⟨rfl, rfl⟩ dX8_tune_49 (fun u10 H10 L10 hf hw => ?_)
    refine lv_aload_n hx hb dX8_tune_52 rfl (lv_at hl 1 rfl) ?_
    refine lv_aload_n hx hb dX8_tune_53 rfl (lv_at hl 0 rfl) ?_
    refine h_putr hf hx hb hts hown hX hw flX8_23 ⟨rfl, rfl⟩ dX8_tune_54 (fun u11 H11 L11 hf hw => ?_)
    refine lv_aload_n hx hb dX8_tune_57 rfl (lv_at hl 1 rfl) ?_
    refine h_cVv (As := []) (rest := []) hf hx hb hml hts hown hX hw myX8_dropSong miX8_dropSong lkX8_118 ⟨rfl, by decide⟩ (fun q hq => c_X8_dropSong l E B T a0 u11 hq) ⟨Nat.le_of_ble_eq_true rfl, Nat.le_of_ble_eq_true rfl⟩ ⟨Nat.le_refl _, Nat.le_refl _⟩ rfl hl.1 rfl (Nat.le_of_ble_eq_true rfl) dX8_tune_58 (fun q12 H12 L12 hf hw => ?_)
    refine lv_aload_n hx hb dX8_tune_61 rfl (lv_at hl 1 rfl) ?_
    refine h_cVv (As := []) (rest := []) hf hx hb hml hts hown hX hw myX8_dropImages miX8_dropImages lkX8_121 ⟨rfl, by decide⟩ (fun q hq => c_X8_dropImages l E B T a0 q12 hq) ⟨Nat.le_of_ble_eq_true rfl, Nat.le_of_ble_eq_true rfl⟩ ⟨Nat.le_refl _, Nat.le_refl _⟩ rfl hl.1 rfl (Nat.le_of_ble_eq_true rfl) dX8_tune_62 (fun q13 H13 L13 hf hw => ?_)
    refine lv_aload_n hx hb dX8_tune_65 rfl (lv_at hl 1 rfl) ?_
    refine h_getr hf hx hb hts hown hX hw flX8_19 rfl dX8_tune_66 (fun a14 hf => ?_)
    refine h_geti hf hx hb hts hown hX hw flX8_124 rfl dX8_tune_69 (fun x15 hf => ?_)
    exact h_iret hf hx hb hr hlk hw dX8_tune_72
  · have hf := ifn hc hf
    refine lv_bipush (v := -10) hx hb dX8_tune_28 (by decide) ?_
    refine lv_aload_n hx hb dX8_tune_30 rfl (lv_at hl 0 rfl) ?_
    refine h_getr hf hx hb hts hown hX hw flX8_10 rfl dX8_tune_31 (fun a16 hf => ?_)
    refine h_geti hf hx hb hts hown hX hw flX8_115 rfl dX8_tune_34 (fun x17 hf => ?_)
    refine lv_isub hx hb dX8_tune_37 ?_
    exact h_iret hf hx hb hr hlk hw dX8_tune_38
theorem c_X8_tune (l : Launch) (E : hE) (B : Nat) (T : hT) (a0 : Nat) (u0 : hM) {z : Int32 × hM} (hf : fX8_tune T a0 u0 = some z) : h_Ct l E B T yX8_tune cX8_tune 2 (some .int) 10 [.ref (B + a0)] u0 z.2 (some (.int z.1)) := h_ofW (by decide) (Nat.le_of_ble_eq_true rfl) (fun p e s m below meth c ls hΓ hl hw => wX8_tune hΓ hf hw hl)
end GEN
