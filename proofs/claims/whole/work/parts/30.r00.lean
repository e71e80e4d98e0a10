section GEN
variable {p : Program} {l : Launch} {e : Env} {s : State} {m : MethodId} {args : Array Value} {below : List Frame} {meth : Method} {c : Code} {E : hE} {B : Nat} {T : hT}
def fX9_in (T : hT) (p0 : Int64) (p2 : Int64) (p4 : Int64) (u0 : hM) : Option (Int32 × hM) := if p0 < p2 then (rtz (0 : Int32) u0) else (if p4 < p0 then (rtz (0 : Int32) u0) else (rtz (1 : Int32) u0))
set_option maxRecDepth 100000 in
set_option maxHeartbeats 4000000 in
theorem wX9_in {p0 : Int64} {p2 : Int64} {p4 : Int64} {u0 : hM} {z : Int32 × hM} {ls : Array Slot} (hΓ : h_Γ E B T p s m args meth c cX9_in 6 (some .boolean) RX9) (hf : fX9_in T p0 p2 p4 u0 = some z) (hw : h_W E B T s.heap u0 s.heap []) (hl : lv_has ls 6 [(0, .long p0), (2, .long p2), (4, .long p4)]) : W p l e (h_rm 0) s m args below meth c s.heap [] 0 0 (h_Qi below E B T args s z) (F0 m 0 ls []) := by
  obtain ⟨hx, hb, hr, hml, hts, hown, hlk, hX⟩ := id hΓ
  unfold fX9_in at hf
  refine lv_lload_n hx hb dX9_in_0 rfl (lv_at hl 0 rfl) ?_
  refine lv_lload_n hx hb dX9_in_1 rfl (lv_at hl 1 rfl) ?_
  refine W.lcmp hx hb dX9_in_2 ?_
  refine lv_if_lt (tgt := 17) hx hb dX9_in_3 (by decide) (fun hc => ?_) (fun hc => ?_)
  · have hc := (lg_cmp_lt _ _).mp hc
    have hf := ifp hc hf
    refine lv_iconst (v := 0) hx hb dX9_in_17 (by decide) ?_
    exact h_zret hf hx hb hr hlk hw dX9_in_18
  · have hc := (not_congr (lg_cmp_lt _ _)).mp hc
    have hf := ifn hc hf
    refine lv_lload_n hx hb dX9_in_6 rfl (lv_at hl 0 rfl) ?_
    refine lv_lload hx hb dX9_in_7 (lv_at hl 2 rfl) ?_
    refine W.lcmp hx hb dX9_in_9 ?_
    refine lv_if_gt (tgt := 17) hx hb dX9_in_10 (by decide) (fun hc => ?_) (fun hc => ?_)
    · have hc := (lg_cmp_gt _ _).mp hc
      have hf := ifp hc hf
      refine lv_iconst (v := 0) hx hb dX9_in_17 (by decide) ?_
      exact h_zret hf hx hb hr hlk hw dX9_in_18
    · have hc := (not_congr (lg_cmp_gt _ _)).mp hc
      have hf := ifn hc hf
      refine lv_iconst (v := 1) hx hb dX9_in_13 (by decide) ?_
      refine lv_goto (tgt := 18) hx hb dX9_in_14 (by decide) ?_
      exact h_zret hf hx hb hr hlk hw dX9_in_18
theorem c_X9_in (l : Launch) (E : hE) (B : Nat) (T : hT) (p0 : Int64) (p2 : Int64) (p4 : Int64) (u0 : hM) {z : Int32 × hM} (hf : fX9_in T p0 p2 p4 u0 = some z) : h_Ct l E B T yX9_in cX9_in 6 (some .boolean) 0 [.long p0, .long p2, .long p4] u0 z.2 (some (.int z.1)) := h_ofW (by decide) (Nat.le_of_ble_eq_true rfl) (fun p e s m below meth c ls hΓ hl hw => wX9_in hΓ hf hw hl)
def fX9_feed_L35 (T : hT) (c0 : Nat) (c2 : Int64) (ex : hM → Option (Int32 × hM)) : Nat → Int32 → hM → Option (Int32 × hM)
  | 0, _, _ => none
  | n + 1, v4, u0 => if v4 < 0 then (ex u0) else ((gtr T u0 c0 9 12).bind fun a4 => (gti T u0 c0 9 13).bind fun x5 => (asti T u0 a4 x5 (((c2 >>> (((8 : Int32) * v4).toInt64 &&& 63)) &&& (255 : Int64)).toInt32)).bind fun u6 => (gti T u6 c0 9 13).bind fun x7 => (pti T u6 c0 9 13 (x7 + (1 : Int32))).bind fun u8 => lt (v4 + (-1 : Int32)) fun x9 => fX9_feed_L35 T c0 c2 ex n x9 u8)
def fX9_feed (T : hT) (a0 : Nat) (p1 : Int32) (p2 : Int64) (u0 : hM) : Option (Int32 × hM) := (fX9_in T p1.toInt64 (1 : Int64) (8 : Int64) u0).bind fun q1 => if q1.1 = 0 then (some ((-1000000002 : Int32), q1.2)) else ((gti T q1.2 a0 9 13).bind fun x2 => if (x2 + p1) ≤ (400 : Int32) then (lt ((p1 - (1 : Int32))) fun x3 => fX9_feed_L35 T a0 p2 (fun (u10 : hM) => (gti T u10 a0 9 13).bind fun x11 => some (x11, u10)) 6000 x3 q1.2) else (some ((-1000000004 : Int32), q1.2)))
set_option maxRecDepth 100000 in
set_option maxHeartbeats 4000000 in
theorem wfX9_feed_L35 {c0 : Nat} {c2 : Int64} {ex : hM → Option (Int32 × hM)} {z : Int32 × hM} (hΓ : h_Γ E B T p s m args meth c cX9_feed 5 (some .int) RX9) (hex : ∀ (u9 : hM) (H9 : Heap) (L9 : List Loc) (ls : Array Slot), ex u9 = some z → h_W E B T s.heap u9 H9 L9 → lv_has ls 5 [(0, .ref (B + c0))] → W p l e (h_rm 1) s m args below meth c H9 L9 0 0 (h_Qi below E B T args s z) (F0 m 77 ls [])) : ∀ (n : Nat) (v4 : Int32) (u0 : hM) (H0 : Heap) (L0 : List Loc) (ls : Array Slot), fX9_feed_L35 T c0 c2 ex n v4 u0 = some z → h_W E B T s.heap u0 H0 L0 → lv_has ls 5 [(0, .ref (B + c0)), (2, .long c2), (4, .int v4)] → W p l e (h_rm 1) s m args below meth c H0 L0 0 0 (h_Qi below E B T args s z) (F0 m 35 ls []) := by
  obtain ⟨hx, hb, hr, hml, hts, hown, hlk, hX⟩ := id hΓ
  intro n
  induction n with
  | zero =>
    intro v4 u0 H0 L0 ls hf hw hl
    exact absurd (show (none : Option (Int32 × hM)) = some z from hf) (fun h => by cases h)
  | succ n ih =>
    intro v4 u0 H0 L0 ls hf hw hl
    rw [fX9_feed_L35] at hf
    refine lv_iload hx hb dX9_feed_35 (lv_at hl 2 rfl) ?_
    refine lv_if_lt (tgt := 77) hx hb dX9_feed_37 (by decide) (fun hc => ?_) (fun hc => ?_)
    · have hf := ifp hc hf
      exact hex  u0 _ _ _ hf hw (lv_sub hl [0] rfl)
    · have hf := ifn hc hf
      refine lv_aload_n hx hb dX9_feed_40 rfl (lv_at hl 0 rfl) ?_
      refine h_getr hf hx hb hts hown hX hw flX9_36 rfl dX9_feed_41 (fun a4 hf => ?_)
      refine lv_aload_n hx hb dX9_feed_44 rfl (lv_at hl 0 rfl) ?_
      refine h_geti hf hx hb hts hown hX hw flX9_100 rfl dX9_feed_45 (fun x5 hf => ?_)
      refine lv_lload_n hx hb dX9_feed_48 rfl (lv_at hl 1 rfl) ?_
      refine lv_bipush (v := 8) hx hb dX9_feed_49 (by decide) ?_
      refine lv_iload hx hb dX9_feed_51 (lv_at hl 2 rfl) ?_
      refine lv_imul hx hb dX9_feed_53 ?_
      refine lv_lshr hx hb dX9_feed_54 rfl ?_
      refine lv_ldc2 hx hb hown (hts _ klX9_104) dX9_feed_55 ?_
      refine lv_land hx hb dX9_feed_58 ?_
      refine lv_l2i hx hb dX9_feed_59 rfl ?_
      refine h_iast hf hx hb hX hw dX9_feed_60 (fun u6 H6 L6 hf hw => ?_)
      refine lv_aload_n hx hb dX9_feed_61 rfl (lv_at hl 0 rfl) ?_
      refine lv_dup hx hb dX9_feed_62 rfl ?_
      refine h_geti hf hx hb hts hown hX hw flX9_100 rfl dX9_feed_63 (fun x7 hf => ?_)
      refine lv_iconst (v := 1) hx hb dX9_feed_66 (by decide) ?_
      refine lv_iadd hx hb dX9_feed_67 ?_
      refine h_puti hf hx hb hts hown hX hw flX9_100 ⟨rfl, rfl⟩ dX9_feed_68 (fun u8 H8 L8 hf hw => ?_)
      refine h_iinc (k := 2) hf hx hb dX9_feed_71 hl rfl (by decide) (by decide) (fun x9 ls hf hl => ?_)
      have hl : lv_has ls 5 [(4, .int x9), (0, .ref (B + c0)), (2, .long c2)] := hl
      refine lv_goto (tgt := 35) hx hb dX9_feed_74 (by decide) ?_
      exact ih x9 u8 _ _ _ hf hw (lv_sub hl [1, 2, 0] rfl)
set_option maxRecDepth 100000 in
set_option maxHeartbeats 4000000 in
theorem wX9_feed {a0 : Nat} {p1 : Int32} {p2 : Int64} {u0 : hM} {z : Int32 × hM} {ls : Array Slot} (hΓ : h_Γ E B T p s m args meth c cX9_feed 5 (some .int) RX9) (hf : fX9_feed T a0 p1 p2 u0 = some z) (hw : h_W E B T s.heap u0 s.heap []) (hl : lv_has ls 5 [(0, .ref (B + a0)), (1, .int p1), (2, .long p2)]) : W p l e (h_rm 1) s m args below meth c s.heap [] 0 0 (h_Qi below E B T args s z) (F0 m 0 ls []) := by
  obtain ⟨hx, hb, hr, hml, hts, hown, hlk, hX⟩ := id hΓ
  unfold fX9_feed at hf
  refine lv_iload_n hx hb dX9_feed_0 rfl (lv_at hl 1 rfl) ?_
  refine lv_i2l hx hb dX9_feed_1 rfl ?_
  refine lv_lconst (v := 1) hx hb dX9_feed_2 (by decide) ?_
  refine lv_ldc2 hx hb hown (hts _ klX9_97) dX9_feed_3 ?_
  refine h_cSi (As := [.long p1.toInt64, .long (1 : Int64), .long (8 : Int64)]) (rest := []) hf hx hb hml hts hown hX hw myX9_in msX9_in lkX9_90 (fun q hq => c_X9_in l E B T p1.toInt64 (1 : Int64) (8 : Int64) u0 hq) ⟨Nat.le_of_ble_eq_true rfl, Nat.le_of_ble_eq_true rfl⟩ ⟨Nat.le_refl _, Nat.le_refl _⟩ rfl hl.1 rfl (Nat.le_of_ble_eq_true rfl) dX9_feed_6 (fun q1 H1 L1 hf hw => ?_)
  refine lv_if_ne (tgt := 15) hx hb dX9_feed_9 (by decide) (fun hc => ?_) (fun hc => ?_)
  · have hf := ifn hc hf
    refine lv_aload_n hx hb dX9_feed_15 rfl (lv_at hl 0 rfl) ?_
    refine h_geti hf hx hb hts hown hX hw flX9_100 rfl dX9_feed_16 (fun x2 hf => ?_)
    refine lv_iload_n hx hb dX9_feed_19 rfl (lv_at hl 1 rfl) ?_
    refine lv_iadd hx hb dX9_feed_20 ?_
    refine lv_sipush (v := 400) hx hb dX9_feed_21 (by decide) ?_
    refine lv_icmp_le (tgt := 30) hx hb dX9_feed_24 (by decide) (fun hc => ?_) (fun hc => ?_)
    · have hf := ifp hc hf
      refine lv_iload_n hx hb dX9_feed_30 rfl (lv_at hl 1 rfl) ?_
      refine lv_iconst (v := 1) hx hb dX9_feed_31 (by decide) ?_
      refine lv_isub hx hb dX9_feed_32 ?_
      refine h_nmi hf (fun x3 hf => ?_)
      refine lv_istore (lv' := [(4, .int x3), (0, .ref (B + a0)), (1, .int p1), (2, .long p2)]) hx hb dX9_feed_33 hl (by decide) rfl (fun ls hl => ?_)
      refine wfX9_feed_L35 hΓ ?_ 6000 x3 q1.2 _ _ _ hf hw (lv_sub hl [1, 3, 0] rfl)
      intro u10 H10 L10 ls hf hw hl
      refine lv_aload_n hx hb dX9_feed_77 rfl (lv_at hl 0 rfl) ?_
      refine h_geti hf hx hb hts hown hX hw flX9_100 rfl dX9_feed_78 (fun x11 hf => ?_)
      exact h_iret hf hx hb hr hlk hw dX9_feed_81
    · have hf := ifn hc hf
      refine lv_ldc hx hb hown (hts _ kcX9_103) dX9_feed_27 ?_
      exact h_iret hf hx hb hr hlk hw dX9_feed_29
  · have hf := ifp hc hf
    refine lv_ldc hx hb hown (hts _ kcX9_99) dX9_feed_12 ?_
    exact h_iret hf hx hb hr hlk hw dX9_feed_14
theorem c_X9_feed (l : Launch) (E : hE) (B : Nat) (T : hT) (a0 : Nat) (p1 : Int32) (p2 : Int64) (u0 : hM) {z : Int32 × hM} (hf : fX9_feed T a0 p1 p2 u0 = some z) : h_Ct l E B T yX9_feed cX9_feed 5 (some .int) 1 [.ref (B + a0), .int p1, .long p2] u0 z.2 (some (.int z.1)) := h_ofW (by decide) (Nat.le_of_ble_eq_true rfl) (fun p e s m below meth c ls hΓ hl hw => wX9_feed hΓ hf hw hl)
def fX9_here_L0 (T : hT) (c0 : Nat) (ex : hM → Option (Int32 × hM)) : Nat → hM → Option (Int32 × hM)
  | 0, _ => none
  | n + 1, u0 => (gti T u0 c0 9 15).bind fun x1 => (gti T u0 c0 9 13).bind fun x2 => if x2 ≤ x1 then (ex u0) else ((gtr T u0 c0 9 12).bind fun a3 => (gti T u0 c0 9 15).bind fun x4 => (ald 11 T u0 a3 x4).bind fun x5 => if x5 = (32 : Int32) then ((gti T u0 c0 9 15).bind fun x6 => (pti T u0 c0 9 15 (x6 + (1 : Int32))).bind fun u7 => fX9_here_L0 T c0 ex n u7) else (ex u0))
def fX9_here (T : hT) (a0 : Nat) (u0 : hM) : Option (Int32 × hM) := fX9_here_L0 T a0 (fun (u8 : hM) => (gti T u8 a0 9 15).bind fun x9 => (gti T u8 a0 9 13).bind fun x10 => if x10 ≤ x9 then (some ((-1 : Int32), u8)) else ((gtr T u8 a0 9 12).bind fun a11 => (gti T u8 a0 9 15).bind fun x12 => (ald 11 T u8 a11 x12).bind fun x13 => some (x13, u8))) 6000 u0
set_option maxRecDepth 100000 in
set_option maxHeartbeats 4000000 in
theorem wfX9_here_L0 {c0 : Nat} {ex : hM → Option (Int32 × hM)} {z : Int32 × hM} (hΓ : h_Γ E B T p s m args meth c cX9_here 1 (some .int) RX9) (hex : ∀ (u9 : hM) (H9 : Heap) (L9 : List Loc) (ls : Array Slot), ex u9 = some z → h_W E B T s.heap u9 H9 L9 → lv_has ls 1 [(0, .ref (B + c0))] → W p l e (h_rm 0) s m args below meth c H9 L9 0 0 (h_Qi below E B T args s z) (F0 m 38 ls [])) : ∀ (n : Nat) (u0 : hM) (H0 : Heap) (L0 : List Loc) (ls : Array Slot), fX9_here_L0 T c0 ex n u0 = some z → h_W E B T s.heap u0 H0 L0 → lv_has ls 1 [(0, .ref (B + c0))] → W p l e (h_rm 0) s m args below meth c H0 L0 0 0 (h_Qi below E B T args s z) (F0 m 0 ls []) := by
  obtain ⟨hx, hb, hr, hml, hts, hown, hlk, hX⟩ := id hΓ
  intro n
  induction n with
  | zero =>
    intro u0 H0 L0 ls hf hw hl
    exact absurd (show (none : Option (Int32 × hM)) = some z from hf) (fun h => by cases h)
  | succ n ih =>
    intro u0 H0 L0 ls hf hw hl
    rw [fX9_here_L0] at hf
    refine lv_aload_n hx hb dX9_here_0 rfl (lv_at hl 0 rfl) ?_
    refine h_geti hf hx hb hts hown hX hw flX9_106 rfl dX9_here_1 (fun x1 hf => ?_)
    refine lv_aload_n hx hb dX9_here_4 rfl (lv_at hl 0 rfl) ?_
    refine h_geti hf hx hb hts hown hX hw flX9_100 rfl dX9_here_5 (fun x2 hf => ?_)
    refine lv_icmp_ge (tgt := 38) hx hb dX9_here_8 (by decide) (fun hc => ?_) (fun hc => ?_)
    · have hf := ifp hc hf
      exact hex  u0 _ _ _ hf hw (lv_sub hl [0] rfl)
    · have hf := ifn hc hf
      refine lv_aload_n hx hb dX9_here_11 rfl (lv_at hl 0 rfl) ?_
      refine h_getr hf hx hb hts hown hX hw flX9_36 rfl dX9_here_12 (fun a3 hf => ?_)
      refine lv_aload_n hx hb dX9_here_15 rfl (lv_at hl 0 rfl) ?_
      refine h_geti hf hx hb hts hown hX hw flX9_106 rfl dX9_here_16 (fun x4 hf => ?_)
      refine h_iald hf hx hb hX hw dX9_here_19 (fun x5 hf => ?_)
      refine lv_bipush (v := 32) hx hb dX9_here_20 (by decide) ?_
      refine lv_icmp_ne (tgt := 38) hx hb dX9_here_22 (by decide) (fun hc => ?_) (fun hc => ?_)
      · have hf := ifn hc hf
        exact hex  u0 _ _ _ hf hw (lv_sub hl [0] rfl)
      · have hf := ifp hc hf
        refine lv_aload_n hx hb dX9_here_25 rfl (lv_at hl 0 rfl) ?_
        refine lv_dup hx hb dX9_here_26 rfl ?_
        refine h_geti hf hx hb hts hown hX hw flX9_106 rfl dX9_here_27 (fun x6 hf => ?_)
        refine lv_iconst (v := 1) hx hb dX9_here_30 (by decide) ?_
        refine lv_iadd hx hb dX9_here_31 ?_
        refine h_puti hf hx hb hts hown hX hw flX9_106 ⟨rfl, rfl⟩ dX9_here_32 (fun u7 H7 L7 hf hw => ?_)
        refine lv_goto (tgt := 0) hx hb dX9_here_35 (by decide) ?_
        exact ih  u7 _ _ _ hf hw (lv_sub hl [0] rfl)
set_option maxRecDepth 100000 in
set_option maxHeartbeats 4000000 in
theorem wX9_here {a0 : Nat} {u0 : hM} {z : Int32 × hM} {ls : Array Slot} (hΓ : h_Γ E B T p s m args meth c cX9_here 1 (some .int) RX9) (hf : fX9_here T a0 u0 = some z) (hw : h_W E B T s.heap u0 s.heap []) (hl : lv_has ls 1 [(0, .ref (B + a0))]) : W p l e (h_rm 0) s m args below meth c s.heap [] 0 0 (h_Qi below E B T args s z) (F0 m 0 ls []) := by
  obtain ⟨hx, hb, hr, hml, hts, hown, hlk, hX⟩ := id hΓ
  unfold fX9_here at hf
  refine wfX9_here_L0 hΓ ?_ 6000 u0 _ _ _ hf hw (lv_sub hl [0] rfl)
  intro u8 H8 L8 ls hf hw hl
  refine lv_aload_n hx hb dX9_here_38 rfl (lv_at hl 0 rfl) ?_
  refine h_geti hf hx hb hts hown hX hw flX9_106 rfl dX9_here_39 (fun x9 hf => ?_)
  refine lv_aload_n hx hb dX9_here_42 rfl (lv_at hl 0 rfl) ?_
  refine h_geti hf hx hb hts hown hX hw flX9_100 rfl dX9_here_43 (fun x10 hf => ?_)
  refine lv_icmp_ge (tgt := 61) hx hb dX9_here_46 (by decide) (fun hc => ?_) (fun hc => ?_)
  · have hf := ifp hc hf
    refine lv_iconst (v := -1) hx hb dX9_here_61 (by decide) ?_
    exact h_iret hf hx hb hr hlk hw dX9_here_62
  · have hf := ifn hc hf
    refine lv_aload_n hx hb dX9_here_49 rfl (lv_at hl 0 rfl) ?_
    refine h_getr hf hx hb hts hown hX hw flX9_36 rfl dX9_here_50 (fun a11 hf => ?_)
    refine lv_aload_n hx hb dX9_here_53 rfl (lv_at hl 0 rfl) ?_
    refine h_geti hf hx hb hts hown hX hw flX9_106 rfl dX9_here_54 (fun x12 hf => ?_)
    refine h_iald hf hx hb hX hw dX9_here_57 (fun x13 hf => ?_)
    refine lv_goto (tgt := 62) hx hb dX9_here_58 (by decide) ?_
    exact h_iret hf hx hb hr hlk hw dX9_here_62
theorem c_X9_here (l : Launch) (E : hE) (B : Nat) (T : hT) (a0 : Nat) (u0 : hM) {z : Int32 × hM} (hf : fX9_here T a0 u0 = some z) : h_Ct l E B T yX9_here cX9_here 1 (some .int) 0 [.ref (B + a0)] u0 z.2 (some (.int z.1)) := h_ofW (by decide) (Nat.le_of_ble_eq_true rfl) (fun p e s m below meth c ls hΓ hl hw => wX9_here hΓ hf hw hl)
def fX9_readWord_L18 (T : hT) (c0 : Nat) (ex : hM → Option (hM)) : Nat → hM → Option (hM)
  | 0, _ => none
  | n + 1, u0 => (gti T u0 c0 9 17).bind fun x5 => (gti T u0 c0 9 13).bind fun x6 => if x6 ≤ x5 then (ex u0) else ((gtr T u0 c0 9 12).bind fun a7 => (gti T u0 c0 9 17).bind fun x8 => (ald 11 T u0 a7 x8).bind fun x9 => (fX9_in T x9.toInt64 (97 : Int64) (122 : Int64) u0).bind fun q10 => if q10.1 = 0 then (ex q10.2) else ((gtl T q10.2 c0 9 16).bind fun x11 => lt (fun (x12 : Int64) (u13 : hM) => (ptl T u13 c0 9 16 x12).bind fun u14 => (gti T u14 c0 9 17).bind fun x15 => (pti T u14 c0 9 17 (x15 + (1 : Int32))).bind fun u16 => fX9_readWord_L18 T c0 ex n u16) fun J92 => if x11 ≤ (10000000000000 : Int64) then ((gtl T q10.2 c0 9 16).bind fun x17 => (gtr T q10.2 c0 9 12).bind fun a18 => (gti T q10.2 c0 9 17).bind fun x19 => (ald 11 T q10.2 a18 x19).bind fun x20 => J92 ((((27 : Int64) * x17) + x20.toInt64) - (96 : Int64)) q10.2) else (J92 (20000000000000 : Int64) q10.2)))
def fX9_readWord (T : hT) (a0 : Nat) (u0 : hM) : Option (hM) := (vc T a0 9 (fX9_here T a0 u0)).bind fun q1 => (ptl T q1.2 a0 9 16 (0 : Int64)).bind fun u2 => (gti T u2 a0 9 15).bind fun x3 => (pti T u2 a0 9 17 x3).bind fun u4 => fX9_readWord_L18 T a0 (fun (u21 : hM) => some u21) 6000 u4
set_option maxRecDepth 100000 in
set_option maxHeartbeats 4000000 in
theorem wfX9_readWord_L18 {c0 : Nat} {ex : hM → Option (hM)} {z : hM} (hΓ : h_Γ E B T p s m args meth c cX9_readWord 2 none RX9) (hex : ∀ (u9 : hM) (H9 : Heap) (L9 : List Loc) (ls : Array Slot), ex u9 = some z → h_W E B T s.heap u9 H9 L9 → lv_has ls 2 [] → W p l e (h_rm 1) s m args below meth c H9 L9 0 0 (h_Qv below E B T args s z) (F0 m 108 ls [])) : ∀ (n : Nat) (u0 : hM) (H0 : Heap) (L0 : List Loc) (ls : Array Slot), fX9_readWord_L18 T c0 ex n u0 = some z → h_W E B T s.heap u0 H0 L0 → lv_has ls 2 [(0, .ref (B + c0))] → W p l e (h_rm 1) s m args below meth c H0 L0 0 0 (h_Qv below E B T args s z) (F0 m 18 ls []) := by
  obtain ⟨hx, hb, hr, hml, hts, hown, hlk, hX⟩ := id hΓ
  intro n
  induction n with
  | zero =>
    intro u0 H0 L0 ls hf hw hl
    exact absurd (show (none : Option (hM)) = some z from hf) (fun h => by cases h)
  | succ n ih =>
    intro u0 H0 L0 ls hf hw hl
    rw [fX9_readWord_L18] at hf
    refine lv_aload_n hx hb dX9_readWord_18 rfl (lv_at hl 0 rfl) ?_
    refine h_geti hf hx hb hts hown hX hw flX9_117 rfl dX9_readWord_19 (fun x5 hf => ?_)
    refine lv_aload_n hx hb dX9_readWord_22 rfl (lv_at hl 0 rfl) ?_
    refine h_geti hf hx hb hts hown hX hw flX9_100 rfl dX9_readWord_23 (fun x6 hf => ?_)
    refine lv_icmp_ge (tgt := 108) hx hb dX9_readWord_26 (by decide) (fun hc => ?_) (fun hc => ?_)
    · have hf := ifp hc hf
      exact hex  u0 _ _ _ hf hw (lv_sub hl [] rfl)
    · have hf := ifn hc hf
      refine lv_aload_n hx hb dX9_readWord_29 rfl (lv_at hl 0 rfl) ?_
      refine h_getr hf hx hb hts hown hX hw flX9_36 rfl dX9_readWord_30 (fun a7 hf => ?_)
      refine lv_aload_n hx hb dX9_readWord_33 rfl (lv_at hl 0 rfl) ?_
      refine h_geti hf hx hb hts hown hX hw flX9_117 rfl dX9_readWord_34 (fun x8 hf => ?_)
      refine h_iald hf hx hb hX hw dX9_readWord_37 (fun x9 hf => ?_)
      refine lv_i2l hx hb dX9_readWord_38 rfl ?_
      refine lv_ldc2 hx hb hown (hts _ klX9_120) dX9_readWord_39 ?_
      refine lv_ldc2 hx hb hown (hts _ klX9_122) dX9_readWord_42 ?_
      refine h_cSi (As := [.long x9.toInt64, .long (97 : Int64), .long (122 : Int64)]) (rest := []) hf hx hb hml hts hown hX hw myX9_in msX9_in lkX9_90 (fun q hq => c_X9_in l E B T x9.toInt64 (97 : Int64) (122 : Int64) u0 hq) ⟨Nat.le_of_ble_eq_true rfl, Nat.le_of_ble_eq_true rfl⟩ ⟨Nat.le_refl _, Nat.le_refl _⟩ rfl hl.1 rfl (Nat.le_of_ble_eq_true rfl) dX9_readWord_45 (fun q10 H10 L10 hf hw => ?_)
      refine lv_if_eq (tgt := 108) hx hb dX9_readWord_48 (by decide) (fun hc => ?_) (fun hc => ?_)
      · have hf := ifp hc hf
        exact hex  q10.2 _ _ _ hf hw (lv_sub hl [] rfl)
      · have hf := ifn hc hf
        refine lv_aload_n hx hb dX9_readWord_51 rfl (lv_at hl 0 rfl) ?_
        refine lv_aload_n hx hb dX9_readWord_52 rfl (lv_at hl 0 rfl) ?_
        refine h_getl hf hx hb hts hown hX hw flX9_113 rfl dX9_readWord_53 (fun x11 hf => ?_)
        refine lv_ldc2 hx hb hown (hts _ klX9_124) dX9_readWord_56 ?_
        refine W.lcmp hx hb dX9_readWord_59 ?_
        obtain ⟨J92, eJ92, hf⟩ := h_lt hf
        have hJ92 : ∀ (x12 : Int64) (u13 : hM) (H13 : Heap) (L13 : List Loc) (ls : Array Slot), J92 x12 u13 = some z → h_W E B T s.heap u13 H13 L13 → lv_has ls 2 [(0, .ref (B + c0))] → W p l e (h_rm 1) s m args below meth c H13 L13 0 0 (h_Qv below E B T args s z) (F0 m 92 ls [.long x12, .ref (B + c0)]) := by
          intro x12 u13 H13 L13 ls hf hw hl
          rw [eJ92] at hf
          refine h_putl hf hx hb hts hown hX hw flX9_113 ⟨rfl, rfl⟩ dX9_readWord_92 (fun u14 H14 L14 hf hw => ?_)
          refine lv_aload_n hx hb dX9_readWord_95 rfl (lv_at hl 0 rfl) ?_
          refine lv_dup hx hb dX9_readWord_96 rfl ?_
          refine h_geti hf hx hb hts hown hX hw flX9_117 rfl dX9_readWord_97 (fun x15 hf => ?_)
          refine lv_iconst (v := 1) hx hb dX9_readWord_100 (by decide) ?_
          refine lv_iadd hx hb dX9_readWord_101 ?_
          refine h_puti hf hx hb hts hown hX hw flX9_117 ⟨rfl, rfl⟩ dX9_readWord_102 (fun u16 H16 L16 hf hw => ?_)
          refine lv_goto (tgt := 18) hx hb dX9_readWord_105 (by decide) ?_
          exact ih  u16 _ _ _ hf hw (lv_sub hl [0] rfl)
        clear eJ92
        refine lv_if_le (tgt := 69) hx hb dX9_readWord_60 (by decide) (fun hc => ?_) (fun hc => ?_)
        · have hc := (lg_cmp_le _ _).mp hc
          have hf := ifp hc hf
          refine lv_ldc2 hx hb hown (hts _ klX9_128) dX9_readWord_69 ?_
          refine lv_aload_n hx hb dX9_readWord_72 rfl (lv_at hl 0 rfl) ?_
          refine h_getl hf hx hb hts hown hX hw flX9_113 rfl dX9_readWord_73 (fun x17 hf => ?_)
          refine lv_lmul hx hb dX9_readWord_76 ?_
          refine lv_aload_n hx hb dX9_readWord_77 rfl (lv_at hl 0 rfl) ?_
          refine h_getr hf hx hb hts hown hX hw flX9_36 rfl dX9_readWord_78 (fun a18 hf => ?_)
          refine lv_aload_n hx hb dX9_readWord_81 rfl (lv_at hl 0 rfl) ?_
          refine h_geti hf hx hb hts hown hX hw flX9_117 rfl dX9_readWord_82 (fun x19 hf => ?_)
          refine h_iald hf hx hb hX hw dX9_readWord_85 (fun x20 hf => ?_)
          refine lv_i2l hx hb dX9_readWord_86 rfl ?_
          refine lv_ladd hx hb dX9_readWord_87 ?_
          refine lv_ldc2 hx hb hown (hts _ klX9_130) dX9_readWord_88 ?_
          refine lv_lsub hx hb dX9_readWord_91 ?_
          exact hJ92 ((((27 : Int64) * x17) + x20.toInt64) - (96 : Int64)) q10.2 _ _ _ hf hw (lv_sub hl [0] rfl)
        · have hc := (not_congr (lg_cmp_le _ _)).mp hc
          have hf := ifn hc hf
          refine lv_ldc2 hx hb hown (hts _ klX9_126) dX9_readWord_63 ?_
          refine lv_goto (tgt := 92) hx hb dX9_readWord_66 (by decide) ?_
          exact hJ92 (20000000000000 : Int64) q10.2 _ _ _ hf hw (lv_sub hl [0] rfl)
set_option maxRecDepth 100000 in
set_option maxHeartbeats 4000000 in
theorem wX9_readWord {a0 : Nat} {u0 : hM} {z : hM} {ls : Array Slot} (hΓ : h_Γ E B T p s m args meth c cX9_readWord 2 none RX9) (hf : fX9_readWord T a0 u0 = some z) (hw : h_W E B T s.heap u0 s.heap []) (hl : lv_has ls 2 [(0, .ref (B + a0))]) : W p l e (h_rm 1) s m args below meth c s.heap [] 0 0 (h_Qv below E B T args s z) (F0 m 0 ls []) := by
  obtain ⟨hx, hb, hr, hml, hts, hown, hlk, hX⟩ := id hΓ
  unfold fX9_readWord at hf
  refine lv_aload_n hx hb dX9_readWord_0 rfl (lv_at hl 0 rfl) ?_
  refine h_cVi (As := []) (rest := []) hf hx hb hml hts hown hX hw myX9_here miX9_here lkX9_109 ⟨rfl, by decide⟩ (fun q hq => c_X9_here l E B T a0 u0 hq) ⟨Nat.le_of_ble_eq_true rfl, Nat.le_of_ble_eq_true rfl⟩ ⟨Nat.le_refl _, Nat.le_refl _⟩ rfl hl.1 rfl (Nat.le_of_ble_eq_true rfl) dX9_readWord_1 (fun q1 H1 L1 hf hw => ?_)
  refine lv_istore_n (lv' := [(1, .int q1.1), (0, .ref (B + a0))]) hx hb dX9_readWord_4 rfl hl (by decide) rfl (fun ls hl => ?_)
  refine lv_aload_n hx hb dX9_readWord_5 rfl (lv_at hl 1 rfl) ?_
  refine lv_lconst (v := 0) hx hb dX9_readWord_6 (by decide) ?_
  refine h_putl hf hx hb hts hown hX hw flX9_113 ⟨rfl, rfl⟩ dX9_readWord_7 (fun u2 H2 L2 hf hw => ?_)
  refine lv_aload_n hx hb dX9_readWord_10 rfl (lv_at hl 1 rfl) ?_
  refine lv_aload_n hx hb dX9_readWord_11 rfl (lv_at hl 1 rfl) ?_
  refine h_geti hf hx hb hts hown hX hw flX9_106 rfl dX9_readWord_12 (fun x3 hf => ?_)
  refine h_puti hf hx hb hts hown hX hw flX9_117 ⟨rfl, rfl⟩ dX9_readWord_15 (fun u4 H4 L4 hf hw => ?_)
  refine wfX9_readWord_L18 hΓ ?_ 6000 u4 _ _ _ hf hw (lv_sub hl [1] rfl)
  intro u21 H21 L21 ls hf hw hl
  exact h_vret hf hx hb hr hlk hw dX9_readWord_108
theorem c_X9_readWord (l : Launch) (E : hE) (B : Nat) (T : hT) (a0 : Nat) (u0 : hM) {z : hM} (hf : fX9_readWord T a0 u0 = some z) : h_Ct l E B T yX9_readWord cX9_readWord 2 none 1 [.ref (B + a0)] u0 z none := h_ofW (by decide) (Nat.le_of_ble_eq_true rfl) (fun p e s m below meth c ls hΓ hl hw => wX9_readWord hΓ hf hw hl)
def fX9_code (T : hT) (p0 : Int32) (p1 : Int32) (p2 : Int32) (p3 : Int32) (u0 : hM) : Option (Int64 × hM) := some (((((27 : Int64) * ((((27 : Int64) * ((((27 : Int64) * (p0.toInt64 - (96 : Int64))) + p1.toInt64) - (96 : Int64))) + p2.toInt64) - (96 : Int64))) + p3.toInt64) - (96 : Int64)), u0)
set_option maxRecDepth 100000 in
set_option maxHeartbeats 4000000 in
theorem wX9_code {p0 : Int32} {p1 : Int32} {p2 : Int32} {p3 : Int32} {u0 : hM} {z : Int64 × hM} {ls : Array Slot} (hΓ : h_Γ E B T p s m args meth c cX9_code 4 (some .long) RX9) (hf : fX9_code T p0 p1 p2 p3 u0 = some z) (hw : h_W E B T s.heap u0 s.heap []) (hl : lv_has ls 4 [(0, .int p0), (1, .int p1), (2, .int p2), (3, .int p3)]) : W p l e (h_rm 0) s m args below meth c s.heap [] 0 0 (h_Ql below E B T args s z) (F0 m 0 ls []) := by
  obtain ⟨hx, hb, hr, hml, hts, hown, hlk, hX⟩ := id hΓ
  unfold fX9_code at hf
  refine lv_ldc2 hx hb hown (hts _ klX9_128) dX9_code_0 ?_
  refine lv_ldc2 hx hb hown (hts _ klX9_128) dX9_code_3 ?_
  refine lv_ldc2 hx hb hown (hts _ klX9_128) dX9_code_6 ?_
  refine lv_iload_n hx hb dX9_code_9 rfl (lv_at hl 0 rfl) ?_
  refine lv_i2l hx hb dX9_code_10 rfl ?_
  refine lv_ldc2 hx hb hown (hts _ klX9_130) dX9_code_11 ?_
  refine lv_lsub hx hb dX9_code_14 ?_
  refine lv_lmul hx hb dX9_code_15 ?_
  refine lv_iload_n hx hb dX9_code_16 rfl (lv_at hl 1 rfl) ?_
  refine lv_i2l hx hb dX9_code_17 rfl ?_
  refine lv_ladd hx hb dX9_code_18 ?_
  refine lv_ldc2 hx hb hown (hts _ klX9_130) dX9_code_19 ?_
  refine lv_lsub hx hb dX9_code_22 ?_
  refine lv_lmul hx hb dX9_code_23 ?_
  refine lv_iload_n hx hb dX9_code_24 rfl (lv_at hl 2 rfl) ?_
  refine lv_i2l hx hb dX9_code_25 rfl ?_
  refine lv_ladd hx hb dX9_code_26 ?_
  refine lv_ldc2 hx hb hown (hts _ klX9_130) dX9_code_27 ?_
  refine lv_lsub hx hb dX9_code_30 ?_
  refine lv_lmul hx hb dX9_code_31 ?_
  refine lv_iload_n hx hb dX9_code_32 rfl (lv_at hl 3 rfl) ?_
  refine lv_i2l hx hb dX9_code_33 rfl ?_
  refine lv_ladd hx hb dX9_code_34 ?_
  refine lv_ldc2 hx hb hown (hts _ klX9_130) dX9_code_35 ?_
  refine lv_lsub hx hb dX9_code_38 ?_
  exact h_lret hf hx hb hr hlk hw dX9_code_39
theorem c_X9_code (l : Launch) (E : hE) (B : Nat) (T : hT) (p0 : Int32) (p1 : Int32) (p2 : Int32) (p3 : Int32) (u0 : hM) {z : Int64 × hM} (hf : fX9_code T p0 p1 p2 p3 u0 = some z) : h_Ct l E B T yX9_code cX9_code 4 (some .long) 0 [.int p0, .int p1, .int p2, .int p3] u0 z.2 (some (.long z.1)) := h_ofW (by decide) (Nat.le_of_ble_eq_true rfl) (fun p e s m below meth c ls hΓ hl hw => wX9_code hΓ hf hw hl)
def fX9_longer (T : hT) (p0 : Int64) (p2 : Int32) (u0 : hM) : Option (Int64 × hM) := some (((((27 : Int64) * p0) + p2.toInt64) - (96 : Int64)), u0)
set_option maxRecDepth 100000 in
set_option maxHeartbeats 4000000 in
theorem wX9_longer {p0 : Int64} {p2 : Int32} {u0 : hM} {z : Int64 × hM} {ls : Array Slot} (hΓ : h_Γ E B T p s m args meth c cX9_longer 3 (some .long) RX9) (hf : fX9_longer T p0 p2 u0 = some z) (hw : h_W E B T s.heap u0 s.heap []) (hl : lv_has ls 3 [(0, .long p0), (2, .int p2)]) : W p l e (h_rm 0) s m args below meth c s.heap [] 0 0 (h_Ql below E B T args s z) (F0 m 0 ls []) := by
  obtain ⟨hx, hb, hr, hml, hts, hown, hlk, hX⟩ := id hΓ
  unfold fX9_longer at hf
  refine lv_ldc2 hx hb hown (hts _ klX9_128) dX9_longer_0 ?_
  refine lv_lload_n hx hb dX9_longer_3 rfl (lv_at hl 0 rfl) ?_
  refine lv_lmul hx hb dX9_longer_4 ?_
  refine lv_iload_n hx hb dX9_longer_5 rfl (lv_at hl 1 rfl) ?_
  refine lv_i2l hx hb dX9_longer_6 rfl ?_
  refine lv_ladd hx hb dX9_longer_7 ?_
  refine lv_ldc2 hx hb hown (hts _ klX9_130) dX9_longer_8 ?_
  refine lv_lsub hx hb dX9_longer_11 ?_
  exact h_lret hf hx hb hr hlk hw dX9_longer_12
theorem c_X9_longer (l : Launch) (E : hE) (B : Nat) (T : hT) (p0 : Int64) (p2 : Int32) (u0 : hM) {z : Int64 × hM} (hf : fX9_longer T p0 p2 u0 = some z) : h_Ct l E B T yX9_longer cX9_longer 3 (some .long) 0 [.long p0, .int p2] u0 z.2 (some (.long z.1)) := h_ofW (by decide) (Nat.le_of_ble_eq_true rfl) (fun p e s m below meth c ls hΓ hl hw => wX9_longer hΓ hf hw hl)
def fX9_fails (T : hT) (a0 : Nat) (p1 : Int32) (p2 : Int32) (u0 : hM) : Option (Int32 × hM) := (pti T u0 a0 9 14 p2).bind fun u1 => some (p1, u1)
set_option maxRecDepth 100000 in
set_option maxHeartbeats 4000000 in
theorem wX9_fails {a0 : Nat} {p1 : Int32} {p2 : Int32} {u0 : hM} {z : Int32 × hM} {ls : Array Slot} (hΓ : h_Γ E B T p s m args meth c cX9_fails 3 (some .int) RX9) (hf : fX9_fails T a0 p1 p2 u0 = some z) (hw : h_W E B T s.heap u0 s.heap []) (hl : lv_has ls 3 [(0, .ref (B + a0)), (1, .int p1), (2, .int p2)]) : W p l e (h_rm 0) s m args below meth c s.heap [] 0 0 (h_Qi below E B T args s z) (F0 m 0 ls []) := by
  obtain ⟨hx, hb, hr, hml, hts, hown, hlk, hX⟩ := id hΓ
  unfold fX9_fails at hf
  refine lv_aload_n hx hb dX9_fails_0 rfl (lv_at hl 0 rfl) ?_
  refine lv_iload_n hx hb dX9_fails_1 rfl (lv_at hl 2 rfl) ?_
  refine h_puti hf hx hb hts hown hX hw flX9_39 ⟨rfl, rfl⟩ dX9_fails_2 (fun u1 H1 L1 hf hw => ?_)
  refine lv_iload_n hx hb dX9_fails_5 rfl (lv_at hl 1 rfl) ?_
  exact h_iret hf hx hb hr hlk hw dX9_fails_6
theorem c_X9_fails (l : Launch) (E : hE) (B : Nat) (T : hT) (a0 : Nat) (p1 : Int32) (p2 : Int32) (u0 : hM) {z : Int32 × hM} (hf : fX9_fails T a0 p1 p2 u0 = some z) : h_Ct l E B T yX9_fails cX9_fails 3 (some .int) 0 [.ref (B + a0), .int p1, .int p2] u0 z.2 (some (.int z.1)) := h_ofW (by decide) (Nat.le_of_ble_eq_true rfl) (fun p e s m below meth c ls hΓ hl hw => wX9_fails hΓ hf hw hl)
def fX9_takeNumber_L42 (T : hT) (c0 : Nat) (ex : hM → Option (Int32 × hM)) : Nat → hM → Option (Int32 × hM)
  | 0, _ => none
  | n + 1, u0 => (gti T u0 c0 9 15).bind fun x6 => (gti T u0 c0 9 13).bind fun x7 => if x7 ≤ x6 then (ex u0) else ((gtr T u0 c0 9 12).bind fun a8 => (gti T u0 c0 9 15).bind fun x9 => (ald 11 T u0 a8 x9).bind fun x10 => (fX9_in T x10.toInt64 (48 : Int64) (57 : Int64) u0).bind fun q11 => if q11.1 = 0 then (ex q11.2) else ((gti T q11.2 c0 9 18).bind fun x12 => lt (fun (x13 : Int32) (u14 : hM) => (pti T u14 c0 9 18 x13).bind fun u15 => (gti T u15 c0 9 15).bind fun x16 => (pti T u15 c0 9 15 (x16 + (1 : Int32))).bind fun u17 => fX9_takeNumber_L42 T c0 ex n u17) fun J113 => if x12 ≤ (10000 : Int32) then ((gti T q11.2 c0 9 18).bind fun x18 => (gtr T q11.2 c0 9 12).bind fun a19 => (gti T q11.2 c0 9 15).bind fun x20 => (ald 11 T q11.2 a19 x20).bind fun x21 => J113 ((((10 : Int32) * x18) + x21) - (48 : Int32)) q11.2) else ((gti T q11.2 c0 9 18).bind fun x22 => J113 x22 q11.2)))
def fX9_takeNumber (T : hT) (a0 : Nat) (p1 : Int32) (p2 : Int32) (u0 : hM) : Option (Int32 × hM) := (vc T a0 9 (fX9_here T a0 u0)).bind fun q1 => (fX9_in T q1.1.toInt64 (48 : Int64) (57 : Int64) q1.2).bind fun q2 => if q2.1 = 0 then ((gti T q2.2 a0 9 15).bind fun x31 => (vc T a0 9 (fX9_fails T a0 (1 : Int32) x31 q2.2)).bind fun q32 => some (q32.1, q32.2)) else ((gti T q2.2 a0 9 15).bind fun x3 => (pti T q2.2 a0 9 19 x3).bind fun u4 => (pti T u4 a0 9 18 (0 : Int32)).bind fun u5 => fX9_takeNumber_L42 T a0 (fun (u23 : hM) => (gti T u23 a0 9 15).bind fun x24 => (gti T u23 a0 9 19).bind fun x25 => lt (fun (u26 : hM) => (gti T u26 a0 9 19).bind fun x27 => (vc T a0 9 (fX9_fails T a0 (2 : Int32) x27 u26)).bind fun q28 => some (q28.1, q28.2)) fun J157 => if (3 : Int32) < (x24 - x25) then (J157 u23) else ((gti T u23 a0 9 18).bind fun x29 => (fX9_in T x29.toInt64 p1.toInt64 p2.toInt64 u23).bind fun q30 => if q30.1 = 0 then (J157 q30.2) else (some ((0 : Int32), q30.2)))) 6000 u5)
set_option maxRecDepth 100000 in
set_option maxHeartbeats 4000000 in
theorem wfX9_takeNumber_L42 {c0 : Nat} {c1 : Int32} {c2 : Int32} {ex : hM → Option (Int32 × hM)} {z : Int32 × hM} (hΓ : h_Γ E B T p s m args meth c cX9_takeNumber 4 (some .int) RX9) (hex : ∀ (u9 : hM) (H9 : Heap) (L9 : List Loc) (ls : Array Slot), ex u9 = some z → h_W E B T s.heap u9 H9 L9 → lv_has ls 4 [(0, .ref (B + c0)), (1, .int c1), (2, .int c2)] → W p l e (h_rm 1) s m args below meth c H9 L9 0 0 (h_Qi below E B T args s z) (F0 m 129 ls [])) : ∀ (n : Nat) (u0 : hM) (H0 : Heap) (L0 : List Loc) (ls : Array Slot), fX9_takeNumber_L42 T c0 ex n u0 = some z → h_W E B T s.heap u0 H0 L0 → lv_has ls 4 [(0, .ref (B + c0)), (1, .int c1), (2, .int c2)] → W p l e (h_rm 1) s m args below meth c H0 L0 0 0 (h_Qi below E B T args s z) (F0 m 42 ls []) := by
  obtain ⟨hx, hb, hr, hml, hts, hown, hlk, hX⟩ := id hΓ
  intro n
  induction n with
  | zero =>
    intro u0 H0 L0 ls hf hw hl
    exact absurd (show (none : Option (Int32 × hM)) = some z from hf) (fun h => by cases h)
  | succ n ih =>
    intro u0 H0 L0 ls hf hw hl
    rw [fX9_takeNumber_L42] at hf
    refine lv_aload_n hx hb dX9_takeNumber_42 rfl (lv_at hl 0 rfl) ?_
    refine h_geti hf hx hb hts hown hX hw flX9_106 rfl dX9_takeNumber_43 (fun x6 hf => ?_)
    refine lv_aload_n hx hb dX9_takeNumber_46 rfl (lv_at hl 0 rfl) ?_
    refine h_geti hf hx hb hts hown hX hw flX9_100 rfl dX9_takeNumber_47 (fun x7 hf => ?_)
    refine lv_icmp_ge (tgt := 129) hx hb dX9_takeNumber_50 (by decide) (fun hc => ?_) (fun hc => ?_)
    · have hf := ifp hc hf
      exact hex  u0 _ _ _ hf hw (lv_sub hl [0, 1, 2] rfl)
    · have hf := ifn hc hf
      refine lv_aload_n hx hb dX9_takeNumber_53 rfl (lv_at hl 0 rfl) ?_
      refine h_getr hf hx hb hts hown hX hw flX9_36 rfl dX9_takeNumber_54 (fun a8 hf => ?_)
      refine lv_aload_n hx hb dX9_takeNumber_57 rfl (lv_at hl 0 rfl) ?_
      refine h_geti hf hx hb hts hown hX hw flX9_106 rfl dX9_takeNumber_58 (fun x9 hf => ?_)
      refine h_iald hf hx hb hX hw dX9_takeNumber_61 (fun x10 hf => ?_)
      refine lv_i2l hx hb dX9_takeNumber_62 rfl ?_
      refine lv_ldc2 hx hb hown (hts _ klX9_132) dX9_takeNumber_63 ?_
      refine lv_ldc2 hx hb hown (hts _ klX9_134) dX9_takeNumber_66 ?_
      refine h_cSi (As := [.long x10.toInt64, .long (48 : Int64), .long (57 : Int64)]) (rest := []) hf hx hb hml hts hown hX hw myX9_in msX9_in lkX9_90 (fun q hq => c_X9_in l E B T x10.toInt64 (48 : Int64) (57 : Int64) u0 hq) ⟨Nat.le_of_ble_eq_true rfl, Nat.le_of_ble_eq_true rfl⟩ ⟨Nat.le_refl _, Nat.le_refl _⟩ rfl hl.1 rfl (Nat.le_of_ble_eq_true rfl) dX9_takeNumber_69 (fun q11 H11 L11 hf hw => ?_)
      refine lv_if_eq (tgt := 129) hx hb dX9_takeNumber_72 (by decide) (fun hc => ?_) (fun hc => ?_)
      · have hf := ifp hc hf
        exact hex  q11.2 _ _ _ hf hw (lv_sub hl [0, 1, 2] rfl)
      · have hf := ifn hc hf
        refine lv_aload_n hx hb dX9_takeNumber_75 rfl (lv_at hl 0 rfl) ?_
        refine lv_aload_n hx hb dX9_takeNumber_76 rfl (lv_at hl 0 rfl) ?_
        refine h_geti hf hx hb hts hown hX hw flX9_143 rfl dX9_takeNumber_77 (fun x12 hf => ?_)
        refine lv_sipush (v := 10000) hx hb dX9_takeNumber_80 (by decide) ?_
        obtain ⟨J113, eJ113, hf⟩ := h_lt hf
        have hJ113 : ∀ (x13 : Int32) (u14 : hM) (H14 : Heap) (L14 : List Loc) (ls : Array Slot), J113 x13 u14 = some z → h_W E B T s.heap u14 H14 L14 → lv_has ls 4 [(0, .ref (B + c0)), (1, .int c1), (2, .int c2)] → W p l e (h_rm 1) s m args below meth c H14 L14 0 0 (h_Qi below E B T args s z) (F0 m 113 ls [.int x13, .ref (B + c0)]) := by
          intro x13 u14 H14 L14 ls hf hw hl
          rw [eJ113] at hf
          refine h_puti hf hx hb hts hown hX hw flX9_143 ⟨rfl, rfl⟩ dX9_takeNumber_113 (fun u15 H15 L15 hf hw => ?_)
          refine lv_aload_n hx hb dX9_takeNumber_116 rfl (lv_at hl 0 rfl) ?_
          refine lv_dup hx hb dX9_takeNumber_117 rfl ?_
          refine h_geti hf hx hb hts hown hX hw flX9_106 rfl dX9_takeNumber_118 (fun x16 hf => ?_)
          refine lv_iconst (v := 1) hx hb dX9_takeNumber_121 (by decide) ?_
          refine lv_iadd hx hb dX9_takeNumber_122 ?_
          refine h_puti hf hx hb hts hown hX hw flX9_106 ⟨rfl, rfl⟩ dX9_takeNumber_123 (fun u17 H17 L17 hf hw => ?_)
          refine lv_goto (tgt := 42) hx hb dX9_takeNumber_126 (by decide) ?_
          exact ih  u17 _ _ _ hf hw (lv_sub hl [0, 1, 2] rfl)
        clear eJ113
        refine lv_icmp_le (tgt := 93) hx hb dX9_takeNumber_83 (by decide) (fun hc => ?_) (fun hc => ?_)
        · have hf := ifp hc hf
          refine lv_bipush (v := 10) hx hb dX9_takeNumber_93 (by decide) ?_
          refine lv_aload_n hx hb dX9_takeNumber_95 rfl (lv_at hl 0 rfl) ?_
          refine h_geti hf hx hb hts hown hX hw flX9_143 rfl dX9_takeNumber_96 (fun x18 hf => ?_)
          refine lv_imul hx hb dX9_takeNumber_99 ?_
          refine lv_aload_n hx hb dX9_takeNumber_100 rfl (lv_at hl 0 rfl) ?_
          refine h_getr hf hx hb hts hown hX hw flX9_36 rfl dX9_takeNumber_101 (fun a19 hf => ?_)
          refine lv_aload_n hx hb dX9_takeNumber_104 rfl (lv_at hl 0 rfl) ?_
          refine h_geti hf hx hb hts hown hX hw flX9_106 rfl dX9_takeNumber_105 (fun x20 hf => ?_)
          refine h_iald hf hx hb hX hw dX9_takeNumber_108 (fun x21 hf => ?_)
          refine lv_iadd hx hb dX9_takeNumber_109 ?_
          refine lv_bipush (v := 48) hx hb dX9_takeNumber_110 (by decide) ?_
          refine lv_isub hx hb dX9_takeNumber_112 ?_
          exact hJ113 ((((10 : Int32) * x18) + x21) - (48 : Int32)) q11.2 _ _ _ hf hw (lv_sub hl [0, 1, 2] rfl)
        · have hf := ifn hc hf
          refine lv_aload_n hx hb dX9_takeNumber_86 rfl (lv_at hl 0 rfl) ?_
          refine h_geti hf hx hb hts hown hX hw flX9_143 rfl dX9_takeNumber_87 (fun x22 hf => ?_)
          refine lv_goto (tgt := 113) hx hb dX9_takeNumber_90 (by decide) ?_
          exact hJ113 x22 q11.2 _ _ _ hf hw (lv_sub hl [0, 1, 2] rfl)
set_option maxRecDepth 100000 in
set_option maxHeartbeats 4000000 in
theorem wX9_takeNumber {a0 : Nat} {p1 : Int32} {p2 : Int32} {u0 : hM} {z : Int32 × hM} {ls : Array Slot} (hΓ : h_Γ E B T p s m args meth c cX9_takeNumber 4 (some .int) RX9) (hf : fX9_takeNumber T a0 p1 p2 u0 = some z) (hw : h_W E B T s.heap u0 s.heap []) (hl : lv_has ls 4 [(0, .ref (B + a0)), (1, .int p1), (2, .int p2)]) : W p l e (h_rm 1) s m args below meth c s.heap [] 0 0 (h_Qi below E B T args s z) (F0 m 0 ls []) := by
  obtain ⟨hx, hb, hr, hml, hts, hown, hlk, hX⟩ := id hΓ
  unfold fX9_takeNumber at hf
  refine lv_aload_n hx hb dX9_takeNumber_0 rfl (lv_at hl 0 rfl) ?_
  refine h_cVi (As := []) (rest := []) hf hx hb hml hts hown hX hw myX9_here miX9_here lkX9_109 ⟨rfl, by decide⟩ (fun q hq => c_X9_here l E B T a0 u0 hq) ⟨Nat.le_of_ble_eq_true rfl, Nat.le_of_ble_eq_true rfl⟩ ⟨Nat.le_refl _, Nat.le_refl _⟩ rfl hl.1 rfl (Nat.le_of_ble_eq_true rfl) dX9_takeNumber_1 (fun q1 H1 L1 hf hw => ?_)
  refine lv_istore_n (lv' := [(3, .int q1.1), (0, .ref (B + a0)), (1, .int p1), (2, .int p2)]) hx hb dX9_takeNumber_4 rfl hl (by decide) rfl (fun ls hl => ?_)
  refine lv_iload_n hx hb dX9_takeNumber_5 rfl (lv_at hl 0 rfl) ?_
  refine lv_i2l hx hb dX9_takeNumber_6 rfl ?_
  refine lv_ldc2 hx hb hown (hts _ klX9_132) dX9_takeNumber_7 ?_
  refine lv_ldc2 hx hb hown (hts _ klX9_134) dX9_takeNumber_10 ?_
  refine h_cSi (As := [.long q1.1.toInt64, .long (48 : Int64), .long (57 : Int64)]) (rest := []) hf hx hb hml hts hown hX hw myX9_in msX9_in lkX9_90 (fun q hq => c_X9_in l E B T q1.1.toInt64 (48 : Int64) (57 : Int64) q1.2 hq) ⟨Nat.le_of_ble_eq_true rfl, Nat.le_of_ble_eq_true rfl⟩ ⟨Nat.le_refl _, Nat.le_refl _⟩ rfl hl.1 rfl (Nat.le_of_ble_eq_true rfl) dX9_takeNumber_13 (fun q2 H2 L2 hf hw => ?_)
  refine lv_if_ne (tgt := 29) hx hb dX9_takeNumber_16 (by decide) (fun hc => ?_) (fun hc => ?_)
  · have hf := ifn hc hf
    refine lv_aload_n hx hb dX9_takeNumber_29 rfl (lv_at hl 1 rfl) ?_
    refine lv_aload_n hx hb dX9_takeNumber_30 rfl (lv_at hl 1 rfl) ?_
    refine h_geti hf hx hb hts hown hX hw flX9_106 rfl dX9_takeNumber_31 (fun x3 hf => ?_)
    refine h_puti hf hx hb hts hown hX hw flX9_140 ⟨rfl, rfl⟩ dX9_takeNumber_34 (fun u4 H4 L4 hf hw => ?_)
    refine lv_aload_n hx hb dX9_takeNumber_37 rfl (lv_at hl 1 rfl) ?_
    refine lv_iconst (v := 0) hx hb dX9_takeNumber_38 (by decide) ?_
    refine h_puti hf hx hb hts hown hX hw flX9_143 ⟨rfl, rfl⟩ dX9_takeNumber_39 (fun u5 H5 L5 hf hw => ?_)
    refine wfX9_takeNumber_L42 hΓ ?_ 6000 u5 _ _ _ hf hw (lv_sub hl [1, 2, 3] rfl)
    intro u23 H23 L23 ls hf hw hl
    refine lv_aload_n hx hb dX9_takeNumber_129 rfl (lv_at hl 0 rfl) ?_
    refine h_geti hf hx hb hts hown hX hw flX9_106 rfl dX9_takeNumber_130 (fun x24 hf => ?_)
    refine lv_aload_n hx hb dX9_takeNumber_133 rfl (lv_at hl 0 rfl) ?_
    refine h_geti hf hx hb hts hown hX hw flX9_140 rfl dX9_takeNumber_134 (fun x25 hf => ?_)
    refine lv_isub hx hb dX9_takeNumber_137 ?_
    refine lv_iconst (v := 3) hx hb dX9_takeNumber_138 (by decide) ?_
    obtain ⟨J157, eJ157, hf⟩ := h_lt hf
    have hJ157 : ∀ (u26 : hM) (H26 : Heap) (L26 : List Loc) (ls : Array Slot), J157  u26 = some z → h_W E B T s.heap u26 H26 L26 → lv_has ls 4 [(0, .ref (B + a0))] → W p l e (h_rm 1) s m args below meth c H26 L26 0 0 (h_Qi below E B T args s z) (F0 m 157 ls []) := by
      intro  u26 H26 L26 ls hf hw hl
      rw [eJ157] at hf
      refine lv_aload_n hx hb dX9_takeNumber_157 rfl (lv_at hl 0 rfl) ?_
      refine lv_iconst (v := 2) hx hb dX9_takeNumber_158 (by decide) ?_
      refine lv_aload_n hx hb dX9_takeNumber_159 rfl (lv_at hl 0 rfl) ?_
      refine h_geti hf hx hb hts hown hX hw flX9_140 rfl dX9_takeNumber_160 (fun x27 hf => ?_)
      refine h_cVi (As := [.int (2 : Int32), .int x27]) (rest := []) hf hx hb hml hts hown hX hw myX9_fails miX9_fails lkX9_136 ⟨rfl, by decide⟩ (fun q hq => c_X9_fails l E B T a0 (2 : Int32) x27 u26 hq) ⟨Nat.le_of_ble_eq_true rfl, Nat.le_of_ble_eq_true rfl⟩ ⟨Nat.le_refl _, Nat.le_refl _⟩ rfl hl.1 rfl (Nat.le_of_ble_eq_true rfl) dX9_takeNumber_163 (fun q28 H28 L28 hf hw => ?_)
      refine lv_goto (tgt := 170) hx hb dX9_takeNumber_166 (by decide) ?_
      exact h_iret hf hx hb hr hlk hw dX9_takeNumber_170
    clear eJ157
    refine lv_icmp_gt (tgt := 157) hx hb dX9_takeNumber_139 (by decide) (fun hc => ?_) (fun hc => ?_)
    · have hf := ifp hc hf
      exact hJ157  u23 _ _ _ hf hw (lv_sub hl [0] rfl)
    · have hf := ifn hc hf
      refine lv_aload_n hx hb dX9_takeNumber_142 rfl (lv_at hl 0 rfl) ?_
      refine h_geti hf hx hb hts hown hX hw flX9_143 rfl dX9_takeNumber_143 (fun x29 hf => ?_)
      refine lv_i2l hx hb dX9_takeNumber_146 rfl ?_
      refine lv_iload_n hx hb dX9_takeNumber_147 rfl (lv_at hl 1 rfl) ?_
      refine lv_i2l hx hb dX9_takeNumber_148 rfl ?_
      refine lv_iload_n hx hb dX9_takeNumber_149 rfl (lv_at hl 2 rfl) ?_
      refine lv_i2l hx hb dX9_takeNumber_150 rfl ?_
      refine h_cSi (As := [.long x29.toInt64, .long p1.toInt64, .long p2.toInt64]) (rest := []) hf hx hb hml hts hown hX hw myX9_in msX9_in lkX9_90 (fun q hq => c_X9_in l E B T x29.toInt64 p1.toInt64 p2.toInt64 u23 hq) ⟨Nat.le_of_ble_eq_true rfl, Nat.le_of_ble_eq_true rfl⟩ ⟨Nat.le_refl _, Nat.le_refl _⟩ rfl hl.1 rfl (Nat.le_of_ble_eq_true rfl) dX9_takeNumber_151 (fun q30 H30 L30 hf hw => ?_)
      refine lv_if_ne (tgt := 169) hx hb dX9_takeNumber_154 (by decide) (fun hc => ?_) (fun hc => ?_)
      · have hf := ifn hc hf
        refine lv_iconst (v := 0) hx hb dX9_takeNumber_169 (by decide) ?_
        exact h_iret hf hx hb hr hlk hw dX9_takeNumber_170
      · have hf := ifp hc hf
        exact hJ157  q30.2 _ _ _ hf hw (lv_sub hl [0] rfl)
  · have hf := ifp hc hf
    refine lv_aload_n hx hb dX9_takeNumber_19 rfl (lv_at hl 1 rfl) ?_
    refine lv_iconst (v := 1) hx hb dX9_takeNumber_20 (by decide) ?_
    refine lv_aload_n hx hb dX9_takeNumber_21 rfl (lv_at hl 1 rfl) ?_
    refine h_geti hf hx hb hts hown hX hw flX9_106 rfl dX9_takeNumber_22 (fun x31 hf => ?_)
    refine h_cVi (As := [.int (1 : Int32), .int x31]) (rest := []) hf hx hb hml hts hown hX hw myX9_fails miX9_fails lkX9_136 ⟨rfl, by decide⟩ (fun q hq => c_X9_fails l E B T a0 (1 : Int32) x31 q2.2 hq) ⟨Nat.le_of_ble_eq_true rfl, Nat.le_of_ble_eq_true rfl⟩ ⟨Nat.le_refl _, Nat.le_refl _⟩ rfl hl.1 rfl (Nat.le_of_ble_eq_true rfl) dX9_takeNumber_25 (fun q32 H32 L32 hf hw => ?_)
    exact h_iret hf hx hb hr hlk hw dX9_takeNumber_28
theorem c_X9_takeNumber (l : Launch) (E : hE) (B : Nat) (T : hT) (a0 : Nat) (p1 : Int32) (p2 : Int32) (u0 : hM) {z : Int32 × hM} (hf : fX9_takeNumber T a0 p1 p2 u0 = some z) : h_Ct l E B T yX9_takeNumber cX9_takeNumber 4 (some .int) 1 [.ref (B + a0), .int p1, .int p2] u0 z.2 (some (.int z.1)) := h_ofW (by decide) (Nat.le_of_ble_eq_true rfl) (fun p e s m below meth c ls hΓ hl hw => wX9_takeNumber hΓ hf hw hl)
def fX9_into (T : hT) (a0 : Nat) (r1 : Nat) (p2 : Int32) (p3 : Int32) (p4 : Int32) (u0 : hM) : Option (Int32 × hM) := (vc T a0 9 (fX9_takeNumber T a0 p3 p4 u0)).bind fun q1 => (gti T q1.2 a0 9 18).bind fun x2 => (asti T q1.2 r1 p2 x2).bind fun u3 => some (q1.1, u3)
set_option maxRecDepth 100000 in
set_option maxHeartbeats 4000000 in
theorem wX9_into {a0 : Nat} {r1 : Nat} {p2 : Int32} {p3 : Int32} {p4 : Int32} {u0 : hM} {z : Int32 × hM} {ls : Array Slot} (hΓ : h_Γ E B T p s m args meth c cX9_into 6 (some .int) RX9) (hf : fX9_into T a0 r1 p2 p3 p4 u0 = some z) (hw : h_W E B T s.heap u0 s.heap []) (hl : lv_has ls 6 [(0, .ref (B + a0)), (1, .ref (B + r1)), (2, .int p2), (3, .int p3), (4, .int p4)]) : W p l e (h_rm 2) s m args below meth c s.heap [] 0 0 (h_Qi below E B T args s z) (F0 m 0 ls []) := by
  obtain ⟨hx, hb, hr, hml, hts, hown, hlk, hX⟩ := id hΓ
  unfold fX9_into at hf
  refine lv_aload_n hx hb dX9_into_0 rfl (lv_at hl 0 rfl) ?_
  refine lv_iload_n hx hb dX9_into_1 rfl (lv_at hl 3 rfl) ?_
  refine lv_iload hx hb dX9_into_2 (lv_at hl 4 rfl) ?_
  refine h_cVi (As := [.int p3, .int p4]) (rest := []) hf hx hb hml hts hown hX hw myX9_takeNumber miX9_takeNumber lkX9_146 ⟨rfl, by decide⟩ (fun q hq => c_X9_takeNumber l E B T a0 p3 p4 u0 hq) ⟨Nat.le_of_ble_eq_true rfl, Nat.le_of_ble_eq_true rfl⟩ ⟨Nat.le_refl _, Nat.le_refl _⟩ rfl hl.1 rfl (Nat.le_of_ble_eq_true rfl) dX9_into_4 (fun q1 H1 L1 hf hw => ?_)
  refine lv_istore (lv' := [(5, .int q1.1), (0, .ref (B + a0)), (1, .ref (B + r1)), (2, .int p2), (3, .int p3), (4, .int p4)]) hx hb dX9_into_7 hl (by decide) rfl (fun ls hl => ?_)
  refine lv_aload_n hx hb dX9_into_9 rfl (lv_at hl 2 rfl) ?_
  refine lv_iload_n hx hb dX9_into_10 rfl (lv_at hl 3 rfl) ?_
  refine lv_aload_n hx hb dX9_into_11 rfl (lv_at hl 1 rfl) ?_
  refine h_geti hf hx hb hts hown hX hw flX9_143 rfl dX9_into_12 (fun x2 hf => ?_)
  refine h_iast hf hx hb hX hw dX9_into_15 (fun u3 H3 L3 hf hw => ?_)
  refine lv_iload hx hb dX9_into_16 (lv_at hl 0 rfl) ?_
  exact h_iret hf hx hb hr hlk hw dX9_into_18
theorem c_X9_into (l : Launch) (E : hE) (B : Nat) (T : hT) (a0 : Nat) (r1 : Nat) (p2 : Int32) (p3 : Int32) (p4 : Int32) (u0 : hM) {z : Int32 × hM} (hf : fX9_into T a0 r1 p2 p3 p4 u0 = some z) : h_Ct l E B T yX9_into cX9_into 6 (some .int) 2 [.ref (B + a0), .ref (B + r1), .int p2, .int p3, .int p4] u0 z.2 (some (.int z.1)) := h_ofW (by decide) (Nat.le_of_ble_eq_true rfl) (fun p e s m below meth c ls hΓ hl hw => wX9_into hΓ hf hw hl)
def fX9_takeStop (T : hT) (a0 : Nat) (u0 : hM) : Option (Int32 × hM) := (vc T a0 9 (fX9_here T a0 u0)).bind fun q1 => if q1.1 = (59 : Int32) then ((gti T q1.2 a0 9 15).bind fun x2 => (pti T q1.2 a0 9 15 (x2 + (1 : Int32))).bind fun u3 => some ((0 : Int32), u3)) else ((gti T q1.2 a0 9 15).bind fun x4 => (vc T a0 9 (fX9_fails T a0 (1 : Int32) x4 q1.2)).bind fun q5 => some (q5.1, q5.2))
set_option maxRecDepth 100000 in
set_option maxHeartbeats 4000000 in
theorem wX9_takeStop {a0 : Nat} {u0 : hM} {z : Int32 × hM} {ls : Array Slot} (hΓ : h_Γ E B T p s m args meth c cX9_takeStop 1 (some .int) RX9) (hf : fX9_takeStop T a0 u0 = some z) (hw : h_W E B T s.heap u0 s.heap []) (hl : lv_has ls 1 [(0, .ref (B + a0))]) : W p l e (h_rm 1) s m args below meth c s.heap [] 0 0 (h_Qi below E B T args s z) (F0 m 0 ls []) := by
  obtain ⟨hx, hb, hr, hml, hts, hown, hlk, hX⟩ := id hΓ
  unfold fX9_takeStop at hf
  refine lv_aload_n hx hb dX9_takeStop_0 rfl (lv_at hl 0 rfl) ?_
  refine h_cVi (As := []) (rest := []) hf hx hb hml hts hown hX hw myX9_here miX9_here lkX9_109 ⟨rfl, by decide⟩ (fun q hq => c_X9_here l E B T a0 u0 hq) ⟨Nat.le_of_ble_eq_true rfl, Nat.le_of_ble_eq_true rfl⟩ ⟨Nat.le_refl _, Nat.le_refl _⟩ rfl hl.1 rfl (Nat.le_of_ble_eq_true rfl) dX9_takeStop_1 (fun q1 H1 L1 hf hw => ?_)
  refine lv_bipush (v := 59) hx hb dX9_takeStop_4 (by decide) ?_
  refine lv_icmp_eq (tgt := 19) hx hb dX9_takeStop_6 (by decide) (fun hc => ?_) (fun hc => ?_)
  · have hf := ifp hc hf
    refine lv_aload_n hx hb dX9_takeStop_19 rfl (lv_at hl 0 rfl) ?_
    refine lv_dup hx hb dX9_takeStop_20 rfl ?_
    refine h_geti hf hx hb hts hown hX hw flX9_106 rfl dX9_takeStop_21 (fun x2 hf => ?_)
    refine lv_iconst (v := 1) hx hb dX9_takeStop_24 (by decide) ?_
    refine lv_iadd hx hb dX9_takeStop_25 ?_
    refine h_puti hf hx hb hts hown hX hw flX9_106 ⟨rfl, rfl⟩ dX9_takeStop_26 (fun u3 H3 L3 hf hw => ?_)
    refine lv_iconst (v := 0) hx hb dX9_takeStop_29 (by decide) ?_
    exact h_iret hf hx hb hr hlk hw dX9_takeStop_30
  · have hf := ifn hc hf
    refine lv_aload_n hx hb dX9_takeStop_9 rfl (lv_at hl 0 rfl) ?_
    refine lv_iconst (v := 1) hx hb dX9_takeStop_10 (by decide) ?_
    refine lv_aload_n hx hb dX9_takeStop_11 rfl (lv_at hl 0 rfl) ?_
    refine h_geti hf hx hb hts hown hX hw flX9_106 rfl dX9_takeStop_12 (fun x4 hf => ?_)
    refine h_cVi (As := [.int (1 : Int32), .int x4]) (rest := []) hf hx hb hml hts hown hX hw myX9_fails miX9_fails lkX9_136 ⟨rfl, by decide⟩ (fun q hq => c_X9_fails l E B T a0 (1 : Int32) x4 q1.2 hq) ⟨Nat.le_of_ble_eq_true rfl, Nat.le_of_ble_eq_true rfl⟩ ⟨Nat.le_refl _, Nat.le_refl _⟩ rfl hl.1 rfl (Nat.le_of_ble_eq_true rfl) dX9_takeStop_15 (fun q5 H5 L5 hf hw => ?_)
    exact h_iret hf hx hb hr hlk hw dX9_takeStop_18
theorem c_X9_takeStop (l : Launch) (E : hE) (B : Nat) (T : hT) (a0 : Nat) (u0 : hM) {z : Int32 × hM} (hf : fX9_takeStop T a0 u0 = some z) : h_Ct l E B T yX9_takeStop cX9_takeStop 1 (some .int) 1 [.ref (B + a0)] u0 z.2 (some (.int z.1)) := h_ofW (by decide) (Nat.le_of_ble_eq_true rfl) (fun p e s m below meth c ls hΓ hl hw => wX9_takeStop hΓ hf hw hl)
def fX9_takeNote (T : hT) (a0 : Nat) (p1 : Int32) (u0 : hM) : Option (Int32 × hM) := (vc T a0 9 (fX9_readWord T a0 u0)).bind fun q1 => (gtl T q1 a0 9 16).bind fun x2 => (fX9_code T (110 : Int32) (111 : Int32) (116 : Int32) (101 : Int32) q1).bind fun q3 => lt (if x2 = q3.1 then (1 : Int32) else (0 : Int32)) fun x4 => lt (fun (u5 : hM) => lt (fun (u6 : hM) => (gti T u6 a0 9 17).bind fun x7 => (pti T u6 a0 9 15 x7).bind fun u8 => lt (if x4 = 0 then (1 : Int32) else (0 : Int32)) fun x9 => (ptz T u8 a0 9 23 x9).bind fun u10 => lt (fun (x11 : Int32) (u12 : hM) => if x11 ≤ 0 then ((vc T a0 9 (fX9_takeStop T a0 u12)).bind fun q13 => some (q13.1, q13.2)) else (some (x11, u12))) fun J158 => if x4 = 0 then (J158 (0 : Int32) u10) else ((gtr T u10 a0 9 21).bind fun a14 => (gti T u10 a0 9 20).bind fun x15 => (vc T a0 9 (fX9_into T a0 a14 x15 (0 : Int32) (36 : Int32) u10)).bind fun q16 => (gtr T q16.2 a0 9 22).bind fun a17 => (gti T q16.2 a0 9 20).bind fun x18 => (astz T q16.2 a17 x18 p1).bind fun u19 => (gti T u19 a0 9 20).bind fun x20 => (pti T u19 a0 9 20 (x20 + (1 : Int32))).bind fun u21 => J158 q16.1 u21)) fun J95 => if x4 = 0 then (J95 u5) else ((gti T u5 a0 9 20).bind fun x22 => if x22 = (40 : Int32) then ((gti T u5 a0 9 15).bind fun x23 => (vc T a0 9 (fX9_fails T a0 (3 : Int32) x23 u5)).bind fun q24 => some (q24.1, q24.2)) else (J95 u5))) fun J72 => if x4 = 0 then ((gtl T q3.2 a0 9 16).bind fun x25 => (fX9_code T (98 : Int32) (114 : Int32) (101 : Int32) (97 : Int32) q3.2).bind fun q26 => (fX9_longer T q26.1 (116 : Int32) q26.2).bind fun q27 => (fX9_longer T q27.1 (104 : Int32) q27.2).bind fun q28 => if x25 = q28.1 then (J72 q28.2) else ((gti T q28.2 a0 9 15).bind fun x29 => (vc T a0 9 (fX9_fails T a0 (1 : Int32) x29 q28.2)).bind fun q30 => some (q30.1, q30.2))) else (J72 q3.2)
set_option maxRecDepth 100000 in
set_option maxHeartbeats 4000000 in
theorem wX9_takeNote {a0 : Nat} {p1 : Int32} {u0 : hM} {z : Int32 × hM} {ls : Array Slot} (hΓ : h_Γ E B T p s m args meth c cX9_takeNote 4 (some .int) RX9) (hf : fX9_takeNote T a0 p1 u0 = some z) (hw : h_W E B T s.heap u0 s.heap []) (hl : lv_has ls 4 [(0, .ref (B + a0)), (1, .int p1)]) : W p l e (h_rm 3) s m args below meth c s.heap [] 0 0 (h_Qi below E B T args s z) (F0 m 0 ls []) := by
  obtain ⟨hx, hb, hr, hml, hts, hown, hlk, hX⟩ := id hΓ
  unfold fX9_takeNote at hf
  refine lv_aload_n hx hb dX9_takeNote_0 rfl (lv_at hl 0 rfl) ?_
  refine h_cVv (As := []) (rest := []) hf hx hb hml hts hown hX hw myX9_readWord miX9_readWord lkX9_149 ⟨rfl, by decide⟩ (fun q hq => c_X9_readWord l E B T a0 u0 hq) ⟨Nat.le_of_ble_eq_true rfl, Nat.le_of_ble_eq_true rfl⟩ ⟨Nat.le_refl _, Nat.le_refl _⟩ rfl hl.1 rfl (Nat.le_of_ble_eq_true rfl) dX9_takeNote_1 (fun q1 H1 L1 hf hw => ?_)
  refine lv_aload_n hx hb dX9_takeNote_4 rfl (lv_at hl 0 rfl) ?_
  refine h_getl hf hx hb hts hown hX hw flX9_113 rfl dX9_takeNote_5 (fun x2 hf => ?_)
  refine lv_bipush (v := 110) hx hb dX9_takeNote_8 (by decide) ?_
  refine lv_bipush (v := 111) hx hb dX9_takeNote_10 (by decide) ?_
  refine lv_bipush (v := 116) hx hb dX9_takeNote_12 (by decide) ?_
  refine lv_bipush (v := 101) hx hb dX9_takeNote_14 (by decide) ?_
  refine h_cSl (As := [.int (110 : Int32), .int (111 : Int32), .int (116 : Int32), .int (101 : Int32)]) (rest := [.long x2]) hf hx hb hml hts hown hX hw myX9_code msX9_code lkX9_152 (fun q hq => c_X9_code l E B T (110 : Int32) (111 : Int32) (116 : Int32) (101 : Int32) q1 hq) ⟨Nat.le_of_ble_eq_true rfl, Nat.le_of_ble_eq_true rfl⟩ ⟨Nat.le_refl _, Nat.le_refl _⟩ rfl hl.1 rfl (Nat.le_of_ble_eq_true rfl) dX9_takeNote_16 (fun q3 H3 L3 hf hw => ?_)
  refine W.lcmp hx hb dX9_takeNote_19 ?_
  refine h_ite (ls := ls) (jj := 28) (rest := []) hf (fun k1 k2 => ?_) (fun x4 hf => ?_)
  · refine lv_if_ne (tgt := 27) hx hb dX9_takeNote_20 (by decide) (fun hc => ?_) (fun hc => ?_)
    · have hc := (not_congr (lg_cmp_eq _ _)).mp hc
      refine lv_iconst (v := 0) hx hb dX9_takeNote_27 (by decide) ?_
      exact k2 hc
    · have hc := (lg_cmp_eq _ _).mp hc
      refine lv_iconst (v := 1) hx hb dX9_takeNote_23 (by decide) ?_
      refine lv_goto (tgt := 28) hx hb dX9_takeNote_24 (by decide) ?_
      exact k1 hc
  · refine lv_istore_n (lv' := [(2, .int x4), (0, .ref (B + a0)), (1, .int p1)]) hx hb dX9_takeNote_28 rfl hl (by decide) rfl (fun ls hl => ?_)
    refine lv_iload_n hx hb dX9_takeNote_29 rfl (lv_at hl 0 rfl) ?_
    obtain ⟨J72, eJ72, hf⟩ := h_lt hf
    have hJ72 : ∀ (u5 : hM) (H5 : Heap) (L5 : List Loc) (ls : Array Slot), J72  u5 = some z → h_W E B T s.heap u5 H5 L5 → lv_has ls 4 [(0, .ref (B + a0)), (1, .int p1), (2, .int x4)] → W p l e (h_rm 3) s m args below meth c H5 L5 0 0 (h_Qi below E B T args s z) (F0 m 72 ls []) := by
      intro  u5 H5 L5 ls hf hw hl
      rw [eJ72] at hf
      refine lv_iload_n hx hb dX9_takeNote_72 rfl (lv_at hl 2 rfl) ?_
      obtain ⟨J95, eJ95, hf⟩ := h_lt hf
      have hJ95 : ∀ (u6 : hM) (H6 : Heap) (L6 : List Loc) (ls : Array Slot), J95  u6 = some z → h_W E B T s.heap u6 H6 L6 → lv_has ls 4 [(0, .ref (B + a0)), (1, .int p1), (2, .int x4)] → W p l e (h_rm 3) s m args below meth c H6 L6 0 0 (h_Qi below E B T args s z) (F0 m 95 ls []) := by
        intro  u6 H6 L6 ls hf hw hl
        rw [eJ95] at hf
        refine lv_aload_n hx hb dX9_takeNote_95 rfl (lv_at hl 0 rfl) ?_
        refine lv_aload_n hx hb dX9_takeNote_96 rfl (lv_at hl 0 rfl) ?_
        refine h_geti hf hx hb hts hown hX hw flX9_117 rfl dX9_takeNote_97 (fun x7 hf => ?_)
        refine h_puti hf hx hb hts hown hX hw flX9_106 ⟨rfl, rfl⟩ dX9_takeNote_100 (fun u8 H8 L8 hf hw => ?_)
        refine lv_aload_n hx hb dX9_takeNote_103 rfl (lv_at hl 0 rfl) ?_
        refine lv_iload_n hx hb dX9_takeNote_104 rfl (lv_at hl 2 rfl) ?_
        refine h_ite (ls := ls) (jj := 113) (rest := [.ref (B + a0)]) hf (fun k1 k2 => ?_) (fun x9 hf => ?_)
        · refine lv_if_ne (tgt := 112) hx hb dX9_takeNote_105 (by decide) (fun hc => ?_) (fun hc => ?_)
          · refine lv_iconst (v := 0) hx hb dX9_takeNote_112 (by decide) ?_
            exact k2 hc
          · refine lv_iconst (v := 1) hx hb dX9_takeNote_108 (by decide) ?_
            refine lv_goto (tgt := 113) hx hb dX9_takeNote_109 (by decide) ?_
            exact k1 hc
        · refine h_putz hf hx hb hts hown hX hw flX9_163 ⟨rfl, rfl⟩ dX9_takeNote_113 (fun u10 H10 L10 hf hw => ?_)
          refine lv_iconst (v := 0) hx hb dX9_takeNote_116 (by decide) ?_
          refine lv_istore_n (lv' := [(3, .int (0 : Int32)), (0, .ref (B + a0)), (1, .int p1), (2, .int x4)]) hx hb dX9_takeNote_117 rfl hl (by decide) rfl (fun ls hl => ?_)
          refine lv_iload_n hx hb dX9_takeNote_118 rfl (lv_at hl 3 rfl) ?_
          obtain ⟨J158, eJ158, hf⟩ := h_lt hf
          have hJ158 : ∀ (x11 : Int32) (u12 : hM) (H12 : Heap) (L12 : List Loc) (ls : Array Slot), J158 x11 u12 = some z → h_W E B T s.heap u12 H12 L12 → lv_has ls 4 [(0, .ref (B + a0)), (3, .int x11)] → W p l e (h_rm 3) s m args below meth c H12 L12 0 0 (h_Qi below E B T args s z) (F0 m 158 ls []) := by
            intro x11 u12 H12 L12 ls hf hw hl
            rw [eJ158] at hf
            refine lv_iload_n hx hb dX9_takeNote_158 rfl (lv_at hl 1 rfl) ?_
            refine lv_if_le (tgt := 166) hx hb dX9_takeNote_159 (by decide) (fun hc => ?_) (fun hc => ?_)
            · have hf := ifp hc hf
              refine lv_aload_n hx hb dX9_takeNote_166 rfl (lv_at hl 0 rfl) ?_
              refine h_cVi (As := []) (rest := []) hf hx hb hml hts hown hX hw myX9_takeStop miX9_takeStop lkX9_171 ⟨rfl, by decide⟩ (fun q hq => c_X9_takeStop l E B T a0 u12 hq) ⟨Nat.le_of_ble_eq_true rfl, Nat.le_of_ble_eq_true rfl⟩ ⟨Nat.le_refl _, Nat.le_refl _⟩ rfl hl.1 rfl (Nat.le_of_ble_eq_true rfl) dX9_takeNote_167 (fun q13 H13 L13 hf hw => ?_)
              exact h_iret hf hx hb hr hlk hw dX9_takeNote_170
            · have hf := ifn hc hf
              refine lv_iload_n hx hb dX9_takeNote_162 rfl (lv_at hl 1 rfl) ?_
              refine lv_goto (tgt := 170) hx hb dX9_takeNote_163 (by decide) ?_
              exact h_iret hf hx hb hr hlk hw dX9_takeNote_170
          clear eJ158
          refine lv_if_eq (tgt := 158) hx hb dX9_takeNote_119 (by decide) (fun hc => ?_) (fun hc => ?_)
          · have hf := ifp hc hf
            exact hJ158 (0 : Int32) u10 _ _ _ hf hw (lv_sub hl [1, 0] rfl)
          · have hf := ifn hc hf
            refine lv_aload_n hx hb dX9_takeNote_122 rfl (lv_at hl 1 rfl) ?_
            refine lv_aload_n hx hb dX9_takeNote_123 rfl (lv_at hl 1 rfl) ?_
            refine h_getr hf hx hb hts hown hX hw flX9_42 rfl dX9_takeNote_124 (fun a14 hf => ?_)
            refine lv_aload_n hx hb dX9_takeNote_127 rfl (lv_at hl 1 rfl) ?_
            refine h_geti hf hx hb hts hown hX hw flX9_160 rfl dX9_takeNote_128 (fun x15 hf => ?_)
            refine lv_iconst (v := 0) hx hb dX9_takeNote_131 (by decide) ?_
            refine lv_bipush (v := 36) hx hb dX9_takeNote_132 (by decide) ?_
            refine h_cVi (As := [.ref (B + a14), .int x15, .int (0 : Int32), .int (36 : Int32)]) (rest := []) hf hx hb hml hts hown hX hw myX9_into miX9_into lkX9_167 ⟨rfl, by decide⟩ (fun q hq => c_X9_into l E B T a0 a14 x15 (0 : Int32) (36 : Int32) u10 hq) ⟨Nat.le_of_ble_eq_true rfl, Nat.le_of_ble_eq_true rfl⟩ ⟨Nat.le_refl _, Nat.le_refl _⟩ rfl hl.1 rfl (Nat.le_of_ble_eq_true rfl) dX9_takeNote_134 (fun q16 H16 L16 hf hw => ?_)
            refine lv_istore_n (lv' := [(3, .int q16.1), (0, .ref (B + a0)), (1, .int p1), (2, .int x4)]) hx hb dX9_takeNote_137 rfl hl (by decide) rfl (fun ls hl => ?_)
            refine lv_aload_n hx hb dX9_takeNote_138 rfl (lv_at hl 1 rfl) ?_
            refine h_getr hf hx hb hts hown hX hw flX9_45 rfl dX9_takeNote_139 (fun a17 hf => ?_)
            refine lv_aload_n hx hb dX9_takeNote_142 rfl (lv_at hl 1 rfl) ?_
            refine h_geti hf hx hb hts hown hX hw flX9_160 rfl dX9_takeNote_143 (fun x18 hf => ?_)
            refine lv_iload_n hx hb dX9_takeNote_146 rfl (lv_at hl 2 rfl) ?_
            refine h_zast hf hx hb hX hw dX9_takeNote_147 (fun u19 H19 L19 hf hw => ?_)
            refine lv_aload_n hx hb dX9_takeNote_148 rfl (lv_at hl 1 rfl) ?_
            refine lv_dup hx hb dX9_takeNote_149 rfl ?_
            refine h_geti hf hx hb hts hown hX hw flX9_160 rfl dX9_takeNote_150 (fun x20 hf => ?_)
            refine lv_iconst (v := 1) hx hb dX9_takeNote_153 (by decide) ?_
            refine lv_iadd hx hb dX9_takeNote_154 ?_
            refine h_puti hf hx hb hts hown hX hw flX9_160 ⟨rfl, rfl⟩ dX9_takeNote_155 (fun u21 H21 L21 hf hw => ?_)
            exact hJ158 q16.1 u21 _ _ _ hf hw (lv_sub hl [1, 0] rfl)
      clear eJ95
      refine lv_if_eq (tgt := 95) hx hb dX9_takeNote_73 (by decide) (fun hc => ?_) (fun hc => ?_)
      · have hf := ifp hc hf
        exact hJ95  u5 _ _ _ hf hw (lv_sub hl [0, 1, 2] rfl)
      · have hf := ifn hc hf
        refine lv_aload_n hx hb dX9_takeNote_76 rfl (lv_at hl 0 rfl) ?_
        refine h_geti hf hx hb hts hown hX hw flX9_160 rfl dX9_takeNote_77 (fun x22 hf => ?_)
        refine lv_bipush (v := 40) hx hb dX9_takeNote_80 (by decide) ?_
        refine lv_icmp_ne (tgt := 95) hx hb dX9_takeNote_82 (by decide) (fun hc => ?_) (fun hc => ?_)
        · have hf := ifn hc hf
          exact hJ95  u5 _ _ _ hf hw (lv_sub hl [0, 1, 2] rfl)
        · have hf := ifp hc hf
          refine lv_aload_n hx hb dX9_takeNote_85 rfl (lv_at hl 0 rfl) ?_
          refine lv_iconst (v := 3) hx hb dX9_takeNote_86 (by decide) ?_
          refine lv_aload_n hx hb dX9_takeNote_87 rfl (lv_at hl 0 rfl) ?_
          refine h_geti hf hx hb hts hown hX hw flX9_106 rfl dX9_takeNote_88 (fun x23 hf => ?_)
          refine h_cVi (As := [.int (3 : Int32), .int x23]) (rest := []) hf hx hb hml hts hown hX hw myX9_fails miX9_fails lkX9_136 ⟨rfl, by decide⟩ (fun q hq => c_X9_fails l E B T a0 (3 : Int32) x23 u5 hq) ⟨Nat.le_of_ble_eq_true rfl, Nat.le_of_ble_eq_true rfl⟩ ⟨Nat.le_refl _, Nat.le_refl _⟩ rfl hl.1 rfl (Nat.le_of_ble_eq_true rfl) dX9_takeNote_91 (fun q24 H24 L24 hf hw => ?_)
          exact h_iret hf hx hb hr hlk hw dX9_takeNote_94
    clear eJ72
    refine lv_if_ne (tgt := 72) hx hb dX9_takeNote_30 (by decide) (fun hc => ?_) (fun hc => ?_)
    · have hf := ifn hc hf
      exact hJ72  q3.2 _ _ _ hf hw (lv_sub hl [1, 2, 0] rfl)
    · have hf := ifp hc hf
      refine lv_aload_n hx hb dX9_takeNote_33 rfl (lv_at hl 1 rfl) ?_
      refine h_getl hf hx hb hts hown hX hw flX9_113 rfl dX9_takeNote_34 (fun x25 hf => ?_)
      refine lv_bipush (v := 98) hx hb dX9_takeNote_37 (by decide) ?_
      refine lv_bipush (v := 114) hx hb dX9_takeNote_39 (by decide) ?_
      refine lv_bipush (v := 101) hx hb dX9_takeNote_41 (by decide) ?_
      refine lv_bipush (v := 97) hx hb dX9_takeNote_43 (by decide) ?_
      refine h_cSl (As := [.int (98 : Int32), .int (114 : Int32), .int (101 : Int32), .int (97 : Int32)]) (rest := [.long x25]) hf hx hb hml hts hown hX hw myX9_code msX9_code lkX9_152 (fun q hq => c_X9_code l E B T (98 : Int32) (114 : Int32) (101 : Int32) (97 : Int32) q3.2 hq) ⟨Nat.le_of_ble_eq_true rfl, Nat.le_of_ble_eq_true rfl⟩ ⟨Nat.le_refl _, Nat.le_refl _⟩ rfl hl.1 rfl (Nat.le_of_ble_eq_true rfl) dX9_takeNote_45 (fun q26 H26 L26 hf hw => ?_)
      refine lv_bipush (v := 116) hx hb dX9_takeNote_48 (by decide) ?_
      refine h_cSl (As := [.long q26.1, .int (116 : Int32)]) (rest := [.long x25]) hf hx hb hml hts hown hX hw myX9_longer msX9_longer lkX9_156 (fun q hq => c_X9_longer l E B T q26.1 (116 : Int32) q26.2 hq) ⟨Nat.le_of_ble_eq_true rfl, Nat.le_of_ble_eq_true rfl⟩ ⟨Nat.le_refl _, Nat.le_refl _⟩ rfl hl.1 rfl (Nat.le_of_ble_eq_true rfl) dX9_takeNote_50 (fun q27 H27 L27 hf hw => ?_)
      refine lv_bipush (v := 104) hx hb dX9_takeNote_53 (by decide) ?_
      refine h_cSl (As := [.long q27.1, .int (104 : Int32)]) (rest := [.long x25]) hf hx hb hml hts hown hX hw myX9_longer msX9_longer lkX9_156 (fun q hq => c_X9_longer l E B T q27.1 (104 : Int32) q27.2 hq) ⟨Nat.le_of_ble_eq_true rfl, Nat.le_of_ble_eq_true rfl⟩ ⟨Nat.le_refl _, Nat.le_refl _⟩ rfl hl.1 rfl (Nat.le_of_ble_eq_true rfl) dX9_takeNote_55 (fun q28 H28 L28 hf hw => ?_)
      refine W.lcmp hx hb dX9_takeNote_58 ?_
      refine lv_if_eq (tgt := 72) hx hb dX9_takeNote_59 (by decide) (fun hc => ?_) (fun hc => ?_)
      · have hc := (lg_cmp_eq _ _).mp hc
        have hf := ifp hc hf
        exact hJ72  q28.2 _ _ _ hf hw (lv_sub hl [1, 2, 0] rfl)
      · have hc := (not_congr (lg_cmp_eq _ _)).mp hc
        have hf := ifn hc hf
        refine lv_aload_n hx hb dX9_takeNote_62 rfl (lv_at hl 1 rfl) ?_
        refine lv_iconst (v := 1) hx hb dX9_takeNote_63 (by decide) ?_
        refine lv_aload_n hx hb dX9_takeNote_64 rfl (lv_at hl 1 rfl) ?_
        refine h_geti hf hx hb hts hown hX hw flX9_106 rfl dX9_takeNote_65 (fun x29 hf => ?_)
        refine h_cVi (As := [.int (1 : Int32), .int x29]) (rest := []) hf hx hb hml hts hown hX hw myX9_fails miX9_fails lkX9_136 ⟨rfl, by decide⟩ (fun q hq => c_X9_fails l E B T a0 (1 : Int32) x29 q28.2 hq) ⟨Nat.le_of_ble_eq_true rfl, Nat.le_of_ble_eq_true rfl⟩ ⟨Nat.le_refl _, Nat.le_refl _⟩ rfl hl.1 rfl (Nat.le_of_ble_eq_true rfl) dX9_takeNote_68 (fun q30 H30 L30 hf hw => ?_)
        exact h_iret hf hx hb hr hlk hw dX9_takeNote_71
theorem c_X9_takeNote (l : Launch) (E : hE) (B : Nat) (T : hT) (a0 : Nat) (p1 : Int32) (u0 : hM) {z : Int32 × hM} (hf : fX9_takeNote T a0 p1 u0 = some z) : h_Ct l E B T yX9_takeNote cX9_takeNote 4 (some .int) 3 [.ref (B + a0), .int p1] u0 z.2 (some (.int z.1)) := h_ofW (by decide) (Nat.le_of_ble_eq_true rfl) (fun p e s m below meth c ls hΓ hl hw => wX9_takeNote hΓ hf hw hl)
def fX9_endSong (T : hT) (a0 : Nat) (u0 : hM) : Option (hM) := (pti T u0 a0 9 9 (-1 : Int32)).bind fun u1 => (pti T u1 a0 9 35 (0 : Int32)).bind fun u2 => (gtr T u2 a0 9 38).bind fun a3 => (astz T u2 a3 (0 : Int32) (0 : Int32)).bind fun u4 => (gtr T u4 a0 9 38).bind fun a5 => (astz T u4 a5 (1 : Int32) (0 : Int32)).bind fun u6 => some u6
set_option maxRecDepth 100000 in
set_option maxHeartbeats 4000000 in
theorem wX9_endSong {a0 : Nat} {u0 : hM} {z : hM} {ls : Array Slot} (hΓ : h_Γ E B T p s m args meth c cX9_endSong 1 none RX9) (hf : fX9_endSong T a0 u0 = some z) (hw : h_W E B T s.heap u0 s.heap []) (hl : lv_has ls 1 [(0, .ref (B + a0))]) : W p l e (h_rm 0) s m args below meth c s.heap [] 0 0 (h_Qv below E B T args s z) (F0 m 0 ls []) := by
  obtain ⟨hx, hb, hr, hml, hts, hown, hlk, hX⟩ := id hΓ
  unfold fX9_endSong at hf
  refine lv_aload_n hx hb dX9_endSong_0 rfl (lv_at hl 0 rfl) ?_
  refine lv_iconst (v := -1) hx hb dX9_endSong_1 (by decide) ?_
  refine h_puti hf hx hb hts hown hX hw flX9_29 ⟨rfl, rfl⟩ dX9_endSong_2 (fun u1 H1 L1 hf hw => ?_)
  refine lv_aload_n hx hb dX9_endSong_5 rfl (lv_at hl 0 rfl) ?_
  refine lv_iconst (v := 0) hx hb dX9_endSong_6 (by decide) ?_
  refine h_puti hf hx hb hts hown hX hw flX9_184 ⟨rfl, rfl⟩ dX9_endSong_7 (fun u2 H2 L2 hf hw => ?_)
  refine lv_aload_n hx hb dX9_endSong_10 rfl (lv_at hl 0 rfl) ?_
  refine h_getr hf hx hb hts hown hX hw flX9_84 rfl dX9_endSong_11 (fun a3 hf => ?_)
  refine lv_iconst (v := 0) hx hb dX9_endSong_14 (by decide) ?_
  refine lv_iconst (v := 0) hx hb dX9_endSong_15 (by decide) ?_
  refine h_zast hf hx hb hX hw dX9_endSong_16 (fun u4 H4 L4 hf hw => ?_)
  refine lv_aload_n hx hb dX9_endSong_17 rfl (lv_at hl 0 rfl) ?_
  refine h_getr hf hx hb hts hown hX hw flX9_84 rfl dX9_endSong_18 (fun a5 hf => ?_)
  refine lv_iconst (v := 1) hx hb dX9_endSong_21 (by decide) ?_
  refine lv_iconst (v := 0) hx hb dX9_endSong_22 (by decide) ?_
  refine h_zast hf hx hb hX hw dX9_endSong_23 (fun u6 H6 L6 hf hw => ?_)
  exact h_vret hf hx hb hr hlk hw dX9_endSong_24
theorem c_X9_endSong (l : Launch) (E : hE) (B : Nat) (T : hT) (a0 : Nat) (u0 : hM) {z : hM} (hf : fX9_endSong T a0 u0 = some z) : h_Ct l E B T yX9_endSong cX9_endSong 1 none 0 [.ref (B + a0)] u0 z none := h_ofW (by decide) (Nat.le_of_ble_eq_true rfl) (fun p e s m below meth c ls hΓ hl hw => wX9_endSong hΓ hf hw hl)
def fX9_tune_L19 (T : hT) (c0 : Nat) (ex : Int32 → hM → Option (Int32 × hM)) : Nat → Int32 → Int32 → hM → Option (Int32 × hM)
  | 0, _, _, _ => none
  | n + 1, v1, v2, u0 => if v1 = 0 then ((vc T c0 9 (fX9_here T c0 u0)).bind fun q4 => if q4.1 < 0 then (ex v1 q4.2) else ((vc T c0 9 (fX9_takeNote T c0 v2 q4.2)).bind fun q5 => (gti T q5.2 c0 9 23).bind fun x6 => fX9_tune_L19 T c0 ex n q5.1 x6 q5.2)) else (ex v1 u0)
def fX9_tune_L68 (T : hT) (c0 : Nat) (ex : hM → Option (Int32 × hM)) : Nat → Int32 → hM → Option (Int32 × hM)
  | 0, _, _ => none
  | n + 1, v3, u0 => if (40 : Int32) ≤ v3 then (ex u0) else ((gtr T u0 c0 9 1).bind fun a12 => (gtr T u0 c0 9 21).bind fun a13 => (ald 11 T u0 a13 v3).bind fun x14 => (asti T u0 a12 v3 ((100 : Int32) * x14)).bind fun u15 => (gtr T u15 c0 9 2).bind fun a16 => (gtr T u15 c0 9 22).bind fun a17 => (ald 13 T u15 a17 v3).bind fun x18 => (astz T u15 a16 v3 x18).bind fun u19 => lt (v3 + (1 : Int32)) fun x20 => fX9_tune_L68 T c0 ex n x20 u19)
def fX9_tune (T : hT) (a0 : Nat) (u0 : hM) : Option (Int32 × hM) := (pti T u0 a0 9 14 (-1 : Int32)).bind fun u1 => (pti T u1 a0 9 15 (0 : Int32)).bind fun u2 => (pti T u2 a0 9 20 (0 : Int32)).bind fun u3 => fX9_tune_L19 T a0 (fun (x7 : Int32) (u8 : hM) => (pti T u8 a0 9 13 (0 : Int32)).bind fun u9 => if x7 ≤ 0 then ((gti T u9 a0 9 20).bind fun x10 => (pti T u9 a0 9 0 x10).bind fun u11 => fX9_tune_L68 T a0 (fun (u21 : hM) => (vc T a0 9 (fX9_endSong T a0 u21)).bind fun q22 => (gti T q22 a0 9 0).bind fun x23 => some (x23, q22)) 6000 (0 : Int32) u11) else (some (((-10 : Int32) - x7), u9))) 6000 (0 : Int32) (0 : Int32) u3
set_option maxRecDepth 100000 in
set_option maxHeartbeats 4000000 in
theorem wfX9_tune_L19 {c0 : Nat} {ex : Int32 → hM → Option (Int32 × hM)} {z : Int32 × hM} (hΓ : h_Γ E B T p s m args meth c cX9_tune 4 (some .int) RX9) (hex : ∀ (y1 : Int32) (u9 : hM) (H9 : Heap) (L9 : List Loc) (ls : Array Slot), ex y1 u9 = some z → h_W E B T s.heap u9 H9 L9 → lv_has ls 4 [(0, .ref (B + c0)), (1, .int y1)] → W p l e (h_rm 4) s m args below meth c H9 L9 0 0 (h_Qi below E B T args s z) (F0 m 44 ls [])) : ∀ (n : Nat) (v1 : Int32) (v2 : Int32) (u0 : hM) (H0 : Heap) (L0 : List Loc) (ls : Array Slot), fX9_tune_L19 T c0 ex n v1 v2 u0 = some z → h_W E B T s.heap u0 H0 L0 → lv_has ls 4 [(0, .ref (B + c0)), (1, .int v1), (2, .int v2)] → W p l e (h_rm 4) s m args below meth c H0 L0 0 0 (h_Qi below E B T args s z) (F0 m 19 ls []) := by
  obtain ⟨hx, hb, hr, hml, hts, hown, hlk, hX⟩ := id hΓ
  intro n
  induction n with
  | zero =>
    intro v1 v2 u0 H0 L0 ls hf hw hl
    exact absurd (show (none : Option (Int32 × hM)) = some z from hf) (fun h => by cases h)
  | succ n ih =>
    intro v1 v2 u0 H0 L0 ls hf hw hl
    rw [fX9_tune_L19] at hf
    refine lv_iload_n hx hb dX9_tune_19 rfl (lv_at hl 1 rfl) ?_
    refine lv_if_ne (tgt := 44) hx hb dX9_tune_20 (by decide) (fun hc => ?_) (fun hc => ?_)
    · have hf := ifn hc hf
      exact hex v1 u0 _ _ _ hf hw (lv_sub hl [0, 1] rfl)
    · have hf := ifp hc hf
      refine lv_aload_n hx hb dX9_tune_23 rfl (lv_at hl 0 rfl) ?_
      refine h_cVi (As := []) (rest := []) hf hx hb hml hts hown hX hw myX9_here miX9_here lkX9_109 ⟨rfl, by decide⟩ (fun q hq => c_X9_here l E B T c0 u0 hq) ⟨Nat.le_of_ble_eq_true rfl, Nat.le_of_ble_eq_true rfl⟩ ⟨Nat.le_refl _, Nat.le_refl _⟩ rfl hl.1 rfl (Nat.le_of_ble_eq_true rfl) dX9_tune_24 (fun q4 H4 L4 hf hw => ?_)
      refine lv_if_lt (tgt := 44) hx hb dX9_tune_27 (by decide) (fun hc => ?_) (fun hc => ?_)
      · have hf := ifp hc hf
        exact hex v1 q4.2 _ _ _ hf hw (lv_sub hl [0, 1] rfl)
      · have hf := ifn hc hf
        refine lv_aload_n hx hb dX9_tune_30 rfl (lv_at hl 0 rfl) ?_
        refine lv_iload_n hx hb dX9_tune_31 rfl (lv_at hl 2 rfl) ?_
        refine h_cVi (As := [.int v2]) (rest := []) hf hx hb hml hts hown hX hw myX9_takeNote miX9_takeNote lkX9_174 ⟨rfl, by decide⟩ (fun q hq => c_X9_takeNote l E B T c0 v2 q4.2 hq) ⟨Nat.le_of_ble_eq_true rfl, Nat.le_of_ble_eq_true rfl⟩ ⟨Nat.le_refl _, Nat.le_refl _⟩ rfl hl.1 rfl (Nat.le_of_ble_eq_true rfl) dX9_tune_32 (fun q5 H5 L5 hf hw => ?_)
        refine lv_istore_n (lv' := [(1, .int q5.1), (0, .ref (B + c0)), (2, .int v2)]) hx hb dX9_tune_35 rfl hl (by decide) rfl (fun ls hl => ?_)
        refine lv_aload_n hx hb dX9_tune_36 rfl (lv_at hl 1 rfl) ?_
        refine h_geti hf hx hb hts hown hX hw flX9_163 rfl dX9_tune_37 (fun x6 hf => ?_)
        refine lv_istore_n (lv' := [(2, .int x6), (1, .int q5.1), (0, .ref (B + c0))]) hx hb dX9_tune_40 rfl hl (by decide) rfl (fun ls hl => ?_)
        refine lv_goto (tgt := 19) hx hb dX9_tune_41 (by decide) ?_
        exact ih q5.1 x6 q5.2 _ _ _ hf hw (lv_sub hl [2, 1, 0] rfl)
set_option maxRecDepth 100000 in
set_option maxHeartbeats 4000000 in
theorem wfX9_tune_L68 {c0 : Nat} {ex : hM → Option (Int32 × hM)} {z : Int32 × hM} (hΓ : h_Γ E B T p s m args meth c cX9_tune 4 (some .int) RX9) (hex : ∀ (u9 : hM) (H9 : Heap) (L9 : List Loc) (ls : Array Slot), ex u9 = some z → h_W E B T s.heap u9 H9 L9 → lv_has ls 4 [(0, .ref (B + c0))] → W p l e (h_rm 4) s m args below meth c H9 L9 0 0 (h_Qi below E B T args s z) (F0 m 107 ls [])) : ∀ (n : Nat) (v3 : Int32) (u0 : hM) (H0 : Heap) (L0 : List Loc) (ls : Array Slot), fX9_tune_L68 T c0 ex n v3 u0 = some z → h_W E B T s.heap u0 H0 L0 → lv_has ls 4 [(0, .ref (B + c0)), (3, .int v3)] → W p l e (h_rm 4) s m args below meth c H0 L0 0 0 (h_Qi below E B T args s z) (F0 m 68 ls []) := by
  obtain ⟨hx, hb, hr, hml, hts, hown, hlk, hX⟩ := id hΓ
  intro n
  induction n with
  | zero =>
    intro v3 u0 H0 L0 ls hf hw hl
    exact absurd (show (none : Option (Int32 × hM)) = some z from hf) (fun h => by cases h)
  | succ n ih =>
    intro v3 u0 H0 L0 ls hf hw hl
    rw [fX9_tune_L68] at hf
    refine lv_iload_n hx hb dX9_tune_68 rfl (lv_at hl 1 rfl) ?_
    refine lv_bipush (v := 40) hx hb dX9_tune_69 (by decide) ?_
    refine lv_icmp_ge (tgt := 107) hx hb dX9_tune_71 (by decide) (fun hc => ?_) (fun hc => ?_)
    · have hf := ifp hc hf
      exact hex  u0 _ _ _ hf hw (lv_sub hl [0] rfl)
    · have hf := ifn hc hf
      refine lv_aload_n hx hb dX9_tune_74 rfl (lv_at hl 0 rfl) ?_
      refine h_getr hf hx hb hts hown hX hw flX9_7 rfl dX9_tune_75 (fun a12 hf => ?_)
      refine lv_iload_n hx hb dX9_tune_78 rfl (lv_at hl 1 rfl) ?_
      refine lv_bipush (v := 100) hx hb dX9_tune_79 (by decide) ?_
      refine lv_aload_n hx hb dX9_tune_81 rfl (lv_at hl 0 rfl) ?_
      refine h_getr hf hx hb hts hown hX hw flX9_42 rfl dX9_tune_82 (fun a13 hf => ?_)
      refine lv_iload_n hx hb dX9_tune_85 rfl (lv_at hl 1 rfl) ?_
      refine h_iald hf hx hb hX hw dX9_tune_86 (fun x14 hf => ?_)
      refine lv_imul hx hb dX9_tune_87 ?_
      refine h_iast hf hx hb hX hw dX9_tune_88 (fun u15 H15 L15 hf hw => ?_)
      refine lv_aload_n hx hb dX9_tune_89 rfl (lv_at hl 0 rfl) ?_
      refine h_getr hf hx hb hts hown hX hw flX9_13 rfl dX9_tune_90 (fun a16 hf => ?_)
      refine lv_iload_n hx hb dX9_tune_93 rfl (lv_at hl 1 rfl) ?_
      refine lv_aload_n hx hb dX9_tune_94 rfl (lv_at hl 0 rfl) ?_
      refine h_getr hf hx hb hts hown hX hw flX9_45 rfl dX9_tune_95 (fun a17 hf => ?_)
      refine lv_iload_n hx hb dX9_tune_98 rfl (lv_at hl 1 rfl) ?_
      refine h_zald hf hx hb hX hw dX9_tune_99 (fun x18 hf => ?_)
      refine h_zast hf hx hb hX hw dX9_tune_100 (fun u19 H19 L19 hf hw => ?_)
      refine h_iinc (k := 1) hf hx hb dX9_tune_101 hl rfl (by decide) (by decide) (fun x20 ls hf hl => ?_)
      have hl : lv_has ls 4 [(3, .int x20), (0, .ref (B + c0))] := hl
      refine lv_goto (tgt := 68) hx hb dX9_tune_104 (by decide) ?_
      exact ih x20 u19 _ _ _ hf hw (lv_sub hl [1, 0] rfl)
set_option maxRecDepth 100000 in
set_option maxHeartbeats 4000000 in
theorem wX9_tune {a0 : Nat} {u0 : hM} {z : Int32 × hM} {ls : Array Slot} (hΓ : h_Γ E B T p s m args meth c cX9_tune 4 (some .int) RX9) (hf : fX9_tune T a0 u0 = some z) (hw : h_W E B T s.heap u0 s.heap []) (hl : lv_has ls 4 [(0, .ref (B + a0))]) : W p l e (h_rm 4) s m args below meth c s.heap [] 0 0 (h_Qi below E B T args s z) (F0 m 0 ls []) := by
  obtain ⟨hx, hb, hr, hml, hts, hown, hlk, hX⟩ := id hΓ
  unfold fX9_tune at hf
  refine lv_aload_n hx hb dX9_tune_0 rfl (lv_at hl 0 rfl) ?_
  refine lv_iconst (v := -1) hx hb dX9_tune_1 (by decide) ?_
  refine h_puti hf hx hb hts hown hX hw flX9_39 ⟨rfl, rfl⟩ dX9_tune_2 (fun u1 H1 L1 hf hw => ?_)
  refine lv_aload_n hx hb dX9_tune_5 rfl (lv_at hl 0 rfl) ?_
  refine lv_iconst (v := 0) hx hb dX9_tune_6 (by decide) ?_
  refine h_puti hf hx hb hts hown hX hw flX9_106 ⟨rfl, rfl⟩ dX9_tune_7 (fun u2 H2 L2 hf hw => ?_)
  refine lv_aload_n hx hb dX9_tune_10 rfl (lv_at hl 0 rfl) ?_
  refine lv_iconst (v := 0) hx hb dX9_tune_11 (by decide) ?_
  refine h_puti hf hx hb hts hown hX hw flX9_160 ⟨rfl, rfl⟩ dX9_tune_12 (fun u3 H3 L3 hf hw => ?_)
  refine lv_iconst (v := 0) hx hb dX9_tune_15 (by decide) ?_
  refine lv_istore_n (lv' := [(1, .int (0 : Int32)), (0, .ref (B + a0))]) hx hb dX9_tune_16 rfl hl (by decide) rfl (fun ls hl => ?_)
  refine lv_iconst (v := 0) hx hb dX9_tune_17 (by decide) ?_
  refine lv_istore_n (lv' := [(2, .int (0 : Int32)), (1, .int (0 : Int32)), (0, .ref (B + a0))]) hx hb dX9_tune_18 rfl hl (by decide) rfl (fun ls hl => ?_)
  refine wfX9_tune_L19 hΓ ?_ 6000 (0 : Int32) (0 : Int32) u3 _ _ _ hf hw (lv_sub hl [2, 1, 0] rfl)
  intro x7 u8 H8 L8 ls hf hw hl
  refine lv_aload_n hx hb dX9_tune_44 rfl (lv_at hl 0 rfl) ?_
  refine lv_iconst (v := 0) hx hb dX9_tune_45 (by decide) ?_
  refine h_puti hf hx hb hts hown hX hw flX9_100 ⟨rfl, rfl⟩ dX9_tune_46 (fun u9 H9 L9 hf hw => ?_)
  refine lv_iload_n hx hb dX9_tune_49 rfl (lv_at hl 1 rfl) ?_
  refine lv_if_le (tgt := 58) hx hb dX9_tune_50 (by decide) (fun hc => ?_) (fun hc => ?_)
  · have hf := ifp hc hf
    refine lv_aload_n hx hb dX9_tune_58 rfl (lv_at hl 0 rfl) ?_
    refine lv_aload_n hx hb dX9_tune_59 rfl (lv_at hl 0 rfl) ?_
    refine h_geti hf hx hb hts hown hX hw flX9_160 rfl dX9_tune_60 (fun x10 hf => ?_)
    refine h_puti hf hx hb hts hown hX hw flX9_178 ⟨rfl, rfl⟩ dX9_tune_63 (fun u11 H11 L11 hf hw => ?_)
    refine lv_iconst (v := 0) hx hb dX9_tune_66 (by decide) ?_
    refine lv_istore_n (lv' := [(3, .int (0 : Int32)), (0, .ref (B + a0)), (1, .int x7)]) hx hb dX9_tune_67 rfl hl (by decide) rfl (fun ls hl => ?_)
    refine wfX9_tune_L68 hΓ ?_ 6000 (0 : Int32) u11 _ _ _ hf hw (lv_sub hl [1, 0] rfl)
    intro u21 H21 L21 ls hf hw hl
    refine lv_aload_n hx hb dX9_tune_107 rfl (lv_at hl 0 rfl) ?_
    refine h_cVv (As := []) (rest := []) hf hx hb hml hts hown hX hw myX9_endSong miX9_endSong lkX9_181 ⟨rfl, by decide⟩ (fun q hq => c_X9_endSong l E B T a0 u21 hq) ⟨Nat.le_of_ble_eq_true rfl, Nat.le_of_ble_eq_true rfl⟩ ⟨Nat.le_refl _, Nat.le_refl _⟩ rfl hl.1 rfl (Nat.le_of_ble_eq_true rfl) dX9_tune_108 (fun q22 H22 L22 hf hw => ?_)
    refine lv_aload_n hx hb dX9_tune_111 rfl (lv_at hl 0 rfl) ?_
    refine h_geti hf hx hb hts hown hX hw flX9_178 rfl dX9_tune_112 (fun x23 hf => ?_)
    exact h_iret hf hx hb hr hlk hw dX9_tune_115
  · have hf := ifn hc hf
    refine lv_bipush (v := -10) hx hb dX9_tune_53 (by decide) ?_
    refine lv_iload_n hx hb dX9_tune_55 rfl (lv_at hl 1 rfl) ?_
    refine lv_isub hx hb dX9_tune_56 ?_
    exact h_iret hf hx hb hr hlk hw dX9_tune_57
theorem c_X9_tune (l : Launch) (E : hE) (B : Nat) (T : hT) (a0 : Nat) (u0 : hM) {z : Int32 × hM} (hf : fX9_tune T a0 u0 = some z) : h_Ct l E B T yX9_tune cX9_tune 4 (some .int) 4 [.ref (B + a0)] u0 z.2 (some (.int z.1)) := h_ofW (by decide) (Nat.le_of_ble_eq_true rfl) (fun p e s m below meth c ls hΓ hl hw => wX9_tune hΓ hf hw hl)
def fX9_kindOf (T : hT) (a0 : Nat) (u0 : hM) : Option (Int32 × hM) := (gtl T u0 a0 9 16).bind fun x1 => (fX9_code T (112 : Int32) (108 : Int32) (97 : Int32) (105 : Int32) u0).bind fun q2 => (fX9_longer T q2.1 (110 : Int32) q2.2).bind fun q3 => lt (fun (x4 : Int32) (u5 : hM) => (gtl T u5 a0 9 16).bind fun x6 => (fX9_code T (103 : Int32) (114 : Int32) (111 : Int32) (119 : Int32) u5).bind fun q7 => (fX9_longer T q7.1 (108 : Int32) q7.2).bind fun q8 => (fX9_longer T q8.1 (105 : Int32) q8.2).bind fun q9 => (fX9_longer T q9.1 (110 : Int32) q9.2).bind fun q10 => (fX9_longer T q10.1 (103 : Int32) q10.2).bind fun q11 => lt (fun (x12 : Int32) (u13 : hM) => if x4 < 0 then (some (x12, u13)) else (some (x4, u13))) fun J259 => if x6 = q11.1 then (J259 (4 : Int32) q11.2) else ((gtl T q11.2 a0 9 16).bind fun x14 => (fX9_code T (115 : Int32) (104 : Int32) (111 : Int32) (114 : Int32) q11.2).bind fun q15 => (fX9_longer T q15.1 (116 : Int32) q15.2).bind fun q16 => if x14 = q16.1 then (J259 (5 : Int32) q16.2) else ((gtl T q16.2 a0 9 16).bind fun x17 => (fX9_code T (100 : Int32) (101 : Int32) (97 : Int32) (102 : Int32) q16.2).bind fun q18 => if x17 = q18.1 then (J259 (6 : Int32) q18.2) else ((gtl T q18.2 a0 9 16).bind fun x19 => (fX9_code T (104 : Int32) (117 : Int32) (115 : Int32) (104 : Int32) q18.2).bind fun q20 => (fX9_longer T q20.1 (101 : Int32) q20.2).bind fun q21 => (fX9_longer T q21.1 (100 : Int32) q21.2).bind fun q22 => if x19 = q22.1 then (J259 (7 : Int32) q22.2) else (J259 (-1 : Int32) q22.2))))) fun J128 => if x1 = q3.1 then (J128 (0 : Int32) q3.2) else ((gtl T q3.2 a0 9 16).bind fun x23 => (fX9_code T (116 : Int32) (114 : Int32) (117 : Int32) (101 : Int32) q3.2).bind fun q24 => if x23 = q24.1 then (J128 (1 : Int32) q24.2) else ((gtl T q24.2 a0 9 16).bind fun x25 => (fX9_code T (100 : Int32) (114 : Int32) (105 : Int32) (102 : Int32) q24.2).bind fun q26 => (fX9_longer T q26.1 (116 : Int32) q26.2).bind fun q27 => (fX9_longer T q27.1 (105 : Int32) q27.2).bind fun q28 => (fX9_longer T q28.1 (110 : Int32) q28.2).bind fun q29 => (fX9_longer T q29.1 (103 : Int32) q29.2).bind fun q30 => if x25 = q30.1 then (J128 (2 : Int32) q30.2) else ((gtl T q30.2 a0 9 16).bind fun x31 => (fX9_code T (110 : Int32) (97 : Int32) (114 : Int32) (114 : Int32) q30.2).bind fun q32 => (fX9_longer T q32.1 (111 : Int32) q32.2).bind fun q33 => (fX9_longer T q33.1 (119 : Int32) q33.2).bind fun q34 => if x31 = q34.1 then (J128 (3 : Int32) q34.2) else (J128 (-1 : Int32) q34.2))))
set_option maxRecDepth 100000 in
set_option maxHeartbeats 4000000 in
theorem wX9_kindOf {a0 : Nat} {u0 : hM} {z : Int32 × hM} {ls : Array Slot} (hΓ : h_Γ E B T p s m args meth c cX9_kindOf 3 (some .int) RX9) (hf : fX9_kindOf T a0 u0 = some z) (hw : h_W E B T s.heap u0 s.heap []) (hl : lv_has ls 3 [(0, .ref (B + a0))]) : W p l e (h_rm 1) s m args below meth c s.heap [] 0 0 (h_Qi below E B T args s z) (F0 m 0 ls []) := by
  obtain ⟨hx, hb, hr, hml, hts, hown, hlk, hX⟩ := id hΓ
  unfold fX9_kindOf at hf
  refine lv_aload_n hx hb dX9_kindOf_0 rfl (lv_at hl 0 rfl) ?_
  refine h_getl hf hx hb hts hown hX hw flX9_113 rfl dX9_kindOf_1 (fun x1 hf => ?_)
  refine lv_bipush (v := 112) hx hb dX9_kindOf_4 (by decide) ?_
  refine lv_bipush (v := 108) hx hb dX9_kindOf_6 (by decide) ?_
  refine lv_bipush (v := 97) hx hb dX9_kindOf_8 (by decide) ?_
  refine lv_bipush (v := 105) hx hb dX9_kindOf_10 (by decide) ?_
  refine h_cSl (As := [.int (112 : Int32), .int (108 : Int32), .int (97 : Int32), .int (105 : Int32)]) (rest := [.long x1]) hf hx hb hml hts hown hX hw myX9_code msX9_code lkX9_152 (fun q hq => c_X9_code l E B T (112 : Int32) (108 : Int32) (97 : Int32) (105 : Int32) u0 hq) ⟨Nat.le_of_ble_eq_true rfl, Nat.le_of_ble_eq_true rfl⟩ ⟨Nat.le_refl _, Nat.le_refl _⟩ rfl hl.1 rfl (Nat.le_of_ble_eq_true rfl) dX9_kindOf_12 (fun q2 H2 L2 hf hw => ?_)
  refine lv_bipush (v := 110) hx hb dX9_kindOf_15 (by decide) ?_
  refine h_cSl (As := [.long q2.1, .int (110 : Int32)]) (rest := [.long x1]) hf hx hb hml hts hown hX hw myX9_longer msX9_longer lkX9_156 (fun q hq => c_X9_longer l E B T q2.1 (110 : Int32) q2.2 hq) ⟨Nat.le_of_ble_eq_true rfl, Nat.le_of_ble_eq_true rfl⟩ ⟨Nat.le_refl _, Nat.le_refl _⟩ rfl hl.1 rfl (Nat.le_of_ble_eq_true rfl) dX9_kindOf_17 (fun q3 H3 L3 hf hw => ?_)
  refine W.lcmp hx hb dX9_kindOf_20 ?_
  obtain ⟨J128, eJ128, hf⟩ := h_lt hf
  have hJ128 : ∀ (x4 : Int32) (u5 : hM) (H5 : Heap) (L5 : List Loc) (ls : Array Slot), J128 x4 u5 = some z → h_W E B T s.heap u5 H5 L5 → lv_has ls 3 [(0, .ref (B + a0))] → W p l e (h_rm 1) s m args below meth c H5 L5 0 0 (h_Qi below E B T args s z) (F0 m 128 ls [.int x4]) := by
    intro x4 u5 H5 L5 ls hf hw hl
    rw [eJ128] at hf
    refine lv_istore_n (lv' := [(1, .int x4), (0, .ref (B + a0))]) hx hb dX9_kindOf_128 rfl hl (by decide) rfl (fun ls hl => ?_)
    refine lv_aload_n hx hb dX9_kindOf_129 rfl (lv_at hl 1 rfl) ?_
    refine h_getl hf hx hb hts hown hX hw flX9_113 rfl dX9_kindOf_130 (fun x6 hf => ?_)
    refine lv_bipush (v := 103) hx hb dX9_kindOf_133 (by decide) ?_
    refine lv_bipush (v := 114) hx hb dX9_kindOf_135 (by decide) ?_
    refine lv_bipush (v := 111) hx hb dX9_kindOf_137 (by decide) ?_
    refine lv_bipush (v := 119) hx hb dX9_kindOf_139 (by decide) ?_
    refine h_cSl (As := [.int (103 : Int32), .int (114 : Int32), .int (111 : Int32), .int (119 : Int32)]) (rest := [.long x6]) hf hx hb hml hts hown hX hw myX9_code msX9_code lkX9_152 (fun q hq => c_X9_code l E B T (103 : Int32) (114 : Int32) (111 : Int32) (119 : Int32) u5 hq) ⟨Nat.le_of_ble_eq_true rfl, Nat.le_of_ble_eq_true rfl⟩ ⟨Nat.le_refl _, Nat.le_refl _⟩ rfl hl.1 rfl (Nat.le_of_ble_eq_true rfl) dX9_kindOf_141 (fun q7 H7 L7 hf hw => ?_)
    refine lv_bipush (v := 108) hx hb dX9_kindOf_144 (by decide) ?_
    refine h_cSl (As := [.long q7.1, .int (108 : Int32)]) (rest := [.long x6]) hf hx hb hml hts hown hX hw myX9_longer msX9_longer lkX9_156 (fun q hq => c_X9_longer l E B T q7.1 (108 : Int32) q7.2 hq) ⟨Nat.le_of_ble_eq_true rfl, Nat.le_of_ble_eq_true rfl⟩ ⟨Nat.le_refl _, Nat.le_refl _⟩ rfl hl.1 rfl (Nat.le_of_ble_eq_true rfl) dX9_kindOf_146 (fun q8 H8 L8 hf hw => ?_)
    refine lv_bipush (v := 105) hx hb dX9_kindOf_149 (by decide) ?_
    refine h_cSl (As := [.long q8.1, .int (105 : Int32)]) (rest := [.long x6]) hf hx hb hml hts hown hX hw myX9_longer msX9_longer lkX9_156 (fun q hq => c_X9_longer l E B T q8.1 (105 : Int32) q8.2 hq) ⟨Nat.le_of_ble_eq_true rfl, Nat.le_of_ble_eq_true rfl⟩ ⟨Nat.le_refl _, Nat.le_refl _⟩ rfl hl.1 rfl (Nat.le_of_ble_eq_true rfl) dX9_kindOf_151 (fun q9 H9 L9 hf hw => ?_)
    refine lv_bipush (v := 110) hx hb dX9_kindOf_154 (by decide) ?_
    refine h_cSl (As := [.long q9.1, .int (110 : Int32)]) (rest := [.long x6]) hf hx hb hml hts hown hX hw myX9_longer msX9_longer lkX9_156 (fun q hq => c_X9_longer l E B T q9.1 (110 : Int32) q9.2 hq) ⟨Nat.le_of_ble_eq_true rfl, Nat.le_of_ble_eq_true rfl⟩ ⟨Nat.le_refl _, Nat.le_refl _⟩ rfl hl.1 rfl (Nat.le_of_ble_eq_true rfl) dX9_kindOf_156 (fun q10 H10 L10 hf hw => ?_)
    refine lv_bipush (v := 103) hx hb dX9_kindOf_159 (by decide) ?_
    refine h_cSl (As := [.long q10.1, .int (103 : Int32)]) (rest := [.long x6]) hf hx hb hml hts hown hX hw myX9_longer msX9_longer lkX9_156 (fun q hq => c_X9_longer l E B T q10.1 (103 : Int32) q10.2 hq) ⟨Nat.le_of_ble_eq_true rfl, Nat.le_of_ble_eq_true rfl⟩ ⟨Nat.le_refl _, Nat.le_refl _⟩ rfl hl.1 rfl (Nat.le_of_ble_eq_true rfl) dX9_kindOf_161 (fun q11 H11 L11 hf hw => ?_)
    refine W.lcmp hx hb dX9_kindOf_164 ?_
    obtain ⟨J259, eJ259, hf⟩ := h_lt hf
    have hJ259 : ∀ (x12 : Int32) (u13 : hM) (H13 : Heap) (L13 : List Loc) (ls : Array Slot), J259 x12 u13 = some z → h_W E B T s.heap u13 H13 L13 → lv_has ls 3 [(1, .int x4)] → W p l e (h_rm 1) s m args below meth c H13 L13 0 0 (h_Qi below E B T args s z) (F0 m 259 ls [.int x12]) := by
      intro x12 u13 H13 L13 ls hf hw hl
      rw [eJ259] at hf
      refine lv_istore_n (lv' := [(2, .int x12), (1, .int x4)]) hx hb dX9_kindOf_259 rfl hl (by decide) rfl (fun ls hl => ?_)
      refine lv_iload_n hx hb dX9_kindOf_260 rfl (lv_at hl 1 rfl) ?_
      refine lv_if_lt (tgt := 268) hx hb dX9_kindOf_261 (by decide) (fun hc => ?_) (fun hc => ?_)
      · have hf := ifp hc hf
        refine lv_iload_n hx hb dX9_kindOf_268 rfl (lv_at hl 0 rfl) ?_
        exact h_iret hf hx hb hr hlk hw dX9_kindOf_269
      · have hf := ifn hc hf
        refine lv_iload_n hx hb dX9_kindOf_264 rfl (lv_at hl 1 rfl) ?_
        refine lv_goto (tgt := 269) hx hb dX9_kindOf_265 (by decide) ?_
        exact h_iret hf hx hb hr hlk hw dX9_kindOf_269
    clear eJ259
    refine lv_if_ne (tgt := 172) hx hb dX9_kindOf_165 (by decide) (fun hc => ?_) (fun hc => ?_)
    · have hc := (not_congr (lg_cmp_eq _ _)).mp hc
      have hf := ifn hc hf
      refine lv_aload_n hx hb dX9_kindOf_172 rfl (lv_at hl 1 rfl) ?_
      refine h_getl hf hx hb hts hown hX hw flX9_113 rfl dX9_kindOf_173 (fun x14 hf => ?_)
      refine lv_bipush (v := 115) hx hb dX9_kindOf_176 (by decide) ?_
      refine lv_bipush (v := 104) hx hb dX9_kindOf_178 (by decide) ?_
      refine lv_bipush (v := 111) hx hb dX9_kindOf_180 (by decide) ?_
      refine lv_bipush (v := 114) hx hb dX9_kindOf_182 (by decide) ?_
      refine h_cSl (As := [.int (115 : Int32), .int (104 : Int32), .int (111 : Int32), .int (114 : Int32)]) (rest := [.long x14]) hf hx hb hml hts hown hX hw myX9_code msX9_code lkX9_152 (fun q hq => c_X9_code l E B T (115 : Int32) (104 : Int32) (111 : Int32) (114 : Int32) q11.2 hq) ⟨Nat.le_of_ble_eq_true rfl, Nat.le_of_ble_eq_true rfl⟩ ⟨Nat.le_refl _, Nat.le_refl _⟩ rfl hl.1 rfl (Nat.le_of_ble_eq_true rfl) dX9_kindOf_184 (fun q15 H15 L15 hf hw => ?_)
      refine lv_bipush (v := 116) hx hb dX9_kindOf_187 (by decide) ?_
      refine h_cSl (As := [.long q15.1, .int (116 : Int32)]) (rest := [.long x14]) hf hx hb hml hts hown hX hw myX9_longer msX9_longer lkX9_156 (fun q hq => c_X9_longer l E B T q15.1 (116 : Int32) q15.2 hq) ⟨Nat.le_of_ble_eq_true rfl, Nat.le_of_ble_eq_true rfl⟩ ⟨Nat.le_refl _, Nat.le_refl _⟩ rfl hl.1 rfl (Nat.le_of_ble_eq_true rfl) dX9_kindOf_189 (fun q16 H16 L16 hf hw => ?_)
      refine W.lcmp hx hb dX9_kindOf_192 ?_
      refine lv_if_ne (tgt := 200) hx hb dX9_kindOf_193 (by decide) (fun hc => ?_) (fun hc => ?_)
      · have hc := (not_congr (lg_cmp_eq _ _)).mp hc
        have hf := ifn hc hf
        refine lv_aload_n hx hb dX9_kindOf_200 rfl (lv_at hl 1 rfl) ?_
        refine h_getl hf hx hb hts hown hX hw flX9_113 rfl dX9_kindOf_201 (fun x17 hf => ?_)
        refine lv_bipush (v := 100) hx hb dX9_kindOf_204 (by decide) ?_
        refine lv_bipush (v := 101) hx hb dX9_kindOf_206 (by decide) ?_
        refine lv_bipush (v := 97) hx hb dX9_kindOf_208 (by decide) ?_
        refine lv_bipush (v := 102) hx hb dX9_kindOf_210 (by decide) ?_
        refine h_cSl (As := [.int (100 : Int32), .int (101 : Int32), .int (97 : Int32), .int (102 : Int32)]) (rest := [.long x17]) hf hx hb hml hts hown hX hw myX9_code msX9_code lkX9_152 (fun q hq => c_X9_code l E B T (100 : Int32) (101 : Int32) (97 : Int32) (102 : Int32) q16.2 hq) ⟨Nat.le_of_ble_eq_true rfl, Nat.le_of_ble_eq_true rfl⟩ ⟨Nat.le_refl _, Nat.le_refl _⟩ rfl hl.1 rfl (Nat.le_of_ble_eq_true rfl) dX9_kindOf_212 (fun q18 H18 L18 hf hw => ?_)
        refine W.lcmp hx hb dX9_kindOf_215 ?_
        refine lv_if_ne (tgt := 224) hx hb dX9_kindOf_216 (by decide) (fun hc => ?_) (fun hc => ?_)
        · have hc := (not_congr (lg_cmp_eq _ _)).mp hc
          have hf := ifn hc hf
          refine lv_aload_n hx hb dX9_kindOf_224 rfl (lv_at hl 1 rfl) ?_
          refine h_getl hf hx hb hts hown hX hw flX9_113 rfl dX9_kindOf_225 (fun x19 hf => ?_)
          refine lv_bipush (v := 104) hx hb dX9_kindOf_228 (by decide) ?_
          refine lv_bipush (v := 117) hx hb dX9_kindOf_230 (by decide) ?_
          refine lv_bipush (v := 115) hx hb dX9_kindOf_232 (by decide) ?_
          refine lv_bipush (v := 104) hx hb dX9_kindOf_234 (by decide) ?_
          refine h_cSl (As := [.int (104 : Int32), .int (117 : Int32), .int (115 : Int32), .int (104 : Int32)]) (rest := [.long x19]) hf hx hb hml hts hown hX hw myX9_code msX9_code lkX9_152 (fun q hq => c_X9_code l E B T (104 : Int32) (117 : Int32) (115 : Int32) (104 : Int32) q18.2 hq) ⟨Nat.le_of_ble_eq_true rfl, Nat.le_of_ble_eq_true rfl⟩ ⟨Nat.le_refl _, Nat.le_refl _⟩ rfl hl.1 rfl (Nat.le_of_ble_eq_true rfl) dX9_kindOf_236 (fun q20 H20 L20 hf hw => ?_)
          refine lv_bipush (v := 101) hx hb dX9_kindOf_239 (by decide) ?_
          refine h_cSl (As := [.long q20.1, .int (101 : Int32)]) (rest := [.long x19]) hf hx hb hml hts hown hX hw myX9_longer msX9_longer lkX9_156 (fun q hq => c_X9_longer l E B T q20.1 (101 : Int32) q20.2 hq) ⟨Nat.le_of_ble_eq_true rfl, Nat.le_of_ble_eq_true rfl⟩ ⟨Nat.le_refl _, Nat.le_refl _⟩ rfl hl.1 rfl (Nat.le_of_ble_eq_true rfl) dX9_kindOf_241 (fun q21 H21 L21 hf hw => ?_)
          refine lv_bipush (v := 100) hx hb dX9_kindOf_244 (by decide) ?_
          refine h_cSl (As := [.long q21.1, .int (100 : Int32)]) (rest := [.long x19]) hf hx hb hml hts hown hX hw myX9_longer msX9_longer lkX9_156 (fun q hq => c_X9_longer l E B T q21.1 (100 : Int32) q21.2 hq) ⟨Nat.le_of_ble_eq_true rfl, Nat.le_of_ble_eq_true rfl⟩ ⟨Nat.le_refl _, Nat.le_refl _⟩ rfl hl.1 rfl (Nat.le_of_ble_eq_true rfl) dX9_kindOf_246 (fun q22 H22 L22 hf hw => ?_)
          refine W.lcmp hx hb dX9_kindOf_249 ?_
          refine lv_if_ne (tgt := 258) hx hb dX9_kindOf_250 (by decide) (fun hc => ?_) (fun hc => ?_)
          · have hc := (not_congr (lg_cmp_eq _ _)).mp hc
            have hf := ifn hc hf
            refine lv_iconst (v := -1) hx hb dX9_kindOf_258 (by decide) ?_
            exact hJ259 (-1 : Int32) q22.2 _ _ _ hf hw (lv_sub hl [0] rfl)
          · have hc := (lg_cmp_eq _ _).mp hc
            have hf := ifp hc hf
            refine lv_bipush (v := 7) hx hb dX9_kindOf_253 (by decide) ?_
            refine lv_goto (tgt := 259) hx hb dX9_kindOf_255 (by decide) ?_
            exact hJ259 (7 : Int32) q22.2 _ _ _ hf hw (lv_sub hl [0] rfl)
        · have hc := (lg_cmp_eq _ _).mp hc
          have hf := ifp hc hf
          refine lv_bipush (v := 6) hx hb dX9_kindOf_219 (by decide) ?_
          refine lv_goto (tgt := 259) hx hb dX9_kindOf_221 (by decide) ?_
          exact hJ259 (6 : Int32) q18.2 _ _ _ hf hw (lv_sub hl [0] rfl)
      · have hc := (lg_cmp_eq _ _).mp hc
        have hf := ifp hc hf
        refine lv_iconst (v := 5) hx hb dX9_kindOf_196 (by decide) ?_
        refine lv_goto (tgt := 259) hx hb dX9_kindOf_197 (by decide) ?_
        exact hJ259 (5 : Int32) q16.2 _ _ _ hf hw (lv_sub hl [0] rfl)
    · have hc := (lg_cmp_eq _ _).mp hc
      have hf := ifp hc hf
      refine lv_iconst (v := 4) hx hb dX9_kindOf_168 (by decide) ?_
      refine lv_goto (tgt := 259) hx hb dX9_kindOf_169 (by decide) ?_
      exact hJ259 (4 : Int32) q11.2 _ _ _ hf hw (lv_sub hl [0] rfl)
  clear eJ128
  refine lv_if_ne (tgt := 28) hx hb dX9_kindOf_21 (by decide) (fun hc => ?_) (fun hc => ?_)
  · have hc := (not_congr (lg_cmp_eq _ _)).mp hc
    have hf := ifn hc hf
    refine lv_aload_n hx hb dX9_kindOf_28 rfl (lv_at hl 0 rfl) ?_
    refine h_getl hf hx hb hts hown hX hw flX9_113 rfl dX9_kindOf_29 (fun x23 hf => ?_)
    refine lv_bipush (v := 116) hx hb dX9_kindOf_32 (by decide) ?_
    refine lv_bipush (v := 114) hx hb dX9_kindOf_34 (by decide) ?_
    refine lv_bipush (v := 117) hx hb dX9_kindOf_36 (by decide) ?_
    refine lv_bipush (v := 101) hx hb dX9_kindOf_38 (by decide) ?_
    refine h_cSl (As := [.int (116 : Int32), .int (114 : Int32), .int (117 : Int32), .int (101 : Int32)]) (rest := [.long x23]) hf hx hb hml hts hown hX hw myX9_code msX9_code lkX9_152 (fun q hq => c_X9_code l E B T (116 : Int32) (114 : Int32) (117 : Int32) (101 : Int32) q3.2 hq) ⟨Nat.le_of_ble_eq_true rfl, Nat.le_of_ble_eq_true rfl⟩ ⟨Nat.le_refl _, Nat.le_refl _⟩ rfl hl.1 rfl (Nat.le_of_ble_eq_true rfl) dX9_kindOf_40 (fun q24 H24 L24 hf hw => ?_)
    refine W.lcmp hx hb dX9_kindOf_43 ?_
    refine lv_if_ne (tgt := 51) hx hb dX9_kindOf_44 (by decide) (fun hc => ?_) (fun hc => ?_)
    · have hc := (not_congr (lg_cmp_eq _ _)).mp hc
      have hf := ifn hc hf
      refine lv_aload_n hx hb dX9_kindOf_51 rfl (lv_at hl 0 rfl) ?_
      refine h_getl hf hx hb hts hown hX hw flX9_113 rfl dX9_kindOf_52 (fun x25 hf => ?_)
      refine lv_bipush (v := 100) hx hb dX9_kindOf_55 (by decide) ?_
      refine lv_bipush (v := 114) hx hb dX9_kindOf_57 (by decide) ?_
      refine lv_bipush (v := 105) hx hb dX9_kindOf_59 (by decide) ?_
      refine lv_bipush (v := 102) hx hb dX9_kindOf_61 (by decide) ?_
      refine h_cSl (As := [.int (100 : Int32), .int (114 : Int32), .int (105 : Int32), .int (102 : Int32)]) (rest := [.long x25]) hf hx hb hml hts hown hX hw myX9_code msX9_code lkX9_152 (fun q hq => c_X9_code l E B T (100 : Int32) (114 : Int32) (105 : Int32) (102 : Int32) q24.2 hq) ⟨Nat.le_of_ble_eq_true rfl, Nat.le_of_ble_eq_true rfl⟩ ⟨Nat.le_refl _, Nat.le_refl _⟩ rfl hl.1 rfl (Nat.le_of_ble_eq_true rfl) dX9_kindOf_63 (fun q26 H26 L26 hf hw => ?_)
      refine lv_bipush (v := 116) hx hb dX9_kindOf_66 (by decide) ?_
      refine h_cSl (As := [.long q26.1, .int (116 : Int32)]) (rest := [.long x25]) hf hx hb hml hts hown hX hw myX9_longer msX9_longer lkX9_156 (fun q hq => c_X9_longer l E B T q26.1 (116 : Int32) q26.2 hq) ⟨Nat.le_of_ble_eq_true rfl, Nat.le_of_ble_eq_true rfl⟩ ⟨Nat.le_refl _, Nat.le_refl _⟩ rfl hl.1 rfl (Nat.le_of_ble_eq_true rfl) dX9_kindOf_68 (fun q27 H27 L27 hf hw => ?_)
      refine lv_bipush (v := 105) hx hb dX9_kindOf_71 (by decide) ?_
      refine h_cSl (As := [.long q27.1, .int (105 : Int32)]) (rest := [.long x25]) hf hx hb hml hts hown hX hw myX9_longer msX9_longer lkX9_156 (fun q hq => c_X9_longer l E B T q27.1 (105 : Int32) q27.2 hq) ⟨Nat.le_of_ble_eq_true rfl, Nat.le_of_ble_eq_true rfl⟩ ⟨Nat.le_refl _, Nat.le_refl _⟩ rfl hl.1 rfl (Nat.le_of_ble_eq_true rfl) dX9_kindOf_73 (fun q28 H28 L28 hf hw => ?_)
      refine lv_bipush (v := 110) hx hb dX9_kindOf_76 (by decide) ?_
      refine h_cSl (As := [.long q28.1, .int (110 : Int32)]) (rest := [.long x25]) hf hx hb hml hts hown hX hw myX9_longer msX9_longer lkX9_156 (fun q hq => c_X9_longer l E B T q28.1 (110 : Int32) q28.2 hq) ⟨Nat.le_of_ble_eq_true rfl, Nat.le_of_ble_eq_true rfl⟩ ⟨Nat.le_refl _, Nat.le_refl _⟩ rfl hl.1 rfl (Nat.le_of_ble_eq_true rfl) dX9_kindOf_78 (fun q29 H29 L29 hf hw => ?_)
      refine lv_bipush (v := 103) hx hb dX9_kindOf_81 (by decide) ?_
      refine h_cSl (As := [.long q29.1, .int (103 : Int32)]) (rest := [.long x25]) hf hx hb hml hts hown hX hw myX9_longer msX9_longer lkX9_156 (fun q hq => c_X9_longer l E B T q29.1 (103 : Int32) q29.2 hq) ⟨Nat.le_of_ble_eq_true rfl, Nat.le_of_ble_eq_true rfl⟩ ⟨Nat.le_refl _, Nat.le_refl _⟩ rfl hl.1 rfl (Nat.le_of_ble_eq_true rfl) dX9_kindOf_83 (fun q30 H30 L30 hf hw => ?_)
      refine W.lcmp hx hb dX9_kindOf_86 ?_
      refine lv_if_ne (tgt := 94) hx hb dX9_kindOf_87 (by decide) (fun hc => ?_) (fun hc => ?_)
      · have hc := (not_congr (lg_cmp_eq _ _)).mp hc
        have hf := ifn hc hf
        refine lv_aload_n hx hb dX9_kindOf_94 rfl (lv_at hl 0 rfl) ?_
        refine h_getl hf hx hb hts hown hX hw flX9_113 rfl dX9_kindOf_95 (fun x31 hf => ?_)
        refine lv_bipush (v := 110) hx hb dX9_kindOf_98 (by decide) ?_
        refine lv_bipush (v := 97) hx hb dX9_kindOf_100 (by decide) ?_
        refine lv_bipush (v := 114) hx hb dX9_kindOf_102 (by decide) ?_
        refine lv_bipush (v := 114) hx hb dX9_kindOf_104 (by decide) ?_
        refine h_cSl (As := [.int (110 : Int32), .int (97 : Int32), .int (114 : Int32), .int (114 : Int32)]) (rest := [.long x31]) hf hx hb hml hts hown hX hw myX9_code msX9_code lkX9_152 (fun q hq => c_X9_code l E B T (110 : Int32) (97 : Int32) (114 : Int32) (114 : Int32) q30.2 hq) ⟨Nat.le_of_ble_eq_true rfl, Nat.le_of_ble_eq_true rfl⟩ ⟨Nat.le_refl _, Nat.le_refl _⟩ rfl hl.1 rfl (Nat.le_of_ble_eq_true rfl) dX9_kindOf_106 (fun q32 H32 L32 hf hw => ?_)
        refine lv_bipush (v := 111) hx hb dX9_kindOf_109 (by decide) ?_
        refine h_cSl (As := [.long q32.1, .int (111 : Int32)]) (rest := [.long x31]) hf hx hb hml hts hown hX hw myX9_longer msX9_longer lkX9_156 (fun q hq => c_X9_longer l E B T q32.1 (111 : Int32) q32.2 hq) ⟨Nat.le_of_ble_eq_true rfl, Nat.le_of_ble_eq_true rfl⟩ ⟨Nat.le_refl _, Nat.le_refl _⟩ rfl hl.1 rfl (Nat.le_of_ble_eq_true rfl) dX9_kindOf_111 (fun q33 H33 L33 hf hw => ?_)
        refine lv_bipush (v := 119) hx hb dX9_kindOf_114 (by decide) ?_
        refine h_cSl (As := [.long q33.1, .int (119 : Int32)]) (rest := [.long x31]) hf hx hb hml hts hown hX hw myX9_longer msX9_longer lkX9_156 (fun q hq => c_X9_longer l E B T q33.1 (119 : Int32) q33.2 hq) ⟨Nat.le_of_ble_eq_true rfl, Nat.le_of_ble_eq_true rfl⟩ ⟨Nat.le_refl _, Nat.le_refl _⟩ rfl hl.1 rfl (Nat.le_of_ble_eq_true rfl) dX9_kindOf_116 (fun q34 H34 L34 hf hw => ?_)
        refine W.lcmp hx hb dX9_kindOf_119 ?_
        refine lv_if_ne (tgt := 127) hx hb dX9_kindOf_120 (by decide) (fun hc => ?_) (fun hc => ?_)
        · have hc := (not_congr (lg_cmp_eq _ _)).mp hc
          have hf := ifn hc hf
          refine lv_iconst (v := -1) hx hb dX9_kindOf_127 (by decide) ?_
          exact hJ128 (-1 : Int32) q34.2 _ _ _ hf hw (lv_sub hl [0] rfl)
        · have hc := (lg_cmp_eq _ _).mp hc
          have hf := ifp hc hf
          refine lv_iconst (v := 3) hx hb dX9_kindOf_123 (by decide) ?_
          refine lv_goto (tgt := 128) hx hb dX9_kindOf_124 (by decide) ?_
          exact hJ128 (3 : Int32) q34.2 _ _ _ hf hw (lv_sub hl [0] rfl)
      · have hc := (lg_cmp_eq _ _).mp hc
        have hf := ifp hc hf
        refine lv_iconst (v := 2) hx hb dX9_kindOf_90 (by decide) ?_
        refine lv_goto (tgt := 128) hx hb dX9_kindOf_91 (by decide) ?_
        exact hJ128 (2 : Int32) q30.2 _ _ _ hf hw (lv_sub hl [0] rfl)
    · have hc := (lg_cmp_eq _ _).mp hc
      have hf := ifp hc hf
      refine lv_iconst (v := 1) hx hb dX9_kindOf_47 (by decide) ?_
      refine lv_goto (tgt := 128) hx hb dX9_kindOf_48 (by decide) ?_
      exact hJ128 (1 : Int32) q24.2 _ _ _ hf hw (lv_sub hl [0] rfl)
  · have hc := (lg_cmp_eq _ _).mp hc
    have hf := ifp hc hf
    refine lv_iconst (v := 0) hx hb dX9_kindOf_24 (by decide) ?_
    refine lv_goto (tgt := 128) hx hb dX9_kindOf_25 (by decide) ?_
    exact hJ128 (0 : Int32) q3.2 _ _ _ hf hw (lv_sub hl [0] rfl)
theorem c_X9_kindOf (l : Launch) (E : hE) (B : Nat) (T : hT) (a0 : Nat) (u0 : hM) {z : Int32 × hM} (hf : fX9_kindOf T a0 u0 = some z) : h_Ct l E B T yX9_kindOf cX9_kindOf 3 (some .int) 1 [.ref (B + a0)] u0 z.2 (some (.int z.1)) := h_ofW (by decide) (Nat.le_of_ble_eq_true rfl) (fun p e s m below meth c ls hΓ hl hw => wX9_kindOf hΓ hf hw hl)
end GEN
