section GEN
variable {p : Program} {l : Launch} {e : Env} {s : State} {m : MethodId} {args : Array Value} {below : List Frame} {meth : Method} {c : Code} {E : hE} {B : Nat} {T : hT}
def fX9_isWithin_L36 (T : hT) (c0 : Nat) (c1 : Int32) (c2 : Int32) (ex : Int32 → hM → Option (Int32 × hM)) : Nat → Int32 → Int32 → hM → Option (Int32 × hM)
  | 0, _, _, _ => none
  | n + 1, v3, v4, u0 => (gti T u0 c0 9 0).bind fun x5 => if x5 ≤ v4 then (ex v3 u0) else ((gtr T u0 c0 9 1).bind fun a6 => (ald 11 T u0 a6 v4).bind fun x7 => lt ((x7 + ((100 : Int32) * c2))) fun x8 => lt (fun (x9 : Int32) (u10 : hM) => lt (v4 + (1 : Int32)) fun x11 => fX9_isWithin_L36 T c0 c1 c2 ex n x9 x11 u10) fun J80 => lt (fun (u12 : hM) => J80 (0 : Int32) u12) fun J79 => if v3 = 0 then (J79 u0) else ((vc T c0 9 (fX9_heldTo T c0 c1 x8 u0)).bind fun q13 => if q13.1 = x8 then (J80 (1 : Int32) q13.2) else (J79 q13.2)))
def fX9_isWithin (T : hT) (a0 : Nat) (p1 : Int32) (p2 : Int32) (u0 : hM) : Option (Int32 × hM) := (gtr T u0 a0 9 4).bind fun a1 => (ald 11 T u0 a1 ((8 : Int32) * p1)).bind fun x2 => lt (fun (x3 : Int32) (u4 : hM) => fX9_isWithin_L36 T a0 p1 p2 (fun (x14 : Int32) (u15 : hM) => rtz x14 u15) 6000 x3 (0 : Int32) u4) fun J32 => lt (fun (u16 : hM) => J32 (0 : Int32) u16) fun J31 => if x2 = (4 : Int32) then (J31 u0) else ((gtr T u0 a0 9 4).bind fun a17 => (ald 11 T u0 a17 ((8 : Int32) * p1)).bind fun x18 => if x18 = (7 : Int32) then (J31 u0) else (J32 (1 : Int32) u0))
set_option maxRecDepth 100000 in
set_option maxHeartbeats 4000000 in
theorem wfX9_isWithin_L36 {c0 : Nat} {c1 : Int32} {c2 : Int32} {ex : Int32 → hM → Option (Int32 × hM)} {z : Int32 × hM} (hΓ : h_Γ E B T p s m args meth c cX9_isWithin 6 (some .boolean) RX9) (hex : ∀ (y3 : Int32) (u9 : hM) (H9 : Heap) (L9 : List Loc) (ls : Array Slot), ex y3 u9 = some z → h_W E B T s.heap u9 H9 L9 → lv_has ls 6 [(3, .int y3)] → W p l e (h_rm 2) s m args below meth c H9 L9 0 0 (h_Qi below E B T args s z) (F0 m 87 ls [])) : ∀ (n : Nat) (v3 : Int32) (v4 : Int32) (u0 : hM) (H0 : Heap) (L0 : List Loc) (ls : Array Slot), fX9_isWithin_L36 T c0 c1 c2 ex n v3 v4 u0 = some z → h_W E B T s.heap u0 H0 L0 → lv_has ls 6 [(0, .ref (B + c0)), (1, .int c1), (2, .int c2), (3, .int v3), (4, .int v4)] → W p l e (h_rm 2) s m args below meth c H0 L0 0 0 (h_Qi below E B T args s z) (F0 m 36 ls []) := by
  obtain ⟨hx, hb, hr, hml, hts, hown, hlk, hX⟩ := id hΓ
  intro n
  induction n with
  | zero =>
    intro v3 v4 u0 H0 L0 ls hf hw hl
    exact absurd (show (none : Option (Int32 × hM)) = some z from hf) (fun h => by cases h)
  | succ n ih =>
    intro v3 v4 u0 H0 L0 ls hf hw hl
    rw [fX9_isWithin_L36] at hf
    refine lv_iload hx hb dX9_isWithin_36 (lv_at hl 4 rfl) ?_
    refine lv_aload_n hx hb dX9_isWithin_38 rfl (lv_at hl 0 rfl) ?_
    refine h_geti hf hx hb hts hown hX hw flX9_178 rfl dX9_isWithin_39 (fun x5 hf => ?_)
    refine lv_icmp_ge (tgt := 87) hx hb dX9_isWithin_42 (by decide) (fun hc => ?_) (fun hc => ?_)
    · have hf := ifp hc hf
      exact hex v3 u0 _ _ _ hf hw (lv_sub hl [3] rfl)
    · have hf := ifn hc hf
      refine lv_aload_n hx hb dX9_isWithin_45 rfl (lv_at hl 0 rfl) ?_
      refine h_getr hf hx hb hts hown hX hw flX9_7 rfl dX9_isWithin_46 (fun a6 hf => ?_)
      refine lv_iload hx hb dX9_isWithin_49 (lv_at hl 4 rfl) ?_
      refine h_iald hf hx hb hX hw dX9_isWithin_51 (fun x7 hf => ?_)
      refine lv_bipush (v := 100) hx hb dX9_isWithin_52 (by decide) ?_
      refine lv_iload_n hx hb dX9_isWithin_54 rfl (lv_at hl 2 rfl) ?_
      refine lv_imul hx hb dX9_isWithin_55 ?_
      refine lv_iadd hx hb dX9_isWithin_56 ?_
      refine h_nmi hf (fun x8 hf => ?_)
      refine lv_istore (lv' := [(5, .int x8), (0, .ref (B + c0)), (1, .int c1), (2, .int c2), (3, .int v3), (4, .int v4)]) hx hb dX9_isWithin_57 hl (by decide) rfl (fun ls hl => ?_)
      refine lv_iload_n hx hb dX9_isWithin_59 rfl (lv_at hl 4 rfl) ?_
      obtain ⟨J80, eJ80, hf⟩ := h_lt hf
      have hJ80 : ∀ (x9 : Int32) (u10 : hM) (H10 : Heap) (L10 : List Loc) (ls : Array Slot), J80 x9 u10 = some z → h_W E B T s.heap u10 H10 L10 → lv_has ls 6 [(0, .ref (B + c0)), (1, .int c1), (2, .int c2), (4, .int v4)] → W p l e (h_rm 2) s m args below meth c H10 L10 0 0 (h_Qi below E B T args s z) (F0 m 80 ls [.int x9]) := by
        intro x9 u10 H10 L10 ls hf hw hl
        rw [eJ80] at hf
        refine lv_istore_n (lv' := [(3, .int x9), (0, .ref (B + c0)), (1, .int c1), (2, .int c2), (4, .int v4)]) hx hb dX9_isWithin_80 rfl hl (by decide) rfl (fun ls hl => ?_)
        refine h_iinc (k := 4) hf hx hb dX9_isWithin_81 hl rfl (by decide) (by decide) (fun x11 ls hf hl => ?_)
        have hl : lv_has ls 6 [(4, .int x11), (3, .int x9), (0, .ref (B + c0)), (1, .int c1), (2, .int c2)] := hl
        refine lv_goto (tgt := 36) hx hb dX9_isWithin_84 (by decide) ?_
        exact ih x9 x11 u10 _ _ _ hf hw (lv_sub hl [2, 3, 4, 1, 0] rfl)
      clear eJ80
      obtain ⟨J79, eJ79, hf⟩ := h_lt hf
      have hJ79 : ∀ (u12 : hM) (H12 : Heap) (L12 : List Loc) (ls : Array Slot), J79  u12 = some z → h_W E B T s.heap u12 H12 L12 → lv_has ls 6 [(0, .ref (B + c0)), (1, .int c1), (2, .int c2), (4, .int v4)] → W p l e (h_rm 2) s m args below meth c H12 L12 0 0 (h_Qi below E B T args s z) (F0 m 79 ls []) := by
        intro  u12 H12 L12 ls hf hw hl
        rw [eJ79] at hf
        refine lv_iconst (v := 0) hx hb dX9_isWithin_79 (by decide) ?_
        exact hJ80 (0 : Int32) u12 _ _ _ hf hw (lv_sub hl [0, 1, 2, 3] rfl)
      clear eJ79
      refine lv_if_eq (tgt := 79) hx hb dX9_isWithin_60 (by decide) (fun hc => ?_) (fun hc => ?_)
      · have hf := ifp hc hf
        exact hJ79  u0 _ _ _ hf hw (lv_sub hl [1, 2, 3, 5] rfl)
      · have hf := ifn hc hf
        refine lv_aload_n hx hb dX9_isWithin_63 rfl (lv_at hl 1 rfl) ?_
        refine lv_iload_n hx hb dX9_isWithin_64 rfl (lv_at hl 2 rfl) ?_
        refine lv_iload hx hb dX9_isWithin_65 (lv_at hl 0 rfl) ?_
        refine h_cVi (As := [.int c1, .int x8]) (rest := []) hf hx hb hml hts hown hX hw myX9_heldTo miX9_heldTo lkX9_257 ⟨rfl, by decide⟩ (fun q hq => c_X9_heldTo l E B T c0 c1 x8 u0 hq) ⟨Nat.le_of_ble_eq_true rfl, Nat.le_of_ble_eq_true rfl⟩ ⟨Nat.le_refl _, Nat.le_refl _⟩ rfl hl.1 rfl (Nat.le_of_ble_eq_true rfl) dX9_isWithin_67 (fun q13 H13 L13 hf hw => ?_)
        refine lv_iload hx hb dX9_isWithin_70 (lv_at hl 0 rfl) ?_
        refine lv_icmp_ne (tgt := 79) hx hb dX9_isWithin_72 (by decide) (fun hc => ?_) (fun hc => ?_)
        · have hf := ifn hc hf
          exact hJ79  q13.2 _ _ _ hf hw (lv_sub hl [1, 2, 3, 5] rfl)
        · have hf := ifp hc hf
          refine lv_iconst (v := 1) hx hb dX9_isWithin_75 (by decide) ?_
          refine lv_goto (tgt := 80) hx hb dX9_isWithin_76 (by decide) ?_
          exact hJ80 (1 : Int32) q13.2 _ _ _ hf hw (lv_sub hl [1, 2, 3, 5] rfl)
set_option maxRecDepth 100000 in
set_option maxHeartbeats 4000000 in
theorem wX9_isWithin {a0 : Nat} {p1 : Int32} {p2 : Int32} {u0 : hM} {z : Int32 × hM} {ls : Array Slot} (hΓ : h_Γ E B T p s m args meth c cX9_isWithin 6 (some .boolean) RX9) (hf : fX9_isWithin T a0 p1 p2 u0 = some z) (hw : h_W E B T s.heap u0 s.heap []) (hl : lv_has ls 6 [(0, .ref (B + a0)), (1, .int p1), (2, .int p2)]) : W p l e (h_rm 2) s m args below meth c s.heap [] 0 0 (h_Qi below E B T args s z) (F0 m 0 ls []) := by
  obtain ⟨hx, hb, hr, hml, hts, hown, hlk, hX⟩ := id hΓ
  unfold fX9_isWithin at hf
  refine lv_aload_n hx hb dX9_isWithin_0 rfl (lv_at hl 0 rfl) ?_
  refine h_getr hf hx hb hts hown hX hw flX9_17 rfl dX9_isWithin_1 (fun a1 hf => ?_)
  refine lv_bipush (v := 8) hx hb dX9_isWithin_4 (by decide) ?_
  refine lv_iload_n hx hb dX9_isWithin_6 rfl (lv_at hl 1 rfl) ?_
  refine lv_imul hx hb dX9_isWithin_7 ?_
  refine h_iald hf hx hb hX hw dX9_isWithin_8 (fun x2 hf => ?_)
  refine lv_iconst (v := 4) hx hb dX9_isWithin_9 (by decide) ?_
  obtain ⟨J32, eJ32, hf⟩ := h_lt hf
  have hJ32 : ∀ (x3 : Int32) (u4 : hM) (H4 : Heap) (L4 : List Loc) (ls : Array Slot), J32 x3 u4 = some z → h_W E B T s.heap u4 H4 L4 → lv_has ls 6 [(0, .ref (B + a0)), (1, .int p1), (2, .int p2)] → W p l e (h_rm 2) s m args below meth c H4 L4 0 0 (h_Qi below E B T args s z) (F0 m 32 ls [.int x3]) := by
    intro x3 u4 H4 L4 ls hf hw hl
    rw [eJ32] at hf
    refine lv_istore_n (lv' := [(3, .int x3), (0, .ref (B + a0)), (1, .int p1), (2, .int p2)]) hx hb dX9_isWithin_32 rfl hl (by decide) rfl (fun ls hl => ?_)
    refine lv_iconst (v := 0) hx hb dX9_isWithin_33 (by decide) ?_
    refine lv_istore (lv' := [(4, .int (0 : Int32)), (3, .int x3), (0, .ref (B + a0)), (1, .int p1), (2, .int p2)]) hx hb dX9_isWithin_34 hl (by decide) rfl (fun ls hl => ?_)
    refine wfX9_isWithin_L36 hΓ ?_ 6000 x3 (0 : Int32) u4 _ _ _ hf hw (lv_sub hl [2, 3, 4, 1, 0] rfl)
    intro x14 u15 H15 L15 ls hf hw hl
    refine lv_iload_n hx hb dX9_isWithin_87 rfl (lv_at hl 0 rfl) ?_
    exact h_zret hf hx hb hr hlk hw dX9_isWithin_88
  clear eJ32
  obtain ⟨J31, eJ31, hf⟩ := h_lt hf
  have hJ31 : ∀ (u16 : hM) (H16 : Heap) (L16 : List Loc) (ls : Array Slot), J31  u16 = some z → h_W E B T s.heap u16 H16 L16 → lv_has ls 6 [(0, .ref (B + a0)), (1, .int p1), (2, .int p2)] → W p l e (h_rm 2) s m args below meth c H16 L16 0 0 (h_Qi below E B T args s z) (F0 m 31 ls []) := by
    intro  u16 H16 L16 ls hf hw hl
    rw [eJ31] at hf
    refine lv_iconst (v := 0) hx hb dX9_isWithin_31 (by decide) ?_
    exact hJ32 (0 : Int32) u16 _ _ _ hf hw (lv_sub hl [0, 1, 2] rfl)
  clear eJ31
  refine lv_icmp_eq (tgt := 31) hx hb dX9_isWithin_10 (by decide) (fun hc => ?_) (fun hc => ?_)
  · have hf := ifp hc hf
    exact hJ31  u0 _ _ _ hf hw (lv_sub hl [0, 1, 2] rfl)
  · have hf := ifn hc hf
    refine lv_aload_n hx hb dX9_isWithin_13 rfl (lv_at hl 0 rfl) ?_
    refine h_getr hf hx hb hts hown hX hw flX9_17 rfl dX9_isWithin_14 (fun a17 hf => ?_)
    refine lv_bipush (v := 8) hx hb dX9_isWithin_17 (by decide) ?_
    refine lv_iload_n hx hb dX9_isWithin_19 rfl (lv_at hl 1 rfl) ?_
    refine lv_imul hx hb dX9_isWithin_20 ?_
    refine h_iald hf hx hb hX hw dX9_isWithin_21 (fun x18 hf => ?_)
    refine lv_bipush (v := 7) hx hb dX9_isWithin_22 (by decide) ?_
    refine lv_icmp_eq (tgt := 31) hx hb dX9_isWithin_24 (by decide) (fun hc => ?_) (fun hc => ?_)
    · have hf := ifp hc hf
      exact hJ31  u0 _ _ _ hf hw (lv_sub hl [0, 1, 2] rfl)
    · have hf := ifn hc hf
      refine lv_iconst (v := 1) hx hb dX9_isWithin_27 (by decide) ?_
      refine lv_goto (tgt := 32) hx hb dX9_isWithin_28 (by decide) ?_
      exact hJ32 (1 : Int32) u0 _ _ _ hf hw (lv_sub hl [0, 1, 2] rfl)
theorem c_X9_isWithin (l : Launch) (E : hE) (B : Nat) (T : hT) (a0 : Nat) (p1 : Int32) (p2 : Int32) (u0 : hM) {z : Int32 × hM} (hf : fX9_isWithin T a0 p1 p2 u0 = some z) : h_Ct l E B T yX9_isWithin cX9_isWithin 6 (some .boolean) 2 [.ref (B + a0), .int p1, .int p2] u0 z.2 (some (.int z.1)) := h_ofW (by decide) (Nat.le_of_ble_eq_true rfl) (fun p e s m below meth c ls hΓ hl hw => wX9_isWithin hΓ hf hw hl)
def fX9_key_L34 (T : hT) (c0 : Nat) (c4 : Int32) (ex : Int32 → hM → Option (Int32 × hM)) : Nat → Int32 → Int32 → hM → Option (Int32 × hM)
  | 0, _, _, _ => none
  | n + 1, v5, v6, u0 => (gti T u0 c0 9 3).bind fun x2 => if x2 ≤ v6 then (ex v5 u0) else ((vc T c0 9 (fX9_isWithin T c0 v6 c4 u0)).bind fun q3 => lt (if q3.1 = 0 then (0 : Int32) else (1 : Int32)) fun x4 => lt ((v5 + x4)) fun x5 => lt (v6 + (1 : Int32)) fun x6 => fX9_key_L34 T c0 c4 ex n x5 x6 q3.2)
def fX9_key_L21 (T : hT) (c0 : Nat) (ex : Int32 → Int32 → hM → Option (Int32 × hM)) : Nat → Int32 → Int32 → Int32 → hM → Option (Int32 × hM)
  | 0, _, _, _, _ => none
  | n + 1, v2, v3, v4, u0 => if (12 : Int32) < v4 then (ex v2 v3 u0) else (fX9_key_L34 T c0 v4 (fun (x7 : Int32) (u8 : hM) => lt (fun (x9 : Int32) (u10 : hM) => lt (if x9 = 0 then v2 else v4) fun x11 => lt (if x9 = 0 then v3 else x7) fun x12 => lt (v4 + (1 : Int32)) fun x13 => fX9_key_L21 T c0 ex n x11 x12 x13 u10) fun J99 => lt (fun (u14 : hM) => J99 (1 : Int32) u14) fun J94 => if v3 < x7 then (J94 u8) else (lt (fun (u15 : hM) => J99 (0 : Int32) u15) fun J98 => if x7 = v3 then ((fX9_size T v4 u8).bind fun q16 => (fX9_size T v2 q16.2).bind fun q17 => if q17.1 ≤ q16.1 then (J98 q17.2) else (J94 q17.2)) else (J98 u8))) 6000 (0 : Int32) (0 : Int32) u0)
def fX9_key (T : hT) (a0 : Nat) (p1 : Int32) (u0 : hM) : Option (Int32 × hM) := (fX9_in T p1.toInt64 (0 : Int64) (1 : Int64) u0).bind fun q1 => if q1.1 = 0 then (some ((-1000000002 : Int32), q1.2)) else (fX9_key_L21 T a0 (fun (x18 : Int32) (x19 : Int32) (u20 : hM) => if p1 = 0 then (some (x18, u20)) else (some (x19, u20))) 6000 (0 : Int32) (-1 : Int32) (-12 : Int32) q1.2)
set_option maxRecDepth 100000 in
set_option maxHeartbeats 4000000 in
theorem wfX9_key_L34 {c0 : Nat} {c1 : Int32} {c2 : Int32} {c3 : Int32} {c4 : Int32} {ex : Int32 → hM → Option (Int32 × hM)} {z : Int32 × hM} (hΓ : h_Γ E B T p s m args meth c cX9_key 7 (some .int) RX9) (hex : ∀ (y5 : Int32) (u9 : hM) (H9 : Heap) (L9 : List Loc) (ls : Array Slot), ex y5 u9 = some z → h_W E B T s.heap u9 H9 L9 → lv_has ls 7 [(0, .ref (B + c0)), (1, .int c1), (2, .int c2), (3, .int c3), (4, .int c4), (5, .int y5)] → W p l e (h_rm 3) s m args below meth c H9 L9 0 0 (h_Qi below E B T args s z) (F0 m 70 ls [])) : ∀ (n : Nat) (v5 : Int32) (v6 : Int32) (u0 : hM) (H0 : Heap) (L0 : List Loc) (ls : Array Slot), fX9_key_L34 T c0 c4 ex n v5 v6 u0 = some z → h_W E B T s.heap u0 H0 L0 → lv_has ls 7 [(0, .ref (B + c0)), (1, .int c1), (2, .int c2), (3, .int c3), (4, .int c4), (5, .int v5), (6, .int v6)] → W p l e (h_rm 3) s m args below meth c H0 L0 0 0 (h_Qi below E B T args s z) (F0 m 34 ls []) := by
  obtain ⟨hx, hb, hr, hml, hts, hown, hlk, hX⟩ := id hΓ
  intro n
  induction n with
  | zero =>
    intro v5 v6 u0 H0 L0 ls hf hw hl
    exact absurd (show (none : Option (Int32 × hM)) = some z from hf) (fun h => by cases h)
  | succ n ih =>
    intro v5 v6 u0 H0 L0 ls hf hw hl
    rw [fX9_key_L34] at hf
    refine lv_iload hx hb dX9_key_34 (lv_at hl 6 rfl) ?_
    refine lv_aload_n hx hb dX9_key_36 rfl (lv_at hl 0 rfl) ?_
    refine h_geti hf hx hb hts hown hX hw flX9_87 rfl dX9_key_37 (fun x2 hf => ?_)
    refine lv_icmp_ge (tgt := 70) hx hb dX9_key_40 (by decide) (fun hc => ?_) (fun hc => ?_)
    · have hf := ifp hc hf
      exact hex v5 u0 _ _ _ hf hw (lv_sub hl [0, 1, 2, 3, 4, 5] rfl)
    · have hf := ifn hc hf
      refine lv_iload hx hb dX9_key_43 (lv_at hl 5 rfl) ?_
      refine lv_aload_n hx hb dX9_key_45 rfl (lv_at hl 0 rfl) ?_
      refine lv_iload hx hb dX9_key_46 (lv_at hl 6 rfl) ?_
      refine lv_iload hx hb dX9_key_48 (lv_at hl 4 rfl) ?_
      refine h_cVi (As := [.int v6, .int c4]) (rest := [.int v5]) hf hx hb hml hts hown hX hw myX9_isWithin miX9_isWithin lkX9_340 ⟨rfl, by decide⟩ (fun q hq => c_X9_isWithin l E B T c0 v6 c4 u0 hq) ⟨Nat.le_of_ble_eq_true rfl, Nat.le_of_ble_eq_true rfl⟩ ⟨Nat.le_refl _, Nat.le_refl _⟩ rfl hl.1 rfl (Nat.le_of_ble_eq_true rfl) dX9_key_50 (fun q3 H3 L3 hf hw => ?_)
      refine h_ite (ls := ls) (jj := 61) (rest := [.int v5]) hf (fun k1 k2 => ?_) (fun x4 hf => ?_)
      · refine lv_if_eq (tgt := 60) hx hb dX9_key_53 (by decide) (fun hc => ?_) (fun hc => ?_)
        · refine lv_iconst (v := 0) hx hb dX9_key_60 (by decide) ?_
          exact k1 hc
        · refine lv_iconst (v := 1) hx hb dX9_key_56 (by decide) ?_
          refine lv_goto (tgt := 61) hx hb dX9_key_57 (by decide) ?_
          exact k2 hc
      · refine lv_iadd hx hb dX9_key_61 ?_
        refine h_nmi hf (fun x5 hf => ?_)
        refine lv_istore (lv' := [(5, .int x5), (0, .ref (B + c0)), (1, .int c1), (2, .int c2), (3, .int c3), (4, .int c4), (6, .int v6)]) hx hb dX9_key_62 hl (by decide) rfl (fun ls hl => ?_)
        refine h_iinc (k := 6) hf hx hb dX9_key_64 hl rfl (by decide) (by decide) (fun x6 ls hf hl => ?_)
        have hl : lv_has ls 7 [(6, .int x6), (5, .int x5), (0, .ref (B + c0)), (1, .int c1), (2, .int c2), (3, .int c3), (4, .int c4)] := hl
        refine lv_goto (tgt := 34) hx hb dX9_key_67 (by decide) ?_
        exact ih x5 x6 q3.2 _ _ _ hf hw (lv_sub hl [2, 3, 4, 5, 6, 1, 0] rfl)
set_option maxRecDepth 100000 in
set_option maxHeartbeats 4000000 in
theorem wfX9_key_L21 {c0 : Nat} {c1 : Int32} {ex : Int32 → Int32 → hM → Option (Int32 × hM)} {z : Int32 × hM} (hΓ : h_Γ E B T p s m args meth c cX9_key 7 (some .int) RX9) (hex : ∀ (y2 : Int32) (y3 : Int32) (u9 : hM) (H9 : Heap) (L9 : List Loc) (ls : Array Slot), ex y2 y3 u9 = some z → h_W E B T s.heap u9 H9 L9 → lv_has ls 7 [(1, .int c1), (2, .int y2), (3, .int y3)] → W p l e (h_rm 3) s m args below meth c H9 L9 0 0 (h_Qi below E B T args s z) (F0 m 131 ls [])) : ∀ (n : Nat) (v2 : Int32) (v3 : Int32) (v4 : Int32) (u0 : hM) (H0 : Heap) (L0 : List Loc) (ls : Array Slot), fX9_key_L21 T c0 ex n v2 v3 v4 u0 = some z → h_W E B T s.heap u0 H0 L0 → lv_has ls 7 [(0, .ref (B + c0)), (1, .int c1), (2, .int v2), (3, .int v3), (4, .int v4)] → W p l e (h_rm 3) s m args below meth c H0 L0 0 0 (h_Qi below E B T args s z) (F0 m 21 ls []) := by
  obtain ⟨hx, hb, hr, hml, hts, hown, hlk, hX⟩ := id hΓ
  intro n
  induction n with
  | zero =>
    intro v2 v3 v4 u0 H0 L0 ls hf hw hl
    exact absurd (show (none : Option (Int32 × hM)) = some z from hf) (fun h => by cases h)
  | succ n ih =>
    intro v2 v3 v4 u0 H0 L0 ls hf hw hl
    rw [fX9_key_L21] at hf
    refine lv_iload hx hb dX9_key_21 (lv_at hl 4 rfl) ?_
    refine lv_bipush (v := 12) hx hb dX9_key_23 (by decide) ?_
    refine lv_icmp_gt (tgt := 131) hx hb dX9_key_25 (by decide) (fun hc => ?_) (fun hc => ?_)
    · have hf := ifp hc hf
      exact hex v2 v3 u0 _ _ _ hf hw (lv_sub hl [1, 2, 3] rfl)
    · have hf := ifn hc hf
      refine lv_iconst (v := 0) hx hb dX9_key_28 (by decide) ?_
      refine lv_istore (lv' := [(5, .int (0 : Int32)), (0, .ref (B + c0)), (1, .int c1), (2, .int v2), (3, .int v3), (4, .int v4)]) hx hb dX9_key_29 hl (by decide) rfl (fun ls hl => ?_)
      refine lv_iconst (v := 0) hx hb dX9_key_31 (by decide) ?_
      refine lv_istore (lv' := [(6, .int (0 : Int32)), (5, .int (0 : Int32)), (0, .ref (B + c0)), (1, .int c1), (2, .int v2), (3, .int v3), (4, .int v4)]) hx hb dX9_key_32 hl (by decide) rfl (fun ls hl => ?_)
      refine wfX9_key_L34 hΓ ?_ 6000 (0 : Int32) (0 : Int32) u0 _ _ _ hf hw (lv_sub hl [2, 3, 4, 5, 6, 1, 0] rfl)
      intro x7 u8 H8 L8 ls hf hw hl
      refine lv_iload hx hb dX9_key_70 (lv_at hl 5 rfl) ?_
      refine lv_iload_n hx hb dX9_key_72 rfl (lv_at hl 3 rfl) ?_
      obtain ⟨J99, eJ99, hf⟩ := h_lt hf
      have hJ99 : ∀ (x9 : Int32) (u10 : hM) (H10 : Heap) (L10 : List Loc) (ls : Array Slot), J99 x9 u10 = some z → h_W E B T s.heap u10 H10 L10 → lv_has ls 7 [(0, .ref (B + c0)), (1, .int c1), (2, .int v2), (3, .int v3), (4, .int v4), (5, .int x7)] → W p l e (h_rm 3) s m args below meth c H10 L10 0 0 (h_Qi below E B T args s z) (F0 m 99 ls [.int x9]) := by
        intro x9 u10 H10 L10 ls hf hw hl
        rw [eJ99] at hf
        refine lv_istore (lv' := [(6, .int x9), (0, .ref (B + c0)), (1, .int c1), (2, .int v2), (3, .int v3), (4, .int v4), (5, .int x7)]) hx hb dX9_key_99 hl (by decide) rfl (fun ls hl => ?_)
        refine lv_iload hx hb dX9_key_101 (lv_at hl 0 rfl) ?_
        refine h_ite (ls := ls) (jj := 112) (rest := []) hf (fun k1 k2 => ?_) (fun x11 hf => ?_)
        · refine lv_if_eq (tgt := 111) hx hb dX9_key_103 (by decide) (fun hc => ?_) (fun hc => ?_)
          · refine lv_iload_n hx hb dX9_key_111 rfl (lv_at hl 3 rfl) ?_
            exact k1 hc
          · refine lv_iload hx hb dX9_key_106 (lv_at hl 5 rfl) ?_
            refine lv_goto (tgt := 112) hx hb dX9_key_108 (by decide) ?_
            exact k2 hc
        · refine lv_istore_n (lv' := [(2, .int x11), (6, .int x9), (0, .ref (B + c0)), (1, .int c1), (3, .int v3), (4, .int v4), (5, .int x7)]) hx hb dX9_key_112 rfl hl (by decide) rfl (fun ls hl => ?_)
          refine lv_iload hx hb dX9_key_113 (lv_at hl 1 rfl) ?_
          refine h_ite (ls := ls) (jj := 124) (rest := []) hf (fun k1 k2 => ?_) (fun x12 hf => ?_)
          · refine lv_if_eq (tgt := 123) hx hb dX9_key_115 (by decide) (fun hc => ?_) (fun hc => ?_)
            · refine lv_iload_n hx hb dX9_key_123 rfl (lv_at hl 4 rfl) ?_
              exact k1 hc
            · refine lv_iload hx hb dX9_key_118 (lv_at hl 6 rfl) ?_
              refine lv_goto (tgt := 124) hx hb dX9_key_120 (by decide) ?_
              exact k2 hc
          · refine lv_istore_n (lv' := [(3, .int x12), (2, .int x11), (6, .int x9), (0, .ref (B + c0)), (1, .int c1), (4, .int v4), (5, .int x7)]) hx hb dX9_key_124 rfl hl (by decide) rfl (fun ls hl => ?_)
            refine h_iinc (k := 5) hf hx hb dX9_key_125 hl rfl (by decide) (by decide) (fun x13 ls hf hl => ?_)
            have hl : lv_has ls 7 [(4, .int x13), (3, .int x12), (2, .int x11), (6, .int x9), (0, .ref (B + c0)), (1, .int c1), (5, .int x7)] := hl
            refine lv_goto (tgt := 21) hx hb dX9_key_128 (by decide) ?_
            exact ih x11 x12 x13 u10 _ _ _ hf hw (lv_sub hl [4, 5, 2, 1, 0] rfl)
      clear eJ99
      obtain ⟨J94, eJ94, hf⟩ := h_lt hf
      have hJ94 : ∀ (u14 : hM) (H14 : Heap) (L14 : List Loc) (ls : Array Slot), J94  u14 = some z → h_W E B T s.heap u14 H14 L14 → lv_has ls 7 [(0, .ref (B + c0)), (1, .int c1), (2, .int v2), (3, .int v3), (4, .int v4), (5, .int x7)] → W p l e (h_rm 3) s m args below meth c H14 L14 0 0 (h_Qi below E B T args s z) (F0 m 94 ls []) := by
        intro  u14 H14 L14 ls hf hw hl
        rw [eJ94] at hf
        refine lv_iconst (v := 1) hx hb dX9_key_94 (by decide) ?_
        refine lv_goto (tgt := 99) hx hb dX9_key_95 (by decide) ?_
        exact hJ99 (1 : Int32) u14 _ _ _ hf hw (lv_sub hl [0, 1, 2, 3, 4, 5] rfl)
      clear eJ94
      refine lv_icmp_gt (tgt := 94) hx hb dX9_key_73 (by decide) (fun hc => ?_) (fun hc => ?_)
      · have hf := ifp hc hf
        exact hJ94  u8 _ _ _ hf hw (lv_sub hl [0, 1, 2, 3, 4, 5] rfl)
      · have hf := ifn hc hf
        refine lv_iload hx hb dX9_key_76 (lv_at hl 5 rfl) ?_
        refine lv_iload_n hx hb dX9_key_78 rfl (lv_at hl 3 rfl) ?_
        obtain ⟨J98, eJ98, hf⟩ := h_lt hf
        have hJ98 : ∀ (u15 : hM) (H15 : Heap) (L15 : List Loc) (ls : Array Slot), J98  u15 = some z → h_W E B T s.heap u15 H15 L15 → lv_has ls 7 [(0, .ref (B + c0)), (1, .int c1), (2, .int v2), (3, .int v3), (4, .int v4), (5, .int x7)] → W p l e (h_rm 3) s m args below meth c H15 L15 0 0 (h_Qi below E B T args s z) (F0 m 98 ls []) := by
          intro  u15 H15 L15 ls hf hw hl
          rw [eJ98] at hf
          refine lv_iconst (v := 0) hx hb dX9_key_98 (by decide) ?_
          exact hJ99 (0 : Int32) u15 _ _ _ hf hw (lv_sub hl [0, 1, 2, 3, 4, 5] rfl)
        clear eJ98
        refine lv_icmp_ne (tgt := 98) hx hb dX9_key_79 (by decide) (fun hc => ?_) (fun hc => ?_)
        · have hf := ifn hc hf
          exact hJ98  u8 _ _ _ hf hw (lv_sub hl [0, 1, 2, 3, 4, 5] rfl)
        · have hf := ifp hc hf
          refine lv_iload hx hb dX9_key_82 (lv_at hl 4 rfl) ?_
          refine h_cSi (As := [.int v4]) (rest := []) hf hx hb hml hts hown hX hw myX9_size msX9_size lkX9_243 (fun q hq => c_X9_size l E B T v4 u8 hq) ⟨Nat.le_of_ble_eq_true rfl, Nat.le_of_ble_eq_true rfl⟩ ⟨Nat.le_refl _, Nat.le_refl _⟩ rfl hl.1 rfl (Nat.le_of_ble_eq_true rfl) dX9_key_84 (fun q16 H16 L16 hf hw => ?_)
          refine lv_iload_n hx hb dX9_key_87 rfl (lv_at hl 2 rfl) ?_
          refine h_cSi (As := [.int v2]) (rest := [.int q16.1]) hf hx hb hml hts hown hX hw myX9_size msX9_size lkX9_243 (fun q hq => c_X9_size l E B T v2 q16.2 hq) ⟨Nat.le_of_ble_eq_true rfl, Nat.le_of_ble_eq_true rfl⟩ ⟨Nat.le_refl _, Nat.le_refl _⟩ rfl hl.1 rfl (Nat.le_of_ble_eq_true rfl) dX9_key_88 (fun q17 H17 L17 hf hw => ?_)
          refine lv_icmp_ge (tgt := 98) hx hb dX9_key_91 (by decide) (fun hc => ?_) (fun hc => ?_)
          · have hf := ifp hc hf
            exact hJ98  q17.2 _ _ _ hf hw (lv_sub hl [0, 1, 2, 3, 4, 5] rfl)
          · have hf := ifn hc hf
            exact hJ94  q17.2 _ _ _ hf hw (lv_sub hl [0, 1, 2, 3, 4, 5] rfl)
set_option maxRecDepth 100000 in
set_option maxHeartbeats 4000000 in
theorem wX9_key {a0 : Nat} {p1 : Int32} {u0 : hM} {z : Int32 × hM} {ls : Array Slot} (hΓ : h_Γ E B T p s m args meth c cX9_key 7 (some .int) RX9) (hf : fX9_key T a0 p1 u0 = some z) (hw : h_W E B T s.heap u0 s.heap []) (hl : lv_has ls 7 [(0, .ref (B + a0)), (1, .int p1)]) : W p l e (h_rm 3) s m args below meth c s.heap [] 0 0 (h_Qi below E B T args s z) (F0 m 0 ls []) := by
  obtain ⟨hx, hb, hr, hml, hts, hown, hlk, hX⟩ := id hΓ
  unfold fX9_key at hf
  refine lv_iload_n hx hb dX9_key_0 rfl (lv_at hl 1 rfl) ?_
  refine lv_i2l hx hb dX9_key_1 rfl ?_
  refine lv_lconst (v := 0) hx hb dX9_key_2 (by decide) ?_
  refine lv_lconst (v := 1) hx hb dX9_key_3 (by decide) ?_
  refine h_cSi (As := [.long p1.toInt64, .long (0 : Int64), .long (1 : Int64)]) (rest := []) hf hx hb hml hts hown hX hw myX9_in msX9_in lkX9_90 (fun q hq => c_X9_in l E B T p1.toInt64 (0 : Int64) (1 : Int64) u0 hq) ⟨Nat.le_of_ble_eq_true rfl, Nat.le_of_ble_eq_true rfl⟩ ⟨Nat.le_refl _, Nat.le_refl _⟩ rfl hl.1 rfl (Nat.le_of_ble_eq_true rfl) dX9_key_4 (fun q1 H1 L1 hf hw => ?_)
  refine lv_if_ne (tgt := 13) hx hb dX9_key_7 (by decide) (fun hc => ?_) (fun hc => ?_)
  · have hf := ifn hc hf
    refine lv_iconst (v := 0) hx hb dX9_key_13 (by decide) ?_
    refine lv_istore_n (lv' := [(2, .int (0 : Int32)), (0, .ref (B + a0)), (1, .int p1)]) hx hb dX9_key_14 rfl hl (by decide) rfl (fun ls hl => ?_)
    refine lv_iconst (v := -1) hx hb dX9_key_15 (by decide) ?_
    refine lv_istore_n (lv' := [(3, .int (-1 : Int32)), (2, .int (0 : Int32)), (0, .ref (B + a0)), (1, .int p1)]) hx hb dX9_key_16 rfl hl (by decide) rfl (fun ls hl => ?_)
    refine lv_bipush (v := -12) hx hb dX9_key_17 (by decide) ?_
    refine lv_istore (lv' := [(4, .int (-12 : Int32)), (3, .int (-1 : Int32)), (2, .int (0 : Int32)), (0, .ref (B + a0)), (1, .int p1)]) hx hb dX9_key_19 hl (by decide) rfl (fun ls hl => ?_)
    refine wfX9_key_L21 hΓ ?_ 6000 (0 : Int32) (-1 : Int32) (-12 : Int32) q1.2 _ _ _ hf hw (lv_sub hl [3, 4, 2, 1, 0] rfl)
    intro x18 x19 u20 H20 L20 ls hf hw hl
    refine lv_iload_n hx hb dX9_key_131 rfl (lv_at hl 0 rfl) ?_
    refine lv_if_ne (tgt := 139) hx hb dX9_key_132 (by decide) (fun hc => ?_) (fun hc => ?_)
    · have hf := ifn hc hf
      refine lv_iload_n hx hb dX9_key_139 rfl (lv_at hl 2 rfl) ?_
      exact h_iret hf hx hb hr hlk hw dX9_key_140
    · have hf := ifp hc hf
      refine lv_iload_n hx hb dX9_key_135 rfl (lv_at hl 1 rfl) ?_
      refine lv_goto (tgt := 140) hx hb dX9_key_136 (by decide) ?_
      exact h_iret hf hx hb hr hlk hw dX9_key_140
  · have hf := ifp hc hf
    refine lv_ldc hx hb hown (hts _ kcX9_99) dX9_key_10 ?_
    exact h_iret hf hx hb hr hlk hw dX9_key_12
theorem c_X9_key (l : Launch) (E : hE) (B : Nat) (T : hT) (a0 : Nat) (p1 : Int32) (u0 : hM) {z : Int32 × hM} (hf : fX9_key T a0 p1 u0 = some z) : h_Ct l E B T yX9_key cX9_key 7 (some .int) 3 [.ref (B + a0), .int p1] u0 z.2 (some (.int z.1)) := h_ofW (by decide) (Nat.le_of_ble_eq_true rfl) (fun p e s m below meth c ls hΓ hl hw => wX9_key hΓ hf hw hl)
def fX9_age_L88 (T : hT) (c0 : Nat) (c1 : Int32) (ex : hM → Option (Int32 × hM)) : Nat → Int32 → hM → Option (Int32 × hM)
  | 0, _, _ => none
  | n + 1, v5, u0 => if (4 : Int32) ≤ v5 then (ex u0) else ((vc T c0 9 (fX9_teach T c0 c1 v5 u0)).bind fun q7 => lt (v5 + (1 : Int32)) fun x8 => fX9_age_L88 T c0 c1 ex n x8 q7)
def fX9_age_L20 (T : hT) (c0 : Nat) (c1 : Int32) (ex : Int32 → hM → Option (Int32 × hM)) : Nat → Int32 → Int32 → hM → Option (Int32 × hM)
  | 0, _, _, _ => none
  | n + 1, v2, v3, u0 => if (30 : Int32) < v3 then (ex v2 u0) else (if 0 ≤ v2 then (ex v2 u0) else ((gti T u0 c0 9 0).bind fun x3 => lt (fun (x4 : Int32) (u5 : hM) => lt (if x4 = 0 then (-1 : Int32) else v3) fun x6 => fX9_age_L88 T c0 c1 (fun (u9 : hM) => lt (v3 + (1 : Int32)) fun x10 => fX9_age_L20 T c0 c1 ex n x6 x10 u9) 6000 (0 : Int32) u5) fun J72 => lt (fun (u11 : hM) => J72 (0 : Int32) u11) fun J71 => if x3 ≤ 0 then (J71 u0) else ((gtr T u0 c0 9 4).bind fun a12 => (ald 11 T u0 a12 ((8 : Int32) * c1)).bind fun x13 => if x13 = (7 : Int32) then (J71 u0) else ((vc T c0 9 (fX9_plainScore T c0 c1 u0)).bind fun q14 => (gti T q14.2 c0 9 0).bind fun x15 => if q14.1 = (((2 : Int32) * x15) - (1 : Int32)) then (J72 (1 : Int32) q14.2) else (J71 q14.2)))))
def fX9_age (T : hT) (a0 : Nat) (p1 : Int32) (u0 : hM) : Option (Int32 × hM) := (vc T a0 9 (fX9_isSinger T a0 p1 u0)).bind fun q1 => if q1.1 = 0 then (some ((-1000000001 : Int32), q1.2)) else ((vc T a0 9 (fX9_hold T a0 p1 q1.2)).bind fun q2 => fX9_age_L20 T a0 p1 (fun (x16 : Int32) (u17 : hM) => (vc T a0 9 (fX9_putBack T a0 p1 u17)).bind fun q18 => some (x16, q18)) 6000 (-1 : Int32) (0 : Int32) q2)
set_option maxRecDepth 100000 in
set_option maxHeartbeats 4000000 in
theorem wfX9_age_L88 {c0 : Nat} {c1 : Int32} {c2 : Int32} {c3 : Int32} {ex : hM → Option (Int32 × hM)} {z : Int32 × hM} (hΓ : h_Γ E B T p s m args meth c cX9_age 6 (some .int) RX9) (hex : ∀ (u9 : hM) (H9 : Heap) (L9 : List Loc) (ls : Array Slot), ex u9 = some z → h_W E B T s.heap u9 H9 L9 → lv_has ls 6 [(0, .ref (B + c0)), (1, .int c1), (2, .int c2), (3, .int c3)] → W p l e (h_rm 4) s m args below meth c H9 L9 0 0 (h_Qi below E B T args s z) (F0 m 107 ls [])) : ∀ (n : Nat) (v5 : Int32) (u0 : hM) (H0 : Heap) (L0 : List Loc) (ls : Array Slot), fX9_age_L88 T c0 c1 ex n v5 u0 = some z → h_W E B T s.heap u0 H0 L0 → lv_has ls 6 [(0, .ref (B + c0)), (1, .int c1), (2, .int c2), (3, .int c3), (5, .int v5)] → W p l e (h_rm 4) s m args below meth c H0 L0 0 0 (h_Qi below E B T args s z) (F0 m 88 ls []) := by
  obtain ⟨hx, hb, hr, hml, hts, hown, hlk, hX⟩ := id hΓ
  intro n
  induction n with
  | zero =>
    intro v5 u0 H0 L0 ls hf hw hl
    exact absurd (show (none : Option (Int32 × hM)) = some z from hf) (fun h => by cases h)
  | succ n ih =>
    intro v5 u0 H0 L0 ls hf hw hl
    rw [fX9_age_L88] at hf
    refine lv_iload hx hb dX9_age_88 (lv_at hl 4 rfl) ?_
    refine lv_iconst (v := 4) hx hb dX9_age_90 (by decide) ?_
    refine lv_icmp_ge (tgt := 107) hx hb dX9_age_91 (by decide) (fun hc => ?_) (fun hc => ?_)
    · have hf := ifp hc hf
      exact hex  u0 _ _ _ hf hw (lv_sub hl [0, 1, 2, 3] rfl)
    · have hf := ifn hc hf
      refine lv_aload_n hx hb dX9_age_94 rfl (lv_at hl 0 rfl) ?_
      refine lv_iload_n hx hb dX9_age_95 rfl (lv_at hl 1 rfl) ?_
      refine lv_iload hx hb dX9_age_96 (lv_at hl 4 rfl) ?_
      refine h_cVv (As := [.int c1, .int v5]) (rest := []) hf hx hb hml hts hown hX hw myX9_teach miX9_teach lkX9_321 ⟨rfl, by decide⟩ (fun q hq => c_X9_teach l E B T c0 c1 v5 u0 hq) ⟨Nat.le_of_ble_eq_true rfl, Nat.le_of_ble_eq_true rfl⟩ ⟨Nat.le_refl _, Nat.le_refl _⟩ rfl hl.1 rfl (Nat.le_of_ble_eq_true rfl) dX9_age_98 (fun q7 H7 L7 hf hw => ?_)
      refine h_iinc (k := 4) hf hx hb dX9_age_101 hl rfl (by decide) (by decide) (fun x8 ls hf hl => ?_)
      have hl : lv_has ls 6 [(5, .int x8), (0, .ref (B + c0)), (1, .int c1), (2, .int c2), (3, .int c3)] := hl
      refine lv_goto (tgt := 88) hx hb dX9_age_104 (by decide) ?_
      exact ih x8 q7 _ _ _ hf hw (lv_sub hl [1, 2, 3, 4, 0] rfl)
set_option maxRecDepth 100000 in
set_option maxHeartbeats 4000000 in
theorem wfX9_age_L20 {c0 : Nat} {c1 : Int32} {ex : Int32 → hM → Option (Int32 × hM)} {z : Int32 × hM} (hΓ : h_Γ E B T p s m args meth c cX9_age 6 (some .int) RX9) (hex : ∀ (y2 : Int32) (u9 : hM) (H9 : Heap) (L9 : List Loc) (ls : Array Slot), ex y2 u9 = some z → h_W E B T s.heap u9 H9 L9 → lv_has ls 6 [(0, .ref (B + c0)), (1, .int c1), (2, .int y2)] → W p l e (h_rm 4) s m args below meth c H9 L9 0 0 (h_Qi below E B T args s z) (F0 m 113 ls [])) : ∀ (n : Nat) (v2 : Int32) (v3 : Int32) (u0 : hM) (H0 : Heap) (L0 : List Loc) (ls : Array Slot), fX9_age_L20 T c0 c1 ex n v2 v3 u0 = some z → h_W E B T s.heap u0 H0 L0 → lv_has ls 6 [(0, .ref (B + c0)), (1, .int c1), (2, .int v2), (3, .int v3)] → W p l e (h_rm 4) s m args below meth c H0 L0 0 0 (h_Qi below E B T args s z) (F0 m 20 ls []) := by
  obtain ⟨hx, hb, hr, hml, hts, hown, hlk, hX⟩ := id hΓ
  intro n
  induction n with
  | zero =>
    intro v2 v3 u0 H0 L0 ls hf hw hl
    exact absurd (show (none : Option (Int32 × hM)) = some z from hf) (fun h => by cases h)
  | succ n ih =>
    intro v2 v3 u0 H0 L0 ls hf hw hl
    rw [fX9_age_L20] at hf
    refine lv_iload_n hx hb dX9_age_20 rfl (lv_at hl 3 rfl) ?_
    refine lv_bipush (v := 30) hx hb dX9_age_21 (by decide) ?_
    refine lv_icmp_gt (tgt := 113) hx hb dX9_age_23 (by decide) (fun hc => ?_) (fun hc => ?_)
    · have hf := ifp hc hf
      exact hex v2 u0 _ _ _ hf hw (lv_sub hl [0, 1, 2] rfl)
    · have hf := ifn hc hf
      refine lv_iload_n hx hb dX9_age_26 rfl (lv_at hl 2 rfl) ?_
      refine lv_if_ge (tgt := 113) hx hb dX9_age_27 (by decide) (fun hc => ?_) (fun hc => ?_)
      · have hf := ifp hc hf
        exact hex v2 u0 _ _ _ hf hw (lv_sub hl [0, 1, 2] rfl)
      · have hf := ifn hc hf
        refine lv_aload_n hx hb dX9_age_30 rfl (lv_at hl 0 rfl) ?_
        refine h_geti hf hx hb hts hown hX hw flX9_178 rfl dX9_age_31 (fun x3 hf => ?_)
        obtain ⟨J72, eJ72, hf⟩ := h_lt hf
        have hJ72 : ∀ (x4 : Int32) (u5 : hM) (H5 : Heap) (L5 : List Loc) (ls : Array Slot), J72 x4 u5 = some z → h_W E B T s.heap u5 H5 L5 → lv_has ls 6 [(0, .ref (B + c0)), (1, .int c1), (3, .int v3)] → W p l e (h_rm 4) s m args below meth c H5 L5 0 0 (h_Qi below E B T args s z) (F0 m 72 ls [.int x4]) := by
          intro x4 u5 H5 L5 ls hf hw hl
          rw [eJ72] at hf
          refine lv_istore (lv' := [(4, .int x4), (0, .ref (B + c0)), (1, .int c1), (3, .int v3)]) hx hb dX9_age_72 hl (by decide) rfl (fun ls hl => ?_)
          refine lv_iload hx hb dX9_age_74 (lv_at hl 0 rfl) ?_
          refine h_ite (ls := ls) (jj := 84) (rest := []) hf (fun k1 k2 => ?_) (fun x6 hf => ?_)
          · refine lv_if_eq (tgt := 83) hx hb dX9_age_76 (by decide) (fun hc => ?_) (fun hc => ?_)
            · refine lv_iconst (v := -1) hx hb dX9_age_83 (by decide) ?_
              exact k1 hc
            · refine lv_iload_n hx hb dX9_age_79 rfl (lv_at hl 3 rfl) ?_
              refine lv_goto (tgt := 84) hx hb dX9_age_80 (by decide) ?_
              exact k2 hc
          · refine lv_istore_n (lv' := [(2, .int x6), (4, .int x4), (0, .ref (B + c0)), (1, .int c1), (3, .int v3)]) hx hb dX9_age_84 rfl hl (by decide) rfl (fun ls hl => ?_)
            refine lv_iconst (v := 0) hx hb dX9_age_85 (by decide) ?_
            refine lv_istore (lv' := [(5, .int (0 : Int32)), (2, .int x6), (4, .int x4), (0, .ref (B + c0)), (1, .int c1), (3, .int v3)]) hx hb dX9_age_86 hl (by decide) rfl (fun ls hl => ?_)
            refine wfX9_age_L88 hΓ ?_ 6000 (0 : Int32) u5 _ _ _ hf hw (lv_sub hl [3, 4, 1, 5, 0] rfl)
            intro u9 H9 L9 ls hf hw hl
            refine h_iinc (k := 3) hf hx hb dX9_age_107 hl rfl (by decide) (by decide) (fun x10 ls hf hl => ?_)
            have hl : lv_has ls 6 [(3, .int x10), (0, .ref (B + c0)), (1, .int c1), (2, .int x6)] := hl
            refine lv_goto (tgt := 20) hx hb dX9_age_110 (by decide) ?_
            exact ih x6 x10 u9 _ _ _ hf hw (lv_sub hl [1, 2, 3, 0] rfl)
        clear eJ72
        obtain ⟨J71, eJ71, hf⟩ := h_lt hf
        have hJ71 : ∀ (u11 : hM) (H11 : Heap) (L11 : List Loc) (ls : Array Slot), J71  u11 = some z → h_W E B T s.heap u11 H11 L11 → lv_has ls 6 [(0, .ref (B + c0)), (1, .int c1), (3, .int v3)] → W p l e (h_rm 4) s m args below meth c H11 L11 0 0 (h_Qi below E B T args s z) (F0 m 71 ls []) := by
          intro  u11 H11 L11 ls hf hw hl
          rw [eJ71] at hf
          refine lv_iconst (v := 0) hx hb dX9_age_71 (by decide) ?_
          exact hJ72 (0 : Int32) u11 _ _ _ hf hw (lv_sub hl [0, 1, 2] rfl)
        clear eJ71
        refine lv_if_le (tgt := 71) hx hb dX9_age_34 (by decide) (fun hc => ?_) (fun hc => ?_)
        · have hf := ifp hc hf
          exact hJ71  u0 _ _ _ hf hw (lv_sub hl [0, 1, 3] rfl)
        · have hf := ifn hc hf
          refine lv_aload_n hx hb dX9_age_37 rfl (lv_at hl 0 rfl) ?_
          refine h_getr hf hx hb hts hown hX hw flX9_17 rfl dX9_age_38 (fun a12 hf => ?_)
          refine lv_bipush (v := 8) hx hb dX9_age_41 (by decide) ?_
          refine lv_iload_n hx hb dX9_age_43 rfl (lv_at hl 1 rfl) ?_
          refine lv_imul hx hb dX9_age_44 ?_
          refine h_iald hf hx hb hX hw dX9_age_45 (fun x13 hf => ?_)
          refine lv_bipush (v := 7) hx hb dX9_age_46 (by decide) ?_
          refine lv_icmp_eq (tgt := 71) hx hb dX9_age_48 (by decide) (fun hc => ?_) (fun hc => ?_)
          · have hf := ifp hc hf
            exact hJ71  u0 _ _ _ hf hw (lv_sub hl [0, 1, 3] rfl)
          · have hf := ifn hc hf
            refine lv_aload_n hx hb dX9_age_51 rfl (lv_at hl 0 rfl) ?_
            refine lv_iload_n hx hb dX9_age_52 rfl (lv_at hl 1 rfl) ?_
            refine h_cVi (As := [.int c1]) (rest := []) hf hx hb hml hts hown hX hw myX9_plainScore miX9_plainScore lkX9_325 ⟨rfl, by decide⟩ (fun q hq => c_X9_plainScore l E B T c0 c1 u0 hq) ⟨Nat.le_of_ble_eq_true rfl, Nat.le_of_ble_eq_true rfl⟩ ⟨Nat.le_refl _, Nat.le_refl _⟩ rfl hl.1 rfl (Nat.le_of_ble_eq_true rfl) dX9_age_53 (fun q14 H14 L14 hf hw => ?_)
            refine lv_iconst (v := 2) hx hb dX9_age_56 (by decide) ?_
            refine lv_aload_n hx hb dX9_age_57 rfl (lv_at hl 0 rfl) ?_
            refine h_geti hf hx hb hts hown hX hw flX9_178 rfl dX9_age_58 (fun x15 hf => ?_)
            refine lv_imul hx hb dX9_age_61 ?_
            refine lv_iconst (v := 1) hx hb dX9_age_62 (by decide) ?_
            refine lv_isub hx hb dX9_age_63 ?_
            refine lv_icmp_ne (tgt := 71) hx hb dX9_age_64 (by decide) (fun hc => ?_) (fun hc => ?_)
            · have hf := ifn hc hf
              exact hJ71  q14.2 _ _ _ hf hw (lv_sub hl [0, 1, 3] rfl)
            · have hf := ifp hc hf
              refine lv_iconst (v := 1) hx hb dX9_age_67 (by decide) ?_
              refine lv_goto (tgt := 72) hx hb dX9_age_68 (by decide) ?_
              exact hJ72 (1 : Int32) q14.2 _ _ _ hf hw (lv_sub hl [0, 1, 3] rfl)
set_option maxRecDepth 100000 in
set_option maxHeartbeats 4000000 in
theorem wX9_age {a0 : Nat} {p1 : Int32} {u0 : hM} {z : Int32 × hM} {ls : Array Slot} (hΓ : h_Γ E B T p s m args meth c cX9_age 6 (some .int) RX9) (hf : fX9_age T a0 p1 u0 = some z) (hw : h_W E B T s.heap u0 s.heap []) (hl : lv_has ls 6 [(0, .ref (B + a0)), (1, .int p1)]) : W p l e (h_rm 4) s m args below meth c s.heap [] 0 0 (h_Qi below E B T args s z) (F0 m 0 ls []) := by
  obtain ⟨hx, hb, hr, hml, hts, hown, hlk, hX⟩ := id hΓ
  unfold fX9_age at hf
  refine lv_aload_n hx hb dX9_age_0 rfl (lv_at hl 0 rfl) ?_
  refine lv_iload_n hx hb dX9_age_1 rfl (lv_at hl 1 rfl) ?_
  refine h_cVi (As := [.int p1]) (rest := []) hf hx hb hml hts hown hX hw myX9_isSinger miX9_isSinger lkX9_217 ⟨rfl, by decide⟩ (fun q hq => c_X9_isSinger l E B T a0 p1 u0 hq) ⟨Nat.le_of_ble_eq_true rfl, Nat.le_of_ble_eq_true rfl⟩ ⟨Nat.le_refl _, Nat.le_refl _⟩ rfl hl.1 rfl (Nat.le_of_ble_eq_true rfl) dX9_age_2 (fun q1 H1 L1 hf hw => ?_)
  refine lv_if_ne (tgt := 11) hx hb dX9_age_5 (by decide) (fun hc => ?_) (fun hc => ?_)
  · have hf := ifn hc hf
    refine lv_iconst (v := -1) hx hb dX9_age_11 (by decide) ?_
    refine lv_istore_n (lv' := [(2, .int (-1 : Int32)), (0, .ref (B + a0)), (1, .int p1)]) hx hb dX9_age_12 rfl hl (by decide) rfl (fun ls hl => ?_)
    refine lv_aload_n hx hb dX9_age_13 rfl (lv_at hl 1 rfl) ?_
    refine lv_iload_n hx hb dX9_age_14 rfl (lv_at hl 2 rfl) ?_
    refine h_cVv (As := [.int p1]) (rest := []) hf hx hb hml hts hown hX hw myX9_hold miX9_hold lkX9_330 ⟨rfl, by decide⟩ (fun q hq => c_X9_hold l E B T a0 p1 q1.2 hq) ⟨Nat.le_of_ble_eq_true rfl, Nat.le_of_ble_eq_true rfl⟩ ⟨Nat.le_refl _, Nat.le_refl _⟩ rfl hl.1 rfl (Nat.le_of_ble_eq_true rfl) dX9_age_15 (fun q2 H2 L2 hf hw => ?_)
    refine lv_iconst (v := 0) hx hb dX9_age_18 (by decide) ?_
    refine lv_istore_n (lv' := [(3, .int (0 : Int32)), (2, .int (-1 : Int32)), (0, .ref (B + a0)), (1, .int p1)]) hx hb dX9_age_19 rfl hl (by decide) rfl (fun ls hl => ?_)
    refine wfX9_age_L20 hΓ ?_ 6000 (-1 : Int32) (0 : Int32) q2 _ _ _ hf hw (lv_sub hl [2, 3, 1, 0] rfl)
    intro x16 u17 H17 L17 ls hf hw hl
    refine lv_aload_n hx hb dX9_age_113 rfl (lv_at hl 0 rfl) ?_
    refine lv_iload_n hx hb dX9_age_114 rfl (lv_at hl 1 rfl) ?_
    refine h_cVv (As := [.int p1]) (rest := []) hf hx hb hml hts hown hX hw myX9_putBack miX9_putBack lkX9_337 ⟨rfl, by decide⟩ (fun q hq => c_X9_putBack l E B T a0 p1 u17 hq) ⟨Nat.le_of_ble_eq_true rfl, Nat.le_of_ble_eq_true rfl⟩ ⟨Nat.le_refl _, Nat.le_refl _⟩ rfl hl.1 rfl (Nat.le_of_ble_eq_true rfl) dX9_age_115 (fun q18 H18 L18 hf hw => ?_)
    refine lv_iload_n hx hb dX9_age_118 rfl (lv_at hl 2 rfl) ?_
    exact h_iret hf hx hb hr hlk hw dX9_age_119
  · have hf := ifp hc hf
    refine lv_ldc hx hb hown (hts _ kcX9_216) dX9_age_8 ?_
    exact h_iret hf hx hb hr hlk hw dX9_age_10
theorem c_X9_age (l : Launch) (E : hE) (B : Nat) (T : hT) (a0 : Nat) (p1 : Int32) (u0 : hM) {z : Int32 × hM} (hf : fX9_age T a0 p1 u0 = some z) : h_Ct l E B T yX9_age cX9_age 6 (some .int) 4 [.ref (B + a0), .int p1] u0 z.2 (some (.int z.1)) := h_ofW (by decide) (Nat.le_of_ble_eq_true rfl) (fun p e s m below meth c ls hΓ hl hw => wX9_age hΓ hf hw hl)
def fX9_figures_L2 (T : hT) (c0 : Int32) (ex : Int32 → hM → Option (Int32 × hM)) : Nat → Int32 → hM → Option (Int32 × hM)
  | 0, _, _ => none
  | n + 1, v1, u0 => if c0 ≤ ((1 : Int32) <<< (v1 &&& 31)) then (ex v1 u0) else (lt (v1 + (1 : Int32)) fun x1 => fX9_figures_L2 T c0 ex n x1 u0)
def fX9_figures (T : hT) (p0 : Int32) (u0 : hM) : Option (Int32 × hM) := fX9_figures_L2 T p0 (fun (x2 : Int32) (u3 : hM) => some (x2, u3)) 6000 (0 : Int32) u0
set_option maxRecDepth 100000 in
set_option maxHeartbeats 4000000 in
theorem wfX9_figures_L2 {c0 : Int32} {ex : Int32 → hM → Option (Int32 × hM)} {z : Int32 × hM} (hΓ : h_Γ E B T p s m args meth c cX9_figures 2 (some .int) RX9) (hex : ∀ (y1 : Int32) (u9 : hM) (H9 : Heap) (L9 : List Loc) (ls : Array Slot), ex y1 u9 = some z → h_W E B T s.heap u9 H9 L9 → lv_has ls 2 [(1, .int y1)] → W p l e (h_rm 0) s m args below meth c H9 L9 0 0 (h_Qi below E B T args s z) (F0 m 15 ls [])) : ∀ (n : Nat) (v1 : Int32) (u0 : hM) (H0 : Heap) (L0 : List Loc) (ls : Array Slot), fX9_figures_L2 T c0 ex n v1 u0 = some z → h_W E B T s.heap u0 H0 L0 → lv_has ls 2 [(0, .int c0), (1, .int v1)] → W p l e (h_rm 0) s m args below meth c H0 L0 0 0 (h_Qi below E B T args s z) (F0 m 2 ls []) := by
  obtain ⟨hx, hb, hr, hml, hts, hown, hlk, hX⟩ := id hΓ
  intro n
  induction n with
  | zero =>
    intro v1 u0 H0 L0 ls hf hw hl
    exact absurd (show (none : Option (Int32 × hM)) = some z from hf) (fun h => by cases h)
  | succ n ih =>
    intro v1 u0 H0 L0 ls hf hw hl
    rw [fX9_figures_L2] at hf
    refine lv_iconst (v := 1) hx hb dX9_figures_2 (by decide) ?_
    refine lv_iload_n hx hb dX9_figures_3 rfl (lv_at hl 1 rfl) ?_
    refine lv_ishl hx hb dX9_figures_4 ?_
    refine lv_iload_n hx hb dX9_figures_5 rfl (lv_at hl 0 rfl) ?_
    refine lv_icmp_ge (tgt := 15) hx hb dX9_figures_6 (by decide) (fun hc => ?_) (fun hc => ?_)
    · have hf := ifp hc hf
      exact hex v1 u0 _ _ _ hf hw (lv_sub hl [1] rfl)
    · have hf := ifn hc hf
      refine h_iinc (k := 1) hf hx hb dX9_figures_9 hl rfl (by decide) (by decide) (fun x1 ls hf hl => ?_)
      have hl : lv_has ls 2 [(1, .int x1), (0, .int c0)] := hl
      refine lv_goto (tgt := 2) hx hb dX9_figures_12 (by decide) ?_
      exact ih x1 u0 _ _ _ hf hw (lv_sub hl [1, 0] rfl)
set_option maxRecDepth 100000 in
set_option maxHeartbeats 4000000 in
theorem wX9_figures {p0 : Int32} {u0 : hM} {z : Int32 × hM} {ls : Array Slot} (hΓ : h_Γ E B T p s m args meth c cX9_figures 2 (some .int) RX9) (hf : fX9_figures T p0 u0 = some z) (hw : h_W E B T s.heap u0 s.heap []) (hl : lv_has ls 2 [(0, .int p0)]) : W p l e (h_rm 0) s m args below meth c s.heap [] 0 0 (h_Qi below E B T args s z) (F0 m 0 ls []) := by
  obtain ⟨hx, hb, hr, hml, hts, hown, hlk, hX⟩ := id hΓ
  unfold fX9_figures at hf
  refine lv_iconst (v := 0) hx hb dX9_figures_0 (by decide) ?_
  refine lv_istore_n (lv' := [(1, .int (0 : Int32)), (0, .int p0)]) hx hb dX9_figures_1 rfl hl (by decide) rfl (fun ls hl => ?_)
  refine wfX9_figures_L2 hΓ ?_ 6000 (0 : Int32) u0 _ _ _ hf hw (lv_sub hl [1, 0] rfl)
  intro x2 u3 H3 L3 ls hf hw hl
  refine lv_iload_n hx hb dX9_figures_15 rfl (lv_at hl 0 rfl) ?_
  exact h_iret hf hx hb hr hlk hw dX9_figures_16
theorem c_X9_figures (l : Launch) (E : hE) (B : Nat) (T : hT) (p0 : Int32) (u0 : hM) {z : Int32 × hM} (hf : fX9_figures T p0 u0 = some z) : h_Ct l E B T yX9_figures cX9_figures 2 (some .int) 0 [.int p0] u0 z.2 (some (.int z.1)) := h_ofW (by decide) (Nat.le_of_ble_eq_true rfl) (fun p e s m below meth c ls hΓ hl hw => wX9_figures hΓ hf hw hl)
def fX9_isKnownBy_L15 (T : hT) (c0 : Nat) (c1 : Int32) (c2 : Int32) (ex : Int32 → hM → Option (Int32 × hM)) : Nat → Int32 → Int32 → hM → Option (Int32 × hM)
  | 0, _, _, _ => none
  | n + 1, v3, v4, u0 => if ((c1 + (1 : Int32)) * (c2 + (1 : Int32))) ≤ v4 then (ex v3 u0) else (if v3 = 0 then ((dvi v4 (c2 + (1 : Int32))).bind fun x3 => (rmi v4 (c2 + (1 : Int32))).bind fun x4 => (gtr T u0 c0 9 30).bind fun a5 => (ald 13 T u0 a5 (((((33 : Int32) * x3) + c1) - x3) + x4)).bind fun x6 => lt (fun (x7 : Int32) (u8 : hM) => lt (v4 + (1 : Int32)) fun x9 => fX9_isKnownBy_L15 T c0 c1 c2 ex n x7 x9 u8) fun J96 => lt (fun (u10 : hM) => J96 (0 : Int32) u10) fun J95 => if x6 = 0 then (J95 u0) else ((gtr T u0 c0 9 30).bind fun a11 => (ald 13 T u0 a11 (((((33 : Int32) * (c1 - x3)) + x3) + c2) - x4)).bind fun x12 => if x12 = 0 then (J95 u0) else (J96 (1 : Int32) u0))) else (ex v3 u0))
def fX9_isKnownBy (T : hT) (a0 : Nat) (p1 : Int32) (p2 : Int32) (u0 : hM) : Option (Int32 × hM) := (gtr T u0 a0 9 30).bind fun a1 => (ald 13 T u0 a1 (((33 : Int32) * p1) + p2)).bind fun x2 => fX9_isKnownBy_L15 T a0 p1 p2 (fun (x13 : Int32) (u14 : hM) => rtz x13 u14) 6000 x2 (0 : Int32) u0
set_option maxRecDepth 100000 in
set_option maxHeartbeats 4000000 in
theorem wfX9_isKnownBy_L15 {c0 : Nat} {c1 : Int32} {c2 : Int32} {ex : Int32 → hM → Option (Int32 × hM)} {z : Int32 × hM} (hΓ : h_Γ E B T p s m args meth c cX9_isKnownBy 7 (some .boolean) RX9) (hex : ∀ (y3 : Int32) (u9 : hM) (H9 : Heap) (L9 : List Loc) (ls : Array Slot), ex y3 u9 = some z → h_W E B T s.heap u9 H9 L9 → lv_has ls 7 [(3, .int y3)] → W p l e (h_rm 0) s m args below meth c H9 L9 0 0 (h_Qi below E B T args s z) (F0 m 103 ls [])) : ∀ (n : Nat) (v3 : Int32) (v4 : Int32) (u0 : hM) (H0 : Heap) (L0 : List Loc) (ls : Array Slot), fX9_isKnownBy_L15 T c0 c1 c2 ex n v3 v4 u0 = some z → h_W E B T s.heap u0 H0 L0 → lv_has ls 7 [(0, .ref (B + c0)), (1, .int c1), (2, .int c2), (3, .int v3), (4, .int v4)] → W p l e (h_rm 0) s m args below meth c H0 L0 0 0 (h_Qi below E B T args s z) (F0 m 15 ls []) := by
  obtain ⟨hx, hb, hr, hml, hts, hown, hlk, hX⟩ := id hΓ
  intro n
  induction n with
  | zero =>
    intro v3 v4 u0 H0 L0 ls hf hw hl
    exact absurd (show (none : Option (Int32 × hM)) = some z from hf) (fun h => by cases h)
  | succ n ih =>
    intro v3 v4 u0 H0 L0 ls hf hw hl
    rw [fX9_isKnownBy_L15] at hf
    refine lv_iload hx hb dX9_isKnownBy_15 (lv_at hl 4 rfl) ?_
    refine lv_iload_n hx hb dX9_isKnownBy_17 rfl (lv_at hl 1 rfl) ?_
    refine lv_iconst (v := 1) hx hb dX9_isKnownBy_18 (by decide) ?_
    refine lv_iadd hx hb dX9_isKnownBy_19 ?_
    refine lv_iload_n hx hb dX9_isKnownBy_20 rfl (lv_at hl 2 rfl) ?_
    refine lv_iconst (v := 1) hx hb dX9_isKnownBy_21 (by decide) ?_
    refine lv_iadd hx hb dX9_isKnownBy_22 ?_
    refine lv_imul hx hb dX9_isKnownBy_23 ?_
    refine lv_icmp_ge (tgt := 103) hx hb dX9_isKnownBy_24 (by decide) (fun hc => ?_) (fun hc => ?_)
    · have hf := ifp hc hf
      exact hex v3 u0 _ _ _ hf hw (lv_sub hl [3] rfl)
    · have hf := ifn hc hf
      refine lv_iload_n hx hb dX9_isKnownBy_27 rfl (lv_at hl 3 rfl) ?_
      refine lv_if_ne (tgt := 103) hx hb dX9_isKnownBy_28 (by decide) (fun hc => ?_) (fun hc => ?_)
      · have hf := ifn hc hf
        exact hex v3 u0 _ _ _ hf hw (lv_sub hl [3] rfl)
      · have hf := ifp hc hf
        refine lv_iload hx hb dX9_isKnownBy_31 (lv_at hl 4 rfl) ?_
        refine lv_iload_n hx hb dX9_isKnownBy_33 rfl (lv_at hl 2 rfl) ?_
        refine lv_iconst (v := 1) hx hb dX9_isKnownBy_34 (by decide) ?_
        refine lv_iadd hx hb dX9_isKnownBy_35 ?_
        refine h_dvi hf hx hb dX9_isKnownBy_36 (fun x3 hf => ?_)
        refine lv_istore (lv' := [(5, .int x3), (0, .ref (B + c0)), (1, .int c1), (2, .int c2), (3, .int v3), (4, .int v4)]) hx hb dX9_isKnownBy_37 hl (by decide) rfl (fun ls hl => ?_)
        refine lv_iload hx hb dX9_isKnownBy_39 (lv_at hl 5 rfl) ?_
        refine lv_iload_n hx hb dX9_isKnownBy_41 rfl (lv_at hl 3 rfl) ?_
        refine lv_iconst (v := 1) hx hb dX9_isKnownBy_42 (by decide) ?_
        refine lv_iadd hx hb dX9_isKnownBy_43 ?_
        refine h_rmi hf hx hb dX9_isKnownBy_44 (fun x4 hf => ?_)
        refine lv_istore (lv' := [(6, .int x4), (5, .int x3), (0, .ref (B + c0)), (1, .int c1), (2, .int c2), (3, .int v3), (4, .int v4)]) hx hb dX9_isKnownBy_45 hl (by decide) rfl (fun ls hl => ?_)
        refine lv_aload_n hx hb dX9_isKnownBy_47 rfl (lv_at hl 2 rfl) ?_
        refine h_getr hf hx hb hts hown hX hw flX9_66 rfl dX9_isKnownBy_48 (fun a5 hf => ?_)
        refine lv_bipush (v := 33) hx hb dX9_isKnownBy_51 (by decide) ?_
        refine lv_iload hx hb dX9_isKnownBy_53 (lv_at hl 1 rfl) ?_
        refine lv_imul hx hb dX9_isKnownBy_55 ?_
        refine lv_iload_n hx hb dX9_isKnownBy_56 rfl (lv_at hl 3 rfl) ?_
        refine lv_iadd hx hb dX9_isKnownBy_57 ?_
        refine lv_iload hx hb dX9_isKnownBy_58 (lv_at hl 1 rfl) ?_
        refine lv_isub hx hb dX9_isKnownBy_60 ?_
        refine lv_iload hx hb dX9_isKnownBy_61 (lv_at hl 0 rfl) ?_
        refine lv_iadd hx hb dX9_isKnownBy_63 ?_
        refine h_zald hf hx hb hX hw dX9_isKnownBy_64 (fun x6 hf => ?_)
        obtain ⟨J96, eJ96, hf⟩ := h_lt hf
        have hJ96 : ∀ (x7 : Int32) (u8 : hM) (H8 : Heap) (L8 : List Loc) (ls : Array Slot), J96 x7 u8 = some z → h_W E B T s.heap u8 H8 L8 → lv_has ls 7 [(0, .ref (B + c0)), (1, .int c1), (2, .int c2), (4, .int v4)] → W p l e (h_rm 0) s m args below meth c H8 L8 0 0 (h_Qi below E B T args s z) (F0 m 96 ls [.int x7]) := by
          intro x7 u8 H8 L8 ls hf hw hl
          rw [eJ96] at hf
          refine lv_istore_n (lv' := [(3, .int x7), (0, .ref (B + c0)), (1, .int c1), (2, .int c2), (4, .int v4)]) hx hb dX9_isKnownBy_96 rfl hl (by decide) rfl (fun ls hl => ?_)
          refine h_iinc (k := 4) hf hx hb dX9_isKnownBy_97 hl rfl (by decide) (by decide) (fun x9 ls hf hl => ?_)
          have hl : lv_has ls 7 [(4, .int x9), (3, .int x7), (0, .ref (B + c0)), (1, .int c1), (2, .int c2)] := hl
          refine lv_goto (tgt := 15) hx hb dX9_isKnownBy_100 (by decide) ?_
          exact ih x7 x9 u8 _ _ _ hf hw (lv_sub hl [2, 3, 4, 1, 0] rfl)
        clear eJ96
        obtain ⟨J95, eJ95, hf⟩ := h_lt hf
        have hJ95 : ∀ (u10 : hM) (H10 : Heap) (L10 : List Loc) (ls : Array Slot), J95  u10 = some z → h_W E B T s.heap u10 H10 L10 → lv_has ls 7 [(0, .ref (B + c0)), (1, .int c1), (2, .int c2), (4, .int v4)] → W p l e (h_rm 0) s m args below meth c H10 L10 0 0 (h_Qi below E B T args s z) (F0 m 95 ls []) := by
          intro  u10 H10 L10 ls hf hw hl
          rw [eJ95] at hf
          refine lv_iconst (v := 0) hx hb dX9_isKnownBy_95 (by decide) ?_
          exact hJ96 (0 : Int32) u10 _ _ _ hf hw (lv_sub hl [0, 1, 2, 3] rfl)
        clear eJ95
        refine lv_if_eq (tgt := 95) hx hb dX9_isKnownBy_65 (by decide) (fun hc => ?_) (fun hc => ?_)
        · have hf := ifp hc hf
          exact hJ95  u0 _ _ _ hf hw (lv_sub hl [2, 3, 4, 6] rfl)
        · have hf := ifn hc hf
          refine lv_aload_n hx hb dX9_isKnownBy_68 rfl (lv_at hl 2 rfl) ?_
          refine h_getr hf hx hb hts hown hX hw flX9_66 rfl dX9_isKnownBy_69 (fun a11 hf => ?_)
          refine lv_bipush (v := 33) hx hb dX9_isKnownBy_72 (by decide) ?_
          refine lv_iload_n hx hb dX9_isKnownBy_74 rfl (lv_at hl 3 rfl) ?_
          refine lv_iload hx hb dX9_isKnownBy_75 (lv_at hl 1 rfl) ?_
          refine lv_isub hx hb dX9_isKnownBy_77 ?_
          refine lv_imul hx hb dX9_isKnownBy_78 ?_
          refine lv_iload hx hb dX9_isKnownBy_79 (lv_at hl 1 rfl) ?_
          refine lv_iadd hx hb dX9_isKnownBy_81 ?_
          refine lv_iload_n hx hb dX9_isKnownBy_82 rfl (lv_at hl 4 rfl) ?_
          refine lv_iadd hx hb dX9_isKnownBy_83 ?_
          refine lv_iload hx hb dX9_isKnownBy_84 (lv_at hl 0 rfl) ?_
          refine lv_isub hx hb dX9_isKnownBy_86 ?_
          refine h_zald hf hx hb hX hw dX9_isKnownBy_87 (fun x12 hf => ?_)
          refine lv_if_eq (tgt := 95) hx hb dX9_isKnownBy_88 (by decide) (fun hc => ?_) (fun hc => ?_)
          · have hf := ifp hc hf
            exact hJ95  u0 _ _ _ hf hw (lv_sub hl [2, 3, 4, 6] rfl)
          · have hf := ifn hc hf
            refine lv_iconst (v := 1) hx hb dX9_isKnownBy_91 (by decide) ?_
            refine lv_goto (tgt := 96) hx hb dX9_isKnownBy_92 (by decide) ?_
            exact hJ96 (1 : Int32) u0 _ _ _ hf hw (lv_sub hl [2, 3, 4, 6] rfl)
set_option maxRecDepth 100000 in
set_option maxHeartbeats 4000000 in
theorem wX9_isKnownBy {a0 : Nat} {p1 : Int32} {p2 : Int32} {u0 : hM} {z : Int32 × hM} {ls : Array Slot} (hΓ : h_Γ E B T p s m args meth c cX9_isKnownBy 7 (some .boolean) RX9) (hf : fX9_isKnownBy T a0 p1 p2 u0 = some z) (hw : h_W E B T s.heap u0 s.heap []) (hl : lv_has ls 7 [(0, .ref (B + a0)), (1, .int p1), (2, .int p2)]) : W p l e (h_rm 0) s m args below meth c s.heap [] 0 0 (h_Qi below E B T args s z) (F0 m 0 ls []) := by
  obtain ⟨hx, hb, hr, hml, hts, hown, hlk, hX⟩ := id hΓ
  unfold fX9_isKnownBy at hf
  refine lv_aload_n hx hb dX9_isKnownBy_0 rfl (lv_at hl 0 rfl) ?_
  refine h_getr hf hx hb hts hown hX hw flX9_66 rfl dX9_isKnownBy_1 (fun a1 hf => ?_)
  refine lv_bipush (v := 33) hx hb dX9_isKnownBy_4 (by decide) ?_
  refine lv_iload_n hx hb dX9_isKnownBy_6 rfl (lv_at hl 1 rfl) ?_
  refine lv_imul hx hb dX9_isKnownBy_7 ?_
  refine lv_iload_n hx hb dX9_isKnownBy_8 rfl (lv_at hl 2 rfl) ?_
  refine lv_iadd hx hb dX9_isKnownBy_9 ?_
  refine h_zald hf hx hb hX hw dX9_isKnownBy_10 (fun x2 hf => ?_)
  refine lv_istore_n (lv' := [(3, .int x2), (0, .ref (B + a0)), (1, .int p1), (2, .int p2)]) hx hb dX9_isKnownBy_11 rfl hl (by decide) rfl (fun ls hl => ?_)
  refine lv_iconst (v := 0) hx hb dX9_isKnownBy_12 (by decide) ?_
  refine lv_istore (lv' := [(4, .int (0 : Int32)), (3, .int x2), (0, .ref (B + a0)), (1, .int p1), (2, .int p2)]) hx hb dX9_isKnownBy_13 hl (by decide) rfl (fun ls hl => ?_)
  refine wfX9_isKnownBy_L15 hΓ ?_ 6000 x2 (0 : Int32) u0 _ _ _ hf hw (lv_sub hl [2, 3, 4, 1, 0] rfl)
  intro x13 u14 H14 L14 ls hf hw hl
  refine lv_iload_n hx hb dX9_isKnownBy_103 rfl (lv_at hl 0 rfl) ?_
  exact h_zret hf hx hb hr hlk hw dX9_isKnownBy_104
theorem c_X9_isKnownBy (l : Launch) (E : hE) (B : Nat) (T : hT) (a0 : Nat) (p1 : Int32) (p2 : Int32) (u0 : hM) {z : Int32 × hM} (hf : fX9_isKnownBy T a0 p1 p2 u0 = some z) : h_Ct l E B T yX9_isKnownBy cX9_isKnownBy 7 (some .boolean) 0 [.ref (B + a0), .int p1, .int p2] u0 z.2 (some (.int z.1)) := h_ofW (by decide) (Nat.le_of_ble_eq_true rfl) (fun p e s m below meth c ls hΓ hl hw => wX9_isKnownBy hΓ hf hw hl)
def fX9_passesWithSlip_L2 (T : hT) (c0 : Nat) (ex : hM → Option (Int32 × hM)) : Nat → Int32 → hM → Option (Int32 × hM)
  | 0, _, _ => none
  | n + 1, v2, u0 => if (1089 : Int32) ≤ v2 then (ex u0) else ((gtr T u0 c0 9 30).bind fun a1 => lt (if (1 : Int32) < ((v2 / (33 : Int32)) + (v2 - v2 / (33 : Int32) * (33 : Int32))) then (0 : Int32) else (1 : Int32)) fun x2 => (astz T u0 a1 v2 x2).bind fun u3 => lt (v2 + (1 : Int32)) fun x4 => fX9_passesWithSlip_L2 T c0 ex n x4 u3)
def fX9_passesWithSlip_L63 (T : hT) (c0 : Nat) (c1 : Int32) (c3 : Int32) (ex : hM → Option (Int32 × hM)) : Nat → Int32 → hM → Option (Int32 × hM)
  | 0, _, _ => none
  | n + 1, v4, u0 => if c1 < (c3 + v4) then (ex u0) else ((gtr T u0 c0 9 31).bind fun a8 => (vc T c0 9 (fX9_isKnownBy T c0 c3 v4 u0)).bind fun q9 => (astz T q9.2 a8 (((33 : Int32) * c3) + v4) q9.1).bind fun u10 => lt (v4 + (1 : Int32)) fun x11 => fX9_passesWithSlip_L63 T c0 c1 c3 ex n x11 u10)
def fX9_passesWithSlip_L55 (T : hT) (c0 : Nat) (c1 : Int32) (ex : hM → Option (Int32 × hM)) : Nat → Int32 → hM → Option (Int32 × hM)
  | 0, _, _ => none
  | n + 1, v3, u0 => if c1 < v3 then (ex u0) else (fX9_passesWithSlip_L63 T c0 c1 v3 (fun (u12 : hM) => lt (v3 + (1 : Int32)) fun x13 => fX9_passesWithSlip_L55 T c0 c1 ex n x13 u12) 6000 (0 : Int32) u0)
def fX9_passesWithSlip_L112 (T : hT) (c0 : Nat) (c1 : Int32) (c3 : Int32) (ex : hM → Option (Int32 × hM)) : Nat → Int32 → hM → Option (Int32 × hM)
  | 0, _, _ => none
  | n + 1, v4, u0 => if c1 < (c3 + v4) then (ex u0) else ((gtr T u0 c0 9 30).bind fun a15 => (gtr T u0 c0 9 31).bind fun a16 => (ald 13 T u0 a16 (((33 : Int32) * c3) + v4)).bind fun x17 => (astz T u0 a15 (((33 : Int32) * c3) + v4) x17).bind fun u18 => lt (v4 + (1 : Int32)) fun x19 => fX9_passesWithSlip_L112 T c0 c1 c3 ex n x19 u18)
def fX9_passesWithSlip_L104 (T : hT) (c0 : Nat) (c1 : Int32) (ex : hM → Option (Int32 × hM)) : Nat → Int32 → hM → Option (Int32 × hM)
  | 0, _, _ => none
  | n + 1, v3, u0 => if c1 < v3 then (ex u0) else (fX9_passesWithSlip_L112 T c0 c1 v3 (fun (u20 : hM) => lt (v3 + (1 : Int32)) fun x21 => fX9_passesWithSlip_L104 T c0 c1 ex n x21 u20) 6000 (0 : Int32) u0)
def fX9_passesWithSlip_L41 (T : hT) (c0 : Nat) (c1 : Int32) (ex : Int32 → hM → Option (Int32 × hM)) : Nat → Int32 → hM → Option (Int32 × hM)
  | 0, _, _ => none
  | n + 1, v2, u0 => (gtr T u0 c0 9 30).bind fun a6 => (ald 13 T u0 a6 ((33 : Int32) * c1)).bind fun x7 => if x7 = 0 then (fX9_passesWithSlip_L55 T c0 c1 (fun (u14 : hM) => fX9_passesWithSlip_L104 T c0 c1 (fun (u22 : hM) => lt (v2 + (1 : Int32)) fun x23 => fX9_passesWithSlip_L41 T c0 c1 ex n x23 u22) 6000 (0 : Int32) u14) 6000 (0 : Int32) u0) else (ex v2 u0)
def fX9_passesWithSlip (T : hT) (a0 : Nat) (p1 : Int32) (u0 : hM) : Option (Int32 × hM) := fX9_passesWithSlip_L2 T a0 (fun (u5 : hM) => fX9_passesWithSlip_L41 T a0 p1 (fun (x24 : Int32) (u25 : hM) => some (x24, u25)) 6000 (0 : Int32) u5) 6000 (0 : Int32) u0
set_option maxRecDepth 100000 in
set_option maxHeartbeats 4000000 in
theorem wfX9_passesWithSlip_L2 {c0 : Nat} {c1 : Int32} {ex : hM → Option (Int32 × hM)} {z : Int32 × hM} (hΓ : h_Γ E B T p s m args meth c cX9_passesWithSlip 5 (some .int) RX9) (hex : ∀ (u9 : hM) (H9 : Heap) (L9 : List Loc) (ls : Array Slot), ex u9 = some z → h_W E B T s.heap u9 H9 L9 → lv_has ls 5 [(0, .ref (B + c0)), (1, .int c1)] → W p l e (h_rm 1) s m args below meth c H9 L9 0 0 (h_Qi below E B T args s z) (F0 m 39 ls [])) : ∀ (n : Nat) (v2 : Int32) (u0 : hM) (H0 : Heap) (L0 : List Loc) (ls : Array Slot), fX9_passesWithSlip_L2 T c0 ex n v2 u0 = some z → h_W E B T s.heap u0 H0 L0 → lv_has ls 5 [(0, .ref (B + c0)), (1, .int c1), (2, .int v2)] → W p l e (h_rm 1) s m args below meth c H0 L0 0 0 (h_Qi below E B T args s z) (F0 m 2 ls []) := by
  obtain ⟨hx, hb, hr, hml, hts, hown, hlk, hX⟩ := id hΓ
  intro n
  induction n with
  | zero =>
    intro v2 u0 H0 L0 ls hf hw hl
    exact absurd (show (none : Option (Int32 × hM)) = some z from hf) (fun h => by cases h)
  | succ n ih =>
    intro v2 u0 H0 L0 ls hf hw hl
    rw [fX9_passesWithSlip_L2] at hf
    refine lv_iload_n hx hb dX9_passesWithSlip_2 rfl (lv_at hl 2 rfl) ?_
    refine lv_sipush (v := 1089) hx hb dX9_passesWithSlip_3 (by decide) ?_
    refine lv_icmp_ge (tgt := 39) hx hb dX9_passesWithSlip_6 (by decide) (fun hc => ?_) (fun hc => ?_)
    · have hf := ifp hc hf
      exact hex  u0 _ _ _ hf hw (lv_sub hl [0, 1] rfl)
    · have hf := ifn hc hf
      refine lv_aload_n hx hb dX9_passesWithSlip_9 rfl (lv_at hl 0 rfl) ?_
      refine h_getr hf hx hb hts hown hX hw flX9_66 rfl dX9_passesWithSlip_10 (fun a1 hf => ?_)
      refine lv_iload_n hx hb dX9_passesWithSlip_13 rfl (lv_at hl 2 rfl) ?_
      refine lv_iload_n hx hb dX9_passesWithSlip_14 rfl (lv_at hl 2 rfl) ?_
      refine lv_bipush (v := 33) hx hb dX9_passesWithSlip_15 (by decide) ?_
      refine lv_idiv hx hb dX9_passesWithSlip_17 (by decide) ?_
      refine lv_iload_n hx hb dX9_passesWithSlip_18 rfl (lv_at hl 2 rfl) ?_
      refine lv_bipush (v := 33) hx hb dX9_passesWithSlip_19 (by decide) ?_
      refine lv_irem hx hb dX9_passesWithSlip_21 (by decide) ?_
      refine lv_iadd hx hb dX9_passesWithSlip_22 ?_
      refine lv_iconst (v := 1) hx hb dX9_passesWithSlip_23 (by decide) ?_
      refine h_ite (ls := ls) (jj := 32) (rest := [.int v2, .ref (B + a1)]) hf (fun k1 k2 => ?_) (fun x2 hf => ?_)
      · refine lv_icmp_gt (tgt := 31) hx hb dX9_passesWithSlip_24 (by decide) (fun hc => ?_) (fun hc => ?_)
        · refine lv_iconst (v := 0) hx hb dX9_passesWithSlip_31 (by decide) ?_
          exact k1 hc
        · refine lv_iconst (v := 1) hx hb dX9_passesWithSlip_27 (by decide) ?_
          refine lv_goto (tgt := 32) hx hb dX9_passesWithSlip_28 (by decide) ?_
          exact k2 hc
      · refine h_zast hf hx hb hX hw dX9_passesWithSlip_32 (fun u3 H3 L3 hf hw => ?_)
        refine h_iinc (k := 2) hf hx hb dX9_passesWithSlip_33 hl rfl (by decide) (by decide) (fun x4 ls hf hl => ?_)
        have hl : lv_has ls 5 [(2, .int x4), (0, .ref (B + c0)), (1, .int c1)] := hl
        refine lv_goto (tgt := 2) hx hb dX9_passesWithSlip_36 (by decide) ?_
        exact ih x4 u3 _ _ _ hf hw (lv_sub hl [1, 2, 0] rfl)
set_option maxRecDepth 100000 in
set_option maxHeartbeats 4000000 in
theorem wfX9_passesWithSlip_L63 {c0 : Nat} {c1 : Int32} {c2 : Int32} {c3 : Int32} {ex : hM → Option (Int32 × hM)} {z : Int32 × hM} (hΓ : h_Γ E B T p s m args meth c cX9_passesWithSlip 5 (some .int) RX9) (hex : ∀ (u9 : hM) (H9 : Heap) (L9 : List Loc) (ls : Array Slot), ex u9 = some z → h_W E B T s.heap u9 H9 L9 → lv_has ls 5 [(0, .ref (B + c0)), (1, .int c1), (2, .int c2), (3, .int c3)] → W p l e (h_rm 1) s m args below meth c H9 L9 0 0 (h_Qi below E B T args s z) (F0 m 96 ls [])) : ∀ (n : Nat) (v4 : Int32) (u0 : hM) (H0 : Heap) (L0 : List Loc) (ls : Array Slot), fX9_passesWithSlip_L63 T c0 c1 c3 ex n v4 u0 = some z → h_W E B T s.heap u0 H0 L0 → lv_has ls 5 [(0, .ref (B + c0)), (1, .int c1), (2, .int c2), (3, .int c3), (4, .int v4)] → W p l e (h_rm 1) s m args below meth c H0 L0 0 0 (h_Qi below E B T args s z) (F0 m 63 ls []) := by
  obtain ⟨hx, hb, hr, hml, hts, hown, hlk, hX⟩ := id hΓ
  intro n
  induction n with
  | zero =>
    intro v4 u0 H0 L0 ls hf hw hl
    exact absurd (show (none : Option (Int32 × hM)) = some z from hf) (fun h => by cases h)
  | succ n ih =>
    intro v4 u0 H0 L0 ls hf hw hl
    rw [fX9_passesWithSlip_L63] at hf
    refine lv_iload_n hx hb dX9_passesWithSlip_63 rfl (lv_at hl 3 rfl) ?_
    refine lv_iload hx hb dX9_passesWithSlip_64 (lv_at hl 4 rfl) ?_
    refine lv_iadd hx hb dX9_passesWithSlip_66 ?_
    refine lv_iload_n hx hb dX9_passesWithSlip_67 rfl (lv_at hl 1 rfl) ?_
    refine lv_icmp_gt (tgt := 96) hx hb dX9_passesWithSlip_68 (by decide) (fun hc => ?_) (fun hc => ?_)
    · have hf := ifp hc hf
      exact hex  u0 _ _ _ hf hw (lv_sub hl [0, 1, 2, 3] rfl)
    · have hf := ifn hc hf
      refine lv_aload_n hx hb dX9_passesWithSlip_71 rfl (lv_at hl 0 rfl) ?_
      refine h_getr hf hx hb hts hown hX hw flX9_69 rfl dX9_passesWithSlip_72 (fun a8 hf => ?_)
      refine lv_bipush (v := 33) hx hb dX9_passesWithSlip_75 (by decide) ?_
      refine lv_iload_n hx hb dX9_passesWithSlip_77 rfl (lv_at hl 3 rfl) ?_
      refine lv_imul hx hb dX9_passesWithSlip_78 ?_
      refine lv_iload hx hb dX9_passesWithSlip_79 (lv_at hl 4 rfl) ?_
      refine lv_iadd hx hb dX9_passesWithSlip_81 ?_
      refine lv_aload_n hx hb dX9_passesWithSlip_82 rfl (lv_at hl 0 rfl) ?_
      refine lv_iload_n hx hb dX9_passesWithSlip_83 rfl (lv_at hl 3 rfl) ?_
      refine lv_iload hx hb dX9_passesWithSlip_84 (lv_at hl 4 rfl) ?_
      refine h_cVi (As := [.int c3, .int v4]) (rest := [.int (((33 : Int32) * c3) + v4), .ref (B + a8)]) hf hx hb hml hts hown hX hw myX9_isKnownBy miX9_isKnownBy lkX9_343 ⟨rfl, by decide⟩ (fun q hq => c_X9_isKnownBy l E B T c0 c3 v4 u0 hq) ⟨Nat.le_of_ble_eq_true rfl, Nat.le_of_ble_eq_true rfl⟩ ⟨Nat.le_refl _, Nat.le_refl _⟩ rfl hl.1 rfl (Nat.le_of_ble_eq_true rfl) dX9_passesWithSlip_86 (fun q9 H9 L9 hf hw => ?_)
      refine h_zast hf hx hb hX hw dX9_passesWithSlip_89 (fun u10 H10 L10 hf hw => ?_)
      refine h_iinc (k := 4) hf hx hb dX9_passesWithSlip_90 hl rfl (by decide) (by decide) (fun x11 ls hf hl => ?_)
      have hl : lv_has ls 5 [(4, .int x11), (0, .ref (B + c0)), (1, .int c1), (2, .int c2), (3, .int c3)] := hl
      refine lv_goto (tgt := 63) hx hb dX9_passesWithSlip_93 (by decide) ?_
      exact ih x11 u10 _ _ _ hf hw (lv_sub hl [1, 2, 3, 4, 0] rfl)
set_option maxRecDepth 100000 in
set_option maxHeartbeats 4000000 in
theorem wfX9_passesWithSlip_L55 {c0 : Nat} {c1 : Int32} {c2 : Int32} {ex : hM → Option (Int32 × hM)} {z : Int32 × hM} (hΓ : h_Γ E B T p s m args meth c cX9_passesWithSlip 5 (some .int) RX9) (hex : ∀ (u9 : hM) (H9 : Heap) (L9 : List Loc) (ls : Array Slot), ex u9 = some z → h_W E B T s.heap u9 H9 L9 → lv_has ls 5 [(0, .ref (B + c0)), (1, .int c1), (2, .int c2)] → W p l e (h_rm 1) s m args below meth c H9 L9 0 0 (h_Qi below E B T args s z) (F0 m 102 ls [])) : ∀ (n : Nat) (v3 : Int32) (u0 : hM) (H0 : Heap) (L0 : List Loc) (ls : Array Slot), fX9_passesWithSlip_L55 T c0 c1 ex n v3 u0 = some z → h_W E B T s.heap u0 H0 L0 → lv_has ls 5 [(0, .ref (B + c0)), (1, .int c1), (2, .int c2), (3, .int v3)] → W p l e (h_rm 1) s m args below meth c H0 L0 0 0 (h_Qi below E B T args s z) (F0 m 55 ls []) := by
  obtain ⟨hx, hb, hr, hml, hts, hown, hlk, hX⟩ := id hΓ
  intro n
  induction n with
  | zero =>
    intro v3 u0 H0 L0 ls hf hw hl
    exact absurd (show (none : Option (Int32 × hM)) = some z from hf) (fun h => by cases h)
  | succ n ih =>
    intro v3 u0 H0 L0 ls hf hw hl
    rw [fX9_passesWithSlip_L55] at hf
    refine lv_iload_n hx hb dX9_passesWithSlip_55 rfl (lv_at hl 3 rfl) ?_
    refine lv_iload_n hx hb dX9_passesWithSlip_56 rfl (lv_at hl 1 rfl) ?_
    refine lv_icmp_gt (tgt := 102) hx hb dX9_passesWithSlip_57 (by decide) (fun hc => ?_) (fun hc => ?_)
    · have hf := ifp hc hf
      exact hex  u0 _ _ _ hf hw (lv_sub hl [0, 1, 2] rfl)
    · have hf := ifn hc hf
      refine lv_iconst (v := 0) hx hb dX9_passesWithSlip_60 (by decide) ?_
      refine lv_istore (lv' := [(4, .int (0 : Int32)), (0, .ref (B + c0)), (1, .int c1), (2, .int c2), (3, .int v3)]) hx hb dX9_passesWithSlip_61 hl (by decide) rfl (fun ls hl => ?_)
      refine wfX9_passesWithSlip_L63 hΓ ?_ 6000 (0 : Int32) u0 _ _ _ hf hw (lv_sub hl [1, 2, 3, 4, 0] rfl)
      intro u12 H12 L12 ls hf hw hl
      refine h_iinc (k := 3) hf hx hb dX9_passesWithSlip_96 hl rfl (by decide) (by decide) (fun x13 ls hf hl => ?_)
      have hl : lv_has ls 5 [(3, .int x13), (0, .ref (B + c0)), (1, .int c1), (2, .int c2)] := hl
      refine lv_goto (tgt := 55) hx hb dX9_passesWithSlip_99 (by decide) ?_
      exact ih x13 u12 _ _ _ hf hw (lv_sub hl [1, 2, 3, 0] rfl)
set_option maxRecDepth 100000 in
set_option maxHeartbeats 4000000 in
theorem wfX9_passesWithSlip_L112 {c0 : Nat} {c1 : Int32} {c2 : Int32} {c3 : Int32} {ex : hM → Option (Int32 × hM)} {z : Int32 × hM} (hΓ : h_Γ E B T p s m args meth c cX9_passesWithSlip 5 (some .int) RX9) (hex : ∀ (u9 : hM) (H9 : Heap) (L9 : List Loc) (ls : Array Slot), ex u9 = some z → h_W E B T s.heap u9 H9 L9 → lv_has ls 5 [(0, .ref (B + c0)), (1, .int c1), (2, .int c2), (3, .int c3)] → W p l e (h_rm 1) s m args below meth c H9 L9 0 0 (h_Qi below E B T args s z) (F0 m 150 ls [])) : ∀ (n : Nat) (v4 : Int32) (u0 : hM) (H0 : Heap) (L0 : List Loc) (ls : Array Slot), fX9_passesWithSlip_L112 T c0 c1 c3 ex n v4 u0 = some z → h_W E B T s.heap u0 H0 L0 → lv_has ls 5 [(0, .ref (B + c0)), (1, .int c1), (2, .int c2), (3, .int c3), (4, .int v4)] → W p l e (h_rm 1) s m args below meth c H0 L0 0 0 (h_Qi below E B T args s z) (F0 m 112 ls []) := by
  obtain ⟨hx, hb, hr, hml, hts, hown, hlk, hX⟩ := id hΓ
  intro n
  induction n with
  | zero =>
    intro v4 u0 H0 L0 ls hf hw hl
    exact absurd (show (none : Option (Int32 × hM)) = some z from hf) (fun h => by cases h)
  | succ n ih =>
    intro v4 u0 H0 L0 ls hf hw hl
    rw [fX9_passesWithSlip_L112] at hf
    refine lv_iload_n hx hb dX9_passesWithSlip_112 rfl (lv_at hl 3 rfl) ?_
    refine lv_iload hx hb dX9_passesWithSlip_113 (lv_at hl 4 rfl) ?_
    refine lv_iadd hx hb dX9_passesWithSlip_115 ?_
    refine lv_iload_n hx hb dX9_passesWithSlip_116 rfl (lv_at hl 1 rfl) ?_
    refine lv_icmp_gt (tgt := 150) hx hb dX9_passesWithSlip_117 (by decide) (fun hc => ?_) (fun hc => ?_)
    · have hf := ifp hc hf
      exact hex  u0 _ _ _ hf hw (lv_sub hl [0, 1, 2, 3] rfl)
    · have hf := ifn hc hf
      refine lv_aload_n hx hb dX9_passesWithSlip_120 rfl (lv_at hl 0 rfl) ?_
      refine h_getr hf hx hb hts hown hX hw flX9_66 rfl dX9_passesWithSlip_121 (fun a15 hf => ?_)
      refine lv_bipush (v := 33) hx hb dX9_passesWithSlip_124 (by decide) ?_
      refine lv_iload_n hx hb dX9_passesWithSlip_126 rfl (lv_at hl 3 rfl) ?_
      refine lv_imul hx hb dX9_passesWithSlip_127 ?_
      refine lv_iload hx hb dX9_passesWithSlip_128 (lv_at hl 4 rfl) ?_
      refine lv_iadd hx hb dX9_passesWithSlip_130 ?_
      refine lv_aload_n hx hb dX9_passesWithSlip_131 rfl (lv_at hl 0 rfl) ?_
      refine h_getr hf hx hb hts hown hX hw flX9_69 rfl dX9_passesWithSlip_132 (fun a16 hf => ?_)
      refine lv_bipush (v := 33) hx hb dX9_passesWithSlip_135 (by decide) ?_
      refine lv_iload_n hx hb dX9_passesWithSlip_137 rfl (lv_at hl 3 rfl) ?_
      refine lv_imul hx hb dX9_passesWithSlip_138 ?_
      refine lv_iload hx hb dX9_passesWithSlip_139 (lv_at hl 4 rfl) ?_
      refine lv_iadd hx hb dX9_passesWithSlip_141 ?_
      refine h_zald hf hx hb hX hw dX9_passesWithSlip_142 (fun x17 hf => ?_)
      refine h_zast hf hx hb hX hw dX9_passesWithSlip_143 (fun u18 H18 L18 hf hw => ?_)
      refine h_iinc (k := 4) hf hx hb dX9_passesWithSlip_144 hl rfl (by decide) (by decide) (fun x19 ls hf hl => ?_)
      have hl : lv_has ls 5 [(4, .int x19), (0, .ref (B + c0)), (1, .int c1), (2, .int c2), (3, .int c3)] := hl
      refine lv_goto (tgt := 112) hx hb dX9_passesWithSlip_147 (by decide) ?_
      exact ih x19 u18 _ _ _ hf hw (lv_sub hl [1, 2, 3, 4, 0] rfl)
set_option maxRecDepth 100000 in
set_option maxHeartbeats 4000000 in
theorem wfX9_passesWithSlip_L104 {c0 : Nat} {c1 : Int32} {c2 : Int32} {ex : hM → Option (Int32 × hM)} {z : Int32 × hM} (hΓ : h_Γ E B T p s m args meth c cX9_passesWithSlip 5 (some .int) RX9) (hex : ∀ (u9 : hM) (H9 : Heap) (L9 : List Loc) (ls : Array Slot), ex u9 = some z → h_W E B T s.heap u9 H9 L9 → lv_has ls 5 [(0, .ref (B + c0)), (1, .int c1), (2, .int c2)] → W p l e (h_rm 1) s m args below meth c H9 L9 0 0 (h_Qi below E B T args s z) (F0 m 156 ls [])) : ∀ (n : Nat) (v3 : Int32) (u0 : hM) (H0 : Heap) (L0 : List Loc) (ls : Array Slot), fX9_passesWithSlip_L104 T c0 c1 ex n v3 u0 = some z → h_W E B T s.heap u0 H0 L0 → lv_has ls 5 [(0, .ref (B + c0)), (1, .int c1), (2, .int c2), (3, .int v3)] → W p l e (h_rm 1) s m args below meth c H0 L0 0 0 (h_Qi below E B T args s z) (F0 m 104 ls []) := by
  obtain ⟨hx, hb, hr, hml, hts, hown, hlk, hX⟩ := id hΓ
  intro n
  induction n with
  | zero =>
    intro v3 u0 H0 L0 ls hf hw hl
    exact absurd (show (none : Option (Int32 × hM)) = some z from hf) (fun h => by cases h)
  | succ n ih =>
    intro v3 u0 H0 L0 ls hf hw hl
    rw [fX9_passesWithSlip_L104] at hf
    refine lv_iload_n hx hb dX9_passesWithSlip_104 rfl (lv_at hl 3 rfl) ?_
    refine lv_iload_n hx hb dX9_passesWithSlip_105 rfl (lv_at hl 1 rfl) ?_
    refine lv_icmp_gt (tgt := 156) hx hb dX9_passesWithSlip_106 (by decide) (fun hc => ?_) (fun hc => ?_)
    · have hf := ifp hc hf
      exact hex  u0 _ _ _ hf hw (lv_sub hl [0, 1, 2] rfl)
    · have hf := ifn hc hf
      refine lv_iconst (v := 0) hx hb dX9_passesWithSlip_109 (by decide) ?_
      refine lv_istore (lv' := [(4, .int (0 : Int32)), (0, .ref (B + c0)), (1, .int c1), (2, .int c2), (3, .int v3)]) hx hb dX9_passesWithSlip_110 hl (by decide) rfl (fun ls hl => ?_)
      refine wfX9_passesWithSlip_L112 hΓ ?_ 6000 (0 : Int32) u0 _ _ _ hf hw (lv_sub hl [1, 2, 3, 4, 0] rfl)
      intro u20 H20 L20 ls hf hw hl
      refine h_iinc (k := 3) hf hx hb dX9_passesWithSlip_150 hl rfl (by decide) (by decide) (fun x21 ls hf hl => ?_)
      have hl : lv_has ls 5 [(3, .int x21), (0, .ref (B + c0)), (1, .int c1), (2, .int c2)] := hl
      refine lv_goto (tgt := 104) hx hb dX9_passesWithSlip_153 (by decide) ?_
      exact ih x21 u20 _ _ _ hf hw (lv_sub hl [1, 2, 3, 0] rfl)
set_option maxRecDepth 100000 in
set_option maxHeartbeats 4000000 in
theorem wfX9_passesWithSlip_L41 {c0 : Nat} {c1 : Int32} {ex : Int32 → hM → Option (Int32 × hM)} {z : Int32 × hM} (hΓ : h_Γ E B T p s m args meth c cX9_passesWithSlip 5 (some .int) RX9) (hex : ∀ (y2 : Int32) (u9 : hM) (H9 : Heap) (L9 : List Loc) (ls : Array Slot), ex y2 u9 = some z → h_W E B T s.heap u9 H9 L9 → lv_has ls 5 [(2, .int y2)] → W p l e (h_rm 1) s m args below meth c H9 L9 0 0 (h_Qi below E B T args s z) (F0 m 162 ls [])) : ∀ (n : Nat) (v2 : Int32) (u0 : hM) (H0 : Heap) (L0 : List Loc) (ls : Array Slot), fX9_passesWithSlip_L41 T c0 c1 ex n v2 u0 = some z → h_W E B T s.heap u0 H0 L0 → lv_has ls 5 [(0, .ref (B + c0)), (1, .int c1), (2, .int v2)] → W p l e (h_rm 1) s m args below meth c H0 L0 0 0 (h_Qi below E B T args s z) (F0 m 41 ls []) := by
  obtain ⟨hx, hb, hr, hml, hts, hown, hlk, hX⟩ := id hΓ
  intro n
  induction n with
  | zero =>
    intro v2 u0 H0 L0 ls hf hw hl
    exact absurd (show (none : Option (Int32 × hM)) = some z from hf) (fun h => by cases h)
  | succ n ih =>
    intro v2 u0 H0 L0 ls hf hw hl
    rw [fX9_passesWithSlip_L41] at hf
    refine lv_aload_n hx hb dX9_passesWithSlip_41 rfl (lv_at hl 0 rfl) ?_
    refine h_getr hf hx hb hts hown hX hw flX9_66 rfl dX9_passesWithSlip_42 (fun a6 hf => ?_)
    refine lv_bipush (v := 33) hx hb dX9_passesWithSlip_45 (by decide) ?_
    refine lv_iload_n hx hb dX9_passesWithSlip_47 rfl (lv_at hl 1 rfl) ?_
    refine lv_imul hx hb dX9_passesWithSlip_48 ?_
    refine h_zald hf hx hb hX hw dX9_passesWithSlip_49 (fun x7 hf => ?_)
    refine lv_if_ne (tgt := 162) hx hb dX9_passesWithSlip_50 (by decide) (fun hc => ?_) (fun hc => ?_)
    · have hf := ifn hc hf
      exact hex v2 u0 _ _ _ hf hw (lv_sub hl [2] rfl)
    · have hf := ifp hc hf
      refine lv_iconst (v := 0) hx hb dX9_passesWithSlip_53 (by decide) ?_
      refine lv_istore_n (lv' := [(3, .int (0 : Int32)), (0, .ref (B + c0)), (1, .int c1), (2, .int v2)]) hx hb dX9_passesWithSlip_54 rfl hl (by decide) rfl (fun ls hl => ?_)
      refine wfX9_passesWithSlip_L55 hΓ ?_ 6000 (0 : Int32) u0 _ _ _ hf hw (lv_sub hl [1, 2, 3, 0] rfl)
      intro u14 H14 L14 ls hf hw hl
      refine lv_iconst (v := 0) hx hb dX9_passesWithSlip_102 (by decide) ?_
      refine lv_istore_n (lv' := [(3, .int (0 : Int32)), (0, .ref (B + c0)), (1, .int c1), (2, .int v2)]) hx hb dX9_passesWithSlip_103 rfl hl (by decide) rfl (fun ls hl => ?_)
      refine wfX9_passesWithSlip_L104 hΓ ?_ 6000 (0 : Int32) u14 _ _ _ hf hw (lv_sub hl [1, 2, 3, 0] rfl)
      intro u22 H22 L22 ls hf hw hl
      refine h_iinc (k := 2) hf hx hb dX9_passesWithSlip_156 hl rfl (by decide) (by decide) (fun x23 ls hf hl => ?_)
      have hl : lv_has ls 5 [(2, .int x23), (0, .ref (B + c0)), (1, .int c1)] := hl
      refine lv_goto (tgt := 41) hx hb dX9_passesWithSlip_159 (by decide) ?_
      exact ih x23 u22 _ _ _ hf hw (lv_sub hl [1, 2, 0] rfl)
set_option maxRecDepth 100000 in
set_option maxHeartbeats 4000000 in
theorem wX9_passesWithSlip {a0 : Nat} {p1 : Int32} {u0 : hM} {z : Int32 × hM} {ls : Array Slot} (hΓ : h_Γ E B T p s m args meth c cX9_passesWithSlip 5 (some .int) RX9) (hf : fX9_passesWithSlip T a0 p1 u0 = some z) (hw : h_W E B T s.heap u0 s.heap []) (hl : lv_has ls 5 [(0, .ref (B + a0)), (1, .int p1)]) : W p l e (h_rm 1) s m args below meth c s.heap [] 0 0 (h_Qi below E B T args s z) (F0 m 0 ls []) := by
  obtain ⟨hx, hb, hr, hml, hts, hown, hlk, hX⟩ := id hΓ
  unfold fX9_passesWithSlip at hf
  refine lv_iconst (v := 0) hx hb dX9_passesWithSlip_0 (by decide) ?_
  refine lv_istore_n (lv' := [(2, .int (0 : Int32)), (0, .ref (B + a0)), (1, .int p1)]) hx hb dX9_passesWithSlip_1 rfl hl (by decide) rfl (fun ls hl => ?_)
  refine wfX9_passesWithSlip_L2 hΓ ?_ 6000 (0 : Int32) u0 _ _ _ hf hw (lv_sub hl [1, 2, 0] rfl)
  intro u5 H5 L5 ls hf hw hl
  refine lv_iconst (v := 0) hx hb dX9_passesWithSlip_39 (by decide) ?_
  refine lv_istore_n (lv' := [(2, .int (0 : Int32)), (0, .ref (B + a0)), (1, .int p1)]) hx hb dX9_passesWithSlip_40 rfl hl (by decide) rfl (fun ls hl => ?_)
  refine wfX9_passesWithSlip_L41 hΓ ?_ 6000 (0 : Int32) u5 _ _ _ hf hw (lv_sub hl [1, 2, 0] rfl)
  intro x24 u25 H25 L25 ls hf hw hl
  refine lv_iload_n hx hb dX9_passesWithSlip_162 rfl (lv_at hl 0 rfl) ?_
  exact h_iret hf hx hb hr hlk hw dX9_passesWithSlip_163
theorem c_X9_passesWithSlip (l : Launch) (E : hE) (B : Nat) (T : hT) (a0 : Nat) (p1 : Int32) (u0 : hM) {z : Int32 × hM} (hf : fX9_passesWithSlip T a0 p1 u0 = some z) : h_Ct l E B T yX9_passesWithSlip cX9_passesWithSlip 5 (some .int) 1 [.ref (B + a0), .int p1] u0 z.2 (some (.int z.1)) := h_ofW (by decide) (Nat.le_of_ble_eq_true rfl) (fun p e s m below meth c ls hΓ hl hw => wX9_passesWithSlip hΓ hf hw hl)
def fX9_passes (T : hT) (a0 : Nat) (p1 : Int32) (p2 : Int32) (u0 : hM) : Option (Int32 × hM) := (fX9_in T p1.toInt64 (1 : Int64) (16 : Int64) u0).bind fun q1 => if q1.1 = 0 then (some ((-1000000002 : Int32), q1.2)) else ((fX9_in T p2.toInt64 (0 : Int64) (1 : Int64) q1.2).bind fun q2 => if q2.1 = 0 then (some ((-1000000002 : Int32), q2.2)) else (if p2 = 0 then ((fX9_figures T p1 q2.2).bind fun q4 => some (q4.1, q4.2)) else ((vc T a0 9 (fX9_passesWithSlip T a0 p1 q2.2)).bind fun q3 => some (q3.1, q3.2))))
set_option maxRecDepth 100000 in
set_option maxHeartbeats 4000000 in
theorem wX9_passes {a0 : Nat} {p1 : Int32} {p2 : Int32} {u0 : hM} {z : Int32 × hM} {ls : Array Slot} (hΓ : h_Γ E B T p s m args meth c cX9_passes 3 (some .int) RX9) (hf : fX9_passes T a0 p1 p2 u0 = some z) (hw : h_W E B T s.heap u0 s.heap []) (hl : lv_has ls 3 [(0, .ref (B + a0)), (1, .int p1), (2, .int p2)]) : W p l e (h_rm 2) s m args below meth c s.heap [] 0 0 (h_Qi below E B T args s z) (F0 m 0 ls []) := by
  obtain ⟨hx, hb, hr, hml, hts, hown, hlk, hX⟩ := id hΓ
  unfold fX9_passes at hf
  refine lv_iload_n hx hb dX9_passes_0 rfl (lv_at hl 1 rfl) ?_
  refine lv_i2l hx hb dX9_passes_1 rfl ?_
  refine lv_lconst (v := 1) hx hb dX9_passes_2 (by decide) ?_
  refine lv_ldc2 hx hb hown (hts _ klX9_346) dX9_passes_3 ?_
  refine h_cSi (As := [.long p1.toInt64, .long (1 : Int64), .long (16 : Int64)]) (rest := []) hf hx hb hml hts hown hX hw myX9_in msX9_in lkX9_90 (fun q hq => c_X9_in l E B T p1.toInt64 (1 : Int64) (16 : Int64) u0 hq) ⟨Nat.le_of_ble_eq_true rfl, Nat.le_of_ble_eq_true rfl⟩ ⟨Nat.le_refl _, Nat.le_refl _⟩ rfl hl.1 rfl (Nat.le_of_ble_eq_true rfl) dX9_passes_6 (fun q1 H1 L1 hf hw => ?_)
  refine lv_if_eq (tgt := 22) hx hb dX9_passes_9 (by decide) (fun hc => ?_) (fun hc => ?_)
  · have hf := ifp hc hf
    refine lv_ldc hx hb hown (hts _ kcX9_99) dX9_passes_22 ?_
    exact h_iret hf hx hb hr hlk hw dX9_passes_24
  · have hf := ifn hc hf
    refine lv_iload_n hx hb dX9_passes_12 rfl (lv_at hl 2 rfl) ?_
    refine lv_i2l hx hb dX9_passes_13 rfl ?_
    refine lv_lconst (v := 0) hx hb dX9_passes_14 (by decide) ?_
    refine lv_lconst (v := 1) hx hb dX9_passes_15 (by decide) ?_
    refine h_cSi (As := [.long p2.toInt64, .long (0 : Int64), .long (1 : Int64)]) (rest := []) hf hx hb hml hts hown hX hw myX9_in msX9_in lkX9_90 (fun q hq => c_X9_in l E B T p2.toInt64 (0 : Int64) (1 : Int64) q1.2 hq) ⟨Nat.le_of_ble_eq_true rfl, Nat.le_of_ble_eq_true rfl⟩ ⟨Nat.le_refl _, Nat.le_refl _⟩ rfl hl.1 rfl (Nat.le_of_ble_eq_true rfl) dX9_passes_16 (fun q2 H2 L2 hf hw => ?_)
    refine lv_if_ne (tgt := 25) hx hb dX9_passes_19 (by decide) (fun hc => ?_) (fun hc => ?_)
    · have hf := ifn hc hf
      refine lv_iload_n hx hb dX9_passes_25 rfl (lv_at hl 2 rfl) ?_
      refine lv_if_ne (tgt := 36) hx hb dX9_passes_26 (by decide) (fun hc => ?_) (fun hc => ?_)
      · have hf := ifn hc hf
        refine lv_aload_n hx hb dX9_passes_36 rfl (lv_at hl 0 rfl) ?_
        refine lv_iload_n hx hb dX9_passes_37 rfl (lv_at hl 1 rfl) ?_
        refine h_cVi (As := [.int p1]) (rest := []) hf hx hb hml hts hown hX hw myX9_passesWithSlip miX9_passesWithSlip lkX9_351 ⟨rfl, by decide⟩ (fun q hq => c_X9_passesWithSlip l E B T a0 p1 q2.2 hq) ⟨Nat.le_of_ble_eq_true rfl, Nat.le_of_ble_eq_true rfl⟩ ⟨Nat.le_refl _, Nat.le_refl _⟩ rfl hl.1 rfl (Nat.le_of_ble_eq_true rfl) dX9_passes_38 (fun q3 H3 L3 hf hw => ?_)
        exact h_iret hf hx hb hr hlk hw dX9_passes_41
      · have hf := ifp hc hf
        refine lv_iload_n hx hb dX9_passes_29 rfl (lv_at hl 1 rfl) ?_
        refine h_cSi (As := [.int p1]) (rest := []) hf hx hb hml hts hown hX hw myX9_figures msX9_figures lkX9_348 (fun q hq => c_X9_figures l E B T p1 q2.2 hq) ⟨Nat.le_of_ble_eq_true rfl, Nat.le_of_ble_eq_true rfl⟩ ⟨Nat.le_refl _, Nat.le_refl _⟩ rfl hl.1 rfl (Nat.le_of_ble_eq_true rfl) dX9_passes_30 (fun q4 H4 L4 hf hw => ?_)
        refine lv_goto (tgt := 41) hx hb dX9_passes_33 (by decide) ?_
        exact h_iret hf hx hb hr hlk hw dX9_passes_41
    · have hf := ifp hc hf
      refine lv_ldc hx hb hown (hts _ kcX9_99) dX9_passes_22 ?_
      exact h_iret hf hx hb hr hlk hw dX9_passes_24
theorem c_X9_passes (l : Launch) (E : hE) (B : Nat) (T : hT) (a0 : Nat) (p1 : Int32) (p2 : Int32) (u0 : hM) {z : Int32 × hM} (hf : fX9_passes T a0 p1 p2 u0 = some z) : h_Ct l E B T yX9_passes cX9_passes 3 (some .int) 2 [.ref (B + a0), .int p1, .int p2] u0 z.2 (some (.int z.1)) := h_ofW (by decide) (Nat.le_of_ble_eq_true rfl) (fun p e s m below meth c ls hΓ hl hw => wX9_passes hΓ hf hw hl)
def fX9_pairs (T : hT) (a0 : Nat) (p1 : Int32) (u0 : hM) : Option (Int32 × hM) := (fX9_in T p1.toInt64 (2 : Int64) (16 : Int64) u0).bind fun q1 => if q1.1 = 0 then (some ((-1000000002 : Int32), q1.2)) else ((fX9_figures T ((p1 * (p1 - (1 : Int32))) / (2 : Int32)) q1.2).bind fun q2 => some (q2.1, q2.2))
set_option maxRecDepth 100000 in
set_option maxHeartbeats 4000000 in
theorem wX9_pairs {a0 : Nat} {p1 : Int32} {u0 : hM} {z : Int32 × hM} {ls : Array Slot} (hΓ : h_Γ E B T p s m args meth c cX9_pairs 2 (some .int) RX9) (hf : fX9_pairs T a0 p1 u0 = some z) (hw : h_W E B T s.heap u0 s.heap []) (hl : lv_has ls 2 [(0, .ref (B + a0)), (1, .int p1)]) : W p l e (h_rm 1) s m args below meth c s.heap [] 0 0 (h_Qi below E B T args s z) (F0 m 0 ls []) := by
  obtain ⟨hx, hb, hr, hml, hts, hown, hlk, hX⟩ := id hΓ
  unfold fX9_pairs at hf
  refine lv_iload_n hx hb dX9_pairs_0 rfl (lv_at hl 1 rfl) ?_
  refine lv_i2l hx hb dX9_pairs_1 rfl ?_
  refine lv_ldc2 hx hb hown (hts _ klX9_267) dX9_pairs_2 ?_
  refine lv_ldc2 hx hb hown (hts _ klX9_346) dX9_pairs_5 ?_
  refine h_cSi (As := [.long p1.toInt64, .long (2 : Int64), .long (16 : Int64)]) (rest := []) hf hx hb hml hts hown hX hw myX9_in msX9_in lkX9_90 (fun q hq => c_X9_in l E B T p1.toInt64 (2 : Int64) (16 : Int64) u0 hq) ⟨Nat.le_of_ble_eq_true rfl, Nat.le_of_ble_eq_true rfl⟩ ⟨Nat.le_refl _, Nat.le_refl _⟩ rfl hl.1 rfl (Nat.le_of_ble_eq_true rfl) dX9_pairs_8 (fun q1 H1 L1 hf hw => ?_)
  refine lv_if_eq (tgt := 27) hx hb dX9_pairs_11 (by decide) (fun hc => ?_) (fun hc => ?_)
  · have hf := ifp hc hf
    refine lv_ldc hx hb hown (hts _ kcX9_99) dX9_pairs_27 ?_
    exact h_iret hf hx hb hr hlk hw dX9_pairs_29
  · have hf := ifn hc hf
    refine lv_iload_n hx hb dX9_pairs_14 rfl (lv_at hl 1 rfl) ?_
    refine lv_iload_n hx hb dX9_pairs_15 rfl (lv_at hl 1 rfl) ?_
    refine lv_iconst (v := 1) hx hb dX9_pairs_16 (by decide) ?_
    refine lv_isub hx hb dX9_pairs_17 ?_
    refine lv_imul hx hb dX9_pairs_18 ?_
    refine lv_iconst (v := 2) hx hb dX9_pairs_19 (by decide) ?_
    refine lv_idiv hx hb dX9_pairs_20 (by decide) ?_
    refine h_cSi (As := [.int ((p1 * (p1 - (1 : Int32))) / (2 : Int32))]) (rest := []) hf hx hb hml hts hown hX hw myX9_figures msX9_figures lkX9_348 (fun q hq => c_X9_figures l E B T ((p1 * (p1 - (1 : Int32))) / (2 : Int32)) q1.2 hq) ⟨Nat.le_of_ble_eq_true rfl, Nat.le_of_ble_eq_true rfl⟩ ⟨Nat.le_refl _, Nat.le_refl _⟩ rfl hl.1 rfl (Nat.le_of_ble_eq_true rfl) dX9_pairs_21 (fun q2 H2 L2 hf hw => ?_)
    refine lv_goto (tgt := 29) hx hb dX9_pairs_24 (by decide) ?_
    exact h_iret hf hx hb hr hlk hw dX9_pairs_29
theorem c_X9_pairs (l : Launch) (E : hE) (B : Nat) (T : hT) (a0 : Nat) (p1 : Int32) (u0 : hM) {z : Int32 × hM} (hf : fX9_pairs T a0 p1 u0 = some z) : h_Ct l E B T yX9_pairs cX9_pairs 2 (some .int) 1 [.ref (B + a0), .int p1] u0 z.2 (some (.int z.1)) := h_ofW (by decide) (Nat.le_of_ble_eq_true rfl) (fun p e s m below meth c ls hΓ hl hw => wX9_pairs hΓ hf hw hl)
def fX9_isHome (T : hT) (p0 : Int32) (u0 : hM) : Option (Int32 × hM) := (fX9_in T p0.toInt64 (-1200 : Int64) (1200 : Int64) u0).bind fun q1 => rtz q1.1 q1.2
set_option maxRecDepth 100000 in
set_option maxHeartbeats 4000000 in
theorem wX9_isHome {p0 : Int32} {u0 : hM} {z : Int32 × hM} {ls : Array Slot} (hΓ : h_Γ E B T p s m args meth c cX9_isHome 1 (some .boolean) RX9) (hf : fX9_isHome T p0 u0 = some z) (hw : h_W E B T s.heap u0 s.heap []) (hl : lv_has ls 1 [(0, .int p0)]) : W p l e (h_rm 1) s m args below meth c s.heap [] 0 0 (h_Qi below E B T args s z) (F0 m 0 ls []) := by
  obtain ⟨hx, hb, hr, hml, hts, hown, hlk, hX⟩ := id hΓ
  unfold fX9_isHome at hf
  refine lv_iload_n hx hb dX9_isHome_0 rfl (lv_at hl 0 rfl) ?_
  refine lv_i2l hx hb dX9_isHome_1 rfl ?_
  refine lv_ldc2 hx hb hown (hts _ klX9_354) dX9_isHome_2 ?_
  refine lv_ldc2 hx hb hown (hts _ klX9_356) dX9_isHome_5 ?_
  refine h_cSi (As := [.long p0.toInt64, .long (-1200 : Int64), .long (1200 : Int64)]) (rest := []) hf hx hb hml hts hown hX hw myX9_in msX9_in lkX9_90 (fun q hq => c_X9_in l E B T p0.toInt64 (-1200 : Int64) (1200 : Int64) u0 hq) ⟨Nat.le_of_ble_eq_true rfl, Nat.le_of_ble_eq_true rfl⟩ ⟨Nat.le_refl _, Nat.le_refl _⟩ rfl hl.1 rfl (Nat.le_of_ble_eq_true rfl) dX9_isHome_8 (fun q1 H1 L1 hf hw => ?_)
  exact h_zret hf hx hb hr hlk hw dX9_isHome_11
theorem c_X9_isHome (l : Launch) (E : hE) (B : Nat) (T : hT) (p0 : Int32) (u0 : hM) {z : Int32 × hM} (hf : fX9_isHome T p0 u0 = some z) : h_Ct l E B T yX9_isHome cX9_isHome 1 (some .boolean) 1 [.int p0] u0 z.2 (some (.int z.1)) := h_ofW (by decide) (Nat.le_of_ble_eq_true rfl) (fun p e s m below meth c ls hΓ hl hw => wX9_isHome hΓ hf hw hl)
def fX9_join (T : hT) (a0 : Nat) (p1 : Int32) (u0 : hM) : Option (Int32 × hM) := (fX9_isHome T p1 u0).bind fun q1 => if q1.1 = 0 then (some ((-1000000002 : Int32), q1.2)) else ((gti T q1.2 a0 9 32).bind fun x2 => if x2 = (8 : Int32) then (some ((-1000000004 : Int32), q1.2)) else ((gtr T q1.2 a0 9 33).bind fun a3 => (gti T q1.2 a0 9 32).bind fun x4 => (asti T q1.2 a3 x4 p1).bind fun u5 => (gti T u5 a0 9 32).bind fun x6 => (pti T u5 a0 9 32 (x6 + (1 : Int32))).bind fun u7 => (gti T u7 a0 9 32).bind fun x8 => some (x8, u7)))
set_option maxRecDepth 100000 in
set_option maxHeartbeats 4000000 in
theorem wX9_join {a0 : Nat} {p1 : Int32} {u0 : hM} {z : Int32 × hM} {ls : Array Slot} (hΓ : h_Γ E B T p s m args meth c cX9_join 2 (some .int) RX9) (hf : fX9_join T a0 p1 u0 = some z) (hw : h_W E B T s.heap u0 s.heap []) (hl : lv_has ls 2 [(0, .ref (B + a0)), (1, .int p1)]) : W p l e (h_rm 2) s m args below meth c s.heap [] 0 0 (h_Qi below E B T args s z) (F0 m 0 ls []) := by
  obtain ⟨hx, hb, hr, hml, hts, hown, hlk, hX⟩ := id hΓ
  unfold fX9_join at hf
  refine lv_iload_n hx hb dX9_join_0 rfl (lv_at hl 1 rfl) ?_
  refine h_cSi (As := [.int p1]) (rest := []) hf hx hb hml hts hown hX hw myX9_isHome msX9_isHome lkX9_358 (fun q hq => c_X9_isHome l E B T p1 u0 hq) ⟨Nat.le_of_ble_eq_true rfl, Nat.le_of_ble_eq_true rfl⟩ ⟨Nat.le_refl _, Nat.le_refl _⟩ rfl hl.1 rfl (Nat.le_of_ble_eq_true rfl) dX9_join_1 (fun q1 H1 L1 hf hw => ?_)
  refine lv_if_ne (tgt := 10) hx hb dX9_join_4 (by decide) (fun hc => ?_) (fun hc => ?_)
  · have hf := ifn hc hf
    refine lv_aload_n hx hb dX9_join_10 rfl (lv_at hl 0 rfl) ?_
    refine h_geti hf hx hb hts hown hX hw flX9_206 rfl dX9_join_11 (fun x2 hf => ?_)
    refine lv_bipush (v := 8) hx hb dX9_join_14 (by decide) ?_
    refine lv_icmp_ne (tgt := 22) hx hb dX9_join_16 (by decide) (fun hc => ?_) (fun hc => ?_)
    · have hf := ifn hc hf
      refine lv_aload_n hx hb dX9_join_22 rfl (lv_at hl 0 rfl) ?_
      refine h_getr hf hx hb hts hown hX hw flX9_72 rfl dX9_join_23 (fun a3 hf => ?_)
      refine lv_aload_n hx hb dX9_join_26 rfl (lv_at hl 0 rfl) ?_
      refine h_geti hf hx hb hts hown hX hw flX9_206 rfl dX9_join_27 (fun x4 hf => ?_)
      refine lv_iload_n hx hb dX9_join_30 rfl (lv_at hl 1 rfl) ?_
      refine h_iast hf hx hb hX hw dX9_join_31 (fun u5 H5 L5 hf hw => ?_)
      refine lv_aload_n hx hb dX9_join_32 rfl (lv_at hl 0 rfl) ?_
      refine lv_dup hx hb dX9_join_33 rfl ?_
      refine h_geti hf hx hb hts hown hX hw flX9_206 rfl dX9_join_34 (fun x6 hf => ?_)
      refine lv_iconst (v := 1) hx hb dX9_join_37 (by decide) ?_
      refine lv_iadd hx hb dX9_join_38 ?_
      refine h_puti hf hx hb hts hown hX hw flX9_206 ⟨rfl, rfl⟩ dX9_join_39 (fun u7 H7 L7 hf hw => ?_)
      refine lv_aload_n hx hb dX9_join_42 rfl (lv_at hl 0 rfl) ?_
      refine h_geti hf hx hb hts hown hX hw flX9_206 rfl dX9_join_43 (fun x8 hf => ?_)
      exact h_iret hf hx hb hr hlk hw dX9_join_46
    · have hf := ifp hc hf
      refine lv_ldc hx hb hown (hts _ kcX9_103) dX9_join_19 ?_
      exact h_iret hf hx hb hr hlk hw dX9_join_21
  · have hf := ifp hc hf
    refine lv_ldc hx hb hown (hts _ kcX9_99) dX9_join_7 ?_
    exact h_iret hf hx hb hr hlk hw dX9_join_9
theorem c_X9_join (l : Launch) (E : hE) (B : Nat) (T : hT) (a0 : Nat) (p1 : Int32) (u0 : hM) {z : Int32 × hM} (hf : fX9_join T a0 p1 u0 = some z) : h_Ct l E B T yX9_join cX9_join 2 (some .int) 2 [.ref (B + a0), .int p1] u0 z.2 (some (.int z.1)) := h_ofW (by decide) (Nat.le_of_ble_eq_true rfl) (fun p e s m below meth c ls hΓ hl hw => wX9_join hΓ hf hw hl)
def fX9_part (T : hT) (a0 : Nat) (u0 : hM) : Option (Int32 × hM) := (gti T u0 a0 9 32).bind fun x1 => (pti T u0 a0 9 32 (0 : Int32)).bind fun u2 => some (x1, u2)
set_option maxRecDepth 100000 in
set_option maxHeartbeats 4000000 in
theorem wX9_part {a0 : Nat} {u0 : hM} {z : Int32 × hM} {ls : Array Slot} (hΓ : h_Γ E B T p s m args meth c cX9_part 2 (some .int) RX9) (hf : fX9_part T a0 u0 = some z) (hw : h_W E B T s.heap u0 s.heap []) (hl : lv_has ls 2 [(0, .ref (B + a0))]) : W p l e (h_rm 0) s m args below meth c s.heap [] 0 0 (h_Qi below E B T args s z) (F0 m 0 ls []) := by
  obtain ⟨hx, hb, hr, hml, hts, hown, hlk, hX⟩ := id hΓ
  unfold fX9_part at hf
  refine lv_aload_n hx hb dX9_part_0 rfl (lv_at hl 0 rfl) ?_
  refine h_geti hf hx hb hts hown hX hw flX9_206 rfl dX9_part_1 (fun x1 hf => ?_)
  refine lv_istore_n (lv' := [(1, .int x1), (0, .ref (B + a0))]) hx hb dX9_part_4 rfl hl (by decide) rfl (fun ls hl => ?_)
  refine lv_aload_n hx hb dX9_part_5 rfl (lv_at hl 1 rfl) ?_
  refine lv_iconst (v := 0) hx hb dX9_part_6 (by decide) ?_
  refine h_puti hf hx hb hts hown hX hw flX9_206 ⟨rfl, rfl⟩ dX9_part_7 (fun u2 H2 L2 hf hw => ?_)
  refine lv_iload_n hx hb dX9_part_10 rfl (lv_at hl 0 rfl) ?_
  exact h_iret hf hx hb hr hlk hw dX9_part_11
theorem c_X9_part (l : Launch) (E : hE) (B : Nat) (T : hT) (a0 : Nat) (u0 : hM) {z : Int32 × hM} (hf : fX9_part T a0 u0 = some z) : h_Ct l E B T yX9_part cX9_part 2 (some .int) 0 [.ref (B + a0)] u0 z.2 (some (.int z.1)) := h_ofW (by decide) (Nat.le_of_ble_eq_true rfl) (fun p e s m below meth c ls hΓ hl hw => wX9_part hΓ hf hw hl)
end GEN
