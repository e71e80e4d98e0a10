section GEN
variable {p : Program} {l : Launch} {e : Env} {s : State} {m : MethodId} {args : Array Value} {below : List Frame} {meth : Method} {c : Code} {E : hE} {B : Nat} {T : hT}
def fX8_countAble_L4 (T : hT) (c0 : Nat) (c1 : Int32) (ex : Int32 → hM → Option (Int32 × hM)) : Nat → Int32 → Int32 → hM → Option (Int32 × hM)
  | 0, _, _, _ => none
  | n + 1, v2, v3, u0 => (gtr T u0 c0 8 6).bind fun a1 => (gti T u0 a1 5 3).bind fun x2 => if x2 ≤ v3 then (ex v2 u0) else ((gtr T u0 c0 8 6).bind fun a3 => (gtr T u0 a3 5 2).bind fun a4 => (aldr 15 T u0 a4 v3).bind fun a5 => (gti T u0 a5 3 0).bind fun x6 => lt (fun (x7 : Int32) (u8 : hM) => lt (v3 + (1 : Int32)) fun x9 => fX8_countAble_L4 T c0 c1 ex n x7 x9 u8) fun J81 => if x6 = (4 : Int32) then (J81 v2 u0) else ((gti T u0 a5 3 0).bind fun x10 => if x10 = (7 : Int32) then (J81 v2 u0) else ((gtr T u0 c0 8 1).bind fun a11 => (gti T u0 a5 3 5).bind fun x12 => (vc T a5 3 (fX3_highSung T a5 u0)).bind fun q13 => (vc T a11 1 (fX1_fitsWithin T a11 ((100 : Int32) * (x12 - c1)) ((100 : Int32) * (q13.1 - c1)) q13.2)).bind fun q14 => if q14.1 = 0 then (J81 v2 q14.2) else (lt (v2 + (1 : Int32)) fun x15 => J81 x15 q14.2))))
def fX8_countAble (T : hT) (a0 : Nat) (p1 : Int32) (u0 : hM) : Option (Int32 × hM) := fX8_countAble_L4 T a0 p1 (fun (x16 : Int32) (u17 : hM) => some (x16, u17)) 6000 (0 : Int32) (0 : Int32) u0
set_option maxRecDepth 100000 in
set_option maxHeartbeats 4000000 in
theorem wfX8_countAble_L4 {c0 : Nat} {c1 : Int32} {ex : Int32 → hM → Option (Int32 × hM)} {z : Int32 × hM} (hΓ : h_Γ E B T p s m args meth c cX8_countAble 5 (some .int) RX8) (hex : ∀ (y2 : Int32) (u9 : hM) (H9 : Heap) (L9 : List Loc) (ls : Array Slot), ex y2 u9 = some z → h_W E B T s.heap u9 H9 L9 → lv_has ls 5 [(2, .int y2)] → W p l e (h_rm 2) s m args below meth c H9 L9 0 0 (h_Qi below E B T args s z) (F0 m 87 ls [])) : ∀ (n : Nat) (v2 : Int32) (v3 : Int32) (u0 : hM) (H0 : Heap) (L0 : List Loc) (ls : Array Slot), fX8_countAble_L4 T c0 c1 ex n v2 v3 u0 = some z → h_W E B T s.heap u0 H0 L0 → lv_has ls 5 [(0, .ref (B + c0)), (1, .int c1), (2, .int v2), (3, .int v3)] → W p l e (h_rm 2) s m args below meth c H0 L0 0 0 (h_Qi below E B T args s z) (F0 m 4 ls []) := by
  obtain ⟨hx, hb, hr, hml, hts, hown, hlk, hX⟩ := id hΓ
  intro n
  induction n with
  | zero =>
    intro v2 v3 u0 H0 L0 ls hf hw hl
    exact absurd (show (none : Option (Int32 × hM)) = some z from hf) (fun h => by cases h)
  | succ n ih =>
    intro v2 v3 u0 H0 L0 ls hf hw hl
    rw [fX8_countAble_L4] at hf
    refine lv_iload_n hx hb dX8_countAble_4 rfl (lv_at hl 3 rfl) ?_
    refine lv_aload_n hx hb dX8_countAble_5 rfl (lv_at hl 0 rfl) ?_
    refine h_getr hf hx hb hts hown hX hw flX8_47 rfl dX8_countAble_6 (fun a1 hf => ?_)
    refine h_geti hf hx hb hts hown hX hw flX8_134 rfl dX8_countAble_9 (fun x2 hf => ?_)
    refine lv_icmp_ge (tgt := 87) hx hb dX8_countAble_12 (by decide) (fun hc => ?_) (fun hc => ?_)
    · have hf := ifp hc hf
      exact hex v2 u0 _ _ _ hf hw (lv_sub hl [2] rfl)
    · have hf := ifn hc hf
      refine lv_aload_n hx hb dX8_countAble_15 rfl (lv_at hl 0 rfl) ?_
      refine h_getr hf hx hb hts hown hX hw flX8_47 rfl dX8_countAble_16 (fun a3 hf => ?_)
      refine h_getr hf hx hb hts hown hX hw flX8_131 rfl dX8_countAble_19 (fun a4 hf => ?_)
      refine lv_iload_n hx hb dX8_countAble_22 rfl (lv_at hl 3 rfl) ?_
      refine h_aald15 hf hx hb hX hw dX8_countAble_23 (fun a5 hf => ?_)
      refine lv_astore (lv' := [(4, .ref (B + a5)), (0, .ref (B + c0)), (1, .int c1), (2, .int v2), (3, .int v3)]) hx hb dX8_countAble_24 hl (by decide) rfl (fun ls hl => ?_)
      refine lv_aload hx hb dX8_countAble_26 (lv_at hl 0 rfl) ?_
      refine h_geti hf hx hb hts hown hX hw flX8_169 rfl dX8_countAble_28 (fun x6 hf => ?_)
      refine lv_iconst (v := 4) hx hb dX8_countAble_31 (by decide) ?_
      obtain ⟨J81, eJ81, hf⟩ := h_lt hf
      have hJ81 : ∀ (x7 : Int32) (u8 : hM) (H8 : Heap) (L8 : List Loc) (ls : Array Slot), J81 x7 u8 = some z → h_W E B T s.heap u8 H8 L8 → lv_has ls 5 [(0, .ref (B + c0)), (1, .int c1), (2, .int x7), (3, .int v3)] → W p l e (h_rm 2) s m args below meth c H8 L8 0 0 (h_Qi below E B T args s z) (F0 m 81 ls []) := by
        intro x7 u8 H8 L8 ls hf hw hl
        rw [eJ81] at hf
        refine h_iinc (k := 3) hf hx hb dX8_countAble_81 hl rfl (by decide) (by decide) (fun x9 ls hf hl => ?_)
        have hl : lv_has ls 5 [(3, .int x9), (0, .ref (B + c0)), (1, .int c1), (2, .int x7)] := hl
        refine lv_goto (tgt := 4) hx hb dX8_countAble_84 (by decide) ?_
        exact ih x7 x9 u8 _ _ _ hf hw (lv_sub hl [1, 2, 3, 0] rfl)
      clear eJ81
      refine lv_icmp_eq (tgt := 81) hx hb dX8_countAble_32 (by decide) (fun hc => ?_) (fun hc => ?_)
      · have hf := ifp hc hf
        exact hJ81 v2 u0 _ _ _ hf hw (lv_sub hl [1, 2, 3, 4] rfl)
      · have hf := ifn hc hf
        refine lv_aload hx hb dX8_countAble_35 (lv_at hl 0 rfl) ?_
        refine h_geti hf hx hb hts hown hX hw flX8_169 rfl dX8_countAble_37 (fun x10 hf => ?_)
        refine lv_bipush (v := 7) hx hb dX8_countAble_40 (by decide) ?_
        refine lv_icmp_ne (tgt := 48) hx hb dX8_countAble_42 (by decide) (fun hc => ?_) (fun hc => ?_)
        · have hf := ifn hc hf
          refine lv_aload_n hx hb dX8_countAble_48 rfl (lv_at hl 1 rfl) ?_
          refine h_getr hf hx hb hts hown hX hw flX8_19 rfl dX8_countAble_49 (fun a11 hf => ?_)
          refine lv_bipush (v := 100) hx hb dX8_countAble_52 (by decide) ?_
          refine lv_aload hx hb dX8_countAble_54 (lv_at hl 0 rfl) ?_
          refine h_geti hf hx hb hts hown hX hw flX8_184 rfl dX8_countAble_56 (fun x12 hf => ?_)
          refine lv_iload_n hx hb dX8_countAble_59 rfl (lv_at hl 2 rfl) ?_
          refine lv_isub hx hb dX8_countAble_60 ?_
          refine lv_imul hx hb dX8_countAble_61 ?_
          refine lv_bipush (v := 100) hx hb dX8_countAble_62 (by decide) ?_
          refine lv_aload hx hb dX8_countAble_64 (lv_at hl 0 rfl) ?_
          refine h_cVi (As := []) (rest := [.int (100 : Int32), .int ((100 : Int32) * (x12 - c1)), .ref (B + a11)]) hf hx hb hml hts hown hX hw myX3_highSung miX3_highSung lkX8_372 ⟨rfl, by decide⟩ (fun q hq => c_X3_highSung l E B T a5 u0 hq) ⟨Nat.le_of_ble_eq_true rfl, Nat.le_of_ble_eq_true rfl⟩ ⟨Nat.le_refl _, Nat.le_refl _⟩ rfl hl.1 rfl (Nat.le_of_ble_eq_true rfl) dX8_countAble_66 (fun q13 H13 L13 hf hw => ?_)
          refine lv_iload_n hx hb dX8_countAble_69 rfl (lv_at hl 2 rfl) ?_
          refine lv_isub hx hb dX8_countAble_70 ?_
          refine lv_imul hx hb dX8_countAble_71 ?_
          refine h_cVi (As := [.int ((100 : Int32) * (x12 - c1)), .int ((100 : Int32) * (q13.1 - c1))]) (rest := []) hf hx hb hml hts hown hX hw myX1_fitsWithin miX1_fitsWithin lkX8_375 ⟨rfl, by decide⟩ (fun q hq => c_X1_fitsWithin l E B T a11 ((100 : Int32) * (x12 - c1)) ((100 : Int32) * (q13.1 - c1)) q13.2 hq) ⟨Nat.le_of_ble_eq_true rfl, Nat.le_of_ble_eq_true rfl⟩ ⟨Nat.le_refl _, Nat.le_refl _⟩ rfl hl.1 rfl (Nat.le_of_ble_eq_true rfl) dX8_countAble_72 (fun q14 H14 L14 hf hw => ?_)
          refine lv_if_eq (tgt := 81) hx hb dX8_countAble_75 (by decide) (fun hc => ?_) (fun hc => ?_)
          · have hf := ifp hc hf
            exact hJ81 v2 q14.2 _ _ _ hf hw (lv_sub hl [1, 2, 3, 4] rfl)
          · have hf := ifn hc hf
            refine h_iinc (k := 3) hf hx hb dX8_countAble_78 hl rfl (by decide) (by decide) (fun x15 ls hf hl => ?_)
            have hl : lv_has ls 5 [(2, .int x15), (4, .ref (B + a5)), (0, .ref (B + c0)), (1, .int c1), (3, .int v3)] := hl
            exact hJ81 x15 q14.2 _ _ _ hf hw (lv_sub hl [2, 3, 0, 4] rfl)
        · have hf := ifp hc hf
          refine lv_goto (tgt := 81) hx hb dX8_countAble_45 (by decide) ?_
          exact hJ81 v2 u0 _ _ _ hf hw (lv_sub hl [1, 2, 3, 4] rfl)
set_option maxRecDepth 100000 in
set_option maxHeartbeats 4000000 in
theorem wX8_countAble {a0 : Nat} {p1 : Int32} {u0 : hM} {z : Int32 × hM} {ls : Array Slot} (hΓ : h_Γ E B T p s m args meth c cX8_countAble 5 (some .int) RX8) (hf : fX8_countAble T a0 p1 u0 = some z) (hw : h_W E B T s.heap u0 s.heap []) (hl : lv_has ls 5 [(0, .ref (B + a0)), (1, .int p1)]) : W p l e (h_rm 2) s m args below meth c s.heap [] 0 0 (h_Qi below E B T args s z) (F0 m 0 ls []) := by
  obtain ⟨hx, hb, hr, hml, hts, hown, hlk, hX⟩ := id hΓ
  unfold fX8_countAble at hf
  refine lv_iconst (v := 0) hx hb dX8_countAble_0 (by decide) ?_
  refine lv_istore_n (lv' := [(2, .int (0 : Int32)), (0, .ref (B + a0)), (1, .int p1)]) hx hb dX8_countAble_1 rfl hl (by decide) rfl (fun ls hl => ?_)
  refine lv_iconst (v := 0) hx hb dX8_countAble_2 (by decide) ?_
  refine lv_istore_n (lv' := [(3, .int (0 : Int32)), (2, .int (0 : Int32)), (0, .ref (B + a0)), (1, .int p1)]) hx hb dX8_countAble_3 rfl hl (by decide) rfl (fun ls hl => ?_)
  refine wfX8_countAble_L4 hΓ ?_ 6000 (0 : Int32) (0 : Int32) u0 _ _ _ hf hw (lv_sub hl [2, 3, 1, 0] rfl)
  intro x16 u17 H17 L17 ls hf hw hl
  refine lv_iload_n hx hb dX8_countAble_87 rfl (lv_at hl 0 rfl) ?_
  exact h_iret hf hx hb hr hlk hw dX8_countAble_88
theorem c_X8_countAble (l : Launch) (E : hE) (B : Nat) (T : hT) (a0 : Nat) (p1 : Int32) (u0 : hM) {z : Int32 × hM} (hf : fX8_countAble T a0 p1 u0 = some z) : h_Ct l E B T yX8_countAble cX8_countAble 5 (some .int) 2 [.ref (B + a0), .int p1] u0 z.2 (some (.int z.1)) := h_ofW (by decide) (Nat.le_of_ble_eq_true rfl) (fun p e s m below meth c ls hΓ hl hw => wX8_countAble hΓ hf hw hl)
def fX8_key_L19 (T : hT) (c0 : Nat) (ex : Int32 → Int32 → hM → Option (Int32 × hM)) : Nat → Int32 → Int32 → Int32 → hM → Option (Int32 × hM)
  | 0, _, _, _, _ => none
  | n + 1, v2, v3, v4, u0 => if (24 : Int32) < v4 then (ex v2 v3 u0) else (lt (fun (x2 : Int32) (u3 : hM) => (vc T c0 8 (fX8_countAble T c0 x2 u3)).bind fun q4 => lt (fun (x5 : Int32) (x6 : Int32) (u7 : hM) => lt (v4 + (1 : Int32)) fun x8 => fX8_key_L19 T c0 ex n x5 x6 x8 u7) fun J70 => if q4.1 ≤ v3 then (J70 v2 v3 q4.2) else (J70 x2 q4.1 q4.2)) fun J48 => if (v4 - v4 / (2 : Int32) * (2 : Int32)) = (1 : Int32) then (J48 ((-(v4 + (1 : Int32))) / (2 : Int32)) u0) else (J48 (v4 / (2 : Int32)) u0))
def fX8_key (T : hT) (a0 : Nat) (p1 : Int32) (u0 : hM) : Option (Int32 × hM) := (fX8_isWithin T p1 (0 : Int32) (1 : Int32) u0).bind fun q1 => if q1.1 = 0 then (some ((-1000000002 : Int32), q1.2)) else (fX8_key_L19 T a0 (fun (x9 : Int32) (x10 : Int32) (u11 : hM) => if p1 = 0 then (some (x9, u11)) else (some (x10, u11))) 6000 (0 : Int32) (-1 : Int32) (0 : Int32) q1.2)
set_option maxRecDepth 100000 in
set_option maxHeartbeats 4000000 in
theorem wfX8_key_L19 {c0 : Nat} {c1 : Int32} {ex : Int32 → Int32 → hM → Option (Int32 × hM)} {z : Int32 × hM} (hΓ : h_Γ E B T p s m args meth c cX8_key 7 (some .int) RX8) (hex : ∀ (y2 : Int32) (y3 : Int32) (u9 : hM) (H9 : Heap) (L9 : List Loc) (ls : Array Slot), ex y2 y3 u9 = some z → h_W E B T s.heap u9 H9 L9 → lv_has ls 7 [(1, .int c1), (2, .int y2), (3, .int y3)] → W p l e (h_rm 3) s m args below meth c H9 L9 0 0 (h_Qi below E B T args s z) (F0 m 76 ls [])) : ∀ (n : Nat) (v2 : Int32) (v3 : Int32) (v4 : Int32) (u0 : hM) (H0 : Heap) (L0 : List Loc) (ls : Array Slot), fX8_key_L19 T c0 ex n v2 v3 v4 u0 = some z → h_W E B T s.heap u0 H0 L0 → lv_has ls 7 [(0, .ref (B + c0)), (1, .int c1), (2, .int v2), (3, .int v3), (4, .int v4)] → W p l e (h_rm 3) s m args below meth c H0 L0 0 0 (h_Qi below E B T args s z) (F0 m 19 ls []) := by
  obtain ⟨hx, hb, hr, hml, hts, hown, hlk, hX⟩ := id hΓ
  intro n
  induction n with
  | zero =>
    intro v2 v3 v4 u0 H0 L0 ls hf hw hl
    exact absurd (show (none : Option (Int32 × hM)) = some z from hf) (fun h => by cases h)
  | succ n ih =>
    intro v2 v3 v4 u0 H0 L0 ls hf hw hl
    rw [fX8_key_L19] at hf
    refine lv_iload hx hb dX8_key_19 (lv_at hl 4 rfl) ?_
    refine lv_bipush (v := 24) hx hb dX8_key_21 (by decide) ?_
    refine lv_icmp_gt (tgt := 76) hx hb dX8_key_23 (by decide) (fun hc => ?_) (fun hc => ?_)
    · have hf := ifp hc hf
      exact hex v2 v3 u0 _ _ _ hf hw (lv_sub hl [1, 2, 3] rfl)
    · have hf := ifn hc hf
      refine lv_iload hx hb dX8_key_26 (lv_at hl 4 rfl) ?_
      refine lv_iconst (v := 2) hx hb dX8_key_28 (by decide) ?_
      refine lv_irem hx hb dX8_key_29 (by decide) ?_
      refine lv_iconst (v := 1) hx hb dX8_key_30 (by decide) ?_
      obtain ⟨J48, eJ48, hf⟩ := h_lt hf
      have hJ48 : ∀ (x2 : Int32) (u3 : hM) (H3 : Heap) (L3 : List Loc) (ls : Array Slot), J48 x2 u3 = some z → h_W E B T s.heap u3 H3 L3 → lv_has ls 7 [(0, .ref (B + c0)), (1, .int c1), (2, .int v2), (3, .int v3), (4, .int v4)] → W p l e (h_rm 3) s m args below meth c H3 L3 0 0 (h_Qi below E B T args s z) (F0 m 48 ls [.int x2]) := by
        intro x2 u3 H3 L3 ls hf hw hl
        rw [eJ48] at hf
        refine lv_istore (lv' := [(5, .int x2), (0, .ref (B + c0)), (1, .int c1), (2, .int v2), (3, .int v3), (4, .int v4)]) hx hb dX8_key_48 hl (by decide) rfl (fun ls hl => ?_)
        refine lv_aload_n hx hb dX8_key_50 rfl (lv_at hl 1 rfl) ?_
        refine lv_iload hx hb dX8_key_51 (lv_at hl 0 rfl) ?_
        refine h_cVi (As := [.int x2]) (rest := []) hf hx hb hml hts hown hX hw myX8_countAble miX8_countAble lkX8_289 ⟨rfl, by decide⟩ (fun q hq => c_X8_countAble l E B T c0 x2 u3 hq) ⟨Nat.le_of_ble_eq_true rfl, Nat.le_of_ble_eq_true rfl⟩ ⟨Nat.le_refl _, Nat.le_refl _⟩ rfl hl.1 rfl (Nat.le_of_ble_eq_true rfl) dX8_key_53 (fun q4 H4 L4 hf hw => ?_)
        refine lv_istore (lv' := [(6, .int q4.1), (5, .int x2), (0, .ref (B + c0)), (1, .int c1), (2, .int v2), (3, .int v3), (4, .int v4)]) hx hb dX8_key_56 hl (by decide) rfl (fun ls hl => ?_)
        refine lv_iload hx hb dX8_key_58 (lv_at hl 0 rfl) ?_
        refine lv_iload_n hx hb dX8_key_60 rfl (lv_at hl 5 rfl) ?_
        obtain ⟨J70, eJ70, hf⟩ := h_lt hf
        have hJ70 : ∀ (x5 : Int32) (x6 : Int32) (u7 : hM) (H7 : Heap) (L7 : List Loc) (ls : Array Slot), J70 x5 x6 u7 = some z → h_W E B T s.heap u7 H7 L7 → lv_has ls 7 [(0, .ref (B + c0)), (1, .int c1), (2, .int x5), (3, .int x6), (4, .int v4)] → W p l e (h_rm 3) s m args below meth c H7 L7 0 0 (h_Qi below E B T args s z) (F0 m 70 ls []) := by
          intro x5 x6 u7 H7 L7 ls hf hw hl
          rw [eJ70] at hf
          refine h_iinc (k := 4) hf hx hb dX8_key_70 hl rfl (by decide) (by decide) (fun x8 ls hf hl => ?_)
          have hl : lv_has ls 7 [(4, .int x8), (0, .ref (B + c0)), (1, .int c1), (2, .int x5), (3, .int x6)] := hl
          refine lv_goto (tgt := 19) hx hb dX8_key_73 (by decide) ?_
          exact ih x5 x6 x8 u7 _ _ _ hf hw (lv_sub hl [1, 2, 3, 4, 0] rfl)
        clear eJ70
        refine lv_icmp_le (tgt := 70) hx hb dX8_key_61 (by decide) (fun hc => ?_) (fun hc => ?_)
        · have hf := ifp hc hf
          exact hJ70 v2 v3 q4.2 _ _ _ hf hw (lv_sub hl [2, 3, 4, 5, 6] rfl)
        · have hf := ifn hc hf
          refine lv_iload hx hb dX8_key_64 (lv_at hl 0 rfl) ?_
          refine lv_istore_n (lv' := [(3, .int q4.1), (6, .int q4.1), (5, .int x2), (0, .ref (B + c0)), (1, .int c1), (2, .int v2), (4, .int v4)]) hx hb dX8_key_66 rfl hl (by decide) rfl (fun ls hl => ?_)
          refine lv_iload hx hb dX8_key_67 (lv_at hl 2 rfl) ?_
          refine lv_istore_n (lv' := [(2, .int x2), (3, .int q4.1), (6, .int q4.1), (5, .int x2), (0, .ref (B + c0)), (1, .int c1), (4, .int v4)]) hx hb dX8_key_69 rfl hl (by decide) rfl (fun ls hl => ?_)
          exact hJ70 x2 q4.1 q4.2 _ _ _ hf hw (lv_sub hl [4, 5, 0, 1, 6] rfl)
      clear eJ48
      refine lv_icmp_ne (tgt := 44) hx hb dX8_key_31 (by decide) (fun hc => ?_) (fun hc => ?_)
      · have hf := ifn hc hf
        refine lv_iload hx hb dX8_key_44 (lv_at hl 4 rfl) ?_
        refine lv_iconst (v := 2) hx hb dX8_key_46 (by decide) ?_
        refine lv_idiv hx hb dX8_key_47 (by decide) ?_
        exact hJ48 (v4 / (2 : Int32)) u0 _ _ _ hf hw (lv_sub hl [0, 1, 2, 3, 4] rfl)
      · have hf := ifp hc hf
        refine lv_iload hx hb dX8_key_34 (lv_at hl 4 rfl) ?_
        refine lv_iconst (v := 1) hx hb dX8_key_36 (by decide) ?_
        refine lv_iadd hx hb dX8_key_37 ?_
        refine lv_ineg hx hb dX8_key_38 ?_
        refine lv_iconst (v := 2) hx hb dX8_key_39 (by decide) ?_
        refine lv_idiv hx hb dX8_key_40 (by decide) ?_
        refine lv_goto (tgt := 48) hx hb dX8_key_41 (by decide) ?_
        exact hJ48 ((-(v4 + (1 : Int32))) / (2 : Int32)) u0 _ _ _ hf hw (lv_sub hl [0, 1, 2, 3, 4] rfl)
set_option maxRecDepth 100000 in
set_option maxHeartbeats 4000000 in
theorem wX8_key {a0 : Nat} {p1 : Int32} {u0 : hM} {z : Int32 × hM} {ls : Array Slot} (hΓ : h_Γ E B T p s m args meth c cX8_key 7 (some .int) RX8) (hf : fX8_key T a0 p1 u0 = some z) (hw : h_W E B T s.heap u0 s.heap []) (hl : lv_has ls 7 [(0, .ref (B + a0)), (1, .int p1)]) : W p l e (h_rm 3) s m args below meth c s.heap [] 0 0 (h_Qi below E B T args s z) (F0 m 0 ls []) := by
  obtain ⟨hx, hb, hr, hml, hts, hown, hlk, hX⟩ := id hΓ
  unfold fX8_key at hf
  refine lv_iload_n hx hb dX8_key_0 rfl (lv_at hl 1 rfl) ?_
  refine lv_iconst (v := 0) hx hb dX8_key_1 (by decide) ?_
  refine lv_iconst (v := 1) hx hb dX8_key_2 (by decide) ?_
  refine h_cSi (As := [.int p1, .int (0 : Int32), .int (1 : Int32)]) (rest := []) hf hx hb hml hts hown hX hw myX8_isWithin msX8_isWithin lkX8_91 (fun q hq => c_X8_isWithin l E B T p1 (0 : Int32) (1 : Int32) u0 hq) ⟨Nat.le_of_ble_eq_true rfl, Nat.le_of_ble_eq_true rfl⟩ ⟨Nat.le_refl _, Nat.le_refl _⟩ rfl hl.1 rfl (Nat.le_of_ble_eq_true rfl) dX8_key_3 (fun q1 H1 L1 hf hw => ?_)
  refine lv_if_ne (tgt := 12) hx hb dX8_key_6 (by decide) (fun hc => ?_) (fun hc => ?_)
  · have hf := ifn hc hf
    refine lv_iconst (v := 0) hx hb dX8_key_12 (by decide) ?_
    refine lv_istore_n (lv' := [(2, .int (0 : Int32)), (0, .ref (B + a0)), (1, .int p1)]) hx hb dX8_key_13 rfl hl (by decide) rfl (fun ls hl => ?_)
    refine lv_iconst (v := -1) hx hb dX8_key_14 (by decide) ?_
    refine lv_istore_n (lv' := [(3, .int (-1 : Int32)), (2, .int (0 : Int32)), (0, .ref (B + a0)), (1, .int p1)]) hx hb dX8_key_15 rfl hl (by decide) rfl (fun ls hl => ?_)
    refine lv_iconst (v := 0) hx hb dX8_key_16 (by decide) ?_
    refine lv_istore (lv' := [(4, .int (0 : Int32)), (3, .int (-1 : Int32)), (2, .int (0 : Int32)), (0, .ref (B + a0)), (1, .int p1)]) hx hb dX8_key_17 hl (by decide) rfl (fun ls hl => ?_)
    refine wfX8_key_L19 hΓ ?_ 6000 (0 : Int32) (-1 : Int32) (0 : Int32) q1.2 _ _ _ hf hw (lv_sub hl [3, 4, 2, 1, 0] rfl)
    intro x9 x10 u11 H11 L11 ls hf hw hl
    refine lv_iload_n hx hb dX8_key_76 rfl (lv_at hl 0 rfl) ?_
    refine lv_if_ne (tgt := 84) hx hb dX8_key_77 (by decide) (fun hc => ?_) (fun hc => ?_)
    · have hf := ifn hc hf
      refine lv_iload_n hx hb dX8_key_84 rfl (lv_at hl 2 rfl) ?_
      exact h_iret hf hx hb hr hlk hw dX8_key_85
    · have hf := ifp hc hf
      refine lv_iload_n hx hb dX8_key_80 rfl (lv_at hl 1 rfl) ?_
      refine lv_goto (tgt := 85) hx hb dX8_key_81 (by decide) ?_
      exact h_iret hf hx hb hr hlk hw dX8_key_85
  · have hf := ifp hc hf
    refine lv_ldc hx hb hown (hts _ kcX8_95) dX8_key_9 ?_
    exact h_iret hf hx hb hr hlk hw dX8_key_11
theorem c_X8_key (l : Launch) (E : hE) (B : Nat) (T : hT) (a0 : Nat) (p1 : Int32) (u0 : hM) {z : Int32 × hM} (hf : fX8_key T a0 p1 u0 = some z) : h_Ct l E B T yX8_key cX8_key 7 (some .int) 3 [.ref (B + a0), .int p1] u0 z.2 (some (.int z.1)) := h_ofW (by decide) (Nat.le_of_ble_eq_true rfl) (fun p e s m below meth c ls hΓ hl hw => wX8_key hΓ hf hw hl)
def fX8_age_L71 (T : hT) (c0 : Nat) (ex : hM → Option (Int32 × hM)) : Nat → Int32 → hM → Option (Int32 × hM)
  | 0, _, _ => none
  | n + 1, v4, u0 => if (4 : Int32) ≤ v4 then (ex u0) else ((gtr T u0 c0 8 13).bind fun a13 => (vc T a13 3 (fX3_learn T a13 v4 u0)).bind fun q14 => lt (v4 + (1 : Int32)) fun x15 => fX8_age_L71 T c0 ex n x15 q14)
def fX8_age_L29 (T : hT) (c0 : Nat) (ex : hM → Option (Int32 × hM)) : Nat → Int32 → hM → Option (Int32 × hM)
  | 0, _, _ => none
  | n + 1, v2, u0 => if (30 : Int32) < v2 then (ex u0) else ((gtr T u0 c0 8 12).bind fun a7 => (gtr T u0 c0 8 13).bind fun a8 => (vc T c0 8 (fX8_singInto T c0 a7 a8 (3 : Int32) u0)).bind fun q9 => (gtr T q9 c0 8 12).bind fun a10 => (gtr T q9 c0 8 1).bind fun a11 => (vc T a10 4 (fX4_wrongBy T a10 a11 q9)).bind fun q12 => if (q12.1 &&& (3 : Int32)) = 0 then (some (v2, q12.2)) else (fX8_age_L71 T c0 (fun (u16 : hM) => lt (v2 + (1 : Int32)) fun x17 => fX8_age_L29 T c0 ex n x17 u16) 6000 (0 : Int32) q12.2))
def fX8_age (T : hT) (a0 : Nat) (p1 : Int32) (u0 : hM) : Option (Int32 × hM) := (vc T a0 8 (fX8_isSinger T a0 p1 u0)).bind fun q1 => if q1.1 = 0 then (some ((-1000000001 : Int32), q1.2)) else ((gtr T q1.2 a0 8 13).bind fun a2 => (gtr T q1.2 a0 8 6).bind fun a3 => (gtr T q1.2 a3 5 2).bind fun a4 => (aldr 15 T q1.2 a4 p1).bind fun a5 => (vc T a2 3 (fX3_copyFrom T a2 a5 q1.2)).bind fun q6 => fX8_age_L29 T a0 (fun (u18 : hM) => some ((-1 : Int32), u18)) 6000 (0 : Int32) q6)
set_option maxRecDepth 100000 in
set_option maxHeartbeats 4000000 in
theorem wfX8_age_L71 {c0 : Nat} {c2 : Int32} {ex : hM → Option (Int32 × hM)} {z : Int32 × hM} (hΓ : h_Γ E B T p s m args meth c cX8_age 5 (some .int) RX8) (hex : ∀ (u9 : hM) (H9 : Heap) (L9 : List Loc) (ls : Array Slot), ex u9 = some z → h_W E B T s.heap u9 H9 L9 → lv_has ls 5 [(0, .ref (B + c0)), (2, .int c2)] → W p l e (h_rm 6) s m args below meth c H9 L9 0 0 (h_Qi below E B T args s z) (F0 m 92 ls [])) : ∀ (n : Nat) (v4 : Int32) (u0 : hM) (H0 : Heap) (L0 : List Loc) (ls : Array Slot), fX8_age_L71 T c0 ex n v4 u0 = some z → h_W E B T s.heap u0 H0 L0 → lv_has ls 5 [(0, .ref (B + c0)), (2, .int c2), (4, .int v4)] → W p l e (h_rm 6) s m args below meth c H0 L0 0 0 (h_Qi below E B T args s z) (F0 m 71 ls []) := by
  obtain ⟨hx, hb, hr, hml, hts, hown, hlk, hX⟩ := id hΓ
  intro n
  induction n with
  | zero =>
    intro v4 u0 H0 L0 ls hf hw hl
    exact absurd (show (none : Option (Int32 × hM)) = some z from hf) (fun h => by cases h)
  | succ n ih =>
    intro v4 u0 H0 L0 ls hf hw hl
    rw [fX8_age_L71] at hf
    refine lv_iload hx hb dX8_age_71 (lv_at hl 2 rfl) ?_
    refine lv_iconst (v := 4) hx hb dX8_age_73 (by decide) ?_
    refine lv_icmp_ge (tgt := 92) hx hb dX8_age_74 (by decide) (fun hc => ?_) (fun hc => ?_)
    · have hf := ifp hc hf
      exact hex  u0 _ _ _ hf hw (lv_sub hl [0, 1] rfl)
    · have hf := ifn hc hf
      refine lv_aload_n hx hb dX8_age_77 rfl (lv_at hl 0 rfl) ?_
      refine h_getr hf hx hb hts hown hX hw flX8_87 rfl dX8_age_78 (fun a13 hf => ?_)
      refine lv_iload hx hb dX8_age_81 (lv_at hl 2 rfl) ?_
      refine h_cVv (As := [.int v4]) (rest := []) hf hx hb hml hts hown hX hw myX3_learn miX3_learn lkX8_270 ⟨rfl, by decide⟩ (fun q hq => c_X3_learn l E B T a13 v4 u0 hq) ⟨Nat.le_of_ble_eq_true rfl, Nat.le_of_ble_eq_true rfl⟩ ⟨Nat.le_refl _, Nat.le_refl _⟩ rfl hl.1 rfl (Nat.le_of_ble_eq_true rfl) dX8_age_83 (fun q14 H14 L14 hf hw => ?_)
      refine h_iinc (k := 2) hf hx hb dX8_age_86 hl rfl (by decide) (by decide) (fun x15 ls hf hl => ?_)
      have hl : lv_has ls 5 [(4, .int x15), (0, .ref (B + c0)), (2, .int c2)] := hl
      refine lv_goto (tgt := 71) hx hb dX8_age_89 (by decide) ?_
      exact ih x15 q14 _ _ _ hf hw (lv_sub hl [1, 2, 0] rfl)
set_option maxRecDepth 100000 in
set_option maxHeartbeats 4000000 in
theorem wfX8_age_L29 {c0 : Nat} {ex : hM → Option (Int32 × hM)} {z : Int32 × hM} (hΓ : h_Γ E B T p s m args meth c cX8_age 5 (some .int) RX8) (hex : ∀ (u9 : hM) (H9 : Heap) (L9 : List Loc) (ls : Array Slot), ex u9 = some z → h_W E B T s.heap u9 H9 L9 → lv_has ls 5 [] → W p l e (h_rm 6) s m args below meth c H9 L9 0 0 (h_Qi below E B T args s z) (F0 m 98 ls [])) : ∀ (n : Nat) (v2 : Int32) (u0 : hM) (H0 : Heap) (L0 : List Loc) (ls : Array Slot), fX8_age_L29 T c0 ex n v2 u0 = some z → h_W E B T s.heap u0 H0 L0 → lv_has ls 5 [(0, .ref (B + c0)), (2, .int v2)] → W p l e (h_rm 6) s m args below meth c H0 L0 0 0 (h_Qi below E B T args s z) (F0 m 29 ls []) := by
  obtain ⟨hx, hb, hr, hml, hts, hown, hlk, hX⟩ := id hΓ
  intro n
  induction n with
  | zero =>
    intro v2 u0 H0 L0 ls hf hw hl
    exact absurd (show (none : Option (Int32 × hM)) = some z from hf) (fun h => by cases h)
  | succ n ih =>
    intro v2 u0 H0 L0 ls hf hw hl
    rw [fX8_age_L29] at hf
    refine lv_iload_n hx hb dX8_age_29 rfl (lv_at hl 1 rfl) ?_
    refine lv_bipush (v := 30) hx hb dX8_age_30 (by decide) ?_
    refine lv_icmp_gt (tgt := 98) hx hb dX8_age_32 (by decide) (fun hc => ?_) (fun hc => ?_)
    · have hf := ifp hc hf
      exact hex  u0 _ _ _ hf hw (lv_sub hl [] rfl)
    · have hf := ifn hc hf
      refine lv_aload_n hx hb dX8_age_35 rfl (lv_at hl 0 rfl) ?_
      refine lv_aload_n hx hb dX8_age_36 rfl (lv_at hl 0 rfl) ?_
      refine h_getr hf hx hb hts hown hX hw flX8_80 rfl dX8_age_37 (fun a7 hf => ?_)
      refine lv_aload_n hx hb dX8_age_40 rfl (lv_at hl 0 rfl) ?_
      refine h_getr hf hx hb hts hown hX hw flX8_87 rfl dX8_age_41 (fun a8 hf => ?_)
      refine lv_iconst (v := 3) hx hb dX8_age_44 (by decide) ?_
      refine h_cVv (As := [.ref (B + a7), .ref (B + a8), .int (3 : Int32)]) (rest := []) hf hx hb hml hts hown hX hw myX8_singInto miX8_singInto lkX8_208 ⟨rfl, by decide⟩ (fun q hq => c_X8_singInto l E B T c0 a7 a8 (3 : Int32) u0 hq) ⟨Nat.le_of_ble_eq_true rfl, Nat.le_of_ble_eq_true rfl⟩ ⟨Nat.le_refl _, Nat.le_refl _⟩ rfl hl.1 rfl (Nat.le_of_ble_eq_true rfl) dX8_age_45 (fun q9 H9 L9 hf hw => ?_)
      refine lv_aload_n hx hb dX8_age_48 rfl (lv_at hl 0 rfl) ?_
      refine h_getr hf hx hb hts hown hX hw flX8_80 rfl dX8_age_49 (fun a10 hf => ?_)
      refine lv_aload_n hx hb dX8_age_52 rfl (lv_at hl 0 rfl) ?_
      refine h_getr hf hx hb hts hown hX hw flX8_19 rfl dX8_age_53 (fun a11 hf => ?_)
      refine h_cVi (As := [.ref (B + a11)]) (rest := []) hf hx hb hml hts hown hX hw myX4_wrongBy miX4_wrongBy lkX8_228 ⟨rfl, by decide⟩ (fun q hq => c_X4_wrongBy l E B T a10 a11 q9 hq) ⟨Nat.le_of_ble_eq_true rfl, Nat.le_of_ble_eq_true rfl⟩ ⟨Nat.le_refl _, Nat.le_refl _⟩ rfl hl.1 rfl (Nat.le_of_ble_eq_true rfl) dX8_age_56 (fun q12 H12 L12 hf hw => ?_)
      refine lv_istore_n (lv' := [(3, .int q12.1), (0, .ref (B + c0)), (2, .int v2)]) hx hb dX8_age_59 rfl hl (by decide) rfl (fun ls hl => ?_)
      refine lv_iload_n hx hb dX8_age_60 rfl (lv_at hl 0 rfl) ?_
      refine lv_iconst (v := 3) hx hb dX8_age_61 (by decide) ?_
      refine lv_iand hx hb dX8_age_62 ?_
      refine lv_if_ne (tgt := 68) hx hb dX8_age_63 (by decide) (fun hc => ?_) (fun hc => ?_)
      · have hf := ifn hc hf
        refine lv_iconst (v := 0) hx hb dX8_age_68 (by decide) ?_
        refine lv_istore (lv' := [(4, .int (0 : Int32)), (3, .int q12.1), (0, .ref (B + c0)), (2, .int v2)]) hx hb dX8_age_69 hl (by decide) rfl (fun ls hl => ?_)
        refine wfX8_age_L71 hΓ ?_ 6000 (0 : Int32) q12.2 _ _ _ hf hw (lv_sub hl [2, 3, 0] rfl)
        intro u16 H16 L16 ls hf hw hl
        refine h_iinc (k := 1) hf hx hb dX8_age_92 hl rfl (by decide) (by decide) (fun x17 ls hf hl => ?_)
        have hl : lv_has ls 5 [(2, .int x17), (0, .ref (B + c0))] := hl
        refine lv_goto (tgt := 29) hx hb dX8_age_95 (by decide) ?_
        exact ih x17 u16 _ _ _ hf hw (lv_sub hl [1, 0] rfl)
      · have hf := ifp hc hf
        refine lv_iload_n hx hb dX8_age_66 rfl (lv_at hl 2 rfl) ?_
        exact h_iret hf hx hb hr hlk hw dX8_age_67
set_option maxRecDepth 100000 in
set_option maxHeartbeats 4000000 in
theorem wX8_age {a0 : Nat} {p1 : Int32} {u0 : hM} {z : Int32 × hM} {ls : Array Slot} (hΓ : h_Γ E B T p s m args meth c cX8_age 5 (some .int) RX8) (hf : fX8_age T a0 p1 u0 = some z) (hw : h_W E B T s.heap u0 s.heap []) (hl : lv_has ls 5 [(0, .ref (B + a0)), (1, .int p1)]) : W p l e (h_rm 6) s m args below meth c s.heap [] 0 0 (h_Qi below E B T args s z) (F0 m 0 ls []) := by
  obtain ⟨hx, hb, hr, hml, hts, hown, hlk, hX⟩ := id hΓ
  unfold fX8_age at hf
  refine lv_aload_n hx hb dX8_age_0 rfl (lv_at hl 0 rfl) ?_
  refine lv_iload_n hx hb dX8_age_1 rfl (lv_at hl 1 rfl) ?_
  refine h_cVi (As := [.int p1]) (rest := []) hf hx hb hml hts hown hX hw myX8_isSinger miX8_isSinger lkX8_165 ⟨rfl, by decide⟩ (fun q hq => c_X8_isSinger l E B T a0 p1 u0 hq) ⟨Nat.le_of_ble_eq_true rfl, Nat.le_of_ble_eq_true rfl⟩ ⟨Nat.le_refl _, Nat.le_refl _⟩ rfl hl.1 rfl (Nat.le_of_ble_eq_true rfl) dX8_age_2 (fun q1 H1 L1 hf hw => ?_)
  refine lv_if_ne (tgt := 11) hx hb dX8_age_5 (by decide) (fun hc => ?_) (fun hc => ?_)
  · have hf := ifn hc hf
    refine lv_aload_n hx hb dX8_age_11 rfl (lv_at hl 0 rfl) ?_
    refine h_getr hf hx hb hts hown hX hw flX8_87 rfl dX8_age_12 (fun a2 hf => ?_)
    refine lv_aload_n hx hb dX8_age_15 rfl (lv_at hl 0 rfl) ?_
    refine h_getr hf hx hb hts hown hX hw flX8_47 rfl dX8_age_16 (fun a3 hf => ?_)
    refine h_getr hf hx hb hts hown hX hw flX8_131 rfl dX8_age_19 (fun a4 hf => ?_)
    refine lv_iload_n hx hb dX8_age_22 rfl (lv_at hl 1 rfl) ?_
    refine h_aald15 hf hx hb hX hw dX8_age_23 (fun a5 hf => ?_)
    refine h_cVv (As := [.ref (B + a5)]) (rest := []) hf hx hb hml hts hown hX hw myX3_copyFrom miX3_copyFrom lkX8_281 ⟨rfl, by decide⟩ (fun q hq => c_X3_copyFrom l E B T a2 a5 q1.2 hq) ⟨Nat.le_of_ble_eq_true rfl, Nat.le_of_ble_eq_true rfl⟩ ⟨Nat.le_refl _, Nat.le_refl _⟩ rfl hl.1 rfl (Nat.le_of_ble_eq_true rfl) dX8_age_24 (fun q6 H6 L6 hf hw => ?_)
    refine lv_iconst (v := 0) hx hb dX8_age_27 (by decide) ?_
    refine lv_istore_n (lv' := [(2, .int (0 : Int32)), (0, .ref (B + a0)), (1, .int p1)]) hx hb dX8_age_28 rfl hl (by decide) rfl (fun ls hl => ?_)
    refine wfX8_age_L29 hΓ ?_ 6000 (0 : Int32) q6 _ _ _ hf hw (lv_sub hl [1, 0] rfl)
    intro u18 H18 L18 ls hf hw hl
    refine lv_iconst (v := -1) hx hb dX8_age_98 (by decide) ?_
    exact h_iret hf hx hb hr hlk hw dX8_age_99
  · have hf := ifp hc hf
    refine lv_ldc hx hb hown (hts _ kcX8_158) dX8_age_8 ?_
    exact h_iret hf hx hb hr hlk hw dX8_age_10
theorem c_X8_age (l : Launch) (E : hE) (B : Nat) (T : hT) (a0 : Nat) (p1 : Int32) (u0 : hM) {z : Int32 × hM} (hf : fX8_age T a0 p1 u0 = some z) : h_Ct l E B T yX8_age cX8_age 5 (some .int) 6 [.ref (B + a0), .int p1] u0 z.2 (some (.int z.1)) := h_ofW (by decide) (Nat.le_of_ble_eq_true rfl) (fun p e s m below meth c ls hΓ hl hw => wX8_age hΓ hf hw hl)
def fX8_answersNeeded (T : hT) (p0 : Int32) (p1 : Int32) (p2 : Int32) (u0 : hM) : Option (Int32 × hM) := if p1 = 0 then (some (p0, u0)) else (if p0 = (1 : Int32) then (some (p0, u0)) else (if (p0 - p0 / (2 : Int32) * (2 : Int32)) = (1 : Int32) then (some (((p0 * (p2 + (1 : Int32))) + (p2 - (1 : Int32))), u0)) else (some (((p0 * (p2 + (1 : Int32))) + (0 : Int32)), u0))))
set_option maxRecDepth 100000 in
set_option maxHeartbeats 4000000 in
theorem wX8_answersNeeded {p0 : Int32} {p1 : Int32} {p2 : Int32} {u0 : hM} {z : Int32 × hM} {ls : Array Slot} (hΓ : h_Γ E B T p s m args meth c cX8_answersNeeded 3 (some .int) RX8) (hf : fX8_answersNeeded T p0 p1 p2 u0 = some z) (hw : h_W E B T s.heap u0 s.heap []) (hl : lv_has ls 3 [(0, .int p0), (1, .int p1), (2, .int p2)]) : W p l e (h_rm 0) s m args below meth c s.heap [] 0 0 (h_Qi below E B T args s z) (F0 m 0 ls []) := by
  obtain ⟨hx, hb, hr, hml, hts, hown, hlk, hX⟩ := id hΓ
  unfold fX8_answersNeeded at hf
  refine lv_iload_n hx hb dX8_answersNeeded_0 rfl (lv_at hl 1 rfl) ?_
  refine lv_if_eq (tgt := 9) hx hb dX8_answersNeeded_1 (by decide) (fun hc => ?_) (fun hc => ?_)
  · have hf := ifp hc hf
    refine lv_iload_n hx hb dX8_answersNeeded_9 rfl (lv_at hl 0 rfl) ?_
    exact h_iret hf hx hb hr hlk hw dX8_answersNeeded_10
  · have hf := ifn hc hf
    refine lv_iload_n hx hb dX8_answersNeeded_4 rfl (lv_at hl 0 rfl) ?_
    refine lv_iconst (v := 1) hx hb dX8_answersNeeded_5 (by decide) ?_
    refine lv_icmp_ne (tgt := 11) hx hb dX8_answersNeeded_6 (by decide) (fun hc => ?_) (fun hc => ?_)
    · have hf := ifn hc hf
      refine lv_iload_n hx hb dX8_answersNeeded_11 rfl (lv_at hl 0 rfl) ?_
      refine lv_iload_n hx hb dX8_answersNeeded_12 rfl (lv_at hl 2 rfl) ?_
      refine lv_iconst (v := 1) hx hb dX8_answersNeeded_13 (by decide) ?_
      refine lv_iadd hx hb dX8_answersNeeded_14 ?_
      refine lv_imul hx hb dX8_answersNeeded_15 ?_
      refine lv_iload_n hx hb dX8_answersNeeded_16 rfl (lv_at hl 0 rfl) ?_
      refine lv_iconst (v := 2) hx hb dX8_answersNeeded_17 (by decide) ?_
      refine lv_irem hx hb dX8_answersNeeded_18 (by decide) ?_
      refine lv_iconst (v := 1) hx hb dX8_answersNeeded_19 (by decide) ?_
      refine lv_icmp_ne (tgt := 29) hx hb dX8_answersNeeded_20 (by decide) (fun hc => ?_) (fun hc => ?_)
      · have hf := ifn hc hf
        refine lv_iconst (v := 0) hx hb dX8_answersNeeded_29 (by decide) ?_
        refine lv_iadd hx hb dX8_answersNeeded_30 ?_
        exact h_iret hf hx hb hr hlk hw dX8_answersNeeded_31
      · have hf := ifp hc hf
        refine lv_iload_n hx hb dX8_answersNeeded_23 rfl (lv_at hl 2 rfl) ?_
        refine lv_iconst (v := 1) hx hb dX8_answersNeeded_24 (by decide) ?_
        refine lv_isub hx hb dX8_answersNeeded_25 ?_
        refine lv_goto (tgt := 30) hx hb dX8_answersNeeded_26 (by decide) ?_
        refine lv_iadd hx hb dX8_answersNeeded_30 ?_
        exact h_iret hf hx hb hr hlk hw dX8_answersNeeded_31
    · have hf := ifp hc hf
      refine lv_iload_n hx hb dX8_answersNeeded_9 rfl (lv_at hl 0 rfl) ?_
      exact h_iret hf hx hb hr hlk hw dX8_answersNeeded_10
theorem c_X8_answersNeeded (l : Launch) (E : hE) (B : Nat) (T : hT) (p0 : Int32) (p1 : Int32) (p2 : Int32) (u0 : hM) {z : Int32 × hM} (hf : fX8_answersNeeded T p0 p1 p2 u0 = some z) : h_Ct l E B T yX8_answersNeeded cX8_answersNeeded 3 (some .int) 0 [.int p0, .int p1, .int p2] u0 z.2 (some (.int z.1)) := h_ofW (by decide) (Nat.le_of_ble_eq_true rfl) (fun p e s m below meth c ls hΓ hl hw => wX8_answersNeeded hΓ hf hw hl)
def fX8_passes_L24 (T : hT) (c1 : Int32) (c2 : Int32) (ex : hM → Option (Int32 × hM)) : Nat → Int32 → hM → Option (Int32 × hM)
  | 0, _, _ => none
  | n + 1, v3, u0 => if (30 : Int32) ≤ v3 then (ex u0) else ((fX8_answersNeeded T c1 c2 v3 u0).bind fun q3 => if ((1 : Int32) <<< (v3 &&& 31)) < q3.1 then (lt (v3 + (1 : Int32)) fun x4 => fX8_passes_L24 T c1 c2 ex n x4 q3.2) else (some (v3, q3.2)))
def fX8_passes (T : hT) (a0 : Nat) (p1 : Int32) (p2 : Int32) (u0 : hM) : Option (Int32 × hM) := (fX8_isWithin T p1 (1 : Int32) (16 : Int32) u0).bind fun q1 => if q1.1 = 0 then (some ((-1000000002 : Int32), q1.2)) else ((fX8_isWithin T p2 (0 : Int32) (1 : Int32) q1.2).bind fun q2 => if q2.1 = 0 then (some ((-1000000002 : Int32), q2.2)) else (fX8_passes_L24 T p1 p2 (fun (u5 : hM) => some ((-1 : Int32), u5)) 6000 (0 : Int32) q2.2))
set_option maxRecDepth 100000 in
set_option maxHeartbeats 4000000 in
theorem wfX8_passes_L24 {c1 : Int32} {c2 : Int32} {ex : hM → Option (Int32 × hM)} {z : Int32 × hM} (hΓ : h_Γ E B T p s m args meth c cX8_passes 4 (some .int) RX8) (hex : ∀ (u9 : hM) (H9 : Heap) (L9 : List Loc) (ls : Array Slot), ex u9 = some z → h_W E B T s.heap u9 H9 L9 → lv_has ls 4 [] → W p l e (h_rm 1) s m args below meth c H9 L9 0 0 (h_Qi below E B T args s z) (F0 m 50 ls [])) : ∀ (n : Nat) (v3 : Int32) (u0 : hM) (H0 : Heap) (L0 : List Loc) (ls : Array Slot), fX8_passes_L24 T c1 c2 ex n v3 u0 = some z → h_W E B T s.heap u0 H0 L0 → lv_has ls 4 [(1, .int c1), (2, .int c2), (3, .int v3)] → W p l e (h_rm 1) s m args below meth c H0 L0 0 0 (h_Qi below E B T args s z) (F0 m 24 ls []) := by
  obtain ⟨hx, hb, hr, hml, hts, hown, hlk, hX⟩ := id hΓ
  intro n
  induction n with
  | zero =>
    intro v3 u0 H0 L0 ls hf hw hl
    exact absurd (show (none : Option (Int32 × hM)) = some z from hf) (fun h => by cases h)
  | succ n ih =>
    intro v3 u0 H0 L0 ls hf hw hl
    rw [fX8_passes_L24] at hf
    refine lv_iload_n hx hb dX8_passes_24 rfl (lv_at hl 2 rfl) ?_
    refine lv_bipush (v := 30) hx hb dX8_passes_25 (by decide) ?_
    refine lv_icmp_ge (tgt := 50) hx hb dX8_passes_27 (by decide) (fun hc => ?_) (fun hc => ?_)
    · have hf := ifp hc hf
      exact hex  u0 _ _ _ hf hw (lv_sub hl [] rfl)
    · have hf := ifn hc hf
      refine lv_iconst (v := 1) hx hb dX8_passes_30 (by decide) ?_
      refine lv_iload_n hx hb dX8_passes_31 rfl (lv_at hl 2 rfl) ?_
      refine lv_ishl hx hb dX8_passes_32 ?_
      refine lv_iload_n hx hb dX8_passes_33 rfl (lv_at hl 0 rfl) ?_
      refine lv_iload_n hx hb dX8_passes_34 rfl (lv_at hl 1 rfl) ?_
      refine lv_iload_n hx hb dX8_passes_35 rfl (lv_at hl 2 rfl) ?_
      refine h_cSi (As := [.int c1, .int c2, .int v3]) (rest := [.int ((1 : Int32) <<< (v3 &&& 31))]) hf hx hb hml hts hown hX hw myX8_answersNeeded msX8_answersNeeded lkX8_292 (fun q hq => c_X8_answersNeeded l E B T c1 c2 v3 u0 hq) ⟨Nat.le_of_ble_eq_true rfl, Nat.le_of_ble_eq_true rfl⟩ ⟨Nat.le_refl _, Nat.le_refl _⟩ rfl hl.1 rfl (Nat.le_of_ble_eq_true rfl) dX8_passes_36 (fun q3 H3 L3 hf hw => ?_)
      refine lv_icmp_lt (tgt := 44) hx hb dX8_passes_39 (by decide) (fun hc => ?_) (fun hc => ?_)
      · have hf := ifp hc hf
        refine h_iinc (k := 2) hf hx hb dX8_passes_44 hl rfl (by decide) (by decide) (fun x4 ls hf hl => ?_)
        have hl : lv_has ls 4 [(3, .int x4), (1, .int c1), (2, .int c2)] := hl
        refine lv_goto (tgt := 24) hx hb dX8_passes_47 (by decide) ?_
        exact ih x4 q3.2 _ _ _ hf hw (lv_sub hl [1, 2, 0] rfl)
      · have hf := ifn hc hf
        refine lv_iload_n hx hb dX8_passes_42 rfl (lv_at hl 2 rfl) ?_
        exact h_iret hf hx hb hr hlk hw dX8_passes_43
set_option maxRecDepth 100000 in
set_option maxHeartbeats 4000000 in
theorem wX8_passes {a0 : Nat} {p1 : Int32} {p2 : Int32} {u0 : hM} {z : Int32 × hM} {ls : Array Slot} (hΓ : h_Γ E B T p s m args meth c cX8_passes 4 (some .int) RX8) (hf : fX8_passes T a0 p1 p2 u0 = some z) (hw : h_W E B T s.heap u0 s.heap []) (hl : lv_has ls 4 [(0, .ref (B + a0)), (1, .int p1), (2, .int p2)]) : W p l e (h_rm 1) s m args below meth c s.heap [] 0 0 (h_Qi below E B T args s z) (F0 m 0 ls []) := by
  obtain ⟨hx, hb, hr, hml, hts, hown, hlk, hX⟩ := id hΓ
  unfold fX8_passes at hf
  refine lv_iload_n hx hb dX8_passes_0 rfl (lv_at hl 1 rfl) ?_
  refine lv_iconst (v := 1) hx hb dX8_passes_1 (by decide) ?_
  refine lv_bipush (v := 16) hx hb dX8_passes_2 (by decide) ?_
  refine h_cSi (As := [.int p1, .int (1 : Int32), .int (16 : Int32)]) (rest := []) hf hx hb hml hts hown hX hw myX8_isWithin msX8_isWithin lkX8_91 (fun q hq => c_X8_isWithin l E B T p1 (1 : Int32) (16 : Int32) u0 hq) ⟨Nat.le_of_ble_eq_true rfl, Nat.le_of_ble_eq_true rfl⟩ ⟨Nat.le_refl _, Nat.le_refl _⟩ rfl hl.1 rfl (Nat.le_of_ble_eq_true rfl) dX8_passes_4 (fun q1 H1 L1 hf hw => ?_)
  refine lv_if_eq (tgt := 19) hx hb dX8_passes_7 (by decide) (fun hc => ?_) (fun hc => ?_)
  · have hf := ifp hc hf
    refine lv_ldc hx hb hown (hts _ kcX8_95) dX8_passes_19 ?_
    exact h_iret hf hx hb hr hlk hw dX8_passes_21
  · have hf := ifn hc hf
    refine lv_iload_n hx hb dX8_passes_10 rfl (lv_at hl 2 rfl) ?_
    refine lv_iconst (v := 0) hx hb dX8_passes_11 (by decide) ?_
    refine lv_iconst (v := 1) hx hb dX8_passes_12 (by decide) ?_
    refine h_cSi (As := [.int p2, .int (0 : Int32), .int (1 : Int32)]) (rest := []) hf hx hb hml hts hown hX hw myX8_isWithin msX8_isWithin lkX8_91 (fun q hq => c_X8_isWithin l E B T p2 (0 : Int32) (1 : Int32) q1.2 hq) ⟨Nat.le_of_ble_eq_true rfl, Nat.le_of_ble_eq_true rfl⟩ ⟨Nat.le_refl _, Nat.le_refl _⟩ rfl hl.1 rfl (Nat.le_of_ble_eq_true rfl) dX8_passes_13 (fun q2 H2 L2 hf hw => ?_)
    refine lv_if_ne (tgt := 22) hx hb dX8_passes_16 (by decide) (fun hc => ?_) (fun hc => ?_)
    · have hf := ifn hc hf
      refine lv_iconst (v := 0) hx hb dX8_passes_22 (by decide) ?_
      refine lv_istore_n (lv' := [(3, .int (0 : Int32)), (0, .ref (B + a0)), (1, .int p1), (2, .int p2)]) hx hb dX8_passes_23 rfl hl (by decide) rfl (fun ls hl => ?_)
      refine wfX8_passes_L24 hΓ ?_ 6000 (0 : Int32) q2.2 _ _ _ hf hw (lv_sub hl [2, 3, 0] rfl)
      intro u5 H5 L5 ls hf hw hl
      refine lv_iconst (v := -1) hx hb dX8_passes_50 (by decide) ?_
      exact h_iret hf hx hb hr hlk hw dX8_passes_51
    · have hf := ifp hc hf
      refine lv_ldc hx hb hown (hts _ kcX8_95) dX8_passes_19 ?_
      exact h_iret hf hx hb hr hlk hw dX8_passes_21
theorem c_X8_passes (l : Launch) (E : hE) (B : Nat) (T : hT) (a0 : Nat) (p1 : Int32) (p2 : Int32) (u0 : hM) {z : Int32 × hM} (hf : fX8_passes T a0 p1 p2 u0 = some z) : h_Ct l E B T yX8_passes cX8_passes 4 (some .int) 1 [.ref (B + a0), .int p1, .int p2] u0 z.2 (some (.int z.1)) := h_ofW (by decide) (Nat.le_of_ble_eq_true rfl) (fun p e s m below meth c ls hΓ hl hw => wX8_passes hΓ hf hw hl)
def fX8_pairs_L23 (T : hT) (c2 : Int32) (ex : hM → Option (Int32 × hM)) : Nat → Int32 → hM → Option (Int32 × hM)
  | 0, _, _ => none
  | n + 1, v3, u0 => if (30 : Int32) ≤ v3 then (ex u0) else (if ((1 : Int32) <<< (v3 &&& 31)) < c2 then (lt (v3 + (1 : Int32)) fun x3 => fX8_pairs_L23 T c2 ex n x3 u0) else (some (v3, u0)))
def fX8_pairs (T : hT) (a0 : Nat) (p1 : Int32) (u0 : hM) : Option (Int32 × hM) := (fX8_isWithin T p1 (2 : Int32) (16 : Int32) u0).bind fun q1 => if q1.1 = 0 then (some ((-1000000002 : Int32), q1.2)) else (lt (((p1 * (p1 - (1 : Int32))) / (2 : Int32))) fun x2 => fX8_pairs_L23 T x2 (fun (u4 : hM) => some ((-1 : Int32), u4)) 6000 (0 : Int32) q1.2)
set_option maxRecDepth 100000 in
set_option maxHeartbeats 4000000 in
theorem wfX8_pairs_L23 {c2 : Int32} {ex : hM → Option (Int32 × hM)} {z : Int32 × hM} (hΓ : h_Γ E B T p s m args meth c cX8_pairs 4 (some .int) RX8) (hex : ∀ (u9 : hM) (H9 : Heap) (L9 : List Loc) (ls : Array Slot), ex u9 = some z → h_W E B T s.heap u9 H9 L9 → lv_has ls 4 [] → W p l e (h_rm 1) s m args below meth c H9 L9 0 0 (h_Qi below E B T args s z) (F0 m 44 ls [])) : ∀ (n : Nat) (v3 : Int32) (u0 : hM) (H0 : Heap) (L0 : List Loc) (ls : Array Slot), fX8_pairs_L23 T c2 ex n v3 u0 = some z → h_W E B T s.heap u0 H0 L0 → lv_has ls 4 [(2, .int c2), (3, .int v3)] → W p l e (h_rm 1) s m args below meth c H0 L0 0 0 (h_Qi below E B T args s z) (F0 m 23 ls []) := by
  obtain ⟨hx, hb, hr, hml, hts, hown, hlk, hX⟩ := id hΓ
  intro n
  induction n with
  | zero =>
    intro v3 u0 H0 L0 ls hf hw hl
    exact absurd (show (none : Option (Int32 × hM)) = some z from hf) (fun h => by cases h)
  | succ n ih =>
    intro v3 u0 H0 L0 ls hf hw hl
    rw [fX8_pairs_L23] at hf
    refine lv_iload_n hx hb dX8_pairs_23 rfl (lv_at hl 1 rfl) ?_
    refine lv_bipush (v := 30) hx hb dX8_pairs_24 (by decide) ?_
    refine lv_icmp_ge (tgt := 44) hx hb dX8_pairs_26 (by decide) (fun hc => ?_) (fun hc => ?_)
    · have hf := ifp hc hf
      exact hex  u0 _ _ _ hf hw (lv_sub hl [] rfl)
    · have hf := ifn hc hf
      refine lv_iconst (v := 1) hx hb dX8_pairs_29 (by decide) ?_
      refine lv_iload_n hx hb dX8_pairs_30 rfl (lv_at hl 1 rfl) ?_
      refine lv_ishl hx hb dX8_pairs_31 ?_
      refine lv_iload_n hx hb dX8_pairs_32 rfl (lv_at hl 0 rfl) ?_
      refine lv_icmp_lt (tgt := 38) hx hb dX8_pairs_33 (by decide) (fun hc => ?_) (fun hc => ?_)
      · have hf := ifp hc hf
        refine h_iinc (k := 1) hf hx hb dX8_pairs_38 hl rfl (by decide) (by decide) (fun x3 ls hf hl => ?_)
        have hl : lv_has ls 4 [(3, .int x3), (2, .int c2)] := hl
        refine lv_goto (tgt := 23) hx hb dX8_pairs_41 (by decide) ?_
        exact ih x3 u0 _ _ _ hf hw (lv_sub hl [1, 0] rfl)
      · have hf := ifn hc hf
        refine lv_iload_n hx hb dX8_pairs_36 rfl (lv_at hl 1 rfl) ?_
        exact h_iret hf hx hb hr hlk hw dX8_pairs_37
set_option maxRecDepth 100000 in
set_option maxHeartbeats 4000000 in
theorem wX8_pairs {a0 : Nat} {p1 : Int32} {u0 : hM} {z : Int32 × hM} {ls : Array Slot} (hΓ : h_Γ E B T p s m args meth c cX8_pairs 4 (some .int) RX8) (hf : fX8_pairs T a0 p1 u0 = some z) (hw : h_W E B T s.heap u0 s.heap []) (hl : lv_has ls 4 [(0, .ref (B + a0)), (1, .int p1)]) : W p l e (h_rm 1) s m args below meth c s.heap [] 0 0 (h_Qi below E B T args s z) (F0 m 0 ls []) := by
  obtain ⟨hx, hb, hr, hml, hts, hown, hlk, hX⟩ := id hΓ
  unfold fX8_pairs at hf
  refine lv_iload_n hx hb dX8_pairs_0 rfl (lv_at hl 1 rfl) ?_
  refine lv_iconst (v := 2) hx hb dX8_pairs_1 (by decide) ?_
  refine lv_bipush (v := 16) hx hb dX8_pairs_2 (by decide) ?_
  refine h_cSi (As := [.int p1, .int (2 : Int32), .int (16 : Int32)]) (rest := []) hf hx hb hml hts hown hX hw myX8_isWithin msX8_isWithin lkX8_91 (fun q hq => c_X8_isWithin l E B T p1 (2 : Int32) (16 : Int32) u0 hq) ⟨Nat.le_of_ble_eq_true rfl, Nat.le_of_ble_eq_true rfl⟩ ⟨Nat.le_refl _, Nat.le_refl _⟩ rfl hl.1 rfl (Nat.le_of_ble_eq_true rfl) dX8_pairs_4 (fun q1 H1 L1 hf hw => ?_)
  refine lv_if_ne (tgt := 13) hx hb dX8_pairs_7 (by decide) (fun hc => ?_) (fun hc => ?_)
  · have hf := ifn hc hf
    refine lv_iload_n hx hb dX8_pairs_13 rfl (lv_at hl 1 rfl) ?_
    refine lv_iload_n hx hb dX8_pairs_14 rfl (lv_at hl 1 rfl) ?_
    refine lv_iconst (v := 1) hx hb dX8_pairs_15 (by decide) ?_
    refine lv_isub hx hb dX8_pairs_16 ?_
    refine lv_imul hx hb dX8_pairs_17 ?_
    refine lv_iconst (v := 2) hx hb dX8_pairs_18 (by decide) ?_
    refine lv_idiv hx hb dX8_pairs_19 (by decide) ?_
    refine h_nmi hf (fun x2 hf => ?_)
    refine lv_istore_n (lv' := [(2, .int x2), (0, .ref (B + a0)), (1, .int p1)]) hx hb dX8_pairs_20 rfl hl (by decide) rfl (fun ls hl => ?_)
    refine lv_iconst (v := 0) hx hb dX8_pairs_21 (by decide) ?_
    refine lv_istore_n (lv' := [(3, .int (0 : Int32)), (2, .int x2), (0, .ref (B + a0)), (1, .int p1)]) hx hb dX8_pairs_22 rfl hl (by decide) rfl (fun ls hl => ?_)
    refine wfX8_pairs_L23 hΓ ?_ 6000 (0 : Int32) q1.2 _ _ _ hf hw (lv_sub hl [1, 0] rfl)
    intro u4 H4 L4 ls hf hw hl
    refine lv_iconst (v := -1) hx hb dX8_pairs_44 (by decide) ?_
    exact h_iret hf hx hb hr hlk hw dX8_pairs_45
  · have hf := ifp hc hf
    refine lv_ldc hx hb hown (hts _ kcX8_95) dX8_pairs_10 ?_
    exact h_iret hf hx hb hr hlk hw dX8_pairs_12
theorem c_X8_pairs (l : Launch) (E : hE) (B : Nat) (T : hT) (a0 : Nat) (p1 : Int32) (u0 : hM) {z : Int32 × hM} (hf : fX8_pairs T a0 p1 u0 = some z) : h_Ct l E B T yX8_pairs cX8_pairs 4 (some .int) 1 [.ref (B + a0), .int p1] u0 z.2 (some (.int z.1)) := h_ofW (by decide) (Nat.le_of_ble_eq_true rfl) (fun p e s m below meth c ls hΓ hl hw => wX8_pairs hΓ hf hw hl)
def fX8_isHome (T : hT) (p0 : Int32) (u0 : hM) : Option (Int32 × hM) := (fX8_isWithin T p0 (-1200 : Int32) (1200 : Int32) u0).bind fun q1 => rtz q1.1 q1.2
set_option maxRecDepth 100000 in
set_option maxHeartbeats 4000000 in
theorem wX8_isHome {p0 : Int32} {u0 : hM} {z : Int32 × hM} {ls : Array Slot} (hΓ : h_Γ E B T p s m args meth c cX8_isHome 1 (some .boolean) RX8) (hf : fX8_isHome T p0 u0 = some z) (hw : h_W E B T s.heap u0 s.heap []) (hl : lv_has ls 1 [(0, .int p0)]) : W p l e (h_rm 1) s m args below meth c s.heap [] 0 0 (h_Qi below E B T args s z) (F0 m 0 ls []) := by
  obtain ⟨hx, hb, hr, hml, hts, hown, hlk, hX⟩ := id hΓ
  unfold fX8_isHome at hf
  refine lv_iload_n hx hb dX8_isHome_0 rfl (lv_at hl 0 rfl) ?_
  refine lv_sipush (v := -1200) hx hb dX8_isHome_1 (by decide) ?_
  refine lv_sipush (v := 1200) hx hb dX8_isHome_4 (by decide) ?_
  refine h_cSi (As := [.int p0, .int (-1200 : Int32), .int (1200 : Int32)]) (rest := []) hf hx hb hml hts hown hX hw myX8_isWithin msX8_isWithin lkX8_91 (fun q hq => c_X8_isWithin l E B T p0 (-1200 : Int32) (1200 : Int32) u0 hq) ⟨Nat.le_of_ble_eq_true rfl, Nat.le_of_ble_eq_true rfl⟩ ⟨Nat.le_refl _, Nat.le_refl _⟩ rfl hl.1 rfl (Nat.le_of_ble_eq_true rfl) dX8_isHome_7 (fun q1 H1 L1 hf hw => ?_)
  exact h_zret hf hx hb hr hlk hw dX8_isHome_10
theorem c_X8_isHome (l : Launch) (E : hE) (B : Nat) (T : hT) (p0 : Int32) (u0 : hM) {z : Int32 × hM} (hf : fX8_isHome T p0 u0 = some z) : h_Ct l E B T yX8_isHome cX8_isHome 1 (some .boolean) 1 [.int p0] u0 z.2 (some (.int z.1)) := h_ofW (by decide) (Nat.le_of_ble_eq_true rfl) (fun p e s m below meth c ls hΓ hl hw => wX8_isHome hΓ hf hw hl)
def fX0_add (T : hT) (a0 : Nat) (p1 : Int32) (u0 : hM) : Option (hM) := (gti T u0 a0 0 2).bind fun x1 => if x1 < (8 : Int32) then ((gtr T u0 a0 0 0).bind fun a2 => (gti T u0 a0 0 2).bind fun x3 => (asti T u0 a2 x3 p1).bind fun u4 => (gti T u4 a0 0 2).bind fun x5 => (pti T u4 a0 0 2 (x5 + (1 : Int32))).bind fun u6 => some u6) else (some u0)
set_option maxRecDepth 100000 in
set_option maxHeartbeats 4000000 in
theorem wX0_add {a0 : Nat} {p1 : Int32} {u0 : hM} {z : hM} {ls : Array Slot} (hΓ : h_Γ E B T p s m args meth c cX0_add 2 none RX0) (hf : fX0_add T a0 p1 u0 = some z) (hw : h_W E B T s.heap u0 s.heap []) (hl : lv_has ls 2 [(0, .ref (B + a0)), (1, .int p1)]) : W p l e (h_rm 0) s m args below meth c s.heap [] 0 0 (h_Qv below E B T args s z) (F0 m 0 ls []) := by
  obtain ⟨hx, hb, hr, hml, hts, hown, hlk, hX⟩ := id hΓ
  unfold fX0_add at hf
  refine lv_aload_n hx hb dX0_add_0 rfl (lv_at hl 0 rfl) ?_
  refine h_geti hf hx hb hts hown hX hw flX0_18 rfl dX0_add_1 (fun x1 hf => ?_)
  refine lv_bipush (v := 8) hx hb dX0_add_4 (by decide) ?_
  refine lv_icmp_lt (tgt := 10) hx hb dX0_add_6 (by decide) (fun hc => ?_) (fun hc => ?_)
  · have hf := ifp hc hf
    refine lv_aload_n hx hb dX0_add_10 rfl (lv_at hl 0 rfl) ?_
    refine h_getr hf hx hb hts hown hX hw flX0_9 rfl dX0_add_11 (fun a2 hf => ?_)
    refine lv_aload_n hx hb dX0_add_14 rfl (lv_at hl 0 rfl) ?_
    refine h_geti hf hx hb hts hown hX hw flX0_18 rfl dX0_add_15 (fun x3 hf => ?_)
    refine lv_iload_n hx hb dX0_add_18 rfl (lv_at hl 1 rfl) ?_
    refine h_iast hf hx hb hX hw dX0_add_19 (fun u4 H4 L4 hf hw => ?_)
    refine lv_aload_n hx hb dX0_add_20 rfl (lv_at hl 0 rfl) ?_
    refine lv_dup hx hb dX0_add_21 rfl ?_
    refine h_geti hf hx hb hts hown hX hw flX0_18 rfl dX0_add_22 (fun x5 hf => ?_)
    refine lv_iconst (v := 1) hx hb dX0_add_25 (by decide) ?_
    refine lv_iadd hx hb dX0_add_26 ?_
    refine h_puti hf hx hb hts hown hX hw flX0_18 ⟨rfl, rfl⟩ dX0_add_27 (fun u6 H6 L6 hf hw => ?_)
    exact h_vret hf hx hb hr hlk hw dX0_add_30
  · have hf := ifn hc hf
    exact h_vret hf hx hb hr hlk hw dX0_add_9
theorem c_X0_add (l : Launch) (E : hE) (B : Nat) (T : hT) (a0 : Nat) (p1 : Int32) (u0 : hM) {z : hM} (hf : fX0_add T a0 p1 u0 = some z) : h_Ct l E B T yX0_add cX0_add 2 none 0 [.ref (B + a0), .int p1] u0 z none := h_ofW (by decide) (Nat.le_of_ble_eq_true rfl) (fun p e s m below meth c ls hΓ hl hw => wX0_add hΓ hf hw hl)
def fX8_join (T : hT) (a0 : Nat) (p1 : Int32) (u0 : hM) : Option (Int32 × hM) := (fX8_isHome T p1 u0).bind fun q1 => if q1.1 = 0 then (some ((-1000000002 : Int32), q1.2)) else ((gtr T q1.2 a0 8 9).bind fun a2 => (gti T q1.2 a2 0 2).bind fun x3 => if x3 < (8 : Int32) then ((gtr T q1.2 a0 8 9).bind fun a4 => (vc T a4 0 (fX0_add T a4 p1 q1.2)).bind fun q5 => (gtr T q5 a0 8 9).bind fun a6 => (gti T q5 a6 0 2).bind fun x7 => some (x7, q5)) else (some ((-1000000004 : Int32), q1.2)))
set_option maxRecDepth 100000 in
set_option maxHeartbeats 4000000 in
theorem wX8_join {a0 : Nat} {p1 : Int32} {u0 : hM} {z : Int32 × hM} {ls : Array Slot} (hΓ : h_Γ E B T p s m args meth c cX8_join 2 (some .int) RX8) (hf : fX8_join T a0 p1 u0 = some z) (hw : h_W E B T s.heap u0 s.heap []) (hl : lv_has ls 2 [(0, .ref (B + a0)), (1, .int p1)]) : W p l e (h_rm 2) s m args below meth c s.heap [] 0 0 (h_Qi below E B T args s z) (F0 m 0 ls []) := by
  obtain ⟨hx, hb, hr, hml, hts, hown, hlk, hX⟩ := id hΓ
  unfold fX8_join at hf
  refine lv_iload_n hx hb dX8_join_0 rfl (lv_at hl 1 rfl) ?_
  refine h_cSi (As := [.int p1]) (rest := []) hf hx hb hml hts hown hX hw myX8_isHome msX8_isHome lkX8_295 (fun q hq => c_X8_isHome l E B T p1 u0 hq) ⟨Nat.le_of_ble_eq_true rfl, Nat.le_of_ble_eq_true rfl⟩ ⟨Nat.le_refl _, Nat.le_refl _⟩ rfl hl.1 rfl (Nat.le_of_ble_eq_true rfl) dX8_join_1 (fun q1 H1 L1 hf hw => ?_)
  refine lv_if_ne (tgt := 10) hx hb dX8_join_4 (by decide) (fun hc => ?_) (fun hc => ?_)
  · have hf := ifn hc hf
    refine lv_aload_n hx hb dX8_join_10 rfl (lv_at hl 0 rfl) ?_
    refine h_getr hf hx hb hts hown hX hw flX8_65 rfl dX8_join_11 (fun a2 hf => ?_)
    refine h_geti hf hx hb hts hown hX hw flX8_151 rfl dX8_join_14 (fun x3 hf => ?_)
    refine lv_bipush (v := 8) hx hb dX8_join_17 (by decide) ?_
    refine lv_icmp_lt (tgt := 25) hx hb dX8_join_19 (by decide) (fun hc => ?_) (fun hc => ?_)
    · have hf := ifp hc hf
      refine lv_aload_n hx hb dX8_join_25 rfl (lv_at hl 0 rfl) ?_
      refine h_getr hf hx hb hts hown hX hw flX8_65 rfl dX8_join_26 (fun a4 hf => ?_)
      refine lv_iload_n hx hb dX8_join_29 rfl (lv_at hl 1 rfl) ?_
      refine h_cVv (As := [.int p1]) (rest := []) hf hx hb hml hts hown hX hw myX0_add miX0_add lkX8_298 ⟨rfl, by decide⟩ (fun q hq => c_X0_add l E B T a4 p1 q1.2 hq) ⟨Nat.le_of_ble_eq_true rfl, Nat.le_of_ble_eq_true rfl⟩ ⟨Nat.le_refl _, Nat.le_refl _⟩ rfl hl.1 rfl (Nat.le_of_ble_eq_true rfl) dX8_join_30 (fun q5 H5 L5 hf hw => ?_)
      refine lv_aload_n hx hb dX8_join_33 rfl (lv_at hl 0 rfl) ?_
      refine h_getr hf hx hb hts hown hX hw flX8_65 rfl dX8_join_34 (fun a6 hf => ?_)
      refine h_geti hf hx hb hts hown hX hw flX8_151 rfl dX8_join_37 (fun x7 hf => ?_)
      exact h_iret hf hx hb hr hlk hw dX8_join_40
    · have hf := ifn hc hf
      refine lv_ldc hx hb hown (hts _ kcX8_99) dX8_join_22 ?_
      exact h_iret hf hx hb hr hlk hw dX8_join_24
  · have hf := ifp hc hf
    refine lv_ldc hx hb hown (hts _ kcX8_95) dX8_join_7 ?_
    exact h_iret hf hx hb hr hlk hw dX8_join_9
theorem c_X8_join (l : Launch) (E : hE) (B : Nat) (T : hT) (a0 : Nat) (p1 : Int32) (u0 : hM) {z : Int32 × hM} (hf : fX8_join T a0 p1 u0 = some z) : h_Ct l E B T yX8_join cX8_join 2 (some .int) 2 [.ref (B + a0), .int p1] u0 z.2 (some (.int z.1)) := h_ofW (by decide) (Nat.le_of_ble_eq_true rfl) (fun p e s m below meth c ls hΓ hl hw => wX8_join hΓ hf hw hl)
def fX8_part (T : hT) (a0 : Nat) (u0 : hM) : Option (Int32 × hM) := (gtr T u0 a0 8 9).bind fun a1 => (gti T u0 a1 0 2).bind fun x2 => (gtr T u0 a0 8 9).bind fun a3 => (pti T u0 a3 0 2 (0 : Int32)).bind fun u4 => some (x2, u4)
set_option maxRecDepth 100000 in
set_option maxHeartbeats 4000000 in
theorem wX8_part {a0 : Nat} {u0 : hM} {z : Int32 × hM} {ls : Array Slot} (hΓ : h_Γ E B T p s m args meth c cX8_part 2 (some .int) RX8) (hf : fX8_part T a0 u0 = some z) (hw : h_W E B T s.heap u0 s.heap []) (hl : lv_has ls 2 [(0, .ref (B + a0))]) : W p l e (h_rm 0) s m args below meth c s.heap [] 0 0 (h_Qi below E B T args s z) (F0 m 0 ls []) := by
  obtain ⟨hx, hb, hr, hml, hts, hown, hlk, hX⟩ := id hΓ
  unfold fX8_part at hf
  refine lv_aload_n hx hb dX8_part_0 rfl (lv_at hl 0 rfl) ?_
  refine h_getr hf hx hb hts hown hX hw flX8_65 rfl dX8_part_1 (fun a1 hf => ?_)
  refine h_geti hf hx hb hts hown hX hw flX8_151 rfl dX8_part_4 (fun x2 hf => ?_)
  refine lv_istore_n (lv' := [(1, .int x2), (0, .ref (B + a0))]) hx hb dX8_part_7 rfl hl (by decide) rfl (fun ls hl => ?_)
  refine lv_aload_n hx hb dX8_part_8 rfl (lv_at hl 1 rfl) ?_
  refine h_getr hf hx hb hts hown hX hw flX8_65 rfl dX8_part_9 (fun a3 hf => ?_)
  refine lv_iconst (v := 0) hx hb dX8_part_12 (by decide) ?_
  refine h_puti hf hx hb hts hown hX hw flX8_151 ⟨rfl, rfl⟩ dX8_part_13 (fun u4 H4 L4 hf hw => ?_)
  refine lv_iload_n hx hb dX8_part_16 rfl (lv_at hl 0 rfl) ?_
  exact h_iret hf hx hb hr hlk hw dX8_part_17
theorem c_X8_part (l : Launch) (E : hE) (B : Nat) (T : hT) (a0 : Nat) (u0 : hM) {z : Int32 × hM} (hf : fX8_part T a0 u0 = some z) : h_Ct l E B T yX8_part cX8_part 2 (some .int) 0 [.ref (B + a0)] u0 z.2 (some (.int z.1)) := h_ofW (by decide) (Nat.le_of_ble_eq_true rfl) (fun p e s m below meth c ls hΓ hl hw => wX8_part hΓ hf hw hl)
def fX0_meanOfMoved_L4 (T : hT) (c0 : Nat) (ex : Int32 → hM → Option (Int32 × hM)) : Nat → Int32 → Int32 → hM → Option (Int32 × hM)
  | 0, _, _, _ => none
  | n + 1, v1, v2, u0 => (gti T u0 c0 0 2).bind fun x1 => if x1 ≤ v2 then (ex v1 u0) else ((gtr T u0 c0 0 1).bind fun a2 => (ald 11 T u0 a2 v2).bind fun x3 => lt ((v1 + x3)) fun x4 => lt (v2 + (1 : Int32)) fun x5 => fX0_meanOfMoved_L4 T c0 ex n x4 x5 u0)
def fX0_meanOfMoved (T : hT) (a0 : Nat) (u0 : hM) : Option (Int32 × hM) := fX0_meanOfMoved_L4 T a0 (fun (x6 : Int32) (u7 : hM) => (gti T u7 a0 0 2).bind fun x8 => if x8 ≤ 0 then (some ((0 : Int32), u7)) else ((gti T u7 a0 0 2).bind fun x9 => (dvi x6 x9).bind fun x10 => some (x10, u7))) 6000 (0 : Int32) (0 : Int32) u0
set_option maxRecDepth 100000 in
set_option maxHeartbeats 4000000 in
theorem wfX0_meanOfMoved_L4 {c0 : Nat} {ex : Int32 → hM → Option (Int32 × hM)} {z : Int32 × hM} (hΓ : h_Γ E B T p s m args meth c cX0_meanOfMoved 3 (some .int) RX0) (hex : ∀ (y1 : Int32) (u9 : hM) (H9 : Heap) (L9 : List Loc) (ls : Array Slot), ex y1 u9 = some z → h_W E B T s.heap u9 H9 L9 → lv_has ls 3 [(0, .ref (B + c0)), (1, .int y1)] → W p l e (h_rm 0) s m args below meth c H9 L9 0 0 (h_Qi below E B T args s z) (F0 m 27 ls [])) : ∀ (n : Nat) (v1 : Int32) (v2 : Int32) (u0 : hM) (H0 : Heap) (L0 : List Loc) (ls : Array Slot), fX0_meanOfMoved_L4 T c0 ex n v1 v2 u0 = some z → h_W E B T s.heap u0 H0 L0 → lv_has ls 3 [(0, .ref (B + c0)), (1, .int v1), (2, .int v2)] → W p l e (h_rm 0) s m args below meth c H0 L0 0 0 (h_Qi below E B T args s z) (F0 m 4 ls []) := by
  obtain ⟨hx, hb, hr, hml, hts, hown, hlk, hX⟩ := id hΓ
  intro n
  induction n with
  | zero =>
    intro v1 v2 u0 H0 L0 ls hf hw hl
    exact absurd (show (none : Option (Int32 × hM)) = some z from hf) (fun h => by cases h)
  | succ n ih =>
    intro v1 v2 u0 H0 L0 ls hf hw hl
    rw [fX0_meanOfMoved_L4] at hf
    refine lv_iload_n hx hb dX0_meanOfMoved_4 rfl (lv_at hl 2 rfl) ?_
    refine lv_aload_n hx hb dX0_meanOfMoved_5 rfl (lv_at hl 0 rfl) ?_
    refine h_geti hf hx hb hts hown hX hw flX0_18 rfl dX0_meanOfMoved_6 (fun x1 hf => ?_)
    refine lv_icmp_ge (tgt := 27) hx hb dX0_meanOfMoved_9 (by decide) (fun hc => ?_) (fun hc => ?_)
    · have hf := ifp hc hf
      exact hex v1 u0 _ _ _ hf hw (lv_sub hl [0, 1] rfl)
    · have hf := ifn hc hf
      refine lv_iload_n hx hb dX0_meanOfMoved_12 rfl (lv_at hl 1 rfl) ?_
      refine lv_aload_n hx hb dX0_meanOfMoved_13 rfl (lv_at hl 0 rfl) ?_
      refine h_getr hf hx hb hts hown hX hw flX0_15 rfl dX0_meanOfMoved_14 (fun a2 hf => ?_)
      refine lv_iload_n hx hb dX0_meanOfMoved_17 rfl (lv_at hl 2 rfl) ?_
      refine h_iald hf hx hb hX hw dX0_meanOfMoved_18 (fun x3 hf => ?_)
      refine lv_iadd hx hb dX0_meanOfMoved_19 ?_
      refine h_nmi hf (fun x4 hf => ?_)
      refine lv_istore_n (lv' := [(1, .int x4), (0, .ref (B + c0)), (2, .int v2)]) hx hb dX0_meanOfMoved_20 rfl hl (by decide) rfl (fun ls hl => ?_)
      refine h_iinc (k := 2) hf hx hb dX0_meanOfMoved_21 hl rfl (by decide) (by decide) (fun x5 ls hf hl => ?_)
      have hl : lv_has ls 3 [(2, .int x5), (1, .int x4), (0, .ref (B + c0))] := hl
      refine lv_goto (tgt := 4) hx hb dX0_meanOfMoved_24 (by decide) ?_
      exact ih x4 x5 u0 _ _ _ hf hw (lv_sub hl [2, 1, 0] rfl)
set_option maxRecDepth 100000 in
set_option maxHeartbeats 4000000 in
theorem wX0_meanOfMoved {a0 : Nat} {u0 : hM} {z : Int32 × hM} {ls : Array Slot} (hΓ : h_Γ E B T p s m args meth c cX0_meanOfMoved 3 (some .int) RX0) (hf : fX0_meanOfMoved T a0 u0 = some z) (hw : h_W E B T s.heap u0 s.heap []) (hl : lv_has ls 3 [(0, .ref (B + a0))]) : W p l e (h_rm 0) s m args below meth c s.heap [] 0 0 (h_Qi below E B T args s z) (F0 m 0 ls []) := by
  obtain ⟨hx, hb, hr, hml, hts, hown, hlk, hX⟩ := id hΓ
  unfold fX0_meanOfMoved at hf
  refine lv_iconst (v := 0) hx hb dX0_meanOfMoved_0 (by decide) ?_
  refine lv_istore_n (lv' := [(1, .int (0 : Int32)), (0, .ref (B + a0))]) hx hb dX0_meanOfMoved_1 rfl hl (by decide) rfl (fun ls hl => ?_)
  refine lv_iconst (v := 0) hx hb dX0_meanOfMoved_2 (by decide) ?_
  refine lv_istore_n (lv' := [(2, .int (0 : Int32)), (1, .int (0 : Int32)), (0, .ref (B + a0))]) hx hb dX0_meanOfMoved_3 rfl hl (by decide) rfl (fun ls hl => ?_)
  refine wfX0_meanOfMoved_L4 hΓ ?_ 6000 (0 : Int32) (0 : Int32) u0 _ _ _ hf hw (lv_sub hl [2, 1, 0] rfl)
  intro x6 u7 H7 L7 ls hf hw hl
  refine lv_aload_n hx hb dX0_meanOfMoved_27 rfl (lv_at hl 0 rfl) ?_
  refine h_geti hf hx hb hts hown hX hw flX0_18 rfl dX0_meanOfMoved_28 (fun x8 hf => ?_)
  refine lv_if_le (tgt := 43) hx hb dX0_meanOfMoved_31 (by decide) (fun hc => ?_) (fun hc => ?_)
  · have hf := ifp hc hf
    refine lv_iconst (v := 0) hx hb dX0_meanOfMoved_43 (by decide) ?_
    exact h_iret hf hx hb hr hlk hw dX0_meanOfMoved_44
  · have hf := ifn hc hf
    refine lv_iload_n hx hb dX0_meanOfMoved_34 rfl (lv_at hl 1 rfl) ?_
    refine lv_aload_n hx hb dX0_meanOfMoved_35 rfl (lv_at hl 0 rfl) ?_
    refine h_geti hf hx hb hts hown hX hw flX0_18 rfl dX0_meanOfMoved_36 (fun x9 hf => ?_)
    refine h_dvi hf hx hb dX0_meanOfMoved_39 (fun x10 hf => ?_)
    refine lv_goto (tgt := 44) hx hb dX0_meanOfMoved_40 (by decide) ?_
    exact h_iret hf hx hb hr hlk hw dX0_meanOfMoved_44
theorem c_X0_meanOfMoved (l : Launch) (E : hE) (B : Nat) (T : hT) (a0 : Nat) (u0 : hM) {z : Int32 × hM} (hf : fX0_meanOfMoved T a0 u0 = some z) : h_Ct l E B T yX0_meanOfMoved cX0_meanOfMoved 3 (some .int) 0 [.ref (B + a0)] u0 z.2 (some (.int z.1)) := h_ofW (by decide) (Nat.le_of_ble_eq_true rfl) (fun p e s m below meth c ls hΓ hl hw => wX0_meanOfMoved hΓ hf hw hl)
def fX0_changesInTurn_L4 (T : hT) (c0 : Nat) (ex : Int32 → hM → Option (Int32 × hM)) : Nat → Int32 → Int32 → hM → Option (Int32 × hM)
  | 0, _, _, _ => none
  | n + 1, v1, v2, u0 => (gti T u0 c0 0 2).bind fun x1 => if x1 ≤ v2 then (ex v1 u0) else ((gti T u0 c0 0 3).bind fun x2 => (gtr T u0 c0 0 1).bind fun a3 => (ald 11 T u0 a3 v2).bind fun x4 => lt (((x2 - x4) / (2 : Int32))) fun x5 => (gtr T u0 c0 0 1).bind fun a6 => (ald 11 T u0 a6 v2).bind fun x7 => (asti T u0 a6 v2 (x7 + x5)).bind fun u8 => lt (if x5 = 0 then (0 : Int32) else (1 : Int32)) fun x9 => lt ((v1 ||| x9)) fun x10 => lt (v2 + (1 : Int32)) fun x11 => fX0_changesInTurn_L4 T c0 ex n x10 x11 u8)
def fX0_changesInTurn (T : hT) (a0 : Nat) (u0 : hM) : Option (Int32 × hM) := fX0_changesInTurn_L4 T a0 (fun (x12 : Int32) (u13 : hM) => rtz x12 u13) 6000 (0 : Int32) (0 : Int32) u0
set_option maxRecDepth 100000 in
set_option maxHeartbeats 4000000 in
theorem wfX0_changesInTurn_L4 {c0 : Nat} {ex : Int32 → hM → Option (Int32 × hM)} {z : Int32 × hM} (hΓ : h_Γ E B T p s m args meth c cX0_changesInTurn 4 (some .boolean) RX0) (hex : ∀ (y1 : Int32) (u9 : hM) (H9 : Heap) (L9 : List Loc) (ls : Array Slot), ex y1 u9 = some z → h_W E B T s.heap u9 H9 L9 → lv_has ls 4 [(1, .int y1)] → W p l e (h_rm 0) s m args below meth c H9 L9 0 0 (h_Qi below E B T args s z) (F0 m 54 ls [])) : ∀ (n : Nat) (v1 : Int32) (v2 : Int32) (u0 : hM) (H0 : Heap) (L0 : List Loc) (ls : Array Slot), fX0_changesInTurn_L4 T c0 ex n v1 v2 u0 = some z → h_W E B T s.heap u0 H0 L0 → lv_has ls 4 [(0, .ref (B + c0)), (1, .int v1), (2, .int v2)] → W p l e (h_rm 0) s m args below meth c H0 L0 0 0 (h_Qi below E B T args s z) (F0 m 4 ls []) := by
  obtain ⟨hx, hb, hr, hml, hts, hown, hlk, hX⟩ := id hΓ
  intro n
  induction n with
  | zero =>
    intro v1 v2 u0 H0 L0 ls hf hw hl
    exact absurd (show (none : Option (Int32 × hM)) = some z from hf) (fun h => by cases h)
  | succ n ih =>
    intro v1 v2 u0 H0 L0 ls hf hw hl
    rw [fX0_changesInTurn_L4] at hf
    refine lv_iload_n hx hb dX0_changesInTurn_4 rfl (lv_at hl 2 rfl) ?_
    refine lv_aload_n hx hb dX0_changesInTurn_5 rfl (lv_at hl 0 rfl) ?_
    refine h_geti hf hx hb hts hown hX hw flX0_18 rfl dX0_changesInTurn_6 (fun x1 hf => ?_)
    refine lv_icmp_ge (tgt := 54) hx hb dX0_changesInTurn_9 (by decide) (fun hc => ?_) (fun hc => ?_)
    · have hf := ifp hc hf
      exact hex v1 u0 _ _ _ hf hw (lv_sub hl [1] rfl)
    · have hf := ifn hc hf
      refine lv_aload_n hx hb dX0_changesInTurn_12 rfl (lv_at hl 0 rfl) ?_
      refine h_geti hf hx hb hts hown hX hw flX0_22 rfl dX0_changesInTurn_13 (fun x2 hf => ?_)
      refine lv_aload_n hx hb dX0_changesInTurn_16 rfl (lv_at hl 0 rfl) ?_
      refine h_getr hf hx hb hts hown hX hw flX0_15 rfl dX0_changesInTurn_17 (fun a3 hf => ?_)
      refine lv_iload_n hx hb dX0_changesInTurn_20 rfl (lv_at hl 2 rfl) ?_
      refine h_iald hf hx hb hX hw dX0_changesInTurn_21 (fun x4 hf => ?_)
      refine lv_isub hx hb dX0_changesInTurn_22 ?_
      refine lv_iconst (v := 2) hx hb dX0_changesInTurn_23 (by decide) ?_
      refine lv_idiv hx hb dX0_changesInTurn_24 (by decide) ?_
      refine h_nmi hf (fun x5 hf => ?_)
      refine lv_istore_n (lv' := [(3, .int x5), (0, .ref (B + c0)), (1, .int v1), (2, .int v2)]) hx hb dX0_changesInTurn_25 rfl hl (by decide) rfl (fun ls hl => ?_)
      refine lv_aload_n hx hb dX0_changesInTurn_26 rfl (lv_at hl 1 rfl) ?_
      refine h_getr hf hx hb hts hown hX hw flX0_15 rfl dX0_changesInTurn_27 (fun a6 hf => ?_)
      refine lv_iload_n hx hb dX0_changesInTurn_30 rfl (lv_at hl 3 rfl) ?_
      refine lv_dup2_11 hx hb dX0_changesInTurn_31 rfl rfl ?_
      refine h_iald hf hx hb hX hw dX0_changesInTurn_32 (fun x7 hf => ?_)
      refine lv_iload_n hx hb dX0_changesInTurn_33 rfl (lv_at hl 0 rfl) ?_
      refine lv_iadd hx hb dX0_changesInTurn_34 ?_
      refine h_iast hf hx hb hX hw dX0_changesInTurn_35 (fun u8 H8 L8 hf hw => ?_)
      refine lv_iload_n hx hb dX0_changesInTurn_36 rfl (lv_at hl 2 rfl) ?_
      refine lv_iload_n hx hb dX0_changesInTurn_37 rfl (lv_at hl 0 rfl) ?_
      refine h_ite (ls := ls) (jj := 46) (rest := [.int v1]) hf (fun k1 k2 => ?_) (fun x9 hf => ?_)
      · refine lv_if_eq (tgt := 45) hx hb dX0_changesInTurn_38 (by decide) (fun hc => ?_) (fun hc => ?_)
        · refine lv_iconst (v := 0) hx hb dX0_changesInTurn_45 (by decide) ?_
          exact k1 hc
        · refine lv_iconst (v := 1) hx hb dX0_changesInTurn_41 (by decide) ?_
          refine lv_goto (tgt := 46) hx hb dX0_changesInTurn_42 (by decide) ?_
          exact k2 hc
      · refine lv_ior hx hb dX0_changesInTurn_46 ?_
        refine h_nmi hf (fun x10 hf => ?_)
        refine lv_istore_n (lv' := [(1, .int x10), (3, .int x5), (0, .ref (B + c0)), (2, .int v2)]) hx hb dX0_changesInTurn_47 rfl hl (by decide) rfl (fun ls hl => ?_)
        refine h_iinc (k := 3) hf hx hb dX0_changesInTurn_48 hl rfl (by decide) (by decide) (fun x11 ls hf hl => ?_)
        have hl : lv_has ls 4 [(2, .int x11), (1, .int x10), (3, .int x5), (0, .ref (B + c0))] := hl
        refine lv_goto (tgt := 4) hx hb dX0_changesInTurn_51 (by decide) ?_
        exact ih x10 x11 u8 _ _ _ hf hw (lv_sub hl [3, 1, 0] rfl)
set_option maxRecDepth 100000 in
set_option maxHeartbeats 4000000 in
theorem wX0_changesInTurn {a0 : Nat} {u0 : hM} {z : Int32 × hM} {ls : Array Slot} (hΓ : h_Γ E B T p s m args meth c cX0_changesInTurn 4 (some .boolean) RX0) (hf : fX0_changesInTurn T a0 u0 = some z) (hw : h_W E B T s.heap u0 s.heap []) (hl : lv_has ls 4 [(0, .ref (B + a0))]) : W p l e (h_rm 0) s m args below meth c s.heap [] 0 0 (h_Qi below E B T args s z) (F0 m 0 ls []) := by
  obtain ⟨hx, hb, hr, hml, hts, hown, hlk, hX⟩ := id hΓ
  unfold fX0_changesInTurn at hf
  refine lv_iconst (v := 0) hx hb dX0_changesInTurn_0 (by decide) ?_
  refine lv_istore_n (lv' := [(1, .int (0 : Int32)), (0, .ref (B + a0))]) hx hb dX0_changesInTurn_1 rfl hl (by decide) rfl (fun ls hl => ?_)
  refine lv_iconst (v := 0) hx hb dX0_changesInTurn_2 (by decide) ?_
  refine lv_istore_n (lv' := [(2, .int (0 : Int32)), (1, .int (0 : Int32)), (0, .ref (B + a0))]) hx hb dX0_changesInTurn_3 rfl hl (by decide) rfl (fun ls hl => ?_)
  refine wfX0_changesInTurn_L4 hΓ ?_ 6000 (0 : Int32) (0 : Int32) u0 _ _ _ hf hw (lv_sub hl [2, 1, 0] rfl)
  intro x12 u13 H13 L13 ls hf hw hl
  refine lv_iload_n hx hb dX0_changesInTurn_54 rfl (lv_at hl 0 rfl) ?_
  exact h_zret hf hx hb hr hlk hw dX0_changesInTurn_55
theorem c_X0_changesInTurn (l : Launch) (E : hE) (B : Nat) (T : hT) (a0 : Nat) (u0 : hM) {z : Int32 × hM} (hf : fX0_changesInTurn T a0 u0 = some z) : h_Ct l E B T yX0_changesInTurn cX0_changesInTurn 4 (some .boolean) 0 [.ref (B + a0)] u0 z.2 (some (.int z.1)) := h_ofW (by decide) (Nat.le_of_ble_eq_true rfl) (fun p e s m below meth c ls hΓ hl hw => wX0_changesInTurn hΓ hf hw hl)
def fX0_settle_L28 (T : hT) (c0 : Nat) (ex : hM → Option (hM)) : Nat → hM → Option (hM)
  | 0, _ => none
  | n + 1, u0 => (gti T u0 c0 0 4).bind fun x7 => if (5000 : Int32) ≤ x7 then (ex u0) else ((vc T c0 0 (fX0_changesInTurn T c0 u0)).bind fun q8 => if q8.1 = 0 then (ex q8.2) else ((gti T q8.2 c0 0 4).bind fun x9 => (pti T q8.2 c0 0 4 (x9 + (1 : Int32))).bind fun u10 => (vc T c0 0 (fX0_meanOfMoved T c0 u10)).bind fun q11 => (pti T q11.2 c0 0 3 q11.1).bind fun u12 => fX0_settle_L28 T c0 ex n u12))
def fX0_settle (T : hT) (a0 : Nat) (u0 : hM) : Option (hM) := (gtr T u0 a0 0 0).bind fun a1 => (gtr T u0 a0 0 1).bind fun a2 => (acp T u0 a1 (0 : Int32) a2 (0 : Int32) (8 : Int32)).bind fun u3 => (vc T a0 0 (fX0_meanOfMoved T a0 u3)).bind fun q4 => (pti T q4.2 a0 0 3 q4.1).bind fun u5 => (pti T u5 a0 0 4 (0 : Int32)).bind fun u6 => fX0_settle_L28 T a0 (fun (u13 : hM) => some u13) 6000 u6
set_option maxRecDepth 100000 in
set_option maxHeartbeats 4000000 in
theorem wfX0_settle_L28 {c0 : Nat} {ex : hM → Option (hM)} {z : hM} (hΓ : h_Γ E B T p s m args meth c cX0_settle 1 none RX0) (hex : ∀ (u9 : hM) (H9 : Heap) (L9 : List Loc) (ls : Array Slot), ex u9 = some z → h_W E B T s.heap u9 H9 L9 → lv_has ls 1 [] → W p l e (h_rm 1) s m args below meth c H9 L9 0 0 (h_Qv below E B T args s z) (F0 m 66 ls [])) : ∀ (n : Nat) (u0 : hM) (H0 : Heap) (L0 : List Loc) (ls : Array Slot), fX0_settle_L28 T c0 ex n u0 = some z → h_W E B T s.heap u0 H0 L0 → lv_has ls 1 [(0, .ref (B + c0))] → W p l e (h_rm 1) s m args below meth c H0 L0 0 0 (h_Qv below E B T args s z) (F0 m 28 ls []) := by
  obtain ⟨hx, hb, hr, hml, hts, hown, hlk, hX⟩ := id hΓ
  intro n
  induction n with
  | zero =>
    intro u0 H0 L0 ls hf hw hl
    exact absurd (show (none : Option (hM)) = some z from hf) (fun h => by cases h)
  | succ n ih =>
    intro u0 H0 L0 ls hf hw hl
    rw [fX0_settle_L28] at hf
    refine lv_aload_n hx hb dX0_settle_28 rfl (lv_at hl 0 rfl) ?_
    refine h_geti hf hx hb hts hown hX hw flX0_25 rfl dX0_settle_29 (fun x7 hf => ?_)
    refine lv_sipush (v := 5000) hx hb dX0_settle_32 (by decide) ?_
    refine lv_icmp_ge (tgt := 66) hx hb dX0_settle_35 (by decide) (fun hc => ?_) (fun hc => ?_)
    · have hf := ifp hc hf
      exact hex  u0 _ _ _ hf hw (lv_sub hl [] rfl)
    · have hf := ifn hc hf
      refine lv_aload_n hx hb dX0_settle_38 rfl (lv_at hl 0 rfl) ?_
      refine h_cVi (As := []) (rest := []) hf hx hb hml hts hown hX hw myX0_changesInTurn miX0_changesInTurn lkX0_38 ⟨rfl, by decide⟩ (fun q hq => c_X0_changesInTurn l E B T c0 u0 hq) ⟨Nat.le_of_ble_eq_true rfl, Nat.le_of_ble_eq_true rfl⟩ ⟨Nat.le_refl _, Nat.le_refl _⟩ rfl hl.1 rfl (Nat.le_of_ble_eq_true rfl) dX0_settle_39 (fun q8 H8 L8 hf hw => ?_)
      refine lv_if_eq (tgt := 66) hx hb dX0_settle_42 (by decide) (fun hc => ?_) (fun hc => ?_)
      · have hf := ifp hc hf
        exact hex  q8.2 _ _ _ hf hw (lv_sub hl [] rfl)
      · have hf := ifn hc hf
        refine lv_aload_n hx hb dX0_settle_45 rfl (lv_at hl 0 rfl) ?_
        refine lv_dup hx hb dX0_settle_46 rfl ?_
        refine h_geti hf hx hb hts hown hX hw flX0_25 rfl dX0_settle_47 (fun x9 hf => ?_)
        refine lv_iconst (v := 1) hx hb dX0_settle_50 (by decide) ?_
        refine lv_iadd hx hb dX0_settle_51 ?_
        refine h_puti hf hx hb hts hown hX hw flX0_25 ⟨rfl, rfl⟩ dX0_settle_52 (fun u10 H10 L10 hf hw => ?_)
        refine lv_aload_n hx hb dX0_settle_55 rfl (lv_at hl 0 rfl) ?_
        refine lv_aload_n hx hb dX0_settle_56 rfl (lv_at hl 0 rfl) ?_
        refine h_cVi (As := []) (rest := [.ref (B + c0)]) hf hx hb hml hts hown hX hw myX0_meanOfMoved miX0_meanOfMoved lkX0_34 ⟨rfl, by decide⟩ (fun q hq => c_X0_meanOfMoved l E B T c0 u10 hq) ⟨Nat.le_of_ble_eq_true rfl, Nat.le_of_ble_eq_true rfl⟩ ⟨Nat.le_refl _, Nat.le_refl _⟩ rfl hl.1 rfl (Nat.le_of_ble_eq_true rfl) dX0_settle_57 (fun q11 H11 L11 hf hw => ?_)
        refine h_puti hf hx hb hts hown hX hw flX0_22 ⟨rfl, rfl⟩ dX0_settle_60 (fun u12 H12 L12 hf hw => ?_)
        refine lv_goto (tgt := 28) hx hb dX0_settle_63 (by decide) ?_
        exact ih  u12 _ _ _ hf hw (lv_sub hl [0] rfl)
set_option maxRecDepth 100000 in
set_option maxHeartbeats 4000000 in
theorem wX0_settle {a0 : Nat} {u0 : hM} {z : hM} {ls : Array Slot} (hΓ : h_Γ E B T p s m args meth c cX0_settle 1 none RX0) (hf : fX0_settle T a0 u0 = some z) (hw : h_W E B T s.heap u0 s.heap []) (hl : lv_has ls 1 [(0, .ref (B + a0))]) : W p l e (h_rm 1) s m args below meth c s.heap [] 0 0 (h_Qv below E B T args s z) (F0 m 0 ls []) := by
  obtain ⟨hx, hb, hr, hml, hts, hown, hlk, hX⟩ := id hΓ
  unfold fX0_settle at hf
  refine lv_aload_n hx hb dX0_settle_0 rfl (lv_at hl 0 rfl) ?_
  refine h_getr hf hx hb hts hown hX hw flX0_9 rfl dX0_settle_1 (fun a1 hf => ?_)
  refine lv_iconst (v := 0) hx hb dX0_settle_4 (by decide) ?_
  refine lv_aload_n hx hb dX0_settle_5 rfl (lv_at hl 0 rfl) ?_
  refine h_getr hf hx hb hts hown hX hw flX0_15 rfl dX0_settle_6 (fun a2 hf => ?_)
  refine lv_iconst (v := 0) hx hb dX0_settle_9 (by decide) ?_
  refine lv_bipush (v := 8) hx hb dX0_settle_10 (by decide) ?_
  refine h_acp hf hx hb hml hl.1 hts hown hX hw lkX0_28 ⟨Nat.le_of_ble_eq_true rfl, Nat.le_of_ble_eq_true rfl⟩ dX0_settle_12 (fun u3 H3 L3 hf hw => ?_)
  refine lv_aload_n hx hb dX0_settle_15 rfl (lv_at hl 0 rfl) ?_
  refine lv_aload_n hx hb dX0_settle_16 rfl (lv_at hl 0 rfl) ?_
  refine h_cVi (As := []) (rest := [.ref (B + a0)]) hf hx hb hml hts hown hX hw myX0_meanOfMoved miX0_meanOfMoved lkX0_34 ⟨rfl, by decide⟩ (fun q hq => c_X0_meanOfMoved l E B T a0 u3 hq) ⟨Nat.le_of_ble_eq_true rfl, Nat.le_of_ble_eq_true rfl⟩ ⟨Nat.le_refl _, Nat.le_refl _⟩ rfl hl.1 rfl (Nat.le_of_ble_eq_true rfl) dX0_settle_17 (fun q4 H4 L4 hf hw => ?_)
  refine h_puti hf hx hb hts hown hX hw flX0_22 ⟨rfl, rfl⟩ dX0_settle_20 (fun u5 H5 L5 hf hw => ?_)
  refine lv_aload_n hx hb dX0_settle_23 rfl (lv_at hl 0 rfl) ?_
  refine lv_iconst (v := 0) hx hb dX0_settle_24 (by decide) ?_
  refine h_puti hf hx hb hts hown hX hw flX0_25 ⟨rfl, rfl⟩ dX0_settle_25 (fun u6 H6 L6 hf hw => ?_)
  refine wfX0_settle_L28 hΓ ?_ 6000 u6 _ _ _ hf hw (lv_sub hl [0] rfl)
  intro u13 H13 L13 ls hf hw hl
  exact h_vret hf hx hb hr hlk hw dX0_settle_66
theorem c_X0_settle (l : Launch) (E : hE) (B : Nat) (T : hT) (a0 : Nat) (u0 : hM) {z : hM} (hf : fX0_settle T a0 u0 = some z) : h_Ct l E B T yX0_settle cX0_settle 1 none 1 [.ref (B + a0)] u0 z none := h_ofW (by decide) (Nat.le_of_ble_eq_true rfl) (fun p e s m below meth c ls hΓ hl hw => wX0_settle hΓ hf hw hl)
def fX8_ends (T : hT) (a0 : Nat) (p1 : Int32) (u0 : hM) : Option (Int32 × hM) := (fX8_isWithin T p1 (0 : Int32) (1 : Int32) u0).bind fun q1 => if q1.1 = 0 then (some ((-1000000002 : Int32), q1.2)) else ((gtr T q1.2 a0 8 9).bind fun a2 => (gti T q1.2 a2 0 2).bind fun x3 => if x3 = 0 then (some ((-1000000003 : Int32), q1.2)) else ((gtr T q1.2 a0 8 9).bind fun a4 => (vc T a4 0 (fX0_settle T a4 q1.2)).bind fun q5 => if p1 = 0 then ((gtr T q5 a0 8 9).bind fun a8 => (gti T q5 a8 0 3).bind fun x9 => some (x9, q5)) else ((gtr T q5 a0 8 9).bind fun a6 => (gti T q5 a6 0 4).bind fun x7 => some (x7, q5))))
set_option maxRecDepth 100000 in
set_option maxHeartbeats 4000000 in
theorem wX8_ends {a0 : Nat} {p1 : Int32} {u0 : hM} {z : Int32 × hM} {ls : Array Slot} (hΓ : h_Γ E B T p s m args meth c cX8_ends 2 (some .int) RX8) (hf : fX8_ends T a0 p1 u0 = some z) (hw : h_W E B T s.heap u0 s.heap []) (hl : lv_has ls 2 [(0, .ref (B + a0)), (1, .int p1)]) : W p l e (h_rm 2) s m args below meth c s.heap [] 0 0 (h_Qi below E B T args s z) (F0 m 0 ls []) := by
  obtain ⟨hx, hb, hr, hml, hts, hown, hlk, hX⟩ := id hΓ
  unfold fX8_ends at hf
  refine lv_iload_n hx hb dX8_ends_0 rfl (lv_at hl 1 rfl) ?_
  refine lv_iconst (v := 0) hx hb dX8_ends_1 (by decide) ?_
  refine lv_iconst (v := 1) hx hb dX8_ends_2 (by decide) ?_
  refine h_cSi (As := [.int p1, .int (0 : Int32), .int (1 : Int32)]) (rest := []) hf hx hb hml hts hown hX hw myX8_isWithin msX8_isWithin lkX8_91 (fun q hq => c_X8_isWithin l E B T p1 (0 : Int32) (1 : Int32) u0 hq) ⟨Nat.le_of_ble_eq_true rfl, Nat.le_of_ble_eq_true rfl⟩ ⟨Nat.le_refl _, Nat.le_refl _⟩ rfl hl.1 rfl (Nat.le_of_ble_eq_true rfl) dX8_ends_3 (fun q1 H1 L1 hf hw => ?_)
  refine lv_if_ne (tgt := 12) hx hb dX8_ends_6 (by decide) (fun hc => ?_) (fun hc => ?_)
  · have hf := ifn hc hf
    refine lv_aload_n hx hb dX8_ends_12 rfl (lv_at hl 0 rfl) ?_
    refine h_getr hf hx hb hts hown hX hw flX8_65 rfl dX8_ends_13 (fun a2 hf => ?_)
    refine h_geti hf hx hb hts hown hX hw flX8_151 rfl dX8_ends_16 (fun x3 hf => ?_)
    refine lv_if_ne (tgt := 25) hx hb dX8_ends_19 (by decide) (fun hc => ?_) (fun hc => ?_)
    · have hf := ifn hc hf
      refine lv_aload_n hx hb dX8_ends_25 rfl (lv_at hl 0 rfl) ?_
      refine h_getr hf hx hb hts hown hX hw flX8_65 rfl dX8_ends_26 (fun a4 hf => ?_)
      refine h_cVv (As := []) (rest := []) hf hx hb hml hts hown hX hw myX0_settle miX0_settle lkX8_300 ⟨rfl, by decide⟩ (fun q hq => c_X0_settle l E B T a4 q1.2 hq) ⟨Nat.le_of_ble_eq_true rfl, Nat.le_of_ble_eq_true rfl⟩ ⟨Nat.le_refl _, Nat.le_refl _⟩ rfl hl.1 rfl (Nat.le_of_ble_eq_true rfl) dX8_ends_29 (fun q5 H5 L5 hf hw => ?_)
      refine lv_iload_n hx hb dX8_ends_32 rfl (lv_at hl 1 rfl) ?_
      refine lv_if_ne (tgt := 46) hx hb dX8_ends_33 (by decide) (fun hc => ?_) (fun hc => ?_)
      · have hf := ifn hc hf
        refine lv_aload_n hx hb dX8_ends_46 rfl (lv_at hl 0 rfl) ?_
        refine h_getr hf hx hb hts hown hX hw flX8_65 rfl dX8_ends_47 (fun a6 hf => ?_)
        refine h_geti hf hx hb hts hown hX hw flX8_306 rfl dX8_ends_50 (fun x7 hf => ?_)
        exact h_iret hf hx hb hr hlk hw dX8_ends_53
      · have hf := ifp hc hf
        refine lv_aload_n hx hb dX8_ends_36 rfl (lv_at hl 0 rfl) ?_
        refine h_getr hf hx hb hts hown hX hw flX8_65 rfl dX8_ends_37 (fun a8 hf => ?_)
        refine h_geti hf hx hb hts hown hX hw flX8_303 rfl dX8_ends_40 (fun x9 hf => ?_)
        refine lv_goto (tgt := 53) hx hb dX8_ends_43 (by decide) ?_
        exact h_iret hf hx hb hr hlk hw dX8_ends_53
    · have hf := ifp hc hf
      refine lv_ldc hx hb hown (hts _ kcX8_219) dX8_ends_22 ?_
      exact h_iret hf hx hb hr hlk hw dX8_ends_24
  · have hf := ifp hc hf
    refine lv_ldc hx hb hown (hts _ kcX8_95) dX8_ends_9 ?_
    exact h_iret hf hx hb hr hlk hw dX8_ends_11
theorem c_X8_ends (l : Launch) (E : hE) (B : Nat) (T : hT) (a0 : Nat) (p1 : Int32) (u0 : hM) {z : Int32 × hM} (hf : fX8_ends T a0 p1 u0 = some z) : h_Ct l E B T yX8_ends cX8_ends 2 (some .int) 2 [.ref (B + a0), .int p1] u0 z.2 (some (.int z.1)) := h_ofW (by decide) (Nat.le_of_ble_eq_true rfl) (fun p e s m below meth c ls hΓ hl hw => wX8_ends hΓ hf hw hl)
def fX8_round_L46 (T : hT) (c3 : Int32) (ex : Int32 → Int32 → hM → Option (Int32 × hM)) : Nat → Int32 → Int32 → Int32 → hM → Option (Int32 × hM)
  | 0, _, _, _, _ => none
  | n + 1, v5, v6, v7, u0 => if c3 ≤ v7 then (ex v5 v6 u0) else (lt (((v6 - v5) / (3 : Int32))) fun x5 => lt ((v5 + x5)) fun x6 => lt ((v6 - x5)) fun x7 => lt (v7 + (1 : Int32)) fun x8 => fX8_round_L46 T c3 ex n x6 x7 x8 u0)
def fX8_round (T : hT) (a0 : Nat) (p1 : Int32) (p2 : Int32) (p3 : Int32) (p4 : Int32) (u0 : hM) : Option (Int32 × hM) := (fX8_isHome T p1 u0).bind fun q1 => if q1.1 = 0 then (some ((-1000000002 : Int32), q1.2)) else ((fX8_isHome T p2 q1.2).bind fun q2 => if q2.1 = 0 then (some ((-1000000002 : Int32), q2.2)) else ((fX8_isWithin T p3 (0 : Int32) (99 : Int32) q2.2).bind fun q3 => if q3.1 = 0 then (some ((-1000000002 : Int32), q3.2)) else ((fX8_isWithin T p4 (0 : Int32) (1 : Int32) q3.2).bind fun q4 => if q4.1 = 0 then (some ((-1000000002 : Int32), q4.2)) else (fX8_round_L46 T p3 (fun (x9 : Int32) (x10 : Int32) (u11 : hM) => if p4 = 0 then (some (x9, u11)) else (some (x10, u11))) 6000 p1 p2 (0 : Int32) q4.2))))
set_option maxRecDepth 100000 in
set_option maxHeartbeats 4000000 in
theorem wfX8_round_L46 {c3 : Int32} {c4 : Int32} {ex : Int32 → Int32 → hM → Option (Int32 × hM)} {z : Int32 × hM} (hΓ : h_Γ E B T p s m args meth c cX8_round 9 (some .int) RX8) (hex : ∀ (y5 : Int32) (y6 : Int32) (u9 : hM) (H9 : Heap) (L9 : List Loc) (ls : Array Slot), ex y5 y6 u9 = some z → h_W E B T s.heap u9 H9 L9 → lv_has ls 9 [(4, .int c4), (5, .int y5), (6, .int y6)] → W p l e (h_rm 2) s m args below meth c H9 L9 0 0 (h_Qi below E B T args s z) (F0 m 81 ls [])) : ∀ (n : Nat) (v5 : Int32) (v6 : Int32) (v7 : Int32) (u0 : hM) (H0 : Heap) (L0 : List Loc) (ls : Array Slot), fX8_round_L46 T c3 ex n v5 v6 v7 u0 = some z → h_W E B T s.heap u0 H0 L0 → lv_has ls 9 [(3, .int c3), (4, .int c4), (5, .int v5), (6, .int v6), (7, .int v7)] → W p l e (h_rm 2) s m args below meth c H0 L0 0 0 (h_Qi below E B T args s z) (F0 m 46 ls []) := by
  obtain ⟨hx, hb, hr, hml, hts, hown, hlk, hX⟩ := id hΓ
  intro n
  induction n with
  | zero =>
    intro v5 v6 v7 u0 H0 L0 ls hf hw hl
    exact absurd (show (none : Option (Int32 × hM)) = some z from hf) (fun h => by cases h)
  | succ n ih =>
    intro v5 v6 v7 u0 H0 L0 ls hf hw hl
    rw [fX8_round_L46] at hf
    refine lv_iload hx hb dX8_round_46 (lv_at hl 4 rfl) ?_
    refine lv_iload_n hx hb dX8_round_48 rfl (lv_at hl 0 rfl) ?_
    refine lv_icmp_ge (tgt := 81) hx hb dX8_round_49 (by decide) (fun hc => ?_) (fun hc => ?_)
    · have hf := ifp hc hf
      exact hex v5 v6 u0 _ _ _ hf hw (lv_sub hl [1, 2, 3] rfl)
    · have hf := ifn hc hf
      refine lv_iload hx hb dX8_round_52 (lv_at hl 3 rfl) ?_
      refine lv_iload hx hb dX8_round_54 (lv_at hl 2 rfl) ?_
      refine lv_isub hx hb dX8_round_56 ?_
      refine lv_iconst (v := 3) hx hb dX8_round_57 (by decide) ?_
      refine lv_idiv hx hb dX8_round_58 (by decide) ?_
      refine h_nmi hf (fun x5 hf => ?_)
      refine lv_istore (lv' := [(8, .int x5), (3, .int c3), (4, .int c4), (5, .int v5), (6, .int v6), (7, .int v7)]) hx hb dX8_round_59 hl (by decide) rfl (fun ls hl => ?_)
      refine lv_iload hx hb dX8_round_61 (lv_at hl 3 rfl) ?_
      refine lv_iload hx hb dX8_round_63 (lv_at hl 0 rfl) ?_
      refine lv_iadd hx hb dX8_round_65 ?_
      refine h_nmi hf (fun x6 hf => ?_)
      refine lv_istore (lv' := [(5, .int x6), (8, .int x5), (3, .int c3), (4, .int c4), (6, .int v6), (7, .int v7)]) hx hb dX8_round_66 hl (by decide) rfl (fun ls hl => ?_)
      refine lv_iload hx hb dX8_round_68 (lv_at hl 4 rfl) ?_
      refine lv_iload hx hb dX8_round_70 (lv_at hl 1 rfl) ?_
      refine lv_isub hx hb dX8_round_72 ?_
      refine h_nmi hf (fun x7 hf => ?_)
      refine lv_istore (lv' := [(6, .int x7), (5, .int x6), (8, .int x5), (3, .int c3), (4, .int c4), (7, .int v7)]) hx hb dX8_round_73 hl (by decide) rfl (fun ls hl => ?_)
      refine h_iinc (k := 5) hf hx hb dX8_round_75 hl rfl (by decide) (by decide) (fun x8 ls hf hl => ?_)
      have hl : lv_has ls 9 [(7, .int x8), (6, .int x7), (5, .int x6), (8, .int x5), (3, .int c3), (4, .int c4)] := hl
      refine lv_goto (tgt := 46) hx hb dX8_round_78 (by decide) ?_
      exact ih x6 x7 x8 u0 _ _ _ hf hw (lv_sub hl [4, 5, 2, 1, 0] rfl)
set_option maxRecDepth 100000 in
set_option maxHeartbeats 4000000 in
theorem wX8_round {a0 : Nat} {p1 : Int32} {p2 : Int32} {p3 : Int32} {p4 : Int32} {u0 : hM} {z : Int32 × hM} {ls : Array Slot} (hΓ : h_Γ E B T p s m args meth c cX8_round 9 (some .int) RX8) (hf : fX8_round T a0 p1 p2 p3 p4 u0 = some z) (hw : h_W E B T s.heap u0 s.heap []) (hl : lv_has ls 9 [(0, .ref (B + a0)), (1, .int p1), (2, .int p2), (3, .int p3), (4, .int p4)]) : W p l e (h_rm 2) s m args below meth c s.heap [] 0 0 (h_Qi below E B T args s z) (F0 m 0 ls []) := by
  obtain ⟨hx, hb, hr, hml, hts, hown, hlk, hX⟩ := id hΓ
  unfold fX8_round at hf
  refine lv_iload_n hx hb dX8_round_0 rfl (lv_at hl 1 rfl) ?_
  refine h_cSi (As := [.int p1]) (rest := []) hf hx hb hml hts hown hX hw myX8_isHome msX8_isHome lkX8_295 (fun q hq => c_X8_isHome l E B T p1 u0 hq) ⟨Nat.le_of_ble_eq_true rfl, Nat.le_of_ble_eq_true rfl⟩ ⟨Nat.le_refl _, Nat.le_refl _⟩ rfl hl.1 rfl (Nat.le_of_ble_eq_true rfl) dX8_round_1 (fun q1 H1 L1 hf hw => ?_)
  refine lv_if_eq (tgt := 34) hx hb dX8_round_4 (by decide) (fun hc => ?_) (fun hc => ?_)
  · have hf := ifp hc hf
    refine lv_ldc hx hb hown (hts _ kcX8_95) dX8_round_34 ?_
    exact h_iret hf hx hb hr hlk hw dX8_round_36
  · have hf := ifn hc hf
    refine lv_iload_n hx hb dX8_round_7 rfl (lv_at hl 2 rfl) ?_
    refine h_cSi (As := [.int p2]) (rest := []) hf hx hb hml hts hown hX hw myX8_isHome msX8_isHome lkX8_295 (fun q hq => c_X8_isHome l E B T p2 q1.2 hq) ⟨Nat.le_of_ble_eq_true rfl, Nat.le_of_ble_eq_true rfl⟩ ⟨Nat.le_refl _, Nat.le_refl _⟩ rfl hl.1 rfl (Nat.le_of_ble_eq_true rfl) dX8_round_8 (fun q2 H2 L2 hf hw => ?_)
    refine lv_if_eq (tgt := 34) hx hb dX8_round_11 (by decide) (fun hc => ?_) (fun hc => ?_)
    · have hf := ifp hc hf
      refine lv_ldc hx hb hown (hts _ kcX8_95) dX8_round_34 ?_
      exact h_iret hf hx hb hr hlk hw dX8_round_36
    · have hf := ifn hc hf
      refine lv_iload_n hx hb dX8_round_14 rfl (lv_at hl 3 rfl) ?_
      refine lv_iconst (v := 0) hx hb dX8_round_15 (by decide) ?_
      refine lv_bipush (v := 99) hx hb dX8_round_16 (by decide) ?_
      refine h_cSi (As := [.int p3, .int (0 : Int32), .int (99 : Int32)]) (rest := []) hf hx hb hml hts hown hX hw myX8_isWithin msX8_isWithin lkX8_91 (fun q hq => c_X8_isWithin l E B T p3 (0 : Int32) (99 : Int32) q2.2 hq) ⟨Nat.le_of_ble_eq_true rfl, Nat.le_of_ble_eq_true rfl⟩ ⟨Nat.le_refl _, Nat.le_refl _⟩ rfl hl.1 rfl (Nat.le_of_ble_eq_true rfl) dX8_round_18 (fun q3 H3 L3 hf hw => ?_)
      refine lv_if_eq (tgt := 34) hx hb dX8_round_21 (by decide) (fun hc => ?_) (fun hc => ?_)
      · have hf := ifp hc hf
        refine lv_ldc hx hb hown (hts _ kcX8_95) dX8_round_34 ?_
        exact h_iret hf hx hb hr hlk hw dX8_round_36
      · have hf := ifn hc hf
        refine lv_iload hx hb dX8_round_24 (lv_at hl 4 rfl) ?_
        refine lv_iconst (v := 0) hx hb dX8_round_26 (by decide) ?_
        refine lv_iconst (v := 1) hx hb dX8_round_27 (by decide) ?_
        refine h_cSi (As := [.int p4, .int (0 : Int32), .int (1 : Int32)]) (rest := []) hf hx hb hml hts hown hX hw myX8_isWithin msX8_isWithin lkX8_91 (fun q hq => c_X8_isWithin l E B T p4 (0 : Int32) (1 : Int32) q3.2 hq) ⟨Nat.le_of_ble_eq_true rfl, Nat.le_of_ble_eq_true rfl⟩ ⟨Nat.le_refl _, Nat.le_refl _⟩ rfl hl.1 rfl (Nat.le_of_ble_eq_true rfl) dX8_round_28 (fun q4 H4 L4 hf hw => ?_)
        refine lv_if_ne (tgt := 37) hx hb dX8_round_31 (by decide) (fun hc => ?_) (fun hc => ?_)
        · have hf := ifn hc hf
          refine lv_iload_n hx hb dX8_round_37 rfl (lv_at hl 1 rfl) ?_
          refine lv_istore (lv' := [(5, .int p1), (0, .ref (B + a0)), (1, .int p1), (2, .int p2), (3, .int p3), (4, .int p4)]) hx hb dX8_round_38 hl (by decide) rfl (fun ls hl => ?_)
          refine lv_iload_n hx hb dX8_round_40 rfl (lv_at hl 3 rfl) ?_
          refine lv_istore (lv' := [(6, .int p2), (5, .int p1), (0, .ref (B + a0)), (1, .int p1), (2, .int p2), (3, .int p3), (4, .int p4)]) hx hb dX8_round_41 hl (by decide) rfl (fun ls hl => ?_)
          refine lv_iconst (v := 0) hx hb dX8_round_43 (by decide) ?_
          refine lv_istore (lv' := [(7, .int (0 : Int32)), (6, .int p2), (5, .int p1), (0, .ref (B + a0)), (1, .int p1), (2, .int p2), (3, .int p3), (4, .int p4)]) hx hb dX8_round_44 hl (by decide) rfl (fun ls hl => ?_)
          refine wfX8_round_L46 hΓ ?_ 6000 p1 p2 (0 : Int32) q4.2 _ _ _ hf hw (lv_sub hl [6, 7, 2, 1, 0] rfl)
          intro x9 x10 u11 H11 L11 ls hf hw hl
          refine lv_iload hx hb dX8_round_81 (lv_at hl 0 rfl) ?_
          refine lv_if_ne (tgt := 91) hx hb dX8_round_83 (by decide) (fun hc => ?_) (fun hc => ?_)
          · have hf := ifn hc hf
            refine lv_iload hx hb dX8_round_91 (lv_at hl 2 rfl) ?_
            exact h_iret hf hx hb hr hlk hw dX8_round_93
          · have hf := ifp hc hf
            refine lv_iload hx hb dX8_round_86 (lv_at hl 1 rfl) ?_
            refine lv_goto (tgt := 93) hx hb dX8_round_88 (by decide) ?_
            exact h_iret hf hx hb hr hlk hw dX8_round_93
        · have hf := ifp hc hf
          refine lv_ldc hx hb hown (hts _ kcX8_95) dX8_round_34 ?_
          exact h_iret hf hx hb hr hlk hw dX8_round_36
theorem c_X8_round (l : Launch) (E : hE) (B : Nat) (T : hT) (a0 : Nat) (p1 : Int32) (p2 : Int32) (p3 : Int32) (p4 : Int32) (u0 : hM) {z : Int32 × hM} (hf : fX8_round T a0 p1 p2 p3 p4 u0 = some z) : h_Ct l E B T yX8_round cX8_round 9 (some .int) 2 [.ref (B + a0), .int p1, .int p2, .int p3, .int p4] u0 z.2 (some (.int z.1)) := h_ofW (by decide) (Nat.le_of_ble_eq_true rfl) (fun p e s m below meth c ls hΓ hl hw => wX8_round hΓ hf hw hl)
def fX8_write (T : hT) (a0 : Nat) (p1 : Int32) (u0 : hM) : Option (Int32 × hM) := (fX8_isWithin T p1 (0 : Int32) (9999 : Int32) u0).bind fun q1 => if q1.1 = 0 then (some ((-1000000002 : Int32), q1.2)) else ((gti T q1.2 a0 8 11).bind fun x2 => if x2 < (40 : Int32) then ((gtr T q1.2 a0 8 10).bind fun a3 => (gti T q1.2 a0 8 11).bind fun x4 => (asti T q1.2 a3 x4 p1).bind fun u5 => (gti T u5 a0 8 11).bind fun x6 => (pti T u5 a0 8 11 (x6 + (1 : Int32))).bind fun u7 => (gti T u7 a0 8 11).bind fun x8 => some (x8, u7)) else (some ((-1000000004 : Int32), q1.2)))
set_option maxRecDepth 100000 in
set_option maxHeartbeats 4000000 in
theorem wX8_write {a0 : Nat} {p1 : Int32} {u0 : hM} {z : Int32 × hM} {ls : Array Slot} (hΓ : h_Γ E B T p s m args meth c cX8_write 2 (some .int) RX8) (hf : fX8_write T a0 p1 u0 = some z) (hw : h_W E B T s.heap u0 s.heap []) (hl : lv_has ls 2 [(0, .ref (B + a0)), (1, .int p1)]) : W p l e (h_rm 1) s m args below meth c s.heap [] 0 0 (h_Qi below E B T args s z) (F0 m 0 ls []) := by
  obtain ⟨hx, hb, hr, hml, hts, hown, hlk, hX⟩ := id hΓ
  unfold fX8_write at hf
  refine lv_iload_n hx hb dX8_write_0 rfl (lv_at hl 1 rfl) ?_
  refine lv_iconst (v := 0) hx hb dX8_write_1 (by decide) ?_
  refine lv_sipush (v := 9999) hx hb dX8_write_2 (by decide) ?_
  refine h_cSi (As := [.int p1, .int (0 : Int32), .int (9999 : Int32)]) (rest := []) hf hx hb hml hts hown hX hw myX8_isWithin msX8_isWithin lkX8_91 (fun q hq => c_X8_isWithin l E B T p1 (0 : Int32) (9999 : Int32) u0 hq) ⟨Nat.le_of_ble_eq_true rfl, Nat.le_of_ble_eq_true rfl⟩ ⟨Nat.le_refl _, Nat.le_refl _⟩ rfl hl.1 rfl (Nat.le_of_ble_eq_true rfl) dX8_write_5 (fun q1 H1 L1 hf hw => ?_)
  refine lv_if_ne (tgt := 14) hx hb dX8_write_8 (by decide) (fun hc => ?_) (fun hc => ?_)
  · have hf := ifn hc hf
    refine lv_aload_n hx hb dX8_write_14 rfl (lv_at hl 0 rfl) ?_
    refine h_geti hf hx hb hts hown hX hw flX8_73 rfl dX8_write_15 (fun x2 hf => ?_)
    refine lv_bipush (v := 40) hx hb dX8_write_18 (by decide) ?_
    refine lv_icmp_lt (tgt := 26) hx hb dX8_write_20 (by decide) (fun hc => ?_) (fun hc => ?_)
    · have hf := ifp hc hf
      refine lv_aload_n hx hb dX8_write_26 rfl (lv_at hl 0 rfl) ?_
      refine h_getr hf hx hb hts hown hX hw flX8_69 rfl dX8_write_27 (fun a3 hf => ?_)
      refine lv_aload_n hx hb dX8_write_30 rfl (lv_at hl 0 rfl) ?_
      refine h_geti hf hx hb hts hown hX hw flX8_73 rfl dX8_write_31 (fun x4 hf => ?_)
      refine lv_iload_n hx hb dX8_write_34 rfl (lv_at hl 1 rfl) ?_
      refine h_iast hf hx hb hX hw dX8_write_35 (fun u5 H5 L5 hf hw => ?_)
      refine lv_aload_n hx hb dX8_write_36 rfl (lv_at hl 0 rfl) ?_
      refine lv_dup hx hb dX8_write_37 rfl ?_
      refine h_geti hf hx hb hts hown hX hw flX8_73 rfl dX8_write_38 (fun x6 hf => ?_)
      refine lv_iconst (v := 1) hx hb dX8_write_41 (by decide) ?_
      refine lv_iadd hx hb dX8_write_42 ?_
      refine h_puti hf hx hb hts hown hX hw flX8_73 ⟨rfl, rfl⟩ dX8_write_43 (fun u7 H7 L7 hf hw => ?_)
      refine lv_aload_n hx hb dX8_write_46 rfl (lv_at hl 0 rfl) ?_
      refine h_geti hf hx hb hts hown hX hw flX8_73 rfl dX8_write_47 (fun x8 hf => ?_)
      exact h_iret hf hx hb hr hlk hw dX8_write_50
    · have hf := ifn hc hf
      refine lv_ldc hx hb hown (hts _ kcX8_99) dX8_write_23 ?_
      exact h_iret hf hx hb hr hlk hw dX8_write_25
  · have hf := ifp hc hf
    refine lv_ldc hx hb hown (hts _ kcX8_95) dX8_write_11 ?_
    exact h_iret hf hx hb hr hlk hw dX8_write_13
theorem c_X8_write (l : Launch) (E : hE) (B : Nat) (T : hT) (a0 : Nat) (p1 : Int32) (u0 : hM) {z : Int32 × hM} (hf : fX8_write T a0 p1 u0 = some z) : h_Ct l E B T yX8_write cX8_write 2 (some .int) 1 [.ref (B + a0), .int p1] u0 z.2 (some (.int z.1)) := h_ofW (by decide) (Nat.le_of_ble_eq_true rfl) (fun p e s m below meth c ls hΓ hl hw => wX8_write hΓ hf hw hl)
end GEN
