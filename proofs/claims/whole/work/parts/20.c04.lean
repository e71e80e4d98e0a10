section GEN
variable {p : Program} {l : Launch} {e : Env} {s : State} {m : MethodId} {args : Array Value} {below : List Frame} {meth : Method} {c : Code} {E : hE} {B : Nat} {T : hT}
def fX8_next_L7 (T : hT) (c0 : Nat) (ex : Int32 → hM → Option (Int32 × hM)) : Nat → Int32 → Int64 → Int32 → hM → Option (Int32 × hM)
  | 0, _, _, _, _ => none
  | n + 1, v1, v2, v4, u0 => (gtr T u0 c0 8 3).bind fun a1 => (gti T u0 a1 7 4).bind fun x2 => if x2 ≤ v4 then (ex v1 u0) else ((gtr T u0 c0 8 6).bind fun a3 => (vc T a3 5 (fX5_isDone T a3 v4 u0)).bind fun q4 => lt (fun (x5 : Int32) (x6 : Int64) (u7 : hM) => lt (v4 + (1 : Int32)) fun x8 => fX8_next_L7 T c0 ex n x5 x6 x8 u7) fun J98 => if q4.1 = 0 then ((vc T c0 8 (fX8_greatestWith T c0 v4 (1 : Int32) q4.2)).bind fun q9 => (vc T c0 8 (fX8_greatestWith T c0 v4 (0 : Int32) q9.2)).bind fun q10 => lt ((q9.1 + q10.1)) fun x11 => lt (fun (u12 : hM) => J98 v4 x11 u12) fun J92 => if v1 = (-1 : Int32) then (J92 q10.2) else (if v2 < x11 then (J92 q10.2) else (if x11 = v2 then ((gtr T q10.2 c0 8 3).bind fun a13 => (gtr T q10.2 a13 7 0).bind fun a14 => (ald 11 T q10.2 a14 v4).bind fun x15 => (gtr T q10.2 c0 8 3).bind fun a16 => (gtr T q10.2 a16 7 0).bind fun a17 => (ald 11 T q10.2 a17 v1).bind fun x18 => if x18 ≤ x15 then (J98 v1 v2 q10.2) else (J92 q10.2)) else (J98 v1 v2 q10.2)))) else (J98 v1 v2 q4.2))
def fX8_next (T : hT) (a0 : Nat) (u0 : hM) : Option (Int32 × hM) := fX8_next_L7 T a0 (fun (x19 : Int32) (u20 : hM) => some (x19, u20)) 6000 (-1 : Int32) (0 : Int64) (0 : Int32) u0
set_option maxRecDepth 100000 in
set_option maxHeartbeats 4000000 in
theorem wfX8_next_L7 {c0 : Nat} {ex : Int32 → hM → Option (Int32 × hM)} {z : Int32 × hM} (hΓ : h_Γ E B T p s m args meth c cX8_next 7 (some .int) RX8) (hex : ∀ (y1 : Int32) (u9 : hM) (H9 : Heap) (L9 : List Loc) (ls : Array Slot), ex y1 u9 = some z → h_W E B T s.heap u9 H9 L9 → lv_has ls 7 [(1, .int y1)] → W p l e (h_rm 5) s m args below meth c H9 L9 0 0 (h_Qi below E B T args s z) (F0 m 104 ls [])) : ∀ (n : Nat) (v1 : Int32) (v2 : Int64) (v4 : Int32) (u0 : hM) (H0 : Heap) (L0 : List Loc) (ls : Array Slot), fX8_next_L7 T c0 ex n v1 v2 v4 u0 = some z → h_W E B T s.heap u0 H0 L0 → lv_has ls 7 [(0, .ref (B + c0)), (1, .int v1), (2, .long v2), (4, .int v4)] → W p l e (h_rm 5) s m args below meth c H0 L0 0 0 (h_Qi below E B T args s z) (F0 m 7 ls []) := by
  obtain ⟨hx, hb, hr, hml, hts, hown, hlk, hX⟩ := id hΓ
  intro n
  induction n with
  | zero =>
    intro v1 v2 v4 u0 H0 L0 ls hf hw hl
    exact absurd (show (none : Option (Int32 × hM)) = some z from hf) (fun h => by cases h)
  | succ n ih =>
    intro v1 v2 v4 u0 H0 L0 ls hf hw hl
    rw [fX8_next_L7] at hf
    refine lv_iload hx hb dX8_next_7 (lv_at hl 3 rfl) ?_
    refine lv_aload_n hx hb dX8_next_9 rfl (lv_at hl 0 rfl) ?_
    refine h_getr hf hx hb hts hown hX hw flX8_29 rfl dX8_next_10 (fun a1 hf => ?_)
    refine h_geti hf hx hb hts hown hX hw flX8_141 rfl dX8_next_13 (fun x2 hf => ?_)
    refine lv_icmp_ge (tgt := 104) hx hb dX8_next_16 (by decide) (fun hc => ?_) (fun hc => ?_)
    · have hf := ifp hc hf
      exact hex v1 u0 _ _ _ hf hw (lv_sub hl [1] rfl)
    · have hf := ifn hc hf
      refine lv_aload_n hx hb dX8_next_19 rfl (lv_at hl 0 rfl) ?_
      refine h_getr hf hx hb hts hown hX hw flX8_47 rfl dX8_next_20 (fun a3 hf => ?_)
      refine lv_iload hx hb dX8_next_23 (lv_at hl 3 rfl) ?_
      refine h_cVi (As := [.int v4]) (rest := []) hf hx hb hml hts hown hX hw myX5_isDone miX5_isDone lkX8_240 ⟨rfl, by decide⟩ (fun q hq => c_X5_isDone l E B T a3 v4 u0 hq) ⟨Nat.le_of_ble_eq_true rfl, Nat.le_of_ble_eq_true rfl⟩ ⟨Nat.le_refl _, Nat.le_refl _⟩ rfl hl.1 rfl (Nat.le_of_ble_eq_true rfl) dX8_next_25 (fun q4 H4 L4 hf hw => ?_)
      obtain ⟨J98, eJ98, hf⟩ := h_lt hf
      have hJ98 : ∀ (x5 : Int32) (x6 : Int64) (u7 : hM) (H7 : Heap) (L7 : List Loc) (ls : Array Slot), J98 x5 x6 u7 = some z → h_W E B T s.heap u7 H7 L7 → lv_has ls 7 [(0, .ref (B + c0)), (1, .int x5), (2, .long x6), (4, .int v4)] → W p l e (h_rm 5) s m args below meth c H7 L7 0 0 (h_Qi below E B T args s z) (F0 m 98 ls []) := by
        intro x5 x6 u7 H7 L7 ls hf hw hl
        rw [eJ98] at hf
        refine h_iinc (k := 3) hf hx hb dX8_next_98 hl rfl (by decide) (by decide) (fun x8 ls hf hl => ?_)
        have hl : lv_has ls 7 [(4, .int x8), (0, .ref (B + c0)), (1, .int x5), (2, .long x6)] := hl
        refine lv_goto (tgt := 7) hx hb dX8_next_101 (by decide) ?_
        exact ih x5 x6 x8 u7 _ _ _ hf hw (lv_sub hl [1, 2, 3, 0] rfl)
      clear eJ98
      refine lv_if_eq (tgt := 34) hx hb dX8_next_28 (by decide) (fun hc => ?_) (fun hc => ?_)
      · have hf := ifp hc hf
        refine lv_aload_n hx hb dX8_next_34 rfl (lv_at hl 0 rfl) ?_
        refine lv_iload hx hb dX8_next_35 (lv_at hl 3 rfl) ?_
        refine lv_iconst (v := 1) hx hb dX8_next_37 (by decide) ?_
        refine h_cVl (As := [.int v4, .int (1 : Int32)]) (rest := []) hf hx hb hml hts hown hX hw myX8_greatestWith miX8_greatestWith lkX8_254 ⟨rfl, by decide⟩ (fun q hq => c_X8_greatestWith l E B T c0 v4 (1 : Int32) q4.2 hq) ⟨Nat.le_of_ble_eq_true rfl, Nat.le_of_ble_eq_true rfl⟩ ⟨Nat.le_refl _, Nat.le_refl _⟩ rfl hl.1 rfl (Nat.le_of_ble_eq_true rfl) dX8_next_38 (fun q9 H9 L9 hf hw => ?_)
        refine lv_aload_n hx hb dX8_next_41 rfl (lv_at hl 0 rfl) ?_
        refine lv_iload hx hb dX8_next_42 (lv_at hl 3 rfl) ?_
        refine lv_iconst (v := 0) hx hb dX8_next_44 (by decide) ?_
        refine h_cVl (As := [.int v4, .int (0 : Int32)]) (rest := [.long q9.1]) hf hx hb hml hts hown hX hw myX8_greatestWith miX8_greatestWith lkX8_254 ⟨rfl, by decide⟩ (fun q hq => c_X8_greatestWith l E B T c0 v4 (0 : Int32) q9.2 hq) ⟨Nat.le_of_ble_eq_true rfl, Nat.le_of_ble_eq_true rfl⟩ ⟨Nat.le_refl _, Nat.le_refl _⟩ rfl hl.1 rfl (Nat.le_of_ble_eq_true rfl) dX8_next_45 (fun q10 H10 L10 hf hw => ?_)
        refine lv_ladd hx hb dX8_next_48 ?_
        refine h_nml hf (fun x11 hf => ?_)
        refine lv_lstore (lv' := [(5, .long x11), (0, .ref (B + c0)), (1, .int v1), (2, .long v2), (4, .int v4)]) hx hb dX8_next_49 hl (by decide) rfl (fun ls hl => ?_)
        refine lv_iload_n hx hb dX8_next_51 rfl (lv_at hl 2 rfl) ?_
        refine lv_iconst (v := -1) hx hb dX8_next_52 (by decide) ?_
        obtain ⟨J92, eJ92, hf⟩ := h_lt hf
        have hJ92 : ∀ (u12 : hM) (H12 : Heap) (L12 : List Loc) (ls : Array Slot), J92  u12 = some z → h_W E B T s.heap u12 H12 L12 → lv_has ls 7 [(0, .ref (B + c0)), (4, .int v4), (5, .long x11)] → W p l e (h_rm 5) s m args below meth c H12 L12 0 0 (h_Qi below E B T args s z) (F0 m 92 ls []) := by
          intro  u12 H12 L12 ls hf hw hl
          rw [eJ92] at hf
          refine lv_iload hx hb dX8_next_92 (lv_at hl 1 rfl) ?_
          refine lv_istore_n (lv' := [(1, .int v4), (0, .ref (B + c0)), (4, .int v4), (5, .long x11)]) hx hb dX8_next_94 rfl hl (by decide) rfl (fun ls hl => ?_)
          refine lv_lload hx hb dX8_next_95 (lv_at hl 3 rfl) ?_
          refine lv_lstore_n (lv' := [(2, .long x11), (1, .int v4), (0, .ref (B + c0)), (4, .int v4), (5, .long x11)]) hx hb dX8_next_97 rfl hl (by decide) rfl (fun ls hl => ?_)
          exact hJ98 v4 x11 u12 _ _ _ hf hw (lv_sub hl [2, 1, 0, 3] rfl)
        clear eJ92
        refine lv_icmp_eq (tgt := 92) hx hb dX8_next_53 (by decide) (fun hc => ?_) (fun hc => ?_)
        · have hf := ifp hc hf
          exact hJ92  q10.2 _ _ _ hf hw (lv_sub hl [1, 4, 0] rfl)
        · have hf := ifn hc hf
          refine lv_lload hx hb dX8_next_56 (lv_at hl 0 rfl) ?_
          refine lv_lload_n hx hb dX8_next_58 rfl (lv_at hl 3 rfl) ?_
          refine W.lcmp hx hb dX8_next_59 ?_
          refine lv_if_gt (tgt := 92) hx hb dX8_next_60 (by decide) (fun hc => ?_) (fun hc => ?_)
          · have hc := (lg_cmp_gt _ _).mp hc
            have hf := ifp hc hf
            exact hJ92  q10.2 _ _ _ hf hw (lv_sub hl [1, 4, 0] rfl)
          · have hc := (not_congr (lg_cmp_gt _ _)).mp hc
            have hf := ifn hc hf
            refine lv_lload hx hb dX8_next_63 (lv_at hl 0 rfl) ?_
            refine lv_lload_n hx hb dX8_next_65 rfl (lv_at hl 3 rfl) ?_
            refine W.lcmp hx hb dX8_next_66 ?_
            refine lv_if_ne (tgt := 98) hx hb dX8_next_67 (by decide) (fun hc => ?_) (fun hc => ?_)
            · have hc := (not_congr (lg_cmp_eq _ _)).mp hc
              have hf := ifn hc hf
              exact hJ98 v1 v2 q10.2 _ _ _ hf hw (lv_sub hl [1, 2, 3, 4] rfl)
            · have hc := (lg_cmp_eq _ _).mp hc
              have hf := ifp hc hf
              refine lv_aload_n hx hb dX8_next_70 rfl (lv_at hl 1 rfl) ?_
              refine h_getr hf hx hb hts hown hX hw flX8_29 rfl dX8_next_71 (fun a13 hf => ?_)
              refine h_getr hf hx hb hts hown hX hw flX8_196 rfl dX8_next_74 (fun a14 hf => ?_)
              refine lv_iload hx hb dX8_next_77 (lv_at hl 4 rfl) ?_
              refine h_iald hf hx hb hX hw dX8_next_79 (fun x15 hf => ?_)
              refine lv_aload_n hx hb dX8_next_80 rfl (lv_at hl 1 rfl) ?_
              refine h_getr hf hx hb hts hown hX hw flX8_29 rfl dX8_next_81 (fun a16 hf => ?_)
              refine h_getr hf hx hb hts hown hX hw flX8_196 rfl dX8_next_84 (fun a17 hf => ?_)
              refine lv_iload_n hx hb dX8_next_87 rfl (lv_at hl 2 rfl) ?_
              refine h_iald hf hx hb hX hw dX8_next_88 (fun x18 hf => ?_)
              refine lv_icmp_ge (tgt := 98) hx hb dX8_next_89 (by decide) (fun hc => ?_) (fun hc => ?_)
              · have hf := ifp hc hf
                exact hJ98 v1 v2 q10.2 _ _ _ hf hw (lv_sub hl [1, 2, 3, 4] rfl)
              · have hf := ifn hc hf
                exact hJ92  q10.2 _ _ _ hf hw (lv_sub hl [1, 4, 0] rfl)
      · have hf := ifn hc hf
        refine lv_goto (tgt := 98) hx hb dX8_next_31 (by decide) ?_
        exact hJ98 v1 v2 q4.2 _ _ _ hf hw (lv_sub hl [0, 1, 2, 3] rfl)
set_option maxRecDepth 100000 in
set_option maxHeartbeats 4000000 in
theorem wX8_next {a0 : Nat} {u0 : hM} {z : Int32 × hM} {ls : Array Slot} (hΓ : h_Γ E B T p s m args meth c cX8_next 7 (some .int) RX8) (hf : fX8_next T a0 u0 = some z) (hw : h_W E B T s.heap u0 s.heap []) (hl : lv_has ls 7 [(0, .ref (B + a0))]) : W p l e (h_rm 5) s m args below meth c s.heap [] 0 0 (h_Qi below E B T args s z) (F0 m 0 ls []) := by
  obtain ⟨hx, hb, hr, hml, hts, hown, hlk, hX⟩ := id hΓ
  unfold fX8_next at hf
  refine lv_iconst (v := -1) hx hb dX8_next_0 (by decide) ?_
  refine lv_istore_n (lv' := [(1, .int (-1 : Int32)), (0, .ref (B + a0))]) hx hb dX8_next_1 rfl hl (by decide) rfl (fun ls hl => ?_)
  refine lv_lconst (v := 0) hx hb dX8_next_2 (by decide) ?_
  refine lv_lstore_n (lv' := [(2, .long (0 : Int64)), (1, .int (-1 : Int32)), (0, .ref (B + a0))]) hx hb dX8_next_3 rfl hl (by decide) rfl (fun ls hl => ?_)
  refine lv_iconst (v := 0) hx hb dX8_next_4 (by decide) ?_
  refine lv_istore (lv' := [(4, .int (0 : Int32)), (2, .long (0 : Int64)), (1, .int (-1 : Int32)), (0, .ref (B + a0))]) hx hb dX8_next_5 hl (by decide) rfl (fun ls hl => ?_)
  refine wfX8_next_L7 hΓ ?_ 6000 (-1 : Int32) (0 : Int64) (0 : Int32) u0 _ _ _ hf hw (lv_sub hl [3, 2, 1, 0] rfl)
  intro x19 u20 H20 L20 ls hf hw hl
  refine lv_iload_n hx hb dX8_next_104 rfl (lv_at hl 0 rfl) ?_
  exact h_iret hf hx hb hr hlk hw dX8_next_105
theorem c_X8_next (l : Launch) (E : hE) (B : Nat) (T : hT) (a0 : Nat) (u0 : hM) {z : Int32 × hM} (hf : fX8_next T a0 u0 = some z) : h_Ct l E B T yX8_next cX8_next 7 (some .int) 5 [.ref (B + a0)] u0 z.2 (some (.int z.1)) := h_ofW (by decide) (Nat.le_of_ble_eq_true rfl) (fun p e s m below meth c ls hΓ hl hw => wX8_next hΓ hf hw hl)
def fX2_isKnown_L8 (T : hT) (c1 : Nat) (ex : Int64 → Int64 → hM → Option (Int32 × hM)) : Nat → Int64 → Int64 → Int32 → hM → Option (Int32 × hM)
  | 0, _, _, _, _ => none
  | n + 1, v2, v4, v6, u0 => if (16 : Int32) ≤ v6 then (ex v2 v4 u0) else ((aldl T u0 c1 v6).bind fun x1 => lt ((v2 + x1)) fun x2 => (aldl T u0 c1 v6).bind fun x3 => lt ((if x3 < v4 then v4 else x3)) fun x4 => lt (v6 + (1 : Int32)) fun x5 => fX2_isKnown_L8 T c1 ex n x2 x4 x5 u0)
def fX2_isKnown (T : hT) (a0 : Nat) (r1 : Nat) (u0 : hM) : Option (Int32 × hM) := fX2_isKnown_L8 T r1 (fun (x6 : Int64) (x7 : Int64) (u8 : hM) => (gti T u8 a0 2 3).bind fun x9 => if (x7 * (100 : Int64)) < (x9.toInt64 * x6) then (rtz (0 : Int32) u8) else (rtz (1 : Int32) u8)) 6000 (0 : Int64) (0 : Int64) (0 : Int32) u0
set_option maxRecDepth 100000 in
set_option maxHeartbeats 4000000 in
theorem wfX2_isKnown_L8 {c0 : Nat} {c1 : Nat} {ex : Int64 → Int64 → hM → Option (Int32 × hM)} {z : Int32 × hM} (hΓ : h_Γ E B T p s m args meth c cX2_isKnown 7 (some .boolean) RX2) (hex : ∀ (y2 : Int64) (y4 : Int64) (u9 : hM) (H9 : Heap) (L9 : List Loc) (ls : Array Slot), ex y2 y4 u9 = some z → h_W E B T s.heap u9 H9 L9 → lv_has ls 7 [(0, .ref (B + c0)), (2, .long y2), (4, .long y4)] → W p l e (h_rm 1) s m args below meth c H9 L9 0 0 (h_Qi below E B T args s z) (F0 m 39 ls [])) : ∀ (n : Nat) (v2 : Int64) (v4 : Int64) (v6 : Int32) (u0 : hM) (H0 : Heap) (L0 : List Loc) (ls : Array Slot), fX2_isKnown_L8 T c1 ex n v2 v4 v6 u0 = some z → h_W E B T s.heap u0 H0 L0 → lv_has ls 7 [(0, .ref (B + c0)), (1, .ref (B + c1)), (2, .long v2), (4, .long v4), (6, .int v6)] → W p l e (h_rm 1) s m args below meth c H0 L0 0 0 (h_Qi below E B T args s z) (F0 m 8 ls []) := by
  obtain ⟨hx, hb, hr, hml, hts, hown, hlk, hX⟩ := id hΓ
  intro n
  induction n with
  | zero =>
    intro v2 v4 v6 u0 H0 L0 ls hf hw hl
    exact absurd (show (none : Option (Int32 × hM)) = some z from hf) (fun h => by cases h)
  | succ n ih =>
    intro v2 v4 v6 u0 H0 L0 ls hf hw hl
    rw [fX2_isKnown_L8] at hf
    refine lv_iload hx hb dX2_isKnown_8 (lv_at hl 4 rfl) ?_
    refine lv_bipush (v := 16) hx hb dX2_isKnown_10 (by decide) ?_
    refine lv_icmp_ge (tgt := 39) hx hb dX2_isKnown_12 (by decide) (fun hc => ?_) (fun hc => ?_)
    · have hf := ifp hc hf
      exact hex v2 v4 u0 _ _ _ hf hw (lv_sub hl [0, 2, 3] rfl)
    · have hf := ifn hc hf
      refine lv_lload_n hx hb dX2_isKnown_15 rfl (lv_at hl 2 rfl) ?_
      refine lv_aload_n hx hb dX2_isKnown_16 rfl (lv_at hl 1 rfl) ?_
      refine lv_iload hx hb dX2_isKnown_17 (lv_at hl 4 rfl) ?_
      refine h_lald hf hx hb hX hw dX2_isKnown_19 (fun x1 hf => ?_)
      refine lv_ladd hx hb dX2_isKnown_20 ?_
      refine h_nml hf (fun x2 hf => ?_)
      refine lv_lstore_n (lv' := [(2, .long x2), (0, .ref (B + c0)), (1, .ref (B + c1)), (4, .long v4), (6, .int v6)]) hx hb dX2_isKnown_21 rfl hl (by decide) rfl (fun ls hl => ?_)
      refine lv_lload hx hb dX2_isKnown_22 (lv_at hl 3 rfl) ?_
      refine lv_aload_n hx hb dX2_isKnown_24 rfl (lv_at hl 2 rfl) ?_
      refine lv_iload hx hb dX2_isKnown_25 (lv_at hl 4 rfl) ?_
      refine h_lald hf hx hb hX hw dX2_isKnown_27 (fun x3 hf => ?_)
      refine h_mmaxl (rest := []) hx hb hml hl.1 hts hown lkX2_38 ⟨Nat.le_of_ble_eq_true rfl, Nat.le_of_ble_eq_true rfl⟩ ⟨Nat.le_refl _, Nat.le_refl _⟩ dX2_isKnown_28 ?_
      refine h_nml hf (fun x4 hf => ?_)
      refine lv_lstore (lv' := [(4, .long x4), (2, .long x2), (0, .ref (B + c0)), (1, .ref (B + c1)), (6, .int v6)]) hx hb dX2_isKnown_31 hl (by decide) rfl (fun ls hl => ?_)
      refine h_iinc (k := 4) hf hx hb dX2_isKnown_33 hl rfl (by decide) (by decide) (fun x5 ls hf hl => ?_)
      have hl : lv_has ls 7 [(6, .int x5), (4, .long x4), (2, .long x2), (0, .ref (B + c0)), (1, .ref (B + c1))] := hl
      refine lv_goto (tgt := 8) hx hb dX2_isKnown_36 (by decide) ?_
      exact ih x2 x4 x5 u0 _ _ _ hf hw (lv_sub hl [3, 4, 2, 1, 0] rfl)
set_option maxRecDepth 100000 in
set_option maxHeartbeats 4000000 in
theorem wX2_isKnown {a0 : Nat} {r1 : Nat} {u0 : hM} {z : Int32 × hM} {ls : Array Slot} (hΓ : h_Γ E B T p s m args meth c cX2_isKnown 7 (some .boolean) RX2) (hf : fX2_isKnown T a0 r1 u0 = some z) (hw : h_W E B T s.heap u0 s.heap []) (hl : lv_has ls 7 [(0, .ref (B + a0)), (1, .ref (B + r1))]) : W p l e (h_rm 1) s m args below meth c s.heap [] 0 0 (h_Qi below E B T args s z) (F0 m 0 ls []) := by
  obtain ⟨hx, hb, hr, hml, hts, hown, hlk, hX⟩ := id hΓ
  unfold fX2_isKnown at hf
  refine lv_lconst (v := 0) hx hb dX2_isKnown_0 (by decide) ?_
  refine lv_lstore_n (lv' := [(2, .long (0 : Int64)), (0, .ref (B + a0)), (1, .ref (B + r1))]) hx hb dX2_isKnown_1 rfl hl (by decide) rfl (fun ls hl => ?_)
  refine lv_lconst (v := 0) hx hb dX2_isKnown_2 (by decide) ?_
  refine lv_lstore (lv' := [(4, .long (0 : Int64)), (2, .long (0 : Int64)), (0, .ref (B + a0)), (1, .ref (B + r1))]) hx hb dX2_isKnown_3 hl (by decide) rfl (fun ls hl => ?_)
  refine lv_iconst (v := 0) hx hb dX2_isKnown_5 (by decide) ?_
  refine lv_istore (lv' := [(6, .int (0 : Int32)), (4, .long (0 : Int64)), (2, .long (0 : Int64)), (0, .ref (B + a0)), (1, .ref (B + r1))]) hx hb dX2_isKnown_6 hl (by decide) rfl (fun ls hl => ?_)
  refine wfX2_isKnown_L8 hΓ ?_ 6000 (0 : Int64) (0 : Int64) (0 : Int32) u0 _ _ _ hf hw (lv_sub hl [3, 4, 2, 1, 0] rfl)
  intro x6 x7 u8 H8 L8 ls hf hw hl
  refine lv_lload hx hb dX2_isKnown_39 (lv_at hl 2 rfl) ?_
  refine lv_ldc2 hx hb hown (hts _ klX2_44) dX2_isKnown_41 ?_
  refine lv_lmul hx hb dX2_isKnown_44 ?_
  refine lv_aload_n hx hb dX2_isKnown_45 rfl (lv_at hl 0 rfl) ?_
  refine h_geti hf hx hb hts hown hX hw flX2_24 rfl dX2_isKnown_46 (fun x9 hf => ?_)
  refine lv_i2l hx hb dX2_isKnown_49 rfl ?_
  refine lv_lload_n hx hb dX2_isKnown_50 rfl (lv_at hl 1 rfl) ?_
  refine lv_lmul hx hb dX2_isKnown_51 ?_
  refine W.lcmp hx hb dX2_isKnown_52 ?_
  refine lv_if_lt (tgt := 60) hx hb dX2_isKnown_53 (by decide) (fun hc => ?_) (fun hc => ?_)
  · have hc := (lg_cmp_lt _ _).mp hc
    have hf := ifp hc hf
    refine lv_iconst (v := 0) hx hb dX2_isKnown_60 (by decide) ?_
    exact h_zret hf hx hb hr hlk hw dX2_isKnown_61
  · have hc := (not_congr (lg_cmp_lt _ _)).mp hc
    have hf := ifn hc hf
    refine lv_iconst (v := 1) hx hb dX2_isKnown_56 (by decide) ?_
    refine lv_goto (tgt := 61) hx hb dX2_isKnown_57 (by decide) ?_
    exact h_zret hf hx hb hr hlk hw dX2_isKnown_61
theorem c_X2_isKnown (l : Launch) (E : hE) (B : Nat) (T : hT) (a0 : Nat) (r1 : Nat) (u0 : hM) {z : Int32 × hM} (hf : fX2_isKnown T a0 r1 u0 = some z) : h_Ct l E B T yX2_isKnown cX2_isKnown 7 (some .boolean) 1 [.ref (B + a0), .ref (B + r1)] u0 z.2 (some (.int z.1)) := h_ofW (by decide) (Nat.le_of_ble_eq_true rfl) (fun p e s m below meth c ls hΓ hl hw => wX2_isKnown hΓ hf hw hl)
def fX2_fillOdds_L75 (T : hT) (c4 : Int32) (c5 : Int32) (c6 : Int32) (c7 : Nat) (c8 : Nat) (ex : hM → Option (hM)) : Nat → Int32 → hM → Option (hM)
  | 0, _, _ => none
  | n + 1, v9, u0 => if (16 : Int32) ≤ v9 then (ex u0) else ((aldl T u0 c7 v9).bind fun x15 => lt (if (c6 &&& v9) = 0 then c4 else c5) fun x16 => (astl T u0 c8 v9 (x15 * x16.toInt64)).bind fun u17 => lt (v9 + (1 : Int32)) fun x18 => fX2_fillOdds_L75 T c4 c5 c6 c7 c8 ex n x18 u17)
def fX2_fillOdds (T : hT) (a0 : Nat) (p1 : Int32) (p2 : Int32) (p3 : Int32) (u0 : hM) : Option (hM) := (fX8_isWithin T p1 (1 : Int32) (6 : Int32) u0).bind fun q1 => if q1.1 = 0 then (some q1.2) else ((gtq T q1.2 a0 2 2).bind fun o2 => if o2 = none then (some q1.2) else ((gtr T q1.2 a0 2 2).bind fun a4 => (vc T a4 7 (fX7_percent T a4 p2 (0 : Int32) p3 q1.2)).bind fun q5 => (gtr T q5.2 a0 2 2).bind fun a6 => (vc T a6 7 (fX7_percent T a6 p2 (15 : Int32) p3 q5.2)).bind fun q7 => (gtr T q7.2 a0 2 2).bind fun a8 => (gtr T q7.2 a8 7 3).bind fun a9 => (ald 11 T q7.2 a9 p2).bind fun x10 => (gtr T q7.2 a0 2 0).bind fun a11 => (aldr 17 T q7.2 a11 (p1 - (1 : Int32))).bind fun a12 => (gtr T q7.2 a0 2 0).bind fun a13 => (aldr 17 T q7.2 a13 p1).bind fun a14 => fX2_fillOdds_L75 T q5.1 q7.1 x10 a12 a14 (fun (u19 : hM) => some u19) 6000 (0 : Int32) q7.2))
set_option maxRecDepth 100000 in
set_option maxHeartbeats 4000000 in
theorem wfX2_fillOdds_L75 {c4 : Int32} {c5 : Int32} {c6 : Int32} {c7 : Nat} {c8 : Nat} {ex : hM → Option (hM)} {z : hM} (hΓ : h_Γ E B T p s m args meth c cX2_fillOdds 10 none RX2) (hex : ∀ (u9 : hM) (H9 : Heap) (L9 : List Loc) (ls : Array Slot), ex u9 = some z → h_W E B T s.heap u9 H9 L9 → lv_has ls 10 [] → W p l e (h_rm 3) s m args below meth c H9 L9 0 0 (h_Qv below E B T args s z) (F0 m 115 ls [])) : ∀ (n : Nat) (v9 : Int32) (u0 : hM) (H0 : Heap) (L0 : List Loc) (ls : Array Slot), fX2_fillOdds_L75 T c4 c5 c6 c7 c8 ex n v9 u0 = some z → h_W E B T s.heap u0 H0 L0 → lv_has ls 10 [(4, .int c4), (5, .int c5), (6, .int c6), (7, .ref (B + c7)), (8, .ref (B + c8)), (9, .int v9)] → W p l e (h_rm 3) s m args below meth c H0 L0 0 0 (h_Qv below E B T args s z) (F0 m 75 ls []) := by
  obtain ⟨hx, hb, hr, hml, hts, hown, hlk, hX⟩ := id hΓ
  intro n
  induction n with
  | zero =>
    intro v9 u0 H0 L0 ls hf hw hl
    exact absurd (show (none : Option (hM)) = some z from hf) (fun h => by cases h)
  | succ n ih =>
    intro v9 u0 H0 L0 ls hf hw hl
    rw [fX2_fillOdds_L75] at hf
    refine lv_iload hx hb dX2_fillOdds_75 (lv_at hl 5 rfl) ?_
    refine lv_bipush (v := 16) hx hb dX2_fillOdds_77 (by decide) ?_
    refine lv_icmp_ge (tgt := 115) hx hb dX2_fillOdds_79 (by decide) (fun hc => ?_) (fun hc => ?_)
    · have hf := ifp hc hf
      exact hex  u0 _ _ _ hf hw (lv_sub hl [] rfl)
    · have hf := ifn hc hf
      refine lv_aload hx hb dX2_fillOdds_82 (lv_at hl 4 rfl) ?_
      refine lv_iload hx hb dX2_fillOdds_84 (lv_at hl 5 rfl) ?_
      refine lv_aload hx hb dX2_fillOdds_86 (lv_at hl 3 rfl) ?_
      refine lv_iload hx hb dX2_fillOdds_88 (lv_at hl 5 rfl) ?_
      refine h_lald hf hx hb hX hw dX2_fillOdds_90 (fun x15 hf => ?_)
      refine lv_iload hx hb dX2_fillOdds_91 (lv_at hl 2 rfl) ?_
      refine lv_iload hx hb dX2_fillOdds_93 (lv_at hl 5 rfl) ?_
      refine lv_iand hx hb dX2_fillOdds_95 ?_
      refine h_ite (ls := ls) (jj := 106) (rest := [.long x15, .int v9, .ref (B + c8)]) hf (fun k1 k2 => ?_) (fun x16 hf => ?_)
      · refine lv_if_ne (tgt := 104) hx hb dX2_fillOdds_96 (by decide) (fun hc => ?_) (fun hc => ?_)
        · refine lv_iload hx hb dX2_fillOdds_104 (lv_at hl 1 rfl) ?_
          exact k2 hc
        · refine lv_iload hx hb dX2_fillOdds_99 (lv_at hl 0 rfl) ?_
          refine lv_goto (tgt := 106) hx hb dX2_fillOdds_101 (by decide) ?_
          exact k1 hc
      · refine lv_i2l hx hb dX2_fillOdds_106 rfl ?_
        refine lv_lmul hx hb dX2_fillOdds_107 ?_
        refine h_last hf hx hb hX hw dX2_fillOdds_108 (fun u17 H17 L17 hf hw => ?_)
        refine h_iinc (k := 5) hf hx hb dX2_fillOdds_109 hl rfl (by decide) (by decide) (fun x18 ls hf hl => ?_)
        have hl : lv_has ls 10 [(9, .int x18), (4, .int c4), (5, .int c5), (6, .int c6), (7, .ref (B + c7)), (8, .ref (B + c8))] := hl
        refine lv_goto (tgt := 75) hx hb dX2_fillOdds_112 (by decide) ?_
        exact ih x18 u17 _ _ _ hf hw (lv_sub hl [1, 2, 3, 4, 5, 0] rfl)
set_option maxRecDepth 100000 in
set_option maxHeartbeats 4000000 in
theorem wX2_fillOdds {a0 : Nat} {p1 : Int32} {p2 : Int32} {p3 : Int32} {u0 : hM} {z : hM} {ls : Array Slot} (hΓ : h_Γ E B T p s m args meth c cX2_fillOdds 10 none RX2) (hf : fX2_fillOdds T a0 p1 p2 p3 u0 = some z) (hw : h_W E B T s.heap u0 s.heap []) (hl : lv_has ls 10 [(0, .ref (B + a0)), (1, .int p1), (2, .int p2), (3, .int p3)]) : W p l e (h_rm 3) s m args below meth c s.heap [] 0 0 (h_Qv below E B T args s z) (F0 m 0 ls []) := by
  obtain ⟨hx, hb, hr, hml, hts, hown, hlk, hX⟩ := id hΓ
  unfold fX2_fillOdds at hf
  refine lv_iload_n hx hb dX2_fillOdds_0 rfl (lv_at hl 1 rfl) ?_
  refine lv_iconst (v := 1) hx hb dX2_fillOdds_1 (by decide) ?_
  refine lv_bipush (v := 6) hx hb dX2_fillOdds_2 (by decide) ?_
  refine h_cNi (As := [.int p1, .int (1 : Int32), .int (6 : Int32)]) (rest := []) hf hx hb hml hts hown hX hw myX8_isWithin msX8_isWithin nkX2_46 (fun q hq => c_X8_isWithin l E B T p1 (1 : Int32) (6 : Int32) u0 hq) ⟨Nat.le_of_ble_eq_true rfl, Nat.le_of_ble_eq_true rfl⟩ ⟨Nat.le_refl _, Nat.le_refl _⟩ rfl hl.1 rfl (Nat.le_of_ble_eq_true rfl) dX2_fillOdds_4 (fun q1 H1 L1 hf hw => ?_)
  refine lv_if_eq (tgt := 17) hx hb dX2_fillOdds_7 (by decide) (fun hc => ?_) (fun hc => ?_)
  · have hf := ifp hc hf
    exact h_vret hf hx hb hr hlk hw dX2_fillOdds_17
  · have hf := ifn hc hf
    refine lv_aload_n hx hb dX2_fillOdds_10 rfl (lv_at hl 0 rfl) ?_
    refine h_getq hf hx hb hts hown hX hw flX2_20 rfl dX2_fillOdds_11 (fun hf => ?_) (fun a3 hf => ?_)
    · have hf := ifp rfl hf
      refine lv_ifnonnullN hx hb dX2_fillOdds_14 ?_
      exact h_vret hf hx hb hr hlk hw dX2_fillOdds_17
    · have hf := ifn (fun h => by cases h) hf
      refine lv_ifnonnull (tgt := 18) hx hb dX2_fillOdds_14 (by decide) ?_
      refine lv_aload_n hx hb dX2_fillOdds_18 rfl (lv_at hl 0 rfl) ?_
      refine h_getr hf hx hb hts hown hX hw flX2_20 rfl dX2_fillOdds_19 (fun a4 hf => ?_)
      refine lv_iload_n hx hb dX2_fillOdds_22 rfl (lv_at hl 2 rfl) ?_
      refine lv_iconst (v := 0) hx hb dX2_fillOdds_23 (by decide) ?_
      refine lv_iload_n hx hb dX2_fillOdds_24 rfl (lv_at hl 3 rfl) ?_
      refine h_cVi (As := [.int p2, .int (0 : Int32), .int p3]) (rest := []) hf hx hb hml hts hown hX hw myX7_percent miX7_percent lkX2_76 ⟨rfl, by decide⟩ (fun q hq => c_X7_percent l E B T a4 p2 (0 : Int32) p3 q1.2 hq) ⟨Nat.le_of_ble_eq_true rfl, Nat.le_of_ble_eq_true rfl⟩ ⟨Nat.le_refl _, Nat.le_refl _⟩ rfl hl.1 rfl (Nat.le_of_ble_eq_true rfl) dX2_fillOdds_25 (fun q5 H5 L5 hf hw => ?_)
      refine lv_istore (lv' := [(4, .int q5.1), (0, .ref (B + a0)), (1, .int p1), (2, .int p2), (3, .int p3)]) hx hb dX2_fillOdds_28 hl (by decide) rfl (fun ls hl => ?_)
      refine lv_aload_n hx hb dX2_fillOdds_30 rfl (lv_at hl 1 rfl) ?_
      refine h_getr hf hx hb hts hown hX hw flX2_20 rfl dX2_fillOdds_31 (fun a6 hf => ?_)
      refine lv_iload_n hx hb dX2_fillOdds_34 rfl (lv_at hl 3 rfl) ?_
      refine lv_bipush (v := 15) hx hb dX2_fillOdds_35 (by decide) ?_
      refine lv_iload_n hx hb dX2_fillOdds_37 rfl (lv_at hl 4 rfl) ?_
      refine h_cVi (As := [.int p2, .int (15 : Int32), .int p3]) (rest := []) hf hx hb hml hts hown hX hw myX7_percent miX7_percent lkX2_76 ⟨rfl, by decide⟩ (fun q hq => c_X7_percent l E B T a6 p2 (15 : Int32) p3 q5.2 hq) ⟨Nat.le_of_ble_eq_true rfl, Nat.le_of_ble_eq_true rfl⟩ ⟨Nat.le_refl _, Nat.le_refl _⟩ rfl hl.1 rfl (Nat.le_of_ble_eq_true rfl) dX2_fillOdds_38 (fun q7 H7 L7 hf hw => ?_)
      refine lv_istore (lv' := [(5, .int q7.1), (4, .int q5.1), (0, .ref (B + a0)), (1, .int p1), (2, .int p2), (3, .int p3)]) hx hb dX2_fillOdds_41 hl (by decide) rfl (fun ls hl => ?_)
      refine lv_aload_n hx hb dX2_fillOdds_43 rfl (lv_at hl 2 rfl) ?_
      refine h_getr hf hx hb hts hown hX hw flX2_20 rfl dX2_fillOdds_44 (fun a8 hf => ?_)
      refine h_getr hf hx hb hts hown hX hw flX2_80 rfl dX2_fillOdds_47 (fun a9 hf => ?_)
      refine lv_iload_n hx hb dX2_fillOdds_50 rfl (lv_at hl 4 rfl) ?_
      refine h_iald hf hx hb hX hw dX2_fillOdds_51 (fun x10 hf => ?_)
      refine lv_istore (lv' := [(6, .int x10), (5, .int q7.1), (4, .int q5.1), (0, .ref (B + a0)), (1, .int p1), (2, .int p2), (3, .int p3)]) hx hb dX2_fillOdds_52 hl (by decide) rfl (fun ls hl => ?_)
      refine lv_aload_n hx hb dX2_fillOdds_54 rfl (lv_at hl 3 rfl) ?_
      refine h_getr hf hx hb hts hown hX hw flX2_11 rfl dX2_fillOdds_55 (fun a11 hf => ?_)
      refine lv_iload_n hx hb dX2_fillOdds_58 rfl (lv_at hl 4 rfl) ?_
      refine lv_iconst (v := 1) hx hb dX2_fillOdds_59 (by decide) ?_
      refine lv_isub hx hb dX2_fillOdds_60 ?_
      refine h_aald17 hf hx hb hX hw dX2_fillOdds_61 (fun a12 hf => ?_)
      refine lv_astore (lv' := [(7, .ref (B + a12)), (6, .int x10), (5, .int q7.1), (4, .int q5.1), (0, .ref (B + a0)), (1, .int p1), (2, .int p2), (3, .int p3)]) hx hb dX2_fillOdds_62 hl (by decide) rfl (fun ls hl => ?_)
      refine lv_aload_n hx hb dX2_fillOdds_64 rfl (lv_at hl 4 rfl) ?_
      refine h_getr hf hx hb hts hown hX hw flX2_11 rfl dX2_fillOdds_65 (fun a13 hf => ?_)
      refine lv_iload_n hx hb dX2_fillOdds_68 rfl (lv_at hl 5 rfl) ?_
      refine h_aald17 hf hx hb hX hw dX2_fillOdds_69 (fun a14 hf => ?_)
      refine lv_astore (lv' := [(8, .ref (B + a14)), (7, .ref (B + a12)), (6, .int x10), (5, .int q7.1), (4, .int q5.1), (0, .ref (B + a0)), (1, .int p1), (2, .int p2), (3, .int p3)]) hx hb dX2_fillOdds_70 hl (by decide) rfl (fun ls hl => ?_)
      refine lv_iconst (v := 0) hx hb dX2_fillOdds_72 (by decide) ?_
      refine lv_istore (lv' := [(9, .int (0 : Int32)), (8, .ref (B + a14)), (7, .ref (B + a12)), (6, .int x10), (5, .int q7.1), (4, .int q5.1), (0, .ref (B + a0)), (1, .int p1), (2, .int p2), (3, .int p3)]) hx hb dX2_fillOdds_73 hl (by decide) rfl (fun ls hl => ?_)
      refine wfX2_fillOdds_L75 hΓ ?_ 6000 (0 : Int32) q7.2 _ _ _ hf hw (lv_sub hl [5, 4, 3, 2, 1, 0] rfl)
      intro u19 H19 L19 ls hf hw hl
      exact h_vret hf hx hb hr hlk hw dX2_fillOdds_115
theorem c_X2_fillOdds (l : Launch) (E : hE) (B : Nat) (T : hT) (a0 : Nat) (p1 : Int32) (p2 : Int32) (p3 : Int32) (u0 : hM) {z : hM} (hf : fX2_fillOdds T a0 p1 p2 p3 u0 = some z) : h_Ct l E B T yX2_fillOdds cX2_fillOdds 10 none 3 [.ref (B + a0), .int p1, .int p2, .int p3] u0 z none := h_ofW (by decide) (Nat.le_of_ble_eq_true rfl) (fun p e s m below meth c ls hΓ hl hw => wX2_fillOdds hΓ hf hw hl)
def fX2_fewestAfter (T : hT) (rec : Nat → Int32 → Int32 → Int32 → hM → Option (Int32 × hM)) (a0 : Nat) (p1 : Int32) (p2 : Int32) (p3 : Int32) (p4 : Int32) (p5 : Int32) (u0 : hM) : Option (Int32 × hM) := lt (if p5 = 0 then (2 : Int32) else (1 : Int32)) fun x1 => (thr p4).bind fun x2 => lt ((p1 + (x1 * x2))) fun x3 => if (6 : Int32) ≤ p3 then (some ((-1 : Int32), u0)) else ((gtr T u0 a0 2 1).bind fun a4 => (aln T a4).bind fun x5 => (fX8_isWithin T x3 (0 : Int32) (x5 - (1 : Int32)) u0).bind fun q6 => if q6.1 = 0 then (some ((-1 : Int32), q6.2)) else ((gtr T q6.2 a0 2 1).bind fun a7 => (ald 11 T q6.2 a7 x3).bind fun x8 => lt (fun (u9 : hM) => (gtr T u9 a0 2 1).bind fun a10 => (ald 11 T u9 a10 x3).bind fun x11 => some (x11, u9)) fun J90 => if x8 = (-2 : Int32) then ((vc T a0 2 (fX2_fillOdds T a0 (p3 + (1 : Int32)) p4 p5 q6.2)).bind fun q12 => (gtr T q12 a0 2 1).bind fun a13 => (vc T a0 2 (rec a0 x3 (p2 ||| ((1 : Int32) <<< (p4 &&& 31))) (p3 + (1 : Int32)) q12)).bind fun q14 => (asti T q14.2 a13 x3 q14.1).bind fun u15 => J90 u15) else (J90 q6.2)))
set_option maxRecDepth 100000 in
set_option maxHeartbeats 4000000 in
theorem wX2_fewestAfter {a0 : Nat} {p1 : Int32} {p2 : Int32} {p3 : Int32} {p4 : Int32} {p5 : Int32} {u0 : hM} {z : Int32 × hM} {ls : Array Slot} (hΓ : h_Γ E B T p s m args meth c cX2_fewestAfter 7 (some .int) RX2) {rec : Nat → Int32 → Int32 → Int32 → hM → Option (Int32 × hM)} {dd : Nat} (hrec : ∀ (a : Nat) (x y w : Int32) (u : hM) {q : Int32 × hM}, rec a x y w u = some q → h_Ct l E B T yX2_fewestFrom cX2_fewestFrom 9 (some .int) dd [.ref (B + a), .int x, .int y, .int w] u q.2 (some (.int q.1))) (hf : fX2_fewestAfter T rec a0 p1 p2 p3 p4 p5 u0 = some z) (hw : h_W E B T s.heap u0 s.heap []) (hl : lv_has ls 7 [(0, .ref (B + a0)), (1, .int p1), (2, .int p2), (3, .int p3), (4, .int p4), (5, .int p5)]) : W p l e (h_rm (dd + 4)) s m args below meth c s.heap [] 0 0 (h_Qi below E B T args s z) (F0 m 0 ls []) := by
  obtain ⟨hx, hb, hr, hml, hts, hown, hlk, hX⟩ := id hΓ
  unfold fX2_fewestAfter at hf
  refine lv_iload_n hx hb dX2_fewestAfter_0 rfl (lv_at hl 1 rfl) ?_
  refine lv_iload hx hb dX2_fewestAfter_1 (lv_at hl 5 rfl) ?_
  refine h_ite (ls := ls) (jj := 11) (rest := [.int p1]) hf (fun k1 k2 => ?_) (fun x1 hf => ?_)
  · refine lv_if_eq (tgt := 10) hx hb dX2_fewestAfter_3 (by decide) (fun hc => ?_) (fun hc => ?_)
    · refine lv_iconst (v := 2) hx hb dX2_fewestAfter_10 (by decide) ?_
      exact k1 hc
    · refine lv_iconst (v := 1) hx hb dX2_fewestAfter_6 (by decide) ?_
      refine lv_goto (tgt := 11) hx hb dX2_fewestAfter_7 (by decide) ?_
      exact k2 hc
  · refine va_gets (ref := RX2) hx hb hX.2.2.2.2.1.1 hw.2.1 hown (hts _ fsX2_69) (fun _ h9 => h9) dX2_fewestAfter_11 ?_
    refine lv_iload hx hb dX2_fewestAfter_14 (lv_at hl 4 rfl) ?_
    refine h_thr hf hx hb hX hw dX2_fewestAfter_16 (fun x2 hf => ?_)
    refine lv_imul hx hb dX2_fewestAfter_17 ?_
    refine lv_iadd hx hb dX2_fewestAfter_18 ?_
    refine h_nmi hf (fun x3 hf => ?_)
    refine lv_istore (lv' := [(6, .int x3), (0, .ref (B + a0)), (1, .int p1), (2, .int p2), (3, .int p3), (4, .int p4), (5, .int p5)]) hx hb dX2_fewestAfter_19 hl (by decide) rfl (fun ls hl => ?_)
    refine lv_iload_n hx hb dX2_fewestAfter_21 rfl (lv_at hl 4 rfl) ?_
    refine lv_bipush (v := 6) hx hb dX2_fewestAfter_22 (by decide) ?_
    refine lv_icmp_ge (tgt := 43) hx hb dX2_fewestAfter_24 (by decide) (fun hc => ?_) (fun hc => ?_)
    · have hf := ifp hc hf
      refine lv_iconst (v := -1) hx hb dX2_fewestAfter_43 (by decide) ?_
      exact h_iret hf hx hb hr hlk hw dX2_fewestAfter_44
    · have hf := ifn hc hf
      refine lv_iload hx hb dX2_fewestAfter_27 (lv_at hl 0 rfl) ?_
      refine lv_iconst (v := 0) hx hb dX2_fewestAfter_29 (by decide) ?_
      refine lv_aload_n hx hb dX2_fewestAfter_30 rfl (lv_at hl 1 rfl) ?_
      refine h_getr hf hx hb hts hown hX hw flX2_16 rfl dX2_fewestAfter_31 (fun a4 hf => ?_)
      refine h_alen hf hx hb hX hw dX2_fewestAfter_34 (fun x5 hf => ?_)
      refine lv_iconst (v := 1) hx hb dX2_fewestAfter_35 (by decide) ?_
      refine lv_isub hx hb dX2_fewestAfter_36 ?_
      refine h_cNi (As := [.int x3, .int (0 : Int32), .int (x5 - (1 : Int32))]) (rest := []) hf hx hb hml hts hown hX hw myX8_isWithin msX8_isWithin nkX2_46 (fun q hq => c_X8_isWithin l E B T x3 (0 : Int32) (x5 - (1 : Int32)) u0 hq) (by constructor <;> simp only [h_rm] <;> omega) ⟨Nat.le_refl _, Nat.le_refl _⟩ rfl hl.1 rfl (Nat.le_of_ble_eq_true rfl) dX2_fewestAfter_37 (fun q6 H6 L6 hf hw => ?_)
      refine lv_if_ne (tgt := 45) hx hb dX2_fewestAfter_40 (by decide) (fun hc => ?_) (fun hc => ?_)
      · have hf := ifn hc hf
        refine lv_aload_n hx hb dX2_fewestAfter_45 rfl (lv_at hl 1 rfl) ?_
        refine h_getr hf hx hb hts hown hX hw flX2_16 rfl dX2_fewestAfter_46 (fun a7 hf => ?_)
        refine lv_iload hx hb dX2_fewestAfter_49 (lv_at hl 0 rfl) ?_
        refine h_iald hf hx hb hX hw dX2_fewestAfter_51 (fun x8 hf => ?_)
        refine lv_bipush (v := -2) hx hb dX2_fewestAfter_52 (by decide) ?_
        obtain ⟨J90, eJ90, hf⟩ := h_lt hf
        have hJ90 : ∀ (u9 : hM) (H9 : Heap) (L9 : List Loc) (ls : Array Slot), J90  u9 = some z → h_W E B T s.heap u9 H9 L9 → lv_has ls 7 [(0, .ref (B + a0)), (6, .int x3)] → W p l e (h_rm (dd + 4)) s m args below meth c H9 L9 0 0 (h_Qi below E B T args s z) (F0 m 90 ls []) := by
          intro  u9 H9 L9 ls hf hw hl
          rw [eJ90] at hf
          refine lv_aload_n hx hb dX2_fewestAfter_90 rfl (lv_at hl 0 rfl) ?_
          refine h_getr hf hx hb hts hown hX hw flX2_16 rfl dX2_fewestAfter_91 (fun a10 hf => ?_)
          refine lv_iload hx hb dX2_fewestAfter_94 (lv_at hl 1 rfl) ?_
          refine h_iald hf hx hb hX hw dX2_fewestAfter_96 (fun x11 hf => ?_)
          exact h_iret hf hx hb hr hlk hw dX2_fewestAfter_97
        clear eJ90
        refine lv_icmp_ne (tgt := 90) hx hb dX2_fewestAfter_54 (by decide) (fun hc => ?_) (fun hc => ?_)
        · have hf := ifn hc hf
          exact hJ90  q6.2 _ _ _ hf hw (lv_sub hl [1, 0] rfl)
        · have hf := ifp hc hf
          refine lv_aload_n hx hb dX2_fewestAfter_57 rfl (lv_at hl 1 rfl) ?_
          refine lv_iload_n hx hb dX2_fewestAfter_58 rfl (lv_at hl 4 rfl) ?_
          refine lv_iconst (v := 1) hx hb dX2_fewestAfter_59 (by decide) ?_
          refine lv_iadd hx hb dX2_fewestAfter_60 ?_
          refine lv_iload hx hb dX2_fewestAfter_61 (lv_at hl 5 rfl) ?_
          refine lv_iload hx hb dX2_fewestAfter_63 (lv_at hl 6 rfl) ?_
          refine h_cVv (As := [.int (p3 + (1 : Int32)), .int p4, .int p5]) (rest := []) hf hx hb hml hts hown hX hw myX2_fillOdds miX2_fillOdds lkX2_72 ⟨rfl, by decide⟩ (fun q hq => c_X2_fillOdds l E B T a0 (p3 + (1 : Int32)) p4 p5 q6.2 hq) (by constructor <;> simp only [h_rm] <;> omega) ⟨Nat.le_refl _, Nat.le_refl _⟩ rfl hl.1 rfl (Nat.le_of_ble_eq_true rfl) dX2_fewestAfter_65 (fun q12 H12 L12 hf hw => ?_)
          refine lv_aload_n hx hb dX2_fewestAfter_68 rfl (lv_at hl 1 rfl) ?_
          refine h_getr hf hx hb hts hown hX hw flX2_16 rfl dX2_fewestAfter_69 (fun a13 hf => ?_)
          refine lv_iload hx hb dX2_fewestAfter_72 (lv_at hl 0 rfl) ?_
          refine lv_aload_n hx hb dX2_fewestAfter_74 rfl (lv_at hl 1 rfl) ?_
          refine lv_iload hx hb dX2_fewestAfter_75 (lv_at hl 0 rfl) ?_
          refine lv_iload_n hx hb dX2_fewestAfter_77 rfl (lv_at hl 3 rfl) ?_
          refine lv_iconst (v := 1) hx hb dX2_fewestAfter_78 (by decide) ?_
          refine lv_iload hx hb dX2_fewestAfter_79 (lv_at hl 5 rfl) ?_
          refine lv_ishl hx hb dX2_fewestAfter_81 ?_
          refine lv_ior hx hb dX2_fewestAfter_82 ?_
          refine lv_iload_n hx hb dX2_fewestAfter_83 rfl (lv_at hl 4 rfl) ?_
          refine lv_iconst (v := 1) hx hb dX2_fewestAfter_84 (by decide) ?_
          refine lv_iadd hx hb dX2_fewestAfter_85 ?_
          refine h_cVi (As := [.int x3, .int (p2 ||| ((1 : Int32) <<< (p4 &&& 31))), .int (p3 + (1 : Int32))]) (rest := [.int x3, .ref (B + a13)]) hf hx hb hml hts hown hX hw myX2_fewestFrom miX2_fewestFrom lkX2_34 ⟨rfl, by decide⟩ (fun q hq => hrec a0 x3 (p2 ||| ((1 : Int32) <<< (p4 &&& 31))) (p3 + (1 : Int32)) q12 hq) (by constructor <;> simp only [h_rm] <;> omega) ⟨Nat.le_refl _, Nat.le_refl _⟩ rfl hl.1 rfl (Nat.le_of_ble_eq_true rfl) dX2_fewestAfter_86 (fun q14 H14 L14 hf hw => ?_)
          refine h_iast hf hx hb hX hw dX2_fewestAfter_89 (fun u15 H15 L15 hf hw => ?_)
          exact hJ90  u15 _ _ _ hf hw (lv_sub hl [1, 0] rfl)
      · have hf := ifp hc hf
        refine lv_iconst (v := -1) hx hb dX2_fewestAfter_43 (by decide) ?_
        exact h_iret hf hx hb hr hlk hw dX2_fewestAfter_44
theorem c_X2_fewestAfter (l : Launch) (E : hE) (B : Nat) (T : hT) {rec : Nat → Int32 → Int32 → Int32 → hM → Option (Int32 × hM)} {dd : Nat} (hrec : ∀ (a : Nat) (x y w : Int32) (u : hM) {q : Int32 × hM}, rec a x y w u = some q → h_Ct l E B T yX2_fewestFrom cX2_fewestFrom 9 (some .int) dd [.ref (B + a), .int x, .int y, .int w] u q.2 (some (.int q.1))) (a0 : Nat) (p1 : Int32) (p2 : Int32) (p3 : Int32) (p4 : Int32) (p5 : Int32) (u0 : hM) {z : Int32 × hM} (hf : fX2_fewestAfter T rec a0 p1 p2 p3 p4 p5 u0 = some z) : h_Ct l E B T yX2_fewestAfter cX2_fewestAfter 7 (some .int) (dd + 4) [.ref (B + a0), .int p1, .int p2, .int p3, .int p4, .int p5] u0 z.2 (some (.int z.1)) := h_ofW (by decide) (Nat.le_of_ble_eq_true rfl) (fun p e s m below meth c ls hΓ hl hw => wX2_fewestAfter hΓ hrec hf hw hl)
def fX2_fewestFrom_L40 (T : hT) (rec : Nat → Int32 → Int32 → Int32 → hM → Option (Int32 × hM)) (c0 : Nat) (c1 : Int32) (c2 : Int32) (c3 : Int32) (ex : Int32 → hM → Option (Int32 × hM)) : Nat → Int32 → Int32 → hM → Option (Int32 × hM)
  | 0, _, _, _ => none
  | n + 1, v4, v5, u0 => (gtr T u0 c0 2 2).bind fun a7 => (gti T u0 a7 7 4).bind fun x8 => if x8 ≤ v5 then (ex v4 u0) else (lt (fun (x9 : Int32) (u10 : hM) => lt (v5 + (1 : Int32)) fun x11 => fX2_fewestFrom_L40 T rec c0 c1 c2 c3 ex n x9 x11 u10) fun J144 => if ((c2 >>> (v5 &&& 31)) &&& (1 : Int32)) = (1 : Int32) then (J144 v4 u0) else ((vc T c0 2 (fX2_fewestAfter T rec c0 c1 c2 c3 v5 (1 : Int32) u0)).bind fun q12 => if q12.1 = (-1 : Int32) then (J144 v4 q12.2) else ((vc T c0 2 (fX2_fewestAfter T rec c0 c1 c2 c3 v5 (0 : Int32) q12.2)).bind fun q13 => if q13.1 = (-1 : Int32) then (J144 v4 q13.2) else ((gtr T q13.2 c0 2 2).bind fun a14 => (gtr T q13.2 a14 7 0).bind fun a15 => (ald 11 T q13.2 a15 v5).bind fun x16 => lt ((x16 + (if q12.1 < q13.1 then q13.1 else q12.1))) fun x17 => lt (fun (u18 : hM) => J144 x17 u18) fun J140 => if v4 = (-1 : Int32) then (J140 q13.2) else (if v4 ≤ x17 then (J144 v4 q13.2) else (J140 q13.2))))))
def fX2_fewestFromB (T : hT) (rec : Nat → Int32 → Int32 → Int32 → hM → Option (Int32 × hM)) (a0 : Nat) (p1 : Int32) (p2 : Int32) (p3 : Int32) (u0 : hM) : Option (Int32 × hM) := (fX8_isWithin T p3 (0 : Int32) (6 : Int32) u0).bind fun q1 => if q1.1 = 0 then (some ((-1 : Int32), q1.2)) else ((gtq T q1.2 a0 2 2).bind fun o2 => if o2 = none then (some ((-1 : Int32), q1.2)) else ((gtr T q1.2 a0 2 0).bind fun a4 => (aldr 17 T q1.2 a4 p3).bind fun a5 => (vc T a0 2 (fX2_isKnown T a0 a5 q1.2)).bind fun q6 => if q6.1 = 0 then (fX2_fewestFrom_L40 T rec a0 p1 p2 p3 (fun (x19 : Int32) (u20 : hM) => some (x19, u20)) 6000 (-1 : Int32) (0 : Int32) q6.2) else (some ((0 : Int32), q6.2))))
set_option maxRecDepth 100000 in
set_option maxHeartbeats 4000000 in
theorem wfX2_fewestFrom_L40 {c0 : Nat} {c1 : Int32} {c2 : Int32} {c3 : Int32} {ex : Int32 → hM → Option (Int32 × hM)} {z : Int32 × hM} (hΓ : h_Γ E B T p s m args meth c cX2_fewestFrom 9 (some .int) RX2) {rec : Nat → Int32 → Int32 → Int32 → hM → Option (Int32 × hM)} {dd : Nat} (hrec : ∀ (a : Nat) (x y w : Int32) (u : hM) {q : Int32 × hM}, rec a x y w u = some q → h_Ct l E B T yX2_fewestFrom cX2_fewestFrom 9 (some .int) dd [.ref (B + a), .int x, .int y, .int w] u q.2 (some (.int q.1))) (hex : ∀ (y4 : Int32) (u9 : hM) (H9 : Heap) (L9 : List Loc) (ls : Array Slot), ex y4 u9 = some z → h_W E B T s.heap u9 H9 L9 → lv_has ls 9 [(4, .int y4)] → W p l e (h_rm (dd + 5)) s m args below meth c H9 L9 0 0 (h_Qi below E B T args s z) (F0 m 150 ls [])) : ∀ (n : Nat) (v4 : Int32) (v5 : Int32) (u0 : hM) (H0 : Heap) (L0 : List Loc) (ls : Array Slot), fX2_fewestFrom_L40 T rec c0 c1 c2 c3 ex n v4 v5 u0 = some z → h_W E B T s.heap u0 H0 L0 → lv_has ls 9 [(0, .ref (B + c0)), (1, .int c1), (2, .int c2), (3, .int c3), (4, .int v4), (5, .int v5)] → W p l e (h_rm (dd + 5)) s m args below meth c H0 L0 0 0 (h_Qi below E B T args s z) (F0 m 40 ls []) := by
  obtain ⟨hx, hb, hr, hml, hts, hown, hlk, hX⟩ := id hΓ
  intro n
  induction n with
  | zero =>
    intro v4 v5 u0 H0 L0 ls hf hw hl
    exact absurd (show (none : Option (Int32 × hM)) = some z from hf) (fun h => by cases h)
  | succ n ih =>
    intro v4 v5 u0 H0 L0 ls hf hw hl
    rw [fX2_fewestFrom_L40] at hf
    refine lv_iload hx hb dX2_fewestFrom_40 (lv_at hl 5 rfl) ?_
    refine lv_aload_n hx hb dX2_fewestFrom_42 rfl (lv_at hl 0 rfl) ?_
    refine h_getr hf hx hb hts hown hX hw flX2_20 rfl dX2_fewestFrom_43 (fun a7 hf => ?_)
    refine h_geti hf hx hb hts hown hX hw flX2_54 rfl dX2_fewestFrom_46 (fun x8 hf => ?_)
    refine lv_icmp_ge (tgt := 150) hx hb dX2_fewestFrom_49 (by decide) (fun hc => ?_) (fun hc => ?_)
    · have hf := ifp hc hf
      exact hex v4 u0 _ _ _ hf hw (lv_sub hl [4] rfl)
    · have hf := ifn hc hf
      refine lv_iload_n hx hb dX2_fewestFrom_52 rfl (lv_at hl 2 rfl) ?_
      refine lv_iload hx hb dX2_fewestFrom_53 (lv_at hl 5 rfl) ?_
      refine lv_ishr hx hb dX2_fewestFrom_55 ?_
      refine lv_iconst (v := 1) hx hb dX2_fewestFrom_56 (by decide) ?_
      refine lv_iand hx hb dX2_fewestFrom_57 ?_
      refine lv_iconst (v := 1) hx hb dX2_fewestFrom_58 (by decide) ?_
      obtain ⟨J144, eJ144, hf⟩ := h_lt hf
      have hJ144 : ∀ (x9 : Int32) (u10 : hM) (H10 : Heap) (L10 : List Loc) (ls : Array Slot), J144 x9 u10 = some z → h_W E B T s.heap u10 H10 L10 → lv_has ls 9 [(0, .ref (B + c0)), (1, .int c1), (2, .int c2), (3, .int c3), (4, .int x9), (5, .int v5)] → W p l e (h_rm (dd + 5)) s m args below meth c H10 L10 0 0 (h_Qi below E B T args s z) (F0 m 144 ls []) := by
        intro x9 u10 H10 L10 ls hf hw hl
        rw [eJ144] at hf
        refine h_iinc (k := 5) hf hx hb dX2_fewestFrom_144 hl rfl (by decide) (by decide) (fun x11 ls hf hl => ?_)
        have hl : lv_has ls 9 [(5, .int x11), (0, .ref (B + c0)), (1, .int c1), (2, .int c2), (3, .int c3), (4, .int x9)] := hl
        refine lv_goto (tgt := 40) hx hb dX2_fewestFrom_147 (by decide) ?_
        exact ih x9 x11 u10 _ _ _ hf hw (lv_sub hl [1, 2, 3, 4, 5, 0] rfl)
      clear eJ144
      refine lv_icmp_ne (tgt := 65) hx hb dX2_fewestFrom_59 (by decide) (fun hc => ?_) (fun hc => ?_)
      · have hf := ifn hc hf
        refine lv_aload_n hx hb dX2_fewestFrom_65 rfl (lv_at hl 0 rfl) ?_
        refine lv_iload_n hx hb dX2_fewestFrom_66 rfl (lv_at hl 1 rfl) ?_
        refine lv_iload_n hx hb dX2_fewestFrom_67 rfl (lv_at hl 2 rfl) ?_
        refine lv_iload_n hx hb dX2_fewestFrom_68 rfl (lv_at hl 3 rfl) ?_
        refine lv_iload hx hb dX2_fewestFrom_69 (lv_at hl 5 rfl) ?_
        refine lv_iconst (v := 1) hx hb dX2_fewestFrom_71 (by decide) ?_
        refine h_cVi (As := [.int c1, .int c2, .int c3, .int v5, .int (1 : Int32)]) (rest := []) hf hx hb hml hts hown hX hw myX2_fewestAfter miX2_fewestAfter lkX2_59 ⟨rfl, by decide⟩ (fun q hq => c_X2_fewestAfter l E B T hrec c0 c1 c2 c3 v5 (1 : Int32) u0 hq) (by constructor <;> simp only [h_rm] <;> omega) ⟨Nat.le_refl _, Nat.le_refl _⟩ rfl hl.1 rfl (Nat.le_of_ble_eq_true rfl) dX2_fewestFrom_72 (fun q12 H12 L12 hf hw => ?_)
        refine lv_istore (lv' := [(6, .int q12.1), (0, .ref (B + c0)), (1, .int c1), (2, .int c2), (3, .int c3), (4, .int v4), (5, .int v5)]) hx hb dX2_fewestFrom_75 hl (by decide) rfl (fun ls hl => ?_)
        refine lv_iload hx hb dX2_fewestFrom_77 (lv_at hl 0 rfl) ?_
        refine lv_iconst (v := -1) hx hb dX2_fewestFrom_79 (by decide) ?_
        refine lv_icmp_ne (tgt := 86) hx hb dX2_fewestFrom_80 (by decide) (fun hc => ?_) (fun hc => ?_)
        · have hf := ifn hc hf
          refine lv_aload_n hx hb dX2_fewestFrom_86 rfl (lv_at hl 1 rfl) ?_
          refine lv_iload_n hx hb dX2_fewestFrom_87 rfl (lv_at hl 2 rfl) ?_
          refine lv_iload_n hx hb dX2_fewestFrom_88 rfl (lv_at hl 3 rfl) ?_
          refine lv_iload_n hx hb dX2_fewestFrom_89 rfl (lv_at hl 4 rfl) ?_
          refine lv_iload hx hb dX2_fewestFrom_90 (lv_at hl 6 rfl) ?_
          refine lv_iconst (v := 0) hx hb dX2_fewestFrom_92 (by decide) ?_
          refine h_cVi (As := [.int c1, .int c2, .int c3, .int v5, .int (0 : Int32)]) (rest := []) hf hx hb hml hts hown hX hw myX2_fewestAfter miX2_fewestAfter lkX2_59 ⟨rfl, by decide⟩ (fun q hq => c_X2_fewestAfter l E B T hrec c0 c1 c2 c3 v5 (0 : Int32) q12.2 hq) (by constructor <;> simp only [h_rm] <;> omega) ⟨Nat.le_refl _, Nat.le_refl _⟩ rfl hl.1 rfl (Nat.le_of_ble_eq_true rfl) dX2_fewestFrom_93 (fun q13 H13 L13 hf hw => ?_)
          refine lv_istore (lv' := [(7, .int q13.1), (6, .int q12.1), (0, .ref (B + c0)), (1, .int c1), (2, .int c2), (3, .int c3), (4, .int v4), (5, .int v5)]) hx hb dX2_fewestFrom_96 hl (by decide) rfl (fun ls hl => ?_)
          refine lv_iload hx hb dX2_fewestFrom_98 (lv_at hl 0 rfl) ?_
          refine lv_iconst (v := -1) hx hb dX2_fewestFrom_100 (by decide) ?_
          refine lv_icmp_ne (tgt := 107) hx hb dX2_fewestFrom_101 (by decide) (fun hc => ?_) (fun hc => ?_)
          · have hf := ifn hc hf
            refine lv_aload_n hx hb dX2_fewestFrom_107 rfl (lv_at hl 2 rfl) ?_
            refine h_getr hf hx hb hts hown hX hw flX2_20 rfl dX2_fewestFrom_108 (fun a14 hf => ?_)
            refine h_getr hf hx hb hts hown hX hw flX2_63 rfl dX2_fewestFrom_111 (fun a15 hf => ?_)
            refine lv_iload hx hb dX2_fewestFrom_114 (lv_at hl 7 rfl) ?_
            refine h_iald hf hx hb hX hw dX2_fewestFrom_116 (fun x16 hf => ?_)
            refine lv_iload hx hb dX2_fewestFrom_117 (lv_at hl 1 rfl) ?_
            refine lv_iload hx hb dX2_fewestFrom_119 (lv_at hl 0 rfl) ?_
            refine h_mmax (rest := [.int x16]) hx hb hml hl.1 hts hown lkX2_66 ⟨Nat.le_of_ble_eq_true rfl, Nat.le_of_ble_eq_true rfl⟩ ⟨Nat.le_refl _, Nat.le_refl _⟩ dX2_fewestFrom_121 ?_
            refine lv_iadd hx hb dX2_fewestFrom_124 ?_
            refine h_nmi hf (fun x17 hf => ?_)
            refine lv_istore (lv' := [(8, .int x17), (7, .int q13.1), (6, .int q12.1), (0, .ref (B + c0)), (1, .int c1), (2, .int c2), (3, .int c3), (4, .int v4), (5, .int v5)]) hx hb dX2_fewestFrom_125 hl (by decide) rfl (fun ls hl => ?_)
            refine lv_iload hx hb dX2_fewestFrom_127 (lv_at hl 7 rfl) ?_
            refine lv_iconst (v := -1) hx hb dX2_fewestFrom_129 (by decide) ?_
            obtain ⟨J140, eJ140, hf⟩ := h_lt hf
            have hJ140 : ∀ (u18 : hM) (H18 : Heap) (L18 : List Loc) (ls : Array Slot), J140  u18 = some z → h_W E B T s.heap u18 H18 L18 → lv_has ls 9 [(0, .ref (B + c0)), (1, .int c1), (2, .int c2), (3, .int c3), (5, .int v5), (8, .int x17)] → W p l e (h_rm (dd + 5)) s m args below meth c H18 L18 0 0 (h_Qi below E B T args s z) (F0 m 140 ls []) := by
              intro  u18 H18 L18 ls hf hw hl
              rw [eJ140] at hf
              refine lv_iload hx hb dX2_fewestFrom_140 (lv_at hl 5 rfl) ?_
              refine lv_istore (lv' := [(4, .int x17), (0, .ref (B + c0)), (1, .int c1), (2, .int c2), (3, .int c3), (5, .int v5), (8, .int x17)]) hx hb dX2_fewestFrom_142 hl (by decide) rfl (fun ls hl => ?_)
              exact hJ144 x17 u18 _ _ _ hf hw (lv_sub hl [1, 2, 3, 4, 0, 5] rfl)
            clear eJ140
            refine lv_icmp_eq (tgt := 140) hx hb dX2_fewestFrom_130 (by decide) (fun hc => ?_) (fun hc => ?_)
            · have hf := ifp hc hf
              exact hJ140  q13.2 _ _ _ hf hw (lv_sub hl [3, 4, 5, 6, 8, 0] rfl)
            · have hf := ifn hc hf
              refine lv_iload hx hb dX2_fewestFrom_133 (lv_at hl 0 rfl) ?_
              refine lv_iload hx hb dX2_fewestFrom_135 (lv_at hl 7 rfl) ?_
              refine lv_icmp_ge (tgt := 144) hx hb dX2_fewestFrom_137 (by decide) (fun hc => ?_) (fun hc => ?_)
              · have hf := ifp hc hf
                exact hJ144 v4 q13.2 _ _ _ hf hw (lv_sub hl [3, 4, 5, 6, 7, 8] rfl)
              · have hf := ifn hc hf
                exact hJ140  q13.2 _ _ _ hf hw (lv_sub hl [3, 4, 5, 6, 8, 0] rfl)
          · have hf := ifp hc hf
            refine lv_goto (tgt := 144) hx hb dX2_fewestFrom_104 (by decide) ?_
            exact hJ144 v4 q13.2 _ _ _ hf hw (lv_sub hl [2, 3, 4, 5, 6, 7] rfl)
        · have hf := ifp hc hf
          refine lv_goto (tgt := 144) hx hb dX2_fewestFrom_83 (by decide) ?_
          exact hJ144 v4 q12.2 _ _ _ hf hw (lv_sub hl [1, 2, 3, 4, 5, 6] rfl)
      · have hf := ifp hc hf
        refine lv_goto (tgt := 144) hx hb dX2_fewestFrom_62 (by decide) ?_
        exact hJ144 v4 u0 _ _ _ hf hw (lv_sub hl [0, 1, 2, 3, 4, 5] rfl)
set_option maxRecDepth 100000 in
set_option maxHeartbeats 4000000 in
theorem wX2_fewestFromB {a0 : Nat} {p1 : Int32} {p2 : Int32} {p3 : Int32} {u0 : hM} {z : Int32 × hM} {ls : Array Slot} (hΓ : h_Γ E B T p s m args meth c cX2_fewestFrom 9 (some .int) RX2) {rec : Nat → Int32 → Int32 → Int32 → hM → Option (Int32 × hM)} {dd : Nat} (hrec : ∀ (a : Nat) (x y w : Int32) (u : hM) {q : Int32 × hM}, rec a x y w u = some q → h_Ct l E B T yX2_fewestFrom cX2_fewestFrom 9 (some .int) dd [.ref (B + a), .int x, .int y, .int w] u q.2 (some (.int q.1))) (hf : fX2_fewestFromB T rec a0 p1 p2 p3 u0 = some z) (hw : h_W E B T s.heap u0 s.heap []) (hl : lv_has ls 9 [(0, .ref (B + a0)), (1, .int p1), (2, .int p2), (3, .int p3)]) : W p l e (h_rm (dd + 5)) s m args below meth c s.heap [] 0 0 (h_Qi below E B T args s z) (F0 m 0 ls []) := by
  obtain ⟨hx, hb, hr, hml, hts, hown, hlk, hX⟩ := id hΓ
  unfold fX2_fewestFromB at hf
  refine lv_iload_n hx hb dX2_fewestFrom_0 rfl (lv_at hl 3 rfl) ?_
  refine lv_iconst (v := 0) hx hb dX2_fewestFrom_1 (by decide) ?_
  refine lv_bipush (v := 6) hx hb dX2_fewestFrom_2 (by decide) ?_
  refine h_cNi (As := [.int p3, .int (0 : Int32), .int (6 : Int32)]) (rest := []) hf hx hb hml hts hown hX hw myX8_isWithin msX8_isWithin nkX2_46 (fun q hq => c_X8_isWithin l E B T p3 (0 : Int32) (6 : Int32) u0 hq) (by constructor <;> simp only [h_rm] <;> omega) ⟨Nat.le_refl _, Nat.le_refl _⟩ rfl hl.1 rfl (Nat.le_of_ble_eq_true rfl) dX2_fewestFrom_4 (fun q1 H1 L1 hf hw => ?_)
  refine lv_if_eq (tgt := 17) hx hb dX2_fewestFrom_7 (by decide) (fun hc => ?_) (fun hc => ?_)
  · have hf := ifp hc hf
    refine lv_iconst (v := -1) hx hb dX2_fewestFrom_17 (by decide) ?_
    exact h_iret hf hx hb hr hlk hw dX2_fewestFrom_18
  · have hf := ifn hc hf
    refine lv_aload_n hx hb dX2_fewestFrom_10 rfl (lv_at hl 0 rfl) ?_
    refine h_getq hf hx hb hts hown hX hw flX2_20 rfl dX2_fewestFrom_11 (fun hf => ?_) (fun a3 hf => ?_)
    · have hf := ifp rfl hf
      refine lv_ifnonnullN hx hb dX2_fewestFrom_14 ?_
      refine lv_iconst (v := -1) hx hb dX2_fewestFrom_17 (by decide) ?_
      exact h_iret hf hx hb hr hlk hw dX2_fewestFrom_18
    · have hf := ifn (fun h => by cases h) hf
      refine lv_ifnonnull (tgt := 19) hx hb dX2_fewestFrom_14 (by decide) ?_
      refine lv_aload_n hx hb dX2_fewestFrom_19 rfl (lv_at hl 0 rfl) ?_
      refine lv_aload_n hx hb dX2_fewestFrom_20 rfl (lv_at hl 0 rfl) ?_
      refine h_getr hf hx hb hts hown hX hw flX2_11 rfl dX2_fewestFrom_21 (fun a4 hf => ?_)
      refine lv_iload_n hx hb dX2_fewestFrom_24 rfl (lv_at hl 3 rfl) ?_
      refine h_aald17 hf hx hb hX hw dX2_fewestFrom_25 (fun a5 hf => ?_)
      refine h_cVi (As := [.ref (B + a5)]) (rest := []) hf hx hb hml hts hown hX hw myX2_isKnown miX2_isKnown lkX2_50 ⟨rfl, by decide⟩ (fun q hq => c_X2_isKnown l E B T a0 a5 q1.2 hq) (by constructor <;> simp only [h_rm] <;> omega) ⟨Nat.le_refl _, Nat.le_refl _⟩ rfl hl.1 rfl (Nat.le_of_ble_eq_true rfl) dX2_fewestFrom_26 (fun q6 H6 L6 hf hw => ?_)
      refine lv_if_eq (tgt := 34) hx hb dX2_fewestFrom_29 (by decide) (fun hc => ?_) (fun hc => ?_)
      · have hf := ifp hc hf
        refine lv_iconst (v := -1) hx hb dX2_fewestFrom_34 (by decide) ?_
        refine lv_istore (lv' := [(4, .int (-1 : Int32)), (0, .ref (B + a0)), (1, .int p1), (2, .int p2), (3, .int p3)]) hx hb dX2_fewestFrom_35 hl (by decide) rfl (fun ls hl => ?_)
        refine lv_iconst (v := 0) hx hb dX2_fewestFrom_37 (by decide) ?_
        refine lv_istore (lv' := [(5, .int (0 : Int32)), (4, .int (-1 : Int32)), (0, .ref (B + a0)), (1, .int p1), (2, .int p2), (3, .int p3)]) hx hb dX2_fewestFrom_38 hl (by decide) rfl (fun ls hl => ?_)
        refine wfX2_fewestFrom_L40 hΓ hrec ?_ 6000 (-1 : Int32) (0 : Int32) q6.2 _ _ _ hf hw (lv_sub hl [2, 3, 4, 5, 1, 0] rfl)
        intro x19 u20 H20 L20 ls hf hw hl
        refine lv_iload hx hb dX2_fewestFrom_150 (lv_at hl 0 rfl) ?_
        exact h_iret hf hx hb hr hlk hw dX2_fewestFrom_152
      · have hf := ifn hc hf
        refine lv_iconst (v := 0) hx hb dX2_fewestFrom_32 (by decide) ?_
        exact h_iret hf hx hb hr hlk hw dX2_fewestFrom_33
theorem c_X2_fewestFromB (l : Launch) (E : hE) (B : Nat) (T : hT) {rec : Nat → Int32 → Int32 → Int32 → hM → Option (Int32 × hM)} {dd : Nat} (hrec : ∀ (a : Nat) (x y w : Int32) (u : hM) {q : Int32 × hM}, rec a x y w u = some q → h_Ct l E B T yX2_fewestFrom cX2_fewestFrom 9 (some .int) dd [.ref (B + a), .int x, .int y, .int w] u q.2 (some (.int q.1))) (a0 : Nat) (p1 : Int32) (p2 : Int32) (p3 : Int32) (u0 : hM) {z : Int32 × hM} (hf : fX2_fewestFromB T rec a0 p1 p2 p3 u0 = some z) : h_Ct l E B T yX2_fewestFrom cX2_fewestFrom 9 (some .int) (dd + 5) [.ref (B + a0), .int p1, .int p2, .int p3] u0 z.2 (some (.int z.1)) := h_ofW (by decide) (Nat.le_of_ble_eq_true rfl) (fun p e s m below meth c ls hΓ hl hw => wX2_fewestFromB hΓ hrec hf hw hl)
def fX2_fewestFrom (T : hT) : Nat → Nat → Int32 → Int32 → Int32 → hM → Option (Int32 × hM)
  | 0, _, _, _, _, _ => none
  | n + 1, a, x, y, w, u => fX2_fewestFromB T (fX2_fewestFrom T n) a x y w u
theorem c_X2_fewestFrom (l : Launch) (E : hE) (B : Nat) (T : hT) : ∀ (n a : Nat) (x y w : Int32) (u : hM) {q : Int32 × hM}, fX2_fewestFrom T n a x y w u = some q → h_Ct l E B T yX2_fewestFrom cX2_fewestFrom 9 (some .int) (5 * n) [.ref (B + a), .int x, .int y, .int w] u q.2 (some (.int q.1)) := by
  intro n
  induction n with
  | zero =>
    intro a x y w u q hf
    exact absurd (show (none : Option (Int32 × hM)) = some q from hf) (fun h => by cases h)
  | succ n ih =>
    intro a x y w u q hf
    rw [fX2_fewestFrom] at hf
    exact c_X2_fewestFromB l E B T ih a x y w u hf
def fX2_fewestMinutes (T : hT) (a0 : Nat) (r1 : Nat) (p2 : Int32) (p3 : Int32) (u0 : hM) : Option (Int32 × hM) := (ptr T u0 a0 2 2 (some r1)).bind fun u1 => (pti T u1 a0 2 3 p3).bind fun u2 => (gtr T u2 a0 2 1).bind fun a3 => (fJ7_fill_53178 T a3 (-2 : Int32) u2).bind fun q4 => (vc T a0 2 (fX2_fewestFrom T 8 a0 (0 : Int32) p2 (0 : Int32) q4)).bind fun q5 => some (q5.1, q5.2)
set_option maxRecDepth 100000 in
set_option maxHeartbeats 4000000 in
theorem wX2_fewestMinutes {a0 : Nat} {r1 : Nat} {p2 : Int32} {p3 : Int32} {u0 : hM} {z : Int32 × hM} {ls : Array Slot} (hΓ : h_Γ E B T p s m args meth c cX2_fewestMinutes 4 (some .int) RX2) (hf : fX2_fewestMinutes T a0 r1 p2 p3 u0 = some z) (hw : h_W E B T s.heap u0 s.heap []) (hl : lv_has ls 4 [(0, .ref (B + a0)), (1, .ref (B + r1)), (2, .int p2), (3, .int p3)]) : W p l e (h_rm 41) s m args below meth c s.heap [] 0 0 (h_Qi below E B T args s z) (F0 m 0 ls []) := by
  obtain ⟨hx, hb, hr, hml, hts, hown, hlk, hX⟩ := id hΓ
  unfold fX2_fewestMinutes at hf
  refine lv_aload_n hx hb dX2_fewestMinutes_0 rfl (lv_at hl 0 rfl) ?_
  refine lv_aload_n hx hb dX2_fewestMinutes_1 rfl (lv_at hl 1 rfl) ?_
  refine h_putr hf hx hb hts hown hX hw flX2_20 ⟨rfl, rfl⟩ dX2_fewestMinutes_2 (fun u1 H1 L1 hf hw => ?_)
  refine lv_aload_n hx hb dX2_fewestMinutes_5 rfl (lv_at hl 0 rfl) ?_
  refine lv_iload_n hx hb dX2_fewestMinutes_6 rfl (lv_at hl 3 rfl) ?_
  refine h_puti hf hx hb hts hown hX hw flX2_24 ⟨rfl, rfl⟩ dX2_fewestMinutes_7 (fun u2 H2 L2 hf hw => ?_)
  refine lv_aload_n hx hb dX2_fewestMinutes_10 rfl (lv_at hl 0 rfl) ?_
  refine h_getr hf hx hb hts hown hX hw flX2_16 rfl dX2_fewestMinutes_11 (fun a3 hf => ?_)
  refine lv_bipush (v := -2) hx hb dX2_fewestMinutes_14 (by decide) ?_
  refine h_cSv (As := [.ref (B + a3), .int (-2 : Int32)]) (rest := []) hf hx hb hml hts hown hX hw myJ7_fill_53178 msJ7_fill_53178 lkX2_28 (fun q hq => c_J7_fill_53178 l E B T a3 (-2 : Int32) u2 hq) ⟨Nat.le_of_ble_eq_true rfl, Nat.le_of_ble_eq_true rfl⟩ ⟨Nat.le_refl _, Nat.le_refl _⟩ rfl hl.1 rfl (Nat.le_of_ble_eq_true rfl) dX2_fewestMinutes_16 (fun q4 H4 L4 hf hw => ?_)
  refine lv_aload_n hx hb dX2_fewestMinutes_19 rfl (lv_at hl 0 rfl) ?_
  refine lv_iconst (v := 0) hx hb dX2_fewestMinutes_20 (by decide) ?_
  refine lv_iload_n hx hb dX2_fewestMinutes_21 rfl (lv_at hl 2 rfl) ?_
  refine lv_iconst (v := 0) hx hb dX2_fewestMinutes_22 (by decide) ?_
  refine h_cVi (As := [.int (0 : Int32), .int p2, .int (0 : Int32)]) (rest := []) hf hx hb hml hts hown hX hw myX2_fewestFrom miX2_fewestFrom lkX2_34 ⟨rfl, by decide⟩ (fun q hq => c_X2_fewestFrom l E B T 8 a0 (0 : Int32) p2 (0 : Int32) q4 hq) (by constructor <;> simp only [h_rm] <;> omega) ⟨Nat.le_refl _, Nat.le_refl _⟩ rfl hl.1 rfl (Nat.le_of_ble_eq_true rfl) dX2_fewestMinutes_23 (fun q5 H5 L5 hf hw => ?_)
  exact h_iret hf hx hb hr hlk hw dX2_fewestMinutes_26
theorem c_X2_fewestMinutes (l : Launch) (E : hE) (B : Nat) (T : hT) (a0 : Nat) (r1 : Nat) (p2 : Int32) (p3 : Int32) (u0 : hM) {z : Int32 × hM} (hf : fX2_fewestMinutes T a0 r1 p2 p3 u0 = some z) : h_Ct l E B T yX2_fewestMinutes cX2_fewestMinutes 4 (some .int) 41 [.ref (B + a0), .ref (B + r1), .int p2, .int p3] u0 z.2 (some (.int z.1)) := h_ofW (by decide) (Nat.le_of_ble_eq_true rfl) (fun p e s m below meth c ls hΓ hl hw => wX2_fewestMinutes hΓ hf hw hl)
def fX8_left_L15 (T : hT) (c0 : Nat) (ex : hM → Option (Int32 × hM)) : Nat → Int32 → hM → Option (Int32 × hM)
  | 0, _, _ => none
  | n + 1, v2, u0 => if (16 : Int32) ≤ v2 then (ex u0) else ((gtr T u0 c0 8 8).bind fun a2 => (gtr T u0 a2 2 0).bind fun a3 => (aldr 17 T u0 a3 (0 : Int32)).bind fun a4 => (vc T c0 8 (fX8_oddsNow T c0 v2 u0)).bind fun q5 => (astl T q5.2 a4 v2 q5.1).bind fun u6 => lt (v2 + (1 : Int32)) fun x7 => fX8_left_L15 T c0 ex n x7 u6)
def fX8_left (T : hT) (a0 : Nat) (p1 : Int32) (u0 : hM) : Option (Int32 × hM) := (fX8_isWithin T p1 (1 : Int32) (100 : Int32) u0).bind fun q1 => if q1.1 = 0 then (some ((-1000000002 : Int32), q1.2)) else (fX8_left_L15 T a0 (fun (u8 : hM) => (gtr T u8 a0 8 8).bind fun a9 => (gtr T u8 a0 8 3).bind fun a10 => (gtr T u8 a0 8 6).bind fun a11 => (gti T u8 a11 5 4).bind fun x12 => (vc T a9 2 (fX2_fewestMinutes T a9 a10 x12 p1 u8)).bind fun q13 => some (q13.1, q13.2)) 6000 (0 : Int32) q1.2)
set_option maxRecDepth 100000 in
set_option maxHeartbeats 4000000 in
theorem wfX8_left_L15 {c0 : Nat} {c1 : Int32} {ex : hM → Option (Int32 × hM)} {z : Int32 × hM} (hΓ : h_Γ E B T p s m args meth c cX8_left 3 (some .int) RX8) (hex : ∀ (u9 : hM) (H9 : Heap) (L9 : List Loc) (ls : Array Slot), ex u9 = some z → h_W E B T s.heap u9 H9 L9 → lv_has ls 3 [(0, .ref (B + c0)), (1, .int c1)] → W p l e (h_rm 42) s m args below meth c H9 L9 0 0 (h_Qi below E B T args s z) (F0 m 43 ls [])) : ∀ (n : Nat) (v2 : Int32) (u0 : hM) (H0 : Heap) (L0 : List Loc) (ls : Array Slot), fX8_left_L15 T c0 ex n v2 u0 = some z → h_W E B T s.heap u0 H0 L0 → lv_has ls 3 [(0, .ref (B + c0)), (1, .int c1), (2, .int v2)] → W p l e (h_rm 42) s m args below meth c H0 L0 0 0 (h_Qi below E B T args s z) (F0 m 15 ls []) := by
  obtain ⟨hx, hb, hr, hml, hts, hown, hlk, hX⟩ := id hΓ
  intro n
  induction n with
  | zero =>
    intro v2 u0 H0 L0 ls hf hw hl
    exact absurd (show (none : Option (Int32 × hM)) = some z from hf) (fun h => by cases h)
  | succ n ih =>
    intro v2 u0 H0 L0 ls hf hw hl
    rw [fX8_left_L15] at hf
    refine lv_iload_n hx hb dX8_left_15 rfl (lv_at hl 2 rfl) ?_
    refine lv_bipush (v := 16) hx hb dX8_left_16 (by decide) ?_
    refine lv_icmp_ge (tgt := 43) hx hb dX8_left_18 (by decide) (fun hc => ?_) (fun hc => ?_)
    · have hf := ifp hc hf
      exact hex  u0 _ _ _ hf hw (lv_sub hl [0, 1] rfl)
    · have hf := ifn hc hf
      refine lv_aload_n hx hb dX8_left_21 rfl (lv_at hl 0 rfl) ?_
      refine h_getr hf hx hb hts hown hX hw flX8_58 rfl dX8_left_22 (fun a2 hf => ?_)
      refine h_getr hf hx hb hts hown hX hw flX8_258 rfl dX8_left_25 (fun a3 hf => ?_)
      refine lv_iconst (v := 0) hx hb dX8_left_28 (by decide) ?_
      refine h_aald17 hf hx hb hX hw dX8_left_29 (fun a4 hf => ?_)
      refine lv_iload_n hx hb dX8_left_30 rfl (lv_at hl 2 rfl) ?_
      refine lv_aload_n hx hb dX8_left_31 rfl (lv_at hl 0 rfl) ?_
      refine lv_iload_n hx hb dX8_left_32 rfl (lv_at hl 2 rfl) ?_
      refine h_cVl (As := [.int v2]) (rest := [.int v2, .ref (B + a4)]) hf hx hb hml hts hown hX hw myX8_oddsNow miX8_oddsNow lkX8_248 ⟨rfl, by decide⟩ (fun q hq => c_X8_oddsNow l E B T c0 v2 u0 hq) ⟨Nat.le_of_ble_eq_true rfl, Nat.le_of_ble_eq_true rfl⟩ ⟨Nat.le_refl _, Nat.le_refl _⟩ rfl hl.1 rfl (Nat.le_of_ble_eq_true rfl) dX8_left_33 (fun q5 H5 L5 hf hw => ?_)
      refine h_last hf hx hb hX hw dX8_left_36 (fun u6 H6 L6 hf hw => ?_)
      refine h_iinc (k := 2) hf hx hb dX8_left_37 hl rfl (by decide) (by decide) (fun x7 ls hf hl => ?_)
      have hl : lv_has ls 3 [(2, .int x7), (0, .ref (B + c0)), (1, .int c1)] := hl
      refine lv_goto (tgt := 15) hx hb dX8_left_40 (by decide) ?_
      exact ih x7 u6 _ _ _ hf hw (lv_sub hl [1, 2, 0] rfl)
set_option maxRecDepth 100000 in
set_option maxHeartbeats 4000000 in
theorem wX8_left {a0 : Nat} {p1 : Int32} {u0 : hM} {z : Int32 × hM} {ls : Array Slot} (hΓ : h_Γ E B T p s m args meth c cX8_left 3 (some .int) RX8) (hf : fX8_left T a0 p1 u0 = some z) (hw : h_W E B T s.heap u0 s.heap []) (hl : lv_has ls 3 [(0, .ref (B + a0)), (1, .int p1)]) : W p l e (h_rm 42) s m args below meth c s.heap [] 0 0 (h_Qi below E B T args s z) (F0 m 0 ls []) := by
  obtain ⟨hx, hb, hr, hml, hts, hown, hlk, hX⟩ := id hΓ
  unfold fX8_left at hf
  refine lv_iload_n hx hb dX8_left_0 rfl (lv_at hl 1 rfl) ?_
  refine lv_iconst (v := 1) hx hb dX8_left_1 (by decide) ?_
  refine lv_bipush (v := 100) hx hb dX8_left_2 (by decide) ?_
  refine h_cSi (As := [.int p1, .int (1 : Int32), .int (100 : Int32)]) (rest := []) hf hx hb hml hts hown hX hw myX8_isWithin msX8_isWithin lkX8_91 (fun q hq => c_X8_isWithin l E B T p1 (1 : Int32) (100 : Int32) u0 hq) ⟨Nat.le_of_ble_eq_true rfl, Nat.le_of_ble_eq_true rfl⟩ ⟨Nat.le_refl _, Nat.le_refl _⟩ rfl hl.1 rfl (Nat.le_of_ble_eq_true rfl) dX8_left_4 (fun q1 H1 L1 hf hw => ?_)
  refine lv_if_ne (tgt := 13) hx hb dX8_left_7 (by decide) (fun hc => ?_) (fun hc => ?_)
  · have hf := ifn hc hf
    refine lv_iconst (v := 0) hx hb dX8_left_13 (by decide) ?_
    refine lv_istore_n (lv' := [(2, .int (0 : Int32)), (0, .ref (B + a0)), (1, .int p1)]) hx hb dX8_left_14 rfl hl (by decide) rfl (fun ls hl => ?_)
    refine wfX8_left_L15 hΓ ?_ 6000 (0 : Int32) q1.2 _ _ _ hf hw (lv_sub hl [1, 2, 0] rfl)
    intro u8 H8 L8 ls hf hw hl
    refine lv_aload_n hx hb dX8_left_43 rfl (lv_at hl 0 rfl) ?_
    refine h_getr hf hx hb hts hown hX hw flX8_58 rfl dX8_left_44 (fun a9 hf => ?_)
    refine lv_aload_n hx hb dX8_left_47 rfl (lv_at hl 0 rfl) ?_
    refine h_getr hf hx hb hts hown hX hw flX8_29 rfl dX8_left_48 (fun a10 hf => ?_)
    refine lv_aload_n hx hb dX8_left_51 rfl (lv_at hl 0 rfl) ?_
    refine h_getr hf hx hb hts hown hX hw flX8_47 rfl dX8_left_52 (fun a11 hf => ?_)
    refine h_geti hf hx hb hts hown hX hw flX8_152 rfl dX8_left_55 (fun x12 hf => ?_)
    refine lv_iload_n hx hb dX8_left_58 rfl (lv_at hl 1 rfl) ?_
    refine h_cVi (As := [.ref (B + a10), .int x12, .int p1]) (rest := []) hf hx hb hml hts hown hX hw myX2_fewestMinutes miX2_fewestMinutes lkX8_262 ⟨rfl, by decide⟩ (fun q hq => c_X2_fewestMinutes l E B T a9 a10 x12 p1 u8 hq) ⟨Nat.le_of_ble_eq_true rfl, Nat.le_of_ble_eq_true rfl⟩ ⟨Nat.le_refl _, Nat.le_refl _⟩ rfl hl.1 rfl (Nat.le_of_ble_eq_true rfl) dX8_left_59 (fun q13 H13 L13 hf hw => ?_)
    exact h_iret hf hx hb hr hlk hw dX8_left_62
  · have hf := ifp hc hf
    refine lv_ldc hx hb hown (hts _ kcX8_95) dX8_left_10 ?_
    exact h_iret hf hx hb hr hlk hw dX8_left_12
theorem c_X8_left (l : Launch) (E : hE) (B : Nat) (T : hT) (a0 : Nat) (p1 : Int32) (u0 : hM) {z : Int32 × hM} (hf : fX8_left T a0 p1 u0 = some z) : h_Ct l E B T yX8_left cX8_left 3 (some .int) 42 [.ref (B + a0), .int p1] u0 z.2 (some (.int z.1)) := h_ofW (by decide) (Nat.le_of_ble_eq_true rfl) (fun p e s m below meth c ls hΓ hl hw => wX8_left hΓ hf hw hl)
def fX7_canPart_L2 (T : hT) (c0 : Nat) (c1 : Int32) (c2 : Int32) (ex : hM → Option (Int32 × hM)) : Nat → Int32 → hM → Option (Int32 × hM)
  | 0, _, _ => none
  | n + 1, v3, u0 => (gti T u0 c0 7 4).bind fun x1 => if x1 ≤ v3 then (ex u0) else ((vc T c0 7 (fX7_isBeyond T c0 v3 c1 u0)).bind fun q2 => (vc T c0 7 (fX7_isBeyond T c0 v3 c2 q2.2)).bind fun q3 => if q2.1 = q3.1 then (lt (v3 + (1 : Int32)) fun x4 => fX7_canPart_L2 T c0 c1 c2 ex n x4 q3.2) else (rtz (1 : Int32) q3.2))
def fX7_canPart (T : hT) (a0 : Nat) (p1 : Int32) (p2 : Int32) (u0 : hM) : Option (Int32 × hM) := fX7_canPart_L2 T a0 p1 p2 (fun (u5 : hM) => rtz (0 : Int32) u5) 6000 (0 : Int32) u0
set_option maxRecDepth 100000 in
set_option maxHeartbeats 4000000 in
theorem wfX7_canPart_L2 {c0 : Nat} {c1 : Int32} {c2 : Int32} {ex : hM → Option (Int32 × hM)} {z : Int32 × hM} (hΓ : h_Γ E B T p s m args meth c cX7_canPart 4 (some .boolean) RX7) (hex : ∀ (u9 : hM) (H9 : Heap) (L9 : List Loc) (ls : Array Slot), ex u9 = some z → h_W E B T s.heap u9 H9 L9 → lv_has ls 4 [] → W p l e (h_rm 2) s m args below meth c H9 L9 0 0 (h_Qi below E B T args s z) (F0 m 33 ls [])) : ∀ (n : Nat) (v3 : Int32) (u0 : hM) (H0 : Heap) (L0 : List Loc) (ls : Array Slot), fX7_canPart_L2 T c0 c1 c2 ex n v3 u0 = some z → h_W E B T s.heap u0 H0 L0 → lv_has ls 4 [(0, .ref (B + c0)), (1, .int c1), (2, .int c2), (3, .int v3)] → W p l e (h_rm 2) s m args below meth c H0 L0 0 0 (h_Qi below E B T args s z) (F0 m 2 ls []) := by
  obtain ⟨hx, hb, hr, hml, hts, hown, hlk, hX⟩ := id hΓ
  intro n
  induction n with
  | zero =>
    intro v3 u0 H0 L0 ls hf hw hl
    exact absurd (show (none : Option (Int32 × hM)) = some z from hf) (fun h => by cases h)
  | succ n ih =>
    intro v3 u0 H0 L0 ls hf hw hl
    rw [fX7_canPart_L2] at hf
    refine lv_iload_n hx hb dX7_canPart_2 rfl (lv_at hl 3 rfl) ?_
    refine lv_aload_n hx hb dX7_canPart_3 rfl (lv_at hl 0 rfl) ?_
    refine h_geti hf hx hb hts hown hX hw flX7_24 rfl dX7_canPart_4 (fun x1 hf => ?_)
    refine lv_icmp_ge (tgt := 33) hx hb dX7_canPart_7 (by decide) (fun hc => ?_) (fun hc => ?_)
    · have hf := ifp hc hf
      exact hex  u0 _ _ _ hf hw (lv_sub hl [] rfl)
    · have hf := ifn hc hf
      refine lv_aload_n hx hb dX7_canPart_10 rfl (lv_at hl 0 rfl) ?_
      refine lv_iload_n hx hb dX7_canPart_11 rfl (lv_at hl 3 rfl) ?_
      refine lv_iload_n hx hb dX7_canPart_12 rfl (lv_at hl 1 rfl) ?_
      refine h_cVi (As := [.int v3, .int c1]) (rest := []) hf hx hb hml hts hown hX hw myX7_isBeyond miX7_isBeyond lkX7_72 ⟨rfl, by decide⟩ (fun q hq => c_X7_isBeyond l E B T c0 v3 c1 u0 hq) ⟨Nat.le_of_ble_eq_true rfl, Nat.le_of_ble_eq_true rfl⟩ ⟨Nat.le_refl _, Nat.le_refl _⟩ rfl hl.1 rfl (Nat.le_of_ble_eq_true rfl) dX7_canPart_13 (fun q2 H2 L2 hf hw => ?_)
      refine lv_aload_n hx hb dX7_canPart_16 rfl (lv_at hl 0 rfl) ?_
      refine lv_iload_n hx hb dX7_canPart_17 rfl (lv_at hl 3 rfl) ?_
      refine lv_iload_n hx hb dX7_canPart_18 rfl (lv_at hl 2 rfl) ?_
      refine h_cVi (As := [.int v3, .int c2]) (rest := [.int q2.1]) hf hx hb hml hts hown hX hw myX7_isBeyond miX7_isBeyond lkX7_72 ⟨rfl, by decide⟩ (fun q hq => c_X7_isBeyond l E B T c0 v3 c2 q2.2 hq) ⟨Nat.le_of_ble_eq_true rfl, Nat.le_of_ble_eq_true rfl⟩ ⟨Nat.le_refl _, Nat.le_refl _⟩ rfl hl.1 rfl (Nat.le_of_ble_eq_true rfl) dX7_canPart_19 (fun q3 H3 L3 hf hw => ?_)
      refine lv_icmp_eq (tgt := 27) hx hb dX7_canPart_22 (by decide) (fun hc => ?_) (fun hc => ?_)
      · have hf := ifp hc hf
        refine h_iinc (k := 3) hf hx hb dX7_canPart_27 hl rfl (by decide) (by decide) (fun x4 ls hf hl => ?_)
        have hl : lv_has ls 4 [(3, .int x4), (0, .ref (B + c0)), (1, .int c1), (2, .int c2)] := hl
        refine lv_goto (tgt := 2) hx hb dX7_canPart_30 (by decide) ?_
        exact ih x4 q3.2 _ _ _ hf hw (lv_sub hl [1, 2, 3, 0] rfl)
      · have hf := ifn hc hf
        refine lv_iconst (v := 1) hx hb dX7_canPart_25 (by decide) ?_
        exact h_zret hf hx hb hr hlk hw dX7_canPart_26
set_option maxRecDepth 100000 in
set_option maxHeartbeats 4000000 in
theorem wX7_canPart {a0 : Nat} {p1 : Int32} {p2 : Int32} {u0 : hM} {z : Int32 × hM} {ls : Array Slot} (hΓ : h_Γ E B T p s m args meth c cX7_canPart 4 (some .boolean) RX7) (hf : fX7_canPart T a0 p1 p2 u0 = some z) (hw : h_W E B T s.heap u0 s.heap []) (hl : lv_has ls 4 [(0, .ref (B + a0)), (1, .int p1), (2, .int p2)]) : W p l e (h_rm 2) s m args below meth c s.heap [] 0 0 (h_Qi below E B T args s z) (F0 m 0 ls []) := by
  obtain ⟨hx, hb, hr, hml, hts, hown, hlk, hX⟩ := id hΓ
  unfold fX7_canPart at hf
  refine lv_iconst (v := 0) hx hb dX7_canPart_0 (by decide) ?_
  refine lv_istore_n (lv' := [(3, .int (0 : Int32)), (0, .ref (B + a0)), (1, .int p1), (2, .int p2)]) hx hb dX7_canPart_1 rfl hl (by decide) rfl (fun ls hl => ?_)
  refine wfX7_canPart_L2 hΓ ?_ 6000 (0 : Int32) u0 _ _ _ hf hw (lv_sub hl [1, 2, 3, 0] rfl)
  intro u5 H5 L5 ls hf hw hl
  refine lv_iconst (v := 0) hx hb dX7_canPart_33 (by decide) ?_
  exact h_zret hf hx hb hr hlk hw dX7_canPart_34
theorem c_X7_canPart (l : Launch) (E : hE) (B : Nat) (T : hT) (a0 : Nat) (p1 : Int32) (p2 : Int32) (u0 : hM) {z : Int32 × hM} (hf : fX7_canPart T a0 p1 p2 u0 = some z) : h_Ct l E B T yX7_canPart cX7_canPart 4 (some .boolean) 2 [.ref (B + a0), .int p1, .int p2] u0 z.2 (some (.int z.1)) := h_ofW (by decide) (Nat.le_of_ble_eq_true rfl) (fun p e s m below meth c ls hΓ hl hw => wX7_canPart hΓ hf hw hl)
def fX8_alike_L14 (T : hT) (c0 : Nat) (c1 : Int32) (ex : Int32 → hM → Option (Int32 × hM)) : Nat → Int32 → Int32 → hM → Option (Int32 × hM)
  | 0, _, _, _ => none
  | n + 1, v2, v3, u0 => if (16 : Int32) ≤ v3 then (ex v2 u0) else ((gtr T u0 c0 8 3).bind fun a2 => (vc T a2 7 (fX7_canPart T a2 c1 v3 u0)).bind fun q3 => lt (fun (x4 : Int32) (u5 : hM) => lt (v3 + (1 : Int32)) fun x6 => fX8_alike_L14 T c0 c1 ex n x4 x6 u5) fun J38 => if q3.1 = 0 then (lt ((v2 ||| ((1 : Int32) <<< (v3 &&& 31)))) fun x7 => J38 x7 q3.2) else (J38 v2 q3.2))
def fX8_alike (T : hT) (a0 : Nat) (p1 : Int32) (u0 : hM) : Option (Int32 × hM) := (fX8_isType T p1 u0).bind fun q1 => if q1.1 = 0 then (some ((-1000000001 : Int32), q1.2)) else (fX8_alike_L14 T a0 p1 (fun (x8 : Int32) (u9 : hM) => some (x8, u9)) 6000 (0 : Int32) (0 : Int32) q1.2)
set_option maxRecDepth 100000 in
set_option maxHeartbeats 4000000 in
theorem wfX8_alike_L14 {c0 : Nat} {c1 : Int32} {ex : Int32 → hM → Option (Int32 × hM)} {z : Int32 × hM} (hΓ : h_Γ E B T p s m args meth c cX8_alike 4 (some .int) RX8) (hex : ∀ (y2 : Int32) (u9 : hM) (H9 : Heap) (L9 : List Loc) (ls : Array Slot), ex y2 u9 = some z → h_W E B T s.heap u9 H9 L9 → lv_has ls 4 [(2, .int y2)] → W p l e (h_rm 3) s m args below meth c H9 L9 0 0 (h_Qi below E B T args s z) (F0 m 44 ls [])) : ∀ (n : Nat) (v2 : Int32) (v3 : Int32) (u0 : hM) (H0 : Heap) (L0 : List Loc) (ls : Array Slot), fX8_alike_L14 T c0 c1 ex n v2 v3 u0 = some z → h_W E B T s.heap u0 H0 L0 → lv_has ls 4 [(0, .ref (B + c0)), (1, .int c1), (2, .int v2), (3, .int v3)] → W p l e (h_rm 3) s m args below meth c H0 L0 0 0 (h_Qi below E B T args s z) (F0 m 14 ls []) := by
  obtain ⟨hx, hb, hr, hml, hts, hown, hlk, hX⟩ := id hΓ
  intro n
  induction n with
  | zero =>
    intro v2 v3 u0 H0 L0 ls hf hw hl
    exact absurd (show (none : Option (Int32 × hM)) = some z from hf) (fun h => by cases h)
  | succ n ih =>
    intro v2 v3 u0 H0 L0 ls hf hw hl
    rw [fX8_alike_L14] at hf
    refine lv_iload_n hx hb dX8_alike_14 rfl (lv_at hl 3 rfl) ?_
    refine lv_bipush (v := 16) hx hb dX8_alike_15 (by decide) ?_
    refine lv_icmp_ge (tgt := 44) hx hb dX8_alike_17 (by decide) (fun hc => ?_) (fun hc => ?_)
    · have hf := ifp hc hf
      exact hex v2 u0 _ _ _ hf hw (lv_sub hl [2] rfl)
    · have hf := ifn hc hf
      refine lv_aload_n hx hb dX8_alike_20 rfl (lv_at hl 0 rfl) ?_
      refine h_getr hf hx hb hts hown hX hw flX8_29 rfl dX8_alike_21 (fun a2 hf => ?_)
      refine lv_iload_n hx hb dX8_alike_24 rfl (lv_at hl 1 rfl) ?_
      refine lv_iload_n hx hb dX8_alike_25 rfl (lv_at hl 3 rfl) ?_
      refine h_cVi (As := [.int c1, .int v3]) (rest := []) hf hx hb hml hts hown hX hw myX7_canPart miX7_canPart lkX8_266 ⟨rfl, by decide⟩ (fun q hq => c_X7_canPart l E B T a2 c1 v3 u0 hq) ⟨Nat.le_of_ble_eq_true rfl, Nat.le_of_ble_eq_true rfl⟩ ⟨Nat.le_refl _, Nat.le_refl _⟩ rfl hl.1 rfl (Nat.le_of_ble_eq_true rfl) dX8_alike_26 (fun q3 H3 L3 hf hw => ?_)
      obtain ⟨J38, eJ38, hf⟩ := h_lt hf
      have hJ38 : ∀ (x4 : Int32) (u5 : hM) (H5 : Heap) (L5 : List Loc) (ls : Array Slot), J38 x4 u5 = some z → h_W E B T s.heap u5 H5 L5 → lv_has ls 4 [(0, .ref (B + c0)), (1, .int c1), (2, .int x4), (3, .int v3)] → W p l e (h_rm 3) s m args below meth c H5 L5 0 0 (h_Qi below E B T args s z) (F0 m 38 ls []) := by
        intro x4 u5 H5 L5 ls hf hw hl
        rw [eJ38] at hf
        refine h_iinc (k := 3) hf hx hb dX8_alike_38 hl rfl (by decide) (by decide) (fun x6 ls hf hl => ?_)
        have hl : lv_has ls 4 [(3, .int x6), (0, .ref (B + c0)), (1, .int c1), (2, .int x4)] := hl
        refine lv_goto (tgt := 14) hx hb dX8_alike_41 (by decide) ?_
        exact ih x4 x6 u5 _ _ _ hf hw (lv_sub hl [1, 2, 3, 0] rfl)
      clear eJ38
      refine lv_if_ne (tgt := 38) hx hb dX8_alike_29 (by decide) (fun hc => ?_) (fun hc => ?_)
      · have hf := ifn hc hf
        exact hJ38 v2 q3.2 _ _ _ hf hw (lv_sub hl [0, 1, 2, 3] rfl)
      · have hf := ifp hc hf
        refine lv_iload_n hx hb dX8_alike_32 rfl (lv_at hl 2 rfl) ?_
        refine lv_iconst (v := 1) hx hb dX8_alike_33 (by decide) ?_
        refine lv_iload_n hx hb dX8_alike_34 rfl (lv_at hl 3 rfl) ?_
        refine lv_ishl hx hb dX8_alike_35 ?_
        refine lv_ior hx hb dX8_alike_36 ?_
        refine h_nmi hf (fun x7 hf => ?_)
        refine lv_istore_n (lv' := [(2, .int x7), (0, .ref (B + c0)), (1, .int c1), (3, .int v3)]) hx hb dX8_alike_37 rfl hl (by decide) rfl (fun ls hl => ?_)
        exact hJ38 x7 q3.2 _ _ _ hf hw (lv_sub hl [1, 2, 0, 3] rfl)
set_option maxRecDepth 100000 in
set_option maxHeartbeats 4000000 in
theorem wX8_alike {a0 : Nat} {p1 : Int32} {u0 : hM} {z : Int32 × hM} {ls : Array Slot} (hΓ : h_Γ E B T p s m args meth c cX8_alike 4 (some .int) RX8) (hf : fX8_alike T a0 p1 u0 = some z) (hw : h_W E B T s.heap u0 s.heap []) (hl : lv_has ls 4 [(0, .ref (B + a0)), (1, .int p1)]) : W p l e (h_rm 3) s m args below meth c s.heap [] 0 0 (h_Qi below E B T args s z) (F0 m 0 ls []) := by
  obtain ⟨hx, hb, hr, hml, hts, hown, hlk, hX⟩ := id hΓ
  unfold fX8_alike at hf
  refine lv_iload_n hx hb dX8_alike_0 rfl (lv_at hl 1 rfl) ?_
  refine h_cSi (As := [.int p1]) (rest := []) hf hx hb hml hts hown hX hw myX8_isType msX8_isType lkX8_234 (fun q hq => c_X8_isType l E B T p1 u0 hq) ⟨Nat.le_of_ble_eq_true rfl, Nat.le_of_ble_eq_true rfl⟩ ⟨Nat.le_refl _, Nat.le_refl _⟩ rfl hl.1 rfl (Nat.le_of_ble_eq_true rfl) dX8_alike_1 (fun q1 H1 L1 hf hw => ?_)
  refine lv_if_ne (tgt := 10) hx hb dX8_alike_4 (by decide) (fun hc => ?_) (fun hc => ?_)
  · have hf := ifn hc hf
    refine lv_iconst (v := 0) hx hb dX8_alike_10 (by decide) ?_
    refine lv_istore_n (lv' := [(2, .int (0 : Int32)), (0, .ref (B + a0)), (1, .int p1)]) hx hb dX8_alike_11 rfl hl (by decide) rfl (fun ls hl => ?_)
    refine lv_iconst (v := 0) hx hb dX8_alike_12 (by decide) ?_
    refine lv_istore_n (lv' := [(3, .int (0 : Int32)), (2, .int (0 : Int32)), (0, .ref (B + a0)), (1, .int p1)]) hx hb dX8_alike_13 rfl hl (by decide) rfl (fun ls hl => ?_)
    refine wfX8_alike_L14 hΓ ?_ 6000 (0 : Int32) (0 : Int32) q1.2 _ _ _ hf hw (lv_sub hl [2, 3, 1, 0] rfl)
    intro x8 u9 H9 L9 ls hf hw hl
    refine lv_iload_n hx hb dX8_alike_44 rfl (lv_at hl 0 rfl) ?_
    exact h_iret hf hx hb hr hlk hw dX8_alike_45
  · have hf := ifp hc hf
    refine lv_ldc hx hb hown (hts _ kcX8_158) dX8_alike_7 ?_
    exact h_iret hf hx hb hr hlk hw dX8_alike_9
theorem c_X8_alike (l : Launch) (E : hE) (B : Nat) (T : hT) (a0 : Nat) (p1 : Int32) (u0 : hM) {z : Int32 × hM} (hf : fX8_alike T a0 p1 u0 = some z) : h_Ct l E B T yX8_alike cX8_alike 4 (some .int) 3 [.ref (B + a0), .int p1] u0 z.2 (some (.int z.1)) := h_ofW (by decide) (Nat.le_of_ble_eq_true rfl) (fun p e s m below meth c ls hΓ hl hw => wX8_alike hΓ hf hw hl)
def fX3_learn (T : hT) (a0 : Nat) (p1 : Int32) (u0 : hM) : Option (hM) := if p1 = 0 then ((gti T u0 a0 3 1).bind fun x13 => (gti T u0 a0 3 1).bind fun x14 => (pti T u0 a0 3 1 (if (0 : Int32) < (x13 - ((x14 / (4 : Int32)) + (1 : Int32))) then (x13 - ((x14 / (4 : Int32)) + (1 : Int32))) else (0 : Int32))).bind fun u15 => some u15) else (if p1 = (1 : Int32) then ((gti T u0 a0 3 2).bind fun x7 => (gti T u0 a0 3 2).bind fun x8 => (pti T u0 a0 3 2 (x7 - (x8 / (3 : Int32)))).bind fun u9 => (gti T u9 a0 3 3).bind fun x10 => (gti T u9 a0 3 3).bind fun x11 => (pti T u9 a0 3 3 (x10 - (x11 / (3 : Int32)))).bind fun u12 => some u12) else (if p1 = (2 : Int32) then ((gti T u0 a0 3 4).bind fun x5 => (pti T u0 a0 3 4 (if (x5 + (2 : Int32)) < (40 : Int32) then (x5 + (2 : Int32)) else (40 : Int32))).bind fun u6 => some u6) else ((gti T u0 a0 3 6).bind fun x1 => (pti T u0 a0 3 6 (if (x1 + (1 : Int32)) < (36 : Int32) then (x1 + (1 : Int32)) else (36 : Int32))).bind fun u2 => (gti T u2 a0 3 5).bind fun x3 => (pti T u2 a0 3 5 (if (0 : Int32) < (x3 - (1 : Int32)) then (x3 - (1 : Int32)) else (0 : Int32))).bind fun u4 => some u4)))
set_option maxRecDepth 100000 in
set_option maxHeartbeats 4000000 in
theorem wX3_learn {a0 : Nat} {p1 : Int32} {u0 : hM} {z : hM} {ls : Array Slot} (hΓ : h_Γ E B T p s m args meth c cX3_learn 2 none RX3) (hf : fX3_learn T a0 p1 u0 = some z) (hw : h_W E B T s.heap u0 s.heap []) (hl : lv_has ls 2 [(0, .ref (B + a0)), (1, .int p1)]) : W p l e (h_rm 1) s m args below meth c s.heap [] 0 0 (h_Qv below E B T args s z) (F0 m 0 ls []) := by
  obtain ⟨hx, hb, hr, hml, hts, hown, hlk, hX⟩ := id hΓ
  unfold fX3_learn at hf
  refine lv_iload_n hx hb dX3_learn_0 rfl (lv_at hl 1 rfl) ?_
  refine lv_if_ne (tgt := 28) hx hb dX3_learn_1 (by decide) (fun hc => ?_) (fun hc => ?_)
  · have hf := ifn hc hf
    refine lv_iload_n hx hb dX3_learn_28 rfl (lv_at hl 1 rfl) ?_
    refine lv_iconst (v := 1) hx hb dX3_learn_29 (by decide) ?_
    refine lv_icmp_ne (tgt := 66) hx hb dX3_learn_30 (by decide) (fun hc => ?_) (fun hc => ?_)
    · have hf := ifn hc hf
      refine lv_iload_n hx hb dX3_learn_66 rfl (lv_at hl 1 rfl) ?_
      refine lv_iconst (v := 2) hx hb dX3_learn_67 (by decide) ?_
      refine lv_icmp_ne (tgt := 89) hx hb dX3_learn_68 (by decide) (fun hc => ?_) (fun hc => ?_)
      · have hf := ifn hc hf
        refine lv_aload_n hx hb dX3_learn_89 rfl (lv_at hl 0 rfl) ?_
        refine lv_bipush (v := 36) hx hb dX3_learn_90 (by decide) ?_
        refine lv_aload_n hx hb dX3_learn_92 rfl (lv_at hl 0 rfl) ?_
        refine h_geti hf hx hb hts hown hX hw flX3_30 rfl dX3_learn_93 (fun x1 hf => ?_)
        refine lv_iconst (v := 1) hx hb dX3_learn_96 (by decide) ?_
        refine lv_iadd hx hb dX3_learn_97 ?_
        refine h_mmin (rest := [.ref (B + a0)]) hx hb hml hl.1 hts hown lkX3_61 ⟨Nat.le_of_ble_eq_true rfl, Nat.le_of_ble_eq_true rfl⟩ ⟨Nat.le_refl _, Nat.le_refl _⟩ dX3_learn_98 ?_
        refine h_puti hf hx hb hts hown hX hw flX3_30 ⟨rfl, rfl⟩ dX3_learn_101 (fun u2 H2 L2 hf hw => ?_)
        refine lv_aload_n hx hb dX3_learn_104 rfl (lv_at hl 0 rfl) ?_
        refine lv_iconst (v := 0) hx hb dX3_learn_105 (by decide) ?_
        refine lv_aload_n hx hb dX3_learn_106 rfl (lv_at hl 0 rfl) ?_
        refine h_geti hf hx hb hts hown hX hw flX3_27 rfl dX3_learn_107 (fun x3 hf => ?_)
        refine lv_iconst (v := 1) hx hb dX3_learn_110 (by decide) ?_
        refine lv_isub hx hb dX3_learn_111 ?_
        refine h_mmax (rest := [.ref (B + a0)]) hx hb hml hl.1 hts hown lkX3_56 ⟨Nat.le_of_ble_eq_true rfl, Nat.le_of_ble_eq_true rfl⟩ ⟨Nat.le_refl _, Nat.le_refl _⟩ dX3_learn_112 ?_
        refine h_puti hf hx hb hts hown hX hw flX3_27 ⟨rfl, rfl⟩ dX3_learn_115 (fun u4 H4 L4 hf hw => ?_)
        exact h_vret hf hx hb hr hlk hw dX3_learn_118
      · have hf := ifp hc hf
        refine lv_aload_n hx hb dX3_learn_71 rfl (lv_at hl 0 rfl) ?_
        refine lv_bipush (v := 40) hx hb dX3_learn_72 (by decide) ?_
        refine lv_aload_n hx hb dX3_learn_74 rfl (lv_at hl 0 rfl) ?_
        refine h_geti hf hx hb hts hown hX hw flX3_24 rfl dX3_learn_75 (fun x5 hf => ?_)
        refine lv_iconst (v := 2) hx hb dX3_learn_78 (by decide) ?_
        refine lv_iadd hx hb dX3_learn_79 ?_
        refine h_mmin (rest := [.ref (B + a0)]) hx hb hml hl.1 hts hown lkX3_61 ⟨Nat.le_of_ble_eq_true rfl, Nat.le_of_ble_eq_true rfl⟩ ⟨Nat.le_refl _, Nat.le_refl _⟩ dX3_learn_80 ?_
        refine h_puti hf hx hb hts hown hX hw flX3_24 ⟨rfl, rfl⟩ dX3_learn_83 (fun u6 H6 L6 hf hw => ?_)
        refine lv_goto (tgt := 118) hx hb dX3_learn_86 (by decide) ?_
        exact h_vret hf hx hb hr hlk hw dX3_learn_118
    · have hf := ifp hc hf
      refine lv_aload_n hx hb dX3_learn_33 rfl (lv_at hl 0 rfl) ?_
      refine lv_dup hx hb dX3_learn_34 rfl ?_
      refine h_geti hf hx hb hts hown hX hw flX3_18 rfl dX3_learn_35 (fun x7 hf => ?_)
      refine lv_aload_n hx hb dX3_learn_38 rfl (lv_at hl 0 rfl) ?_
      refine h_geti hf hx hb hts hown hX hw flX3_18 rfl dX3_learn_39 (fun x8 hf => ?_)
      refine lv_iconst (v := 3) hx hb dX3_learn_42 (by decide) ?_
      refine lv_idiv hx hb dX3_learn_43 (by decide) ?_
      refine lv_isub hx hb dX3_learn_44 ?_
      refine h_puti hf hx hb hts hown hX hw flX3_18 ⟨rfl, rfl⟩ dX3_learn_45 (fun u9 H9 L9 hf hw => ?_)
      refine lv_aload_n hx hb dX3_learn_48 rfl (lv_at hl 0 rfl) ?_
      refine lv_dup hx hb dX3_learn_49 rfl ?_
      refine h_geti hf hx hb hts hown hX hw flX3_21 rfl dX3_learn_50 (fun x10 hf => ?_)
      refine lv_aload_n hx hb dX3_learn_53 rfl (lv_at hl 0 rfl) ?_
      refine h_geti hf hx hb hts hown hX hw flX3_21 rfl dX3_learn_54 (fun x11 hf => ?_)
      refine lv_iconst (v := 3) hx hb dX3_learn_57 (by decide) ?_
      refine lv_idiv hx hb dX3_learn_58 (by decide) ?_
      refine lv_isub hx hb dX3_learn_59 ?_
      refine h_puti hf hx hb hts hown hX hw flX3_21 ⟨rfl, rfl⟩ dX3_learn_60 (fun u12 H12 L12 hf hw => ?_)
      refine lv_goto (tgt := 118) hx hb dX3_learn_63 (by decide) ?_
      exact h_vret hf hx hb hr hlk hw dX3_learn_118
  · have hf := ifp hc hf
    refine lv_aload_n hx hb dX3_learn_4 rfl (lv_at hl 0 rfl) ?_
    refine lv_iconst (v := 0) hx hb dX3_learn_5 (by decide) ?_
    refine lv_aload_n hx hb dX3_learn_6 rfl (lv_at hl 0 rfl) ?_
    refine h_geti hf hx hb hts hown hX hw flX3_15 rfl dX3_learn_7 (fun x13 hf => ?_)
    refine lv_aload_n hx hb dX3_learn_10 rfl (lv_at hl 0 rfl) ?_
    refine h_geti hf hx hb hts hown hX hw flX3_15 rfl dX3_learn_11 (fun x14 hf => ?_)
    refine lv_iconst (v := 4) hx hb dX3_learn_14 (by decide) ?_
    refine lv_idiv hx hb dX3_learn_15 (by decide) ?_
    refine lv_iconst (v := 1) hx hb dX3_learn_16 (by decide) ?_
    refine lv_iadd hx hb dX3_learn_17 ?_
    refine lv_isub hx hb dX3_learn_18 ?_
    refine h_mmax (rest := [.ref (B + a0)]) hx hb hml hl.1 hts hown lkX3_56 ⟨Nat.le_of_ble_eq_true rfl, Nat.le_of_ble_eq_true rfl⟩ ⟨Nat.le_refl _, Nat.le_refl _⟩ dX3_learn_19 ?_
    refine h_puti hf hx hb hts hown hX hw flX3_15 ⟨rfl, rfl⟩ dX3_learn_22 (fun u15 H15 L15 hf hw => ?_)
    refine lv_goto (tgt := 118) hx hb dX3_learn_25 (by decide) ?_
    exact h_vret hf hx hb hr hlk hw dX3_learn_118
theorem c_X3_learn (l : Launch) (E : hE) (B : Nat) (T : hT) (a0 : Nat) (p1 : Int32) (u0 : hM) {z : hM} (hf : fX3_learn T a0 p1 u0 = some z) : h_Ct l E B T yX3_learn cX3_learn 2 none 1 [.ref (B + a0), .int p1] u0 z none := h_ofW (by decide) (Nat.le_of_ble_eq_true rfl) (fun p e s m below meth c ls hΓ hl hw => wX3_learn hΓ hf hw hl)
def fX8_plainPoints (T : hT) (a0 : Nat) (r1 : Nat) (u0 : hM) : Option (Int32 × hM) := (gtr T u0 a0 8 12).bind fun a1 => (vc T a0 8 (fX8_singInto T a0 a1 r1 (3 : Int32) u0)).bind fun q2 => (gtr T q2 a0 8 12).bind fun a3 => (gtr T q2 a0 8 1).bind fun a4 => (vc T a3 4 (fX4_points T a3 (0 : Int32) a4 q2)).bind fun q5 => (gtr T q5.2 a0 8 12).bind fun a6 => (gtr T q5.2 a0 8 1).bind fun a7 => (vc T a6 4 (fX4_points T a6 (1 : Int32) a7 q5.2)).bind fun q8 => some ((q5.1 + q8.1), q8.2)
set_option maxRecDepth 100000 in
set_option maxHeartbeats 4000000 in
theorem wX8_plainPoints {a0 : Nat} {r1 : Nat} {u0 : hM} {z : Int32 × hM} {ls : Array Slot} (hΓ : h_Γ E B T p s m args meth c cX8_plainPoints 2 (some .int) RX8) (hf : fX8_plainPoints T a0 r1 u0 = some z) (hw : h_W E B T s.heap u0 s.heap []) (hl : lv_has ls 2 [(0, .ref (B + a0)), (1, .ref (B + r1))]) : W p l e (h_rm 5) s m args below meth c s.heap [] 0 0 (h_Qi below E B T args s z) (F0 m 0 ls []) := by
  obtain ⟨hx, hb, hr, hml, hts, hown, hlk, hX⟩ := id hΓ
  unfold fX8_plainPoints at hf
  refine lv_aload_n hx hb dX8_plainPoints_0 rfl (lv_at hl 0 rfl) ?_
  refine lv_aload_n hx hb dX8_plainPoints_1 rfl (lv_at hl 0 rfl) ?_
  refine h_getr hf hx hb hts hown hX hw flX8_80 rfl dX8_plainPoints_2 (fun a1 hf => ?_)
  refine lv_aload_n hx hb dX8_plainPoints_5 rfl (lv_at hl 1 rfl) ?_
  refine lv_iconst (v := 3) hx hb dX8_plainPoints_6 (by decide) ?_
  refine h_cVv (As := [.ref (B + a1), .ref (B + r1), .int (3 : Int32)]) (rest := []) hf hx hb hml hts hown hX hw myX8_singInto miX8_singInto lkX8_208 ⟨rfl, by decide⟩ (fun q hq => c_X8_singInto l E B T a0 a1 r1 (3 : Int32) u0 hq) ⟨Nat.le_of_ble_eq_true rfl, Nat.le_of_ble_eq_true rfl⟩ ⟨Nat.le_refl _, Nat.le_refl _⟩ rfl hl.1 rfl (Nat.le_of_ble_eq_true rfl) dX8_plainPoints_7 (fun q2 H2 L2 hf hw => ?_)
  refine lv_aload_n hx hb dX8_plainPoints_10 rfl (lv_at hl 0 rfl) ?_
  refine h_getr hf hx hb hts hown hX hw flX8_80 rfl dX8_plainPoints_11 (fun a3 hf => ?_)
  refine lv_iconst (v := 0) hx hb dX8_plainPoints_14 (by decide) ?_
  refine lv_aload_n hx hb dX8_plainPoints_15 rfl (lv_at hl 0 rfl) ?_
  refine h_getr hf hx hb hts hown hX hw flX8_19 rfl dX8_plainPoints_16 (fun a4 hf => ?_)
  refine h_cVi (As := [.int (0 : Int32), .ref (B + a4)]) (rest := []) hf hx hb hml hts hown hX hw myX4_points miX4_points lkX8_212 ⟨rfl, by decide⟩ (fun q hq => c_X4_points l E B T a3 (0 : Int32) a4 q2 hq) ⟨Nat.le_of_ble_eq_true rfl, Nat.le_of_ble_eq_true rfl⟩ ⟨Nat.le_refl _, Nat.le_refl _⟩ rfl hl.1 rfl (Nat.le_of_ble_eq_true rfl) dX8_plainPoints_19 (fun q5 H5 L5 hf hw => ?_)
  refine lv_aload_n hx hb dX8_plainPoints_22 rfl (lv_at hl 0 rfl) ?_
  refine h_getr hf hx hb hts hown hX hw flX8_80 rfl dX8_plainPoints_23 (fun a6 hf => ?_)
  refine lv_iconst (v := 1) hx hb dX8_plainPoints_26 (by decide) ?_
  refine lv_aload_n hx hb dX8_plainPoints_27 rfl (lv_at hl 0 rfl) ?_
  refine h_getr hf hx hb hts hown hX hw flX8_19 rfl dX8_plainPoints_28 (fun a7 hf => ?_)
  refine h_cVi (As := [.int (1 : Int32), .ref (B + a7)]) (rest := [.int q5.1]) hf hx hb hml hts hown hX hw myX4_points miX4_points lkX8_212 ⟨rfl, by decide⟩ (fun q hq => c_X4_points l E B T a6 (1 : Int32) a7 q5.2 hq) ⟨Nat.le_of_ble_eq_true rfl, Nat.le_of_ble_eq_true rfl⟩ ⟨Nat.le_refl _, Nat.le_refl _⟩ rfl hl.1 rfl (Nat.le_of_ble_eq_true rfl) dX8_plainPoints_31 (fun q8 H8 L8 hf hw => ?_)
  refine lv_iadd hx hb dX8_plainPoints_34 ?_
  exact h_iret hf hx hb hr hlk hw dX8_plainPoints_35
theorem c_X8_plainPoints (l : Launch) (E : hE) (B : Nat) (T : hT) (a0 : Nat) (r1 : Nat) (u0 : hM) {z : Int32 × hM} (hf : fX8_plainPoints T a0 r1 u0 = some z) : h_Ct l E B T yX8_plainPoints cX8_plainPoints 2 (some .int) 5 [.ref (B + a0), .ref (B + r1)] u0 z.2 (some (.int z.1)) := h_ofW (by decide) (Nat.le_of_ble_eq_true rfl) (fun p e s m below meth c ls hΓ hl hw => wX8_plainPoints hΓ hf hw hl)
def fX8_lesson (T : hT) (a0 : Nat) (p1 : Int32) (p2 : Int32) (u0 : hM) : Option (Int32 × hM) := (vc T a0 8 (fX8_isSinger T a0 p1 u0)).bind fun q1 => if q1.1 = 0 then (some ((-1000000001 : Int32), q1.2)) else ((fX8_isWithin T p2 (0 : Int32) (3 : Int32) q1.2).bind fun q2 => if q2.1 = 0 then (some ((-1000000001 : Int32), q2.2)) else ((gtr T q2.2 a0 8 6).bind fun a3 => (gtr T q2.2 a3 5 2).bind fun a4 => (aldr 15 T q2.2 a4 p1).bind fun a5 => (vc T a5 3 (fX3_learn T a5 p2 q2.2)).bind fun q6 => (gtr T q6 a0 8 6).bind fun a7 => (gtr T q6 a7 5 2).bind fun a8 => (aldr 15 T q6 a8 p1).bind fun a9 => (vc T a0 8 (fX8_plainPoints T a0 a9 q6)).bind fun q10 => some (q10.1, q10.2)))
set_option maxRecDepth 100000 in
set_option maxHeartbeats 4000000 in
theorem wX8_lesson {a0 : Nat} {p1 : Int32} {p2 : Int32} {u0 : hM} {z : Int32 × hM} {ls : Array Slot} (hΓ : h_Γ E B T p s m args meth c cX8_lesson 3 (some .int) RX8) (hf : fX8_lesson T a0 p1 p2 u0 = some z) (hw : h_W E B T s.heap u0 s.heap []) (hl : lv_has ls 3 [(0, .ref (B + a0)), (1, .int p1), (2, .int p2)]) : W p l e (h_rm 6) s m args below meth c s.heap [] 0 0 (h_Qi below E B T args s z) (F0 m 0 ls []) := by
  obtain ⟨hx, hb, hr, hml, hts, hown, hlk, hX⟩ := id hΓ
  unfold fX8_lesson at hf
  refine lv_aload_n hx hb dX8_lesson_0 rfl (lv_at hl 0 rfl) ?_
  refine lv_iload_n hx hb dX8_lesson_1 rfl (lv_at hl 1 rfl) ?_
  refine h_cVi (As := [.int p1]) (rest := []) hf hx hb hml hts hown hX hw myX8_isSinger miX8_isSinger lkX8_165 ⟨rfl, by decide⟩ (fun q hq => c_X8_isSinger l E B T a0 p1 u0 hq) ⟨Nat.le_of_ble_eq_true rfl, Nat.le_of_ble_eq_true rfl⟩ ⟨Nat.le_refl _, Nat.le_refl _⟩ rfl hl.1 rfl (Nat.le_of_ble_eq_true rfl) dX8_lesson_2 (fun q1 H1 L1 hf hw => ?_)
  refine lv_if_eq (tgt := 17) hx hb dX8_lesson_5 (by decide) (fun hc => ?_) (fun hc => ?_)
  · have hf := ifp hc hf
    refine lv_ldc hx hb hown (hts _ kcX8_158) dX8_lesson_17 ?_
    exact h_iret hf hx hb hr hlk hw dX8_lesson_19
  · have hf := ifn hc hf
    refine lv_iload_n hx hb dX8_lesson_8 rfl (lv_at hl 2 rfl) ?_
    refine lv_iconst (v := 0) hx hb dX8_lesson_9 (by decide) ?_
    refine lv_iconst (v := 3) hx hb dX8_lesson_10 (by decide) ?_
    refine h_cSi (As := [.int p2, .int (0 : Int32), .int (3 : Int32)]) (rest := []) hf hx hb hml hts hown hX hw myX8_isWithin msX8_isWithin lkX8_91 (fun q hq => c_X8_isWithin l E B T p2 (0 : Int32) (3 : Int32) q1.2 hq) ⟨Nat.le_of_ble_eq_true rfl, Nat.le_of_ble_eq_true rfl⟩ ⟨Nat.le_refl _, Nat.le_refl _⟩ rfl hl.1 rfl (Nat.le_of_ble_eq_true rfl) dX8_lesson_11 (fun q2 H2 L2 hf hw => ?_)
    refine lv_if_ne (tgt := 20) hx hb dX8_lesson_14 (by decide) (fun hc => ?_) (fun hc => ?_)
    · have hf := ifn hc hf
      refine lv_aload_n hx hb dX8_lesson_20 rfl (lv_at hl 0 rfl) ?_
      refine h_getr hf hx hb hts hown hX hw flX8_47 rfl dX8_lesson_21 (fun a3 hf => ?_)
      refine h_getr hf hx hb hts hown hX hw flX8_131 rfl dX8_lesson_24 (fun a4 hf => ?_)
      refine lv_iload_n hx hb dX8_lesson_27 rfl (lv_at hl 1 rfl) ?_
      refine h_aald15 hf hx hb hX hw dX8_lesson_28 (fun a5 hf => ?_)
      refine lv_iload_n hx hb dX8_lesson_29 rfl (lv_at hl 2 rfl) ?_
      refine h_cVv (As := [.int p2]) (rest := []) hf hx hb hml hts hown hX hw myX3_learn miX3_learn lkX8_270 ⟨rfl, by decide⟩ (fun q hq => c_X3_learn l E B T a5 p2 q2.2 hq) ⟨Nat.le_of_ble_eq_true rfl, Nat.le_of_ble_eq_true rfl⟩ ⟨Nat.le_refl _, Nat.le_refl _⟩ rfl hl.1 rfl (Nat.le_of_ble_eq_true rfl) dX8_lesson_30 (fun q6 H6 L6 hf hw => ?_)
      refine lv_aload_n hx hb dX8_lesson_33 rfl (lv_at hl 0 rfl) ?_
      refine lv_aload_n hx hb dX8_lesson_34 rfl (lv_at hl 0 rfl) ?_
      refine h_getr hf hx hb hts hown hX hw flX8_47 rfl dX8_lesson_35 (fun a7 hf => ?_)
      refine h_getr hf hx hb hts hown hX hw flX8_131 rfl dX8_lesson_38 (fun a8 hf => ?_)
      refine lv_iload_n hx hb dX8_lesson_41 rfl (lv_at hl 1 rfl) ?_
      refine h_aald15 hf hx hb hX hw dX8_lesson_42 (fun a9 hf => ?_)
      refine h_cVi (As := [.ref (B + a9)]) (rest := []) hf hx hb hml hts hown hX hw myX8_plainPoints miX8_plainPoints lkX8_274 ⟨rfl, by decide⟩ (fun q hq => c_X8_plainPoints l E B T a0 a9 q6 hq) ⟨Nat.le_of_ble_eq_true rfl, Nat.le_of_ble_eq_true rfl⟩ ⟨Nat.le_refl _, Nat.le_refl _⟩ rfl hl.1 rfl (Nat.le_of_ble_eq_true rfl) dX8_lesson_43 (fun q10 H10 L10 hf hw => ?_)
      exact h_iret hf hx hb hr hlk hw dX8_lesson_46
    · have hf := ifp hc hf
      refine lv_ldc hx hb hown (hts _ kcX8_158) dX8_lesson_17 ?_
      exact h_iret hf hx hb hr hlk hw dX8_lesson_19
theorem c_X8_lesson (l : Launch) (E : hE) (B : Nat) (T : hT) (a0 : Nat) (p1 : Int32) (p2 : Int32) (u0 : hM) {z : Int32 × hM} (hf : fX8_lesson T a0 p1 p2 u0 = some z) : h_Ct l E B T yX8_lesson cX8_lesson 3 (some .int) 6 [.ref (B + a0), .int p1, .int p2] u0 z.2 (some (.int z.1)) := h_ofW (by decide) (Nat.le_of_ble_eq_true rfl) (fun p e s m below meth c ls hΓ hl hw => wX8_lesson hΓ hf hw hl)
end GEN
