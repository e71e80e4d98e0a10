section GEN
variable {p : Program} {l : Launch} {e : Env} {s : State} {m : MethodId} {args : Array Value} {below : List Frame} {meth : Method} {c : Code} {E : hE} {B : Nat} {T : hT}
def fX0_changesInTurn_L4 (T : hT) (c0 : Nat) (ex : Int32 → hM → Option (Int32 × hM)) : Nat → Int32 → Int32 → hM → Option (Int32 × hM)
  | 0, _, _, _ => none
  | n + 1, v1, v2, u0 => (gti T u0 c0 0 2).bind fun x1 => if x1 ≤ v2 then (ex v1 u0) else ((gti T u0 c0 0 3).bind fun x2 => (gtr T u0 c0 0 1).bind fun a3 => (ald 11 T u0 a3 v2).bind fun x4 => lt (((x2 - x4) / (2 : Int32))) fun x5 => (gtr T u0 c0 0 1).bind fun a6 => (ald 11 T u0 a6 v2).bind fun x7 => (asti T u0 a6 v2 (x7 + x5)).bind fun u8 => lt (if x5 = 0 then (0 : Int32) else (1 : Int32)) fun x9 => lt ((v1 ||| x9)) fun x10 => lt (v2 + (1 : Int32)) fun x11 => fX0_changesInTurn_L4 T c0 ex n x10 x11 u8)
def fX0_changesInTurn (T : hT) (a0 : Nat) (u0 : hM) : Option (Int32 × hM) := fX0_changesInTurn_L4 T a0 (fun (x12 : Int32) (u13 : hM) => rtz x12 u13) 6000 (0 : Int32) (0 : Int32) u0
set_option maxRecDepth 100000 in
set_option maxHeartbeats 4000000 in
theorem wfX0_changesInTurn_L4 {c0 : Nat} {ex : Int32 → hM → Option (Int32 × hM)} {z : Int32 × hM} (hΓ : h_Γ E B T p s m args meth c cX0_changesInTurn 4 (some .boolean) RX0) (hex : ∀ (y1 : Int32) (u9 : hM) (H9 : Heap) (L9 : List Loc) (ls : Array Slot), ex y1 u9 = some z → h_W E B T s.heap u9 H9 L9 → lv_has ls 4 [(1, .int y1)] → W p l e (h_rm 0) s m args below meth c H9 L9 0 0 (h_Qi below E B T args s z) (F0 m 54 ls [])) : ∀ (n : Nat) (v1 : Int32) (v2 : Int32) (u0 : hM) (H0 : Heap) (L0 : List Loc) (ls : Array Slot), fX0_changesInTurn_L4 T c0 ex n v1 v2 u0 = some z → h_W E B T s.heap u0 H0 L0 → lv_has ls 4 [(0, .ref (B + c0)), (1, .int v1), (2, .int v2)] → W p l e (h_rm 0) s m args below meth c H0 L0 0 0 (h_Qi below E B T args s z) (F0 m 4 ls []) := by
  obtain ⟨hx, hb, hr, hml, hts, hown, hlk, hX⟩ := id hΓ
  intro n
  induction n with
  | zero =>
    intro v1 v2 u0 H0 L0 ls hf hw hl
    exact absurd (show (none : Option (Int32 × hM)) = some z from hf) (fun h => by cases h)
  | succ n ih =>
    intro v1 v2 u0 H0 L0 ls hf hw hl
    rw [fX0_changesInTurn_L4] at hf
    refine lv_iload_n hx hb dX0_changesInTurn_4 rfl (lv_at hl 2 rfl) ?_
    refine lv_aload_n hx hb dX0_changesInTurn_5 rfl (lv_at hl 0 rfl) ?_
    refine h_geti hf hx hb hts hown hX hw flX0_18 rfl dX0_changesInTurn_6 (fun x1 hf => ?_)
    refine lv_icmp_ge (tgt := 54) hx hb dX0_changesInTurn_9 (by decide) (fun hc => ?_) (fun hc => ?_)
    · have hf := ifp hc hf
      exact hex v1 u0 _ _ _ hf hw (lv_sub hl [1] rfl)
    · have hf := ifn hc hf
      refine lv_aload_n hx hb dX0_changesInTurn_12 rfl (lv_at hl 0 rfl) ?_
      refine h_geti hf hx hb hts hown hX hw flX0_22 rfl dX0_changesInTurn_13 (fun x2 hf => ?_)
      refine lv_aload_n hx hb dX0_changesInTurn_16 rfl (lv_at hl 0 rfl) ?_
      refine h_getr hf hx hb hts hown hX hw flX0_15 rfl dX0_changesInTurn_17 (fun a3 hf => ?_)
      refine lv_iload_n hx hb dX0_changesInTurn_20 rfl (lv_at hl 2 rfl) ?_
      refine h_iald hf hx hb hX hw dX0_changesInTurn_21 (fun x4 hf => ?_)
      refine lv_isub hx hb dX0_changesInTurn_22 ?_
      refine lv_iconst (v := 2) hx hb dX0_changesInTurn_23 (by decide) ?_
      refine lv_idiv hx hb dX0_changesInTurn_24 (by decide) ?_
      refine h_nmi hf (fun x5 hf => ?_)
      refine lv_istore_n (lv' := [(3, .int x5), (0, .ref (B + c0)), (1, .int v1), (2, .int v2)]) hx hb dX0_changesInTurn_25 rfl hl (by decide) rfl (fun ls hl => ?_)
      refine lv_aload_n hx hb dX0_changesInTurn_26 rfl (lv_at hl 1 rfl) ?_
      refine h_getr hf hx hb hts hown hX hw flX0_15 rfl dX0_changesInTurn_27 (fun a6 hf => ?_)
      refine lv_iload_n hx hb dX0_changesInTurn_30 rfl (lv_at hl 3 rfl) ?_
      refine lv_dup2_11 hx hb dX0_changesInTurn_31 rfl rfl ?_
      refine h_iald hf hx hb hX hw dX0_changesInTurn_32 (fun x7 hf => ?_)
      refine lv_iload_n hx hb dX0_changesInTurn_33 rfl (lv_at hl 0 rfl) ?_
      refine lv_iadd hx hb dX0_changesInTurn_34 ?_
      refine h_iast hf hx hb hX hw dX0_changesInTurn_35 (fun u8 H8 L8 hf hw => ?_)
      refine lv_iload_n hx hb dX0_changesInTurn_36 rfl (lv_at hl 2 rfl) ?_
      refine lv_iload_n hx hb dX0_changesInTurn_37 rfl (lv_at hl 0 rfl) ?_
      refine h_ite (ls := ls) (jj := 46) (rest := [.int v1]) hf (fun k1 k2 => ?_) (fun x9 hf => ?_)
      · refine lv_if_eq (tgt := 45) hx hb dX0_changesInTurn_38 (by decide) (fun hc => ?_) (fun hc => ?_)
        · refine lv_iconst (v := 0) hx hb dX0_changesInTurn_45 (by decide) ?_
          exact k1 hc
        · refine lv_iconst (v := 1) hx hb dX0_changesInTurn_41 (by decide) ?_
          refine lv_goto (tgt := 46) hx hb dX0_changesInTurn_42 (by decide) ?_
          exact k2 hc
      · refine lv_ior hx hb dX0_changesInTurn_46 ?_
        refine h_nmi hf (fun x10 hf => ?_)
        refine lv_istore_n (lv' := [(1, .int x10), (3, .int x5), (0, .ref (B + c0)), (2, .int v2)]) hx hb dX0_changesInTurn_47 rfl hl (by decide) rfl (fun ls hl => ?_)
        refine h_iinc (k := 3) hf hx hb dX0_changesInTurn_48 hl rfl (by decide) (by decide) (fun x11 ls hf hl => ?_)
        have hl : lv_has ls 4 [(2, .int x11), (1, .int x10), (3, .int x5), (0, .ref (B + c0))] := hl
        refine lv_goto (tgt := 4) hx hb dX0_changesInTurn_51 (by decide) ?_
        exact ih x10 x11 u8 _ _ _ hf hw (lv_sub hl [3, 1, 0] rfl)
set_option maxRecDepth 100000 in
set_option maxHeartbeats 4000000 in
theorem wX0_changesInTurn {a0 : Nat} {u0 : hM} {z : Int32 × hM} {ls : Array Slot} (hΓ : h_Γ E B T p s m args meth c cX0_changesInTurn 4 (some .boolean) RX0) (hf : fX0_changesInTurn T a0 u0 = some z) (hw : h_W E B T s.heap u0 s.heap []) (hl : lv_has ls 4 [(0, .ref (B + a0))]) : W p l e (h_rm 0) s m args below meth c s.heap [] 0 0 (h_Qi below E B T args s z) (F0 m 0 ls []) := by
  obtain ⟨hx, hb, hr, hml, hts, hown, hlk, hX⟩ := id hΓ
  unfold fX0_changesInTurn at hf
  refine lv_iconst (v := 0) hx hb dX0_changesInTurn_0 (by decide) ?_
  refine lv_istore_n (lv' := [(1, .int (0 : Int32)), (0, .ref (B + a0))]) hx hb dX0_changesInTurn_1 rfl hl (by decide) rfl (fun ls hl => ?_)
  refine lv_iconst (v := 0) hx hb dX0_changesInTurn_2 (by decide) ?_
  refine lv_istore_n (lv' := [(2, .int (0 : Int32)), (1, .int (0 : Int32)), (0, .ref (B + a0))]) hx hb dX0_changesInTurn_3 rfl hl (by decide) rfl (fun ls hl => ?_)
  refine wfX0_changesInTurn_L4 hΓ ?_ 6000 (0 : Int32) (0 : Int32) u0 _ _ _ hf hw (lv_sub hl [2, 1, 0] rfl)
  intro x12 u13 H13 L13 ls hf hw hl
  refine lv_iload_n hx hb dX0_changesInTurn_54 rfl (lv_at hl 0 rfl) ?_
  exact h_zret hf hx hb hr hlk hw dX0_changesInTurn_55
theorem c_X0_changesInTurn (l : Launch) (E : hE) (B : Nat) (T : hT) (a0 : Nat) (u0 : hM) {z : Int32 × hM} (hf : fX0_changesInTurn T a0 u0 = some z) : h_Ct l E B T yX0_changesInTurn cX0_changesInTurn 4 (some .boolean) 0 [.ref (B + a0)] u0 z.2 (some (.int z.1)) := h_ofW (by decide) (Nat.le_of_ble_eq_true rfl) (fun p e s m below meth c ls hΓ hl hw => wX0_changesInTurn hΓ hf hw hl)
def fX0_settle_L28 (T : hT) (c0 : Nat) (ex : hM → Option (hM)) : Nat → hM → Option (hM)
  | 0, _ => none
  | n + 1, u0 => (gti T u0 c0 0 4).bind fun x7 => if (5000 : Int32) ≤ x7 then (ex u0) else ((vc T c0 0 (fX0_changesInTurn T c0 u0)).bind fun q8 => if q8.1 = 0 then (ex q8.2) else ((gti T q8.2 c0 0 4).bind fun x9 => (pti T q8.2 c0 0 4 (x9 + (1 : Int32))).bind fun u10 => (vc T c0 0 (fX0_meanOfMoved T c0 u10)).bind fun q11 => (pti T q11.2 c0 0 3 q11.1).bind fun u12 => fX0_settle_L28 T c0 ex n u12))
def fX0_settle (T : hT) (a0 : Nat) (u0 : hM) : Option (hM) := (gtr T u0 a0 0 0).bind fun a1 => (gtr T u0 a0 0 1).bind fun a2 => (acp T u0 a1 (0 : Int32) a2 (0 : Int32) (8 : Int32)).bind fun u3 => (vc T a0 0 (fX0_meanOfMoved T a0 u3)).bind fun q4 => (pti T q4.2 a0 0 3 q4.1).bind fun u5 => (pti T u5 a0 0 4 (0 : Int32)).bind fun u6 => fX0_settle_L28 T a0 (fun (u13 : hM) => some u13) 6000 u6
set_option maxRecDepth 100000 in
set_option maxHeartbeats 4000000 in
theorem wfX0_settle_L28 {c0 : Nat} {ex : hM → Option (hM)} {z : hM} (hΓ : h_Γ E B T p s m args meth c cX0_settle 1 none RX0) (hex : ∀ (u9 : hM) (H9 : Heap) (L9 : List Loc) (ls : Array Slot), ex u9 = some z → h_W E B T s.heap u9 H9 L9 → lv_has ls 1 [] → W p l e (h_rm 1) s m args below meth c H9 L9 0 0 (h_Qv below E B T args s z) (F0 m 66 ls [])) : ∀ (n : Nat) (u0 : hM) (H0 : Heap) (L0 : List Loc) (ls : Array Slot), fX0_settle_L28 T c0 ex n u0 = some z → h_W E B T s.heap u0 H0 L0 → lv_has ls 1 [(0, .ref (B + c0))] → W p l e (h_rm 1) s m args below meth c H0 L0 0 0 (h_Qv below E B T args s z) (F0 m 28 ls []) := by
  obtain ⟨hx, hb, hr, hml, hts, hown, hlk, hX⟩ := id hΓ
  intro n
  induction n with
  | zero =>
    intro u0 H0 L0 ls hf hw hl
    exact absurd (show (none : Option (hM)) = some z from hf) (fun h => by cases h)
  | succ n ih =>
    intro u0 H0 L0 ls hf hw hl
    rw [fX0_settle_L28] at hf
    refine lv_aload_n hx hb dX0_settle_28 rfl (lv_at hl 0 rfl) ?_
    refine h_geti hf hx hb hts hown hX hw flX0_25 rfl dX0_settle_29 (fun x7 hf => ?_)
    refine lv_sipush (v := 5000) hx hb dX0_settle_32 (by decide) ?_
    refine lv_icmp_ge (tgt := 66) hx hb dX0_settle_35 (by decide) (fun hc => ?_) (fun hc => ?_)
    · have hf := ifp hc hf
      exact hex  u0 _ _ _ hf hw (lv_sub hl [] rfl)
    · have hf := ifn hc hf
      refine lv_aload_n hx hb dX0_settle_38 rfl (lv_at hl 0 rfl) ?_
      refine h_cVi (As := []) (rest := []) hf hx hb hml hts hown hX hw myX0_changesInTurn miX0_changesInTurn lkX0_38 ⟨rfl, by decide⟩ (fun q hq => c_X0_changesInTurn l E B T c0 u0 hq) ⟨Nat.le_of_ble_eq_true rfl, Nat.le_of_ble_eq_true rfl⟩ ⟨Nat.le_refl _, Nat.le_refl _⟩ rfl hl.1 rfl (Nat.le_of_ble_eq_true rfl) dX0_settle_39 (fun q8 H8 L8 hf hw => ?_)
      refine lv_if_eq (tgt := 66) hx hb dX0_settle_42 (by decide) (fun hc => ?_) (fun hc => ?_)
      · have hf := ifp hc hf
        exact hex  q8.2 _ _ _ hf hw (lv_sub hl [] rfl)
      · have hf := ifn hc hf
        refine lv_aload_n hx hb dX0_settle_45 rfl (lv_at hl 0 rfl) ?_
        refine lv_dup hx hb dX0_settle_46 rfl ?_
        refine h_geti hf hx hb hts hown hX hw flX0_25 rfl dX0_settle_47 (fun x9 hf => ?_)
        refine lv_iconst (v := 1) hx hb dX0_settle_50 (by decide) ?_
        refine lv_iadd hx hb dX0_settle_51 ?_
        refine h_puti hf hx hb hts hown hX hw flX0_25 ⟨rfl, rfl⟩ dX0_settle_52 (fun u10 H10 L10 hf hw => ?_)
        refine lv_aload_n hx hb dX0_settle_55 rfl (lv_at hl 0 rfl) ?_
        refine lv_aload_n hx hb dX0_settle_56 rfl (lv_at hl 0 rfl) ?_
        refine h_cVi (As := []) (rest := [.ref (B + c0)]) hf hx hb hml hts hown hX hw myX0_meanOfMoved miX0_meanOfMoved lkX0_34 ⟨rfl, by decide⟩ (fun q hq => c_X0_meanOfMoved l E B T c0 u10 hq) ⟨Nat.le_of_ble_eq_true rfl, Nat.le_of_ble_eq_true rfl⟩ ⟨Nat.le_refl _, Nat.le_refl _⟩ rfl hl.1 rfl (Nat.le_of_ble_eq_true rfl) dX0_settle_57 (fun q11 H11 L11 hf hw => ?_)
        refine h_puti hf hx hb hts hown hX hw flX0_22 ⟨rfl, rfl⟩ dX0_settle_60 (fun u12 H12 L12 hf hw => ?_)
        refine lv_goto (tgt := 28) hx hb dX0_settle_63 (by decide) ?_
        exact ih  u12 _ _ _ hf hw (lv_sub hl [0] rfl)
set_option maxRecDepth 100000 in
set_option maxHeartbeats 4000000 in
theorem wX0_settle {a0 : Nat} {u0 : hM} {z : hM} {ls : Array Slot} (hΓ : h_Γ E B T p s m args meth c cX0_settle 1 none RX0) (hf : fX0_settle T a0 u0 = some z) (hw : h_W E B T s.heap u0 s.heap []) (hl : lv_has ls 1 [(0, .ref (B + a0))]) : W p l e (h_rm 1) s m args below meth c s.heap [] 0 0 (h_Qv below E B T args s z) (F0 m 0 ls []) := by
  obtain ⟨hx, hb, hr, hml, hts, hown, hlk, hX⟩ := id hΓ
  unfold fX0_settle at hf
  refine lv_aload_n hx hb dX0_settle_0 rfl (lv_at hl 0 rfl) ?_
  refine h_getr hf hx hb hts hown hX hw flX0_9 rfl dX0_settle_1 (fun a1 hf => ?_)
  refine lv_iconst (v := 0) hx hb dX0_settle_4 (by decide) ?_
  refine lv_aload_n hx hb dX0_settle_5 rfl (lv_at hl 0 rfl) ?_
  refine h_getr hf hx hb hts hown hX hw flX0_15 rfl dX0_settle_6 (fun a2 hf => ?_)
  refine lv_iconst (v := 0) hx hb dX0_settle_9 (by decide) ?_
  refine lv_bipush (v := 8) hx hb dX0_settle_10 (by decide) ?_
  refine h_acp hf hx hb hml hl.1 hts hown hX hw lkX0_28 ⟨Nat.le_of_ble_eq_true rfl, Nat.le_of_ble_eq_true rfl⟩ dX0_settle_12 (fun u3 H3 L3 hf hw => ?_)
  refine lv_aload_n hx hb dX0_settle_15 rfl (lv_at hl 0 rfl) ?_
  refine lv_aload_n hx hb dX0_settle_16 rfl (lv_at hl 0 rfl) ?_
  refine h_cVi (As := []) (rest := [.ref (B + a0)]) hf hx hb hml hts hown hX hw myX0_meanOfMoved miX0_meanOfMoved lkX0_34 ⟨rfl, by decide⟩ (fun q hq => c_X0_meanOfMoved l E B T a0 u3 hq) ⟨Nat.le_of_ble_eq_true rfl, Nat.le_of_ble_eq_true rfl⟩ ⟨Nat.le_refl _, Nat.le_refl _⟩ rfl hl.1 rfl (Nat.le_of_ble_eq_true rfl) dX0_settle_17 (fun q4 H4 L4 hf hw => ?_)
  refine h_puti hf hx hb hts hown hX hw flX0_22 ⟨rfl, rfl⟩ dX0_settle_20 (fun u5 H5 L5 hf hw => ?_)
  refine lv_aload_n hx hb dX0_settle_23 rfl (lv_at hl 0 rfl) ?_
  refine lv_iconst (v := 0) hx hb dX0_settle_24 (by decide) ?_
  refine h_puti hf hx hb hts hown hX hw flX0_25 ⟨rfl, rfl⟩ dX0_settle_25 (fun u6 H6 L6 hf hw => ?_)
  refine wfX0_settle_L28 hΓ ?_ 6000 u6 _ _ _ hf hw (lv_sub hl [0] rfl)
  intro u13 H13 L13 ls hf hw hl
  exact h_vret hf hx hb hr hlk hw dX0_settle_66
theorem c_X0_settle (l : Launch) (E : hE) (B : Nat) (T : hT) (a0 : Nat) (u0 : hM) {z : hM} (hf : fX0_settle T a0 u0 = some z) : h_Ct l E B T yX0_settle cX0_settle 1 none 1 [.ref (B + a0)] u0 z none := h_ofW (by decide) (Nat.le_of_ble_eq_true rfl) (fun p e s m below meth c ls hΓ hl hw => wX0_settle hΓ hf hw hl)
def fX8_ends (T : hT) (a0 : Nat) (p1 : Int32) (u0 : hM) : Option (Int32 × hM) := (fX8_isWithin T p1 (0 : Int32) (1 : Int32) u0).bind fun q1 => if q1.1 = 0 then (some ((-1000000002 : Int32), q1.2)) else ((gtr T q1.2 a0 8 9).bind fun a2 => (gti T q1.2 a2 0 2).bind fun x3 => if x3 = 0 then (some ((-1000000003 : Int32), q1.2)) else ((gtr T q1.2 a0 8 9).bind fun a4 => (vc T a4 0 (fX0_settle T a4 q1.2)).bind fun q5 => if p1 = 0 then ((gtr T q5 a0 8 9).bind fun a8 => (gti T q5 a8 0 3).bind fun x9 => some (x9, q5)) else ((gtr T q5 a0 8 9).bind fun a6 => (gti T q5 a6 0 4).bind fun x7 => some (x7, q5))))
set_option maxRecDepth 100000 in
set_option maxHeartbeats 4000000 in
theorem wX8_ends {a0 : Nat} {p1 : Int32} {u0 : hM} {z : Int32 × hM} {ls : Array Slot} (hΓ : h_Γ E B T p s m args meth c cX8_ends 2 (some .int) RX8) (hf : fX8_ends T a0 p1 u0 = some z) (hw : h_W E B T s.heap u0 s.heap []) (hl : lv_has ls 2 [(0, .ref (B + a0)), (1, .int p1)]) : W p l e (h_rm 2) s m args below meth c s.heap [] 0 0 (h_Qi below E B T args s z) (F0 m 0 ls []) := by
  obtain ⟨hx, hb, hr, hml, hts, hown, hlk, hX⟩ := id hΓ
  unfold fX8_ends at hf
  refine lv_iload_n hx hb dX8_ends_0 rfl (lv_at hl 1 rfl) ?_
  refine lv_iconst (v := 0) hx hb dX8_ends_1 (by decide) ?_
  refine lv_iconst (v := 1) hx hb dX8_ends_2 (by decide) ?_
  refine h_cSi (As := [.int p1, .int (0 : Int32), .int (1 : Int32)]) (rest := []) hf hx hb hml hts hown hX hw myX8_isWithin msX8_isWithin lkX8_91 (fun q hq => c_X8_isWithin l E B T p1 (0 : Int32) (1 : Int32) u0 hq) ⟨Nat.le_of_ble_eq_true rfl, Nat.le_of_ble_eq_true rfl⟩ ⟨Nat.le_refl _, Nat.le_refl _⟩ rfl hl.1 rfl (Nat.le_of_ble_eq_true rfl) dX8_ends_3 (fun q1 H1 L1 hf hw => ?_)
  refine lv_if_ne (tgt := 12) hx hb dX8_ends_6 (by decide) (fun hc => ?_) (fun hc => ?_)
  · have hf := ifn hc hf
    refine lv_aload_n hx hb dX8_ends_12 rfl (lv_at hl 0 rfl) ?_
    refine h_getr hf hx hb hts hown hX hw flX8_65 rfl dX8_ends_13 (fun a2 hf => ?_)
    refine h_geti hf hx hb hts hown hX hw flX8_151 rfl dX8_ends_16 (fun x3 hf => ?_)
    refine lv_if_ne (tgt := 25) hx hb dX8_ends_19 (by decide) (fun hc => ?_) (fun hc => ?_)
    · have hf := ifn hc hf
      refine lv_aload_n hx hb dX8_ends_25 rfl (lv_at hl 0 rfl) ?_
      refine h_getr hf hx hb hts hown hX hw flX8_65 rfl dX8_ends_26 (fun a4 hf => ?_)
      refine h_cVv (As := []) (rest := []) hf hx hb hml hts hown hX hw myX0_settle miX0_settle lkX8_300 ⟨rfl, by decide⟩ (fun q hq => c_X0_settle l E B T a4 q1.2 hq) ⟨Nat.le_of_ble_eq_true rfl, Nat.le_of_ble_eq_true rfl⟩ ⟨Nat.le_refl _, Nat.le_refl _⟩ rfl hl.1 rfl (Nat.le_of_ble_eq_true rfl) dX8_ends_29 (fun q5 H5 L5 hf hw => ?_)
      refine lv_iload_n hx hb dX8_ends_32 rfl (lv_at hl 1 rfl) ?_
      refine lv_if_ne (tgt := 46) hx hb dX8_ends_33 (by decide) (fun hc => ?_) (fun hc => ?_)
      · have hf := ifn hc hf
        refine lv_aload_n hx hb dX8_ends_46 rfl (lv_at hl 0 rfl) ?_
        refine h_getr hf hx hb hts hown hX hw flX8_65 rfl dX8_ends_47 (fun a6 hf => ?_)
        refine h_geti hf hx hb hts hown hX hw flX8_306 rfl dX8_ends_50 (fun x7 hf => ?_)
        exact h_iret hf hx hb hr hlk hw dX8_ends_53
      · have hf := ifp hc hf
        refine lv_aload_n hx hb dX8_ends_36 rfl (lv_at hl 0 rfl) ?_
        refine h_getr hf hx hb hts hown hX hw flX8_65 rfl dX8_ends_37 (fun a8 hf => ?_)
        refine h_geti hf hx hb hts hown hX hw flX8_303 rfl dX8_ends_40 (fun x9 hf => ?_)
        refine lv_goto (tgt := 53) hx hb dX8_ends_43 (by decide) ?_
        exact h_iret hf hx hb hr hlk hw dX8_ends_53
    · have hf := ifp hc hf
      refine lv_ldc hx hb hown (hts _ kcX8_219) dX8_ends_22 ?_
      exact h_iret hf hx hb hr hlk hw dX8_ends_24
  · have hf := ifp hc hf
    refine lv_ldc hx hb hown (hts _ kcX8_95) dX8_ends_9 ?_
    exact h_iret hf hx hb hr hlk hw dX8_ends_11
theorem c_X8_ends (l : Launch) (E : hE) (B : Nat) (T : hT) (a0 : Nat) (p1 : Int32) (u0 : hM) {z : Int32 × hM} (hf : fX8_ends T a0 p1 u0 = some z) : h_Ct l E B T yX8_ends cX8_ends 2 (some .int) 2 [.ref (B + a0), .int p1] u0 z.2 (some (.int z.1)) := h_ofW (by decide) (Nat.le_of_ble_eq_true rfl) (fun p e s m below meth c ls hΓ hl hw => wX8_ends hΓ hf hw hl)
def fX8_round_L46 (T : hT) (c3 : Int32) (ex : Int32 → Int32 → hM → Option (Int32 × hM)) : Nat → Int32 → Int32 → Int32 → hM → Option (Int32 × hM)
  | 0, _, _, _, _ => none
  | n + 1, v5, v6, v7, u0 => if c3 ≤ v7 then (ex v5 v6 u0) else (lt (((v6 - v5) / (3 : Int32))) fun x5 => lt ((v5 + x5)) fun x6 => lt ((v6 - x5)) fun x7 => lt (v7 + (1 : Int32)) fun x8 => fX8_round_L46 T c3 ex n x6 x7 x8 u0)
def fX8_round (T : hT) (a0 : Nat) (p1 : Int32) (p2 : Int32) (p3 : Int32) (p4 : Int32) (u0 : hM) : Option (Int32 × hM) := (fX8_isHome T p1 u0).bind fun q1 => if q1.1 = 0 then (some ((-1000000002 : Int32), q1.2)) else ((fX8_isHome T p2 q1.2).bind fun q2 => if q2.1 = 0 then (some ((-1000000002 : Int32), q2.2)) else ((fX8_isWithin T p3 (0 : Int32) (99 : Int32) q2.2).bind fun q3 => if q3.1 = 0 then (some ((-1000000002 : Int32), q3.2)) else ((fX8_isWithin T p4 (0 : Int32) (1 : Int32) q3.2).bind fun q4 => if q4.1 = 0 then (some ((-1000000002 : Int32), q4.2)) else (fX8_round_L46 T p3 (fun (x9 : Int32) (x10 : Int32) (u11 : hM) => if p4 = 0 then (some (x9, u11)) else (some (x10, u11))) 6000 p1 p2 (0 : Int32) q4.2))))
set_option maxRecDepth 100000 in
set_option maxHeartbeats 4000000 in
theorem wfX8_round_L46 {c3 : Int32} {c4 : Int32} {ex : Int32 → Int32 → hM → Option (Int32 × hM)} {z : Int32 × hM} (hΓ : h_Γ E B T p s m args meth c cX8_round 9 (some .int) RX8) (hex : ∀ (y5 : Int32) (y6 : Int32) (u9 : hM) (H9 : Heap) (L9 : List Loc) (ls : Array Slot), ex y5 y6 u9 = some z → h_W E B T s.heap u9 H9 L9 → lv_has ls 9 [(4, .int c4), (5, .int y5), (6, .int y6)] → W p l e (h_rm 2) s m args below meth c H9 L9 0 0 (h_Qi below E B T args s z) (F0 m 81 ls [])) : ∀ (n : Nat) (v5 : Int32) (v6 : Int32) (v7 : Int32) (u0 : hM) (H0 : Heap) (L0 : List Loc) (ls : Array Slot), fX8_round_L46 T c3 ex n v5 v6 v7 u0 = some z → h_W E B T s.heap u0 H0 L0 → lv_has ls 9 [(3, .int c3), (4, .int c4), (5, .int v5), (6, .int v6), (7, .int v7)] → W p l e (h_rm 2) s m args below meth c H0 L0 0 0 (h_Qi below E B T args s z) (F0 m 46 ls []) := by
  obtain ⟨hx, hb, hr, hml, hts, hown, hlk, hX⟩ := id hΓ
  intro n
  induction n with
  | zero =>
    intro v5 v6 v7 u0 H0 L0 ls hf hw hl
    exact absurd (show (none : Option (Int32 × hM)) = some z from hf) (fun h => by cases h)
  | succ n ih =>
    intro v5 v6 v7 u0 H0 L0 ls hf hw hl
    rw [fX8_round_L46] at hf
    refine lv_iload hx hb dX8_round_46 (lv_at hl 4 rfl) ?_
    refine lv_iload_n hx hb dX8_round_48 rfl (lv_at hl 0 rfl) ?_
    refine lv_icmp_ge (tgt := 81) hx hb dX8_round_49 (by decide) (fun hc => ?_) (fun hc => ?_)
    · have hf := ifp hc hf
      exact hex v5 v6 u0 _ _ _ hf hw (lv_sub hl [1, 2, 3] rfl)
    · have hf := ifn hc hf
      refine lv_iload hx hb dX8_round_52 (lv_at hl 3 rfl) ?_
      refine lv_iload hx hb dX8_round_54 (lv_at hl 2 rfl) ?_
      refine lv_isub hx hb dX8_round_56 ?_
      refine lv_iconst (v := 3) hx hb dX8_round_57 (by decide) ?_
      refine lv_idiv hx hb dX8_round_58 (by decide) ?_
      refine h_nmi hf (fun x5 hf => ?_)
      refine lv_istore (lv' := [(8, .int x5), (3, .int c3), (4, .int c4), (5, .int v5), (6, .int v6), (7, .int v7)]) hx hb dX8_round_59 hl (by decide) rfl (fun ls hl => ?_)
      refine lv_iload hx hb dX8_round_61 (lv_at hl 3 rfl) ?_
      refine lv_iload hx hb dX8_round_63 (lv_at hl 0 rfl) ?_
      refine lv_iadd hx hb dX8_round_65 ?_
      refine h_nmi hf (fun x6 hf => ?_)
      refine lv_istore (lv' := [(5, .int x6), (8, .int x5), (3, .int c3), (4, .int c4), (6, .int v6), (7, .int v7)]) hx hb dX8_round_66 hl (by decide) rfl (fun ls hl => ?_)
      refine lv_iload hx hb dX8_round_68 (lv_at hl 4 rfl) ?_
      refine lv_iload hx hb dX8_round_70 (lv_at hl 1 rfl) ?_
      refine lv_isub hx hb dX8_round_72 ?_
      refine h_nmi hf (fun x7 hf => ?_)
      refine lv_istore (lv' := [(6, .int x7), (5, .int x6), (8, .int x5), (3, .int c3), (4, .int c4), (7, .int v7)]) hx hb dX8_round_73 hl (by decide) rfl (fun ls hl => ?_)
      refine h_iinc (k := 5) hf hx hb dX8_round_75 hl rfl (by decide) (by decide) (fun x8 ls hf hl => ?_)
      have hl : lv_has ls 9 [(7, .int x8), (6, .int x7), (5, .int x6), (8, .int x5), (3, .int c3), (4, .int c4)] := hl
      refine lv_goto (tgt := 46) hx hb dX8_round_78 (by decide) ?_
      exact ih x6 x7 x8 u0 _ _ _ hf hw (lv_sub hl [4, 5, 2, 1, 0] rfl)
set_option maxRecDepth 100000 in
set_option maxHeartbeats 4000000 in
theorem wX8_round {a0 : Nat} {p1 : Int32} {p2 : Int32} {p3 : Int32} {p4 : Int32} {u0 : hM} {z : Int32 × hM} {ls : Array Slot} (hΓ : h_Γ E B T p s m args meth c cX8_round 9 (some .int) RX8) (hf : fX8_round T a0 p1 p2 p3 p4 u0 = some z) (hw : h_W E B T s.heap u0 s.heap []) (hl : lv_has ls 9 [(0, .ref (B + a0)), (1, .int p1), (2, .int p2), (3, .int p3), (4, .int p4)]) : W p l e (h_rm 2) s m args below meth c s.heap [] 0 0 (h_Qi below E B T args s z) (F0 m 0 ls []) := by
  obtain ⟨hx, hb, hr, hml, hts, hown, hlk, hX⟩ := id hΓ
  unfold fX8_round at hf
  refine lv_iload_n hx hb dX8_round_0 rfl (lv_at hl 1 rfl) ?_
  refine h_cSi (As := [.int p1]) (rest := []) hf hx hb hml hts hown hX hw myX8_isHome msX8_isHome lkX8_295 (fun q hq => c_X8_isHome l E B T p1 u0 hq) ⟨Nat.le_of_ble_eq_true rfl, Nat.le_of_ble_eq_true rfl⟩ ⟨Nat.le_refl _, Nat.le_refl _⟩ rfl hl.1 rfl (Nat.le_of_ble_eq_true rfl) dX8_round_1 (fun q1 H1 L1 hf hw => ?_)
  refine lv_if_eq (tgt := 34) hx hb dX8_round_4 (by decide) (fun hc => ?_) (fun hc => ?_)
  · have hf := ifp hc hf
    refine lv_ldc hx hb hown (hts _ kcX8_95) dX8_round_34 ?_
    exact h_iret hf hx hb hr hlk hw dX8_round_36
  · have hf := ifn hc hf
    refine lv_iload_n hx hb dX8_round_7 rfl (lv_at hl 2 rfl) ?_
    refine h_cSi (As := [.int p2]) (rest := []) hf hx hb hml hts hown hX hw myX8_isHome msX8_isHome lkX8_295 (fun q hq => c_X8_isHome l E B T p2 q1.2 hq) ⟨Nat.le_of_ble_eq_true rfl, Nat.le_of_ble_eq_true rfl⟩ ⟨Nat.le_refl _, Nat.le_refl _⟩ rfl hl.1 rfl (Nat.le_of_ble_eq_true rfl) dX8_round_8 (fun q2 H2 L2 hf hw => ?_)
    refine lv_if_eq (tgt := 34) hx hb dX8_round_11 (by decide) (fun hc => ?_) (fun hc => ?_)
    · have hf := ifp hc hf
      refine lv_ldc hx hb hown (hts _ kcX8_95) dX8_round_34 ?_
      exact h_iret hf hx hb hr hlk hw dX8_round_36
    · have hf := ifn hc hf
      refine lv_iload_n hx hb dX8_round_14 rfl (lv_at hl 3 rfl) ?_
      refine lv_iconst (v := 0) hx hb dX8_round_15 (by decide) ?_
      refine lv_bipush (v := 99) hx hb dX8_round_16 (by decide) ?_
      refine h_cSi (As := [.int p3, .int (0 : Int32), .int (99 : Int32)]) (rest := []) hf hx hb hml hts hown hX hw myX8_isWithin msX8_isWithin lkX8_91 (fun q hq => c_X8_isWithin l E B T p3 (0 : Int32) (99 : Int32) q2.2 hq) ⟨Nat.le_of_ble_eq_true rfl, Nat.le_of_ble_eq_true rfl⟩ ⟨Nat.le_refl _, Nat.le_refl _⟩ rfl hl.1 rfl (Nat.le_of_ble_eq_true rfl) dX8_round_18 (fun q3 H3 L3 hf hw => ?_)
      refine lv_if_eq (tgt := 34) hx hb dX8_round_21 (by decide) (fun hc => ?_) (fun hc => ?_)
      · have hf := ifp hc hf
        refine lv_ldc hx hb hown (hts _ kcX8_95) dX8_round_34 ?_
        exact h_iret hf hx hb hr hlk hw dX8_round_36
      · have hf := ifn hc hf
        refine lv_iload hx hb dX8_round_24 (lv_at hl 4 rfl) ?_
        refine lv_iconst (v := 0) hx hb dX8_round_26 (by decide) ?_
        refine lv_iconst (v := 1) hx hb dX8_round_27 (by decide) ?_
        refine h_cSi (As := [.int p4, .int (0 : Int32), .int (1 : Int32)]) (rest := []) hf hx hb hml hts hown hX hw myX8_isWithin msX8_isWithin lkX8_91 (fun q hq => c_X8_isWithin l E B T p4 (0 : Int32) (1 : Int32) q3.2 hq) ⟨Nat.le_of_ble_eq_true rfl, Nat.le_of_ble_eq_true rfl⟩ ⟨Nat.le_refl _, Nat.le_refl _⟩ rfl hl.1 rfl (Nat.le_of_ble_eq_true rfl) dX8_round_28 (fun q4 H4 L4 hf hw => ?_)
        refine lv_if_ne (tgt := 37) hx hb dX8_round_31 (by decide) (fun hc => ?_) (fun hc => ?_)
        · have hf := ifn hc hf
          refine lv_iload_n hx hb dX8_round_37 rfl (lv_at hl 1 rfl) ?_
          refine lv_istore (lv' := [(5, .int p1), (0, .ref (B + a0)), (1, .int p1), (2, .int p2), (3, .int p3), (4, .int p4)]) hx hb dX8_round_38 hl (by decide) rfl (fun ls hl => ?_)
          refine lv_iload_n hx hb dX8_round_40 rfl (lv_at hl 3 rfl) ?_
          refine lv_istore (lv' := [(6, .int p2), (5, .int p1), (0, .ref (B + a0)), (1, .int p1), (2, .int p2), (3, .int p3), (4, .int p4)]) hx hb dX8_round_41 hl (by decide) rfl (fun ls hl => ?_)
          refine lv_iconst (v := 0) hx hb dX8_round_43 (by decide) ?_
          refine lv_istore (lv' := [(7, .int (0 : Int32)), (6, .int p2), (5, .int p1), (0, .ref (B + a0)), (1, .int p1), (2, .int p2), (3, .int p3), (4, .int p4)]) hx hb dX8_round_44 hl (by decide) rfl (fun ls hl => ?_)
          refine wfX8_round_L46 hΓ ?_ 6000 p1 p2 (0 : Int32) q4.2 _ _ _ hf hw (lv_sub hl [6, 7, 2, 1, 0] rfl)
          intro x9 x10 u11 H11 L11 ls hf hw hl
          refine lv_iload hx hb dX8_round_81 (lv_at hl 0 rfl) ?_
          refine lv_if_ne (tgt := 91) hx hb dX8_round_83 (by decide) (fun hc => ?_) (fun hc => ?_)
          · have hf := ifn hc hf
            refine lv_iload hx hb dX8_round_91 (lv_at hl 2 rfl) ?_
            exact h_iret hf hx hb hr hlk hw dX8_round_93
          · have hf := ifp hc hf
            refine lv_iload hx hb dX8_round_86 (lv_at hl 1 rfl) ?_
            refine lv_goto (tgt := 93) hx hb dX8_round_88 (by decide) ?_
            exact h_iret hf hx hb hr hlk hw dX8_round_93
        · have hf := ifp hc hf
          refine lv_ldc hx hb hown (hts _ kcX8_95) dX8_round_34 ?_
          exact h_iret hf hx hb hr hlk hw dX8_round_36
theorem c_X8_round (l : Launch) (E : hE) (B : Nat) (T : hT) (a0 : Nat) (p1 : Int32) (p2 : Int32) (p3 : Int32) (p4 : Int32) (u0 : hM) {z : Int32 × hM} (hf : fX8_round T a0 p1 p2 p3 p4 u0 = some z) : h_Ct l E B T yX8_round cX8_round 9 (some .int) 2 [.ref (B + a0), .int p1, .int p2, .int p3, .int p4] u0 z.2 (some (.int z.1)) := h_ofW (by decide) (Nat.le_of_ble_eq_true rfl) (fun p e s m below meth c ls hΓ hl hw => wX8_round hΓ hf hw hl)
def fX8_write (T : hT) (a0 : Nat) (p1 : Int32) (u0 : hM) : Option (Int32 × hM) := (fX8_isWithin T p1 (0 : Int32) (9999 : Int32) u0).bind fun q1 => if q1.1 = 0 then (some ((-1000000002 : Int32), q1.2)) else ((gti T q1.2 a0 8 11).bind fun x2 => if x2 < (40 : Int32) then ((gtr T q1.2 a0 8 10).bind fun a3 => (gti T q1.2 a0 8 11).bind fun x4 => (asti T q1.2 a3 x4 p1).bind fun u5 => (gti T u5 a0 8 11).bind fun x6 => (pti T u5 a0 8 11 (x6 + (1 : Int32))).bind fun u7 => (gti T u7 a0 8 11).bind fun x8 => some (x8, u7)) else (some ((-1000000004 : Int32), q1.2)))
set_option maxRecDepth 100000 in
set_option maxHeartbeats 4000000 in
theorem wX8_write {a0 : Nat} {p1 : Int32} {u0 : hM} {z : Int32 × hM} {ls : Array Slot} (hΓ : h_Γ E B T p s m args meth c cX8_write 2 (some .int) RX8) (hf : fX8_write T a0 p1 u0 = some z) (hw : h_W E B T s.heap u0 s.heap []) (hl : lv_has ls 2 [(0, .ref (B + a0)), (1, .int p1)]) : W p l e (h_rm 1) s m args below meth c s.heap [] 0 0 (h_Qi below E B T args s z) (F0 m 0 ls []) := by
  obtain ⟨hx, hb, hr, hml, hts, hown, hlk, hX⟩ := id hΓ
  unfold fX8_write at hf
  refine lv_iload_n hx hb dX8_write_0 rfl (lv_at hl 1 rfl) ?_
  refine lv_iconst (v := 0) hx hb dX8_write_1 (by decide) ?_
  refine lv_sipush (v := 9999) hx hb dX8_write_2 (by decide) ?_
  refine h_cSi (As := [.int p1, .int (0 : Int32), .int (9999 : Int32)]) (rest := []) hf hx hb hml hts hown hX hw myX8_isWithin msX8_isWithin lkX8_91 (fun q hq => c_X8_isWithin l E B T p1 (0 : Int32) (9999 : Int32) u0 hq) ⟨Nat.le_of_ble_eq_true rfl, Nat.le_of_ble_eq_true rfl⟩ ⟨Nat.le_refl _, Nat.le_refl _⟩ rfl hl.1 rfl (Nat.le_of_ble_eq_true rfl) dX8_write_5 (fun q1 H1 L1 hf hw => ?_)
  refine lv_if_ne (tgt := 14) hx hb dX8_write_8 (by decide) (fun hc => ?_) (fun hc => ?_)
  · have hf := ifn hc hf
    refine lv_aload_n hx hb dX8_write_14 rfl (lv_at hl 0 rfl) ?_
    refine h_geti hf hx hb hts hown hX hw flX8_73 rfl dX8_write_15 (fun x2 hf => ?_)
    refine lv_bipush (v := 40) hx hb dX8_write_18 (by decide) ?_
    refine lv_icmp_lt (tgt := 26) hx hb dX8_write_20 (by decide) (fun hc => ?_) (fun hc => ?_)
    · have hf := ifp hc hf
      refine lv_aload_n hx hb dX8_write_26 rfl (lv_at hl 0 rfl) ?_
      refine h_getr hf hx hb hts hown hX hw flX8_69 rfl dX8_write_27 (fun a3 hf => ?_)
      refine lv_aload_n hx hb dX8_write_30 rfl (lv_at hl 0 rfl) ?_
      refine h_geti hf hx hb hts hown hX hw flX8_73 rfl dX8_write_31 (fun x4 hf => ?_)
      refine lv_iload_n hx hb dX8_write_34 rfl (lv_at hl 1 rfl) ?_
      refine h_iast hf hx hb hX hw dX8_write_35 (fun u5 H5 L5 hf hw => ?_)
      refine lv_aload_n hx hb dX8_write_36 rfl (lv_at hl 0 rfl) ?_
      refine lv_dup hx hb dX8_write_37 rfl ?_
      refine h_geti hf hx hb hts hown hX hw flX8_73 rfl dX8_write_38 (fun x6 hf => ?_)
      refine lv_iconst (v := 1) hx hb dX8_write_41 (by decide) ?_
      refine lv_iadd hx hb dX8_write_42 ?_
      refine h_puti hf hx hb hts hown hX hw flX8_73 ⟨rfl, rfl⟩ dX8_write_43 (fun u7 H7 L7 hf hw => ?_)
      refine lv_aload_n hx hb dX8_write_46 rfl (lv_at hl 0 rfl) ?_
      refine h_geti hf hx hb hts hown hX hw flX8_73 rfl dX8_write_47 (fun x8 hf => ?_)
      exact h_iret hf hx hb hr hlk hw dX8_write_50
    · have hf := ifn hc hf
      refine lv_ldc hx hb hown (hts _ kcX8_99) dX8_write_23 ?_
      exact h_iret hf hx hb hr hlk hw dX8_write_25
  · have hf := ifp hc hf
    refine lv_ldc hx hb hown (hts _ kcX8_95) dX8_write_11 ?_
    exact h_iret hf hx hb hr hlk hw dX8_write_13
theorem c_X8_write (l : Launch) (E : hE) (B : Nat) (T : hT) (a0 : Nat) (p1 : Int32) (u0 : hM) {z : Int32 × hM} (hf : fX8_write T a0 p1 u0 = some z) : h_Ct l E B T yX8_write cX8_write 2 (some .int) 1 [.ref (B + a0), .int p1] u0 z.2 (some (.int z.1)) := h_ofW (by decide) (Nat.le_of_ble_eq_true rfl) (fun p e s m below meth c ls hΓ hl hw => wX8_write hΓ hf hw hl)
def fX8_tear (T : hT) (a0 : Nat) (u0 : hM) : Option (Int32 × hM) := (gti T u0 a0 8 11).bind fun x1 => (pti T u0 a0 8 11 (0 : Int32)).bind fun u2 => some (x1, u2)
set_option maxRecDepth 100000 in
set_option maxHeartbeats 4000000 in
theorem wX8_tear {a0 : Nat} {u0 : hM} {z : Int32 × hM} {ls : Array Slot} (hΓ : h_Γ E B T p s m args meth c cX8_tear 2 (some .int) RX8) (hf : fX8_tear T a0 u0 = some z) (hw : h_W E B T s.heap u0 s.heap []) (hl : lv_has ls 2 [(0, .ref (B + a0))]) : W p l e (h_rm 0) s m args below meth c s.heap [] 0 0 (h_Qi below E B T args s z) (F0 m 0 ls []) := by
  obtain ⟨hx, hb, hr, hml, hts, hown, hlk, hX⟩ := id hΓ
  unfold fX8_tear at hf
  refine lv_aload_n hx hb dX8_tear_0 rfl (lv_at hl 0 rfl) ?_
  refine h_geti hf hx hb hts hown hX hw flX8_73 rfl dX8_tear_1 (fun x1 hf => ?_)
  refine lv_istore_n (lv' := [(1, .int x1), (0, .ref (B + a0))]) hx hb dX8_tear_4 rfl hl (by decide) rfl (fun ls hl => ?_)
  refine lv_aload_n hx hb dX8_tear_5 rfl (lv_at hl 1 rfl) ?_
  refine lv_iconst (v := 0) hx hb dX8_tear_6 (by decide) ?_
  refine h_puti hf hx hb hts hown hX hw flX8_73 ⟨rfl, rfl⟩ dX8_tear_7 (fun u2 H2 L2 hf hw => ?_)
  refine lv_iload_n hx hb dX8_tear_10 rfl (lv_at hl 0 rfl) ?_
  exact h_iret hf hx hb hr hlk hw dX8_tear_11
theorem c_X8_tear (l : Launch) (E : hE) (B : Nat) (T : hT) (a0 : Nat) (u0 : hM) {z : Int32 × hM} (hf : fX8_tear T a0 u0 = some z) : h_Ct l E B T yX8_tear cX8_tear 2 (some .int) 0 [.ref (B + a0)] u0 z.2 (some (.int z.1)) := h_ofW (by decide) (Nat.le_of_ble_eq_true rfl) (fun p e s m below meth c ls hΓ hl hw => wX8_tear hΓ hf hw hl)
def fX8_judge_L12 (T : hT) (c0 : Nat) (ex : hM → Option (Int32 × hM)) : Nat → Int32 → hM → Option (Int32 × hM)
  | 0, _, _ => none
  | n + 1, v1, u0 => (gti T u0 c0 8 11).bind fun x2 => if x2 ≤ v1 then (ex u0) else ((gtr T u0 c0 8 6).bind fun a3 => (gtr T u0 a3 5 0).bind fun a4 => (vc T a4 4 (fX4_heightAt T a4 v1 u0)).bind fun q5 => if q5.1 = (-1 : Int32) then (some (v1, q5.2)) else ((gtr T q5.2 c0 8 10).bind fun a6 => (ald 11 T q5.2 a6 v1).bind fun x7 => (fX8_isNear T (x7 - q5.1) q5.2).bind fun q8 => if q8.1 = 0 then (some (v1, q8.2)) else (lt (v1 + (1 : Int32)) fun x9 => fX8_judge_L12 T c0 ex n x9 q8.2)))
def fX8_judge (T : hT) (a0 : Nat) (u0 : hM) : Option (Int32 × hM) := (vc T a0 8 (fX8_hasSong T a0 u0)).bind fun q1 => if q1.1 = 0 then (some ((-1000000003 : Int32), q1.2)) else (fX8_judge_L12 T a0 (fun (u10 : hM) => some ((-1 : Int32), u10)) 6000 (0 : Int32) q1.2)
set_option maxRecDepth 100000 in
set_option maxHeartbeats 4000000 in
theorem wfX8_judge_L12 {c0 : Nat} {ex : hM → Option (Int32 × hM)} {z : Int32 × hM} (hΓ : h_Γ E B T p s m args meth c cX8_judge 3 (some .int) RX8) (hex : ∀ (u9 : hM) (H9 : Heap) (L9 : List Loc) (ls : Array Slot), ex u9 = some z → h_W E B T s.heap u9 H9 L9 → lv_has ls 3 [] → W p l e (h_rm 2) s m args below meth c H9 L9 0 0 (h_Qi below E B T args s z) (F0 m 59 ls [])) : ∀ (n : Nat) (v1 : Int32) (u0 : hM) (H0 : Heap) (L0 : List Loc) (ls : Array Slot), fX8_judge_L12 T c0 ex n v1 u0 = some z → h_W E B T s.heap u0 H0 L0 → lv_has ls 3 [(0, .ref (B + c0)), (1, .int v1)] → W p l e (h_rm 2) s m args below meth c H0 L0 0 0 (h_Qi below E B T args s z) (F0 m 12 ls []) := by
  obtain ⟨hx, hb, hr, hml, hts, hown, hlk, hX⟩ := id hΓ
  intro n
  induction n with
  | zero =>
    intro v1 u0 H0 L0 ls hf hw hl
    exact absurd (show (none : Option (Int32 × hM)) = some z from hf) (fun h => by cases h)
  | succ n ih =>
    intro v1 u0 H0 L0 ls hf hw hl
    rw [fX8_judge_L12] at hf
    refine lv_iload_n hx hb dX8_judge_12 rfl (lv_at hl 1 rfl) ?_
    refine lv_aload_n hx hb dX8_judge_13 rfl (lv_at hl 0 rfl) ?_
    refine h_geti hf hx hb hts hown hX hw flX8_73 rfl dX8_judge_14 (fun x2 hf => ?_)
    refine lv_icmp_ge (tgt := 59) hx hb dX8_judge_17 (by decide) (fun hc => ?_) (fun hc => ?_)
    · have hf := ifp hc hf
      exact hex  u0 _ _ _ hf hw (lv_sub hl [] rfl)
    · have hf := ifn hc hf
      refine lv_aload_n hx hb dX8_judge_20 rfl (lv_at hl 0 rfl) ?_
      refine h_getr hf hx hb hts hown hX hw flX8_47 rfl dX8_judge_21 (fun a3 hf => ?_)
      refine h_getr hf hx hb hts hown hX hw flX8_145 rfl dX8_judge_24 (fun a4 hf => ?_)
      refine lv_iload_n hx hb dX8_judge_27 rfl (lv_at hl 1 rfl) ?_
      refine h_cVi (As := [.int v1]) (rest := []) hf hx hb hml hts hown hX hw myX4_heightAt miX4_heightAt lkX8_220 ⟨rfl, by decide⟩ (fun q hq => c_X4_heightAt l E B T a4 v1 u0 hq) ⟨Nat.le_of_ble_eq_true rfl, Nat.le_of_ble_eq_true rfl⟩ ⟨Nat.le_refl _, Nat.le_refl _⟩ rfl hl.1 rfl (Nat.le_of_ble_eq_true rfl) dX8_judge_28 (fun q5 H5 L5 hf hw => ?_)
      refine lv_istore_n (lv' := [(2, .int q5.1), (0, .ref (B + c0)), (1, .int v1)]) hx hb dX8_judge_31 rfl hl (by decide) rfl (fun ls hl => ?_)
      refine lv_iload_n hx hb dX8_judge_32 rfl (lv_at hl 0 rfl) ?_
      refine lv_iconst (v := -1) hx hb dX8_judge_33 (by decide) ?_
      refine lv_icmp_eq (tgt := 51) hx hb dX8_judge_34 (by decide) (fun hc => ?_) (fun hc => ?_)
      · have hf := ifp hc hf
        refine lv_iload_n hx hb dX8_judge_51 rfl (lv_at hl 2 rfl) ?_
        exact h_iret hf hx hb hr hlk hw dX8_judge_52
      · have hf := ifn hc hf
        refine lv_aload_n hx hb dX8_judge_37 rfl (lv_at hl 1 rfl) ?_
        refine h_getr hf hx hb hts hown hX hw flX8_69 rfl dX8_judge_38 (fun a6 hf => ?_)
        refine lv_iload_n hx hb dX8_judge_41 rfl (lv_at hl 2 rfl) ?_
        refine h_iald hf hx hb hX hw dX8_judge_42 (fun x7 hf => ?_)
        refine lv_iload_n hx hb dX8_judge_43 rfl (lv_at hl 0 rfl) ?_
        refine lv_isub hx hb dX8_judge_44 ?_
        refine h_cSi (As := [.int (x7 - q5.1)]) (rest := []) hf hx hb hml hts hown hX hw myX8_isNear msX8_isNear lkX8_309 (fun q hq => c_X8_isNear l E B T (x7 - q5.1) q5.2 hq) ⟨Nat.le_of_ble_eq_true rfl, Nat.le_of_ble_eq_true rfl⟩ ⟨Nat.le_refl _, Nat.le_refl _⟩ rfl hl.1 rfl (Nat.le_of_ble_eq_true rfl) dX8_judge_45 (fun q8 H8 L8 hf hw => ?_)
        refine lv_if_ne (tgt := 53) hx hb dX8_judge_48 (by decide) (fun hc => ?_) (fun hc => ?_)
        · have hf := ifn hc hf
          refine h_iinc (k := 2) hf hx hb dX8_judge_53 hl rfl (by decide) (by decide) (fun x9 ls hf hl => ?_)
          have hl : lv_has ls 3 [(1, .int x9), (2, .int q5.1), (0, .ref (B + c0))] := hl
          refine lv_goto (tgt := 12) hx hb dX8_judge_56 (by decide) ?_
          exact ih x9 q8.2 _ _ _ hf hw (lv_sub hl [2, 0] rfl)
        · have hf := ifp hc hf
          refine lv_iload_n hx hb dX8_judge_51 rfl (lv_at hl 2 rfl) ?_
          exact h_iret hf hx hb hr hlk hw dX8_judge_52
set_option maxRecDepth 100000 in
set_option maxHeartbeats 4000000 in
theorem wX8_judge {a0 : Nat} {u0 : hM} {z : Int32 × hM} {ls : Array Slot} (hΓ : h_Γ E B T p s m args meth c cX8_judge 3 (some .int) RX8) (hf : fX8_judge T a0 u0 = some z) (hw : h_W E B T s.heap u0 s.heap []) (hl : lv_has ls 3 [(0, .ref (B + a0))]) : W p l e (h_rm 2) s m args below meth c s.heap [] 0 0 (h_Qi below E B T args s z) (F0 m 0 ls []) := by
  obtain ⟨hx, hb, hr, hml, hts, hown, hlk, hX⟩ := id hΓ
  unfold fX8_judge at hf
  refine lv_aload_n hx hb dX8_judge_0 rfl (lv_at hl 0 rfl) ?_
  refine h_cVi (As := []) (rest := []) hf hx hb hml hts hown hX hw myX8_hasSong miX8_hasSong lkX8_216 ⟨rfl, by decide⟩ (fun q hq => c_X8_hasSong l E B T a0 u0 hq) ⟨Nat.le_of_ble_eq_true rfl, Nat.le_of_ble_eq_true rfl⟩ ⟨Nat.le_refl _, Nat.le_refl _⟩ rfl hl.1 rfl (Nat.le_of_ble_eq_true rfl) dX8_judge_1 (fun q1 H1 L1 hf hw => ?_)
  refine lv_if_ne (tgt := 10) hx hb dX8_judge_4 (by decide) (fun hc => ?_) (fun hc => ?_)
  · have hf := ifn hc hf
    refine lv_iconst (v := 0) hx hb dX8_judge_10 (by decide) ?_
    refine lv_istore_n (lv' := [(1, .int (0 : Int32)), (0, .ref (B + a0))]) hx hb dX8_judge_11 rfl hl (by decide) rfl (fun ls hl => ?_)
    refine wfX8_judge_L12 hΓ ?_ 6000 (0 : Int32) q1.2 _ _ _ hf hw (lv_sub hl [1, 0] rfl)
    intro u10 H10 L10 ls hf hw hl
    refine lv_iconst (v := -1) hx hb dX8_judge_59 (by decide) ?_
    exact h_iret hf hx hb hr hlk hw dX8_judge_60
  · have hf := ifp hc hf
    refine lv_ldc hx hb hown (hts _ kcX8_219) dX8_judge_7 ?_
    exact h_iret hf hx hb hr hlk hw dX8_judge_9
theorem c_X8_judge (l : Launch) (E : hE) (B : Nat) (T : hT) (a0 : Nat) (u0 : hM) {z : Int32 × hM} (hf : fX8_judge T a0 u0 = some z) : h_Ct l E B T yX8_judge cX8_judge 3 (some .int) 2 [.ref (B + a0)] u0 z.2 (some (.int z.1)) := h_ofW (by decide) (Nat.le_of_ble_eq_true rfl) (fun p e s m below meth c ls hΓ hl hw => wX8_judge hΓ hf hw hl)
def fX8_seed (T : hT) (a0 : Nat) (p1 : Int32) (u0 : hM) : Option (Int32 × hM) := if 0 ≤ p1 then ((gtr T u0 a0 8 6).bind fun a1 => (gti T u0 a1 5 6).bind fun x2 => (gtr T u0 a0 8 6).bind fun a3 => (pti T u0 a3 5 6 p1).bind fun u4 => some (x2, u4)) else (some ((-1000000002 : Int32), u0))
set_option maxRecDepth 100000 in
set_option maxHeartbeats 4000000 in
theorem wX8_seed {a0 : Nat} {p1 : Int32} {u0 : hM} {z : Int32 × hM} {ls : Array Slot} (hΓ : h_Γ E B T p s m args meth c cX8_seed 3 (some .int) RX8) (hf : fX8_seed T a0 p1 u0 = some z) (hw : h_W E B T s.heap u0 s.heap []) (hl : lv_has ls 3 [(0, .ref (B + a0)), (1, .int p1)]) : W p l e (h_rm 0) s m args below meth c s.heap [] 0 0 (h_Qi below E B T args s z) (F0 m 0 ls []) := by
  obtain ⟨hx, hb, hr, hml, hts, hown, hlk, hX⟩ := id hΓ
  unfold fX8_seed at hf
  refine lv_iload_n hx hb dX8_seed_0 rfl (lv_at hl 1 rfl) ?_
  refine lv_if_ge (tgt := 7) hx hb dX8_seed_1 (by decide) (fun hc => ?_) (fun hc => ?_)
  · have hf := ifp hc hf
    refine lv_aload_n hx hb dX8_seed_7 rfl (lv_at hl 0 rfl) ?_
    refine h_getr hf hx hb hts hown hX hw flX8_47 rfl dX8_seed_8 (fun a1 hf => ?_)
    refine h_geti hf hx hb hts hown hX hw flX8_312 rfl dX8_seed_11 (fun x2 hf => ?_)
    refine lv_istore_n (lv' := [(2, .int x2), (0, .ref (B + a0)), (1, .int p1)]) hx hb dX8_seed_14 rfl hl (by decide) rfl (fun ls hl => ?_)
    refine lv_aload_n hx hb dX8_seed_15 rfl (lv_at hl 1 rfl) ?_
    refine h_getr hf hx hb hts hown hX hw flX8_47 rfl dX8_seed_16 (fun a3 hf => ?_)
    refine lv_iload_n hx hb dX8_seed_19 rfl (lv_at hl 2 rfl) ?_
    refine h_puti hf hx hb hts hown hX hw flX8_312 ⟨rfl, rfl⟩ dX8_seed_20 (fun u4 H4 L4 hf hw => ?_)
    refine lv_iload_n hx hb dX8_seed_23 rfl (lv_at hl 0 rfl) ?_
    exact h_iret hf hx hb hr hlk hw dX8_seed_24
  · have hf := ifn hc hf
    refine lv_ldc hx hb hown (hts _ kcX8_95) dX8_seed_4 ?_
    exact h_iret hf hx hb hr hlk hw dX8_seed_6
theorem c_X8_seed (l : Launch) (E : hE) (B : Nat) (T : hT) (a0 : Nat) (p1 : Int32) (u0 : hM) {z : Int32 × hM} (hf : fX8_seed T a0 p1 u0 = some z) : h_Ct l E B T yX8_seed cX8_seed 3 (some .int) 0 [.ref (B + a0), .int p1] u0 z.2 (some (.int z.1)) := h_ofW (by decide) (Nat.le_of_ble_eq_true rfl) (fun p e s m below meth c ls hΓ hl hw => wX8_seed hΓ hf hw hl)
def fX4_copyFrom (T : hT) (a0 : Nat) (r1 : Nat) (u0 : hM) : Option (hM) := (gtr T u0 r1 4 0).bind fun a1 => (gtr T u0 a0 4 0).bind fun a2 => (acp T u0 a1 (0 : Int32) a2 (0 : Int32) (40 : Int32)).bind fun u3 => (gti T u3 r1 4 1).bind fun x4 => (pti T u3 a0 4 1 x4).bind fun u5 => (gti T u5 r1 4 2).bind fun x6 => (pti T u5 a0 4 2 x6).bind fun u7 => some u7
set_option maxRecDepth 100000 in
set_option maxHeartbeats 4000000 in
theorem wX4_copyFrom {a0 : Nat} {r1 : Nat} {u0 : hM} {z : hM} {ls : Array Slot} (hΓ : h_Γ E B T p s m args meth c cX4_copyFrom 2 none RX4) (hf : fX4_copyFrom T a0 r1 u0 = some z) (hw : h_W E B T s.heap u0 s.heap []) (hl : lv_has ls 2 [(0, .ref (B + a0)), (1, .ref (B + r1))]) : W p l e (h_rm 1) s m args below meth c s.heap [] 0 0 (h_Qv below E B T args s z) (F0 m 0 ls []) := by
  obtain ⟨hx, hb, hr, hml, hts, hown, hlk, hX⟩ := id hΓ
  unfold fX4_copyFrom at hf
  refine lv_aload_n hx hb dX4_copyFrom_0 rfl (lv_at hl 1 rfl) ?_
  refine h_getr hf hx hb hts hown hX hw flX4_9 rfl dX4_copyFrom_1 (fun a1 hf => ?_)
  refine lv_iconst (v := 0) hx hb dX4_copyFrom_4 (by decide) ?_
  refine lv_aload_n hx hb dX4_copyFrom_5 rfl (lv_at hl 0 rfl) ?_
  refine h_getr hf hx hb hts hown hX hw flX4_9 rfl dX4_copyFrom_6 (fun a2 hf => ?_)
  refine lv_iconst (v := 0) hx hb dX4_copyFrom_9 (by decide) ?_
  refine lv_bipush (v := 40) hx hb dX4_copyFrom_10 (by decide) ?_
  refine h_acp hf hx hb hml hl.1 hts hown hX hw lkX4_22 ⟨Nat.le_of_ble_eq_true rfl, Nat.le_of_ble_eq_true rfl⟩ dX4_copyFrom_12 (fun u3 H3 L3 hf hw => ?_)
  refine lv_aload_n hx hb dX4_copyFrom_15 rfl (lv_at hl 0 rfl) ?_
  refine lv_aload_n hx hb dX4_copyFrom_16 rfl (lv_at hl 1 rfl) ?_
  refine h_geti hf hx hb hts hown hX hw flX4_15 rfl dX4_copyFrom_17 (fun x4 hf => ?_)
  refine h_puti hf hx hb hts hown hX hw flX4_15 ⟨rfl, rfl⟩ dX4_copyFrom_20 (fun u5 H5 L5 hf hw => ?_)
  refine lv_aload_n hx hb dX4_copyFrom_23 rfl (lv_at hl 0 rfl) ?_
  refine lv_aload_n hx hb dX4_copyFrom_24 rfl (lv_at hl 1 rfl) ?_
  refine h_geti hf hx hb hts hown hX hw flX4_19 rfl dX4_copyFrom_25 (fun x6 hf => ?_)
  refine h_puti hf hx hb hts hown hX hw flX4_19 ⟨rfl, rfl⟩ dX4_copyFrom_28 (fun u7 H7 L7 hf hw => ?_)
  exact h_vret hf hx hb hr hlk hw dX4_copyFrom_31
theorem c_X4_copyFrom (l : Launch) (E : hE) (B : Nat) (T : hT) (a0 : Nat) (r1 : Nat) (u0 : hM) {z : hM} (hf : fX4_copyFrom T a0 r1 u0 = some z) : h_Ct l E B T yX4_copyFrom cX4_copyFrom 2 none 1 [.ref (B + a0), .ref (B + r1)] u0 z none := h_ofW (by decide) (Nat.le_of_ble_eq_true rfl) (fun p e s m below meth c ls hΓ hl hw => wX4_copyFrom hΓ hf hw hl)
def fX5_copyFrom_L28 (T : hT) (c0 : Nat) (c1 : Nat) (ex : hM → Option (hM)) : Nat → Int32 → hM → Option (hM)
  | 0, _, _ => none
  | n + 1, v2, u0 => if (12 : Int32) ≤ v2 then (ex u0) else ((gtr T u0 c0 5 2).bind fun a7 => (aldr 15 T u0 a7 v2).bind fun a8 => (gtr T u0 c1 5 2).bind fun a9 => (aldr 15 T u0 a9 v2).bind fun a10 => (vc T a8 3 (fX3_copyFrom T a8 a10 u0)).bind fun q11 => lt (v2 + (1 : Int32)) fun x12 => fX5_copyFrom_L28 T c0 c1 ex n x12 q11)
def fX5_copyFrom (T : hT) (a0 : Nat) (r1 : Nat) (u0 : hM) : Option (hM) := (gtr T u0 a0 5 0).bind fun a1 => (gtr T u0 r1 5 0).bind fun a2 => (vc T a1 4 (fX4_copyFrom T a1 a2 u0)).bind fun q3 => (gtr T q3 r1 5 1).bind fun a4 => (gtr T q3 a0 5 1).bind fun a5 => (acp T q3 a4 (0 : Int32) a5 (0 : Int32) (16 : Int32)).bind fun u6 => fX5_copyFrom_L28 T a0 r1 (fun (u13 : hM) => (gti T u13 r1 5 3).bind fun x14 => (pti T u13 a0 5 3 x14).bind fun u15 => (gti T u15 r1 5 4).bind fun x16 => (pti T u15 a0 5 4 x16).bind fun u17 => (gti T u17 r1 5 5).bind fun x18 => (pti T u17 a0 5 5 x18).bind fun u19 => (gti T u19 r1 5 6).bind fun x20 => (pti T u19 a0 5 6 x20).bind fun u21 => some u21) 6000 (0 : Int32) u6
set_option maxRecDepth 100000 in
set_option maxHeartbeats 4000000 in
theorem wfX5_copyFrom_L28 {c0 : Nat} {c1 : Nat} {ex : hM → Option (hM)} {z : hM} (hΓ : h_Γ E B T p s m args meth c cX5_copyFrom 3 none RX5) (hex : ∀ (u9 : hM) (H9 : Heap) (L9 : List Loc) (ls : Array Slot), ex u9 = some z → h_W E B T s.heap u9 H9 L9 → lv_has ls 3 [(0, .ref (B + c0)), (1, .ref (B + c1))] → W p l e (h_rm 2) s m args below meth c H9 L9 0 0 (h_Qv below E B T args s z) (F0 m 55 ls [])) : ∀ (n : Nat) (v2 : Int32) (u0 : hM) (H0 : Heap) (L0 : List Loc) (ls : Array Slot), fX5_copyFrom_L28 T c0 c1 ex n v2 u0 = some z → h_W E B T s.heap u0 H0 L0 → lv_has ls 3 [(0, .ref (B + c0)), (1, .ref (B + c1)), (2, .int v2)] → W p l e (h_rm 2) s m args below meth c H0 L0 0 0 (h_Qv below E B T args s z) (F0 m 28 ls []) := by
  obtain ⟨hx, hb, hr, hml, hts, hown, hlk, hX⟩ := id hΓ
  intro n
  induction n with
  | zero =>
    intro v2 u0 H0 L0 ls hf hw hl
    exact absurd (show (none : Option (hM)) = some z from hf) (fun h => by cases h)
  | succ n ih =>
    intro v2 u0 H0 L0 ls hf hw hl
    rw [fX5_copyFrom_L28] at hf
    refine lv_iload_n hx hb dX5_copyFrom_28 rfl (lv_at hl 2 rfl) ?_
    refine lv_bipush (v := 12) hx hb dX5_copyFrom_29 (by decide) ?_
    refine lv_icmp_ge (tgt := 55) hx hb dX5_copyFrom_31 (by decide) (fun hc => ?_) (fun hc => ?_)
    · have hf := ifp hc hf
      exact hex  u0 _ _ _ hf hw (lv_sub hl [0, 1] rfl)
    · have hf := ifn hc hf
      refine lv_aload_n hx hb dX5_copyFrom_34 rfl (lv_at hl 0 rfl) ?_
      refine h_getr hf hx hb hts hown hX hw flX5_26 rfl dX5_copyFrom_35 (fun a7 hf => ?_)
      refine lv_iload_n hx hb dX5_copyFrom_38 rfl (lv_at hl 2 rfl) ?_
      refine h_aald15 hf hx hb hX hw dX5_copyFrom_39 (fun a8 hf => ?_)
      refine lv_aload_n hx hb dX5_copyFrom_40 rfl (lv_at hl 1 rfl) ?_
      refine h_getr hf hx hb hts hown hX hw flX5_26 rfl dX5_copyFrom_41 (fun a9 hf => ?_)
      refine lv_iload_n hx hb dX5_copyFrom_44 rfl (lv_at hl 2 rfl) ?_
      refine h_aald15 hf hx hb hX hw dX5_copyFrom_45 (fun a10 hf => ?_)
      refine h_cVv (As := [.ref (B + a10)]) (rest := []) hf hx hb hml hts hown hX hw myX3_copyFrom miX3_copyFrom lkX5_63 ⟨rfl, by decide⟩ (fun q hq => c_X3_copyFrom l E B T a8 a10 u0 hq) ⟨Nat.le_of_ble_eq_true rfl, Nat.le_of_ble_eq_true rfl⟩ ⟨Nat.le_refl _, Nat.le_refl _⟩ rfl hl.1 rfl (Nat.le_of_ble_eq_true rfl) dX5_copyFrom_46 (fun q11 H11 L11 hf hw => ?_)
      refine h_iinc (k := 2) hf hx hb dX5_copyFrom_49 hl rfl (by decide) (by decide) (fun x12 ls hf hl => ?_)
      have hl : lv_has ls 3 [(2, .int x12), (0, .ref (B + c0)), (1, .ref (B + c1))] := hl
      refine lv_goto (tgt := 28) hx hb dX5_copyFrom_52 (by decide) ?_
      exact ih x12 q11 _ _ _ hf hw (lv_sub hl [1, 2, 0] rfl)
set_option maxRecDepth 100000 in
set_option maxHeartbeats 4000000 in
theorem wX5_copyFrom {a0 : Nat} {r1 : Nat} {u0 : hM} {z : hM} {ls : Array Slot} (hΓ : h_Γ E B T p s m args meth c cX5_copyFrom 3 none RX5) (hf : fX5_copyFrom T a0 r1 u0 = some z) (hw : h_W E B T s.heap u0 s.heap []) (hl : lv_has ls 3 [(0, .ref (B + a0)), (1, .ref (B + r1))]) : W p l e (h_rm 2) s m args below meth c s.heap [] 0 0 (h_Qv below E B T args s z) (F0 m 0 ls []) := by
  obtain ⟨hx, hb, hr, hml, hts, hown, hlk, hX⟩ := id hΓ
  unfold fX5_copyFrom at hf
  refine lv_aload_n hx hb dX5_copyFrom_0 rfl (lv_at hl 0 rfl) ?_
  refine h_getr hf hx hb hts hown hX hw flX5_12 rfl dX5_copyFrom_1 (fun a1 hf => ?_)
  refine lv_aload_n hx hb dX5_copyFrom_4 rfl (lv_at hl 1 rfl) ?_
  refine h_getr hf hx hb hts hown hX hw flX5_12 rfl dX5_copyFrom_5 (fun a2 hf => ?_)
  refine h_cVv (As := [.ref (B + a2)]) (rest := []) hf hx hb hml hts hown hX hw myX4_copyFrom miX4_copyFrom lkX5_53 ⟨rfl, by decide⟩ (fun q hq => c_X4_copyFrom l E B T a1 a2 u0 hq) ⟨Nat.le_of_ble_eq_true rfl, Nat.le_of_ble_eq_true rfl⟩ ⟨Nat.le_refl _, Nat.le_refl _⟩ rfl hl.1 rfl (Nat.le_of_ble_eq_true rfl) dX5_copyFrom_8 (fun q3 H3 L3 hf hw => ?_)
  refine lv_aload_n hx hb dX5_copyFrom_11 rfl (lv_at hl 1 rfl) ?_
  refine h_getr hf hx hb hts hown hX hw flX5_18 rfl dX5_copyFrom_12 (fun a4 hf => ?_)
  refine lv_iconst (v := 0) hx hb dX5_copyFrom_15 (by decide) ?_
  refine lv_aload_n hx hb dX5_copyFrom_16 rfl (lv_at hl 0 rfl) ?_
  refine h_getr hf hx hb hts hown hX hw flX5_18 rfl dX5_copyFrom_17 (fun a5 hf => ?_)
  refine lv_iconst (v := 0) hx hb dX5_copyFrom_20 (by decide) ?_
  refine lv_bipush (v := 16) hx hb dX5_copyFrom_21 (by decide) ?_
  refine h_acp hf hx hb hml hl.1 hts hown hX hw lkX5_57 ⟨Nat.le_of_ble_eq_true rfl, Nat.le_of_ble_eq_true rfl⟩ dX5_copyFrom_23 (fun u6 H6 L6 hf hw => ?_)
  refine lv_iconst (v := 0) hx hb dX5_copyFrom_26 (by decide) ?_
  refine lv_istore_n (lv' := [(2, .int (0 : Int32)), (0, .ref (B + a0)), (1, .ref (B + r1))]) hx hb dX5_copyFrom_27 rfl hl (by decide) rfl (fun ls hl => ?_)
  refine wfX5_copyFrom_L28 hΓ ?_ 6000 (0 : Int32) u6 _ _ _ hf hw (lv_sub hl [1, 2, 0] rfl)
  intro u13 H13 L13 ls hf hw hl
  refine lv_aload_n hx hb dX5_copyFrom_55 rfl (lv_at hl 0 rfl) ?_
  refine lv_aload_n hx hb dX5_copyFrom_56 rfl (lv_at hl 1 rfl) ?_
  refine h_geti hf hx hb hts hown hX hw flX5_30 rfl dX5_copyFrom_57 (fun x14 hf => ?_)
  refine h_puti hf hx hb hts hown hX hw flX5_30 ⟨rfl, rfl⟩ dX5_copyFrom_60 (fun u15 H15 L15 hf hw => ?_)
  refine lv_aload_n hx hb dX5_copyFrom_63 rfl (lv_at hl 0 rfl) ?_
  refine lv_aload_n hx hb dX5_copyFrom_64 rfl (lv_at hl 1 rfl) ?_
  refine h_geti hf hx hb hts hown hX hw flX5_34 rfl dX5_copyFrom_65 (fun x16 hf => ?_)
  refine h_puti hf hx hb hts hown hX hw flX5_34 ⟨rfl, rfl⟩ dX5_copyFrom_68 (fun u17 H17 L17 hf hw => ?_)
  refine lv_aload_n hx hb dX5_copyFrom_71 rfl (lv_at hl 0 rfl) ?_
  refine lv_aload_n hx hb dX5_copyFrom_72 rfl (lv_at hl 1 rfl) ?_
  refine h_geti hf hx hb hts hown hX hw flX5_37 rfl dX5_copyFrom_73 (fun x18 hf => ?_)
  refine h_puti hf hx hb hts hown hX hw flX5_37 ⟨rfl, rfl⟩ dX5_copyFrom_76 (fun u19 H19 L19 hf hw => ?_)
  refine lv_aload_n hx hb dX5_copyFrom_79 rfl (lv_at hl 0 rfl) ?_
  refine lv_aload_n hx hb dX5_copyFrom_80 rfl (lv_at hl 1 rfl) ?_
  refine h_geti hf hx hb hts hown hX hw flX5_40 rfl dX5_copyFrom_81 (fun x20 hf => ?_)
  refine h_puti hf hx hb hts hown hX hw flX5_40 ⟨rfl, rfl⟩ dX5_copyFrom_84 (fun u21 H21 L21 hf hw => ?_)
  exact h_vret hf hx hb hr hlk hw dX5_copyFrom_87
theorem c_X5_copyFrom (l : Launch) (E : hE) (B : Nat) (T : hT) (a0 : Nat) (r1 : Nat) (u0 : hM) {z : hM} (hf : fX5_copyFrom T a0 r1 u0 = some z) : h_Ct l E B T yX5_copyFrom cX5_copyFrom 3 none 2 [.ref (B + a0), .ref (B + r1)] u0 z none := h_ofW (by decide) (Nat.le_of_ble_eq_true rfl) (fun p e s m below meth c ls hΓ hl hw => wX5_copyFrom hΓ hf hw hl)
def fX8_keep (T : hT) (a0 : Nat) (p1 : Int32) (u0 : hM) : Option (Int32 × hM) := (fX8_isWithin T p1 (0 : Int32) (1 : Int32) u0).bind fun q1 => if q1.1 = 0 then (some ((-1000000001 : Int32), q1.2)) else ((gtr T q1.2 a0 8 7).bind fun a2 => (aldr 16 T q1.2 a2 p1).bind fun a3 => (gtr T q1.2 a0 8 6).bind fun a4 => (vc T a3 5 (fX5_copyFrom T a3 a4 q1.2)).bind fun q5 => (gtr T q5 a0 8 7).bind fun a6 => (aldr 16 T q5 a6 p1).bind fun a7 => (ptz T q5 a7 5 7 (1 : Int32)).bind fun u8 => some ((1 : Int32), u8))
set_option maxRecDepth 100000 in
set_option maxHeartbeats 4000000 in
theorem wX8_keep {a0 : Nat} {p1 : Int32} {u0 : hM} {z : Int32 × hM} {ls : Array Slot} (hΓ : h_Γ E B T p s m args meth c cX8_keep 2 (some .int) RX8) (hf : fX8_keep T a0 p1 u0 = some z) (hw : h_W E B T s.heap u0 s.heap []) (hl : lv_has ls 2 [(0, .ref (B + a0)), (1, .int p1)]) : W p l e (h_rm 3) s m args below meth c s.heap [] 0 0 (h_Qi below E B T args s z) (F0 m 0 ls []) := by
  obtain ⟨hx, hb, hr, hml, hts, hown, hlk, hX⟩ := id hΓ
  unfold fX8_keep at hf
  refine lv_iload_n hx hb dX8_keep_0 rfl (lv_at hl 1 rfl) ?_
  refine lv_iconst (v := 0) hx hb dX8_keep_1 (by decide) ?_
  refine lv_iconst (v := 1) hx hb dX8_keep_2 (by decide) ?_
  refine h_cSi (As := [.int p1, .int (0 : Int32), .int (1 : Int32)]) (rest := []) hf hx hb hml hts hown hX hw myX8_isWithin msX8_isWithin lkX8_91 (fun q hq => c_X8_isWithin l E B T p1 (0 : Int32) (1 : Int32) u0 hq) ⟨Nat.le_of_ble_eq_true rfl, Nat.le_of_ble_eq_true rfl⟩ ⟨Nat.le_refl _, Nat.le_refl _⟩ rfl hl.1 rfl (Nat.le_of_ble_eq_true rfl) dX8_keep_3 (fun q1 H1 L1 hf hw => ?_)
  refine lv_if_ne (tgt := 12) hx hb dX8_keep_6 (by decide) (fun hc => ?_) (fun hc => ?_)
  · have hf := ifn hc hf
    refine lv_aload_n hx hb dX8_keep_12 rfl (lv_at hl 0 rfl) ?_
    refine h_getr hf hx hb hts hown hX hw flX8_51 rfl dX8_keep_13 (fun a2 hf => ?_)
    refine lv_iload_n hx hb dX8_keep_16 rfl (lv_at hl 1 rfl) ?_
    refine h_aald16 hf hx hb hX hw dX8_keep_17 (fun a3 hf => ?_)
    refine lv_aload_n hx hb dX8_keep_18 rfl (lv_at hl 0 rfl) ?_
    refine h_getr hf hx hb hts hown hX hw flX8_47 rfl dX8_keep_19 (fun a4 hf => ?_)
    refine h_cVv (As := [.ref (B + a4)]) (rest := []) hf hx hb hml hts hown hX hw myX5_copyFrom miX5_copyFrom lkX8_315 ⟨rfl, by decide⟩ (fun q hq => c_X5_copyFrom l E B T a3 a4 q1.2 hq) ⟨Nat.le_of_ble_eq_true rfl, Nat.le_of_ble_eq_true rfl⟩ ⟨Nat.le_refl _, Nat.le_refl _⟩ rfl hl.1 rfl (Nat.le_of_ble_eq_true rfl) dX8_keep_22 (fun q5 H5 L5 hf hw => ?_)
    refine lv_aload_n hx hb dX8_keep_25 rfl (lv_at hl 0 rfl) ?_
    refine h_getr hf hx hb hts hown hX hw flX8_51 rfl dX8_keep_26 (fun a6 hf => ?_)
    refine lv_iload_n hx hb dX8_keep_29 rfl (lv_at hl 1 rfl) ?_
    refine h_aald16 hf hx hb hX hw dX8_keep_30 (fun a7 hf => ?_)
    refine lv_iconst (v := 1) hx hb dX8_keep_31 (by decide) ?_
    refine h_putz hf hx hb hts hown hX hw flX8_318 ⟨rfl, rfl⟩ dX8_keep_32 (fun u8 H8 L8 hf hw => ?_)
    refine lv_iconst (v := 1) hx hb dX8_keep_35 (by decide) ?_
    exact h_iret hf hx hb hr hlk hw dX8_keep_36
  · have hf := ifp hc hf
    refine lv_ldc hx hb hown (hts _ kcX8_158) dX8_keep_9 ?_
    exact h_iret hf hx hb hr hlk hw dX8_keep_11
theorem c_X8_keep (l : Launch) (E : hE) (B : Nat) (T : hT) (a0 : Nat) (p1 : Int32) (u0 : hM) {z : Int32 × hM} (hf : fX8_keep T a0 p1 u0 = some z) : h_Ct l E B T yX8_keep cX8_keep 2 (some .int) 3 [.ref (B + a0), .int p1] u0 z.2 (some (.int z.1)) := h_ofW (by decide) (Nat.le_of_ble_eq_true rfl) (fun p e s m below meth c ls hΓ hl hw => wX8_keep hΓ hf hw hl)
def fX8_goBack (T : hT) (a0 : Nat) (p1 : Int32) (u0 : hM) : Option (Int32 × hM) := (fX8_isWithin T p1 (0 : Int32) (1 : Int32) u0).bind fun q1 => if q1.1 = 0 then (some ((-1000000001 : Int32), q1.2)) else ((gtr T q1.2 a0 8 7).bind fun a2 => (aldr 16 T q1.2 a2 p1).bind fun a3 => (gti T q1.2 a3 5 7).bind fun x4 => if x4 = 0 then (some ((-1000000003 : Int32), q1.2)) else ((gtr T q1.2 a0 8 6).bind fun a5 => (gtr T q1.2 a0 8 7).bind fun a6 => (aldr 16 T q1.2 a6 p1).bind fun a7 => (vc T a5 5 (fX5_copyFrom T a5 a7 q1.2)).bind fun q8 => some ((1 : Int32), q8)))
set_option maxRecDepth 100000 in
set_option maxHeartbeats 4000000 in
theorem wX8_goBack {a0 : Nat} {p1 : Int32} {u0 : hM} {z : Int32 × hM} {ls : Array Slot} (hΓ : h_Γ E B T p s m args meth c cX8_goBack 2 (some .int) RX8) (hf : fX8_goBack T a0 p1 u0 = some z) (hw : h_W E B T s.heap u0 s.heap []) (hl : lv_has ls 2 [(0, .ref (B + a0)), (1, .int p1)]) : W p l e (h_rm 3) s m args below meth c s.heap [] 0 0 (h_Qi below E B T args s z) (F0 m 0 ls []) := by
  obtain ⟨hx, hb, hr, hml, hts, hown, hlk, hX⟩ := id hΓ
  unfold fX8_goBack at hf
  refine lv_iload_n hx hb dX8_goBack_0 rfl (lv_at hl 1 rfl) ?_
  refine lv_iconst (v := 0) hx hb dX8_goBack_1 (by decide) ?_
  refine lv_iconst (v := 1) hx hb dX8_goBack_2 (by decide) ?_
  refine h_cSi (As := [.int p1, .int (0 : Int32), .int (1 : Int32)]) (rest := []) hf hx hb hml hts hown hX hw myX8_isWithin msX8_isWithin lkX8_91 (fun q hq => c_X8_isWithin l E B T p1 (0 : Int32) (1 : Int32) u0 hq) ⟨Nat.le_of_ble_eq_true rfl, Nat.le_of_ble_eq_true rfl⟩ ⟨Nat.le_refl _, Nat.le_refl _⟩ rfl hl.1 rfl (Nat.le_of_ble_eq_true rfl) dX8_goBack_3 (fun q1 H1 L1 hf hw => ?_)
  refine lv_if_ne (tgt := 12) hx hb dX8_goBack_6 (by decide) (fun hc => ?_) (fun hc => ?_)
  · have hf := ifn hc hf
    refine lv_aload_n hx hb dX8_goBack_12 rfl (lv_at hl 0 rfl) ?_
    refine h_getr hf hx hb hts hown hX hw flX8_51 rfl dX8_goBack_13 (fun a2 hf => ?_)
    refine lv_iload_n hx hb dX8_goBack_16 rfl (lv_at hl 1 rfl) ?_
    refine h_aald16 hf hx hb hX hw dX8_goBack_17 (fun a3 hf => ?_)
    refine h_geti hf hx hb hts hown hX hw flX8_318 rfl dX8_goBack_18 (fun x4 hf => ?_)
    refine lv_if_ne (tgt := 27) hx hb dX8_goBack_21 (by decide) (fun hc => ?_) (fun hc => ?_)
    · have hf := ifn hc hf
      refine lv_aload_n hx hb dX8_goBack_27 rfl (lv_at hl 0 rfl) ?_
      refine h_getr hf hx hb hts hown hX hw flX8_47 rfl dX8_goBack_28 (fun a5 hf => ?_)
      refine lv_aload_n hx hb dX8_goBack_31 rfl (lv_at hl 0 rfl) ?_
      refine h_getr hf hx hb hts hown hX hw flX8_51 rfl dX8_goBack_32 (fun a6 hf => ?_)
      refine lv_iload_n hx hb dX8_goBack_35 rfl (lv_at hl 1 rfl) ?_
      refine h_aald16 hf hx hb hX hw dX8_goBack_36 (fun a7 hf => ?_)
      refine h_cVv (As := [.ref (B + a7)]) (rest := []) hf hx hb hml hts hown hX hw myX5_copyFrom miX5_copyFrom lkX8_315 ⟨rfl, by decide⟩ (fun q hq => c_X5_copyFrom l E B T a5 a7 q1.2 hq) ⟨Nat.le_of_ble_eq_true rfl, Nat.le_of_ble_eq_true rfl⟩ ⟨Nat.le_refl _, Nat.le_refl _⟩ rfl hl.1 rfl (Nat.le_of_ble_eq_true rfl) dX8_goBack_37 (fun q8 H8 L8 hf hw => ?_)
      refine lv_iconst (v := 1) hx hb dX8_goBack_40 (by decide) ?_
      exact h_iret hf hx hb hr hlk hw dX8_goBack_41
    · have hf := ifp hc hf
      refine lv_ldc hx hb hown (hts _ kcX8_219) dX8_goBack_24 ?_
      exact h_iret hf hx hb hr hlk hw dX8_goBack_26
  · have hf := ifp hc hf
    refine lv_ldc hx hb hown (hts _ kcX8_158) dX8_goBack_9 ?_
    exact h_iret hf hx hb hr hlk hw dX8_goBack_11
theorem c_X8_goBack (l : Launch) (E : hE) (B : Nat) (T : hT) (a0 : Nat) (p1 : Int32) (u0 : hM) {z : Int32 × hM} (hf : fX8_goBack T a0 p1 u0 = some z) : h_Ct l E B T yX8_goBack cX8_goBack 2 (some .int) 3 [.ref (B + a0), .int p1] u0 z.2 (some (.int z.1)) := h_ofW (by decide) (Nat.le_of_ble_eq_true rfl) (fun p e s m below meth c ls hΓ hl hw => wX8_goBack hΓ hf hw hl)
end GEN
