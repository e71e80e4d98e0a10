section GEN
variable {p : Program} {l : Launch} {e : Env} {s : State} {m : MethodId} {args : Array Value} {below : List Frame} {meth : Method} {c : Code} {E : hE} {B : Nat} {T : hT}
def fX9_fault (T : hT) (a0 : Nat) (u0 : hM) : Option (Int32 × hM) := (gti T u0 a0 9 14).bind fun x1 => some (x1, u0)
set_option maxRecDepth 100000 in
set_option maxHeartbeats 4000000 in
theorem wX9_fault {a0 : Nat} {u0 : hM} {z : Int32 × hM} {ls : Array Slot} (hΓ : h_Γ E B T p s m args meth c cX9_fault 1 (some .int) RX9) (hf : fX9_fault T a0 u0 = some z) (hw : h_W E B T s.heap u0 s.heap []) (hl : lv_has ls 1 [(0, .ref (B + a0))]) : W p l e (h_rm 0) s m args below meth c s.heap [] 0 0 (h_Qi below E B T args s z) (F0 m 0 ls []) := by
  obtain ⟨hx, hb, hr, hml, hts, hown, hlk, hX⟩ := id hΓ
  unfold fX9_fault at hf
  refine lv_aload_n hx hb dX9_fault_0 rfl (lv_at hl 0 rfl) ?_
  refine h_geti hf hx hb hts hown hX hw flX9_39 rfl dX9_fault_1 (fun x1 hf => ?_)
  exact h_iret hf hx hb hr hlk hw dX9_fault_4
theorem c_X9_fault (l : Launch) (E : hE) (B : Nat) (T : hT) (a0 : Nat) (u0 : hM) {z : Int32 × hM} (hf : fX9_fault T a0 u0 = some z) : h_Ct l E B T yX9_fault cX9_fault 1 (some .int) 0 [.ref (B + a0)] u0 z.2 (some (.int z.1)) := h_ofW (by decide) (Nat.le_of_ble_eq_true rfl) (fun p e s m below meth c ls hΓ hl hw => wX9_fault hΓ hf hw hl)
def fX9_doneSet_L4 (T : hT) (c0 : Nat) (c1 : Int32) (ex : Int32 → hM → Option (Int32 × hM)) : Nat → Int32 → Int32 → hM → Option (Int32 × hM)
  | 0, _, _, _ => none
  | n + 1, v2, v3, u0 => (gti T u0 c0 9 5).bind fun x1 => if x1 ≤ v3 then (ex v2 u0) else ((gtr T u0 c0 9 8).bind fun a2 => (ald 11 T u0 a2 v3).bind fun x3 => lt (fun (x4 : Int32) (u5 : hM) => lt ((v2 ||| x4)) fun x6 => lt (v3 + (1 : Int32)) fun x7 => fX9_doneSet_L4 T c0 c1 ex n x6 x7 u5) fun J44 => lt (fun (u8 : hM) => J44 ((1 : Int32) <<< (v3 &&& 31)) u8) fun J37 => if x3 = (1 : Int32) then (J37 u0) else ((gtr T u0 c0 9 8).bind fun a9 => (ald 11 T u0 a9 v3).bind fun x10 => lt (fun (u11 : hM) => J44 (0 : Int32) u11) fun J43 => if x10 = (2 : Int32) then (if c1 = 0 then (J37 u0) else (J43 u0)) else (J43 u0)))
def fX9_doneSet (T : hT) (a0 : Nat) (p1 : Int32) (u0 : hM) : Option (Int32 × hM) := fX9_doneSet_L4 T a0 p1 (fun (x12 : Int32) (u13 : hM) => some (x12, u13)) 6000 (0 : Int32) (0 : Int32) u0
set_option maxRecDepth 100000 in
set_option maxHeartbeats 4000000 in
theorem wfX9_doneSet_L4 {c0 : Nat} {c1 : Int32} {ex : Int32 → hM → Option (Int32 × hM)} {z : Int32 × hM} (hΓ : h_Γ E B T p s m args meth c cX9_doneSet 4 (some .int) RX9) (hex : ∀ (y2 : Int32) (u9 : hM) (H9 : Heap) (L9 : List Loc) (ls : Array Slot), ex y2 u9 = some z → h_W E B T s.heap u9 H9 L9 → lv_has ls 4 [(2, .int y2)] → W p l e (h_rm 0) s m args below meth c H9 L9 0 0 (h_Qi below E B T args s z) (F0 m 52 ls [])) : ∀ (n : Nat) (v2 : Int32) (v3 : Int32) (u0 : hM) (H0 : Heap) (L0 : List Loc) (ls : Array Slot), fX9_doneSet_L4 T c0 c1 ex n v2 v3 u0 = some z → h_W E B T s.heap u0 H0 L0 → lv_has ls 4 [(0, .ref (B + c0)), (1, .int c1), (2, .int v2), (3, .int v3)] → W p l e (h_rm 0) s m args below meth c H0 L0 0 0 (h_Qi below E B T args s z) (F0 m 4 ls []) := by
  obtain ⟨hx, hb, hr, hml, hts, hown, hlk, hX⟩ := id hΓ
  intro n
  induction n with
  | zero =>
    intro v2 v3 u0 H0 L0 ls hf hw hl
    exact absurd (show (none : Option (Int32 × hM)) = some z from hf) (fun h => by cases h)
  | succ n ih =>
    intro v2 v3 u0 H0 L0 ls hf hw hl
    rw [fX9_doneSet_L4] at hf
    refine lv_iload_n hx hb dX9_doneSet_4 rfl (lv_at hl 3 rfl) ?_
    refine lv_aload_n hx hb dX9_doneSet_5 rfl (lv_at hl 0 rfl) ?_
    refine h_geti hf hx hb hts hown hX hw flX9_94 rfl dX9_doneSet_6 (fun x1 hf => ?_)
    refine lv_icmp_ge (tgt := 52) hx hb dX9_doneSet_9 (by decide) (fun hc => ?_) (fun hc => ?_)
    · have hf := ifp hc hf
      exact hex v2 u0 _ _ _ hf hw (lv_sub hl [2] rfl)
    · have hf := ifn hc hf
      refine lv_iload_n hx hb dX9_doneSet_12 rfl (lv_at hl 2 rfl) ?_
      refine lv_aload_n hx hb dX9_doneSet_13 rfl (lv_at hl 0 rfl) ?_
      refine h_getr hf hx hb hts hown hX hw flX9_26 rfl dX9_doneSet_14 (fun a2 hf => ?_)
      refine lv_iload_n hx hb dX9_doneSet_17 rfl (lv_at hl 3 rfl) ?_
      refine h_iald hf hx hb hX hw dX9_doneSet_18 (fun x3 hf => ?_)
      refine lv_iconst (v := 1) hx hb dX9_doneSet_19 (by decide) ?_
      obtain ⟨J44, eJ44, hf⟩ := h_lt hf
      have hJ44 : ∀ (x4 : Int32) (u5 : hM) (H5 : Heap) (L5 : List Loc) (ls : Array Slot), J44 x4 u5 = some z → h_W E B T s.heap u5 H5 L5 → lv_has ls 4 [(0, .ref (B + c0)), (1, .int c1), (3, .int v3)] → W p l e (h_rm 0) s m args below meth c H5 L5 0 0 (h_Qi below E B T args s z) (F0 m 44 ls [.int x4, .int v2]) := by
        intro x4 u5 H5 L5 ls hf hw hl
        rw [eJ44] at hf
        refine lv_ior hx hb dX9_doneSet_44 ?_
        refine h_nmi hf (fun x6 hf => ?_)
        refine lv_istore_n (lv' := [(2, .int x6), (0, .ref (B + c0)), (1, .int c1), (3, .int v3)]) hx hb dX9_doneSet_45 rfl hl (by decide) rfl (fun ls hl => ?_)
        refine h_iinc (k := 3) hf hx hb dX9_doneSet_46 hl rfl (by decide) (by decide) (fun x7 ls hf hl => ?_)
        have hl : lv_has ls 4 [(3, .int x7), (2, .int x6), (0, .ref (B + c0)), (1, .int c1)] := hl
        refine lv_goto (tgt := 4) hx hb dX9_doneSet_49 (by decide) ?_
        exact ih x6 x7 u5 _ _ _ hf hw (lv_sub hl [2, 3, 1, 0] rfl)
      clear eJ44
      obtain ⟨J37, eJ37, hf⟩ := h_lt hf
      have hJ37 : ∀ (u8 : hM) (H8 : Heap) (L8 : List Loc) (ls : Array Slot), J37  u8 = some z → h_W E B T s.heap u8 H8 L8 → lv_has ls 4 [(0, .ref (B + c0)), (1, .int c1), (3, .int v3)] → W p l e (h_rm 0) s m args below meth c H8 L8 0 0 (h_Qi below E B T args s z) (F0 m 37 ls [.int v2]) := by
        intro  u8 H8 L8 ls hf hw hl
        rw [eJ37] at hf
        refine lv_iconst (v := 1) hx hb dX9_doneSet_37 (by decide) ?_
        refine lv_iload_n hx hb dX9_doneSet_38 rfl (lv_at hl 2 rfl) ?_
        refine lv_ishl hx hb dX9_doneSet_39 ?_
        refine lv_goto (tgt := 44) hx hb dX9_doneSet_40 (by decide) ?_
        exact hJ44 ((1 : Int32) <<< (v3 &&& 31)) u8 _ _ _ hf hw (lv_sub hl [0, 1, 2] rfl)
      clear eJ37
      refine lv_icmp_eq (tgt := 37) hx hb dX9_doneSet_20 (by decide) (fun hc => ?_) (fun hc => ?_)
      · have hf := ifp hc hf
        exact hJ37  u0 _ _ _ hf hw (lv_sub hl [0, 1, 3] rfl)
      · have hf := ifn hc hf
        refine lv_aload_n hx hb dX9_doneSet_23 rfl (lv_at hl 0 rfl) ?_
        refine h_getr hf hx hb hts hown hX hw flX9_26 rfl dX9_doneSet_24 (fun a9 hf => ?_)
        refine lv_iload_n hx hb dX9_doneSet_27 rfl (lv_at hl 3 rfl) ?_
        refine h_iald hf hx hb hX hw dX9_doneSet_28 (fun x10 hf => ?_)
        refine lv_iconst (v := 2) hx hb dX9_doneSet_29 (by decide) ?_
        obtain ⟨J43, eJ43, hf⟩ := h_lt hf
        have hJ43 : ∀ (u11 : hM) (H11 : Heap) (L11 : List Loc) (ls : Array Slot), J43  u11 = some z → h_W E B T s.heap u11 H11 L11 → lv_has ls 4 [(0, .ref (B + c0)), (1, .int c1), (3, .int v3)] → W p l e (h_rm 0) s m args below meth c H11 L11 0 0 (h_Qi below E B T args s z) (F0 m 43 ls [.int v2]) := by
          intro  u11 H11 L11 ls hf hw hl
          rw [eJ43] at hf
          refine lv_iconst (v := 0) hx hb dX9_doneSet_43 (by decide) ?_
          exact hJ44 (0 : Int32) u11 _ _ _ hf hw (lv_sub hl [0, 1, 2] rfl)
        clear eJ43
        refine lv_icmp_ne (tgt := 43) hx hb dX9_doneSet_30 (by decide) (fun hc => ?_) (fun hc => ?_)
        · have hf := ifn hc hf
          exact hJ43  u0 _ _ _ hf hw (lv_sub hl [0, 1, 3] rfl)
        · have hf := ifp hc hf
          refine lv_iload_n hx hb dX9_doneSet_33 rfl (lv_at hl 1 rfl) ?_
          refine lv_if_ne (tgt := 43) hx hb dX9_doneSet_34 (by decide) (fun hc => ?_) (fun hc => ?_)
          · have hf := ifn hc hf
            exact hJ43  u0 _ _ _ hf hw (lv_sub hl [0, 1, 3] rfl)
          · have hf := ifp hc hf
            exact hJ37  u0 _ _ _ hf hw (lv_sub hl [0, 1, 3] rfl)
set_option maxRecDepth 100000 in
set_option maxHeartbeats 4000000 in
theorem wX9_doneSet {a0 : Nat} {p1 : Int32} {u0 : hM} {z : Int32 × hM} {ls : Array Slot} (hΓ : h_Γ E B T p s m args meth c cX9_doneSet 4 (some .int) RX9) (hf : fX9_doneSet T a0 p1 u0 = some z) (hw : h_W E B T s.heap u0 s.heap []) (hl : lv_has ls 4 [(0, .ref (B + a0)), (1, .int p1)]) : W p l e (h_rm 0) s m args below meth c s.heap [] 0 0 (h_Qi below E B T args s z) (F0 m 0 ls []) := by
  obtain ⟨hx, hb, hr, hml, hts, hown, hlk, hX⟩ := id hΓ
  unfold fX9_doneSet at hf
  refine lv_iconst (v := 0) hx hb dX9_doneSet_0 (by decide) ?_
  refine lv_istore_n (lv' := [(2, .int (0 : Int32)), (0, .ref (B + a0)), (1, .int p1)]) hx hb dX9_doneSet_1 rfl hl (by decide) rfl (fun ls hl => ?_)
  refine lv_iconst (v := 0) hx hb dX9_doneSet_2 (by decide) ?_
  refine lv_istore_n (lv' := [(3, .int (0 : Int32)), (2, .int (0 : Int32)), (0, .ref (B + a0)), (1, .int p1)]) hx hb dX9_doneSet_3 rfl hl (by decide) rfl (fun ls hl => ?_)
  refine wfX9_doneSet_L4 hΓ ?_ 6000 (0 : Int32) (0 : Int32) u0 _ _ _ hf hw (lv_sub hl [2, 3, 1, 0] rfl)
  intro x12 u13 H13 L13 ls hf hw hl
  refine lv_iload_n hx hb dX9_doneSet_52 rfl (lv_at hl 0 rfl) ?_
  exact h_iret hf hx hb hr hlk hw dX9_doneSet_53
theorem c_X9_doneSet (l : Launch) (E : hE) (B : Nat) (T : hT) (a0 : Nat) (p1 : Int32) (u0 : hM) {z : Int32 × hM} (hf : fX9_doneSet T a0 p1 u0 = some z) : h_Ct l E B T yX9_doneSet cX9_doneSet 4 (some .int) 0 [.ref (B + a0), .int p1] u0 z.2 (some (.int z.1)) := h_ofW (by decide) (Nat.le_of_ble_eq_true rfl) (fun p e s m below meth c ls hΓ hl hw => wX9_doneSet hΓ hf hw hl)
def fX9_told (T : hT) (a0 : Nat) (p1 : Int32) (u0 : hM) : Option (Int32 × hM) := if p1 = 0 then ((gti T u0 a0 9 0).bind fun x1 => some (x1, u0)) else if p1 = 1 then ((gti T u0 a0 9 3).bind fun x2 => some (x2, u0)) else if p1 = 2 then ((gti T u0 a0 9 5).bind fun x3 => some (x3, u0)) else if p1 = 3 then ((gti T u0 a0 9 13).bind fun x4 => some (x4, u0)) else if p1 = 4 then ((gti T u0 a0 9 9).bind fun x5 => some (x5, u0)) else if p1 = 5 then ((gti T u0 a0 9 35).bind fun x6 => some (x6, u0)) else if p1 = 6 then ((gti T u0 a0 9 32).bind fun x7 => some (x7, u0)) else if p1 = 7 then ((vc T a0 9 (fX9_doneSet T a0 (0 : Int32) u0)).bind fun q8 => some (q8.1, q8.2)) else if p1 = 8 then ((vc T a0 9 (fX9_doneSet T a0 (1 : Int32) u0)).bind fun q9 => some (q9.1, q9.2)) else (some ((-1000000002 : Int32), u0))
set_option maxRecDepth 100000 in
set_option maxHeartbeats 4000000 in
theorem wX9_told {a0 : Nat} {p1 : Int32} {u0 : hM} {z : Int32 × hM} {ls : Array Slot} (hΓ : h_Γ E B T p s m args meth c cX9_told 2 (some .int) RX9) (hf : fX9_told T a0 p1 u0 = some z) (hw : h_W E B T s.heap u0 s.heap []) (hl : lv_has ls 2 [(0, .ref (B + a0)), (1, .int p1)]) : W p l e (h_rm 1) s m args below meth c s.heap [] 0 0 (h_Qi below E B T args s z) (F0 m 0 ls []) := by
  obtain ⟨hx, hb, hr, hml, hts, hown, hlk, hX⟩ := id hΓ
  unfold fX9_told at hf
  refine lv_iload_n hx hb dX9_told_0 rfl (lv_at hl 1 rfl) ?_
  by_cases hc0 : p1 = 0
  · have hf := ifp hc0 hf
    refine lv_tableIn (off := 51) (tgt := 52) hx hb dX9_told_1 (by rw [hc0]; decide) (by rw [hc0]; decide) (by rw [hc0]; decide) (by decide) ?_
    refine lv_aload_n hx hb dX9_told_52 rfl (lv_at hl 0 rfl) ?_
    refine h_geti hf hx hb hts hown hX hw flX9_178 rfl dX9_told_53 (fun x1 hf => ?_)
    exact h_iret hf hx hb hr hlk hw dX9_told_56
  have hf := ifn hc0 hf
  by_cases hc1 : p1 = 1
  · have hf := ifp hc1 hf
    refine lv_tableIn (off := 56) (tgt := 57) hx hb dX9_told_1 (by rw [hc1]; decide) (by rw [hc1]; decide) (by rw [hc1]; decide) (by decide) ?_
    refine lv_aload_n hx hb dX9_told_57 rfl (lv_at hl 0 rfl) ?_
    refine h_geti hf hx hb hts hown hX hw flX9_87 rfl dX9_told_58 (fun x2 hf => ?_)
    exact h_iret hf hx hb hr hlk hw dX9_told_61
  have hf := ifn hc1 hf
  by_cases hc2 : p1 = 2
  · have hf := ifp hc2 hf
    refine lv_tableIn (off := 61) (tgt := 62) hx hb dX9_told_1 (by rw [hc2]; decide) (by rw [hc2]; decide) (by rw [hc2]; decide) (by decide) ?_
    refine lv_aload_n hx hb dX9_told_62 rfl (lv_at hl 0 rfl) ?_
    refine h_geti hf hx hb hts hown hX hw flX9_94 rfl dX9_told_63 (fun x3 hf => ?_)
    exact h_iret hf hx hb hr hlk hw dX9_told_66
  have hf := ifn hc2 hf
  by_cases hc3 : p1 = 3
  · have hf := ifp hc3 hf
    refine lv_tableIn (off := 66) (tgt := 67) hx hb dX9_told_1 (by rw [hc3]; decide) (by rw [hc3]; decide) (by rw [hc3]; decide) (by decide) ?_
    refine lv_aload_n hx hb dX9_told_67 rfl (lv_at hl 0 rfl) ?_
    refine h_geti hf hx hb hts hown hX hw flX9_100 rfl dX9_told_68 (fun x4 hf => ?_)
    exact h_iret hf hx hb hr hlk hw dX9_told_71
  have hf := ifn hc3 hf
  by_cases hc4 : p1 = 4
  · have hf := ifp hc4 hf
    refine lv_tableIn (off := 71) (tgt := 72) hx hb dX9_told_1 (by rw [hc4]; decide) (by rw [hc4]; decide) (by rw [hc4]; decide) (by decide) ?_
    refine lv_aload_n hx hb dX9_told_72 rfl (lv_at hl 0 rfl) ?_
    refine h_geti hf hx hb hts hown hX hw flX9_29 rfl dX9_told_73 (fun x5 hf => ?_)
    exact h_iret hf hx hb hr hlk hw dX9_told_76
  have hf := ifn hc4 hf
  by_cases hc5 : p1 = 5
  · have hf := ifp hc5 hf
    refine lv_tableIn (off := 76) (tgt := 77) hx hb dX9_told_1 (by rw [hc5]; decide) (by rw [hc5]; decide) (by rw [hc5]; decide) (by decide) ?_
    refine lv_aload_n hx hb dX9_told_77 rfl (lv_at hl 0 rfl) ?_
    refine h_geti hf hx hb hts hown hX hw flX9_184 rfl dX9_told_78 (fun x6 hf => ?_)
    exact h_iret hf hx hb hr hlk hw dX9_told_81
  have hf := ifn hc5 hf
  by_cases hc6 : p1 = 6
  · have hf := ifp hc6 hf
    refine lv_tableIn (off := 81) (tgt := 82) hx hb dX9_told_1 (by rw [hc6]; decide) (by rw [hc6]; decide) (by rw [hc6]; decide) (by decide) ?_
    refine lv_aload_n hx hb dX9_told_82 rfl (lv_at hl 0 rfl) ?_
    refine h_geti hf hx hb hts hown hX hw flX9_206 rfl dX9_told_83 (fun x7 hf => ?_)
    exact h_iret hf hx hb hr hlk hw dX9_told_86
  have hf := ifn hc6 hf
  by_cases hc7 : p1 = 7
  · have hf := ifp hc7 hf
    refine lv_tableIn (off := 86) (tgt := 87) hx hb dX9_told_1 (by rw [hc7]; decide) (by rw [hc7]; decide) (by rw [hc7]; decide) (by decide) ?_
    refine lv_aload_n hx hb dX9_told_87 rfl (lv_at hl 0 rfl) ?_
    refine lv_iconst (v := 0) hx hb dX9_told_88 (by decide) ?_
    refine h_cVi (As := [.int (0 : Int32)]) (rest := []) hf hx hb hml hts hown hX hw myX9_doneSet miX9_doneSet lkX9_209 ⟨rfl, by decide⟩ (fun q hq => c_X9_doneSet l E B T a0 (0 : Int32) u0 hq) ⟨Nat.le_of_ble_eq_true rfl, Nat.le_of_ble_eq_true rfl⟩ ⟨Nat.le_refl _, Nat.le_refl _⟩ rfl hl.1 rfl (Nat.le_of_ble_eq_true rfl) dX9_told_89 (fun q8 H8 L8 hf hw => ?_)
    exact h_iret hf hx hb hr hlk hw dX9_told_92
  have hf := ifn hc7 hf
  by_cases hc8 : p1 = 8
  · have hf := ifp hc8 hf
    refine lv_tableIn (off := 92) (tgt := 93) hx hb dX9_told_1 (by rw [hc8]; decide) (by rw [hc8]; decide) (by rw [hc8]; decide) (by decide) ?_
    refine lv_aload_n hx hb dX9_told_93 rfl (lv_at hl 0 rfl) ?_
    refine lv_iconst (v := 1) hx hb dX9_told_94 (by decide) ?_
    refine h_cVi (As := [.int (1 : Int32)]) (rest := []) hf hx hb hml hts hown hX hw myX9_doneSet miX9_doneSet lkX9_209 ⟨rfl, by decide⟩ (fun q hq => c_X9_doneSet l E B T a0 (1 : Int32) u0 hq) ⟨Nat.le_of_ble_eq_true rfl, Nat.le_of_ble_eq_true rfl⟩ ⟨Nat.le_refl _, Nat.le_refl _⟩ rfl hl.1 rfl (Nat.le_of_ble_eq_true rfl) dX9_told_95 (fun q9 H9 L9 hf hw => ?_)
    exact h_iret hf hx hb hr hlk hw dX9_told_98
  have hf := ifn hc8 hf
  refine lv_tableOut (tgt := 99) hx hb dX9_told_1 (h_out8 ⟨hc0, hc1, hc2, hc3, hc4, hc5, hc6, hc7, hc8⟩) (by decide) ?_
  refine lv_ldc hx hb hown (hts _ kcX9_99) dX9_told_99 ?_
  exact h_iret hf hx hb hr hlk hw dX9_told_101
theorem c_X9_told (l : Launch) (E : hE) (B : Nat) (T : hT) (a0 : Nat) (p1 : Int32) (u0 : hM) {z : Int32 × hM} (hf : fX9_told T a0 p1 u0 = some z) : h_Ct l E B T yX9_told cX9_told 2 (some .int) 1 [.ref (B + a0), .int p1] u0 z.2 (some (.int z.1)) := h_ofW (by decide) (Nat.le_of_ble_eq_true rfl) (fun p e s m below meth c ls hΓ hl hw => wX9_told hΓ hf hw hl)
def fX9_isNote (T : hT) (a0 : Nat) (p1 : Int32) (u0 : hM) : Option (Int32 × hM) := (gti T u0 a0 9 0).bind fun x1 => (fX9_in T p1.toInt64 (0 : Int64) ((x1 - (1 : Int32)).toInt64) u0).bind fun q2 => rtz q2.1 q2.2
set_option maxRecDepth 100000 in
set_option maxHeartbeats 4000000 in
theorem wX9_isNote {a0 : Nat} {p1 : Int32} {u0 : hM} {z : Int32 × hM} {ls : Array Slot} (hΓ : h_Γ E B T p s m args meth c cX9_isNote 2 (some .boolean) RX9) (hf : fX9_isNote T a0 p1 u0 = some z) (hw : h_W E B T s.heap u0 s.heap []) (hl : lv_has ls 2 [(0, .ref (B + a0)), (1, .int p1)]) : W p l e (h_rm 1) s m args below meth c s.heap [] 0 0 (h_Qi below E B T args s z) (F0 m 0 ls []) := by
  obtain ⟨hx, hb, hr, hml, hts, hown, hlk, hX⟩ := id hΓ
  unfold fX9_isNote at hf
  refine lv_iload_n hx hb dX9_isNote_0 rfl (lv_at hl 1 rfl) ?_
  refine lv_i2l hx hb dX9_isNote_1 rfl ?_
  refine lv_lconst (v := 0) hx hb dX9_isNote_2 (by decide) ?_
  refine lv_aload_n hx hb dX9_isNote_3 rfl (lv_at hl 0 rfl) ?_
  refine h_geti hf hx hb hts hown hX hw flX9_178 rfl dX9_isNote_4 (fun x1 hf => ?_)
  refine lv_iconst (v := 1) hx hb dX9_isNote_7 (by decide) ?_
  refine lv_isub hx hb dX9_isNote_8 ?_
  refine lv_i2l hx hb dX9_isNote_9 rfl ?_
  refine h_cSi (As := [.long p1.toInt64, .long (0 : Int64), .long (x1 - (1 : Int32)).toInt64]) (rest := []) hf hx hb hml hts hown hX hw myX9_in msX9_in lkX9_90 (fun q hq => c_X9_in l E B T p1.toInt64 (0 : Int64) ((x1 - (1 : Int32)).toInt64) u0 hq) ⟨Nat.le_of_ble_eq_true rfl, Nat.le_of_ble_eq_true rfl⟩ ⟨Nat.le_refl _, Nat.le_refl _⟩ rfl hl.1 rfl (Nat.le_of_ble_eq_true rfl) dX9_isNote_10 (fun q2 H2 L2 hf hw => ?_)
  exact h_zret hf hx hb hr hlk hw dX9_isNote_13
theorem c_X9_isNote (l : Launch) (E : hE) (B : Nat) (T : hT) (a0 : Nat) (p1 : Int32) (u0 : hM) {z : Int32 × hM} (hf : fX9_isNote T a0 p1 u0 = some z) : h_Ct l E B T yX9_isNote cX9_isNote 2 (some .boolean) 1 [.ref (B + a0), .int p1] u0 z.2 (some (.int z.1)) := h_ofW (by decide) (Nat.le_of_ble_eq_true rfl) (fun p e s m below meth c ls hΓ hl hw => wX9_isNote hΓ hf hw hl)
def fX9_note (T : hT) (a0 : Nat) (p1 : Int32) (p2 : Int32) (u0 : hM) : Option (Int32 × hM) := (vc T a0 9 (fX9_isNote T a0 p1 u0)).bind fun q1 => if q1.1 = 0 then (some ((-1000000001 : Int32), q1.2)) else (if p2 = 0 then ((gtr T q1.2 a0 9 1).bind fun a4 => (ald 11 T q1.2 a4 p1).bind fun x5 => some (x5, q1.2)) else (if p2 = (1 : Int32) then ((gtr T q1.2 a0 9 2).bind fun a2 => (ald 13 T q1.2 a2 p1).bind fun x3 => if x3 = 0 then (some ((0 : Int32), q1.2)) else (some ((1 : Int32), q1.2))) else (some ((-1000000002 : Int32), q1.2))))
set_option maxRecDepth 100000 in
set_option maxHeartbeats 4000000 in
theorem wX9_note {a0 : Nat} {p1 : Int32} {p2 : Int32} {u0 : hM} {z : Int32 × hM} {ls : Array Slot} (hΓ : h_Γ E B T p s m args meth c cX9_note 3 (some .int) RX9) (hf : fX9_note T a0 p1 p2 u0 = some z) (hw : h_W E B T s.heap u0 s.heap []) (hl : lv_has ls 3 [(0, .ref (B + a0)), (1, .int p1), (2, .int p2)]) : W p l e (h_rm 2) s m args below meth c s.heap [] 0 0 (h_Qi below E B T args s z) (F0 m 0 ls []) := by
  obtain ⟨hx, hb, hr, hml, hts, hown, hlk, hX⟩ := id hΓ
  unfold fX9_note at hf
  refine lv_aload_n hx hb dX9_note_0 rfl (lv_at hl 0 rfl) ?_
  refine lv_iload_n hx hb dX9_note_1 rfl (lv_at hl 1 rfl) ?_
  refine h_cVi (As := [.int p1]) (rest := []) hf hx hb hml hts hown hX hw myX9_isNote miX9_isNote lkX9_212 ⟨rfl, by decide⟩ (fun q hq => c_X9_isNote l E B T a0 p1 u0 hq) ⟨Nat.le_of_ble_eq_true rfl, Nat.le_of_ble_eq_true rfl⟩ ⟨Nat.le_refl _, Nat.le_refl _⟩ rfl hl.1 rfl (Nat.le_of_ble_eq_true rfl) dX9_note_2 (fun q1 H1 L1 hf hw => ?_)
  refine lv_if_ne (tgt := 11) hx hb dX9_note_5 (by decide) (fun hc => ?_) (fun hc => ?_)
  · have hf := ifn hc hf
    refine lv_iload_n hx hb dX9_note_11 rfl (lv_at hl 2 rfl) ?_
    refine lv_if_ne (tgt := 24) hx hb dX9_note_12 (by decide) (fun hc => ?_) (fun hc => ?_)
    · have hf := ifn hc hf
      refine lv_iload_n hx hb dX9_note_24 rfl (lv_at hl 2 rfl) ?_
      refine lv_iconst (v := 1) hx hb dX9_note_25 (by decide) ?_
      refine lv_icmp_ne (tgt := 46) hx hb dX9_note_26 (by decide) (fun hc => ?_) (fun hc => ?_)
      · have hf := ifn hc hf
        refine lv_ldc hx hb hown (hts _ kcX9_99) dX9_note_46 ?_
        exact h_iret hf hx hb hr hlk hw dX9_note_48
      · have hf := ifp hc hf
        refine lv_aload_n hx hb dX9_note_29 rfl (lv_at hl 0 rfl) ?_
        refine h_getr hf hx hb hts hown hX hw flX9_13 rfl dX9_note_30 (fun a2 hf => ?_)
        refine lv_iload_n hx hb dX9_note_33 rfl (lv_at hl 1 rfl) ?_
        refine h_zald hf hx hb hX hw dX9_note_34 (fun x3 hf => ?_)
        refine lv_if_eq (tgt := 42) hx hb dX9_note_35 (by decide) (fun hc => ?_) (fun hc => ?_)
        · have hf := ifp hc hf
          refine lv_iconst (v := 0) hx hb dX9_note_42 (by decide) ?_
          refine lv_goto (tgt := 48) hx hb dX9_note_43 (by decide) ?_
          exact h_iret hf hx hb hr hlk hw dX9_note_48
        · have hf := ifn hc hf
          refine lv_iconst (v := 1) hx hb dX9_note_38 (by decide) ?_
          refine lv_goto (tgt := 48) hx hb dX9_note_39 (by decide) ?_
          exact h_iret hf hx hb hr hlk hw dX9_note_48
    · have hf := ifp hc hf
      refine lv_aload_n hx hb dX9_note_15 rfl (lv_at hl 0 rfl) ?_
      refine h_getr hf hx hb hts hown hX hw flX9_7 rfl dX9_note_16 (fun a4 hf => ?_)
      refine lv_iload_n hx hb dX9_note_19 rfl (lv_at hl 1 rfl) ?_
      refine h_iald hf hx hb hX hw dX9_note_20 (fun x5 hf => ?_)
      refine lv_goto (tgt := 48) hx hb dX9_note_21 (by decide) ?_
      exact h_iret hf hx hb hr hlk hw dX9_note_48
  · have hf := ifp hc hf
    refine lv_ldc hx hb hown (hts _ kcX9_216) dX9_note_8 ?_
    exact h_iret hf hx hb hr hlk hw dX9_note_10
theorem c_X9_note (l : Launch) (E : hE) (B : Nat) (T : hT) (a0 : Nat) (p1 : Int32) (p2 : Int32) (u0 : hM) {z : Int32 × hM} (hf : fX9_note T a0 p1 p2 u0 = some z) : h_Ct l E B T yX9_note cX9_note 3 (some .int) 2 [.ref (B + a0), .int p1, .int p2] u0 z.2 (some (.int z.1)) := h_ofW (by decide) (Nat.le_of_ble_eq_true rfl) (fun p e s m below meth c ls hΓ hl hw => wX9_note hΓ hf hw hl)
def fX9_isSinger (T : hT) (a0 : Nat) (p1 : Int32) (u0 : hM) : Option (Int32 × hM) := (gti T u0 a0 9 3).bind fun x1 => (fX9_in T p1.toInt64 (0 : Int64) ((x1 - (1 : Int32)).toInt64) u0).bind fun q2 => rtz q2.1 q2.2
set_option maxRecDepth 100000 in
set_option maxHeartbeats 4000000 in
theorem wX9_isSinger {a0 : Nat} {p1 : Int32} {u0 : hM} {z : Int32 × hM} {ls : Array Slot} (hΓ : h_Γ E B T p s m args meth c cX9_isSinger 2 (some .boolean) RX9) (hf : fX9_isSinger T a0 p1 u0 = some z) (hw : h_W E B T s.heap u0 s.heap []) (hl : lv_has ls 2 [(0, .ref (B + a0)), (1, .int p1)]) : W p l e (h_rm 1) s m args below meth c s.heap [] 0 0 (h_Qi below E B T args s z) (F0 m 0 ls []) := by
  obtain ⟨hx, hb, hr, hml, hts, hown, hlk, hX⟩ := id hΓ
  unfold fX9_isSinger at hf
  refine lv_iload_n hx hb dX9_isSinger_0 rfl (lv_at hl 1 rfl) ?_
  refine lv_i2l hx hb dX9_isSinger_1 rfl ?_
  refine lv_lconst (v := 0) hx hb dX9_isSinger_2 (by decide) ?_
  refine lv_aload_n hx hb dX9_isSinger_3 rfl (lv_at hl 0 rfl) ?_
  refine h_geti hf hx hb hts hown hX hw flX9_87 rfl dX9_isSinger_4 (fun x1 hf => ?_)
  refine lv_iconst (v := 1) hx hb dX9_isSinger_7 (by decide) ?_
  refine lv_isub hx hb dX9_isSinger_8 ?_
  refine lv_i2l hx hb dX9_isSinger_9 rfl ?_
  refine h_cSi (As := [.long p1.toInt64, .long (0 : Int64), .long (x1 - (1 : Int32)).toInt64]) (rest := []) hf hx hb hml hts hown hX hw myX9_in msX9_in lkX9_90 (fun q hq => c_X9_in l E B T p1.toInt64 (0 : Int64) ((x1 - (1 : Int32)).toInt64) u0 hq) ⟨Nat.le_of_ble_eq_true rfl, Nat.le_of_ble_eq_true rfl⟩ ⟨Nat.le_refl _, Nat.le_refl _⟩ rfl hl.1 rfl (Nat.le_of_ble_eq_true rfl) dX9_isSinger_10 (fun q2 H2 L2 hf hw => ?_)
  exact h_zret hf hx hb hr hlk hw dX9_isSinger_13
theorem c_X9_isSinger (l : Launch) (E : hE) (B : Nat) (T : hT) (a0 : Nat) (p1 : Int32) (u0 : hM) {z : Int32 × hM} (hf : fX9_isSinger T a0 p1 u0 = some z) : h_Ct l E B T yX9_isSinger cX9_isSinger 2 (some .boolean) 1 [.ref (B + a0), .int p1] u0 z.2 (some (.int z.1)) := h_ofW (by decide) (Nat.le_of_ble_eq_true rfl) (fun p e s m below meth c ls hΓ hl hw => wX9_isSinger hΓ hf hw hl)
def fX9_singer (T : hT) (a0 : Nat) (p1 : Int32) (p2 : Int32) (u0 : hM) : Option (Int32 × hM) := (vc T a0 9 (fX9_isSinger T a0 p1 u0)).bind fun q1 => if q1.1 = 0 then (some ((-1000000001 : Int32), q1.2)) else ((fX9_in T p2.toInt64 (0 : Int64) (7 : Int64) q1.2).bind fun q2 => if q2.1 = 0 then (some ((-1000000002 : Int32), q2.2)) else ((gtr T q2.2 a0 9 4).bind fun a3 => (ald 11 T q2.2 a3 (((8 : Int32) * p1) + p2)).bind fun x4 => some (x4, q2.2)))
set_option maxRecDepth 100000 in
set_option maxHeartbeats 4000000 in
theorem wX9_singer {a0 : Nat} {p1 : Int32} {p2 : Int32} {u0 : hM} {z : Int32 × hM} {ls : Array Slot} (hΓ : h_Γ E B T p s m args meth c cX9_singer 3 (some .int) RX9) (hf : fX9_singer T a0 p1 p2 u0 = some z) (hw : h_W E B T s.heap u0 s.heap []) (hl : lv_has ls 3 [(0, .ref (B + a0)), (1, .int p1), (2, .int p2)]) : W p l e (h_rm 2) s m args below meth c s.heap [] 0 0 (h_Qi below E B T args s z) (F0 m 0 ls []) := by
  obtain ⟨hx, hb, hr, hml, hts, hown, hlk, hX⟩ := id hΓ
  unfold fX9_singer at hf
  refine lv_aload_n hx hb dX9_singer_0 rfl (lv_at hl 0 rfl) ?_
  refine lv_iload_n hx hb dX9_singer_1 rfl (lv_at hl 1 rfl) ?_
  refine h_cVi (As := [.int p1]) (rest := []) hf hx hb hml hts hown hX hw myX9_isSinger miX9_isSinger lkX9_217 ⟨rfl, by decide⟩ (fun q hq => c_X9_isSinger l E B T a0 p1 u0 hq) ⟨Nat.le_of_ble_eq_true rfl, Nat.le_of_ble_eq_true rfl⟩ ⟨Nat.le_refl _, Nat.le_refl _⟩ rfl hl.1 rfl (Nat.le_of_ble_eq_true rfl) dX9_singer_2 (fun q1 H1 L1 hf hw => ?_)
  refine lv_if_ne (tgt := 11) hx hb dX9_singer_5 (by decide) (fun hc => ?_) (fun hc => ?_)
  · have hf := ifn hc hf
    refine lv_iload_n hx hb dX9_singer_11 rfl (lv_at hl 2 rfl) ?_
    refine lv_i2l hx hb dX9_singer_12 rfl ?_
    refine lv_lconst (v := 0) hx hb dX9_singer_13 (by decide) ?_
    refine lv_ldc2 hx hb hown (hts _ klX9_220) dX9_singer_14 ?_
    refine h_cSi (As := [.long p2.toInt64, .long (0 : Int64), .long (7 : Int64)]) (rest := []) hf hx hb hml hts hown hX hw myX9_in msX9_in lkX9_90 (fun q hq => c_X9_in l E B T p2.toInt64 (0 : Int64) (7 : Int64) q1.2 hq) ⟨Nat.le_of_ble_eq_true rfl, Nat.le_of_ble_eq_true rfl⟩ ⟨Nat.le_refl _, Nat.le_refl _⟩ rfl hl.1 rfl (Nat.le_of_ble_eq_true rfl) dX9_singer_17 (fun q2 H2 L2 hf hw => ?_)
    refine lv_if_eq (tgt := 37) hx hb dX9_singer_20 (by decide) (fun hc => ?_) (fun hc => ?_)
    · have hf := ifp hc hf
      refine lv_ldc hx hb hown (hts _ kcX9_99) dX9_singer_37 ?_
      exact h_iret hf hx hb hr hlk hw dX9_singer_39
    · have hf := ifn hc hf
      refine lv_aload_n hx hb dX9_singer_23 rfl (lv_at hl 0 rfl) ?_
      refine h_getr hf hx hb hts hown hX hw flX9_17 rfl dX9_singer_24 (fun a3 hf => ?_)
      refine lv_bipush (v := 8) hx hb dX9_singer_27 (by decide) ?_
      refine lv_iload_n hx hb dX9_singer_29 rfl (lv_at hl 1 rfl) ?_
      refine lv_imul hx hb dX9_singer_30 ?_
      refine lv_iload_n hx hb dX9_singer_31 rfl (lv_at hl 2 rfl) ?_
      refine lv_iadd hx hb dX9_singer_32 ?_
      refine h_iald hf hx hb hX hw dX9_singer_33 (fun x4 hf => ?_)
      refine lv_goto (tgt := 39) hx hb dX9_singer_34 (by decide) ?_
      exact h_iret hf hx hb hr hlk hw dX9_singer_39
  · have hf := ifp hc hf
    refine lv_ldc hx hb hown (hts _ kcX9_216) dX9_singer_8 ?_
    exact h_iret hf hx hb hr hlk hw dX9_singer_10
theorem c_X9_singer (l : Launch) (E : hE) (B : Nat) (T : hT) (a0 : Nat) (p1 : Int32) (p2 : Int32) (u0 : hM) {z : Int32 × hM} (hf : fX9_singer T a0 p1 p2 u0 = some z) : h_Ct l E B T yX9_singer cX9_singer 3 (some .int) 2 [.ref (B + a0), .int p1, .int p2] u0 z.2 (some (.int z.1)) := h_ofW (by decide) (Nat.le_of_ble_eq_true rfl) (fun p e s m below meth c ls hΓ hl hw => wX9_singer hΓ hf hw hl)
def fX9_isTask (T : hT) (a0 : Nat) (p1 : Int32) (u0 : hM) : Option (Int32 × hM) := (gti T u0 a0 9 5).bind fun x1 => (fX9_in T p1.toInt64 (0 : Int64) ((x1 - (1 : Int32)).toInt64) u0).bind fun q2 => rtz q2.1 q2.2
set_option maxRecDepth 100000 in
set_option maxHeartbeats 4000000 in
theorem wX9_isTask {a0 : Nat} {p1 : Int32} {u0 : hM} {z : Int32 × hM} {ls : Array Slot} (hΓ : h_Γ E B T p s m args meth c cX9_isTask 2 (some .boolean) RX9) (hf : fX9_isTask T a0 p1 u0 = some z) (hw : h_W E B T s.heap u0 s.heap []) (hl : lv_has ls 2 [(0, .ref (B + a0)), (1, .int p1)]) : W p l e (h_rm 1) s m args below meth c s.heap [] 0 0 (h_Qi below E B T args s z) (F0 m 0 ls []) := by
  obtain ⟨hx, hb, hr, hml, hts, hown, hlk, hX⟩ := id hΓ
  unfold fX9_isTask at hf
  refine lv_iload_n hx hb dX9_isTask_0 rfl (lv_at hl 1 rfl) ?_
  refine lv_i2l hx hb dX9_isTask_1 rfl ?_
  refine lv_lconst (v := 0) hx hb dX9_isTask_2 (by decide) ?_
  refine lv_aload_n hx hb dX9_isTask_3 rfl (lv_at hl 0 rfl) ?_
  refine h_geti hf hx hb hts hown hX hw flX9_94 rfl dX9_isTask_4 (fun x1 hf => ?_)
  refine lv_iconst (v := 1) hx hb dX9_isTask_7 (by decide) ?_
  refine lv_isub hx hb dX9_isTask_8 ?_
  refine lv_i2l hx hb dX9_isTask_9 rfl ?_
  refine h_cSi (As := [.long p1.toInt64, .long (0 : Int64), .long (x1 - (1 : Int32)).toInt64]) (rest := []) hf hx hb hml hts hown hX hw myX9_in msX9_in lkX9_90 (fun q hq => c_X9_in l E B T p1.toInt64 (0 : Int64) ((x1 - (1 : Int32)).toInt64) u0 hq) ⟨Nat.le_of_ble_eq_true rfl, Nat.le_of_ble_eq_true rfl⟩ ⟨Nat.le_refl _, Nat.le_refl _⟩ rfl hl.1 rfl (Nat.le_of_ble_eq_true rfl) dX9_isTask_10 (fun q2 H2 L2 hf hw => ?_)
  exact h_zret hf hx hb hr hlk hw dX9_isTask_13
theorem c_X9_isTask (l : Launch) (E : hE) (B : Nat) (T : hT) (a0 : Nat) (p1 : Int32) (u0 : hM) {z : Int32 × hM} (hf : fX9_isTask T a0 p1 u0 = some z) : h_Ct l E B T yX9_isTask cX9_isTask 2 (some .boolean) 1 [.ref (B + a0), .int p1] u0 z.2 (some (.int z.1)) := h_ofW (by decide) (Nat.le_of_ble_eq_true rfl) (fun p e s m below meth c ls hΓ hl hw => wX9_isTask hΓ hf hw hl)
def fX9_task (T : hT) (a0 : Nat) (p1 : Int32) (p2 : Int32) (u0 : hM) : Option (Int32 × hM) := (vc T a0 9 (fX9_isTask T a0 p1 u0)).bind fun q1 => if q1.1 = 0 then (some ((-1000000001 : Int32), q1.2)) else ((fX9_in T p2.toInt64 (0 : Int64) (3 : Int64) q1.2).bind fun q2 => if q2.1 = 0 then (some ((-1000000002 : Int32), q2.2)) else ((gtr T q2.2 a0 9 6).bind fun a3 => (ald 11 T q2.2 a3 (((4 : Int32) * p1) + p2)).bind fun x4 => some (x4, q2.2)))
set_option maxRecDepth 100000 in
set_option maxHeartbeats 4000000 in
theorem wX9_task {a0 : Nat} {p1 : Int32} {p2 : Int32} {u0 : hM} {z : Int32 × hM} {ls : Array Slot} (hΓ : h_Γ E B T p s m args meth c cX9_task 3 (some .int) RX9) (hf : fX9_task T a0 p1 p2 u0 = some z) (hw : h_W E B T s.heap u0 s.heap []) (hl : lv_has ls 3 [(0, .ref (B + a0)), (1, .int p1), (2, .int p2)]) : W p l e (h_rm 2) s m args below meth c s.heap [] 0 0 (h_Qi below E B T args s z) (F0 m 0 ls []) := by
  obtain ⟨hx, hb, hr, hml, hts, hown, hlk, hX⟩ := id hΓ
  unfold fX9_task at hf
  refine lv_aload_n hx hb dX9_task_0 rfl (lv_at hl 0 rfl) ?_
  refine lv_iload_n hx hb dX9_task_1 rfl (lv_at hl 1 rfl) ?_
  refine h_cVi (As := [.int p1]) (rest := []) hf hx hb hml hts hown hX hw myX9_isTask miX9_isTask lkX9_222 ⟨rfl, by decide⟩ (fun q hq => c_X9_isTask l E B T a0 p1 u0 hq) ⟨Nat.le_of_ble_eq_true rfl, Nat.le_of_ble_eq_true rfl⟩ ⟨Nat.le_refl _, Nat.le_refl _⟩ rfl hl.1 rfl (Nat.le_of_ble_eq_true rfl) dX9_task_2 (fun q1 H1 L1 hf hw => ?_)
  refine lv_if_ne (tgt := 11) hx hb dX9_task_5 (by decide) (fun hc => ?_) (fun hc => ?_)
  · have hf := ifn hc hf
    refine lv_iload_n hx hb dX9_task_11 rfl (lv_at hl 2 rfl) ?_
    refine lv_i2l hx hb dX9_task_12 rfl ?_
    refine lv_lconst (v := 0) hx hb dX9_task_13 (by decide) ?_
    refine lv_ldc2 hx hb hown (hts _ klX9_225) dX9_task_14 ?_
    refine h_cSi (As := [.long p2.toInt64, .long (0 : Int64), .long (3 : Int64)]) (rest := []) hf hx hb hml hts hown hX hw myX9_in msX9_in lkX9_90 (fun q hq => c_X9_in l E B T p2.toInt64 (0 : Int64) (3 : Int64) q1.2 hq) ⟨Nat.le_of_ble_eq_true rfl, Nat.le_of_ble_eq_true rfl⟩ ⟨Nat.le_refl _, Nat.le_refl _⟩ rfl hl.1 rfl (Nat.le_of_ble_eq_true rfl) dX9_task_17 (fun q2 H2 L2 hf hw => ?_)
    refine lv_if_eq (tgt := 36) hx hb dX9_task_20 (by decide) (fun hc => ?_) (fun hc => ?_)
    · have hf := ifp hc hf
      refine lv_ldc hx hb hown (hts _ kcX9_99) dX9_task_36 ?_
      exact h_iret hf hx hb hr hlk hw dX9_task_38
    · have hf := ifn hc hf
      refine lv_aload_n hx hb dX9_task_23 rfl (lv_at hl 0 rfl) ?_
      refine h_getr hf hx hb hts hown hX hw flX9_20 rfl dX9_task_24 (fun a3 hf => ?_)
      refine lv_iconst (v := 4) hx hb dX9_task_27 (by decide) ?_
      refine lv_iload_n hx hb dX9_task_28 rfl (lv_at hl 1 rfl) ?_
      refine lv_imul hx hb dX9_task_29 ?_
      refine lv_iload_n hx hb dX9_task_30 rfl (lv_at hl 2 rfl) ?_
      refine lv_iadd hx hb dX9_task_31 ?_
      refine h_iald hf hx hb hX hw dX9_task_32 (fun x4 hf => ?_)
      refine lv_goto (tgt := 38) hx hb dX9_task_33 (by decide) ?_
      exact h_iret hf hx hb hr hlk hw dX9_task_38
  · have hf := ifp hc hf
    refine lv_ldc hx hb hown (hts _ kcX9_216) dX9_task_8 ?_
    exact h_iret hf hx hb hr hlk hw dX9_task_10
theorem c_X9_task (l : Launch) (E : hE) (B : Nat) (T : hT) (a0 : Nat) (p1 : Int32) (p2 : Int32) (u0 : hM) {z : Int32 × hM} (hf : fX9_task T a0 p1 p2 u0 = some z) : h_Ct l E B T yX9_task cX9_task 3 (some .int) 2 [.ref (B + a0), .int p1, .int p2] u0 z.2 (some (.int z.1)) := h_ofW (by decide) (Nat.le_of_ble_eq_true rfl) (fun p e s m below meth c ls hΓ hl hw => wX9_task hΓ hf hw hl)
def fX9_draw (T : hT) (a0 : Nat) (p1 : Int32) (u0 : hM) : Option (Int32 × hM) := (gti T u0 a0 9 11).bind fun x1 => (pti T u0 a0 9 11 ((((x1.toInt64 * (1103515245 : Int64)) + (12345 : Int64)) - ((x1.toInt64 * (1103515245 : Int64)) + (12345 : Int64)) / (2147483648 : Int64) * (2147483648 : Int64)).toInt32)).bind fun u2 => (gti T u2 a0 9 11).bind fun x3 => (rmi (x3 / (65536 : Int32)) p1).bind fun x4 => some (x4, u2)
set_option maxRecDepth 100000 in
set_option maxHeartbeats 4000000 in
theorem wX9_draw {a0 : Nat} {p1 : Int32} {u0 : hM} {z : Int32 × hM} {ls : Array Slot} (hΓ : h_Γ E B T p s m args meth c cX9_draw 2 (some .int) RX9) (hf : fX9_draw T a0 p1 u0 = some z) (hw : h_W E B T s.heap u0 s.heap []) (hl : lv_has ls 2 [(0, .ref (B + a0)), (1, .int p1)]) : W p l e (h_rm 0) s m args below meth c s.heap [] 0 0 (h_Qi below E B T args s z) (F0 m 0 ls []) := by
  obtain ⟨hx, hb, hr, hml, hts, hown, hlk, hX⟩ := id hΓ
  unfold fX9_draw at hf
  refine lv_aload_n hx hb dX9_draw_0 rfl (lv_at hl 0 rfl) ?_
  refine lv_aload_n hx hb dX9_draw_1 rfl (lv_at hl 0 rfl) ?_
  refine h_geti hf hx hb hts hown hX hw flX9_227 rfl dX9_draw_2 (fun x1 hf => ?_)
  refine lv_i2l hx hb dX9_draw_5 rfl ?_
  refine lv_ldc2 hx hb hown (hts _ klX9_230) dX9_draw_6 ?_
  refine lv_lmul hx hb dX9_draw_9 ?_
  refine lv_ldc2 hx hb hown (hts _ klX9_232) dX9_draw_10 ?_
  refine lv_ladd hx hb dX9_draw_13 ?_
  refine lv_ldc2 hx hb hown (hts _ klX9_234) dX9_draw_14 ?_
  refine lv_lrem hx hb dX9_draw_17 (by decide) ?_
  refine lv_l2i hx hb dX9_draw_18 rfl ?_
  refine h_puti hf hx hb hts hown hX hw flX9_227 ⟨rfl, rfl⟩ dX9_draw_19 (fun u2 H2 L2 hf hw => ?_)
  refine lv_aload_n hx hb dX9_draw_22 rfl (lv_at hl 0 rfl) ?_
  refine h_geti hf hx hb hts hown hX hw flX9_227 rfl dX9_draw_23 (fun x3 hf => ?_)
  refine lv_ldc hx hb hown (hts _ kcX9_236) dX9_draw_26 ?_
  refine lv_idiv hx hb dX9_draw_28 (by decide) ?_
  refine lv_iload_n hx hb dX9_draw_29 rfl (lv_at hl 1 rfl) ?_
  refine h_rmi hf hx hb dX9_draw_30 (fun x4 hf => ?_)
  exact h_iret hf hx hb hr hlk hw dX9_draw_31
theorem c_X9_draw (l : Launch) (E : hE) (B : Nat) (T : hT) (a0 : Nat) (p1 : Int32) (u0 : hM) {z : Int32 × hM} (hf : fX9_draw T a0 p1 u0 = some z) : h_Ct l E B T yX9_draw cX9_draw 2 (some .int) 0 [.ref (B + a0), .int p1] u0 z.2 (some (.int z.1)) := h_ofW (by decide) (Nat.le_of_ble_eq_true rfl) (fun p e s m below meth c ls hΓ hl hw => wX9_draw hΓ hf hw hl)
def fX9_firstAim (T : hT) (a0 : Nat) (p1 : Int32) (u0 : hM) : Option (Int32 × hM) := (gtr T u0 a0 9 1).bind fun a1 => (ald 11 T u0 a1 (0 : Int32)).bind fun x2 => if p1 = 0 then ((vc T a0 9 (fX9_draw T a0 (13 : Int32) u0)).bind fun q4 => some ((x2 + ((100 : Int32) * (q4.1 - (6 : Int32)))), q4.2)) else (if p1 = (1 : Int32) then ((vc T a0 9 (fX9_draw T a0 (2 : Int32) u0)).bind fun q3 => some ((x2 + ((1200 : Int32) * (q3.1 - (1 : Int32)))), q3.2)) else (some ((x2 + (0 : Int32)), u0)))
set_option maxRecDepth 100000 in
set_option maxHeartbeats 4000000 in
theorem wX9_firstAim {a0 : Nat} {p1 : Int32} {u0 : hM} {z : Int32 × hM} {ls : Array Slot} (hΓ : h_Γ E B T p s m args meth c cX9_firstAim 2 (some .int) RX9) (hf : fX9_firstAim T a0 p1 u0 = some z) (hw : h_W E B T s.heap u0 s.heap []) (hl : lv_has ls 2 [(0, .ref (B + a0)), (1, .int p1)]) : W p l e (h_rm 1) s m args below meth c s.heap [] 0 0 (h_Qi below E B T args s z) (F0 m 0 ls []) := by
  obtain ⟨hx, hb, hr, hml, hts, hown, hlk, hX⟩ := id hΓ
  unfold fX9_firstAim at hf
  refine lv_aload_n hx hb dX9_firstAim_0 rfl (lv_at hl 0 rfl) ?_
  refine h_getr hf hx hb hts hown hX hw flX9_7 rfl dX9_firstAim_1 (fun a1 hf => ?_)
  refine lv_iconst (v := 0) hx hb dX9_firstAim_4 (by decide) ?_
  refine h_iald hf hx hb hX hw dX9_firstAim_5 (fun x2 hf => ?_)
  refine lv_iload_n hx hb dX9_firstAim_6 rfl (lv_at hl 1 rfl) ?_
  refine lv_if_ne (tgt := 25) hx hb dX9_firstAim_7 (by decide) (fun hc => ?_) (fun hc => ?_)
  · have hf := ifn hc hf
    refine lv_iload_n hx hb dX9_firstAim_25 rfl (lv_at hl 1 rfl) ?_
    refine lv_iconst (v := 1) hx hb dX9_firstAim_26 (by decide) ?_
    refine lv_icmp_ne (tgt := 44) hx hb dX9_firstAim_27 (by decide) (fun hc => ?_) (fun hc => ?_)
    · have hf := ifn hc hf
      refine lv_iconst (v := 0) hx hb dX9_firstAim_44 (by decide) ?_
      refine lv_iadd hx hb dX9_firstAim_45 ?_
      exact h_iret hf hx hb hr hlk hw dX9_firstAim_46
    · have hf := ifp hc hf
      refine lv_sipush (v := 1200) hx hb dX9_firstAim_30 (by decide) ?_
      refine lv_aload_n hx hb dX9_firstAim_33 rfl (lv_at hl 0 rfl) ?_
      refine lv_iconst (v := 2) hx hb dX9_firstAim_34 (by decide) ?_
      refine h_cVi (As := [.int (2 : Int32)]) (rest := [.int (1200 : Int32), .int x2]) hf hx hb hml hts hown hX hw myX9_draw miX9_draw lkX9_240 ⟨rfl, by decide⟩ (fun q hq => c_X9_draw l E B T a0 (2 : Int32) u0 hq) ⟨Nat.le_of_ble_eq_true rfl, Nat.le_of_ble_eq_true rfl⟩ ⟨Nat.le_refl _, Nat.le_refl _⟩ rfl hl.1 rfl (Nat.le_of_ble_eq_true rfl) dX9_firstAim_35 (fun q3 H3 L3 hf hw => ?_)
      refine lv_iconst (v := 1) hx hb dX9_firstAim_38 (by decide) ?_
      refine lv_isub hx hb dX9_firstAim_39 ?_
      refine lv_imul hx hb dX9_firstAim_40 ?_
      refine lv_goto (tgt := 45) hx hb dX9_firstAim_41 (by decide) ?_
      refine lv_iadd hx hb dX9_firstAim_45 ?_
      exact h_iret hf hx hb hr hlk hw dX9_firstAim_46
  · have hf := ifp hc hf
    refine lv_bipush (v := 100) hx hb dX9_firstAim_10 (by decide) ?_
    refine lv_aload_n hx hb dX9_firstAim_12 rfl (lv_at hl 0 rfl) ?_
    refine lv_bipush (v := 13) hx hb dX9_firstAim_13 (by decide) ?_
    refine h_cVi (As := [.int (13 : Int32)]) (rest := [.int (100 : Int32), .int x2]) hf hx hb hml hts hown hX hw myX9_draw miX9_draw lkX9_240 ⟨rfl, by decide⟩ (fun q hq => c_X9_draw l E B T a0 (13 : Int32) u0 hq) ⟨Nat.le_of_ble_eq_true rfl, Nat.le_of_ble_eq_true rfl⟩ ⟨Nat.le_refl _, Nat.le_refl _⟩ rfl hl.1 rfl (Nat.le_of_ble_eq_true rfl) dX9_firstAim_15 (fun q4 H4 L4 hf hw => ?_)
    refine lv_bipush (v := 6) hx hb dX9_firstAim_18 (by decide) ?_
    refine lv_isub hx hb dX9_firstAim_20 ?_
    refine lv_imul hx hb dX9_firstAim_21 ?_
    refine lv_goto (tgt := 45) hx hb dX9_firstAim_22 (by decide) ?_
    refine lv_iadd hx hb dX9_firstAim_45 ?_
    exact h_iret hf hx hb hr hlk hw dX9_firstAim_46
theorem c_X9_firstAim (l : Launch) (E : hE) (B : Nat) (T : hT) (a0 : Nat) (p1 : Int32) (u0 : hM) {z : Int32 × hM} (hf : fX9_firstAim T a0 p1 u0 = some z) : h_Ct l E B T yX9_firstAim cX9_firstAim 2 (some .int) 1 [.ref (B + a0), .int p1] u0 z.2 (some (.int z.1)) := h_ofW (by decide) (Nat.le_of_ble_eq_true rfl) (fun p e s m below meth c ls hΓ hl hw => wX9_firstAim hΓ hf hw hl)
def fX9_size (T : hT) (p0 : Int32) (u0 : hM) : Option (Int32 × hM) := if 0 ≤ p0 then (some (p0, u0)) else (some ((-p0), u0))
set_option maxRecDepth 100000 in
set_option maxHeartbeats 4000000 in
theorem wX9_size {p0 : Int32} {u0 : hM} {z : Int32 × hM} {ls : Array Slot} (hΓ : h_Γ E B T p s m args meth c cX9_size 1 (some .int) RX9) (hf : fX9_size T p0 u0 = some z) (hw : h_W E B T s.heap u0 s.heap []) (hl : lv_has ls 1 [(0, .int p0)]) : W p l e (h_rm 0) s m args below meth c s.heap [] 0 0 (h_Qi below E B T args s z) (F0 m 0 ls []) := by
  obtain ⟨hx, hb, hr, hml, hts, hown, hlk, hX⟩ := id hΓ
  unfold fX9_size at hf
  refine lv_iload_n hx hb dX9_size_0 rfl (lv_at hl 0 rfl) ?_
  refine lv_if_ge (tgt := 9) hx hb dX9_size_1 (by decide) (fun hc => ?_) (fun hc => ?_)
  · have hf := ifp hc hf
    refine lv_iload_n hx hb dX9_size_9 rfl (lv_at hl 0 rfl) ?_
    exact h_iret hf hx hb hr hlk hw dX9_size_10
  · have hf := ifn hc hf
    refine lv_iload_n hx hb dX9_size_4 rfl (lv_at hl 0 rfl) ?_
    refine lv_ineg hx hb dX9_size_5 ?_
    refine lv_goto (tgt := 10) hx hb dX9_size_6 (by decide) ?_
    exact h_iret hf hx hb hr hlk hw dX9_size_10
theorem c_X9_size (l : Launch) (E : hE) (B : Nat) (T : hT) (p0 : Int32) (u0 : hM) {z : Int32 × hM} (hf : fX9_size T p0 u0 = some z) : h_Ct l E B T yX9_size cX9_size 1 (some .int) 0 [.int p0] u0 z.2 (some (.int z.1)) := h_ofW (by decide) (Nat.le_of_ble_eq_true rfl) (fun p e s m below meth c ls hΓ hl hw => wX9_size hΓ hf hw hl)
def fX9_nextAim (T : hT) (a0 : Nat) (p1 : Int32) (p2 : Int32) (p3 : Int32) (p4 : Int32) (u0 : hM) : Option (Int32 × hM) := (gtr T u0 a0 9 4).bind fun a1 => (ald 11 T u0 a1 ((8 : Int32) * p1)).bind fun x2 => lt (fun (x3 : Int32) (u4 : hM) => lt (fun (u5 : hM) => (gtr T u5 a0 9 1).bind fun a6 => (ald 11 T u5 a6 p3).bind fun x7 => (gtr T u5 a0 9 1).bind fun a8 => (ald 11 T u5 a8 (p3 - (1 : Int32))).bind fun x9 => lt ((x7 - x9)) fun x10 => lt (if x2 = (6 : Int32) then (2 : Int32) else (1 : Int32)) fun x11 => (gtr T u5 a0 9 4).bind fun a12 => (ald 11 T u5 a12 (((8 : Int32) * p1) + (1 : Int32))).bind fun x13 => lt (((x11 * x13) + (50 : Int32))) fun x14 => lt (fun (x15 : Int32) (u16 : hM) => lt (fun (u17 : hM) => some (((p2 + x10) + x15), u17)) fun J167 => if x2 = (1 : Int32) then (J167 u16) else ((fX9_size T x10 u16).bind fun q18 => if x14 < q18.1 then (J167 q18.2) else (some (((p2 + (0 : Int32)) + x15), q18.2)))) fun J144 => if x2 = (1 : Int32) then (J144 (0 : Int32) u5) else (lt (if x2 = (2 : Int32) then (2 : Int32) else (1 : Int32)) fun x19 => (gtr T u5 a0 9 4).bind fun a20 => (ald 11 T u5 a20 (((8 : Int32) * p1) + (7 : Int32))).bind fun x21 => J144 (x19 * x21) u5)) fun J64 => if x2 = (1 : Int32) then (J64 u4) else (if p4 < x3 then (J64 u4) else (some (p2, u4)))) fun J47 => lt (fun (u22 : hM) => (gtr T u22 a0 9 4).bind fun a23 => (ald 11 T u22 a23 (((8 : Int32) * p1) + (4 : Int32))).bind fun x24 => J47 x24 u22) fun J36 => if x2 = (5 : Int32) then ((gtr T u0 a0 9 4).bind fun a25 => (ald 11 T u0 a25 (((8 : Int32) * p1) + (4 : Int32))).bind fun x26 => if x26 ≤ (3 : Int32) then (J36 u0) else (J47 (3 : Int32) u0)) else (J36 u0)
set_option maxRecDepth 100000 in
set_option maxHeartbeats 4000000 in
theorem wX9_nextAim {a0 : Nat} {p1 : Int32} {p2 : Int32} {p3 : Int32} {p4 : Int32} {u0 : hM} {z : Int32 × hM} {ls : Array Slot} (hΓ : h_Γ E B T p s m args meth c cX9_nextAim 10 (some .int) RX9) (hf : fX9_nextAim T a0 p1 p2 p3 p4 u0 = some z) (hw : h_W E B T s.heap u0 s.heap []) (hl : lv_has ls 10 [(0, .ref (B + a0)), (1, .int p1), (2, .int p2), (3, .int p3), (4, .int p4)]) : W p l e (h_rm 1) s m args below meth c s.heap [] 0 0 (h_Qi below E B T args s z) (F0 m 0 ls []) := by
  obtain ⟨hx, hb, hr, hml, hts, hown, hlk, hX⟩ := id hΓ
  unfold fX9_nextAim at hf
  refine lv_aload_n hx hb dX9_nextAim_0 rfl (lv_at hl 0 rfl) ?_
  refine h_getr hf hx hb hts hown hX hw flX9_17 rfl dX9_nextAim_1 (fun a1 hf => ?_)
  refine lv_bipush (v := 8) hx hb dX9_nextAim_4 (by decide) ?_
  refine lv_iload_n hx hb dX9_nextAim_6 rfl (lv_at hl 1 rfl) ?_
  refine lv_imul hx hb dX9_nextAim_7 ?_
  refine h_iald hf hx hb hX hw dX9_nextAim_8 (fun x2 hf => ?_)
  refine lv_istore (lv' := [(5, .int x2), (0, .ref (B + a0)), (1, .int p1), (2, .int p2), (3, .int p3), (4, .int p4)]) hx hb dX9_nextAim_9 hl (by decide) rfl (fun ls hl => ?_)
  refine lv_iload hx hb dX9_nextAim_11 (lv_at hl 0 rfl) ?_
  refine lv_iconst (v := 5) hx hb dX9_nextAim_13 (by decide) ?_
  obtain ⟨J47, eJ47, hf⟩ := h_lt hf
  have hJ47 : ∀ (x3 : Int32) (u4 : hM) (H4 : Heap) (L4 : List Loc) (ls : Array Slot), J47 x3 u4 = some z → h_W E B T s.heap u4 H4 L4 → lv_has ls 10 [(0, .ref (B + a0)), (1, .int p1), (2, .int p2), (3, .int p3), (4, .int p4), (5, .int x2)] → W p l e (h_rm 1) s m args below meth c H4 L4 0 0 (h_Qi below E B T args s z) (F0 m 47 ls [.int x3]) := by
    intro x3 u4 H4 L4 ls hf hw hl
    rw [eJ47] at hf
    refine lv_istore (lv' := [(6, .int x3), (0, .ref (B + a0)), (1, .int p1), (2, .int p2), (3, .int p3), (4, .int p4), (5, .int x2)]) hx hb dX9_nextAim_47 hl (by decide) rfl (fun ls hl => ?_)
    refine lv_iload hx hb dX9_nextAim_49 (lv_at hl 6 rfl) ?_
    refine lv_iconst (v := 1) hx hb dX9_nextAim_51 (by decide) ?_
    obtain ⟨J64, eJ64, hf⟩ := h_lt hf
    have hJ64 : ∀ (u5 : hM) (H5 : Heap) (L5 : List Loc) (ls : Array Slot), J64  u5 = some z → h_W E B T s.heap u5 H5 L5 → lv_has ls 10 [(0, .ref (B + a0)), (1, .int p1), (2, .int p2), (3, .int p3), (5, .int x2)] → W p l e (h_rm 1) s m args below meth c H5 L5 0 0 (h_Qi below E B T args s z) (F0 m 64 ls []) := by
      intro  u5 H5 L5 ls hf hw hl
      rw [eJ64] at hf
      refine lv_aload_n hx hb dX9_nextAim_64 rfl (lv_at hl 0 rfl) ?_
      refine h_getr hf hx hb hts hown hX hw flX9_7 rfl dX9_nextAim_65 (fun a6 hf => ?_)
      refine lv_iload_n hx hb dX9_nextAim_68 rfl (lv_at hl 3 rfl) ?_
      refine h_iald hf hx hb hX hw dX9_nextAim_69 (fun x7 hf => ?_)
      refine lv_aload_n hx hb dX9_nextAim_70 rfl (lv_at hl 0 rfl) ?_
      refine h_getr hf hx hb hts hown hX hw flX9_7 rfl dX9_nextAim_71 (fun a8 hf => ?_)
      refine lv_iload_n hx hb dX9_nextAim_74 rfl (lv_at hl 3 rfl) ?_
      refine lv_iconst (v := 1) hx hb dX9_nextAim_75 (by decide) ?_
      refine lv_isub hx hb dX9_nextAim_76 ?_
      refine h_iald hf hx hb hX hw dX9_nextAim_77 (fun x9 hf => ?_)
      refine lv_isub hx hb dX9_nextAim_78 ?_
      refine h_nmi hf (fun x10 hf => ?_)
      refine lv_istore (lv' := [(7, .int x10), (0, .ref (B + a0)), (1, .int p1), (2, .int p2), (3, .int p3), (5, .int x2)]) hx hb dX9_nextAim_79 hl (by decide) rfl (fun ls hl => ?_)
      refine lv_iload hx hb dX9_nextAim_81 (lv_at hl 5 rfl) ?_
      refine lv_bipush (v := 6) hx hb dX9_nextAim_83 (by decide) ?_
      refine h_ite (ls := ls) (jj := 93) (rest := []) hf (fun k1 k2 => ?_) (fun x11 hf => ?_)
      · refine lv_icmp_ne (tgt := 92) hx hb dX9_nextAim_85 (by decide) (fun hc => ?_) (fun hc => ?_)
        · refine lv_iconst (v := 1) hx hb dX9_nextAim_92 (by decide) ?_
          exact k2 hc
        · refine lv_iconst (v := 2) hx hb dX9_nextAim_88 (by decide) ?_
          refine lv_goto (tgt := 93) hx hb dX9_nextAim_89 (by decide) ?_
          exact k1 hc
      · refine lv_aload_n hx hb dX9_nextAim_93 rfl (lv_at hl 1 rfl) ?_
        refine h_getr hf hx hb hts hown hX hw flX9_17 rfl dX9_nextAim_94 (fun a12 hf => ?_)
        refine lv_bipush (v := 8) hx hb dX9_nextAim_97 (by decide) ?_
        refine lv_iload_n hx hb dX9_nextAim_99 rfl (lv_at hl 2 rfl) ?_
        refine lv_imul hx hb dX9_nextAim_100 ?_
        refine lv_iconst (v := 1) hx hb dX9_nextAim_101 (by decide) ?_
        refine lv_iadd hx hb dX9_nextAim_102 ?_
        refine h_iald hf hx hb hX hw dX9_nextAim_103 (fun x13 hf => ?_)
        refine lv_imul hx hb dX9_nextAim_104 ?_
        refine lv_bipush (v := 50) hx hb dX9_nextAim_105 (by decide) ?_
        refine lv_iadd hx hb dX9_nextAim_107 ?_
        refine h_nmi hf (fun x14 hf => ?_)
        refine lv_istore (lv' := [(8, .int x14), (7, .int x10), (0, .ref (B + a0)), (1, .int p1), (2, .int p2), (3, .int p3), (5, .int x2)]) hx hb dX9_nextAim_108 hl (by decide) rfl (fun ls hl => ?_)
        refine lv_iload hx hb dX9_nextAim_110 (lv_at hl 6 rfl) ?_
        refine lv_iconst (v := 1) hx hb dX9_nextAim_112 (by decide) ?_
        obtain ⟨J144, eJ144, hf⟩ := h_lt hf
        have hJ144 : ∀ (x15 : Int32) (u16 : hM) (H16 : Heap) (L16 : List Loc) (ls : Array Slot), J144 x15 u16 = some z → h_W E B T s.heap u16 H16 L16 → lv_has ls 10 [(2, .int p2), (5, .int x2), (7, .int x10), (8, .int x14)] → W p l e (h_rm 1) s m args below meth c H16 L16 0 0 (h_Qi below E B T args s z) (F0 m 144 ls [.int x15]) := by
          intro x15 u16 H16 L16 ls hf hw hl
          rw [eJ144] at hf
          refine lv_istore (lv' := [(9, .int x15), (2, .int p2), (5, .int x2), (7, .int x10), (8, .int x14)]) hx hb dX9_nextAim_144 hl (by decide) rfl (fun ls hl => ?_)
          refine lv_iload_n hx hb dX9_nextAim_146 rfl (lv_at hl 1 rfl) ?_
          refine lv_iload hx hb dX9_nextAim_147 (lv_at hl 2 rfl) ?_
          refine lv_iconst (v := 1) hx hb dX9_nextAim_149 (by decide) ?_
          obtain ⟨J167, eJ167, hf⟩ := h_lt hf
          have hJ167 : ∀ (u17 : hM) (H17 : Heap) (L17 : List Loc) (ls : Array Slot), J167  u17 = some z → h_W E B T s.heap u17 H17 L17 → lv_has ls 10 [(7, .int x10), (9, .int x15)] → W p l e (h_rm 1) s m args below meth c H17 L17 0 0 (h_Qi below E B T args s z) (F0 m 167 ls [.int p2]) := by
            intro  u17 H17 L17 ls hf hw hl
            rw [eJ167] at hf
            refine lv_iload hx hb dX9_nextAim_167 (lv_at hl 0 rfl) ?_
            refine lv_iadd hx hb dX9_nextAim_169 ?_
            refine lv_iload hx hb dX9_nextAim_170 (lv_at hl 1 rfl) ?_
            refine lv_iadd hx hb dX9_nextAim_172 ?_
            exact h_iret hf hx hb hr hlk hw dX9_nextAim_173
          clear eJ167
          refine lv_icmp_eq (tgt := 167) hx hb dX9_nextAim_150 (by decide) (fun hc => ?_) (fun hc => ?_)
          · have hf := ifp hc hf
            exact hJ167  u16 _ _ _ hf hw (lv_sub hl [3, 0] rfl)
          · have hf := ifn hc hf
            refine lv_iload hx hb dX9_nextAim_153 (lv_at hl 3 rfl) ?_
            refine h_cSi (As := [.int x10]) (rest := [.int p2]) hf hx hb hml hts hown hX hw myX9_size msX9_size lkX9_243 (fun q hq => c_X9_size l E B T x10 u16 hq) ⟨Nat.le_of_ble_eq_true rfl, Nat.le_of_ble_eq_true rfl⟩ ⟨Nat.le_refl _, Nat.le_refl _⟩ rfl hl.1 rfl (Nat.le_of_ble_eq_true rfl) dX9_nextAim_155 (fun q18 H18 L18 hf hw => ?_)
            refine lv_iload hx hb dX9_nextAim_158 (lv_at hl 4 rfl) ?_
            refine lv_icmp_gt (tgt := 167) hx hb dX9_nextAim_160 (by decide) (fun hc => ?_) (fun hc => ?_)
            · have hf := ifp hc hf
              exact hJ167  q18.2 _ _ _ hf hw (lv_sub hl [3, 0] rfl)
            · have hf := ifn hc hf
              refine lv_iconst (v := 0) hx hb dX9_nextAim_163 (by decide) ?_
              refine lv_goto (tgt := 169) hx hb dX9_nextAim_164 (by decide) ?_
              refine lv_iadd hx hb dX9_nextAim_169 ?_
              refine lv_iload hx hb dX9_nextAim_170 (lv_at hl 0 rfl) ?_
              refine lv_iadd hx hb dX9_nextAim_172 ?_
              exact h_iret hf hx hb hr hlk hw dX9_nextAim_173
        clear eJ144
        refine lv_icmp_ne (tgt := 120) hx hb dX9_nextAim_113 (by decide) (fun hc => ?_) (fun hc => ?_)
        · have hf := ifn hc hf
          refine lv_iload hx hb dX9_nextAim_120 (lv_at hl 6 rfl) ?_
          refine lv_iconst (v := 2) hx hb dX9_nextAim_122 (by decide) ?_
          refine h_ite (ls := ls) (jj := 131) (rest := []) hf (fun k1 k2 => ?_) (fun x19 hf => ?_)
          · refine lv_icmp_ne (tgt := 130) hx hb dX9_nextAim_123 (by decide) (fun hc => ?_) (fun hc => ?_)
            · refine lv_iconst (v := 1) hx hb dX9_nextAim_130 (by decide) ?_
              exact k2 hc
            · refine lv_iconst (v := 2) hx hb dX9_nextAim_126 (by decide) ?_
              refine lv_goto (tgt := 131) hx hb dX9_nextAim_127 (by decide) ?_
              exact k1 hc
          · refine lv_aload_n hx hb dX9_nextAim_131 rfl (lv_at hl 2 rfl) ?_
            refine h_getr hf hx hb hts hown hX hw flX9_17 rfl dX9_nextAim_132 (fun a20 hf => ?_)
            refine lv_bipush (v := 8) hx hb dX9_nextAim_135 (by decide) ?_
            refine lv_iload_n hx hb dX9_nextAim_137 rfl (lv_at hl 3 rfl) ?_
            refine lv_imul hx hb dX9_nextAim_138 ?_
            refine lv_bipush (v := 7) hx hb dX9_nextAim_139 (by decide) ?_
            refine lv_iadd hx hb dX9_nextAim_141 ?_
            refine h_iald hf hx hb hX hw dX9_nextAim_142 (fun x21 hf => ?_)
            refine lv_imul hx hb dX9_nextAim_143 ?_
            exact hJ144 (x19 * x21) u5 _ _ _ hf hw (lv_sub hl [4, 6, 1, 0] rfl)
        · have hf := ifp hc hf
          refine lv_iconst (v := 0) hx hb dX9_nextAim_116 (by decide) ?_
          refine lv_goto (tgt := 144) hx hb dX9_nextAim_117 (by decide) ?_
          exact hJ144 (0 : Int32) u5 _ _ _ hf hw (lv_sub hl [4, 6, 1, 0] rfl)
    clear eJ64
    refine lv_icmp_eq (tgt := 64) hx hb dX9_nextAim_52 (by decide) (fun hc => ?_) (fun hc => ?_)
    · have hf := ifp hc hf
      exact hJ64  u4 _ _ _ hf hw (lv_sub hl [1, 2, 3, 4, 6] rfl)
    · have hf := ifn hc hf
      refine lv_iload hx hb dX9_nextAim_55 (lv_at hl 5 rfl) ?_
      refine lv_iload hx hb dX9_nextAim_57 (lv_at hl 0 rfl) ?_
      refine lv_icmp_lt (tgt := 64) hx hb dX9_nextAim_59 (by decide) (fun hc => ?_) (fun hc => ?_)
      · have hf := ifp hc hf
        exact hJ64  u4 _ _ _ hf hw (lv_sub hl [1, 2, 3, 4, 6] rfl)
      · have hf := ifn hc hf
        refine lv_iload_n hx hb dX9_nextAim_62 rfl (lv_at hl 3 rfl) ?_
        exact h_iret hf hx hb hr hlk hw dX9_nextAim_63
  clear eJ47
  obtain ⟨J36, eJ36, hf⟩ := h_lt hf
  have hJ36 : ∀ (u22 : hM) (H22 : Heap) (L22 : List Loc) (ls : Array Slot), J36  u22 = some z → h_W E B T s.heap u22 H22 L22 → lv_has ls 10 [(0, .ref (B + a0)), (1, .int p1), (2, .int p2), (3, .int p3), (4, .int p4), (5, .int x2)] → W p l e (h_rm 1) s m args below meth c H22 L22 0 0 (h_Qi below E B T args s z) (F0 m 36 ls []) := by
    intro  u22 H22 L22 ls hf hw hl
    rw [eJ36] at hf
    refine lv_aload_n hx hb dX9_nextAim_36 rfl (lv_at hl 0 rfl) ?_
    refine h_getr hf hx hb hts hown hX hw flX9_17 rfl dX9_nextAim_37 (fun a23 hf => ?_)
    refine lv_bipush (v := 8) hx hb dX9_nextAim_40 (by decide) ?_
    refine lv_iload_n hx hb dX9_nextAim_42 rfl (lv_at hl 1 rfl) ?_
    refine lv_imul hx hb dX9_nextAim_43 ?_
    refine lv_iconst (v := 4) hx hb dX9_nextAim_44 (by decide) ?_
    refine lv_iadd hx hb dX9_nextAim_45 ?_
    refine h_iald hf hx hb hX hw dX9_nextAim_46 (fun x24 hf => ?_)
    exact hJ47 x24 u22 _ _ _ hf hw (lv_sub hl [0, 1, 2, 3, 4, 5] rfl)
  clear eJ36
  refine lv_icmp_ne (tgt := 36) hx hb dX9_nextAim_14 (by decide) (fun hc => ?_) (fun hc => ?_)
  · have hf := ifn hc hf
    exact hJ36  u0 _ _ _ hf hw (lv_sub hl [1, 2, 3, 4, 5, 0] rfl)
  · have hf := ifp hc hf
    refine lv_aload_n hx hb dX9_nextAim_17 rfl (lv_at hl 1 rfl) ?_
    refine h_getr hf hx hb hts hown hX hw flX9_17 rfl dX9_nextAim_18 (fun a25 hf => ?_)
    refine lv_bipush (v := 8) hx hb dX9_nextAim_21 (by decide) ?_
    refine lv_iload_n hx hb dX9_nextAim_23 rfl (lv_at hl 2 rfl) ?_
    refine lv_imul hx hb dX9_nextAim_24 ?_
    refine lv_iconst (v := 4) hx hb dX9_nextAim_25 (by decide) ?_
    refine lv_iadd hx hb dX9_nextAim_26 ?_
    refine h_iald hf hx hb hX hw dX9_nextAim_27 (fun x26 hf => ?_)
    refine lv_iconst (v := 3) hx hb dX9_nextAim_28 (by decide) ?_
    refine lv_icmp_le (tgt := 36) hx hb dX9_nextAim_29 (by decide) (fun hc => ?_) (fun hc => ?_)
    · have hf := ifp hc hf
      exact hJ36  u0 _ _ _ hf hw (lv_sub hl [1, 2, 3, 4, 5, 0] rfl)
    · have hf := ifn hc hf
      refine lv_iconst (v := 3) hx hb dX9_nextAim_32 (by decide) ?_
      refine lv_goto (tgt := 47) hx hb dX9_nextAim_33 (by decide) ?_
      exact hJ47 (3 : Int32) u0 _ _ _ hf hw (lv_sub hl [1, 2, 3, 4, 5, 0] rfl)
theorem c_X9_nextAim (l : Launch) (E : hE) (B : Nat) (T : hT) (a0 : Nat) (p1 : Int32) (p2 : Int32) (p3 : Int32) (p4 : Int32) (u0 : hM) {z : Int32 × hM} (hf : fX9_nextAim T a0 p1 p2 p3 p4 u0 = some z) : h_Ct l E B T yX9_nextAim cX9_nextAim 10 (some .int) 1 [.ref (B + a0), .int p1, .int p2, .int p3, .int p4] u0 z.2 (some (.int z.1)) := h_ofW (by decide) (Nat.le_of_ble_eq_true rfl) (fun p e s m below meth c ls hΓ hl hw => wX9_nextAim hΓ hf hw hl)
def fX9_swing (T : hT) (a0 : Nat) (p1 : Int32) (p2 : Int32) (p3 : Int32) (u0 : hM) : Option (Int32 × hM) := (gtr T u0 a0 9 4).bind fun a1 => (ald 11 T u0 a1 (((8 : Int32) * p1) + (3 : Int32))).bind fun x2 => if p3 = 0 then ((vc T a0 9 (fX9_draw T a0 (((2 : Int32) * x2) + (1 : Int32)) u0)).bind fun q3 => some ((q3.1 - x2), q3.2)) else (if (p2 - p2 / (2 : Int32) * (2 : Int32)) = 0 then (some (x2, u0)) else (some ((-x2), u0)))
set_option maxRecDepth 100000 in
set_option maxHeartbeats 4000000 in
theorem wX9_swing {a0 : Nat} {p1 : Int32} {p2 : Int32} {p3 : Int32} {u0 : hM} {z : Int32 × hM} {ls : Array Slot} (hΓ : h_Γ E B T p s m args meth c cX9_swing 5 (some .int) RX9) (hf : fX9_swing T a0 p1 p2 p3 u0 = some z) (hw : h_W E B T s.heap u0 s.heap []) (hl : lv_has ls 5 [(0, .ref (B + a0)), (1, .int p1), (2, .int p2), (3, .int p3)]) : W p l e (h_rm 1) s m args below meth c s.heap [] 0 0 (h_Qi below E B T args s z) (F0 m 0 ls []) := by
  obtain ⟨hx, hb, hr, hml, hts, hown, hlk, hX⟩ := id hΓ
  unfold fX9_swing at hf
  refine lv_aload_n hx hb dX9_swing_0 rfl (lv_at hl 0 rfl) ?_
  refine h_getr hf hx hb hts hown hX hw flX9_17 rfl dX9_swing_1 (fun a1 hf => ?_)
  refine lv_bipush (v := 8) hx hb dX9_swing_4 (by decide) ?_
  refine lv_iload_n hx hb dX9_swing_6 rfl (lv_at hl 1 rfl) ?_
  refine lv_imul hx hb dX9_swing_7 ?_
  refine lv_iconst (v := 3) hx hb dX9_swing_8 (by decide) ?_
  refine lv_iadd hx hb dX9_swing_9 ?_
  refine h_iald hf hx hb hX hw dX9_swing_10 (fun x2 hf => ?_)
  refine lv_istore (lv' := [(4, .int x2), (0, .ref (B + a0)), (1, .int p1), (2, .int p2), (3, .int p3)]) hx hb dX9_swing_11 hl (by decide) rfl (fun ls hl => ?_)
  refine lv_iload_n hx hb dX9_swing_13 rfl (lv_at hl 4 rfl) ?_
  refine lv_if_eq (tgt := 34) hx hb dX9_swing_14 (by decide) (fun hc => ?_) (fun hc => ?_)
  · have hf := ifp hc hf
    refine lv_aload_n hx hb dX9_swing_34 rfl (lv_at hl 1 rfl) ?_
    refine lv_iconst (v := 2) hx hb dX9_swing_35 (by decide) ?_
    refine lv_iload hx hb dX9_swing_36 (lv_at hl 0 rfl) ?_
    refine lv_imul hx hb dX9_swing_38 ?_
    refine lv_iconst (v := 1) hx hb dX9_swing_39 (by decide) ?_
    refine lv_iadd hx hb dX9_swing_40 ?_
    refine h_cVi (As := [.int (((2 : Int32) * x2) + (1 : Int32))]) (rest := []) hf hx hb hml hts hown hX hw myX9_draw miX9_draw lkX9_240 ⟨rfl, by decide⟩ (fun q hq => c_X9_draw l E B T a0 (((2 : Int32) * x2) + (1 : Int32)) u0 hq) ⟨Nat.le_of_ble_eq_true rfl, Nat.le_of_ble_eq_true rfl⟩ ⟨Nat.le_refl _, Nat.le_refl _⟩ rfl hl.1 rfl (Nat.le_of_ble_eq_true rfl) dX9_swing_41 (fun q3 H3 L3 hf hw => ?_)
    refine lv_iload hx hb dX9_swing_44 (lv_at hl 0 rfl) ?_
    refine lv_isub hx hb dX9_swing_46 ?_
    exact h_iret hf hx hb hr hlk hw dX9_swing_47
  · have hf := ifn hc hf
    refine lv_iload_n hx hb dX9_swing_17 rfl (lv_at hl 3 rfl) ?_
    refine lv_iconst (v := 2) hx hb dX9_swing_18 (by decide) ?_
    refine lv_irem hx hb dX9_swing_19 (by decide) ?_
    refine lv_if_ne (tgt := 28) hx hb dX9_swing_20 (by decide) (fun hc => ?_) (fun hc => ?_)
    · have hf := ifn hc hf
      refine lv_iload hx hb dX9_swing_28 (lv_at hl 0 rfl) ?_
      refine lv_ineg hx hb dX9_swing_30 ?_
      refine lv_goto (tgt := 47) hx hb dX9_swing_31 (by decide) ?_
      exact h_iret hf hx hb hr hlk hw dX9_swing_47
    · have hf := ifp hc hf
      refine lv_iload hx hb dX9_swing_23 (lv_at hl 0 rfl) ?_
      refine lv_goto (tgt := 47) hx hb dX9_swing_25 (by decide) ?_
      exact h_iret hf hx hb hr hlk hw dX9_swing_47
theorem c_X9_swing (l : Launch) (E : hE) (B : Nat) (T : hT) (a0 : Nat) (p1 : Int32) (p2 : Int32) (p3 : Int32) (u0 : hM) {z : Int32 × hM} (hf : fX9_swing T a0 p1 p2 p3 u0 = some z) : h_Ct l E B T yX9_swing cX9_swing 5 (some .int) 1 [.ref (B + a0), .int p1, .int p2, .int p3] u0 z.2 (some (.int z.1)) := h_ofW (by decide) (Nat.le_of_ble_eq_true rfl) (fun p e s m below meth c ls hΓ hl hw => wX9_swing hΓ hf hw hl)
def fX9_highOf (T : hT) (a0 : Nat) (p1 : Int32) (u0 : hM) : Option (Int32 × hM) := (gtr T u0 a0 9 4).bind fun a1 => (ald 11 T u0 a1 (((8 : Int32) * p1) + (6 : Int32))).bind fun x2 => (gtr T u0 a0 9 4).bind fun a3 => (ald 11 T u0 a3 (((8 : Int32) * p1) + (5 : Int32))).bind fun x4 => lt ((x4 + (5 : Int32))) fun x5 => (gtr T u0 a0 9 4).bind fun a6 => (ald 11 T u0 a6 ((8 : Int32) * p1)).bind fun x7 => if x7 = (3 : Int32) then (if x2 ≤ x5 then (some (x2, u0)) else (some (x5, u0))) else (some (x2, u0))
set_option maxRecDepth 100000 in
set_option maxHeartbeats 4000000 in
theorem wX9_highOf {a0 : Nat} {p1 : Int32} {u0 : hM} {z : Int32 × hM} {ls : Array Slot} (hΓ : h_Γ E B T p s m args meth c cX9_highOf 4 (some .int) RX9) (hf : fX9_highOf T a0 p1 u0 = some z) (hw : h_W E B T s.heap u0 s.heap []) (hl : lv_has ls 4 [(0, .ref (B + a0)), (1, .int p1)]) : W p l e (h_rm 0) s m args below meth c s.heap [] 0 0 (h_Qi below E B T args s z) (F0 m 0 ls []) := by
  obtain ⟨hx, hb, hr, hml, hts, hown, hlk, hX⟩ := id hΓ
  unfold fX9_highOf at hf
  refine lv_aload_n hx hb dX9_highOf_0 rfl (lv_at hl 0 rfl) ?_
  refine h_getr hf hx hb hts hown hX hw flX9_17 rfl dX9_highOf_1 (fun a1 hf => ?_)
  refine lv_bipush (v := 8) hx hb dX9_highOf_4 (by decide) ?_
  refine lv_iload_n hx hb dX9_highOf_6 rfl (lv_at hl 1 rfl) ?_
  refine lv_imul hx hb dX9_highOf_7 ?_
  refine lv_bipush (v := 6) hx hb dX9_highOf_8 (by decide) ?_
  refine lv_iadd hx hb dX9_highOf_10 ?_
  refine h_iald hf hx hb hX hw dX9_highOf_11 (fun x2 hf => ?_)
  refine lv_istore_n (lv' := [(2, .int x2), (0, .ref (B + a0)), (1, .int p1)]) hx hb dX9_highOf_12 rfl hl (by decide) rfl (fun ls hl => ?_)
  refine lv_aload_n hx hb dX9_highOf_13 rfl (lv_at hl 1 rfl) ?_
  refine h_getr hf hx hb hts hown hX hw flX9_17 rfl dX9_highOf_14 (fun a3 hf => ?_)
  refine lv_bipush (v := 8) hx hb dX9_highOf_17 (by decide) ?_
  refine lv_iload_n hx hb dX9_highOf_19 rfl (lv_at hl 2 rfl) ?_
  refine lv_imul hx hb dX9_highOf_20 ?_
  refine lv_iconst (v := 5) hx hb dX9_highOf_21 (by decide) ?_
  refine lv_iadd hx hb dX9_highOf_22 ?_
  refine h_iald hf hx hb hX hw dX9_highOf_23 (fun x4 hf => ?_)
  refine lv_iconst (v := 5) hx hb dX9_highOf_24 (by decide) ?_
  refine lv_iadd hx hb dX9_highOf_25 ?_
  refine h_nmi hf (fun x5 hf => ?_)
  refine lv_istore_n (lv' := [(3, .int x5), (2, .int x2), (0, .ref (B + a0)), (1, .int p1)]) hx hb dX9_highOf_26 rfl hl (by decide) rfl (fun ls hl => ?_)
  refine lv_aload_n hx hb dX9_highOf_27 rfl (lv_at hl 2 rfl) ?_
  refine h_getr hf hx hb hts hown hX hw flX9_17 rfl dX9_highOf_28 (fun a6 hf => ?_)
  refine lv_bipush (v := 8) hx hb dX9_highOf_31 (by decide) ?_
  refine lv_iload_n hx hb dX9_highOf_33 rfl (lv_at hl 3 rfl) ?_
  refine lv_imul hx hb dX9_highOf_34 ?_
  refine h_iald hf hx hb hX hw dX9_highOf_35 (fun x7 hf => ?_)
  refine lv_iconst (v := 3) hx hb dX9_highOf_36 (by decide) ?_
  refine lv_icmp_ne (tgt := 49) hx hb dX9_highOf_37 (by decide) (fun hc => ?_) (fun hc => ?_)
  · have hf := ifn hc hf
    refine lv_iload_n hx hb dX9_highOf_49 rfl (lv_at hl 1 rfl) ?_
    exact h_iret hf hx hb hr hlk hw dX9_highOf_50
  · have hf := ifp hc hf
    refine lv_iload_n hx hb dX9_highOf_40 rfl (lv_at hl 0 rfl) ?_
    refine lv_iload_n hx hb dX9_highOf_41 rfl (lv_at hl 1 rfl) ?_
    refine lv_icmp_ge (tgt := 49) hx hb dX9_highOf_42 (by decide) (fun hc => ?_) (fun hc => ?_)
    · have hf := ifp hc hf
      refine lv_iload_n hx hb dX9_highOf_49 rfl (lv_at hl 1 rfl) ?_
      exact h_iret hf hx hb hr hlk hw dX9_highOf_50
    · have hf := ifn hc hf
      refine lv_iload_n hx hb dX9_highOf_45 rfl (lv_at hl 0 rfl) ?_
      refine lv_goto (tgt := 50) hx hb dX9_highOf_46 (by decide) ?_
      exact h_iret hf hx hb hr hlk hw dX9_highOf_50
theorem c_X9_highOf (l : Launch) (E : hE) (B : Nat) (T : hT) (a0 : Nat) (p1 : Int32) (u0 : hM) {z : Int32 × hM} (hf : fX9_highOf T a0 p1 u0 = some z) : h_Ct l E B T yX9_highOf cX9_highOf 4 (some .int) 0 [.ref (B + a0), .int p1] u0 z.2 (some (.int z.1)) := h_ofW (by decide) (Nat.le_of_ble_eq_true rfl) (fun p e s m below meth c ls hΓ hl hw => wX9_highOf hΓ hf hw hl)
def fX9_heldTo (T : hT) (a0 : Nat) (p1 : Int32) (p2 : Int32) (u0 : hM) : Option (Int32 × hM) := (gtr T u0 a0 9 4).bind fun a1 => (ald 11 T u0 a1 (((8 : Int32) * p1) + (5 : Int32))).bind fun x2 => lt (((100 : Int32) * x2)) fun x3 => (vc T a0 9 (fX9_highOf T a0 p1 u0)).bind fun q4 => lt (((100 : Int32) * q4.1)) fun x5 => if x3 ≤ p2 then (if p2 ≤ x5 then (some (p2, q4.2)) else (some (x5, q4.2))) else (some (x3, q4.2))
set_option maxRecDepth 100000 in
set_option maxHeartbeats 4000000 in
theorem wX9_heldTo {a0 : Nat} {p1 : Int32} {p2 : Int32} {u0 : hM} {z : Int32 × hM} {ls : Array Slot} (hΓ : h_Γ E B T p s m args meth c cX9_heldTo 5 (some .int) RX9) (hf : fX9_heldTo T a0 p1 p2 u0 = some z) (hw : h_W E B T s.heap u0 s.heap []) (hl : lv_has ls 5 [(0, .ref (B + a0)), (1, .int p1), (2, .int p2)]) : W p l e (h_rm 1) s m args below meth c s.heap [] 0 0 (h_Qi below E B T args s z) (F0 m 0 ls []) := by
  obtain ⟨hx, hb, hr, hml, hts, hown, hlk, hX⟩ := id hΓ
  unfold fX9_heldTo at hf
  refine lv_bipush (v := 100) hx hb dX9_heldTo_0 (by decide) ?_
  refine lv_aload_n hx hb dX9_heldTo_2 rfl (lv_at hl 0 rfl) ?_
  refine h_getr hf hx hb hts hown hX hw flX9_17 rfl dX9_heldTo_3 (fun a1 hf => ?_)
  refine lv_bipush (v := 8) hx hb dX9_heldTo_6 (by decide) ?_
  refine lv_iload_n hx hb dX9_heldTo_8 rfl (lv_at hl 1 rfl) ?_
  refine lv_imul hx hb dX9_heldTo_9 ?_
  refine lv_iconst (v := 5) hx hb dX9_heldTo_10 (by decide) ?_
  refine lv_iadd hx hb dX9_heldTo_11 ?_
  refine h_iald hf hx hb hX hw dX9_heldTo_12 (fun x2 hf => ?_)
  refine lv_imul hx hb dX9_heldTo_13 ?_
  refine h_nmi hf (fun x3 hf => ?_)
  refine lv_istore_n (lv' := [(3, .int x3), (0, .ref (B + a0)), (1, .int p1), (2, .int p2)]) hx hb dX9_heldTo_14 rfl hl (by decide) rfl (fun ls hl => ?_)
  refine lv_bipush (v := 100) hx hb dX9_heldTo_15 (by decide) ?_
  refine lv_aload_n hx hb dX9_heldTo_17 rfl (lv_at hl 1 rfl) ?_
  refine lv_iload_n hx hb dX9_heldTo_18 rfl (lv_at hl 2 rfl) ?_
  refine h_cVi (As := [.int p1]) (rest := [.int (100 : Int32)]) hf hx hb hml hts hown hX hw myX9_highOf miX9_highOf lkX9_237 ⟨rfl, by decide⟩ (fun q hq => c_X9_highOf l E B T a0 p1 u0 hq) ⟨Nat.le_of_ble_eq_true rfl, Nat.le_of_ble_eq_true rfl⟩ ⟨Nat.le_refl _, Nat.le_refl _⟩ rfl hl.1 rfl (Nat.le_of_ble_eq_true rfl) dX9_heldTo_19 (fun q4 H4 L4 hf hw => ?_)
  refine lv_imul hx hb dX9_heldTo_22 ?_
  refine h_nmi hf (fun x5 hf => ?_)
  refine lv_istore (lv' := [(4, .int x5), (3, .int x3), (0, .ref (B + a0)), (1, .int p1), (2, .int p2)]) hx hb dX9_heldTo_23 hl (by decide) rfl (fun ls hl => ?_)
  refine lv_iload_n hx hb dX9_heldTo_25 rfl (lv_at hl 4 rfl) ?_
  refine lv_iload_n hx hb dX9_heldTo_26 rfl (lv_at hl 1 rfl) ?_
  refine lv_icmp_ge (tgt := 34) hx hb dX9_heldTo_27 (by decide) (fun hc => ?_) (fun hc => ?_)
  · have hf := ifp hc hf
    refine lv_iload_n hx hb dX9_heldTo_34 rfl (lv_at hl 4 rfl) ?_
    refine lv_iload hx hb dX9_heldTo_35 (lv_at hl 0 rfl) ?_
    refine lv_icmp_le (tgt := 45) hx hb dX9_heldTo_37 (by decide) (fun hc => ?_) (fun hc => ?_)
    · have hf := ifp hc hf
      refine lv_iload_n hx hb dX9_heldTo_45 rfl (lv_at hl 4 rfl) ?_
      exact h_iret hf hx hb hr hlk hw dX9_heldTo_46
    · have hf := ifn hc hf
      refine lv_iload hx hb dX9_heldTo_40 (lv_at hl 0 rfl) ?_
      refine lv_goto (tgt := 46) hx hb dX9_heldTo_42 (by decide) ?_
      exact h_iret hf hx hb hr hlk hw dX9_heldTo_46
  · have hf := ifn hc hf
    refine lv_iload_n hx hb dX9_heldTo_30 rfl (lv_at hl 1 rfl) ?_
    refine lv_goto (tgt := 46) hx hb dX9_heldTo_31 (by decide) ?_
    exact h_iret hf hx hb hr hlk hw dX9_heldTo_46
theorem c_X9_heldTo (l : Launch) (E : hE) (B : Nat) (T : hT) (a0 : Nat) (p1 : Int32) (p2 : Int32) (u0 : hM) {z : Int32 × hM} (hf : fX9_heldTo T a0 p1 p2 u0 = some z) : h_Ct l E B T yX9_heldTo cX9_heldTo 5 (some .int) 1 [.ref (B + a0), .int p1, .int p2] u0 z.2 (some (.int z.1)) := h_ofW (by decide) (Nat.le_of_ble_eq_true rfl) (fun p e s m below meth c ls hΓ hl hw => wX9_heldTo hΓ hf hw hl)
def fX9_singInto_L20 (T : hT) (c0 : Nat) (c1 : Nat) (c2 : Int32) (c3 : Int32) (c4 : Int32) (c5 : Int32) (ex : hM → Option (hM)) : Nat → Int32 → Int32 → Int32 → hM → Option (hM)
  | 0, _, _, _, _ => none
  | n + 1, v6, v7, v8, u0 => (gti T u0 c0 9 0).bind fun x3 => if x3 ≤ v8 then (ex u0) else ((gtr T u0 c0 9 2).bind fun a4 => (ald 13 T u0 a4 v8).bind fun x5 => lt (if x5 = 0 then v7 else (0 : Int32)) fun x6 => lt (fun (x7 : Int32) (u8 : hM) => lt (x6 + (1 : Int32)) fun x9 => lt (v8 + (1 : Int32)) fun x10 => fX9_singInto_L20 T c0 c1 c2 c3 c4 c5 ex n x7 x9 x10 u8) fun J162 => if c5 = (7 : Int32) then ((asti T u0 c1 v8 (-1 : Int32)).bind fun u25 => J162 v6 u25) else (if c5 = (4 : Int32) then ((gtr T u0 c0 9 4).bind fun a22 => (ald 11 T u0 a22 (((8 : Int32) * c2) + (5 : Int32))).bind fun x23 => (asti T u0 c1 v8 ((100 : Int32) * x23)).bind fun u24 => J162 v6 u24) else (lt (fun (x11 : Int32) (u12 : hM) => lt (fun (x13 : Int32) (u14 : hM) => (vc T c0 9 (fX9_heldTo T c0 c2 (x11 + x13) u14)).bind fun q15 => (asti T q15.2 c1 v8 q15.1).bind fun u16 => J162 x11 u16) fun J146 => if c5 = (1 : Int32) then (J146 (0 : Int32) u12) else ((gtr T u12 c0 9 4).bind fun a17 => (ald 11 T u12 a17 (((8 : Int32) * c2) + (2 : Int32))).bind fun x18 => (vc T c0 9 (fX9_swing T c0 c2 v8 c4 u12)).bind fun q19 => J146 (x18 + q19.1) q19.2)) fun J113 => if v8 = 0 then ((vc T c0 9 (fX9_firstAim T c0 c3 u0)).bind fun q21 => J113 q21.1 q21.2) else ((vc T c0 9 (fX9_nextAim T c0 c2 v6 v8 x6 u0)).bind fun q20 => J113 q20.1 q20.2))))
def fX9_singInto (T : hT) (a0 : Nat) (r1 : Nat) (p2 : Int32) (p3 : Int32) (p4 : Int32) (u0 : hM) : Option (hM) := (gtr T u0 a0 9 4).bind fun a1 => (ald 11 T u0 a1 ((8 : Int32) * p2)).bind fun x2 => fX9_singInto_L20 T a0 r1 p2 p3 p4 x2 (fun (u26 : hM) => some u26) 6000 (0 : Int32) (0 : Int32) (0 : Int32) u0
set_option maxRecDepth 100000 in
set_option maxHeartbeats 4000000 in
theorem wfX9_singInto_L20 {c0 : Nat} {c1 : Nat} {c2 : Int32} {c3 : Int32} {c4 : Int32} {c5 : Int32} {ex : hM → Option (hM)} {z : hM} (hΓ : h_Γ E B T p s m args meth c cX9_singInto 10 none RX9) (hex : ∀ (u9 : hM) (H9 : Heap) (L9 : List Loc) (ls : Array Slot), ex u9 = some z → h_W E B T s.heap u9 H9 L9 → lv_has ls 10 [] → W p l e (h_rm 2) s m args below meth c H9 L9 0 0 (h_Qv below E B T args s z) (F0 m 171 ls [])) : ∀ (n : Nat) (v6 : Int32) (v7 : Int32) (v8 : Int32) (u0 : hM) (H0 : Heap) (L0 : List Loc) (ls : Array Slot), fX9_singInto_L20 T c0 c1 c2 c3 c4 c5 ex n v6 v7 v8 u0 = some z → h_W E B T s.heap u0 H0 L0 → lv_has ls 10 [(0, .ref (B + c0)), (1, .ref (B + c1)), (2, .int c2), (3, .int c3), (4, .int c4), (5, .int c5), (6, .int v6), (7, .int v7), (8, .int v8)] → W p l e (h_rm 2) s m args below meth c H0 L0 0 0 (h_Qv below E B T args s z) (F0 m 20 ls []) := by
  obtain ⟨hx, hb, hr, hml, hts, hown, hlk, hX⟩ := id hΓ
  intro n
  induction n with
  | zero =>
    intro v6 v7 v8 u0 H0 L0 ls hf hw hl
    exact absurd (show (none : Option (hM)) = some z from hf) (fun h => by cases h)
  | succ n ih =>
    intro v6 v7 v8 u0 H0 L0 ls hf hw hl
    rw [fX9_singInto_L20] at hf
    refine lv_iload hx hb dX9_singInto_20 (lv_at hl 8 rfl) ?_
    refine lv_aload_n hx hb dX9_singInto_22 rfl (lv_at hl 0 rfl) ?_
    refine h_geti hf hx hb hts hown hX hw flX9_178 rfl dX9_singInto_23 (fun x3 hf => ?_)
    refine lv_icmp_ge (tgt := 171) hx hb dX9_singInto_26 (by decide) (fun hc => ?_) (fun hc => ?_)
    · have hf := ifp hc hf
      exact hex  u0 _ _ _ hf hw (lv_sub hl [] rfl)
    · have hf := ifn hc hf
      refine lv_aload_n hx hb dX9_singInto_29 rfl (lv_at hl 0 rfl) ?_
      refine h_getr hf hx hb hts hown hX hw flX9_13 rfl dX9_singInto_30 (fun a4 hf => ?_)
      refine lv_iload hx hb dX9_singInto_33 (lv_at hl 8 rfl) ?_
      refine h_zald hf hx hb hX hw dX9_singInto_35 (fun x5 hf => ?_)
      refine h_ite (ls := ls) (jj := 45) (rest := []) hf (fun k1 k2 => ?_) (fun x6 hf => ?_)
      · refine lv_if_eq (tgt := 43) hx hb dX9_singInto_36 (by decide) (fun hc => ?_) (fun hc => ?_)
        · refine lv_iload hx hb dX9_singInto_43 (lv_at hl 7 rfl) ?_
          exact k1 hc
        · refine lv_iconst (v := 0) hx hb dX9_singInto_39 (by decide) ?_
          refine lv_goto (tgt := 45) hx hb dX9_singInto_40 (by decide) ?_
          exact k2 hc
      · refine lv_istore (lv' := [(7, .int x6), (0, .ref (B + c0)), (1, .ref (B + c1)), (2, .int c2), (3, .int c3), (4, .int c4), (5, .int c5), (6, .int v6), (8, .int v8)]) hx hb dX9_singInto_45 hl (by decide) rfl (fun ls hl => ?_)
        refine lv_iload hx hb dX9_singInto_47 (lv_at hl 6 rfl) ?_
        refine lv_bipush (v := 7) hx hb dX9_singInto_49 (by decide) ?_
        obtain ⟨J162, eJ162, hf⟩ := h_lt hf
        have hJ162 : ∀ (x7 : Int32) (u8 : hM) (H8 : Heap) (L8 : List Loc) (ls : Array Slot), J162 x7 u8 = some z → h_W E B T s.heap u8 H8 L8 → lv_has ls 10 [(0, .ref (B + c0)), (1, .ref (B + c1)), (2, .int c2), (3, .int c3), (4, .int c4), (5, .int c5), (6, .int x7), (7, .int x6), (8, .int v8)] → W p l e (h_rm 2) s m args below meth c H8 L8 0 0 (h_Qv below E B T args s z) (F0 m 162 ls []) := by
          intro x7 u8 H8 L8 ls hf hw hl
          rw [eJ162] at hf
          refine h_iinc (k := 7) hf hx hb dX9_singInto_162 hl rfl (by decide) (by decide) (fun x9 ls hf hl => ?_)
          have hl : lv_has ls 10 [(7, .int x9), (0, .ref (B + c0)), (1, .ref (B + c1)), (2, .int c2), (3, .int c3), (4, .int c4), (5, .int c5), (6, .int x7), (8, .int v8)] := hl
          refine h_iinc (k := 8) hf hx hb dX9_singInto_165 hl rfl (by decide) (by decide) (fun x10 ls hf hl => ?_)
          have hl : lv_has ls 10 [(8, .int x10), (7, .int x9), (0, .ref (B + c0)), (1, .ref (B + c1)), (2, .int c2), (3, .int c3), (4, .int c4), (5, .int c5), (6, .int x7)] := hl
          refine lv_goto (tgt := 20) hx hb dX9_singInto_168 (by decide) ?_
          exact ih x7 x9 x10 u8 _ _ _ hf hw (lv_sub hl [2, 3, 4, 5, 6, 7, 8, 1, 0] rfl)
        clear eJ162
        refine lv_icmp_ne (tgt := 62) hx hb dX9_singInto_51 (by decide) (fun hc => ?_) (fun hc => ?_)
        · have hf := ifn hc hf
          refine lv_iload hx hb dX9_singInto_62 (lv_at hl 6 rfl) ?_
          refine lv_iconst (v := 4) hx hb dX9_singInto_64 (by decide) ?_
          refine lv_icmp_ne (tgt := 89) hx hb dX9_singInto_65 (by decide) (fun hc => ?_) (fun hc => ?_)
          · have hf := ifn hc hf
            refine lv_iload hx hb dX9_singInto_89 (lv_at hl 8 rfl) ?_
            obtain ⟨J113, eJ113, hf⟩ := h_lt hf
            have hJ113 : ∀ (x11 : Int32) (u12 : hM) (H12 : Heap) (L12 : List Loc) (ls : Array Slot), J113 x11 u12 = some z → h_W E B T s.heap u12 H12 L12 → lv_has ls 10 [(0, .ref (B + c0)), (1, .ref (B + c1)), (2, .int c2), (3, .int c3), (4, .int c4), (5, .int c5), (7, .int x6), (8, .int v8)] → W p l e (h_rm 2) s m args below meth c H12 L12 0 0 (h_Qv below E B T args s z) (F0 m 113 ls [.int x11]) := by
              intro x11 u12 H12 L12 ls hf hw hl
              rw [eJ113] at hf
              refine lv_istore (lv' := [(6, .int x11), (0, .ref (B + c0)), (1, .ref (B + c1)), (2, .int c2), (3, .int c3), (4, .int c4), (5, .int c5), (7, .int x6), (8, .int v8)]) hx hb dX9_singInto_113 hl (by decide) rfl (fun ls hl => ?_)
              refine lv_iload hx hb dX9_singInto_115 (lv_at hl 6 rfl) ?_
              refine lv_iconst (v := 1) hx hb dX9_singInto_117 (by decide) ?_
              obtain ⟨J146, eJ146, hf⟩ := h_lt hf
              have hJ146 : ∀ (x13 : Int32) (u14 : hM) (H14 : Heap) (L14 : List Loc) (ls : Array Slot), J146 x13 u14 = some z → h_W E B T s.heap u14 H14 L14 → lv_has ls 10 [(0, .ref (B + c0)), (1, .ref (B + c1)), (2, .int c2), (3, .int c3), (4, .int c4), (5, .int c5), (6, .int x11), (7, .int x6), (8, .int v8)] → W p l e (h_rm 2) s m args below meth c H14 L14 0 0 (h_Qv below E B T args s z) (F0 m 146 ls [.int x13]) := by
                intro x13 u14 H14 L14 ls hf hw hl
                rw [eJ146] at hf
                refine lv_istore (lv' := [(9, .int x13), (0, .ref (B + c0)), (1, .ref (B + c1)), (2, .int c2), (3, .int c3), (4, .int c4), (5, .int c5), (6, .int x11), (7, .int x6), (8, .int v8)]) hx hb dX9_singInto_146 hl (by decide) rfl (fun ls hl => ?_)
                refine lv_aload_n hx hb dX9_singInto_148 rfl (lv_at hl 2 rfl) ?_
                refine lv_iload hx hb dX9_singInto_149 (lv_at hl 9 rfl) ?_
                refine lv_aload_n hx hb dX9_singInto_151 rfl (lv_at hl 1 rfl) ?_
                refine lv_iload_n hx hb dX9_singInto_152 rfl (lv_at hl 3 rfl) ?_
                refine lv_iload hx hb dX9_singInto_153 (lv_at hl 7 rfl) ?_
                refine lv_iload hx hb dX9_singInto_155 (lv_at hl 0 rfl) ?_
                refine lv_iadd hx hb dX9_singInto_157 ?_
                refine h_cVi (As := [.int c2, .int (x11 + x13)]) (rest := [.int v8, .ref (B + c1)]) hf hx hb hml hts hown hX hw myX9_heldTo miX9_heldTo lkX9_257 ⟨rfl, by decide⟩ (fun q hq => c_X9_heldTo l E B T c0 c2 (x11 + x13) u14 hq) ⟨Nat.le_of_ble_eq_true rfl, Nat.le_of_ble_eq_true rfl⟩ ⟨Nat.le_refl _, Nat.le_refl _⟩ rfl hl.1 rfl (Nat.le_of_ble_eq_true rfl) dX9_singInto_158 (fun q15 H15 L15 hf hw => ?_)
                refine h_iast hf hx hb hX hw dX9_singInto_161 (fun u16 H16 L16 hf hw => ?_)
                exact hJ162 x11 u16 _ _ _ hf hw (lv_sub hl [1, 2, 3, 4, 5, 6, 7, 8, 9] rfl)
              clear eJ146
              refine lv_icmp_ne (tgt := 125) hx hb dX9_singInto_118 (by decide) (fun hc => ?_) (fun hc => ?_)
              · have hf := ifn hc hf
                refine lv_aload_n hx hb dX9_singInto_125 rfl (lv_at hl 1 rfl) ?_
                refine h_getr hf hx hb hts hown hX hw flX9_17 rfl dX9_singInto_126 (fun a17 hf => ?_)
                refine lv_bipush (v := 8) hx hb dX9_singInto_129 (by decide) ?_
                refine lv_iload_n hx hb dX9_singInto_131 rfl (lv_at hl 3 rfl) ?_
                refine lv_imul hx hb dX9_singInto_132 ?_
                refine lv_iconst (v := 2) hx hb dX9_singInto_133 (by decide) ?_
                refine lv_iadd hx hb dX9_singInto_134 ?_
                refine h_iald hf hx hb hX hw dX9_singInto_135 (fun x18 hf => ?_)
                refine lv_aload_n hx hb dX9_singInto_136 rfl (lv_at hl 1 rfl) ?_
                refine lv_iload_n hx hb dX9_singInto_137 rfl (lv_at hl 3 rfl) ?_
                refine lv_iload hx hb dX9_singInto_138 (lv_at hl 8 rfl) ?_
                refine lv_iload hx hb dX9_singInto_140 (lv_at hl 5 rfl) ?_
                refine h_cVi (As := [.int c2, .int v8, .int c4]) (rest := [.int x18]) hf hx hb hml hts hown hX hw myX9_swing miX9_swing lkX9_253 ⟨rfl, by decide⟩ (fun q hq => c_X9_swing l E B T c0 c2 v8 c4 u12 hq) ⟨Nat.le_of_ble_eq_true rfl, Nat.le_of_ble_eq_true rfl⟩ ⟨Nat.le_refl _, Nat.le_refl _⟩ rfl hl.1 rfl (Nat.le_of_ble_eq_true rfl) dX9_singInto_142 (fun q19 H19 L19 hf hw => ?_)
                refine lv_iadd hx hb dX9_singInto_145 ?_
                exact hJ146 (x18 + q19.1) q19.2 _ _ _ hf hw (lv_sub hl [1, 2, 3, 4, 5, 6, 0, 7, 8] rfl)
              · have hf := ifp hc hf
                refine lv_iconst (v := 0) hx hb dX9_singInto_121 (by decide) ?_
                refine lv_goto (tgt := 146) hx hb dX9_singInto_122 (by decide) ?_
                exact hJ146 (0 : Int32) u12 _ _ _ hf hw (lv_sub hl [1, 2, 3, 4, 5, 6, 0, 7, 8] rfl)
            clear eJ113
            refine lv_if_ne (tgt := 102) hx hb dX9_singInto_91 (by decide) (fun hc => ?_) (fun hc => ?_)
            · have hf := ifn hc hf
              refine lv_aload_n hx hb dX9_singInto_102 rfl (lv_at hl 1 rfl) ?_
              refine lv_iload_n hx hb dX9_singInto_103 rfl (lv_at hl 3 rfl) ?_
              refine lv_iload hx hb dX9_singInto_104 (lv_at hl 7 rfl) ?_
              refine lv_iload hx hb dX9_singInto_106 (lv_at hl 8 rfl) ?_
              refine lv_iload hx hb dX9_singInto_108 (lv_at hl 0 rfl) ?_
              refine h_cVi (As := [.int c2, .int v6, .int v8, .int x6]) (rest := []) hf hx hb hml hts hown hX hw myX9_nextAim miX9_nextAim lkX9_249 ⟨rfl, by decide⟩ (fun q hq => c_X9_nextAim l E B T c0 c2 v6 v8 x6 u0 hq) ⟨Nat.le_of_ble_eq_true rfl, Nat.le_of_ble_eq_true rfl⟩ ⟨Nat.le_refl _, Nat.le_refl _⟩ rfl hl.1 rfl (Nat.le_of_ble_eq_true rfl) dX9_singInto_110 (fun q20 H20 L20 hf hw => ?_)
              exact hJ113 q20.1 q20.2 _ _ _ hf hw (lv_sub hl [1, 2, 3, 4, 5, 6, 0, 8] rfl)
            · have hf := ifp hc hf
              refine lv_aload_n hx hb dX9_singInto_94 rfl (lv_at hl 1 rfl) ?_
              refine lv_iload_n hx hb dX9_singInto_95 rfl (lv_at hl 4 rfl) ?_
              refine h_cVi (As := [.int c3]) (rest := []) hf hx hb hml hts hown hX hw myX9_firstAim miX9_firstAim lkX9_246 ⟨rfl, by decide⟩ (fun q hq => c_X9_firstAim l E B T c0 c3 u0 hq) ⟨Nat.le_of_ble_eq_true rfl, Nat.le_of_ble_eq_true rfl⟩ ⟨Nat.le_refl _, Nat.le_refl _⟩ rfl hl.1 rfl (Nat.le_of_ble_eq_true rfl) dX9_singInto_96 (fun q21 H21 L21 hf hw => ?_)
              refine lv_goto (tgt := 113) hx hb dX9_singInto_99 (by decide) ?_
              exact hJ113 q21.1 q21.2 _ _ _ hf hw (lv_sub hl [1, 2, 3, 4, 5, 6, 0, 8] rfl)
          · have hf := ifp hc hf
            refine lv_aload_n hx hb dX9_singInto_68 rfl (lv_at hl 2 rfl) ?_
            refine lv_iload hx hb dX9_singInto_69 (lv_at hl 8 rfl) ?_
            refine lv_bipush (v := 100) hx hb dX9_singInto_71 (by decide) ?_
            refine lv_aload_n hx hb dX9_singInto_73 rfl (lv_at hl 1 rfl) ?_
            refine h_getr hf hx hb hts hown hX hw flX9_17 rfl dX9_singInto_74 (fun a22 hf => ?_)
            refine lv_bipush (v := 8) hx hb dX9_singInto_77 (by decide) ?_
            refine lv_iload_n hx hb dX9_singInto_79 rfl (lv_at hl 3 rfl) ?_
            refine lv_imul hx hb dX9_singInto_80 ?_
            refine lv_iconst (v := 5) hx hb dX9_singInto_81 (by decide) ?_
            refine lv_iadd hx hb dX9_singInto_82 ?_
            refine h_iald hf hx hb hX hw dX9_singInto_83 (fun x23 hf => ?_)
            refine lv_imul hx hb dX9_singInto_84 ?_
            refine h_iast hf hx hb hX hw dX9_singInto_85 (fun u24 H24 L24 hf hw => ?_)
            refine lv_goto (tgt := 162) hx hb dX9_singInto_86 (by decide) ?_
            exact hJ162 v6 u24 _ _ _ hf hw (lv_sub hl [1, 2, 3, 4, 5, 6, 7, 0, 8] rfl)
        · have hf := ifp hc hf
          refine lv_aload_n hx hb dX9_singInto_54 rfl (lv_at hl 2 rfl) ?_
          refine lv_iload hx hb dX9_singInto_55 (lv_at hl 8 rfl) ?_
          refine lv_iconst (v := -1) hx hb dX9_singInto_57 (by decide) ?_
          refine h_iast hf hx hb hX hw dX9_singInto_58 (fun u25 H25 L25 hf hw => ?_)
          refine lv_goto (tgt := 162) hx hb dX9_singInto_59 (by decide) ?_
          exact hJ162 v6 u25 _ _ _ hf hw (lv_sub hl [1, 2, 3, 4, 5, 6, 7, 0, 8] rfl)
set_option maxRecDepth 100000 in
set_option maxHeartbeats 4000000 in
theorem wX9_singInto {a0 : Nat} {r1 : Nat} {p2 : Int32} {p3 : Int32} {p4 : Int32} {u0 : hM} {z : hM} {ls : Array Slot} (hΓ : h_Γ E B T p s m args meth c cX9_singInto 10 none RX9) (hf : fX9_singInto T a0 r1 p2 p3 p4 u0 = some z) (hw : h_W E B T s.heap u0 s.heap []) (hl : lv_has ls 10 [(0, .ref (B + a0)), (1, .ref (B + r1)), (2, .int p2), (3, .int p3), (4, .int p4)]) : W p l e (h_rm 2) s m args below meth c s.heap [] 0 0 (h_Qv below E B T args s z) (F0 m 0 ls []) := by
  obtain ⟨hx, hb, hr, hml, hts, hown, hlk, hX⟩ := id hΓ
  unfold fX9_singInto at hf
  refine lv_aload_n hx hb dX9_singInto_0 rfl (lv_at hl 0 rfl) ?_
  refine h_getr hf hx hb hts hown hX hw flX9_17 rfl dX9_singInto_1 (fun a1 hf => ?_)
  refine lv_bipush (v := 8) hx hb dX9_singInto_4 (by decide) ?_
  refine lv_iload_n hx hb dX9_singInto_6 rfl (lv_at hl 2 rfl) ?_
  refine lv_imul hx hb dX9_singInto_7 ?_
  refine h_iald hf hx hb hX hw dX9_singInto_8 (fun x2 hf => ?_)
  refine lv_istore (lv' := [(5, .int x2), (0, .ref (B + a0)), (1, .ref (B + r1)), (2, .int p2), (3, .int p3), (4, .int p4)]) hx hb dX9_singInto_9 hl (by decide) rfl (fun ls hl => ?_)
  refine lv_iconst (v := 0) hx hb dX9_singInto_11 (by decide) ?_
  refine lv_istore (lv' := [(6, .int (0 : Int32)), (5, .int x2), (0, .ref (B + a0)), (1, .ref (B + r1)), (2, .int p2), (3, .int p3), (4, .int p4)]) hx hb dX9_singInto_12 hl (by decide) rfl (fun ls hl => ?_)
  refine lv_iconst (v := 0) hx hb dX9_singInto_14 (by decide) ?_
  refine lv_istore (lv' := [(7, .int (0 : Int32)), (6, .int (0 : Int32)), (5, .int x2), (0, .ref (B + a0)), (1, .ref (B + r1)), (2, .int p2), (3, .int p3), (4, .int p4)]) hx hb dX9_singInto_15 hl (by decide) rfl (fun ls hl => ?_)
  refine lv_iconst (v := 0) hx hb dX9_singInto_17 (by decide) ?_
  refine lv_istore (lv' := [(8, .int (0 : Int32)), (7, .int (0 : Int32)), (6, .int (0 : Int32)), (5, .int x2), (0, .ref (B + a0)), (1, .ref (B + r1)), (2, .int p2), (3, .int p3), (4, .int p4)]) hx hb dX9_singInto_18 hl (by decide) rfl (fun ls hl => ?_)
  refine wfX9_singInto_L20 hΓ ?_ 6000 (0 : Int32) (0 : Int32) (0 : Int32) u0 _ _ _ hf hw (lv_sub hl [4, 5, 6, 7, 8, 3, 2, 1, 0] rfl)
  intro u26 H26 L26 ls hf hw hl
  exact h_vret hf hx hb hr hlk hw dX9_singInto_171
theorem c_X9_singInto (l : Launch) (E : hE) (B : Nat) (T : hT) (a0 : Nat) (r1 : Nat) (p2 : Int32) (p3 : Int32) (p4 : Int32) (u0 : hM) {z : hM} (hf : fX9_singInto T a0 r1 p2 p3 p4 u0 = some z) : h_Ct l E B T yX9_singInto cX9_singInto 10 none 2 [.ref (B + a0), .ref (B + r1), .int p2, .int p3, .int p4] u0 z none := h_ofW (by decide) (Nat.le_of_ble_eq_true rfl) (fun p e s m below meth c ls hΓ hl hw => wX9_singInto hΓ hf hw hl)
def fX9_isNear (T : hT) (p0 : Int32) (u0 : hM) : Option (Int32 × hM) := (fX9_in T p0.toInt64 (-50 : Int64) (50 : Int64) u0).bind fun q1 => rtz q1.1 q1.2
set_option maxRecDepth 100000 in
set_option maxHeartbeats 4000000 in
theorem wX9_isNear {p0 : Int32} {u0 : hM} {z : Int32 × hM} {ls : Array Slot} (hΓ : h_Γ E B T p s m args meth c cX9_isNear 1 (some .boolean) RX9) (hf : fX9_isNear T p0 u0 = some z) (hw : h_W E B T s.heap u0 s.heap []) (hl : lv_has ls 1 [(0, .int p0)]) : W p l e (h_rm 1) s m args below meth c s.heap [] 0 0 (h_Qi below E B T args s z) (F0 m 0 ls []) := by
  obtain ⟨hx, hb, hr, hml, hts, hown, hlk, hX⟩ := id hΓ
  unfold fX9_isNear at hf
  refine lv_iload_n hx hb dX9_isNear_0 rfl (lv_at hl 0 rfl) ?_
  refine lv_i2l hx hb dX9_isNear_1 rfl ?_
  refine lv_ldc2 hx hb hown (hts _ klX9_260) dX9_isNear_2 ?_
  refine lv_ldc2 hx hb hown (hts _ klX9_262) dX9_isNear_5 ?_
  refine h_cSi (As := [.long p0.toInt64, .long (-50 : Int64), .long (50 : Int64)]) (rest := []) hf hx hb hml hts hown hX hw myX9_in msX9_in lkX9_90 (fun q hq => c_X9_in l E B T p0.toInt64 (-50 : Int64) (50 : Int64) u0 hq) ⟨Nat.le_of_ble_eq_true rfl, Nat.le_of_ble_eq_true rfl⟩ ⟨Nat.le_refl _, Nat.le_refl _⟩ rfl hl.1 rfl (Nat.le_of_ble_eq_true rfl) dX9_isNear_8 (fun q1 H1 L1 hf hw => ?_)
  exact h_zret hf hx hb hr hlk hw dX9_isNear_11
theorem c_X9_isNear (l : Launch) (E : hE) (B : Nat) (T : hT) (p0 : Int32) (u0 : hM) {z : Int32 × hM} (hf : fX9_isNear T p0 u0 = some z) : h_Ct l E B T yX9_isNear cX9_isNear 1 (some .boolean) 1 [.int p0] u0 z.2 (some (.int z.1)) := h_ofW (by decide) (Nat.le_of_ble_eq_true rfl) (fun p e s m below meth c ls hΓ hl hw => wX9_isNear hΓ hf hw hl)
def fX9_scoreOf_L107 (T : hT) (c0 : Nat) (c1 : Nat) (c3 : Int32) (ex : Int32 → hM → Option (Int32 × hM)) : Nat → Int32 → Int32 → hM → Option (Int32 × hM)
  | 0, _, _, _ => none
  | n + 1, v4, v5, u0 => (gti T u0 c0 9 0).bind fun x5 => if x5 ≤ v5 then (ex v4 u0) else (lt (fun (x6 : Int32) (u7 : hM) => (ald 11 T u7 c1 v5).bind fun x8 => (gtr T u7 c0 9 1).bind fun a9 => (ald 11 T u7 a9 v5).bind fun x10 => (fX9_isNear T ((x8 - x10) - x6) u7).bind fun q11 => lt (if q11.1 = 0 then (0 : Int32) else (1 : Int32)) fun x12 => lt ((v4 + x12)) fun x13 => lt (v5 + (1 : Int32)) fun x14 => fX9_scoreOf_L107 T c0 c1 c3 ex n x13 x14 q11.2) fun J140 => if c3 = 0 then ((ald 11 T u0 c1 (v5 - (1 : Int32))).bind fun x15 => (gtr T u0 c0 9 1).bind fun a16 => (ald 11 T u0 a16 (v5 - (1 : Int32))).bind fun x17 => J140 (x15 - x17) u0) else (J140 (0 : Int32) u0))
def fX9_scoreOf (T : hT) (a0 : Nat) (r1 : Nat) (p2 : Int32) (p3 : Int32) (u0 : hM) : Option (Int32 × hM) := (gti T u0 a0 9 0).bind fun x1 => if x1 = 0 then (some ((0 : Int32), u0)) else ((gtr T u0 a0 9 4).bind fun a2 => (ald 11 T u0 a2 ((8 : Int32) * p2)).bind fun x3 => if x3 = (7 : Int32) then (some ((0 : Int32), u0)) else (if p3 ≤ (1 : Int32) then (lt (if p3 = 0 then (1 : Int32) else (0 : Int32)) fun x4 => fX9_scoreOf_L107 T a0 r1 p3 (fun (x18 : Int32) (u19 : hM) => some (x18, u19)) 6000 (0 : Int32) x4 u0) else (lt (fun (x20 : Int32) (u21 : hM) => (fX9_isNear T x20 u21).bind fun q22 => if q22.1 = 0 then (some ((0 : Int32), q22.2)) else (some ((1 : Int32), q22.2))) fun J77 => if p3 = (2 : Int32) then ((ald 11 T u0 r1 (0 : Int32)).bind fun x31 => (gtr T u0 a0 9 1).bind fun a32 => (ald 11 T u0 a32 (0 : Int32)).bind fun x33 => J77 (x31 - x33) u0) else ((gti T u0 a0 9 0).bind fun x23 => (ald 11 T u0 r1 (x23 - (1 : Int32))).bind fun x24 => (gtr T u0 a0 9 1).bind fun a25 => (gti T u0 a0 9 0).bind fun x26 => (ald 11 T u0 a25 (x26 - (1 : Int32))).bind fun x27 => (ald 11 T u0 r1 (0 : Int32)).bind fun x28 => (gtr T u0 a0 9 1).bind fun a29 => (ald 11 T u0 a29 (0 : Int32)).bind fun x30 => J77 (((x24 - x27) - x28) + x30) u0))))
set_option maxRecDepth 100000 in
set_option maxHeartbeats 4000000 in
theorem wfX9_scoreOf_L107 {c0 : Nat} {c1 : Nat} {c3 : Int32} {ex : Int32 → hM → Option (Int32 × hM)} {z : Int32 × hM} (hΓ : h_Γ E B T p s m args meth c cX9_scoreOf 7 (some .int) RX9) (hex : ∀ (y4 : Int32) (u9 : hM) (H9 : Heap) (L9 : List Loc) (ls : Array Slot), ex y4 u9 = some z → h_W E B T s.heap u9 H9 L9 → lv_has ls 7 [(4, .int y4)] → W p l e (h_rm 2) s m args below meth c H9 L9 0 0 (h_Qi below E B T args s z) (F0 m 179 ls [])) : ∀ (n : Nat) (v4 : Int32) (v5 : Int32) (u0 : hM) (H0 : Heap) (L0 : List Loc) (ls : Array Slot), fX9_scoreOf_L107 T c0 c1 c3 ex n v4 v5 u0 = some z → h_W E B T s.heap u0 H0 L0 → lv_has ls 7 [(0, .ref (B + c0)), (1, .ref (B + c1)), (3, .int c3), (4, .int v4), (5, .int v5)] → W p l e (h_rm 2) s m args below meth c H0 L0 0 0 (h_Qi below E B T args s z) (F0 m 107 ls []) := by
  obtain ⟨hx, hb, hr, hml, hts, hown, hlk, hX⟩ := id hΓ
  intro n
  induction n with
  | zero =>
    intro v4 v5 u0 H0 L0 ls hf hw hl
    exact absurd (show (none : Option (Int32 × hM)) = some z from hf) (fun h => by cases h)
  | succ n ih =>
    intro v4 v5 u0 H0 L0 ls hf hw hl
    rw [fX9_scoreOf_L107] at hf
    refine lv_iload hx hb dX9_scoreOf_107 (lv_at hl 4 rfl) ?_
    refine lv_aload_n hx hb dX9_scoreOf_109 rfl (lv_at hl 0 rfl) ?_
    refine h_geti hf hx hb hts hown hX hw flX9_178 rfl dX9_scoreOf_110 (fun x5 hf => ?_)
    refine lv_icmp_ge (tgt := 179) hx hb dX9_scoreOf_113 (by decide) (fun hc => ?_) (fun hc => ?_)
    · have hf := ifp hc hf
      exact hex v4 u0 _ _ _ hf hw (lv_sub hl [3] rfl)
    · have hf := ifn hc hf
      refine lv_iload_n hx hb dX9_scoreOf_116 rfl (lv_at hl 2 rfl) ?_
      obtain ⟨J140, eJ140, hf⟩ := h_lt hf
      have hJ140 : ∀ (x6 : Int32) (u7 : hM) (H7 : Heap) (L7 : List Loc) (ls : Array Slot), J140 x6 u7 = some z → h_W E B T s.heap u7 H7 L7 → lv_has ls 7 [(0, .ref (B + c0)), (1, .ref (B + c1)), (3, .int c3), (4, .int v4), (5, .int v5)] → W p l e (h_rm 2) s m args below meth c H7 L7 0 0 (h_Qi below E B T args s z) (F0 m 140 ls [.int x6]) := by
        intro x6 u7 H7 L7 ls hf hw hl
        rw [eJ140] at hf
        refine lv_istore (lv' := [(6, .int x6), (0, .ref (B + c0)), (1, .ref (B + c1)), (3, .int c3), (4, .int v4), (5, .int v5)]) hx hb dX9_scoreOf_140 hl (by decide) rfl (fun ls hl => ?_)
        refine lv_iload hx hb dX9_scoreOf_142 (lv_at hl 4 rfl) ?_
        refine lv_aload_n hx hb dX9_scoreOf_144 rfl (lv_at hl 2 rfl) ?_
        refine lv_iload hx hb dX9_scoreOf_145 (lv_at hl 5 rfl) ?_
        refine h_iald hf hx hb hX hw dX9_scoreOf_147 (fun x8 hf => ?_)
        refine lv_aload_n hx hb dX9_scoreOf_148 rfl (lv_at hl 1 rfl) ?_
        refine h_getr hf hx hb hts hown hX hw flX9_7 rfl dX9_scoreOf_149 (fun a9 hf => ?_)
        refine lv_iload hx hb dX9_scoreOf_152 (lv_at hl 5 rfl) ?_
        refine h_iald hf hx hb hX hw dX9_scoreOf_154 (fun x10 hf => ?_)
        refine lv_isub hx hb dX9_scoreOf_155 ?_
        refine lv_iload hx hb dX9_scoreOf_156 (lv_at hl 0 rfl) ?_
        refine lv_isub hx hb dX9_scoreOf_158 ?_
        refine h_cSi (As := [.int ((x8 - x10) - x6)]) (rest := [.int v4]) hf hx hb hml hts hown hX hw myX9_isNear msX9_isNear lkX9_264 (fun q hq => c_X9_isNear l E B T ((x8 - x10) - x6) u7 hq) ⟨Nat.le_of_ble_eq_true rfl, Nat.le_of_ble_eq_true rfl⟩ ⟨Nat.le_refl _, Nat.le_refl _⟩ rfl hl.1 rfl (Nat.le_of_ble_eq_true rfl) dX9_scoreOf_159 (fun q11 H11 L11 hf hw => ?_)
        refine h_ite (ls := ls) (jj := 170) (rest := [.int v4]) hf (fun k1 k2 => ?_) (fun x12 hf => ?_)
        · refine lv_if_eq (tgt := 169) hx hb dX9_scoreOf_162 (by decide) (fun hc => ?_) (fun hc => ?_)
          · refine lv_iconst (v := 0) hx hb dX9_scoreOf_169 (by decide) ?_
            exact k1 hc
          · refine lv_iconst (v := 1) hx hb dX9_scoreOf_165 (by decide) ?_
            refine lv_goto (tgt := 170) hx hb dX9_scoreOf_166 (by decide) ?_
            exact k2 hc
        · refine lv_iadd hx hb dX9_scoreOf_170 ?_
          refine h_nmi hf (fun x13 hf => ?_)
          refine lv_istore (lv' := [(4, .int x13), (6, .int x6), (0, .ref (B + c0)), (1, .ref (B + c1)), (3, .int c3), (5, .int v5)]) hx hb dX9_scoreOf_171 hl (by decide) rfl (fun ls hl => ?_)
          refine h_iinc (k := 5) hf hx hb dX9_scoreOf_173 hl rfl (by decide) (by decide) (fun x14 ls hf hl => ?_)
          have hl : lv_has ls 7 [(5, .int x14), (4, .int x13), (6, .int x6), (0, .ref (B + c0)), (1, .ref (B + c1)), (3, .int c3)] := hl
          refine lv_goto (tgt := 107) hx hb dX9_scoreOf_176 (by decide) ?_
          exact ih x13 x14 q11.2 _ _ _ hf hw (lv_sub hl [3, 4, 5, 1, 0] rfl)
      clear eJ140
      refine lv_if_ne (tgt := 139) hx hb dX9_scoreOf_117 (by decide) (fun hc => ?_) (fun hc => ?_)
      · have hf := ifn hc hf
        refine lv_iconst (v := 0) hx hb dX9_scoreOf_139 (by decide) ?_
        exact hJ140 (0 : Int32) u0 _ _ _ hf hw (lv_sub hl [0, 1, 2, 3, 4] rfl)
      · have hf := ifp hc hf
        refine lv_aload_n hx hb dX9_scoreOf_120 rfl (lv_at hl 1 rfl) ?_
        refine lv_iload hx hb dX9_scoreOf_121 (lv_at hl 4 rfl) ?_
        refine lv_iconst (v := 1) hx hb dX9_scoreOf_123 (by decide) ?_
        refine lv_isub hx hb dX9_scoreOf_124 ?_
        refine h_iald hf hx hb hX hw dX9_scoreOf_125 (fun x15 hf => ?_)
        refine lv_aload_n hx hb dX9_scoreOf_126 rfl (lv_at hl 0 rfl) ?_
        refine h_getr hf hx hb hts hown hX hw flX9_7 rfl dX9_scoreOf_127 (fun a16 hf => ?_)
        refine lv_iload hx hb dX9_scoreOf_130 (lv_at hl 4 rfl) ?_
        refine lv_iconst (v := 1) hx hb dX9_scoreOf_132 (by decide) ?_
        refine lv_isub hx hb dX9_scoreOf_133 ?_
        refine h_iald hf hx hb hX hw dX9_scoreOf_134 (fun x17 hf => ?_)
        refine lv_isub hx hb dX9_scoreOf_135 ?_
        refine lv_goto (tgt := 140) hx hb dX9_scoreOf_136 (by decide) ?_
        exact hJ140 (x15 - x17) u0 _ _ _ hf hw (lv_sub hl [0, 1, 2, 3, 4] rfl)
set_option maxRecDepth 100000 in
set_option maxHeartbeats 4000000 in
theorem wX9_scoreOf {a0 : Nat} {r1 : Nat} {p2 : Int32} {p3 : Int32} {u0 : hM} {z : Int32 × hM} {ls : Array Slot} (hΓ : h_Γ E B T p s m args meth c cX9_scoreOf 7 (some .int) RX9) (hf : fX9_scoreOf T a0 r1 p2 p3 u0 = some z) (hw : h_W E B T s.heap u0 s.heap []) (hl : lv_has ls 7 [(0, .ref (B + a0)), (1, .ref (B + r1)), (2, .int p2), (3, .int p3)]) : W p l e (h_rm 2) s m args below meth c s.heap [] 0 0 (h_Qi below E B T args s z) (F0 m 0 ls []) := by
  obtain ⟨hx, hb, hr, hml, hts, hown, hlk, hX⟩ := id hΓ
  unfold fX9_scoreOf at hf
  refine lv_aload_n hx hb dX9_scoreOf_0 rfl (lv_at hl 0 rfl) ?_
  refine h_geti hf hx hb hts hown hX hw flX9_178 rfl dX9_scoreOf_1 (fun x1 hf => ?_)
  refine lv_if_eq (tgt := 21) hx hb dX9_scoreOf_4 (by decide) (fun hc => ?_) (fun hc => ?_)
  · have hf := ifp hc hf
    refine lv_iconst (v := 0) hx hb dX9_scoreOf_21 (by decide) ?_
    exact h_iret hf hx hb hr hlk hw dX9_scoreOf_22
  · have hf := ifn hc hf
    refine lv_aload_n hx hb dX9_scoreOf_7 rfl (lv_at hl 0 rfl) ?_
    refine h_getr hf hx hb hts hown hX hw flX9_17 rfl dX9_scoreOf_8 (fun a2 hf => ?_)
    refine lv_bipush (v := 8) hx hb dX9_scoreOf_11 (by decide) ?_
    refine lv_iload_n hx hb dX9_scoreOf_13 rfl (lv_at hl 2 rfl) ?_
    refine lv_imul hx hb dX9_scoreOf_14 ?_
    refine h_iald hf hx hb hX hw dX9_scoreOf_15 (fun x3 hf => ?_)
    refine lv_bipush (v := 7) hx hb dX9_scoreOf_16 (by decide) ?_
    refine lv_icmp_ne (tgt := 23) hx hb dX9_scoreOf_18 (by decide) (fun hc => ?_) (fun hc => ?_)
    · have hf := ifn hc hf
      refine lv_iload_n hx hb dX9_scoreOf_23 rfl (lv_at hl 3 rfl) ?_
      refine lv_iconst (v := 1) hx hb dX9_scoreOf_24 (by decide) ?_
      refine lv_icmp_le (tgt := 93) hx hb dX9_scoreOf_25 (by decide) (fun hc => ?_) (fun hc => ?_)
      · have hf := ifp hc hf
        refine lv_iconst (v := 0) hx hb dX9_scoreOf_93 (by decide) ?_
        refine lv_istore (lv' := [(4, .int (0 : Int32)), (0, .ref (B + a0)), (1, .ref (B + r1)), (2, .int p2), (3, .int p3)]) hx hb dX9_scoreOf_94 hl (by decide) rfl (fun ls hl => ?_)
        refine lv_iload_n hx hb dX9_scoreOf_96 rfl (lv_at hl 4 rfl) ?_
        refine h_ite (ls := ls) (jj := 105) (rest := []) hf (fun k1 k2 => ?_) (fun x4 hf => ?_)
        · refine lv_if_ne (tgt := 104) hx hb dX9_scoreOf_97 (by decide) (fun hc => ?_) (fun hc => ?_)
          · refine lv_iconst (v := 0) hx hb dX9_scoreOf_104 (by decide) ?_
            exact k2 hc
          · refine lv_iconst (v := 1) hx hb dX9_scoreOf_100 (by decide) ?_
            refine lv_goto (tgt := 105) hx hb dX9_scoreOf_101 (by decide) ?_
            exact k1 hc
        · refine lv_istore (lv' := [(5, .int x4), (4, .int (0 : Int32)), (0, .ref (B + a0)), (1, .ref (B + r1)), (2, .int p2), (3, .int p3)]) hx hb dX9_scoreOf_105 hl (by decide) rfl (fun ls hl => ?_)
          refine wfX9_scoreOf_L107 hΓ ?_ 6000 (0 : Int32) x4 u0 _ _ _ hf hw (lv_sub hl [2, 3, 5, 1, 0] rfl)
          intro x18 u19 H19 L19 ls hf hw hl
          refine lv_iload hx hb dX9_scoreOf_179 (lv_at hl 0 rfl) ?_
          exact h_iret hf hx hb hr hlk hw dX9_scoreOf_181
      · have hf := ifn hc hf
        refine lv_iload_n hx hb dX9_scoreOf_28 rfl (lv_at hl 3 rfl) ?_
        refine lv_iconst (v := 2) hx hb dX9_scoreOf_29 (by decide) ?_
        obtain ⟨J77, eJ77, hf⟩ := h_lt hf
        have hJ77 : ∀ (x20 : Int32) (u21 : hM) (H21 : Heap) (L21 : List Loc) (ls : Array Slot), J77 x20 u21 = some z → h_W E B T s.heap u21 H21 L21 → lv_has ls 7 [] → W p l e (h_rm 2) s m args below meth c H21 L21 0 0 (h_Qi below E B T args s z) (F0 m 77 ls [.int x20]) := by
          intro x20 u21 H21 L21 ls hf hw hl
          rw [eJ77] at hf
          refine lv_istore (lv' := [(4, .int x20)]) hx hb dX9_scoreOf_77 hl (by decide) rfl (fun ls hl => ?_)
          refine lv_iload hx hb dX9_scoreOf_79 (lv_at hl 0 rfl) ?_
          refine h_cSi (As := [.int x20]) (rest := []) hf hx hb hml hts hown hX hw myX9_isNear msX9_isNear lkX9_264 (fun q hq => c_X9_isNear l E B T x20 u21 hq) ⟨Nat.le_of_ble_eq_true rfl, Nat.le_of_ble_eq_true rfl⟩ ⟨Nat.le_refl _, Nat.le_refl _⟩ rfl hl.1 rfl (Nat.le_of_ble_eq_true rfl) dX9_scoreOf_81 (fun q22 H22 L22 hf hw => ?_)
          refine lv_if_eq (tgt := 91) hx hb dX9_scoreOf_84 (by decide) (fun hc => ?_) (fun hc => ?_)
          · have hf := ifp hc hf
            refine lv_iconst (v := 0) hx hb dX9_scoreOf_91 (by decide) ?_
            exact h_iret hf hx hb hr hlk hw dX9_scoreOf_92
          · have hf := ifn hc hf
            refine lv_iconst (v := 1) hx hb dX9_scoreOf_87 (by decide) ?_
            refine lv_goto (tgt := 92) hx hb dX9_scoreOf_88 (by decide) ?_
            exact h_iret hf hx hb hr hlk hw dX9_scoreOf_92
        clear eJ77
        refine lv_icmp_ne (tgt := 46) hx hb dX9_scoreOf_30 (by decide) (fun hc => ?_) (fun hc => ?_)
        · have hf := ifn hc hf
          refine lv_aload_n hx hb dX9_scoreOf_46 rfl (lv_at hl 1 rfl) ?_
          refine lv_aload_n hx hb dX9_scoreOf_47 rfl (lv_at hl 0 rfl) ?_
          refine h_geti hf hx hb hts hown hX hw flX9_178 rfl dX9_scoreOf_48 (fun x23 hf => ?_)
          refine lv_iconst (v := 1) hx hb dX9_scoreOf_51 (by decide) ?_
          refine lv_isub hx hb dX9_scoreOf_52 ?_
          refine h_iald hf hx hb hX hw dX9_scoreOf_53 (fun x24 hf => ?_)
          refine lv_aload_n hx hb dX9_scoreOf_54 rfl (lv_at hl 0 rfl) ?_
          refine h_getr hf hx hb hts hown hX hw flX9_7 rfl dX9_scoreOf_55 (fun a25 hf => ?_)
          refine lv_aload_n hx hb dX9_scoreOf_58 rfl (lv_at hl 0 rfl) ?_
          refine h_geti hf hx hb hts hown hX hw flX9_178 rfl dX9_scoreOf_59 (fun x26 hf => ?_)
          refine lv_iconst (v := 1) hx hb dX9_scoreOf_62 (by decide) ?_
          refine lv_isub hx hb dX9_scoreOf_63 ?_
          refine h_iald hf hx hb hX hw dX9_scoreOf_64 (fun x27 hf => ?_)
          refine lv_isub hx hb dX9_scoreOf_65 ?_
          refine lv_aload_n hx hb dX9_scoreOf_66 rfl (lv_at hl 1 rfl) ?_
          refine lv_iconst (v := 0) hx hb dX9_scoreOf_67 (by decide) ?_
          refine h_iald hf hx hb hX hw dX9_scoreOf_68 (fun x28 hf => ?_)
          refine lv_isub hx hb dX9_scoreOf_69 ?_
          refine lv_aload_n hx hb dX9_scoreOf_70 rfl (lv_at hl 0 rfl) ?_
          refine h_getr hf hx hb hts hown hX hw flX9_7 rfl dX9_scoreOf_71 (fun a29 hf => ?_)
          refine lv_iconst (v := 0) hx hb dX9_scoreOf_74 (by decide) ?_
          refine h_iald hf hx hb hX hw dX9_scoreOf_75 (fun x30 hf => ?_)
          refine lv_iadd hx hb dX9_scoreOf_76 ?_
          exact hJ77 (((x24 - x27) - x28) + x30) u0 _ _ _ hf hw (lv_sub hl [] rfl)
        · have hf := ifp hc hf
          refine lv_aload_n hx hb dX9_scoreOf_33 rfl (lv_at hl 1 rfl) ?_
          refine lv_iconst (v := 0) hx hb dX9_scoreOf_34 (by decide) ?_
          refine h_iald hf hx hb hX hw dX9_scoreOf_35 (fun x31 hf => ?_)
          refine lv_aload_n hx hb dX9_scoreOf_36 rfl (lv_at hl 0 rfl) ?_
          refine h_getr hf hx hb hts hown hX hw flX9_7 rfl dX9_scoreOf_37 (fun a32 hf => ?_)
          refine lv_iconst (v := 0) hx hb dX9_scoreOf_40 (by decide) ?_
          refine h_iald hf hx hb hX hw dX9_scoreOf_41 (fun x33 hf => ?_)
          refine lv_isub hx hb dX9_scoreOf_42 ?_
          refine lv_goto (tgt := 77) hx hb dX9_scoreOf_43 (by decide) ?_
          exact hJ77 (x31 - x33) u0 _ _ _ hf hw (lv_sub hl [] rfl)
    · have hf := ifp hc hf
      refine lv_iconst (v := 0) hx hb dX9_scoreOf_21 (by decide) ?_
      exact h_iret hf hx hb hr hlk hw dX9_scoreOf_22
theorem c_X9_scoreOf (l : Launch) (E : hE) (B : Nat) (T : hT) (a0 : Nat) (r1 : Nat) (p2 : Int32) (p3 : Int32) (u0 : hM) {z : Int32 × hM} (hf : fX9_scoreOf T a0 r1 p2 p3 u0 = some z) : h_Ct l E B T yX9_scoreOf cX9_scoreOf 7 (some .int) 2 [.ref (B + a0), .ref (B + r1), .int p2, .int p3] u0 z.2 (some (.int z.1)) := h_ofW (by decide) (Nat.le_of_ble_eq_true rfl) (fun p e s m below meth c ls hΓ hl hw => wX9_scoreOf hΓ hf hw hl)
end GEN
