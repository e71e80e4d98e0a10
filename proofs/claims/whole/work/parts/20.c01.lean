section GEN
variable {p : Program} {l : Launch} {e : Env} {s : State} {m : MethodId} {args : Array Value} {below : List Frame} {meth : Method} {c : Code} {E : hE} {B : Nat} {T : hT}
def fX3_readFrom (T : hT) (a0 : Nat) (r1 : Nat) (u0 : hM) : Option (hM) := (vc T r1 6 (fX6_readWord T r1 2 u0)).bind fun q1 => (pti T q1.2 a0 3 0 q1.1).bind fun u2 => (vc T r1 6 (fX6_readNumber T r1 (0 : Int32) (99 : Int32) u2)).bind fun q3 => (pti T q3.2 a0 3 1 q3.1).bind fun u4 => (vc T r1 6 (fX6_readNumber T r1 (0 : Int32) (99 : Int32) u4)).bind fun q5 => (pti T q5.2 a0 3 2 (q5.1 - (50 : Int32))).bind fun u6 => (vc T r1 6 (fX6_readNumber T r1 (0 : Int32) (99 : Int32) u6)).bind fun q7 => (pti T q7.2 a0 3 3 q7.1).bind fun u8 => (vc T r1 6 (fX6_readNumber T r1 (1 : Int32) (40 : Int32) u8)).bind fun q9 => (pti T q9.2 a0 3 4 q9.1).bind fun u10 => (vc T r1 6 (fX6_readNumber T r1 (0 : Int32) (36 : Int32) u10)).bind fun q11 => (pti T q11.2 a0 3 5 q11.1).bind fun u12 => (vc T r1 6 (fX6_readNumber T r1 (0 : Int32) (36 : Int32) u12)).bind fun q13 => (pti T q13.2 a0 3 6 q13.1).bind fun u14 => (gti T u14 a0 3 6).bind fun x15 => (gti T u14 a0 3 5).bind fun x16 => lt (fun (u17 : hM) => (vc T r1 6 (fX6_readNumber T r1 (0 : Int32) (40 : Int32) u17)).bind fun q18 => (pti T q18.2 a0 3 7 (q18.1 - (20 : Int32))).bind fun u19 => (vc T r1 6 (fX6_readSign T r1 (59 : Int32) u19)).bind fun q20 => some q20) fun J95 => if x16 ≤ x15 then (J95 u14) else ((vc T r1 6 (fX6_blame T r1 (4 : Int32) u14)).bind fun q21 => J95 q21)
set_option maxRecDepth 100000 in
set_option maxHeartbeats 4000000 in
theorem wX3_readFrom {a0 : Nat} {r1 : Nat} {u0 : hM} {z : hM} {ls : Array Slot} (hΓ : h_Γ E B T p s m args meth c cX3_readFrom 2 none RX3) (hf : fX3_readFrom T a0 r1 u0 = some z) (hw : h_W E B T s.heap u0 s.heap []) (hl : lv_has ls 2 [(0, .ref (B + a0)), (1, .ref (B + r1))]) : W p l e (h_rm 9) s m args below meth c s.heap [] 0 0 (h_Qv below E B T args s z) (F0 m 0 ls []) := by
  obtain ⟨hx, hb, hr, hml, hts, hown, hlk, hX⟩ := id hΓ
  unfold fX3_readFrom at hf
  refine lv_aload_n hx hb dX3_readFrom_0 rfl (lv_at hl 0 rfl) ?_
  refine lv_aload_n hx hb dX3_readFrom_1 rfl (lv_at hl 1 rfl) ?_
  refine va_ldcS hx hb hown (show vk_R RX3 36 "plain true drifting narrow growling short deaf hushed " (E.2.2.1 2) s from hX.2.2.1 2 (by decide)) dX3_readFrom_2 ?_
  refine h_cVi (As := [.ref (E.2.2.1 2)]) (rest := [.ref (B + a0)]) hf hx hb hml hts hown hX hw myX6_readWord miX6_readWord lkX3_38 ⟨rfl, by decide⟩ (fun q hq => c_X6_readWord l E B T r1 2 u0 hq) ⟨Nat.le_of_ble_eq_true rfl, Nat.le_of_ble_eq_true rfl⟩ ⟨Nat.le_refl _, Nat.le_refl _⟩ rfl hl.1 rfl (Nat.le_of_ble_eq_true rfl) dX3_readFrom_4 (fun q1 H1 L1 hf hw => ?_)
  refine h_puti hf hx hb hts hown hX hw flX3_9 ⟨rfl, rfl⟩ dX3_readFrom_7 (fun u2 H2 L2 hf hw => ?_)
  refine lv_aload_n hx hb dX3_readFrom_10 rfl (lv_at hl 0 rfl) ?_
  refine lv_aload_n hx hb dX3_readFrom_11 rfl (lv_at hl 1 rfl) ?_
  refine lv_iconst (v := 0) hx hb dX3_readFrom_12 (by decide) ?_
  refine lv_bipush (v := 99) hx hb dX3_readFrom_13 (by decide) ?_
  refine h_cVi (As := [.int (0 : Int32), .int (99 : Int32)]) (rest := [.ref (B + a0)]) hf hx hb hml hts hown hX hw myX6_readNumber miX6_readNumber lkX3_44 ⟨rfl, by decide⟩ (fun q hq => c_X6_readNumber l E B T r1 (0 : Int32) (99 : Int32) u2 hq) ⟨Nat.le_of_ble_eq_true rfl, Nat.le_of_ble_eq_true rfl⟩ ⟨Nat.le_refl _, Nat.le_refl _⟩ rfl hl.1 rfl (Nat.le_of_ble_eq_true rfl) dX3_readFrom_15 (fun q3 H3 L3 hf hw => ?_)
  refine h_puti hf hx hb hts hown hX hw flX3_15 ⟨rfl, rfl⟩ dX3_readFrom_18 (fun u4 H4 L4 hf hw => ?_)
  refine lv_aload_n hx hb dX3_readFrom_21 rfl (lv_at hl 0 rfl) ?_
  refine lv_aload_n hx hb dX3_readFrom_22 rfl (lv_at hl 1 rfl) ?_
  refine lv_iconst (v := 0) hx hb dX3_readFrom_23 (by decide) ?_
  refine lv_bipush (v := 99) hx hb dX3_readFrom_24 (by decide) ?_
  refine h_cVi (As := [.int (0 : Int32), .int (99 : Int32)]) (rest := [.ref (B + a0)]) hf hx hb hml hts hown hX hw myX6_readNumber miX6_readNumber lkX3_44 ⟨rfl, by decide⟩ (fun q hq => c_X6_readNumber l E B T r1 (0 : Int32) (99 : Int32) u4 hq) ⟨Nat.le_of_ble_eq_true rfl, Nat.le_of_ble_eq_true rfl⟩ ⟨Nat.le_refl _, Nat.le_refl _⟩ rfl hl.1 rfl (Nat.le_of_ble_eq_true rfl) dX3_readFrom_26 (fun q5 H5 L5 hf hw => ?_)
  refine lv_bipush (v := 50) hx hb dX3_readFrom_29 (by decide) ?_
  refine lv_isub hx hb dX3_readFrom_31 ?_
  refine h_puti hf hx hb hts hown hX hw flX3_18 ⟨rfl, rfl⟩ dX3_readFrom_32 (fun u6 H6 L6 hf hw => ?_)
  refine lv_aload_n hx hb dX3_readFrom_35 rfl (lv_at hl 0 rfl) ?_
  refine lv_aload_n hx hb dX3_readFrom_36 rfl (lv_at hl 1 rfl) ?_
  refine lv_iconst (v := 0) hx hb dX3_readFrom_37 (by decide) ?_
  refine lv_bipush (v := 99) hx hb dX3_readFrom_38 (by decide) ?_
  refine h_cVi (As := [.int (0 : Int32), .int (99 : Int32)]) (rest := [.ref (B + a0)]) hf hx hb hml hts hown hX hw myX6_readNumber miX6_readNumber lkX3_44 ⟨rfl, by decide⟩ (fun q hq => c_X6_readNumber l E B T r1 (0 : Int32) (99 : Int32) u6 hq) ⟨Nat.le_of_ble_eq_true rfl, Nat.le_of_ble_eq_true rfl⟩ ⟨Nat.le_refl _, Nat.le_refl _⟩ rfl hl.1 rfl (Nat.le_of_ble_eq_true rfl) dX3_readFrom_40 (fun q7 H7 L7 hf hw => ?_)
  refine h_puti hf hx hb hts hown hX hw flX3_21 ⟨rfl, rfl⟩ dX3_readFrom_43 (fun u8 H8 L8 hf hw => ?_)
  refine lv_aload_n hx hb dX3_readFrom_46 rfl (lv_at hl 0 rfl) ?_
  refine lv_aload_n hx hb dX3_readFrom_47 rfl (lv_at hl 1 rfl) ?_
  refine lv_iconst (v := 1) hx hb dX3_readFrom_48 (by decide) ?_
  refine lv_bipush (v := 40) hx hb dX3_readFrom_49 (by decide) ?_
  refine h_cVi (As := [.int (1 : Int32), .int (40 : Int32)]) (rest := [.ref (B + a0)]) hf hx hb hml hts hown hX hw myX6_readNumber miX6_readNumber lkX3_44 ⟨rfl, by decide⟩ (fun q hq => c_X6_readNumber l E B T r1 (1 : Int32) (40 : Int32) u8 hq) ⟨Nat.le_of_ble_eq_true rfl, Nat.le_of_ble_eq_true rfl⟩ ⟨Nat.le_refl _, Nat.le_refl _⟩ rfl hl.1 rfl (Nat.le_of_ble_eq_true rfl) dX3_readFrom_51 (fun q9 H9 L9 hf hw => ?_)
  refine h_puti hf hx hb hts hown hX hw flX3_24 ⟨rfl, rfl⟩ dX3_readFrom_54 (fun u10 H10 L10 hf hw => ?_)
  refine lv_aload_n hx hb dX3_readFrom_57 rfl (lv_at hl 0 rfl) ?_
  refine lv_aload_n hx hb dX3_readFrom_58 rfl (lv_at hl 1 rfl) ?_
  refine lv_iconst (v := 0) hx hb dX3_readFrom_59 (by decide) ?_
  refine lv_bipush (v := 36) hx hb dX3_readFrom_60 (by decide) ?_
  refine h_cVi (As := [.int (0 : Int32), .int (36 : Int32)]) (rest := [.ref (B + a0)]) hf hx hb hml hts hown hX hw myX6_readNumber miX6_readNumber lkX3_44 ⟨rfl, by decide⟩ (fun q hq => c_X6_readNumber l E B T r1 (0 : Int32) (36 : Int32) u10 hq) ⟨Nat.le_of_ble_eq_true rfl, Nat.le_of_ble_eq_true rfl⟩ ⟨Nat.le_refl _, Nat.le_refl _⟩ rfl hl.1 rfl (Nat.le_of_ble_eq_true rfl) dX3_readFrom_62 (fun q11 H11 L11 hf hw => ?_)
  refine h_puti hf hx hb hts hown hX hw flX3_27 ⟨rfl, rfl⟩ dX3_readFrom_65 (fun u12 H12 L12 hf hw => ?_)
  refine lv_aload_n hx hb dX3_readFrom_68 rfl (lv_at hl 0 rfl) ?_
  refine lv_aload_n hx hb dX3_readFrom_69 rfl (lv_at hl 1 rfl) ?_
  refine lv_iconst (v := 0) hx hb dX3_readFrom_70 (by decide) ?_
  refine lv_bipush (v := 36) hx hb dX3_readFrom_71 (by decide) ?_
  refine h_cVi (As := [.int (0 : Int32), .int (36 : Int32)]) (rest := [.ref (B + a0)]) hf hx hb hml hts hown hX hw myX6_readNumber miX6_readNumber lkX3_44 ⟨rfl, by decide⟩ (fun q hq => c_X6_readNumber l E B T r1 (0 : Int32) (36 : Int32) u12 hq) ⟨Nat.le_of_ble_eq_true rfl, Nat.le_of_ble_eq_true rfl⟩ ⟨Nat.le_refl _, Nat.le_refl _⟩ rfl hl.1 rfl (Nat.le_of_ble_eq_true rfl) dX3_readFrom_73 (fun q13 H13 L13 hf hw => ?_)
  refine h_puti hf hx hb hts hown hX hw flX3_30 ⟨rfl, rfl⟩ dX3_readFrom_76 (fun u14 H14 L14 hf hw => ?_)
  refine lv_aload_n hx hb dX3_readFrom_79 rfl (lv_at hl 0 rfl) ?_
  refine h_geti hf hx hb hts hown hX hw flX3_30 rfl dX3_readFrom_80 (fun x15 hf => ?_)
  refine lv_aload_n hx hb dX3_readFrom_83 rfl (lv_at hl 0 rfl) ?_
  refine h_geti hf hx hb hts hown hX hw flX3_27 rfl dX3_readFrom_84 (fun x16 hf => ?_)
  obtain ⟨J95, eJ95, hf⟩ := h_lt hf
  have hJ95 : ∀ (u17 : hM) (H17 : Heap) (L17 : List Loc) (ls : Array Slot), J95  u17 = some z → h_W E B T s.heap u17 H17 L17 → lv_has ls 2 [(0, .ref (B + a0)), (1, .ref (B + r1))] → W p l e (h_rm 9) s m args below meth c H17 L17 0 0 (h_Qv below E B T args s z) (F0 m 95 ls []) := by
    intro  u17 H17 L17 ls hf hw hl
    rw [eJ95] at hf
    refine lv_aload_n hx hb dX3_readFrom_95 rfl (lv_at hl 0 rfl) ?_
    refine lv_aload_n hx hb dX3_readFrom_96 rfl (lv_at hl 1 rfl) ?_
    refine lv_iconst (v := 0) hx hb dX3_readFrom_97 (by decide) ?_
    refine lv_bipush (v := 40) hx hb dX3_readFrom_98 (by decide) ?_
    refine h_cVi (As := [.int (0 : Int32), .int (40 : Int32)]) (rest := [.ref (B + a0)]) hf hx hb hml hts hown hX hw myX6_readNumber miX6_readNumber lkX3_44 ⟨rfl, by decide⟩ (fun q hq => c_X6_readNumber l E B T r1 (0 : Int32) (40 : Int32) u17 hq) ⟨Nat.le_of_ble_eq_true rfl, Nat.le_of_ble_eq_true rfl⟩ ⟨Nat.le_refl _, Nat.le_refl _⟩ rfl hl.1 rfl (Nat.le_of_ble_eq_true rfl) dX3_readFrom_100 (fun q18 H18 L18 hf hw => ?_)
    refine lv_bipush (v := 20) hx hb dX3_readFrom_103 (by decide) ?_
    refine lv_isub hx hb dX3_readFrom_105 ?_
    refine h_puti hf hx hb hts hown hX hw flX3_33 ⟨rfl, rfl⟩ dX3_readFrom_106 (fun u19 H19 L19 hf hw => ?_)
    refine lv_aload_n hx hb dX3_readFrom_109 rfl (lv_at hl 1 rfl) ?_
    refine lv_bipush (v := 59) hx hb dX3_readFrom_110 (by decide) ?_
    refine h_cVv (As := [.int (59 : Int32)]) (rest := []) hf hx hb hml hts hown hX hw myX6_readSign miX6_readSign lkX3_52 ⟨rfl, by decide⟩ (fun q hq => c_X6_readSign l E B T r1 (59 : Int32) u19 hq) ⟨Nat.le_of_ble_eq_true rfl, Nat.le_of_ble_eq_true rfl⟩ ⟨Nat.le_refl _, Nat.le_refl _⟩ rfl hl.1 rfl (Nat.le_of_ble_eq_true rfl) dX3_readFrom_112 (fun q20 H20 L20 hf hw => ?_)
    exact h_vret hf hx hb hr hlk hw dX3_readFrom_115
  clear eJ95
  refine lv_icmp_ge (tgt := 95) hx hb dX3_readFrom_87 (by decide) (fun hc => ?_) (fun hc => ?_)
  · have hf := ifp hc hf
    exact hJ95  u14 _ _ _ hf hw (lv_sub hl [0, 1] rfl)
  · have hf := ifn hc hf
    refine lv_aload_n hx hb dX3_readFrom_90 rfl (lv_at hl 1 rfl) ?_
    refine lv_iconst (v := 4) hx hb dX3_readFrom_91 (by decide) ?_
    refine h_cVv (As := [.int (4 : Int32)]) (rest := []) hf hx hb hml hts hown hX hw myX6_blame miX6_blame lkX3_48 ⟨rfl, by decide⟩ (fun q hq => c_X6_blame l E B T r1 (4 : Int32) u14 hq) ⟨Nat.le_of_ble_eq_true rfl, Nat.le_of_ble_eq_true rfl⟩ ⟨Nat.le_refl _, Nat.le_refl _⟩ rfl hl.1 rfl (Nat.le_of_ble_eq_true rfl) dX3_readFrom_92 (fun q21 H21 L21 hf hw => ?_)
    exact hJ95  q21 _ _ _ hf hw (lv_sub hl [0, 1] rfl)
theorem c_X3_readFrom (l : Launch) (E : hE) (B : Nat) (T : hT) (a0 : Nat) (r1 : Nat) (u0 : hM) {z : hM} (hf : fX3_readFrom T a0 r1 u0 = some z) : h_Ct l E B T yX3_readFrom cX3_readFrom 2 none 9 [.ref (B + a0), .ref (B + r1)] u0 z none := h_ofW (by decide) (Nat.le_of_ble_eq_true rfl) (fun p e s m below meth c ls hΓ hl hw => wX3_readFrom hΓ hf hw hl)
def fX8_readSingers_L11 (T : hT) (c0 : Nat) (ex : Int32 → hM → Option (Int32 × hM)) : Nat → Int32 → Int32 → hM → Option (Int32 × hM)
  | 0, _, _, _ => none
  | n + 1, v1, v2, u0 => if (400 : Int32) ≤ v2 then (ex v1 u0) else ((gtr T u0 c0 8 0).bind fun a3 => (vc T a3 6 (fX6_isOver T a3 u0)).bind fun q4 => if q4.1 = 0 then ((gtr T q4.2 c0 8 0).bind fun a5 => (vc T a5 6 (fX6_readWord T a5 1 q4.2)).bind fun q6 => lt (fun (x7 : Int32) (u8 : hM) => lt (v2 + (1 : Int32)) fun x9 => fX8_readSingers_L11 T c0 ex n x7 x9 u8) fun J72 => if v1 < (12 : Int32) then ((gtr T q6.2 c0 8 5).bind fun a10 => (aldr 15 T q6.2 a10 v1).bind fun a11 => (gtr T q6.2 c0 8 0).bind fun a12 => (vc T a11 3 (fX3_readFrom T a11 a12 q6.2)).bind fun q13 => lt (v1 + (1 : Int32)) fun x14 => J72 x14 q13) else ((gtr T q6.2 c0 8 0).bind fun a15 => (vc T a15 6 (fX6_blame T a15 (3 : Int32) q6.2)).bind fun q16 => J72 v1 q16)) else (ex v1 q4.2))
def fX8_readSingers (T : hT) (a0 : Nat) (u0 : hM) : Option (Int32 × hM) := (gtr T u0 a0 8 0).bind fun a1 => (vc T a1 6 (fX6_open T a1 u0)).bind fun q2 => fX8_readSingers_L11 T a0 (fun (x17 : Int32) (u18 : hM) => some (x17, u18)) 6000 (0 : Int32) (0 : Int32) q2
set_option maxRecDepth 100000 in
set_option maxHeartbeats 4000000 in
theorem wfX8_readSingers_L11 {c0 : Nat} {ex : Int32 → hM → Option (Int32 × hM)} {z : Int32 × hM} (hΓ : h_Γ E B T p s m args meth c cX8_readSingers 3 (some .int) RX8) (hex : ∀ (y1 : Int32) (u9 : hM) (H9 : Heap) (L9 : List Loc) (ls : Array Slot), ex y1 u9 = some z → h_W E B T s.heap u9 H9 L9 → lv_has ls 3 [(1, .int y1)] → W p l e (h_rm 10) s m args below meth c H9 L9 0 0 (h_Qi below E B T args s z) (F0 m 78 ls [])) : ∀ (n : Nat) (v1 : Int32) (v2 : Int32) (u0 : hM) (H0 : Heap) (L0 : List Loc) (ls : Array Slot), fX8_readSingers_L11 T c0 ex n v1 v2 u0 = some z → h_W E B T s.heap u0 H0 L0 → lv_has ls 3 [(0, .ref (B + c0)), (1, .int v1), (2, .int v2)] → W p l e (h_rm 10) s m args below meth c H0 L0 0 0 (h_Qi below E B T args s z) (F0 m 11 ls []) := by
  obtain ⟨hx, hb, hr, hml, hts, hown, hlk, hX⟩ := id hΓ
  intro n
  induction n with
  | zero =>
    intro v1 v2 u0 H0 L0 ls hf hw hl
    exact absurd (show (none : Option (Int32 × hM)) = some z from hf) (fun h => by cases h)
  | succ n ih =>
    intro v1 v2 u0 H0 L0 ls hf hw hl
    rw [fX8_readSingers_L11] at hf
    refine lv_iload_n hx hb dX8_readSingers_11 rfl (lv_at hl 2 rfl) ?_
    refine lv_sipush (v := 400) hx hb dX8_readSingers_12 (by decide) ?_
    refine lv_icmp_ge (tgt := 78) hx hb dX8_readSingers_15 (by decide) (fun hc => ?_) (fun hc => ?_)
    · have hf := ifp hc hf
      exact hex v1 u0 _ _ _ hf hw (lv_sub hl [1] rfl)
    · have hf := ifn hc hf
      refine lv_aload_n hx hb dX8_readSingers_18 rfl (lv_at hl 0 rfl) ?_
      refine h_getr hf hx hb hts hown hX hw flX8_10 rfl dX8_readSingers_19 (fun a3 hf => ?_)
      refine h_cVi (As := []) (rest := []) hf hx hb hml hts hown hX hw myX6_isOver miX6_isOver lkX8_326 ⟨rfl, by decide⟩ (fun q hq => c_X6_isOver l E B T a3 u0 hq) ⟨Nat.le_of_ble_eq_true rfl, Nat.le_of_ble_eq_true rfl⟩ ⟨Nat.le_refl _, Nat.le_refl _⟩ rfl hl.1 rfl (Nat.le_of_ble_eq_true rfl) dX8_readSingers_22 (fun q4 H4 L4 hf hw => ?_)
      refine lv_if_ne (tgt := 78) hx hb dX8_readSingers_25 (by decide) (fun hc => ?_) (fun hc => ?_)
      · have hf := ifn hc hf
        exact hex v1 q4.2 _ _ _ hf hw (lv_sub hl [1] rfl)
      · have hf := ifp hc hf
        refine lv_aload_n hx hb dX8_readSingers_28 rfl (lv_at hl 0 rfl) ?_
        refine h_getr hf hx hb hts hown hX hw flX8_10 rfl dX8_readSingers_29 (fun a5 hf => ?_)
        refine h_ldcSW hx hb hown (show vk_R RX8 329 "singer " (E.2.2.1 1) s from hX.2.2.1 1 (by decide)) dX8_readSingers_32 ?_
        refine h_cVi (As := [.ref (E.2.2.1 1)]) (rest := []) hf hx hb hml hts hown hX hw myX6_readWord miX6_readWord lkX8_331 ⟨rfl, by decide⟩ (fun q hq => c_X6_readWord l E B T a5 1 q4.2 hq) ⟨Nat.le_of_ble_eq_true rfl, Nat.le_of_ble_eq_true rfl⟩ ⟨Nat.le_refl _, Nat.le_refl _⟩ rfl hl.1 rfl (Nat.le_of_ble_eq_true rfl) dX8_readSingers_35 (fun q6 H6 L6 hf hw => ?_)
        refine lv_pop hx hb dX8_readSingers_38 rfl ?_
        refine lv_iload_n hx hb dX8_readSingers_39 rfl (lv_at hl 1 rfl) ?_
        refine lv_bipush (v := 12) hx hb dX8_readSingers_40 (by decide) ?_
        obtain ⟨J72, eJ72, hf⟩ := h_lt hf
        have hJ72 : ∀ (x7 : Int32) (u8 : hM) (H8 : Heap) (L8 : List Loc) (ls : Array Slot), J72 x7 u8 = some z → h_W E B T s.heap u8 H8 L8 → lv_has ls 3 [(0, .ref (B + c0)), (1, .int x7), (2, .int v2)] → W p l e (h_rm 10) s m args below meth c H8 L8 0 0 (h_Qi below E B T args s z) (F0 m 72 ls []) := by
          intro x7 u8 H8 L8 ls hf hw hl
          rw [eJ72] at hf
          refine h_iinc (k := 2) hf hx hb dX8_readSingers_72 hl rfl (by decide) (by decide) (fun x9 ls hf hl => ?_)
          have hl : lv_has ls 3 [(2, .int x9), (0, .ref (B + c0)), (1, .int x7)] := hl
          refine lv_goto (tgt := 11) hx hb dX8_readSingers_75 (by decide) ?_
          exact ih x7 x9 u8 _ _ _ hf hw (lv_sub hl [1, 2, 0] rfl)
        clear eJ72
        refine lv_icmp_lt (tgt := 56) hx hb dX8_readSingers_42 (by decide) (fun hc => ?_) (fun hc => ?_)
        · have hf := ifp hc hf
          refine lv_aload_n hx hb dX8_readSingers_56 rfl (lv_at hl 0 rfl) ?_
          refine h_getr hf hx hb hts hown hX hw flX8_40 rfl dX8_readSingers_57 (fun a10 hf => ?_)
          refine lv_iload_n hx hb dX8_readSingers_60 rfl (lv_at hl 1 rfl) ?_
          refine h_aald15 hf hx hb hX hw dX8_readSingers_61 (fun a11 hf => ?_)
          refine lv_aload_n hx hb dX8_readSingers_62 rfl (lv_at hl 0 rfl) ?_
          refine h_getr hf hx hb hts hown hX hw flX8_10 rfl dX8_readSingers_63 (fun a12 hf => ?_)
          refine h_cVv (As := [.ref (B + a12)]) (rest := []) hf hx hb hml hts hown hX hw myX3_readFrom miX3_readFrom lkX8_338 ⟨rfl, by decide⟩ (fun q hq => c_X3_readFrom l E B T a11 a12 q6.2 hq) ⟨Nat.le_of_ble_eq_true rfl, Nat.le_of_ble_eq_true rfl⟩ ⟨Nat.le_refl _, Nat.le_refl _⟩ rfl hl.1 rfl (Nat.le_of_ble_eq_true rfl) dX8_readSingers_66 (fun q13 H13 L13 hf hw => ?_)
          refine h_iinc (k := 1) hf hx hb dX8_readSingers_69 hl rfl (by decide) (by decide) (fun x14 ls hf hl => ?_)
          have hl : lv_has ls 3 [(1, .int x14), (0, .ref (B + c0)), (2, .int v2)] := hl
          exact hJ72 x14 q13 _ _ _ hf hw (lv_sub hl [1, 0, 2] rfl)
        · have hf := ifn hc hf
          refine lv_aload_n hx hb dX8_readSingers_45 rfl (lv_at hl 0 rfl) ?_
          refine h_getr hf hx hb hts hown hX hw flX8_10 rfl dX8_readSingers_46 (fun a15 hf => ?_)
          refine lv_iconst (v := 3) hx hb dX8_readSingers_49 (by decide) ?_
          refine h_cVv (As := [.int (3 : Int32)]) (rest := []) hf hx hb hml hts hown hX hw myX6_blame miX6_blame lkX8_335 ⟨rfl, by decide⟩ (fun q hq => c_X6_blame l E B T a15 (3 : Int32) q6.2 hq) ⟨Nat.le_of_ble_eq_true rfl, Nat.le_of_ble_eq_true rfl⟩ ⟨Nat.le_refl _, Nat.le_refl _⟩ rfl hl.1 rfl (Nat.le_of_ble_eq_true rfl) dX8_readSingers_50 (fun q16 H16 L16 hf hw => ?_)
          refine lv_goto (tgt := 72) hx hb dX8_readSingers_53 (by decide) ?_
          exact hJ72 v1 q16 _ _ _ hf hw (lv_sub hl [0, 1, 2] rfl)
set_option maxRecDepth 100000 in
set_option maxHeartbeats 4000000 in
theorem wX8_readSingers {a0 : Nat} {u0 : hM} {z : Int32 × hM} {ls : Array Slot} (hΓ : h_Γ E B T p s m args meth c cX8_readSingers 3 (some .int) RX8) (hf : fX8_readSingers T a0 u0 = some z) (hw : h_W E B T s.heap u0 s.heap []) (hl : lv_has ls 3 [(0, .ref (B + a0))]) : W p l e (h_rm 10) s m args below meth c s.heap [] 0 0 (h_Qi below E B T args s z) (F0 m 0 ls []) := by
  obtain ⟨hx, hb, hr, hml, hts, hown, hlk, hX⟩ := id hΓ
  unfold fX8_readSingers at hf
  refine lv_iconst (v := 0) hx hb dX8_readSingers_0 (by decide) ?_
  refine lv_istore_n (lv' := [(1, .int (0 : Int32)), (0, .ref (B + a0))]) hx hb dX8_readSingers_1 rfl hl (by decide) rfl (fun ls hl => ?_)
  refine lv_aload_n hx hb dX8_readSingers_2 rfl (lv_at hl 1 rfl) ?_
  refine h_getr hf hx hb hts hown hX hw flX8_10 rfl dX8_readSingers_3 (fun a1 hf => ?_)
  refine h_cVv (As := []) (rest := []) hf hx hb hml hts hown hX hw myX6_open miX6_open lkX8_323 ⟨rfl, by decide⟩ (fun q hq => c_X6_open l E B T a1 u0 hq) ⟨Nat.le_of_ble_eq_true rfl, Nat.le_of_ble_eq_true rfl⟩ ⟨Nat.le_refl _, Nat.le_refl _⟩ rfl hl.1 rfl (Nat.le_of_ble_eq_true rfl) dX8_readSingers_6 (fun q2 H2 L2 hf hw => ?_)
  refine lv_iconst (v := 0) hx hb dX8_readSingers_9 (by decide) ?_
  refine lv_istore_n (lv' := [(2, .int (0 : Int32)), (1, .int (0 : Int32)), (0, .ref (B + a0))]) hx hb dX8_readSingers_10 rfl hl (by decide) rfl (fun ls hl => ?_)
  refine wfX8_readSingers_L11 hΓ ?_ 6000 (0 : Int32) (0 : Int32) q2 _ _ _ hf hw (lv_sub hl [2, 1, 0] rfl)
  intro x17 u18 H18 L18 ls hf hw hl
  refine lv_iload_n hx hb dX8_readSingers_78 rfl (lv_at hl 0 rfl) ?_
  exact h_iret hf hx hb hr hlk hw dX8_readSingers_79
theorem c_X8_readSingers (l : Launch) (E : hE) (B : Nat) (T : hT) (a0 : Nat) (u0 : hM) {z : Int32 × hM} (hf : fX8_readSingers T a0 u0 = some z) : h_Ct l E B T yX8_readSingers cX8_readSingers 3 (some .int) 10 [.ref (B + a0)] u0 z.2 (some (.int z.1)) := h_ofW (by decide) (Nat.le_of_ble_eq_true rfl) (fun p e s m below meth c ls hΓ hl hw => wX8_readSingers hΓ hf hw hl)
def fX8_singers (T : hT) (a0 : Nat) (u0 : hM) : Option (Int32 × hM) := (vc T a0 8 (fX8_readSingers T a0 u0)).bind fun q1 => (gtr T q1.2 a0 8 0).bind fun a2 => (vc T a2 6 (fX6_clear T a2 q1.2)).bind fun q3 => (gtr T q3 a0 8 0).bind fun a4 => (vc T a4 6 (fX6_hasFault T a4 q3)).bind fun q5 => if q5.1 = 0 then ((gtr T q5.2 a0 8 6).bind fun a6 => (gtr T q5.2 a6 5 2).bind fun a7 => (gtr T q5.2 a0 8 6).bind fun a8 => (gtr T q5.2 a0 8 5).bind fun a9 => (ptr T q5.2 a8 5 2 (some a9)).bind fun u10 => (gtr T u10 a0 8 6).bind fun a11 => (pti T u10 a11 5 3 q1.1).bind fun u12 => (ptr T u12 a0 8 5 (some a7)).bind fun u13 => (vc T a0 8 (fX8_dropSong T a0 u13)).bind fun q14 => (vc T a0 8 (fX8_dropImages T a0 q14)).bind fun q15 => some (q1.1, q15)) else ((gtr T q5.2 a0 8 0).bind fun a16 => (gti T q5.2 a16 6 4).bind fun x17 => some (((-10 : Int32) - x17), q5.2))
set_option maxRecDepth 100000 in
set_option maxHeartbeats 4000000 in
theorem wX8_singers {a0 : Nat} {u0 : hM} {z : Int32 × hM} {ls : Array Slot} (hΓ : h_Γ E B T p s m args meth c cX8_singers 3 (some .int) RX8) (hf : fX8_singers T a0 u0 = some z) (hw : h_W E B T s.heap u0 s.heap []) (hl : lv_has ls 3 [(0, .ref (B + a0))]) : W p l e (h_rm 11) s m args below meth c s.heap [] 0 0 (h_Qi below E B T args s z) (F0 m 0 ls []) := by
  obtain ⟨hx, hb, hr, hml, hts, hown, hlk, hX⟩ := id hΓ
  unfold fX8_singers at hf
  refine lv_aload_n hx hb dX8_singers_0 rfl (lv_at hl 0 rfl) ?_
  refine h_cVi (As := []) (rest := []) hf hx hb hml hts hown hX hw myX8_readSingers miX8_readSingers lkX8_127 ⟨rfl, by decide⟩ (fun q hq => c_X8_readSingers l E B T a0 u0 hq) ⟨Nat.le_of_ble_eq_true rfl, Nat.le_of_ble_eq_true rfl⟩ ⟨Nat.le_refl _, Nat.le_refl _⟩ rfl hl.1 rfl (Nat.le_of_ble_eq_true rfl) dX8_singers_1 (fun q1 H1 L1 hf hw => ?_)
  refine lv_istore_n (lv' := [(1, .int q1.1), (0, .ref (B + a0))]) hx hb dX8_singers_4 rfl hl (by decide) rfl (fun ls hl => ?_)
  refine lv_aload_n hx hb dX8_singers_5 rfl (lv_at hl 1 rfl) ?_
  refine h_getr hf hx hb hts hown hX hw flX8_10 rfl dX8_singers_6 (fun a2 hf => ?_)
  refine h_cVv (As := []) (rest := []) hf hx hb hml hts hown hX hw myX6_clear miX6_clear lkX8_108 ⟨rfl, by decide⟩ (fun q hq => c_X6_clear l E B T a2 q1.2 hq) ⟨Nat.le_of_ble_eq_true rfl, Nat.le_of_ble_eq_true rfl⟩ ⟨Nat.le_refl _, Nat.le_refl _⟩ rfl hl.1 rfl (Nat.le_of_ble_eq_true rfl) dX8_singers_9 (fun q3 H3 L3 hf hw => ?_)
  refine lv_aload_n hx hb dX8_singers_12 rfl (lv_at hl 1 rfl) ?_
  refine h_getr hf hx hb hts hown hX hw flX8_10 rfl dX8_singers_13 (fun a4 hf => ?_)
  refine h_cVi (As := []) (rest := []) hf hx hb hml hts hown hX hw myX6_hasFault miX6_hasFault lkX8_111 ⟨rfl, by decide⟩ (fun q hq => c_X6_hasFault l E B T a4 q3 hq) ⟨Nat.le_of_ble_eq_true rfl, Nat.le_of_ble_eq_true rfl⟩ ⟨Nat.le_refl _, Nat.le_refl _⟩ rfl hl.1 rfl (Nat.le_of_ble_eq_true rfl) dX8_singers_16 (fun q5 H5 L5 hf hw => ?_)
  refine lv_if_eq (tgt := 33) hx hb dX8_singers_19 (by decide) (fun hc => ?_) (fun hc => ?_)
  · have hf := ifp hc hf
    refine lv_aload_n hx hb dX8_singers_33 rfl (lv_at hl 1 rfl) ?_
    refine h_getr hf hx hb hts hown hX hw flX8_47 rfl dX8_singers_34 (fun a6 hf => ?_)
    refine h_getr hf hx hb hts hown hX hw flX8_131 rfl dX8_singers_37 (fun a7 hf => ?_)
    refine lv_astore_n (lv' := [(2, .ref (B + a7)), (1, .int q1.1), (0, .ref (B + a0))]) hx hb dX8_singers_40 rfl hl (by decide) rfl (fun ls hl => ?_)
    refine lv_aload_n hx hb dX8_singers_41 rfl (lv_at hl 2 rfl) ?_
    refine h_getr hf hx hb hts hown hX hw flX8_47 rfl dX8_singers_42 (fun a8 hf => ?_)
    refine lv_aload_n hx hb dX8_singers_45 rfl (lv_at hl 2 rfl) ?_
    refine h_getr hf hx hb hts hown hX hw flX8_40 rfl dX8_singers_46 (fun a9 hf => ?_)
    refine h_putr hf hx hb hts hown hX hw flX8_131 ⟨rfl, rfl⟩ dX8_singers_49 (fun u10 H10 L10 hf hw => ?_)
    refine lv_aload_n hx hb dX8_singers_52 rfl (lv_at hl 2 rfl) ?_
    refine h_getr hf hx hb hts hown hX hw flX8_47 rfl dX8_singers_53 (fun a11 hf => ?_)
    refine lv_iload_n hx hb dX8_singers_56 rfl (lv_at hl 1 rfl) ?_
    refine h_puti hf hx hb hts hown hX hw flX8_134 ⟨rfl, rfl⟩ dX8_singers_57 (fun u12 H12 L12 hf hw => ?_)
    refine lv_aload_n hx hb dX8_singers_60 rfl (lv_at hl 2 rfl) ?_
    refine lv_aload_n hx hb dX8_singers_61 rfl (lv_at hl 0 rfl) ?_
    refine h_putr hf hx hb hts hown hX hw flX8_40 ⟨rfl, rfl⟩ dX8_singers_62 (fun u13 H13 L13 hf hw => ?_)
    refine lv_aload_n hx hb dX8_singers_65 rfl (lv_at hl 2 rfl) ?_
    refine h_cVv (As := []) (rest := []) hf hx hb hml hts hown hX hw myX8_dropSong miX8_dropSong lkX8_118 ⟨rfl, by decide⟩ (fun q hq => c_X8_dropSong l E B T a0 u13 hq) ⟨Nat.le_of_ble_eq_true rfl, Nat.le_of_ble_eq_true rfl⟩ ⟨Nat.le_refl _, Nat.le_refl _⟩ rfl hl.1 rfl (Nat.le_of_ble_eq_true rfl) dX8_singers_66 (fun q14 H14 L14 hf hw => ?_)
    refine lv_aload_n hx hb dX8_singers_69 rfl (lv_at hl 2 rfl) ?_
    refine h_cVv (As := []) (rest := []) hf hx hb hml hts hown hX hw myX8_dropImages miX8_dropImages lkX8_121 ⟨rfl, by decide⟩ (fun q hq => c_X8_dropImages l E B T a0 q14 hq) ⟨Nat.le_of_ble_eq_true rfl, Nat.le_of_ble_eq_true rfl⟩ ⟨Nat.le_refl _, Nat.le_refl _⟩ rfl hl.1 rfl (Nat.le_of_ble_eq_true rfl) dX8_singers_70 (fun q15 H15 L15 hf hw => ?_)
    refine lv_iload_n hx hb dX8_singers_73 rfl (lv_at hl 1 rfl) ?_
    exact h_iret hf hx hb hr hlk hw dX8_singers_74
  · have hf := ifn hc hf
    refine lv_bipush (v := -10) hx hb dX8_singers_22 (by decide) ?_
    refine lv_aload_n hx hb dX8_singers_24 rfl (lv_at hl 1 rfl) ?_
    refine h_getr hf hx hb hts hown hX hw flX8_10 rfl dX8_singers_25 (fun a16 hf => ?_)
    refine h_geti hf hx hb hts hown hX hw flX8_115 rfl dX8_singers_28 (fun x17 hf => ?_)
    refine lv_isub hx hb dX8_singers_31 ?_
    exact h_iret hf hx hb hr hlk hw dX8_singers_32
theorem c_X8_singers (l : Launch) (E : hE) (B : Nat) (T : hT) (a0 : Nat) (u0 : hM) {z : Int32 × hM} (hf : fX8_singers T a0 u0 = some z) : h_Ct l E B T yX8_singers cX8_singers 3 (some .int) 11 [.ref (B + a0)] u0 z.2 (some (.int z.1)) := h_ofW (by decide) (Nat.le_of_ble_eq_true rfl) (fun p e s m below meth c ls hΓ hl hw => wX8_singers hΓ hf hw hl)
def fX6_isLetterNext (T : hT) (a0 : Nat) (u0 : hM) : Option (Int32 × hM) := (vc T a0 6 (fX6_findToken T a0 u0)).bind fun q1 => (gti T q1 a0 6 2).bind fun x2 => (gti T q1 a0 6 1).bind fun x3 => if x3 ≤ x2 then (rtz (0 : Int32) q1) else ((gtr T q1 a0 6 0).bind fun a4 => (gti T q1 a0 6 2).bind fun x5 => (ald 12 T q1 a4 x5).bind fun x6 => (fX8_isWithin T x6 (97 : Int32) (122 : Int32) q1).bind fun q7 => if q7.1 = 0 then (rtz (0 : Int32) q7.2) else (rtz (1 : Int32) q7.2))
set_option maxRecDepth 100000 in
set_option maxHeartbeats 4000000 in
theorem wX6_isLetterNext {a0 : Nat} {u0 : hM} {z : Int32 × hM} {ls : Array Slot} (hΓ : h_Γ E B T p s m args meth c cX6_isLetterNext 1 (some .boolean) RX6) (hf : fX6_isLetterNext T a0 u0 = some z) (hw : h_W E B T s.heap u0 s.heap []) (hl : lv_has ls 1 [(0, .ref (B + a0))]) : W p l e (h_rm 1) s m args below meth c s.heap [] 0 0 (h_Qi below E B T args s z) (F0 m 0 ls []) := by
  obtain ⟨hx, hb, hr, hml, hts, hown, hlk, hX⟩ := id hΓ
  unfold fX6_isLetterNext at hf
  refine lv_aload_n hx hb dX6_isLetterNext_0 rfl (lv_at hl 0 rfl) ?_
  refine h_cVv (As := []) (rest := []) hf hx hb hml hts hown hX hw myX6_findToken miX6_findToken lkX6_35 ⟨rfl, by decide⟩ (fun q hq => c_X6_findToken l E B T a0 u0 hq) ⟨Nat.le_of_ble_eq_true rfl, Nat.le_of_ble_eq_true rfl⟩ ⟨Nat.le_refl _, Nat.le_refl _⟩ rfl hl.1 rfl (Nat.le_of_ble_eq_true rfl) dX6_isLetterNext_1 (fun q1 H1 L1 hf hw => ?_)
  refine lv_aload_n hx hb dX6_isLetterNext_4 rfl (lv_at hl 0 rfl) ?_
  refine h_geti hf hx hb hts hown hX hw flX6_19 rfl dX6_isLetterNext_5 (fun x2 hf => ?_)
  refine lv_aload_n hx hb dX6_isLetterNext_8 rfl (lv_at hl 0 rfl) ?_
  refine h_geti hf hx hb hts hown hX hw flX6_15 rfl dX6_isLetterNext_9 (fun x3 hf => ?_)
  refine lv_icmp_ge (tgt := 38) hx hb dX6_isLetterNext_12 (by decide) (fun hc => ?_) (fun hc => ?_)
  · have hf := ifp hc hf
    refine lv_iconst (v := 0) hx hb dX6_isLetterNext_38 (by decide) ?_
    exact h_zret hf hx hb hr hlk hw dX6_isLetterNext_39
  · have hf := ifn hc hf
    refine lv_aload_n hx hb dX6_isLetterNext_15 rfl (lv_at hl 0 rfl) ?_
    refine h_getr hf hx hb hts hown hX hw flX6_9 rfl dX6_isLetterNext_16 (fun a4 hf => ?_)
    refine lv_aload_n hx hb dX6_isLetterNext_19 rfl (lv_at hl 0 rfl) ?_
    refine h_geti hf hx hb hts hown hX hw flX6_19 rfl dX6_isLetterNext_20 (fun x5 hf => ?_)
    refine h_bald hf hx hb hX hw dX6_isLetterNext_23 (fun x6 hf => ?_)
    refine lv_bipush (v := 97) hx hb dX6_isLetterNext_24 (by decide) ?_
    refine lv_bipush (v := 122) hx hb dX6_isLetterNext_26 (by decide) ?_
    refine h_cNi (As := [.int x6, .int (97 : Int32), .int (122 : Int32)]) (rest := []) hf hx hb hml hts hown hX hw myX8_isWithin msX8_isWithin nkX6_38 (fun q hq => c_X8_isWithin l E B T x6 (97 : Int32) (122 : Int32) q1 hq) ⟨Nat.le_of_ble_eq_true rfl, Nat.le_of_ble_eq_true rfl⟩ ⟨Nat.le_refl _, Nat.le_refl _⟩ rfl hl.1 rfl (Nat.le_of_ble_eq_true rfl) dX6_isLetterNext_28 (fun q7 H7 L7 hf hw => ?_)
    refine lv_if_eq (tgt := 38) hx hb dX6_isLetterNext_31 (by decide) (fun hc => ?_) (fun hc => ?_)
    · have hf := ifp hc hf
      refine lv_iconst (v := 0) hx hb dX6_isLetterNext_38 (by decide) ?_
      exact h_zret hf hx hb hr hlk hw dX6_isLetterNext_39
    · have hf := ifn hc hf
      refine lv_iconst (v := 1) hx hb dX6_isLetterNext_34 (by decide) ?_
      refine lv_goto (tgt := 39) hx hb dX6_isLetterNext_35 (by decide) ?_
      exact h_zret hf hx hb hr hlk hw dX6_isLetterNext_39
theorem c_X6_isLetterNext (l : Launch) (E : hE) (B : Nat) (T : hT) (a0 : Nat) (u0 : hM) {z : Int32 × hM} (hf : fX6_isLetterNext T a0 u0 = some z) : h_Ct l E B T yX6_isLetterNext cX6_isLetterNext 1 (some .boolean) 1 [.ref (B + a0)] u0 z.2 (some (.int z.1)) := h_ofW (by decide) (Nat.le_of_ble_eq_true rfl) (fun p e s m below meth c ls hΓ hl hw => wX6_isLetterNext hΓ hf hw hl)
def fX7_readParts_L4 (T : hT) (c0 : Nat) (ex : Int32 → hM → Option (Int32 × hM)) : Nat → Int32 → Int32 → hM → Option (Int32 × hM)
  | 0, _, _, _ => none
  | n + 1, v1, v2, u0 => if (4 : Int32) < v2 then (ex v1 u0) else (lt (fun (u1 : hM) => (vc T c0 6 (fX6_readWord T c0 4 u1)).bind fun q2 => if q2.1 = (-1 : Int32) then (some (v1, q2.2)) else (lt (fun (u3 : hM) => lt ((v1 ||| ((1 : Int32) <<< (q2.1 &&& 31)))) fun x4 => lt (v2 + (1 : Int32)) fun x5 => fX7_readParts_L4 T c0 ex n x4 x5 u3) fun J50 => if ((v1 >>> (q2.1 &&& 31)) &&& (1 : Int32)) = (1 : Int32) then ((vc T c0 6 (fX6_blame T c0 (4 : Int32) q2.2)).bind fun q6 => J50 q6) else (J50 q2.2))) fun J22 => if v2 = 0 then (J22 u0) else ((vc T c0 6 (fX6_readIf T c0 (44 : Int32) u0)).bind fun q7 => if q7.1 = 0 then (ex v1 q7.2) else (J22 q7.2)))
def fX7_readParts (T : hT) (r0 : Nat) (u0 : hM) : Option (Int32 × hM) := fX7_readParts_L4 T r0 (fun (x8 : Int32) (u9 : hM) => some (x8, u9)) 6000 (0 : Int32) (0 : Int32) u0
set_option maxRecDepth 100000 in
set_option maxHeartbeats 4000000 in
theorem wfX7_readParts_L4 {c0 : Nat} {ex : Int32 → hM → Option (Int32 × hM)} {z : Int32 × hM} (hΓ : h_Γ E B T p s m args meth c cX7_readParts 4 (some .int) RX7) (hex : ∀ (y1 : Int32) (u9 : hM) (H9 : Heap) (L9 : List Loc) (ls : Array Slot), ex y1 u9 = some z → h_W E B T s.heap u9 H9 L9 → lv_has ls 4 [(1, .int y1)] → W p l e (h_rm 9) s m args below meth c H9 L9 0 0 (h_Qi below E B T args s z) (F0 m 62 ls [])) : ∀ (n : Nat) (v1 : Int32) (v2 : Int32) (u0 : hM) (H0 : Heap) (L0 : List Loc) (ls : Array Slot), fX7_readParts_L4 T c0 ex n v1 v2 u0 = some z → h_W E B T s.heap u0 H0 L0 → lv_has ls 4 [(0, .ref (B + c0)), (1, .int v1), (2, .int v2)] → W p l e (h_rm 9) s m args below meth c H0 L0 0 0 (h_Qi below E B T args s z) (F0 m 4 ls []) := by
  obtain ⟨hx, hb, hr, hml, hts, hown, hlk, hX⟩ := id hΓ
  intro n
  induction n with
  | zero =>
    intro v1 v2 u0 H0 L0 ls hf hw hl
    exact absurd (show (none : Option (Int32 × hM)) = some z from hf) (fun h => by cases h)
  | succ n ih =>
    intro v1 v2 u0 H0 L0 ls hf hw hl
    rw [fX7_readParts_L4] at hf
    refine lv_iload_n hx hb dX7_readParts_4 rfl (lv_at hl 2 rfl) ?_
    refine lv_iconst (v := 4) hx hb dX7_readParts_5 (by decide) ?_
    refine lv_icmp_gt (tgt := 62) hx hb dX7_readParts_6 (by decide) (fun hc => ?_) (fun hc => ?_)
    · have hf := ifp hc hf
      exact hex v1 u0 _ _ _ hf hw (lv_sub hl [1] rfl)
    · have hf := ifn hc hf
      refine lv_iload_n hx hb dX7_readParts_9 rfl (lv_at hl 2 rfl) ?_
      obtain ⟨J22, eJ22, hf⟩ := h_lt hf
      have hJ22 : ∀ (u1 : hM) (H1 : Heap) (L1 : List Loc) (ls : Array Slot), J22  u1 = some z → h_W E B T s.heap u1 H1 L1 → lv_has ls 4 [(0, .ref (B + c0)), (1, .int v1), (2, .int v2)] → W p l e (h_rm 9) s m args below meth c H1 L1 0 0 (h_Qi below E B T args s z) (F0 m 22 ls []) := by
        intro  u1 H1 L1 ls hf hw hl
        rw [eJ22] at hf
        refine lv_aload_n hx hb dX7_readParts_22 rfl (lv_at hl 0 rfl) ?_
        refine va_ldcS hx hb hown (show vk_R RX7 66 "ear voice memory range " (E.2.2.1 4) s from hX.2.2.1 4 (by decide)) dX7_readParts_23 ?_
        refine h_cVi (As := [.ref (E.2.2.1 4)]) (rest := []) hf hx hb hml hts hown hX hw myX6_readWord miX6_readWord lkX7_39 ⟨rfl, by decide⟩ (fun q hq => c_X6_readWord l E B T c0 4 u1 hq) ⟨Nat.le_of_ble_eq_true rfl, Nat.le_of_ble_eq_true rfl⟩ ⟨Nat.le_refl _, Nat.le_refl _⟩ rfl hl.1 rfl (Nat.le_of_ble_eq_true rfl) dX7_readParts_25 (fun q2 H2 L2 hf hw => ?_)
        refine lv_istore_n (lv' := [(3, .int q2.1), (0, .ref (B + c0)), (1, .int v1), (2, .int v2)]) hx hb dX7_readParts_28 rfl hl (by decide) rfl (fun ls hl => ?_)
        refine lv_iload_n hx hb dX7_readParts_29 rfl (lv_at hl 0 rfl) ?_
        refine lv_iconst (v := -1) hx hb dX7_readParts_30 (by decide) ?_
        refine lv_icmp_ne (tgt := 36) hx hb dX7_readParts_31 (by decide) (fun hc => ?_) (fun hc => ?_)
        · have hf := ifn hc hf
          refine lv_iload_n hx hb dX7_readParts_36 rfl (lv_at hl 2 rfl) ?_
          refine lv_iload_n hx hb dX7_readParts_37 rfl (lv_at hl 0 rfl) ?_
          refine lv_ishr hx hb dX7_readParts_38 ?_
          refine lv_iconst (v := 1) hx hb dX7_readParts_39 (by decide) ?_
          refine lv_iand hx hb dX7_readParts_40 ?_
          refine lv_iconst (v := 1) hx hb dX7_readParts_41 (by decide) ?_
          obtain ⟨J50, eJ50, hf⟩ := h_lt hf
          have hJ50 : ∀ (u3 : hM) (H3 : Heap) (L3 : List Loc) (ls : Array Slot), J50  u3 = some z → h_W E B T s.heap u3 H3 L3 → lv_has ls 4 [(0, .ref (B + c0)), (1, .int v1), (2, .int v2), (3, .int q2.1)] → W p l e (h_rm 9) s m args below meth c H3 L3 0 0 (h_Qi below E B T args s z) (F0 m 50 ls []) := by
            intro  u3 H3 L3 ls hf hw hl
            rw [eJ50] at hf
            refine lv_iload_n hx hb dX7_readParts_50 rfl (lv_at hl 1 rfl) ?_
            refine lv_iconst (v := 1) hx hb dX7_readParts_51 (by decide) ?_
            refine lv_iload_n hx hb dX7_readParts_52 rfl (lv_at hl 3 rfl) ?_
            refine lv_ishl hx hb dX7_readParts_53 ?_
            refine lv_ior hx hb dX7_readParts_54 ?_
            refine h_nmi hf (fun x4 hf => ?_)
            refine lv_istore_n (lv' := [(1, .int x4), (0, .ref (B + c0)), (2, .int v2), (3, .int q2.1)]) hx hb dX7_readParts_55 rfl hl (by decide) rfl (fun ls hl => ?_)
            refine h_iinc (k := 2) hf hx hb dX7_readParts_56 hl rfl (by decide) (by decide) (fun x5 ls hf hl => ?_)
            have hl : lv_has ls 4 [(2, .int x5), (1, .int x4), (0, .ref (B + c0)), (3, .int q2.1)] := hl
            refine lv_goto (tgt := 4) hx hb dX7_readParts_59 (by decide) ?_
            exact ih x4 x5 u3 _ _ _ hf hw (lv_sub hl [2, 1, 0] rfl)
          clear eJ50
          refine lv_icmp_ne (tgt := 50) hx hb dX7_readParts_42 (by decide) (fun hc => ?_) (fun hc => ?_)
          · have hf := ifn hc hf
            exact hJ50  q2.2 _ _ _ hf hw (lv_sub hl [1, 2, 3, 0] rfl)
          · have hf := ifp hc hf
            refine lv_aload_n hx hb dX7_readParts_45 rfl (lv_at hl 1 rfl) ?_
            refine lv_iconst (v := 4) hx hb dX7_readParts_46 (by decide) ?_
            refine h_cVv (As := [.int (4 : Int32)]) (rest := []) hf hx hb hml hts hown hX hw myX6_blame miX6_blame lkX7_43 ⟨rfl, by decide⟩ (fun q hq => c_X6_blame l E B T c0 (4 : Int32) q2.2 hq) ⟨Nat.le_of_ble_eq_true rfl, Nat.le_of_ble_eq_true rfl⟩ ⟨Nat.le_refl _, Nat.le_refl _⟩ rfl hl.1 rfl (Nat.le_of_ble_eq_true rfl) dX7_readParts_47 (fun q6 H6 L6 hf hw => ?_)
            exact hJ50  q6 _ _ _ hf hw (lv_sub hl [1, 2, 3, 0] rfl)
        · have hf := ifp hc hf
          refine lv_iload_n hx hb dX7_readParts_34 rfl (lv_at hl 2 rfl) ?_
          exact h_iret hf hx hb hr hlk hw dX7_readParts_35
      clear eJ22
      refine lv_if_eq (tgt := 22) hx hb dX7_readParts_10 (by decide) (fun hc => ?_) (fun hc => ?_)
      · have hf := ifp hc hf
        exact hJ22  u0 _ _ _ hf hw (lv_sub hl [0, 1, 2] rfl)
      · have hf := ifn hc hf
        refine lv_aload_n hx hb dX7_readParts_13 rfl (lv_at hl 0 rfl) ?_
        refine lv_bipush (v := 44) hx hb dX7_readParts_14 (by decide) ?_
        refine h_cVi (As := [.int (44 : Int32)]) (rest := []) hf hx hb hml hts hown hX hw myX6_readIf miX6_readIf lkX7_62 ⟨rfl, by decide⟩ (fun q hq => c_X6_readIf l E B T c0 (44 : Int32) u0 hq) ⟨Nat.le_of_ble_eq_true rfl, Nat.le_of_ble_eq_true rfl⟩ ⟨Nat.le_refl _, Nat.le_refl _⟩ rfl hl.1 rfl (Nat.le_of_ble_eq_true rfl) dX7_readParts_16 (fun q7 H7 L7 hf hw => ?_)
        refine lv_if_eq (tgt := 62) hx hb dX7_readParts_19 (by decide) (fun hc => ?_) (fun hc => ?_)
        · have hf := ifp hc hf
          exact hex v1 q7.2 _ _ _ hf hw (lv_sub hl [1] rfl)
        · have hf := ifn hc hf
          exact hJ22  q7.2 _ _ _ hf hw (lv_sub hl [0, 1, 2] rfl)
set_option maxRecDepth 100000 in
set_option maxHeartbeats 4000000 in
theorem wX7_readParts {r0 : Nat} {u0 : hM} {z : Int32 × hM} {ls : Array Slot} (hΓ : h_Γ E B T p s m args meth c cX7_readParts 4 (some .int) RX7) (hf : fX7_readParts T r0 u0 = some z) (hw : h_W E B T s.heap u0 s.heap []) (hl : lv_has ls 4 [(0, .ref (B + r0))]) : W p l e (h_rm 9) s m args below meth c s.heap [] 0 0 (h_Qi below E B T args s z) (F0 m 0 ls []) := by
  obtain ⟨hx, hb, hr, hml, hts, hown, hlk, hX⟩ := id hΓ
  unfold fX7_readParts at hf
  refine lv_iconst (v := 0) hx hb dX7_readParts_0 (by decide) ?_
  refine lv_istore_n (lv' := [(1, .int (0 : Int32)), (0, .ref (B + r0))]) hx hb dX7_readParts_1 rfl hl (by decide) rfl (fun ls hl => ?_)
  refine lv_iconst (v := 0) hx hb dX7_readParts_2 (by decide) ?_
  refine lv_istore_n (lv' := [(2, .int (0 : Int32)), (1, .int (0 : Int32)), (0, .ref (B + r0))]) hx hb dX7_readParts_3 rfl hl (by decide) rfl (fun ls hl => ?_)
  refine wfX7_readParts_L4 hΓ ?_ 6000 (0 : Int32) (0 : Int32) u0 _ _ _ hf hw (lv_sub hl [2, 1, 0] rfl)
  intro x8 u9 H9 L9 ls hf hw hl
  refine lv_iload_n hx hb dX7_readParts_62 rfl (lv_at hl 0 rfl) ?_
  exact h_iret hf hx hb hr hlk hw dX7_readParts_63
theorem c_X7_readParts (l : Launch) (E : hE) (B : Nat) (T : hT) (r0 : Nat) (u0 : hM) {z : Int32 × hM} (hf : fX7_readParts T r0 u0 = some z) : h_Ct l E B T yX7_readParts cX7_readParts 4 (some .int) 9 [.ref (B + r0)] u0 z.2 (some (.int z.1)) := h_ofW (by decide) (Nat.le_of_ble_eq_true rfl) (fun p e s m below meth c ls hΓ hl hw => wX7_readParts hΓ hf hw hl)
def fX7_readFrom_L11 (T : hT) (c0 : Nat) (c1 : Nat) (ex : hM → Option (hM)) : Nat → Int32 → hM → Option (hM)
  | 0, _, _ => none
  | n + 1, v2, u0 => if (400 : Int32) ≤ v2 then (ex u0) else ((vc T c1 6 (fX6_isOver T c1 u0)).bind fun q3 => if q3.1 = 0 then ((vc T c1 6 (fX6_readWord T c1 3 q3.2)).bind fun q4 => (gti T q4.2 c0 7 4).bind fun x5 => lt (fun (u6 : hM) => (vc T c1 6 (fX6_readSign T c1 (59 : Int32) u6)).bind fun q7 => lt (v2 + (1 : Int32)) fun x8 => fX7_readFrom_L11 T c0 c1 ex n x8 q7) fun J131 => if x5 < (6 : Int32) then ((gtr T q4.2 c0 7 0).bind fun a9 => (gti T q4.2 c0 7 4).bind fun x10 => (vc T c1 6 (fX6_readNumber T c1 (1 : Int32) (30 : Int32) q4.2)).bind fun q11 => (asti T q11.2 a9 x10 q11.1).bind fun u12 => (gtr T u12 c0 7 1).bind fun a13 => (gti T u12 c0 7 4).bind fun x14 => (vc T c1 6 (fX6_readNumber T c1 (0 : Int32) (49 : Int32) u12)).bind fun q15 => (asti T q15.2 a13 x14 q15.1).bind fun u16 => (gtr T u16 c0 7 2).bind fun a17 => (gti T u16 c0 7 4).bind fun x18 => (vc T c1 6 (fX6_readNumber T c1 (0 : Int32) (49 : Int32) u16)).bind fun q19 => (asti T q19.2 a17 x18 q19.1).bind fun u20 => (gtr T u20 c0 7 3).bind fun a21 => (gti T u20 c0 7 4).bind fun x22 => (vc T c1 6 (fX6_isLetterNext T c1 u20)).bind fun q23 => lt (fun (x24 : Int32) (u25 : hM) => (asti T u25 a21 x22 x24).bind fun u26 => (gti T u26 c0 7 4).bind fun x27 => (pti T u26 c0 7 4 (x27 + (1 : Int32))).bind fun u28 => J131 u28) fun J120 => if q23.1 = 0 then (J120 (0 : Int32) q23.2) else ((fX7_readParts T c1 q23.2).bind fun q29 => J120 q29.1 q29.2)) else ((vc T c1 6 (fX6_blame T c1 (3 : Int32) q4.2)).bind fun q30 => J131 q30)) else (ex q3.2))
def fX7_readFrom (T : hT) (a0 : Nat) (r1 : Nat) (u0 : hM) : Option (hM) := (pti T u0 a0 7 4 (0 : Int32)).bind fun u1 => (vc T r1 6 (fX6_open T r1 u1)).bind fun q2 => fX7_readFrom_L11 T a0 r1 (fun (u31 : hM) => some u31) 6000 (0 : Int32) q2
set_option maxRecDepth 100000 in
set_option maxHeartbeats 4000000 in
theorem wfX7_readFrom_L11 {c0 : Nat} {c1 : Nat} {ex : hM → Option (hM)} {z : hM} (hΓ : h_Γ E B T p s m args meth c cX7_readFrom 3 none RX7) (hex : ∀ (u9 : hM) (H9 : Heap) (L9 : List Loc) (ls : Array Slot), ex u9 = some z → h_W E B T s.heap u9 H9 L9 → lv_has ls 3 [] → W p l e (h_rm 10) s m args below meth c H9 L9 0 0 (h_Qv below E B T args s z) (F0 m 143 ls [])) : ∀ (n : Nat) (v2 : Int32) (u0 : hM) (H0 : Heap) (L0 : List Loc) (ls : Array Slot), fX7_readFrom_L11 T c0 c1 ex n v2 u0 = some z → h_W E B T s.heap u0 H0 L0 → lv_has ls 3 [(0, .ref (B + c0)), (1, .ref (B + c1)), (2, .int v2)] → W p l e (h_rm 10) s m args below meth c H0 L0 0 0 (h_Qv below E B T args s z) (F0 m 11 ls []) := by
  obtain ⟨hx, hb, hr, hml, hts, hown, hlk, hX⟩ := id hΓ
  intro n
  induction n with
  | zero =>
    intro v2 u0 H0 L0 ls hf hw hl
    exact absurd (show (none : Option (hM)) = some z from hf) (fun h => by cases h)
  | succ n ih =>
    intro v2 u0 H0 L0 ls hf hw hl
    rw [fX7_readFrom_L11] at hf
    refine lv_iload_n hx hb dX7_readFrom_11 rfl (lv_at hl 2 rfl) ?_
    refine lv_sipush (v := 400) hx hb dX7_readFrom_12 (by decide) ?_
    refine lv_icmp_ge (tgt := 143) hx hb dX7_readFrom_15 (by decide) (fun hc => ?_) (fun hc => ?_)
    · have hf := ifp hc hf
      exact hex  u0 _ _ _ hf hw (lv_sub hl [] rfl)
    · have hf := ifn hc hf
      refine lv_aload_n hx hb dX7_readFrom_18 rfl (lv_at hl 1 rfl) ?_
      refine h_cVi (As := []) (rest := []) hf hx hb hml hts hown hX hw myX6_isOver miX6_isOver lkX7_33 ⟨rfl, by decide⟩ (fun q hq => c_X6_isOver l E B T c1 u0 hq) ⟨Nat.le_of_ble_eq_true rfl, Nat.le_of_ble_eq_true rfl⟩ ⟨Nat.le_refl _, Nat.le_refl _⟩ rfl hl.1 rfl (Nat.le_of_ble_eq_true rfl) dX7_readFrom_19 (fun q3 H3 L3 hf hw => ?_)
      refine lv_if_ne (tgt := 143) hx hb dX7_readFrom_22 (by decide) (fun hc => ?_) (fun hc => ?_)
      · have hf := ifn hc hf
        exact hex  q3.2 _ _ _ hf hw (lv_sub hl [] rfl)
      · have hf := ifp hc hf
        refine lv_aload_n hx hb dX7_readFrom_25 rfl (lv_at hl 1 rfl) ?_
        refine va_ldcS hx hb hown (show vk_R RX7 37 "task " (E.2.2.1 3) s from hX.2.2.1 3 (by decide)) dX7_readFrom_26 ?_
        refine h_cVi (As := [.ref (E.2.2.1 3)]) (rest := []) hf hx hb hml hts hown hX hw myX6_readWord miX6_readWord lkX7_39 ⟨rfl, by decide⟩ (fun q hq => c_X6_readWord l E B T c1 3 q3.2 hq) ⟨Nat.le_of_ble_eq_true rfl, Nat.le_of_ble_eq_true rfl⟩ ⟨Nat.le_refl _, Nat.le_refl _⟩ rfl hl.1 rfl (Nat.le_of_ble_eq_true rfl) dX7_readFrom_28 (fun q4 H4 L4 hf hw => ?_)
        refine lv_pop hx hb dX7_readFrom_31 rfl ?_
        refine lv_aload_n hx hb dX7_readFrom_32 rfl (lv_at hl 0 rfl) ?_
        refine h_geti hf hx hb hts hown hX hw flX7_24 rfl dX7_readFrom_33 (fun x5 hf => ?_)
        refine lv_bipush (v := 6) hx hb dX7_readFrom_36 (by decide) ?_
        obtain ⟨J131, eJ131, hf⟩ := h_lt hf
        have hJ131 : ∀ (u6 : hM) (H6 : Heap) (L6 : List Loc) (ls : Array Slot), J131  u6 = some z → h_W E B T s.heap u6 H6 L6 → lv_has ls 3 [(0, .ref (B + c0)), (1, .ref (B + c1)), (2, .int v2)] → W p l e (h_rm 10) s m args below meth c H6 L6 0 0 (h_Qv below E B T args s z) (F0 m 131 ls []) := by
          intro  u6 H6 L6 ls hf hw hl
          rw [eJ131] at hf
          refine lv_aload_n hx hb dX7_readFrom_131 rfl (lv_at hl 1 rfl) ?_
          refine lv_bipush (v := 59) hx hb dX7_readFrom_132 (by decide) ?_
          refine h_cVv (As := [.int (59 : Int32)]) (rest := []) hf hx hb hml hts hown hX hw myX6_readSign miX6_readSign lkX7_58 ⟨rfl, by decide⟩ (fun q hq => c_X6_readSign l E B T c1 (59 : Int32) u6 hq) ⟨Nat.le_of_ble_eq_true rfl, Nat.le_of_ble_eq_true rfl⟩ ⟨Nat.le_refl _, Nat.le_refl _⟩ rfl hl.1 rfl (Nat.le_of_ble_eq_true rfl) dX7_readFrom_134 (fun q7 H7 L7 hf hw => ?_)
          refine h_iinc (k := 2) hf hx hb dX7_readFrom_137 hl rfl (by decide) (by decide) (fun x8 ls hf hl => ?_)
          have hl : lv_has ls 3 [(2, .int x8), (0, .ref (B + c0)), (1, .ref (B + c1))] := hl
          refine lv_goto (tgt := 11) hx hb dX7_readFrom_140 (by decide) ?_
          exact ih x8 q7 _ _ _ hf hw (lv_sub hl [1, 2, 0] rfl)
        clear eJ131
        refine lv_icmp_lt (tgt := 49) hx hb dX7_readFrom_38 (by decide) (fun hc => ?_) (fun hc => ?_)
        · have hf := ifp hc hf
          refine lv_aload_n hx hb dX7_readFrom_49 rfl (lv_at hl 0 rfl) ?_
          refine h_getr hf hx hb hts hown hX hw flX7_9 rfl dX7_readFrom_50 (fun a9 hf => ?_)
          refine lv_aload_n hx hb dX7_readFrom_53 rfl (lv_at hl 0 rfl) ?_
          refine h_geti hf hx hb hts hown hX hw flX7_24 rfl dX7_readFrom_54 (fun x10 hf => ?_)
          refine lv_aload_n hx hb dX7_readFrom_57 rfl (lv_at hl 1 rfl) ?_
          refine lv_iconst (v := 1) hx hb dX7_readFrom_58 (by decide) ?_
          refine lv_bipush (v := 30) hx hb dX7_readFrom_59 (by decide) ?_
          refine h_cVi (As := [.int (1 : Int32), .int (30 : Int32)]) (rest := [.int x10, .ref (B + a9)]) hf hx hb hml hts hown hX hw myX6_readNumber miX6_readNumber lkX7_47 ⟨rfl, by decide⟩ (fun q hq => c_X6_readNumber l E B T c1 (1 : Int32) (30 : Int32) q4.2 hq) ⟨Nat.le_of_ble_eq_true rfl, Nat.le_of_ble_eq_true rfl⟩ ⟨Nat.le_refl _, Nat.le_refl _⟩ rfl hl.1 rfl (Nat.le_of_ble_eq_true rfl) dX7_readFrom_61 (fun q11 H11 L11 hf hw => ?_)
          refine h_iast hf hx hb hX hw dX7_readFrom_64 (fun u12 H12 L12 hf hw => ?_)
          refine lv_aload_n hx hb dX7_readFrom_65 rfl (lv_at hl 0 rfl) ?_
          refine h_getr hf hx hb hts hown hX hw flX7_15 rfl dX7_readFrom_66 (fun a13 hf => ?_)
          refine lv_aload_n hx hb dX7_readFrom_69 rfl (lv_at hl 0 rfl) ?_
          refine h_geti hf hx hb hts hown hX hw flX7_24 rfl dX7_readFrom_70 (fun x14 hf => ?_)
          refine lv_aload_n hx hb dX7_readFrom_73 rfl (lv_at hl 1 rfl) ?_
          refine lv_iconst (v := 0) hx hb dX7_readFrom_74 (by decide) ?_
          refine lv_bipush (v := 49) hx hb dX7_readFrom_75 (by decide) ?_
          refine h_cVi (As := [.int (0 : Int32), .int (49 : Int32)]) (rest := [.int x14, .ref (B + a13)]) hf hx hb hml hts hown hX hw myX6_readNumber miX6_readNumber lkX7_47 ⟨rfl, by decide⟩ (fun q hq => c_X6_readNumber l E B T c1 (0 : Int32) (49 : Int32) u12 hq) ⟨Nat.le_of_ble_eq_true rfl, Nat.le_of_ble_eq_true rfl⟩ ⟨Nat.le_refl _, Nat.le_refl _⟩ rfl hl.1 rfl (Nat.le_of_ble_eq_true rfl) dX7_readFrom_77 (fun q15 H15 L15 hf hw => ?_)
          refine h_iast hf hx hb hX hw dX7_readFrom_80 (fun u16 H16 L16 hf hw => ?_)
          refine lv_aload_n hx hb dX7_readFrom_81 rfl (lv_at hl 0 rfl) ?_
          refine h_getr hf hx hb hts hown hX hw flX7_18 rfl dX7_readFrom_82 (fun a17 hf => ?_)
          refine lv_aload_n hx hb dX7_readFrom_85 rfl (lv_at hl 0 rfl) ?_
          refine h_geti hf hx hb hts hown hX hw flX7_24 rfl dX7_readFrom_86 (fun x18 hf => ?_)
          refine lv_aload_n hx hb dX7_readFrom_89 rfl (lv_at hl 1 rfl) ?_
          refine lv_iconst (v := 0) hx hb dX7_readFrom_90 (by decide) ?_
          refine lv_bipush (v := 49) hx hb dX7_readFrom_91 (by decide) ?_
          refine h_cVi (As := [.int (0 : Int32), .int (49 : Int32)]) (rest := [.int x18, .ref (B + a17)]) hf hx hb hml hts hown hX hw myX6_readNumber miX6_readNumber lkX7_47 ⟨rfl, by decide⟩ (fun q hq => c_X6_readNumber l E B T c1 (0 : Int32) (49 : Int32) u16 hq) ⟨Nat.le_of_ble_eq_true rfl, Nat.le_of_ble_eq_true rfl⟩ ⟨Nat.le_refl _, Nat.le_refl _⟩ rfl hl.1 rfl (Nat.le_of_ble_eq_true rfl) dX7_readFrom_93 (fun q19 H19 L19 hf hw => ?_)
          refine h_iast hf hx hb hX hw dX7_readFrom_96 (fun u20 H20 L20 hf hw => ?_)
          refine lv_aload_n hx hb dX7_readFrom_97 rfl (lv_at hl 0 rfl) ?_
          refine h_getr hf hx hb hts hown hX hw flX7_21 rfl dX7_readFrom_98 (fun a21 hf => ?_)
          refine lv_aload_n hx hb dX7_readFrom_101 rfl (lv_at hl 0 rfl) ?_
          refine h_geti hf hx hb hts hown hX hw flX7_24 rfl dX7_readFrom_102 (fun x22 hf => ?_)
          refine lv_aload_n hx hb dX7_readFrom_105 rfl (lv_at hl 1 rfl) ?_
          refine h_cVi (As := []) (rest := [.int x22, .ref (B + a21)]) hf hx hb hml hts hown hX hw myX6_isLetterNext miX6_isLetterNext lkX7_51 ⟨rfl, by decide⟩ (fun q hq => c_X6_isLetterNext l E B T c1 u20 hq) ⟨Nat.le_of_ble_eq_true rfl, Nat.le_of_ble_eq_true rfl⟩ ⟨Nat.le_refl _, Nat.le_refl _⟩ rfl hl.1 rfl (Nat.le_of_ble_eq_true rfl) dX7_readFrom_106 (fun q23 H23 L23 hf hw => ?_)
          obtain ⟨J120, eJ120, hf⟩ := h_lt hf
          have hJ120 : ∀ (x24 : Int32) (u25 : hM) (H25 : Heap) (L25 : List Loc) (ls : Array Slot), J120 x24 u25 = some z → h_W E B T s.heap u25 H25 L25 → lv_has ls 3 [(0, .ref (B + c0)), (1, .ref (B + c1)), (2, .int v2)] → W p l e (h_rm 10) s m args below meth c H25 L25 0 0 (h_Qv below E B T args s z) (F0 m 120 ls [.int x24, .int x22, .ref (B + a21)]) := by
            intro x24 u25 H25 L25 ls hf hw hl
            rw [eJ120] at hf
            refine h_iast hf hx hb hX hw dX7_readFrom_120 (fun u26 H26 L26 hf hw => ?_)
            refine lv_aload_n hx hb dX7_readFrom_121 rfl (lv_at hl 0 rfl) ?_
            refine lv_dup hx hb dX7_readFrom_122 rfl ?_
            refine h_geti hf hx hb hts hown hX hw flX7_24 rfl dX7_readFrom_123 (fun x27 hf => ?_)
            refine lv_iconst (v := 1) hx hb dX7_readFrom_126 (by decide) ?_
            refine lv_iadd hx hb dX7_readFrom_127 ?_
            refine h_puti hf hx hb hts hown hX hw flX7_24 ⟨rfl, rfl⟩ dX7_readFrom_128 (fun u28 H28 L28 hf hw => ?_)
            exact hJ131  u28 _ _ _ hf hw (lv_sub hl [0, 1, 2] rfl)
          clear eJ120
          refine lv_if_eq (tgt := 119) hx hb dX7_readFrom_109 (by decide) (fun hc => ?_) (fun hc => ?_)
          · have hf := ifp hc hf
            refine lv_iconst (v := 0) hx hb dX7_readFrom_119 (by decide) ?_
            exact hJ120 (0 : Int32) q23.2 _ _ _ hf hw (lv_sub hl [0, 1, 2] rfl)
          · have hf := ifn hc hf
            refine lv_aload_n hx hb dX7_readFrom_112 rfl (lv_at hl 1 rfl) ?_
            refine h_cSi (As := [.ref (B + c1)]) (rest := [.int x22, .ref (B + a21)]) hf hx hb hml hts hown hX hw myX7_readParts msX7_readParts lkX7_54 (fun q hq => c_X7_readParts l E B T c1 q23.2 hq) ⟨Nat.le_of_ble_eq_true rfl, Nat.le_of_ble_eq_true rfl⟩ ⟨Nat.le_refl _, Nat.le_refl _⟩ rfl hl.1 rfl (Nat.le_of_ble_eq_true rfl) dX7_readFrom_113 (fun q29 H29 L29 hf hw => ?_)
            refine lv_goto (tgt := 120) hx hb dX7_readFrom_116 (by decide) ?_
            exact hJ120 q29.1 q29.2 _ _ _ hf hw (lv_sub hl [0, 1, 2] rfl)
        · have hf := ifn hc hf
          refine lv_aload_n hx hb dX7_readFrom_41 rfl (lv_at hl 1 rfl) ?_
          refine lv_iconst (v := 3) hx hb dX7_readFrom_42 (by decide) ?_
          refine h_cVv (As := [.int (3 : Int32)]) (rest := []) hf hx hb hml hts hown hX hw myX6_blame miX6_blame lkX7_43 ⟨rfl, by decide⟩ (fun q hq => c_X6_blame l E B T c1 (3 : Int32) q4.2 hq) ⟨Nat.le_of_ble_eq_true rfl, Nat.le_of_ble_eq_true rfl⟩ ⟨Nat.le_refl _, Nat.le_refl _⟩ rfl hl.1 rfl (Nat.le_of_ble_eq_true rfl) dX7_readFrom_43 (fun q30 H30 L30 hf hw => ?_)
          refine lv_goto (tgt := 131) hx hb dX7_readFrom_46 (by decide) ?_
          exact hJ131  q30 _ _ _ hf hw (lv_sub hl [0, 1, 2] rfl)
set_option maxRecDepth 100000 in
set_option maxHeartbeats 4000000 in
theorem wX7_readFrom {a0 : Nat} {r1 : Nat} {u0 : hM} {z : hM} {ls : Array Slot} (hΓ : h_Γ E B T p s m args meth c cX7_readFrom 3 none RX7) (hf : fX7_readFrom T a0 r1 u0 = some z) (hw : h_W E B T s.heap u0 s.heap []) (hl : lv_has ls 3 [(0, .ref (B + a0)), (1, .ref (B + r1))]) : W p l e (h_rm 10) s m args below meth c s.heap [] 0 0 (h_Qv below E B T args s z) (F0 m 0 ls []) := by
  obtain ⟨hx, hb, hr, hml, hts, hown, hlk, hX⟩ := id hΓ
  unfold fX7_readFrom at hf
  refine lv_aload_n hx hb dX7_readFrom_0 rfl (lv_at hl 0 rfl) ?_
  refine lv_iconst (v := 0) hx hb dX7_readFrom_1 (by decide) ?_
  refine h_puti hf hx hb hts hown hX hw flX7_24 ⟨rfl, rfl⟩ dX7_readFrom_2 (fun u1 H1 L1 hf hw => ?_)
  refine lv_aload_n hx hb dX7_readFrom_5 rfl (lv_at hl 1 rfl) ?_
  refine h_cVv (As := []) (rest := []) hf hx hb hml hts hown hX hw myX6_open miX6_open lkX7_28 ⟨rfl, by decide⟩ (fun q hq => c_X6_open l E B T r1 u1 hq) ⟨Nat.le_of_ble_eq_true rfl, Nat.le_of_ble_eq_true rfl⟩ ⟨Nat.le_refl _, Nat.le_refl _⟩ rfl hl.1 rfl (Nat.le_of_ble_eq_true rfl) dX7_readFrom_6 (fun q2 H2 L2 hf hw => ?_)
  refine lv_iconst (v := 0) hx hb dX7_readFrom_9 (by decide) ?_
  refine lv_istore_n (lv' := [(2, .int (0 : Int32)), (0, .ref (B + a0)), (1, .ref (B + r1))]) hx hb dX7_readFrom_10 rfl hl (by decide) rfl (fun ls hl => ?_)
  refine wfX7_readFrom_L11 hΓ ?_ 6000 (0 : Int32) q2 _ _ _ hf hw (lv_sub hl [1, 2, 0] rfl)
  intro u31 H31 L31 ls hf hw hl
  exact h_vret hf hx hb hr hlk hw dX7_readFrom_143
theorem c_X7_readFrom (l : Launch) (E : hE) (B : Nat) (T : hT) (a0 : Nat) (r1 : Nat) (u0 : hM) {z : hM} (hf : fX7_readFrom T a0 r1 u0 = some z) : h_Ct l E B T yX7_readFrom cX7_readFrom 3 none 10 [.ref (B + a0), .ref (B + r1)] u0 z none := h_ofW (by decide) (Nat.le_of_ble_eq_true rfl) (fun p e s m below meth c ls hΓ hl hw => wX7_readFrom hΓ hf hw hl)
def fX8_dropResults (T : hT) (a0 : Nat) (u0 : hM) : Option (hM) := (gtr T u0 a0 8 6).bind fun a1 => (pti T u0 a1 5 4 (0 : Int32)).bind fun u2 => (gtr T u2 a0 8 6).bind fun a3 => (pti T u2 a3 5 5 (0 : Int32)).bind fun u4 => some u4
set_option maxRecDepth 100000 in
set_option maxHeartbeats 4000000 in
theorem wX8_dropResults {a0 : Nat} {u0 : hM} {z : hM} {ls : Array Slot} (hΓ : h_Γ E B T p s m args meth c cX8_dropResults 1 none RX8) (hf : fX8_dropResults T a0 u0 = some z) (hw : h_W E B T s.heap u0 s.heap []) (hl : lv_has ls 1 [(0, .ref (B + a0))]) : W p l e (h_rm 0) s m args below meth c s.heap [] 0 0 (h_Qv below E B T args s z) (F0 m 0 ls []) := by
  obtain ⟨hx, hb, hr, hml, hts, hown, hlk, hX⟩ := id hΓ
  unfold fX8_dropResults at hf
  refine lv_aload_n hx hb dX8_dropResults_0 rfl (lv_at hl 0 rfl) ?_
  refine h_getr hf hx hb hts hown hX hw flX8_47 rfl dX8_dropResults_1 (fun a1 hf => ?_)
  refine lv_iconst (v := 0) hx hb dX8_dropResults_4 (by decide) ?_
  refine h_puti hf hx hb hts hown hX hw flX8_152 ⟨rfl, rfl⟩ dX8_dropResults_5 (fun u2 H2 L2 hf hw => ?_)
  refine lv_aload_n hx hb dX8_dropResults_8 rfl (lv_at hl 0 rfl) ?_
  refine h_getr hf hx hb hts hown hX hw flX8_47 rfl dX8_dropResults_9 (fun a3 hf => ?_)
  refine lv_iconst (v := 0) hx hb dX8_dropResults_12 (by decide) ?_
  refine h_puti hf hx hb hts hown hX hw flX8_155 ⟨rfl, rfl⟩ dX8_dropResults_13 (fun u4 H4 L4 hf hw => ?_)
  exact h_vret hf hx hb hr hlk hw dX8_dropResults_16
theorem c_X8_dropResults (l : Launch) (E : hE) (B : Nat) (T : hT) (a0 : Nat) (u0 : hM) {z : hM} (hf : fX8_dropResults T a0 u0 = some z) : h_Ct l E B T yX8_dropResults cX8_dropResults 1 none 0 [.ref (B + a0)] u0 z none := h_ofW (by decide) (Nat.le_of_ble_eq_true rfl) (fun p e s m below meth c ls hΓ hl hw => wX8_dropResults hΓ hf hw hl)
def fX8_tasks (T : hT) (a0 : Nat) (u0 : hM) : Option (Int32 × hM) := (gtr T u0 a0 8 4).bind fun a1 => (gtr T u0 a0 8 0).bind fun a2 => (vc T a1 7 (fX7_readFrom T a1 a2 u0)).bind fun q3 => (gtr T q3 a0 8 0).bind fun a4 => (vc T a4 6 (fX6_clear T a4 q3)).bind fun q5 => (gtr T q5 a0 8 0).bind fun a6 => (vc T a6 6 (fX6_hasFault T a6 q5)).bind fun q7 => if q7.1 = 0 then ((gtr T q7.2 a0 8 3).bind fun a8 => (gtr T q7.2 a0 8 4).bind fun a9 => (ptr T q7.2 a0 8 3 (some a9)).bind fun u10 => (ptr T u10 a0 8 4 (some a8)).bind fun u11 => (vc T a0 8 (fX8_dropResults T a0 u11)).bind fun q12 => (vc T a0 8 (fX8_dropImages T a0 q12)).bind fun q13 => (gtr T q13 a0 8 3).bind fun a14 => (gti T q13 a14 7 4).bind fun x15 => some (x15, q13)) else ((gtr T q7.2 a0 8 0).bind fun a16 => (gti T q7.2 a16 6 4).bind fun x17 => some (((-10 : Int32) - x17), q7.2))
set_option maxRecDepth 100000 in
set_option maxHeartbeats 4000000 in
theorem wX8_tasks {a0 : Nat} {u0 : hM} {z : Int32 × hM} {ls : Array Slot} (hΓ : h_Γ E B T p s m args meth c cX8_tasks 2 (some .int) RX8) (hf : fX8_tasks T a0 u0 = some z) (hw : h_W E B T s.heap u0 s.heap []) (hl : lv_has ls 2 [(0, .ref (B + a0))]) : W p l e (h_rm 11) s m args below meth c s.heap [] 0 0 (h_Qi below E B T args s z) (F0 m 0 ls []) := by
  obtain ⟨hx, hb, hr, hml, hts, hown, hlk, hX⟩ := id hΓ
  unfold fX8_tasks at hf
  refine lv_aload_n hx hb dX8_tasks_0 rfl (lv_at hl 0 rfl) ?_
  refine h_getr hf hx hb hts hown hX hw flX8_33 rfl dX8_tasks_1 (fun a1 hf => ?_)
  refine lv_aload_n hx hb dX8_tasks_4 rfl (lv_at hl 0 rfl) ?_
  refine h_getr hf hx hb hts hown hX hw flX8_10 rfl dX8_tasks_5 (fun a2 hf => ?_)
  refine h_cVv (As := [.ref (B + a2)]) (rest := []) hf hx hb hml hts hown hX hw myX7_readFrom miX7_readFrom lkX8_137 ⟨rfl, by decide⟩ (fun q hq => c_X7_readFrom l E B T a1 a2 u0 hq) ⟨Nat.le_of_ble_eq_true rfl, Nat.le_of_ble_eq_true rfl⟩ ⟨Nat.le_refl _, Nat.le_refl _⟩ rfl hl.1 rfl (Nat.le_of_ble_eq_true rfl) dX8_tasks_8 (fun q3 H3 L3 hf hw => ?_)
  refine lv_aload_n hx hb dX8_tasks_11 rfl (lv_at hl 0 rfl) ?_
  refine h_getr hf hx hb hts hown hX hw flX8_10 rfl dX8_tasks_12 (fun a4 hf => ?_)
  refine h_cVv (As := []) (rest := []) hf hx hb hml hts hown hX hw myX6_clear miX6_clear lkX8_108 ⟨rfl, by decide⟩ (fun q hq => c_X6_clear l E B T a4 q3 hq) ⟨Nat.le_of_ble_eq_true rfl, Nat.le_of_ble_eq_true rfl⟩ ⟨Nat.le_refl _, Nat.le_refl _⟩ rfl hl.1 rfl (Nat.le_of_ble_eq_true rfl) dX8_tasks_15 (fun q5 H5 L5 hf hw => ?_)
  refine lv_aload_n hx hb dX8_tasks_18 rfl (lv_at hl 0 rfl) ?_
  refine h_getr hf hx hb hts hown hX hw flX8_10 rfl dX8_tasks_19 (fun a6 hf => ?_)
  refine h_cVi (As := []) (rest := []) hf hx hb hml hts hown hX hw myX6_hasFault miX6_hasFault lkX8_111 ⟨rfl, by decide⟩ (fun q hq => c_X6_hasFault l E B T a6 q5 hq) ⟨Nat.le_of_ble_eq_true rfl, Nat.le_of_ble_eq_true rfl⟩ ⟨Nat.le_refl _, Nat.le_refl _⟩ rfl hl.1 rfl (Nat.le_of_ble_eq_true rfl) dX8_tasks_22 (fun q7 H7 L7 hf hw => ?_)
  refine lv_if_eq (tgt := 39) hx hb dX8_tasks_25 (by decide) (fun hc => ?_) (fun hc => ?_)
  · have hf := ifp hc hf
    refine lv_aload_n hx hb dX8_tasks_39 rfl (lv_at hl 0 rfl) ?_
    refine h_getr hf hx hb hts hown hX hw flX8_29 rfl dX8_tasks_40 (fun a8 hf => ?_)
    refine lv_astore_n (lv' := [(1, .ref (B + a8)), (0, .ref (B + a0))]) hx hb dX8_tasks_43 rfl hl (by decide) rfl (fun ls hl => ?_)
    refine lv_aload_n hx hb dX8_tasks_44 rfl (lv_at hl 1 rfl) ?_
    refine lv_aload_n hx hb dX8_tasks_45 rfl (lv_at hl 1 rfl) ?_
    refine h_getr hf hx hb hts hown hX hw flX8_33 rfl dX8_tasks_46 (fun a9 hf => ?_)
    refine h_putr hf hx hb hts hown hX hw flX8_29 ⟨rfl, rfl⟩ dX8_tasks_49 (fun u10 H10 L10 hf hw => ?_)
    refine lv_aload_n hx hb dX8_tasks_52 rfl (lv_at hl 1 rfl) ?_
    refine lv_aload_n hx hb dX8_tasks_53 rfl (lv_at hl 0 rfl) ?_
    refine h_putr hf hx hb hts hown hX hw flX8_33 ⟨rfl, rfl⟩ dX8_tasks_54 (fun u11 H11 L11 hf hw => ?_)
    refine lv_aload_n hx hb dX8_tasks_57 rfl (lv_at hl 1 rfl) ?_
    refine h_cVv (As := []) (rest := []) hf hx hb hml hts hown hX hw myX8_dropResults miX8_dropResults lkX8_138 ⟨rfl, by decide⟩ (fun q hq => c_X8_dropResults l E B T a0 u11 hq) ⟨Nat.le_of_ble_eq_true rfl, Nat.le_of_ble_eq_true rfl⟩ ⟨Nat.le_refl _, Nat.le_refl _⟩ rfl hl.1 rfl (Nat.le_of_ble_eq_true rfl) dX8_tasks_58 (fun q12 H12 L12 hf hw => ?_)
    refine lv_aload_n hx hb dX8_tasks_61 rfl (lv_at hl 1 rfl) ?_
    refine h_cVv (As := []) (rest := []) hf hx hb hml hts hown hX hw myX8_dropImages miX8_dropImages lkX8_121 ⟨rfl, by decide⟩ (fun q hq => c_X8_dropImages l E B T a0 q12 hq) ⟨Nat.le_of_ble_eq_true rfl, Nat.le_of_ble_eq_true rfl⟩ ⟨Nat.le_refl _, Nat.le_refl _⟩ rfl hl.1 rfl (Nat.le_of_ble_eq_true rfl) dX8_tasks_62 (fun q13 H13 L13 hf hw => ?_)
    refine lv_aload_n hx hb dX8_tasks_65 rfl (lv_at hl 1 rfl) ?_
    refine h_getr hf hx hb hts hown hX hw flX8_29 rfl dX8_tasks_66 (fun a14 hf => ?_)
    refine h_geti hf hx hb hts hown hX hw flX8_141 rfl dX8_tasks_69 (fun x15 hf => ?_)
    exact h_iret hf hx hb hr hlk hw dX8_tasks_72
  · have hf := ifn hc hf
    refine lv_bipush (v := -10) hx hb dX8_tasks_28 (by decide) ?_
    refine lv_aload_n hx hb dX8_tasks_30 rfl (lv_at hl 0 rfl) ?_
    refine h_getr hf hx hb hts hown hX hw flX8_10 rfl dX8_tasks_31 (fun a16 hf => ?_)
    refine h_geti hf hx hb hts hown hX hw flX8_115 rfl dX8_tasks_34 (fun x17 hf => ?_)
    refine lv_isub hx hb dX8_tasks_37 ?_
    exact h_iret hf hx hb hr hlk hw dX8_tasks_38
theorem c_X8_tasks (l : Launch) (E : hE) (B : Nat) (T : hT) (a0 : Nat) (u0 : hM) {z : Int32 × hM} (hf : fX8_tasks T a0 u0 = some z) : h_Ct l E B T yX8_tasks cX8_tasks 2 (some .int) 11 [.ref (B + a0)] u0 z.2 (some (.int z.1)) := h_ofW (by decide) (Nat.le_of_ble_eq_true rfl) (fun p e s m below meth c ls hΓ hl hw => wX8_tasks hΓ hf hw hl)
def fX8_fault (T : hT) (a0 : Nat) (u0 : hM) : Option (Int32 × hM) := (gtr T u0 a0 8 0).bind fun a1 => (gti T u0 a1 6 5).bind fun x2 => some (x2, u0)
set_option maxRecDepth 100000 in
set_option maxHeartbeats 4000000 in
theorem wX8_fault {a0 : Nat} {u0 : hM} {z : Int32 × hM} {ls : Array Slot} (hΓ : h_Γ E B T p s m args meth c cX8_fault 1 (some .int) RX8) (hf : fX8_fault T a0 u0 = some z) (hw : h_W E B T s.heap u0 s.heap []) (hl : lv_has ls 1 [(0, .ref (B + a0))]) : W p l e (h_rm 0) s m args below meth c s.heap [] 0 0 (h_Qi below E B T args s z) (F0 m 0 ls []) := by
  obtain ⟨hx, hb, hr, hml, hts, hown, hlk, hX⟩ := id hΓ
  unfold fX8_fault at hf
  refine lv_aload_n hx hb dX8_fault_0 rfl (lv_at hl 0 rfl) ?_
  refine h_getr hf hx hb hts hown hX hw flX8_10 rfl dX8_fault_1 (fun a1 hf => ?_)
  refine h_geti hf hx hb hts hown hX hw flX8_142 rfl dX8_fault_4 (fun x2 hf => ?_)
  exact h_iret hf hx hb hr hlk hw dX8_fault_7
theorem c_X8_fault (l : Launch) (E : hE) (B : Nat) (T : hT) (a0 : Nat) (u0 : hM) {z : Int32 × hM} (hf : fX8_fault T a0 u0 = some z) : h_Ct l E B T yX8_fault cX8_fault 1 (some .int) 0 [.ref (B + a0)] u0 z.2 (some (.int z.1)) := h_ofW (by decide) (Nat.le_of_ble_eq_true rfl) (fun p e s m below meth c ls hΓ hl hw => wX8_fault hΓ hf hw hl)
def fX8_told (T : hT) (a0 : Nat) (p1 : Int32) (u0 : hM) : Option (Int32 × hM) := if p1 = 0 then ((gtr T u0 a0 8 1).bind fun a1 => (gti T u0 a1 1 2).bind fun x2 => some (x2, u0)) else if p1 = 1 then ((gtr T u0 a0 8 6).bind fun a3 => (gti T u0 a3 5 3).bind fun x4 => some (x4, u0)) else if p1 = 2 then ((gtr T u0 a0 8 3).bind fun a5 => (gti T u0 a5 7 4).bind fun x6 => some (x6, u0)) else if p1 = 3 then ((gtr T u0 a0 8 0).bind fun a7 => (gti T u0 a7 6 1).bind fun x8 => some (x8, u0)) else if p1 = 4 then ((gtr T u0 a0 8 6).bind fun a9 => (gtr T u0 a9 5 0).bind fun a10 => (gti T u0 a10 4 2).bind fun x11 => some (x11, u0)) else if p1 = 5 then ((gti T u0 a0 8 11).bind fun x12 => some (x12, u0)) else if p1 = 6 then ((gtr T u0 a0 8 9).bind fun a13 => (gti T u0 a13 0 2).bind fun x14 => some (x14, u0)) else if p1 = 7 then ((gtr T u0 a0 8 6).bind fun a15 => (gti T u0 a15 5 4).bind fun x16 => some (x16, u0)) else if p1 = 8 then ((gtr T u0 a0 8 6).bind fun a17 => (gti T u0 a17 5 5).bind fun x18 => some (x18, u0)) else (some ((-1000000002 : Int32), u0))
set_option maxRecDepth 100000 in
set_option maxHeartbeats 4000000 in
theorem wX8_told {a0 : Nat} {p1 : Int32} {u0 : hM} {z : Int32 × hM} {ls : Array Slot} (hΓ : h_Γ E B T p s m args meth c cX8_told 2 (some .int) RX8) (hf : fX8_told T a0 p1 u0 = some z) (hw : h_W E B T s.heap u0 s.heap []) (hl : lv_has ls 2 [(0, .ref (B + a0)), (1, .int p1)]) : W p l e (h_rm 0) s m args below meth c s.heap [] 0 0 (h_Qi below E B T args s z) (F0 m 0 ls []) := by
  obtain ⟨hx, hb, hr, hml, hts, hown, hlk, hX⟩ := id hΓ
  unfold fX8_told at hf
  refine lv_iload_n hx hb dX8_told_0 rfl (lv_at hl 1 rfl) ?_
  by_cases hc0 : p1 = 0
  · have hf := ifp hc0 hf
    refine lv_tableIn (off := 51) (tgt := 52) hx hb dX8_told_1 (by rw [hc0]; decide) (by rw [hc0]; decide) (by rw [hc0]; decide) (by decide) ?_
    refine lv_aload_n hx hb dX8_told_52 rfl (lv_at hl 0 rfl) ?_
    refine h_getr hf hx hb hts hown hX hw flX8_19 rfl dX8_told_53 (fun a1 hf => ?_)
    refine h_geti hf hx hb hts hown hX hw flX8_124 rfl dX8_told_56 (fun x2 hf => ?_)
    exact h_iret hf hx hb hr hlk hw dX8_told_59
  have hf := ifn hc0 hf
  by_cases hc1 : p1 = 1
  · have hf := ifp hc1 hf
    refine lv_tableIn (off := 59) (tgt := 60) hx hb dX8_told_1 (by rw [hc1]; decide) (by rw [hc1]; decide) (by rw [hc1]; decide) (by decide) ?_
    refine lv_aload_n hx hb dX8_told_60 rfl (lv_at hl 0 rfl) ?_
    refine h_getr hf hx hb hts hown hX hw flX8_47 rfl dX8_told_61 (fun a3 hf => ?_)
    refine h_geti hf hx hb hts hown hX hw flX8_134 rfl dX8_told_64 (fun x4 hf => ?_)
    exact h_iret hf hx hb hr hlk hw dX8_told_67
  have hf := ifn hc1 hf
  by_cases hc2 : p1 = 2
  · have hf := ifp hc2 hf
    refine lv_tableIn (off := 67) (tgt := 68) hx hb dX8_told_1 (by rw [hc2]; decide) (by rw [hc2]; decide) (by rw [hc2]; decide) (by decide) ?_
    refine lv_aload_n hx hb dX8_told_68 rfl (lv_at hl 0 rfl) ?_
    refine h_getr hf hx hb hts hown hX hw flX8_29 rfl dX8_told_69 (fun a5 hf => ?_)
    refine h_geti hf hx hb hts hown hX hw flX8_141 rfl dX8_told_72 (fun x6 hf => ?_)
    exact h_iret hf hx hb hr hlk hw dX8_told_75
  have hf := ifn hc2 hf
  by_cases hc3 : p1 = 3
  · have hf := ifp hc3 hf
    refine lv_tableIn (off := 75) (tgt := 76) hx hb dX8_told_1 (by rw [hc3]; decide) (by rw [hc3]; decide) (by rw [hc3]; decide) (by decide) ?_
    refine lv_aload_n hx hb dX8_told_76 rfl (lv_at hl 0 rfl) ?_
    refine h_getr hf hx hb hts hown hX hw flX8_10 rfl dX8_told_77 (fun a7 hf => ?_)
    refine h_geti hf hx hb hts hown hX hw flX8_96 rfl dX8_told_80 (fun x8 hf => ?_)
    exact h_iret hf hx hb hr hlk hw dX8_told_83
  have hf := ifn hc3 hf
  by_cases hc4 : p1 = 4
  · have hf := ifp hc4 hf
    refine lv_tableIn (off := 83) (tgt := 84) hx hb dX8_told_1 (by rw [hc4]; decide) (by rw [hc4]; decide) (by rw [hc4]; decide) (by decide) ?_
    refine lv_aload_n hx hb dX8_told_84 rfl (lv_at hl 0 rfl) ?_
    refine h_getr hf hx hb hts hown hX hw flX8_47 rfl dX8_told_85 (fun a9 hf => ?_)
    refine h_getr hf hx hb hts hown hX hw flX8_145 rfl dX8_told_88 (fun a10 hf => ?_)
    refine h_geti hf hx hb hts hown hX hw flX8_148 rfl dX8_told_91 (fun x11 hf => ?_)
    exact h_iret hf hx hb hr hlk hw dX8_told_94
  have hf := ifn hc4 hf
  by_cases hc5 : p1 = 5
  · have hf := ifp hc5 hf
    refine lv_tableIn (off := 94) (tgt := 95) hx hb dX8_told_1 (by rw [hc5]; decide) (by rw [hc5]; decide) (by rw [hc5]; decide) (by decide) ?_
    refine lv_aload_n hx hb dX8_told_95 rfl (lv_at hl 0 rfl) ?_
    refine h_geti hf hx hb hts hown hX hw flX8_73 rfl dX8_told_96 (fun x12 hf => ?_)
    exact h_iret hf hx hb hr hlk hw dX8_told_99
  have hf := ifn hc5 hf
  by_cases hc6 : p1 = 6
  · have hf := ifp hc6 hf
    refine lv_tableIn (off := 99) (tgt := 100) hx hb dX8_told_1 (by rw [hc6]; decide) (by rw [hc6]; decide) (by rw [hc6]; decide) (by decide) ?_
    refine lv_aload_n hx hb dX8_told_100 rfl (lv_at hl 0 rfl) ?_
    refine h_getr hf hx hb hts hown hX hw flX8_65 rfl dX8_told_101 (fun a13 hf => ?_)
    refine h_geti hf hx hb hts hown hX hw flX8_151 rfl dX8_told_104 (fun x14 hf => ?_)
    exact h_iret hf hx hb hr hlk hw dX8_told_107
  have hf := ifn hc6 hf
  by_cases hc7 : p1 = 7
  · have hf := ifp hc7 hf
    refine lv_tableIn (off := 107) (tgt := 108) hx hb dX8_told_1 (by rw [hc7]; decide) (by rw [hc7]; decide) (by rw [hc7]; decide) (by decide) ?_
    refine lv_aload_n hx hb dX8_told_108 rfl (lv_at hl 0 rfl) ?_
    refine h_getr hf hx hb hts hown hX hw flX8_47 rfl dX8_told_109 (fun a15 hf => ?_)
    refine h_geti hf hx hb hts hown hX hw flX8_152 rfl dX8_told_112 (fun x16 hf => ?_)
    exact h_iret hf hx hb hr hlk hw dX8_told_115
  have hf := ifn hc7 hf
  by_cases hc8 : p1 = 8
  · have hf := ifp hc8 hf
    refine lv_tableIn (off := 115) (tgt := 116) hx hb dX8_told_1 (by rw [hc8]; decide) (by rw [hc8]; decide) (by rw [hc8]; decide) (by decide) ?_
    refine lv_aload_n hx hb dX8_told_116 rfl (lv_at hl 0 rfl) ?_
    refine h_getr hf hx hb hts hown hX hw flX8_47 rfl dX8_told_117 (fun a17 hf => ?_)
    refine h_geti hf hx hb hts hown hX hw flX8_155 rfl dX8_told_120 (fun x18 hf => ?_)
    exact h_iret hf hx hb hr hlk hw dX8_told_123
  have hf := ifn hc8 hf
  refine lv_tableOut (tgt := 124) hx hb dX8_told_1 (h_out8 ⟨hc0, hc1, hc2, hc3, hc4, hc5, hc6, hc7, hc8⟩) (by decide) ?_
  refine lv_ldc hx hb hown (hts _ kcX8_95) dX8_told_124 ?_
  exact h_iret hf hx hb hr hlk hw dX8_told_126
theorem c_X8_told (l : Launch) (E : hE) (B : Nat) (T : hT) (a0 : Nat) (p1 : Int32) (u0 : hM) {z : Int32 × hM} (hf : fX8_told T a0 p1 u0 = some z) : h_Ct l E B T yX8_told cX8_told 2 (some .int) 0 [.ref (B + a0), .int p1] u0 z.2 (some (.int z.1)) := h_ofW (by decide) (Nat.le_of_ble_eq_true rfl) (fun p e s m below meth c ls hΓ hl hw => wX8_told hΓ hf hw hl)
def fX8_note (T : hT) (a0 : Nat) (p1 : Int32) (p2 : Int32) (u0 : hM) : Option (Int32 × hM) := (gtr T u0 a0 8 1).bind fun a1 => (gti T u0 a1 1 2).bind fun x2 => (fX8_isWithin T p1 (0 : Int32) (x2 - (1 : Int32)) u0).bind fun q3 => if q3.1 = 0 then (some ((-1000000001 : Int32), q3.2)) else (if p2 = 0 then ((gtr T q3.2 a0 8 1).bind fun a4 => (gtr T q3.2 a4 1 0).bind fun a5 => (ald 11 T q3.2 a5 p1).bind fun x6 => some (x6, q3.2)) else if p2 = 1 then ((gtr T q3.2 a0 8 1).bind fun a7 => (gtr T q3.2 a7 1 1).bind fun a8 => (ald 11 T q3.2 a8 p1).bind fun x9 => some (x9, q3.2)) else (some ((-1000000002 : Int32), q3.2)))
set_option maxRecDepth 100000 in
set_option maxHeartbeats 4000000 in
theorem wX8_note {a0 : Nat} {p1 : Int32} {p2 : Int32} {u0 : hM} {z : Int32 × hM} {ls : Array Slot} (hΓ : h_Γ E B T p s m args meth c cX8_note 3 (some .int) RX8) (hf : fX8_note T a0 p1 p2 u0 = some z) (hw : h_W E B T s.heap u0 s.heap []) (hl : lv_has ls 3 [(0, .ref (B + a0)), (1, .int p1), (2, .int p2)]) : W p l e (h_rm 1) s m args below meth c s.heap [] 0 0 (h_Qi below E B T args s z) (F0 m 0 ls []) := by
  obtain ⟨hx, hb, hr, hml, hts, hown, hlk, hX⟩ := id hΓ
  unfold fX8_note at hf
  refine lv_iload_n hx hb dX8_note_0 rfl (lv_at hl 1 rfl) ?_
  refine lv_iconst (v := 0) hx hb dX8_note_1 (by decide) ?_
  refine lv_aload_n hx hb dX8_note_2 rfl (lv_at hl 0 rfl) ?_
  refine h_getr hf hx hb hts hown hX hw flX8_19 rfl dX8_note_3 (fun a1 hf => ?_)
  refine h_geti hf hx hb hts hown hX hw flX8_124 rfl dX8_note_6 (fun x2 hf => ?_)
  refine lv_iconst (v := 1) hx hb dX8_note_9 (by decide) ?_
  refine lv_isub hx hb dX8_note_10 ?_
  refine h_cSi (As := [.int p1, .int (0 : Int32), .int (x2 - (1 : Int32))]) (rest := []) hf hx hb hml hts hown hX hw myX8_isWithin msX8_isWithin lkX8_91 (fun q hq => c_X8_isWithin l E B T p1 (0 : Int32) (x2 - (1 : Int32)) u0 hq) ⟨Nat.le_of_ble_eq_true rfl, Nat.le_of_ble_eq_true rfl⟩ ⟨Nat.le_refl _, Nat.le_refl _⟩ rfl hl.1 rfl (Nat.le_of_ble_eq_true rfl) dX8_note_11 (fun q3 H3 L3 hf hw => ?_)
  refine lv_if_ne (tgt := 20) hx hb dX8_note_14 (by decide) (fun hc => ?_) (fun hc => ?_)
  · have hf := ifn hc hf
    refine lv_iload_n hx hb dX8_note_20 rfl (lv_at hl 2 rfl) ?_
    by_cases hc0 : p2 = 0
    · have hf := ifp hc0 hf
      refine lv_lookup (off := 27) (tgt := 48) hx hb dX8_note_21 (by decide) (by rw [hc0]; decide) (by decide) ?_
      refine lv_aload_n hx hb dX8_note_48 rfl (lv_at hl 0 rfl) ?_
      refine h_getr hf hx hb hts hown hX hw flX8_19 rfl dX8_note_49 (fun a4 hf => ?_)
      refine h_getr hf hx hb hts hown hX hw flX8_159 rfl dX8_note_52 (fun a5 hf => ?_)
      refine lv_iload_n hx hb dX8_note_55 rfl (lv_at hl 1 rfl) ?_
      refine h_iald hf hx hb hX hw dX8_note_56 (fun x6 hf => ?_)
      exact h_iret hf hx hb hr hlk hw dX8_note_57
    have hf := ifn hc0 hf
    by_cases hc1 : p2 = 1
    · have hf := ifp hc1 hf
      refine lv_lookup (off := 37) (tgt := 58) hx hb dX8_note_21 (by decide) (by rw [hc1]; decide) (by decide) ?_
      refine lv_aload_n hx hb dX8_note_58 rfl (lv_at hl 0 rfl) ?_
      refine h_getr hf hx hb hts hown hX hw flX8_19 rfl dX8_note_59 (fun a7 hf => ?_)
      refine h_getr hf hx hb hts hown hX hw flX8_162 rfl dX8_note_62 (fun a8 hf => ?_)
      refine lv_iload_n hx hb dX8_note_65 rfl (lv_at hl 1 rfl) ?_
      refine h_iald hf hx hb hX hw dX8_note_66 (fun x9 hf => ?_)
      exact h_iret hf hx hb hr hlk hw dX8_note_67
    have hf := ifn hc1 hf
    refine lv_lookup (off := 47) (tgt := 68) hx hb dX8_note_21 (by decide) (by rw [lv_osw hc0 (by decide)]; rw [lv_osw hc1 (by decide)]; rfl) (by decide) ?_
    refine lv_ldc hx hb hown (hts _ kcX8_95) dX8_note_68 ?_
    exact h_iret hf hx hb hr hlk hw dX8_note_70
  · have hf := ifp hc hf
    refine lv_ldc hx hb hown (hts _ kcX8_158) dX8_note_17 ?_
    exact h_iret hf hx hb hr hlk hw dX8_note_19
theorem c_X8_note (l : Launch) (E : hE) (B : Nat) (T : hT) (a0 : Nat) (p1 : Int32) (p2 : Int32) (u0 : hM) {z : Int32 × hM} (hf : fX8_note T a0 p1 p2 u0 = some z) : h_Ct l E B T yX8_note cX8_note 3 (some .int) 1 [.ref (B + a0), .int p1, .int p2] u0 z.2 (some (.int z.1)) := h_ofW (by decide) (Nat.le_of_ble_eq_true rfl) (fun p e s m below meth c ls hΓ hl hw => wX8_note hΓ hf hw hl)
def fX8_isSinger (T : hT) (a0 : Nat) (p1 : Int32) (u0 : hM) : Option (Int32 × hM) := (gtr T u0 a0 8 6).bind fun a1 => (gti T u0 a1 5 3).bind fun x2 => (fX8_isWithin T p1 (0 : Int32) (x2 - (1 : Int32)) u0).bind fun q3 => rtz q3.1 q3.2
set_option maxRecDepth 100000 in
set_option maxHeartbeats 4000000 in
theorem wX8_isSinger {a0 : Nat} {p1 : Int32} {u0 : hM} {z : Int32 × hM} {ls : Array Slot} (hΓ : h_Γ E B T p s m args meth c cX8_isSinger 2 (some .boolean) RX8) (hf : fX8_isSinger T a0 p1 u0 = some z) (hw : h_W E B T s.heap u0 s.heap []) (hl : lv_has ls 2 [(0, .ref (B + a0)), (1, .int p1)]) : W p l e (h_rm 1) s m args below meth c s.heap [] 0 0 (h_Qi below E B T args s z) (F0 m 0 ls []) := by
  obtain ⟨hx, hb, hr, hml, hts, hown, hlk, hX⟩ := id hΓ
  unfold fX8_isSinger at hf
  refine lv_iload_n hx hb dX8_isSinger_0 rfl (lv_at hl 1 rfl) ?_
  refine lv_iconst (v := 0) hx hb dX8_isSinger_1 (by decide) ?_
  refine lv_aload_n hx hb dX8_isSinger_2 rfl (lv_at hl 0 rfl) ?_
  refine h_getr hf hx hb hts hown hX hw flX8_47 rfl dX8_isSinger_3 (fun a1 hf => ?_)
  refine h_geti hf hx hb hts hown hX hw flX8_134 rfl dX8_isSinger_6 (fun x2 hf => ?_)
  refine lv_iconst (v := 1) hx hb dX8_isSinger_9 (by decide) ?_
  refine lv_isub hx hb dX8_isSinger_10 ?_
  refine h_cSi (As := [.int p1, .int (0 : Int32), .int (x2 - (1 : Int32))]) (rest := []) hf hx hb hml hts hown hX hw myX8_isWithin msX8_isWithin lkX8_91 (fun q hq => c_X8_isWithin l E B T p1 (0 : Int32) (x2 - (1 : Int32)) u0 hq) ⟨Nat.le_of_ble_eq_true rfl, Nat.le_of_ble_eq_true rfl⟩ ⟨Nat.le_refl _, Nat.le_refl _⟩ rfl hl.1 rfl (Nat.le_of_ble_eq_true rfl) dX8_isSinger_11 (fun q3 H3 L3 hf hw => ?_)
  exact h_zret hf hx hb hr hlk hw dX8_isSinger_14
theorem c_X8_isSinger (l : Launch) (E : hE) (B : Nat) (T : hT) (a0 : Nat) (p1 : Int32) (u0 : hM) {z : Int32 × hM} (hf : fX8_isSinger T a0 p1 u0 = some z) : h_Ct l E B T yX8_isSinger cX8_isSinger 2 (some .boolean) 1 [.ref (B + a0), .int p1] u0 z.2 (some (.int z.1)) := h_ofW (by decide) (Nat.le_of_ble_eq_true rfl) (fun p e s m below meth c ls hΓ hl hw => wX8_isSinger hΓ hf hw hl)
def fX8_singer (T : hT) (a0 : Nat) (p1 : Int32) (p2 : Int32) (u0 : hM) : Option (Int32 × hM) := (vc T a0 8 (fX8_isSinger T a0 p1 u0)).bind fun q1 => if q1.1 = 0 then (some ((-1000000001 : Int32), q1.2)) else ((gtr T q1.2 a0 8 6).bind fun a2 => (gtr T q1.2 a2 5 2).bind fun a3 => (aldr 15 T q1.2 a3 p1).bind fun a4 => if p2 = 0 then ((gti T q1.2 a4 3 0).bind fun x5 => some (x5, q1.2)) else if p2 = 1 then ((gti T q1.2 a4 3 1).bind fun x6 => some (x6, q1.2)) else if p2 = 2 then ((gti T q1.2 a4 3 2).bind fun x7 => some (x7, q1.2)) else if p2 = 3 then ((gti T q1.2 a4 3 3).bind fun x8 => some (x8, q1.2)) else if p2 = 4 then ((gti T q1.2 a4 3 4).bind fun x9 => some (x9, q1.2)) else if p2 = 5 then ((gti T q1.2 a4 3 5).bind fun x10 => some (x10, q1.2)) else if p2 = 6 then ((gti T q1.2 a4 3 6).bind fun x11 => some (x11, q1.2)) else if p2 = 7 then ((gti T q1.2 a4 3 7).bind fun x12 => some (x12, q1.2)) else (some ((-1000000002 : Int32), q1.2)))
set_option maxRecDepth 100000 in
set_option maxHeartbeats 4000000 in
theorem wX8_singer {a0 : Nat} {p1 : Int32} {p2 : Int32} {u0 : hM} {z : Int32 × hM} {ls : Array Slot} (hΓ : h_Γ E B T p s m args meth c cX8_singer 4 (some .int) RX8) (hf : fX8_singer T a0 p1 p2 u0 = some z) (hw : h_W E B T s.heap u0 s.heap []) (hl : lv_has ls 4 [(0, .ref (B + a0)), (1, .int p1), (2, .int p2)]) : W p l e (h_rm 2) s m args below meth c s.heap [] 0 0 (h_Qi below E B T args s z) (F0 m 0 ls []) := by
  obtain ⟨hx, hb, hr, hml, hts, hown, hlk, hX⟩ := id hΓ
  unfold fX8_singer at hf
  refine lv_aload_n hx hb dX8_singer_0 rfl (lv_at hl 0 rfl) ?_
  refine lv_iload_n hx hb dX8_singer_1 rfl (lv_at hl 1 rfl) ?_
  refine h_cVi (As := [.int p1]) (rest := []) hf hx hb hml hts hown hX hw myX8_isSinger miX8_isSinger lkX8_165 ⟨rfl, by decide⟩ (fun q hq => c_X8_isSinger l E B T a0 p1 u0 hq) ⟨Nat.le_of_ble_eq_true rfl, Nat.le_of_ble_eq_true rfl⟩ ⟨Nat.le_refl _, Nat.le_refl _⟩ rfl hl.1 rfl (Nat.le_of_ble_eq_true rfl) dX8_singer_2 (fun q1 H1 L1 hf hw => ?_)
  refine lv_if_ne (tgt := 11) hx hb dX8_singer_5 (by decide) (fun hc => ?_) (fun hc => ?_)
  · have hf := ifn hc hf
    refine lv_aload_n hx hb dX8_singer_11 rfl (lv_at hl 0 rfl) ?_
    refine h_getr hf hx hb hts hown hX hw flX8_47 rfl dX8_singer_12 (fun a2 hf => ?_)
    refine h_getr hf hx hb hts hown hX hw flX8_131 rfl dX8_singer_15 (fun a3 hf => ?_)
    refine lv_iload_n hx hb dX8_singer_18 rfl (lv_at hl 1 rfl) ?_
    refine h_aald15 hf hx hb hX hw dX8_singer_19 (fun a4 hf => ?_)
    refine lv_astore_n (lv' := [(3, .ref (B + a4)), (0, .ref (B + a0)), (1, .int p1), (2, .int p2)]) hx hb dX8_singer_20 rfl hl (by decide) rfl (fun ls hl => ?_)
    refine lv_iload_n hx hb dX8_singer_21 rfl (lv_at hl 3 rfl) ?_
    by_cases hc0 : p2 = 0
    · have hf := ifp hc0 hf
      refine lv_tableIn (off := 46) (tgt := 68) hx hb dX8_singer_22 (by rw [hc0]; decide) (by rw [hc0]; decide) (by rw [hc0]; decide) (by decide) ?_
      refine lv_aload_n hx hb dX8_singer_68 rfl (lv_at hl 0 rfl) ?_
      refine h_geti hf hx hb hts hown hX hw flX8_169 rfl dX8_singer_69 (fun x5 hf => ?_)
      exact h_iret hf hx hb hr hlk hw dX8_singer_72
    have hf := ifn hc0 hf
    by_cases hc1 : p2 = 1
    · have hf := ifp hc1 hf
      refine lv_tableIn (off := 51) (tgt := 73) hx hb dX8_singer_22 (by rw [hc1]; decide) (by rw [hc1]; decide) (by rw [hc1]; decide) (by decide) ?_
      refine lv_aload_n hx hb dX8_singer_73 rfl (lv_at hl 0 rfl) ?_
      refine h_geti hf hx hb hts hown hX hw flX8_172 rfl dX8_singer_74 (fun x6 hf => ?_)
      exact h_iret hf hx hb hr hlk hw dX8_singer_77
    have hf := ifn hc1 hf
    by_cases hc2 : p2 = 2
    · have hf := ifp hc2 hf
      refine lv_tableIn (off := 56) (tgt := 78) hx hb dX8_singer_22 (by rw [hc2]; decide) (by rw [hc2]; decide) (by rw [hc2]; decide) (by decide) ?_
      refine lv_aload_n hx hb dX8_singer_78 rfl (lv_at hl 0 rfl) ?_
      refine h_geti hf hx hb hts hown hX hw flX8_175 rfl dX8_singer_79 (fun x7 hf => ?_)
      exact h_iret hf hx hb hr hlk hw dX8_singer_82
    have hf := ifn hc2 hf
    by_cases hc3 : p2 = 3
    · have hf := ifp hc3 hf
      refine lv_tableIn (off := 61) (tgt := 83) hx hb dX8_singer_22 (by rw [hc3]; decide) (by rw [hc3]; decide) (by rw [hc3]; decide) (by decide) ?_
      refine lv_aload_n hx hb dX8_singer_83 rfl (lv_at hl 0 rfl) ?_
      refine h_geti hf hx hb hts hown hX hw flX8_178 rfl dX8_singer_84 (fun x8 hf => ?_)
      exact h_iret hf hx hb hr hlk hw dX8_singer_87
    have hf := ifn hc3 hf
    by_cases hc4 : p2 = 4
    · have hf := ifp hc4 hf
      refine lv_tableIn (off := 66) (tgt := 88) hx hb dX8_singer_22 (by rw [hc4]; decide) (by rw [hc4]; decide) (by rw [hc4]; decide) (by decide) ?_
      refine lv_aload_n hx hb dX8_singer_88 rfl (lv_at hl 0 rfl) ?_
      refine h_geti hf hx hb hts hown hX hw flX8_181 rfl dX8_singer_89 (fun x9 hf => ?_)
      exact h_iret hf hx hb hr hlk hw dX8_singer_92
    have hf := ifn hc4 hf
    by_cases hc5 : p2 = 5
    · have hf := ifp hc5 hf
      refine lv_tableIn (off := 71) (tgt := 93) hx hb dX8_singer_22 (by rw [hc5]; decide) (by rw [hc5]; decide) (by rw [hc5]; decide) (by decide) ?_
      refine lv_aload_n hx hb dX8_singer_93 rfl (lv_at hl 0 rfl) ?_
      refine h_geti hf hx hb hts hown hX hw flX8_184 rfl dX8_singer_94 (fun x10 hf => ?_)
      exact h_iret hf hx hb hr hlk hw dX8_singer_97
    have hf := ifn hc5 hf
    by_cases hc6 : p2 = 6
    · have hf := ifp hc6 hf
      refine lv_tableIn (off := 76) (tgt := 98) hx hb dX8_singer_22 (by rw [hc6]; decide) (by rw [hc6]; decide) (by rw [hc6]; decide) (by decide) ?_
      refine lv_aload_n hx hb dX8_singer_98 rfl (lv_at hl 0 rfl) ?_
      refine h_geti hf hx hb hts hown hX hw flX8_187 rfl dX8_singer_99 (fun x11 hf => ?_)
      exact h_iret hf hx hb hr hlk hw dX8_singer_102
    have hf := ifn hc6 hf
    by_cases hc7 : p2 = 7
    · have hf := ifp hc7 hf
      refine lv_tableIn (off := 81) (tgt := 103) hx hb dX8_singer_22 (by rw [hc7]; decide) (by rw [hc7]; decide) (by rw [hc7]; decide) (by decide) ?_
      refine lv_aload_n hx hb dX8_singer_103 rfl (lv_at hl 0 rfl) ?_
      refine h_geti hf hx hb hts hown hX hw flX8_190 rfl dX8_singer_104 (fun x12 hf => ?_)
      exact h_iret hf hx hb hr hlk hw dX8_singer_107
    have hf := ifn hc7 hf
    refine lv_tableOut (tgt := 108) hx hb dX8_singer_22 (h_out7 ⟨hc0, hc1, hc2, hc3, hc4, hc5, hc6, hc7⟩) (by decide) ?_
    refine lv_ldc hx hb hown (hts _ kcX8_95) dX8_singer_108 ?_
    exact h_iret hf hx hb hr hlk hw dX8_singer_110
  · have hf := ifp hc hf
    refine lv_ldc hx hb hown (hts _ kcX8_158) dX8_singer_8 ?_
    exact h_iret hf hx hb hr hlk hw dX8_singer_10
theorem c_X8_singer (l : Launch) (E : hE) (B : Nat) (T : hT) (a0 : Nat) (p1 : Int32) (p2 : Int32) (u0 : hM) {z : Int32 × hM} (hf : fX8_singer T a0 p1 p2 u0 = some z) : h_Ct l E B T yX8_singer cX8_singer 4 (some .int) 2 [.ref (B + a0), .int p1, .int p2] u0 z.2 (some (.int z.1)) := h_ofW (by decide) (Nat.le_of_ble_eq_true rfl) (fun p e s m below meth c ls hΓ hl hw => wX8_singer hΓ hf hw hl)
def fX8_isTask (T : hT) (a0 : Nat) (p1 : Int32) (u0 : hM) : Option (Int32 × hM) := (gtr T u0 a0 8 3).bind fun a1 => (gti T u0 a1 7 4).bind fun x2 => (fX8_isWithin T p1 (0 : Int32) (x2 - (1 : Int32)) u0).bind fun q3 => rtz q3.1 q3.2
set_option maxRecDepth 100000 in
set_option maxHeartbeats 4000000 in
theorem wX8_isTask {a0 : Nat} {p1 : Int32} {u0 : hM} {z : Int32 × hM} {ls : Array Slot} (hΓ : h_Γ E B T p s m args meth c cX8_isTask 2 (some .boolean) RX8) (hf : fX8_isTask T a0 p1 u0 = some z) (hw : h_W E B T s.heap u0 s.heap []) (hl : lv_has ls 2 [(0, .ref (B + a0)), (1, .int p1)]) : W p l e (h_rm 1) s m args below meth c s.heap [] 0 0 (h_Qi below E B T args s z) (F0 m 0 ls []) := by
  obtain ⟨hx, hb, hr, hml, hts, hown, hlk, hX⟩ := id hΓ
  unfold fX8_isTask at hf
  refine lv_iload_n hx hb dX8_isTask_0 rfl (lv_at hl 1 rfl) ?_
  refine lv_iconst (v := 0) hx hb dX8_isTask_1 (by decide) ?_
  refine lv_aload_n hx hb dX8_isTask_2 rfl (lv_at hl 0 rfl) ?_
  refine h_getr hf hx hb hts hown hX hw flX8_29 rfl dX8_isTask_3 (fun a1 hf => ?_)
  refine h_geti hf hx hb hts hown hX hw flX8_141 rfl dX8_isTask_6 (fun x2 hf => ?_)
  refine lv_iconst (v := 1) hx hb dX8_isTask_9 (by decide) ?_
  refine lv_isub hx hb dX8_isTask_10 ?_
  refine h_cSi (As := [.int p1, .int (0 : Int32), .int (x2 - (1 : Int32))]) (rest := []) hf hx hb hml hts hown hX hw myX8_isWithin msX8_isWithin lkX8_91 (fun q hq => c_X8_isWithin l E B T p1 (0 : Int32) (x2 - (1 : Int32)) u0 hq) ⟨Nat.le_of_ble_eq_true rfl, Nat.le_of_ble_eq_true rfl⟩ ⟨Nat.le_refl _, Nat.le_refl _⟩ rfl hl.1 rfl (Nat.le_of_ble_eq_true rfl) dX8_isTask_11 (fun q3 H3 L3 hf hw => ?_)
  exact h_zret hf hx hb hr hlk hw dX8_isTask_14
theorem c_X8_isTask (l : Launch) (E : hE) (B : Nat) (T : hT) (a0 : Nat) (p1 : Int32) (u0 : hM) {z : Int32 × hM} (hf : fX8_isTask T a0 p1 u0 = some z) : h_Ct l E B T yX8_isTask cX8_isTask 2 (some .boolean) 1 [.ref (B + a0), .int p1] u0 z.2 (some (.int z.1)) := h_ofW (by decide) (Nat.le_of_ble_eq_true rfl) (fun p e s m below meth c ls hΓ hl hw => wX8_isTask hΓ hf hw hl)
def fX8_task (T : hT) (a0 : Nat) (p1 : Int32) (p2 : Int32) (u0 : hM) : Option (Int32 × hM) := (vc T a0 8 (fX8_isTask T a0 p1 u0)).bind fun q1 => if q1.1 = 0 then (some ((-1000000001 : Int32), q1.2)) else (if p2 = 0 then ((gtr T q1.2 a0 8 3).bind fun a2 => (gtr T q1.2 a2 7 0).bind fun a3 => (ald 11 T q1.2 a3 p1).bind fun x4 => some (x4, q1.2)) else if p2 = 1 then ((gtr T q1.2 a0 8 3).bind fun a5 => (gtr T q1.2 a5 7 1).bind fun a6 => (ald 11 T q1.2 a6 p1).bind fun x7 => some (x7, q1.2)) else if p2 = 2 then ((gtr T q1.2 a0 8 3).bind fun a8 => (gtr T q1.2 a8 7 2).bind fun a9 => (ald 11 T q1.2 a9 p1).bind fun x10 => some (x10, q1.2)) else if p2 = 3 then ((gtr T q1.2 a0 8 3).bind fun a11 => (gtr T q1.2 a11 7 3).bind fun a12 => (ald 11 T q1.2 a12 p1).bind fun x13 => some (x13, q1.2)) else (some ((-1000000002 : Int32), q1.2)))
set_option maxRecDepth 100000 in
set_option maxHeartbeats 4000000 in
theorem wX8_task {a0 : Nat} {p1 : Int32} {p2 : Int32} {u0 : hM} {z : Int32 × hM} {ls : Array Slot} (hΓ : h_Γ E B T p s m args meth c cX8_task 3 (some .int) RX8) (hf : fX8_task T a0 p1 p2 u0 = some z) (hw : h_W E B T s.heap u0 s.heap []) (hl : lv_has ls 3 [(0, .ref (B + a0)), (1, .int p1), (2, .int p2)]) : W p l e (h_rm 2) s m args below meth c s.heap [] 0 0 (h_Qi below E B T args s z) (F0 m 0 ls []) := by
  obtain ⟨hx, hb, hr, hml, hts, hown, hlk, hX⟩ := id hΓ
  unfold fX8_task at hf
  refine lv_aload_n hx hb dX8_task_0 rfl (lv_at hl 0 rfl) ?_
  refine lv_iload_n hx hb dX8_task_1 rfl (lv_at hl 1 rfl) ?_
  refine h_cVi (As := [.int p1]) (rest := []) hf hx hb hml hts hown hX hw myX8_isTask miX8_isTask lkX8_193 ⟨rfl, by decide⟩ (fun q hq => c_X8_isTask l E B T a0 p1 u0 hq) ⟨Nat.le_of_ble_eq_true rfl, Nat.le_of_ble_eq_true rfl⟩ ⟨Nat.le_refl _, Nat.le_refl _⟩ rfl hl.1 rfl (Nat.le_of_ble_eq_true rfl) dX8_task_2 (fun q1 H1 L1 hf hw => ?_)
  refine lv_if_ne (tgt := 11) hx hb dX8_task_5 (by decide) (fun hc => ?_) (fun hc => ?_)
  · have hf := ifn hc hf
    refine lv_iload_n hx hb dX8_task_11 rfl (lv_at hl 2 rfl) ?_
    by_cases hc0 : p2 = 0
    · have hf := ifp hc0 hf
      refine lv_tableIn (off := 32) (tgt := 44) hx hb dX8_task_12 (by rw [hc0]; decide) (by rw [hc0]; decide) (by rw [hc0]; decide) (by decide) ?_
      refine lv_aload_n hx hb dX8_task_44 rfl (lv_at hl 0 rfl) ?_
      refine h_getr hf hx hb hts hown hX hw flX8_29 rfl dX8_task_45 (fun a2 hf => ?_)
      refine h_getr hf hx hb hts hown hX hw flX8_196 rfl dX8_task_48 (fun a3 hf => ?_)
      refine lv_iload_n hx hb dX8_task_51 rfl (lv_at hl 1 rfl) ?_
      refine h_iald hf hx hb hX hw dX8_task_52 (fun x4 hf => ?_)
      exact h_iret hf hx hb hr hlk hw dX8_task_53
    have hf := ifn hc0 hf
    by_cases hc1 : p2 = 1
    · have hf := ifp hc1 hf
      refine lv_tableIn (off := 42) (tgt := 54) hx hb dX8_task_12 (by rw [hc1]; decide) (by rw [hc1]; decide) (by rw [hc1]; decide) (by decide) ?_
      refine lv_aload_n hx hb dX8_task_54 rfl (lv_at hl 0 rfl) ?_
      refine h_getr hf hx hb hts hown hX hw flX8_29 rfl dX8_task_55 (fun a5 hf => ?_)
      refine h_getr hf hx hb hts hown hX hw flX8_199 rfl dX8_task_58 (fun a6 hf => ?_)
      refine lv_iload_n hx hb dX8_task_61 rfl (lv_at hl 1 rfl) ?_
      refine h_iald hf hx hb hX hw dX8_task_62 (fun x7 hf => ?_)
      exact h_iret hf hx hb hr hlk hw dX8_task_63
    have hf := ifn hc1 hf
    by_cases hc2 : p2 = 2
    · have hf := ifp hc2 hf
      refine lv_tableIn (off := 52) (tgt := 64) hx hb dX8_task_12 (by rw [hc2]; decide) (by rw [hc2]; decide) (by rw [hc2]; decide) (by decide) ?_
      refine lv_aload_n hx hb dX8_task_64 rfl (lv_at hl 0 rfl) ?_
      refine h_getr hf hx hb hts hown hX hw flX8_29 rfl dX8_task_65 (fun a8 hf => ?_)
      refine h_getr hf hx hb hts hown hX hw flX8_202 rfl dX8_task_68 (fun a9 hf => ?_)
      refine lv_iload_n hx hb dX8_task_71 rfl (lv_at hl 1 rfl) ?_
      refine h_iald hf hx hb hX hw dX8_task_72 (fun x10 hf => ?_)
      exact h_iret hf hx hb hr hlk hw dX8_task_73
    have hf := ifn hc2 hf
    by_cases hc3 : p2 = 3
    · have hf := ifp hc3 hf
      refine lv_tableIn (off := 62) (tgt := 74) hx hb dX8_task_12 (by rw [hc3]; decide) (by rw [hc3]; decide) (by rw [hc3]; decide) (by decide) ?_
      refine lv_aload_n hx hb dX8_task_74 rfl (lv_at hl 0 rfl) ?_
      refine h_getr hf hx hb hts hown hX hw flX8_29 rfl dX8_task_75 (fun a11 hf => ?_)
      refine h_getr hf hx hb hts hown hX hw flX8_205 rfl dX8_task_78 (fun a12 hf => ?_)
      refine lv_iload_n hx hb dX8_task_81 rfl (lv_at hl 1 rfl) ?_
      refine h_iald hf hx hb hX hw dX8_task_82 (fun x13 hf => ?_)
      exact h_iret hf hx hb hr hlk hw dX8_task_83
    have hf := ifn hc3 hf
    refine lv_tableOut (tgt := 84) hx hb dX8_task_12 (h_out3 ⟨hc0, hc1, hc2, hc3⟩) (by decide) ?_
    refine lv_ldc hx hb hown (hts _ kcX8_95) dX8_task_84 ?_
    exact h_iret hf hx hb hr hlk hw dX8_task_86
  · have hf := ifp hc hf
    refine lv_ldc hx hb hown (hts _ kcX8_158) dX8_task_8 ?_
    exact h_iret hf hx hb hr hlk hw dX8_task_10
theorem c_X8_task (l : Launch) (E : hE) (B : Nat) (T : hT) (a0 : Nat) (p1 : Int32) (p2 : Int32) (u0 : hM) {z : Int32 × hM} (hf : fX8_task T a0 p1 p2 u0 = some z) : h_Ct l E B T yX8_task cX8_task 3 (some .int) 2 [.ref (B + a0), .int p1, .int p2] u0 z.2 (some (.int z.1)) := h_ofW (by decide) (Nat.le_of_ble_eq_true rfl) (fun p e s m below meth c ls hΓ hl hw => wX8_task hΓ hf hw hl)
end GEN
