section GEN
variable {p : Program} {l : Launch} {e : Env} {s : State} {m : MethodId} {args : Array Value} {below : List Frame} {meth : Method} {c : Code} {E : hE} {B : Nat} {T : hT}
def fX9_takeSinger (T : hT) (a0 : Nat) (u0 : hM) : Option (Int32 × hM) := (vc T a0 9 (fX9_readWord T a0 u0)).bind fun q1 => (gtl T q1 a0 9 16).bind fun x2 => (fX9_code T (115 : Int32) (105 : Int32) (110 : Int32) (103 : Int32) q1).bind fun q3 => (fX9_longer T q3.1 (101 : Int32) q3.2).bind fun q4 => (fX9_longer T q4.1 (114 : Int32) q4.2).bind fun q5 => if x2 = q5.1 then ((gti T q5.2 a0 9 20).bind fun x6 => if x6 = (12 : Int32) then ((gti T q5.2 a0 9 15).bind fun x64 => (vc T a0 9 (fX9_fails T a0 (3 : Int32) x64 q5.2)).bind fun q65 => some (q65.1, q65.2)) else ((gti T q5.2 a0 9 17).bind fun x7 => (pti T q5.2 a0 9 15 x7).bind fun u8 => (vc T a0 9 (fX9_readWord T a0 u8)).bind fun q9 => (gti T q9 a0 9 20).bind fun x10 => lt (((8 : Int32) * x10)) fun x11 => (gtr T q9 a0 9 24).bind fun a12 => (vc T a0 9 (fX9_kindOf T a0 q9)).bind fun q13 => (asti T q13.2 a12 x11 q13.1).bind fun u14 => (gtr T u14 a0 9 24).bind fun a15 => (ald 11 T u14 a15 x11).bind fun x16 => if 0 ≤ x16 then ((gti T u14 a0 9 17).bind fun x17 => (pti T u14 a0 9 15 x17).bind fun u18 => (gtr T u18 a0 9 24).bind fun a19 => (vc T a0 9 (fX9_into T a0 a19 (x11 + (1 : Int32)) (0 : Int32) (99 : Int32) u18)).bind fun q20 => lt (fun (x21 : Int32) (u22 : hM) => lt (fun (x23 : Int32) (u24 : hM) => lt (fun (x25 : Int32) (u26 : hM) => lt (fun (x27 : Int32) (u28 : hM) => lt (fun (x29 : Int32) (u30 : hM) => lt (fun (x31 : Int32) (u32 : hM) => lt (fun (x33 : Int32) (u34 : hM) => (gtr T u34 a0 9 24).bind fun a35 => (ald 11 T u34 a35 (x11 + (2 : Int32))).bind fun x36 => (asti T u34 a35 (x11 + (2 : Int32)) (x36 - (50 : Int32))).bind fun u37 => (gtr T u37 a0 9 24).bind fun a38 => (ald 11 T u37 a38 (x11 + (7 : Int32))).bind fun x39 => (asti T u37 a38 (x11 + (7 : Int32)) (x39 - (20 : Int32))).bind fun u40 => (gti T u40 a0 9 20).bind fun x41 => (pti T u40 a0 9 20 (x41 + (1 : Int32))).bind fun u42 => if x33 ≤ 0 then ((vc T a0 9 (fX9_takeStop T a0 u42)).bind fun q43 => some (q43.1, q43.2)) else (some (x33, u42))) fun J306 => if x31 ≤ 0 then ((gtr T u32 a0 9 24).bind fun a44 => (vc T a0 9 (fX9_into T a0 a44 (x11 + (7 : Int32)) (0 : Int32) (40 : Int32) u32)).bind fun q45 => J306 q45.1 q45.2) else (J306 x31 u32)) fun J282 => lt (fun (u46 : hM) => J282 x29 u46) fun J281 => if x29 = 0 then ((gti T u30 a0 9 18).bind fun x47 => (gtr T u30 a0 9 24).bind fun a48 => (ald 11 T u30 a48 (x11 + (5 : Int32))).bind fun x49 => if x49 ≤ x47 then (J281 u30) else ((gti T u30 a0 9 19).bind fun x50 => (vc T a0 9 (fX9_fails T a0 (4 : Int32) x50 u30)).bind fun q51 => J282 q51.1 q51.2)) else (J281 u30)) fun J249 => if x27 ≤ 0 then ((gtr T u28 a0 9 24).bind fun a52 => (vc T a0 9 (fX9_into T a0 a52 (x11 + (6 : Int32)) (0 : Int32) (36 : Int32) u28)).bind fun q53 => J249 q53.1 q53.2) else (J249 x27 u28)) fun J225 => if x25 ≤ 0 then ((gtr T u26 a0 9 24).bind fun a54 => (vc T a0 9 (fX9_into T a0 a54 (x11 + (5 : Int32)) (0 : Int32) (36 : Int32) u26)).bind fun q55 => J225 q55.1 q55.2) else (J225 x25 u26)) fun J202 => if x23 ≤ 0 then ((gtr T u24 a0 9 24).bind fun a56 => (vc T a0 9 (fX9_into T a0 a56 (x11 + (4 : Int32)) (1 : Int32) (40 : Int32) u24)).bind fun q57 => J202 q57.1 q57.2) else (J202 x23 u24)) fun J179 => if x21 ≤ 0 then ((gtr T u22 a0 9 24).bind fun a58 => (vc T a0 9 (fX9_into T a0 a58 (x11 + (3 : Int32)) (0 : Int32) (99 : Int32) u22)).bind fun q59 => J179 q59.1 q59.2) else (J179 x21 u22)) fun J156 => if q20.1 ≤ 0 then ((gtr T q20.2 a0 9 24).bind fun a60 => (vc T a0 9 (fX9_into T a0 a60 (x11 + (2 : Int32)) (0 : Int32) (99 : Int32) q20.2)).bind fun q61 => J156 q61.1 q61.2) else (J156 q20.1 q20.2)) else ((gti T u14 a0 9 15).bind fun x62 => (vc T a0 9 (fX9_fails T a0 (1 : Int32) x62 u14)).bind fun q63 => some (q63.1, q63.2)))) else ((gti T q5.2 a0 9 15).bind fun x66 => (vc T a0 9 (fX9_fails T a0 (1 : Int32) x66 q5.2)).bind fun q67 => some (q67.1, q67.2))
set_option maxRecDepth 100000 in
set_option maxHeartbeats 4000000 in
theorem wX9_takeSinger {a0 : Nat} {u0 : hM} {z : Int32 × hM} {ls : Array Slot} (hΓ : h_Γ E B T p s m args meth c cX9_takeSinger 3 (some .int) RX9) (hf : fX9_takeSinger T a0 u0 = some z) (hw : h_W E B T s.heap u0 s.heap []) (hl : lv_has ls 3 [(0, .ref (B + a0))]) : W p l e (h_rm 3) s m args below meth c s.heap [] 0 0 (h_Qi below E B T args s z) (F0 m 0 ls []) := by
  obtain ⟨hx, hb, hr, hml, hts, hown, hlk, hX⟩ := id hΓ
  unfold fX9_takeSinger at hf
  refine lv_aload_n hx hb dX9_takeSinger_0 rfl (lv_at hl 0 rfl) ?_
  refine h_cVv (As := []) (rest := []) hf hx hb hml hts hown hX hw myX9_readWord miX9_readWord lkX9_149 ⟨rfl, by decide⟩ (fun q hq => c_X9_readWord l E B T a0 u0 hq) ⟨Nat.le_of_ble_eq_true rfl, Nat.le_of_ble_eq_true rfl⟩ ⟨Nat.le_refl _, Nat.le_refl _⟩ rfl hl.1 rfl (Nat.le_of_ble_eq_true rfl) dX9_takeSinger_1 (fun q1 H1 L1 hf hw => ?_)
  refine lv_aload_n hx hb dX9_takeSinger_4 rfl (lv_at hl 0 rfl) ?_
  refine h_getl hf hx hb hts hown hX hw flX9_113 rfl dX9_takeSinger_5 (fun x2 hf => ?_)
  refine lv_bipush (v := 115) hx hb dX9_takeSinger_8 (by decide) ?_
  refine lv_bipush (v := 105) hx hb dX9_takeSinger_10 (by decide) ?_
  refine lv_bipush (v := 110) hx hb dX9_takeSinger_12 (by decide) ?_
  refine lv_bipush (v := 103) hx hb dX9_takeSinger_14 (by decide) ?_
  refine h_cSl (As := [.int (115 : Int32), .int (105 : Int32), .int (110 : Int32), .int (103 : Int32)]) (rest := [.long x2]) hf hx hb hml hts hown hX hw myX9_code msX9_code lkX9_152 (fun q hq => c_X9_code l E B T (115 : Int32) (105 : Int32) (110 : Int32) (103 : Int32) q1 hq) ⟨Nat.le_of_ble_eq_true rfl, Nat.le_of_ble_eq_true rfl⟩ ⟨Nat.le_refl _, Nat.le_refl _⟩ rfl hl.1 rfl (Nat.le_of_ble_eq_true rfl) dX9_takeSinger_16 (fun q3 H3 L3 hf hw => ?_)
  refine lv_bipush (v := 101) hx hb dX9_takeSinger_19 (by decide) ?_
  refine h_cSl (As := [.long q3.1, .int (101 : Int32)]) (rest := [.long x2]) hf hx hb hml hts hown hX hw myX9_longer msX9_longer lkX9_156 (fun q hq => c_X9_longer l E B T q3.1 (101 : Int32) q3.2 hq) ⟨Nat.le_of_ble_eq_true rfl, Nat.le_of_ble_eq_true rfl⟩ ⟨Nat.le_refl _, Nat.le_refl _⟩ rfl hl.1 rfl (Nat.le_of_ble_eq_true rfl) dX9_takeSinger_21 (fun q4 H4 L4 hf hw => ?_)
  refine lv_bipush (v := 114) hx hb dX9_takeSinger_24 (by decide) ?_
  refine h_cSl (As := [.long q4.1, .int (114 : Int32)]) (rest := [.long x2]) hf hx hb hml hts hown hX hw myX9_longer msX9_longer lkX9_156 (fun q hq => c_X9_longer l E B T q4.1 (114 : Int32) q4.2 hq) ⟨Nat.le_of_ble_eq_true rfl, Nat.le_of_ble_eq_true rfl⟩ ⟨Nat.le_refl _, Nat.le_refl _⟩ rfl hl.1 rfl (Nat.le_of_ble_eq_true rfl) dX9_takeSinger_26 (fun q5 H5 L5 hf hw => ?_)
  refine W.lcmp hx hb dX9_takeSinger_29 ?_
  refine lv_if_eq (tgt := 43) hx hb dX9_takeSinger_30 (by decide) (fun hc => ?_) (fun hc => ?_)
  · have hc := (lg_cmp_eq _ _).mp hc
    have hf := ifp hc hf
    refine lv_aload_n hx hb dX9_takeSinger_43 rfl (lv_at hl 0 rfl) ?_
    refine h_geti hf hx hb hts hown hX hw flX9_160 rfl dX9_takeSinger_44 (fun x6 hf => ?_)
    refine lv_bipush (v := 12) hx hb dX9_takeSinger_47 (by decide) ?_
    refine lv_icmp_ne (tgt := 62) hx hb dX9_takeSinger_49 (by decide) (fun hc => ?_) (fun hc => ?_)
    · have hf := ifn hc hf
      refine lv_aload_n hx hb dX9_takeSinger_62 rfl (lv_at hl 0 rfl) ?_
      refine lv_aload_n hx hb dX9_takeSinger_63 rfl (lv_at hl 0 rfl) ?_
      refine h_geti hf hx hb hts hown hX hw flX9_117 rfl dX9_takeSinger_64 (fun x7 hf => ?_)
      refine h_puti hf hx hb hts hown hX hw flX9_106 ⟨rfl, rfl⟩ dX9_takeSinger_67 (fun u8 H8 L8 hf hw => ?_)
      refine lv_aload_n hx hb dX9_takeSinger_70 rfl (lv_at hl 0 rfl) ?_
      refine h_cVv (As := []) (rest := []) hf hx hb hml hts hown hX hw myX9_readWord miX9_readWord lkX9_149 ⟨rfl, by decide⟩ (fun q hq => c_X9_readWord l E B T a0 u8 hq) ⟨Nat.le_of_ble_eq_true rfl, Nat.le_of_ble_eq_true rfl⟩ ⟨Nat.le_refl _, Nat.le_refl _⟩ rfl hl.1 rfl (Nat.le_of_ble_eq_true rfl) dX9_takeSinger_71 (fun q9 H9 L9 hf hw => ?_)
      refine lv_bipush (v := 8) hx hb dX9_takeSinger_74 (by decide) ?_
      refine lv_aload_n hx hb dX9_takeSinger_76 rfl (lv_at hl 0 rfl) ?_
      refine h_geti hf hx hb hts hown hX hw flX9_160 rfl dX9_takeSinger_77 (fun x10 hf => ?_)
      refine lv_imul hx hb dX9_takeSinger_80 ?_
      refine h_nmi hf (fun x11 hf => ?_)
      refine lv_istore_n (lv' := [(1, .int x11), (0, .ref (B + a0))]) hx hb dX9_takeSinger_81 rfl hl (by decide) rfl (fun ls hl => ?_)
      refine lv_aload_n hx hb dX9_takeSinger_82 rfl (lv_at hl 1 rfl) ?_
      refine h_getr hf hx hb hts hown hX hw flX9_48 rfl dX9_takeSinger_83 (fun a12 hf => ?_)
      refine lv_iload_n hx hb dX9_takeSinger_86 rfl (lv_at hl 0 rfl) ?_
      refine lv_aload_n hx hb dX9_takeSinger_87 rfl (lv_at hl 1 rfl) ?_
      refine h_cVi (As := []) (rest := [.int x11, .ref (B + a12)]) hf hx hb hml hts hown hX hw myX9_kindOf miX9_kindOf lkX9_187 ⟨rfl, by decide⟩ (fun q hq => c_X9_kindOf l E B T a0 q9 hq) ⟨Nat.le_of_ble_eq_true rfl, Nat.le_of_ble_eq_true rfl⟩ ⟨Nat.le_refl _, Nat.le_refl _⟩ rfl hl.1 rfl (Nat.le_of_ble_eq_true rfl) dX9_takeSinger_88 (fun q13 H13 L13 hf hw => ?_)
      refine h_iast hf hx hb hX hw dX9_takeSinger_91 (fun u14 H14 L14 hf hw => ?_)
      refine lv_aload_n hx hb dX9_takeSinger_92 rfl (lv_at hl 1 rfl) ?_
      refine h_getr hf hx hb hts hown hX hw flX9_48 rfl dX9_takeSinger_93 (fun a15 hf => ?_)
      refine lv_iload_n hx hb dX9_takeSinger_96 rfl (lv_at hl 0 rfl) ?_
      refine h_iald hf hx hb hX hw dX9_takeSinger_97 (fun x16 hf => ?_)
      refine lv_if_ge (tgt := 111) hx hb dX9_takeSinger_98 (by decide) (fun hc => ?_) (fun hc => ?_)
      · have hf := ifp hc hf
        refine lv_aload_n hx hb dX9_takeSinger_111 rfl (lv_at hl 1 rfl) ?_
        refine lv_aload_n hx hb dX9_takeSinger_112 rfl (lv_at hl 1 rfl) ?_
        refine h_geti hf hx hb hts hown hX hw flX9_117 rfl dX9_takeSinger_113 (fun x17 hf => ?_)
        refine h_puti hf hx hb hts hown hX hw flX9_106 ⟨rfl, rfl⟩ dX9_takeSinger_116 (fun u18 H18 L18 hf hw => ?_)
        refine lv_aload_n hx hb dX9_takeSinger_119 rfl (lv_at hl 1 rfl) ?_
        refine lv_aload_n hx hb dX9_takeSinger_120 rfl (lv_at hl 1 rfl) ?_
        refine h_getr hf hx hb hts hown hX hw flX9_48 rfl dX9_takeSinger_121 (fun a19 hf => ?_)
        refine lv_iload_n hx hb dX9_takeSinger_124 rfl (lv_at hl 0 rfl) ?_
        refine lv_iconst (v := 1) hx hb dX9_takeSinger_125 (by decide) ?_
        refine lv_iadd hx hb dX9_takeSinger_126 ?_
        refine lv_iconst (v := 0) hx hb dX9_takeSinger_127 (by decide) ?_
        refine lv_bipush (v := 99) hx hb dX9_takeSinger_128 (by decide) ?_
        refine h_cVi (As := [.ref (B + a19), .int (x11 + (1 : Int32)), .int (0 : Int32), .int (99 : Int32)]) (rest := []) hf hx hb hml hts hown hX hw myX9_into miX9_into lkX9_167 ⟨rfl, by decide⟩ (fun q hq => c_X9_into l E B T a0 a19 (x11 + (1 : Int32)) (0 : Int32) (99 : Int32) u18 hq) ⟨Nat.le_of_ble_eq_true rfl, Nat.le_of_ble_eq_true rfl⟩ ⟨Nat.le_refl _, Nat.le_refl _⟩ rfl hl.1 rfl (Nat.le_of_ble_eq_true rfl) dX9_takeSinger_130 (fun q20 H20 L20 hf hw => ?_)
        refine lv_istore_n (lv' := [(2, .int q20.1), (1, .int x11), (0, .ref (B + a0))]) hx hb dX9_takeSinger_133 rfl hl (by decide) rfl (fun ls hl => ?_)
        refine lv_iload_n hx hb dX9_takeSinger_134 rfl (lv_at hl 0 rfl) ?_
        obtain ⟨J156, eJ156, hf⟩ := h_lt hf
        have hJ156 : ∀ (x21 : Int32) (u22 : hM) (H22 : Heap) (L22 : List Loc) (ls : Array Slot), J156 x21 u22 = some z → h_W E B T s.heap u22 H22 L22 → lv_has ls 3 [(0, .ref (B + a0)), (1, .int x11)] → W p l e (h_rm 3) s m args below meth c H22 L22 0 0 (h_Qi below E B T args s z) (F0 m 156 ls [.int x21]) := by
          intro x21 u22 H22 L22 ls hf hw hl
          rw [eJ156] at hf
          refine lv_istore_n (lv' := [(2, .int x21), (0, .ref (B + a0)), (1, .int x11)]) hx hb dX9_takeSinger_156 rfl hl (by decide) rfl (fun ls hl => ?_)
          refine lv_iload_n hx hb dX9_takeSinger_157 rfl (lv_at hl 0 rfl) ?_
          obtain ⟨J179, eJ179, hf⟩ := h_lt hf
          have hJ179 : ∀ (x23 : Int32) (u24 : hM) (H24 : Heap) (L24 : List Loc) (ls : Array Slot), J179 x23 u24 = some z → h_W E B T s.heap u24 H24 L24 → lv_has ls 3 [(0, .ref (B + a0)), (1, .int x11)] → W p l e (h_rm 3) s m args below meth c H24 L24 0 0 (h_Qi below E B T args s z) (F0 m 179 ls [.int x23]) := by
            intro x23 u24 H24 L24 ls hf hw hl
            rw [eJ179] at hf
            refine lv_istore_n (lv' := [(2, .int x23), (0, .ref (B + a0)), (1, .int x11)]) hx hb dX9_takeSinger_179 rfl hl (by decide) rfl (fun ls hl => ?_)
            refine lv_iload_n hx hb dX9_takeSinger_180 rfl (lv_at hl 0 rfl) ?_
            obtain ⟨J202, eJ202, hf⟩ := h_lt hf
            have hJ202 : ∀ (x25 : Int32) (u26 : hM) (H26 : Heap) (L26 : List Loc) (ls : Array Slot), J202 x25 u26 = some z → h_W E B T s.heap u26 H26 L26 → lv_has ls 3 [(0, .ref (B + a0)), (1, .int x11)] → W p l e (h_rm 3) s m args below meth c H26 L26 0 0 (h_Qi below E B T args s z) (F0 m 202 ls [.int x25]) := by
              intro x25 u26 H26 L26 ls hf hw hl
              rw [eJ202] at hf
              refine lv_istore_n (lv' := [(2, .int x25), (0, .ref (B + a0)), (1, .int x11)]) hx hb dX9_takeSinger_202 rfl hl (by decide) rfl (fun ls hl => ?_)
              refine lv_iload_n hx hb dX9_takeSinger_203 rfl (lv_at hl 0 rfl) ?_
              obtain ⟨J225, eJ225, hf⟩ := h_lt hf
              have hJ225 : ∀ (x27 : Int32) (u28 : hM) (H28 : Heap) (L28 : List Loc) (ls : Array Slot), J225 x27 u28 = some z → h_W E B T s.heap u28 H28 L28 → lv_has ls 3 [(0, .ref (B + a0)), (1, .int x11)] → W p l e (h_rm 3) s m args below meth c H28 L28 0 0 (h_Qi below E B T args s z) (F0 m 225 ls [.int x27]) := by
                intro x27 u28 H28 L28 ls hf hw hl
                rw [eJ225] at hf
                refine lv_istore_n (lv' := [(2, .int x27), (0, .ref (B + a0)), (1, .int x11)]) hx hb dX9_takeSinger_225 rfl hl (by decide) rfl (fun ls hl => ?_)
                refine lv_iload_n hx hb dX9_takeSinger_226 rfl (lv_at hl 0 rfl) ?_
                obtain ⟨J249, eJ249, hf⟩ := h_lt hf
                have hJ249 : ∀ (x29 : Int32) (u30 : hM) (H30 : Heap) (L30 : List Loc) (ls : Array Slot), J249 x29 u30 = some z → h_W E B T s.heap u30 H30 L30 → lv_has ls 3 [(0, .ref (B + a0)), (1, .int x11)] → W p l e (h_rm 3) s m args below meth c H30 L30 0 0 (h_Qi below E B T args s z) (F0 m 249 ls [.int x29]) := by
                  intro x29 u30 H30 L30 ls hf hw hl
                  rw [eJ249] at hf
                  refine lv_istore_n (lv' := [(2, .int x29), (0, .ref (B + a0)), (1, .int x11)]) hx hb dX9_takeSinger_249 rfl hl (by decide) rfl (fun ls hl => ?_)
                  refine lv_iload_n hx hb dX9_takeSinger_250 rfl (lv_at hl 0 rfl) ?_
                  obtain ⟨J282, eJ282, hf⟩ := h_lt hf
                  have hJ282 : ∀ (x31 : Int32) (u32 : hM) (H32 : Heap) (L32 : List Loc) (ls : Array Slot), J282 x31 u32 = some z → h_W E B T s.heap u32 H32 L32 → lv_has ls 3 [(0, .ref (B + a0)), (1, .int x11)] → W p l e (h_rm 3) s m args below meth c H32 L32 0 0 (h_Qi below E B T args s z) (F0 m 282 ls [.int x31]) := by
                    intro x31 u32 H32 L32 ls hf hw hl
                    rw [eJ282] at hf
                    refine lv_istore_n (lv' := [(2, .int x31), (0, .ref (B + a0)), (1, .int x11)]) hx hb dX9_takeSinger_282 rfl hl (by decide) rfl (fun ls hl => ?_)
                    refine lv_iload_n hx hb dX9_takeSinger_283 rfl (lv_at hl 0 rfl) ?_
                    obtain ⟨J306, eJ306, hf⟩ := h_lt hf
                    have hJ306 : ∀ (x33 : Int32) (u34 : hM) (H34 : Heap) (L34 : List Loc) (ls : Array Slot), J306 x33 u34 = some z → h_W E B T s.heap u34 H34 L34 → lv_has ls 3 [(0, .ref (B + a0)), (1, .int x11)] → W p l e (h_rm 3) s m args below meth c H34 L34 0 0 (h_Qi below E B T args s z) (F0 m 306 ls [.int x33]) := by
                      intro x33 u34 H34 L34 ls hf hw hl
                      rw [eJ306] at hf
                      refine lv_istore_n (lv' := [(2, .int x33), (0, .ref (B + a0)), (1, .int x11)]) hx hb dX9_takeSinger_306 rfl hl (by decide) rfl (fun ls hl => ?_)
                      refine lv_aload_n hx hb dX9_takeSinger_307 rfl (lv_at hl 1 rfl) ?_
                      refine h_getr hf hx hb hts hown hX hw flX9_48 rfl dX9_takeSinger_308 (fun a35 hf => ?_)
                      refine lv_iload_n hx hb dX9_takeSinger_311 rfl (lv_at hl 2 rfl) ?_
                      refine lv_iconst (v := 2) hx hb dX9_takeSinger_312 (by decide) ?_
                      refine lv_iadd hx hb dX9_takeSinger_313 ?_
                      refine lv_dup2_11 hx hb dX9_takeSinger_314 rfl rfl ?_
                      refine h_iald hf hx hb hX hw dX9_takeSinger_315 (fun x36 hf => ?_)
                      refine lv_bipush (v := 50) hx hb dX9_takeSinger_316 (by decide) ?_
                      refine lv_isub hx hb dX9_takeSinger_318 ?_
                      refine h_iast hf hx hb hX hw dX9_takeSinger_319 (fun u37 H37 L37 hf hw => ?_)
                      refine lv_aload_n hx hb dX9_takeSinger_320 rfl (lv_at hl 1 rfl) ?_
                      refine h_getr hf hx hb hts hown hX hw flX9_48 rfl dX9_takeSinger_321 (fun a38 hf => ?_)
                      refine lv_iload_n hx hb dX9_takeSinger_324 rfl (lv_at hl 2 rfl) ?_
                      refine lv_bipush (v := 7) hx hb dX9_takeSinger_325 (by decide) ?_
                      refine lv_iadd hx hb dX9_takeSinger_327 ?_
                      refine lv_dup2_11 hx hb dX9_takeSinger_328 rfl rfl ?_
                      refine h_iald hf hx hb hX hw dX9_takeSinger_329 (fun x39 hf => ?_)
                      refine lv_bipush (v := 20) hx hb dX9_takeSinger_330 (by decide) ?_
                      refine lv_isub hx hb dX9_takeSinger_332 ?_
                      refine h_iast hf hx hb hX hw dX9_takeSinger_333 (fun u40 H40 L40 hf hw => ?_)
                      refine lv_aload_n hx hb dX9_takeSinger_334 rfl (lv_at hl 1 rfl) ?_
                      refine lv_dup hx hb dX9_takeSinger_335 rfl ?_
                      refine h_geti hf hx hb hts hown hX hw flX9_160 rfl dX9_takeSinger_336 (fun x41 hf => ?_)
                      refine lv_iconst (v := 1) hx hb dX9_takeSinger_339 (by decide) ?_
                      refine lv_iadd hx hb dX9_takeSinger_340 ?_
                      refine h_puti hf hx hb hts hown hX hw flX9_160 ⟨rfl, rfl⟩ dX9_takeSinger_341 (fun u42 H42 L42 hf hw => ?_)
                      refine lv_iload_n hx hb dX9_takeSinger_344 rfl (lv_at hl 0 rfl) ?_
                      refine lv_if_le (tgt := 352) hx hb dX9_takeSinger_345 (by decide) (fun hc => ?_) (fun hc => ?_)
                      · have hf := ifp hc hf
                        refine lv_aload_n hx hb dX9_takeSinger_352 rfl (lv_at hl 1 rfl) ?_
                        refine h_cVi (As := []) (rest := []) hf hx hb hml hts hown hX hw myX9_takeStop miX9_takeStop lkX9_171 ⟨rfl, by decide⟩ (fun q hq => c_X9_takeStop l E B T a0 u42 hq) ⟨Nat.le_of_ble_eq_true rfl, Nat.le_of_ble_eq_true rfl⟩ ⟨Nat.le_refl _, Nat.le_refl _⟩ rfl hl.1 rfl (Nat.le_of_ble_eq_true rfl) dX9_takeSinger_353 (fun q43 H43 L43 hf hw => ?_)
                        exact h_iret hf hx hb hr hlk hw dX9_takeSinger_356
                      · have hf := ifn hc hf
                        refine lv_iload_n hx hb dX9_takeSinger_348 rfl (lv_at hl 0 rfl) ?_
                        refine lv_goto (tgt := 356) hx hb dX9_takeSinger_349 (by decide) ?_
                        exact h_iret hf hx hb hr hlk hw dX9_takeSinger_356
                    clear eJ306
                    refine lv_if_le (tgt := 291) hx hb dX9_takeSinger_284 (by decide) (fun hc => ?_) (fun hc => ?_)
                    · have hf := ifp hc hf
                      refine lv_aload_n hx hb dX9_takeSinger_291 rfl (lv_at hl 1 rfl) ?_
                      refine lv_aload_n hx hb dX9_takeSinger_292 rfl (lv_at hl 1 rfl) ?_
                      refine h_getr hf hx hb hts hown hX hw flX9_48 rfl dX9_takeSinger_293 (fun a44 hf => ?_)
                      refine lv_iload_n hx hb dX9_takeSinger_296 rfl (lv_at hl 2 rfl) ?_
                      refine lv_bipush (v := 7) hx hb dX9_takeSinger_297 (by decide) ?_
                      refine lv_iadd hx hb dX9_takeSinger_299 ?_
                      refine lv_iconst (v := 0) hx hb dX9_takeSinger_300 (by decide) ?_
                      refine lv_bipush (v := 40) hx hb dX9_takeSinger_301 (by decide) ?_
                      refine h_cVi (As := [.ref (B + a44), .int (x11 + (7 : Int32)), .int (0 : Int32), .int (40 : Int32)]) (rest := []) hf hx hb hml hts hown hX hw myX9_into miX9_into lkX9_167 ⟨rfl, by decide⟩ (fun q hq => c_X9_into l E B T a0 a44 (x11 + (7 : Int32)) (0 : Int32) (40 : Int32) u32 hq) ⟨Nat.le_of_ble_eq_true rfl, Nat.le_of_ble_eq_true rfl⟩ ⟨Nat.le_refl _, Nat.le_refl _⟩ rfl hl.1 rfl (Nat.le_of_ble_eq_true rfl) dX9_takeSinger_303 (fun q45 H45 L45 hf hw => ?_)
                      exact hJ306 q45.1 q45.2 _ _ _ hf hw (lv_sub hl [1, 2] rfl)
                    · have hf := ifn hc hf
                      refine lv_iload_n hx hb dX9_takeSinger_287 rfl (lv_at hl 0 rfl) ?_
                      refine lv_goto (tgt := 306) hx hb dX9_takeSinger_288 (by decide) ?_
                      exact hJ306 x31 u32 _ _ _ hf hw (lv_sub hl [1, 2] rfl)
                  clear eJ282
                  obtain ⟨J281, eJ281, hf⟩ := h_lt hf
                  have hJ281 : ∀ (u46 : hM) (H46 : Heap) (L46 : List Loc) (ls : Array Slot), J281  u46 = some z → h_W E B T s.heap u46 H46 L46 → lv_has ls 3 [(0, .ref (B + a0)), (1, .int x11), (2, .int x29)] → W p l e (h_rm 3) s m args below meth c H46 L46 0 0 (h_Qi below E B T args s z) (F0 m 281 ls []) := by
                    intro  u46 H46 L46 ls hf hw hl
                    rw [eJ281] at hf
                    refine lv_iload_n hx hb dX9_takeSinger_281 rfl (lv_at hl 2 rfl) ?_
                    exact hJ282 x29 u46 _ _ _ hf hw (lv_sub hl [0, 1] rfl)
                  clear eJ281
                  refine lv_if_ne (tgt := 281) hx hb dX9_takeSinger_251 (by decide) (fun hc => ?_) (fun hc => ?_)
                  · have hf := ifn hc hf
                    exact hJ281  u30 _ _ _ hf hw (lv_sub hl [1, 2, 0] rfl)
                  · have hf := ifp hc hf
                    refine lv_aload_n hx hb dX9_takeSinger_254 rfl (lv_at hl 1 rfl) ?_
                    refine h_geti hf hx hb hts hown hX hw flX9_143 rfl dX9_takeSinger_255 (fun x47 hf => ?_)
                    refine lv_aload_n hx hb dX9_takeSinger_258 rfl (lv_at hl 1 rfl) ?_
                    refine h_getr hf hx hb hts hown hX hw flX9_48 rfl dX9_takeSinger_259 (fun a48 hf => ?_)
                    refine lv_iload_n hx hb dX9_takeSinger_262 rfl (lv_at hl 2 rfl) ?_
                    refine lv_iconst (v := 5) hx hb dX9_takeSinger_263 (by decide) ?_
                    refine lv_iadd hx hb dX9_takeSinger_264 ?_
                    refine h_iald hf hx hb hX hw dX9_takeSinger_265 (fun x49 hf => ?_)
                    refine lv_icmp_ge (tgt := 281) hx hb dX9_takeSinger_266 (by decide) (fun hc => ?_) (fun hc => ?_)
                    · have hf := ifp hc hf
                      exact hJ281  u30 _ _ _ hf hw (lv_sub hl [1, 2, 0] rfl)
                    · have hf := ifn hc hf
                      refine lv_aload_n hx hb dX9_takeSinger_269 rfl (lv_at hl 1 rfl) ?_
                      refine lv_iconst (v := 4) hx hb dX9_takeSinger_270 (by decide) ?_
                      refine lv_aload_n hx hb dX9_takeSinger_271 rfl (lv_at hl 1 rfl) ?_
                      refine h_geti hf hx hb hts hown hX hw flX9_140 rfl dX9_takeSinger_272 (fun x50 hf => ?_)
                      refine h_cVi (As := [.int (4 : Int32), .int x50]) (rest := []) hf hx hb hml hts hown hX hw myX9_fails miX9_fails lkX9_136 ⟨rfl, by decide⟩ (fun q hq => c_X9_fails l E B T a0 (4 : Int32) x50 u30 hq) ⟨Nat.le_of_ble_eq_true rfl, Nat.le_of_ble_eq_true rfl⟩ ⟨Nat.le_refl _, Nat.le_refl _⟩ rfl hl.1 rfl (Nat.le_of_ble_eq_true rfl) dX9_takeSinger_275 (fun q51 H51 L51 hf hw => ?_)
                      refine lv_goto (tgt := 282) hx hb dX9_takeSinger_278 (by decide) ?_
                      exact hJ282 q51.1 q51.2 _ _ _ hf hw (lv_sub hl [1, 2] rfl)
                clear eJ249
                refine lv_if_le (tgt := 234) hx hb dX9_takeSinger_227 (by decide) (fun hc => ?_) (fun hc => ?_)
                · have hf := ifp hc hf
                  refine lv_aload_n hx hb dX9_takeSinger_234 rfl (lv_at hl 1 rfl) ?_
                  refine lv_aload_n hx hb dX9_takeSinger_235 rfl (lv_at hl 1 rfl) ?_
                  refine h_getr hf hx hb hts hown hX hw flX9_48 rfl dX9_takeSinger_236 (fun a52 hf => ?_)
                  refine lv_iload_n hx hb dX9_takeSinger_239 rfl (lv_at hl 2 rfl) ?_
                  refine lv_bipush (v := 6) hx hb dX9_takeSinger_240 (by decide) ?_
                  refine lv_iadd hx hb dX9_takeSinger_242 ?_
                  refine lv_iconst (v := 0) hx hb dX9_takeSinger_243 (by decide) ?_
                  refine lv_bipush (v := 36) hx hb dX9_takeSinger_244 (by decide) ?_
                  refine h_cVi (As := [.ref (B + a52), .int (x11 + (6 : Int32)), .int (0 : Int32), .int (36 : Int32)]) (rest := []) hf hx hb hml hts hown hX hw myX9_into miX9_into lkX9_167 ⟨rfl, by decide⟩ (fun q hq => c_X9_into l E B T a0 a52 (x11 + (6 : Int32)) (0 : Int32) (36 : Int32) u28 hq) ⟨Nat.le_of_ble_eq_true rfl, Nat.le_of_ble_eq_true rfl⟩ ⟨Nat.le_refl _, Nat.le_refl _⟩ rfl hl.1 rfl (Nat.le_of_ble_eq_true rfl) dX9_takeSinger_246 (fun q53 H53 L53 hf hw => ?_)
                  exact hJ249 q53.1 q53.2 _ _ _ hf hw (lv_sub hl [1, 2] rfl)
                · have hf := ifn hc hf
                  refine lv_iload_n hx hb dX9_takeSinger_230 rfl (lv_at hl 0 rfl) ?_
                  refine lv_goto (tgt := 249) hx hb dX9_takeSinger_231 (by decide) ?_
                  exact hJ249 x27 u28 _ _ _ hf hw (lv_sub hl [1, 2] rfl)
              clear eJ225
              refine lv_if_le (tgt := 211) hx hb dX9_takeSinger_204 (by decide) (fun hc => ?_) (fun hc => ?_)
              · have hf := ifp hc hf
                refine lv_aload_n hx hb dX9_takeSinger_211 rfl (lv_at hl 1 rfl) ?_
                refine lv_aload_n hx hb dX9_takeSinger_212 rfl (lv_at hl 1 rfl) ?_
                refine h_getr hf hx hb hts hown hX hw flX9_48 rfl dX9_takeSinger_213 (fun a54 hf => ?_)
                refine lv_iload_n hx hb dX9_takeSinger_216 rfl (lv_at hl 2 rfl) ?_
                refine lv_iconst (v := 5) hx hb dX9_takeSinger_217 (by decide) ?_
                refine lv_iadd hx hb dX9_takeSinger_218 ?_
                refine lv_iconst (v := 0) hx hb dX9_takeSinger_219 (by decide) ?_
                refine lv_bipush (v := 36) hx hb dX9_takeSinger_220 (by decide) ?_
                refine h_cVi (As := [.ref (B + a54), .int (x11 + (5 : Int32)), .int (0 : Int32), .int (36 : Int32)]) (rest := []) hf hx hb hml hts hown hX hw myX9_into miX9_into lkX9_167 ⟨rfl, by decide⟩ (fun q hq => c_X9_into l E B T a0 a54 (x11 + (5 : Int32)) (0 : Int32) (36 : Int32) u26 hq) ⟨Nat.le_of_ble_eq_true rfl, Nat.le_of_ble_eq_true rfl⟩ ⟨Nat.le_refl _, Nat.le_refl _⟩ rfl hl.1 rfl (Nat.le_of_ble_eq_true rfl) dX9_takeSinger_222 (fun q55 H55 L55 hf hw => ?_)
                exact hJ225 q55.1 q55.2 _ _ _ hf hw (lv_sub hl [1, 2] rfl)
              · have hf := ifn hc hf
                refine lv_iload_n hx hb dX9_takeSinger_207 rfl (lv_at hl 0 rfl) ?_
                refine lv_goto (tgt := 225) hx hb dX9_takeSinger_208 (by decide) ?_
                exact hJ225 x25 u26 _ _ _ hf hw (lv_sub hl [1, 2] rfl)
            clear eJ202
            refine lv_if_le (tgt := 188) hx hb dX9_takeSinger_181 (by decide) (fun hc => ?_) (fun hc => ?_)
            · have hf := ifp hc hf
              refine lv_aload_n hx hb dX9_takeSinger_188 rfl (lv_at hl 1 rfl) ?_
              refine lv_aload_n hx hb dX9_takeSinger_189 rfl (lv_at hl 1 rfl) ?_
              refine h_getr hf hx hb hts hown hX hw flX9_48 rfl dX9_takeSinger_190 (fun a56 hf => ?_)
              refine lv_iload_n hx hb dX9_takeSinger_193 rfl (lv_at hl 2 rfl) ?_
              refine lv_iconst (v := 4) hx hb dX9_takeSinger_194 (by decide) ?_
              refine lv_iadd hx hb dX9_takeSinger_195 ?_
              refine lv_iconst (v := 1) hx hb dX9_takeSinger_196 (by decide) ?_
              refine lv_bipush (v := 40) hx hb dX9_takeSinger_197 (by decide) ?_
              refine h_cVi (As := [.ref (B + a56), .int (x11 + (4 : Int32)), .int (1 : Int32), .int (40 : Int32)]) (rest := []) hf hx hb hml hts hown hX hw myX9_into miX9_into lkX9_167 ⟨rfl, by decide⟩ (fun q hq => c_X9_into l E B T a0 a56 (x11 + (4 : Int32)) (1 : Int32) (40 : Int32) u24 hq) ⟨Nat.le_of_ble_eq_true rfl, Nat.le_of_ble_eq_true rfl⟩ ⟨Nat.le_refl _, Nat.le_refl _⟩ rfl hl.1 rfl (Nat.le_of_ble_eq_true rfl) dX9_takeSinger_199 (fun q57 H57 L57 hf hw => ?_)
              exact hJ202 q57.1 q57.2 _ _ _ hf hw (lv_sub hl [1, 2] rfl)
            · have hf := ifn hc hf
              refine lv_iload_n hx hb dX9_takeSinger_184 rfl (lv_at hl 0 rfl) ?_
              refine lv_goto (tgt := 202) hx hb dX9_takeSinger_185 (by decide) ?_
              exact hJ202 x23 u24 _ _ _ hf hw (lv_sub hl [1, 2] rfl)
          clear eJ179
          refine lv_if_le (tgt := 165) hx hb dX9_takeSinger_158 (by decide) (fun hc => ?_) (fun hc => ?_)
          · have hf := ifp hc hf
            refine lv_aload_n hx hb dX9_takeSinger_165 rfl (lv_at hl 1 rfl) ?_
            refine lv_aload_n hx hb dX9_takeSinger_166 rfl (lv_at hl 1 rfl) ?_
            refine h_getr hf hx hb hts hown hX hw flX9_48 rfl dX9_takeSinger_167 (fun a58 hf => ?_)
            refine lv_iload_n hx hb dX9_takeSinger_170 rfl (lv_at hl 2 rfl) ?_
            refine lv_iconst (v := 3) hx hb dX9_takeSinger_171 (by decide) ?_
            refine lv_iadd hx hb dX9_takeSinger_172 ?_
            refine lv_iconst (v := 0) hx hb dX9_takeSinger_173 (by decide) ?_
            refine lv_bipush (v := 99) hx hb dX9_takeSinger_174 (by decide) ?_
            refine h_cVi (As := [.ref (B + a58), .int (x11 + (3 : Int32)), .int (0 : Int32), .int (99 : Int32)]) (rest := []) hf hx hb hml hts hown hX hw myX9_into miX9_into lkX9_167 ⟨rfl, by decide⟩ (fun q hq => c_X9_into l E B T a0 a58 (x11 + (3 : Int32)) (0 : Int32) (99 : Int32) u22 hq) ⟨Nat.le_of_ble_eq_true rfl, Nat.le_of_ble_eq_true rfl⟩ ⟨Nat.le_refl _, Nat.le_refl _⟩ rfl hl.1 rfl (Nat.le_of_ble_eq_true rfl) dX9_takeSinger_176 (fun q59 H59 L59 hf hw => ?_)
            exact hJ179 q59.1 q59.2 _ _ _ hf hw (lv_sub hl [1, 2] rfl)
          · have hf := ifn hc hf
            refine lv_iload_n hx hb dX9_takeSinger_161 rfl (lv_at hl 0 rfl) ?_
            refine lv_goto (tgt := 179) hx hb dX9_takeSinger_162 (by decide) ?_
            exact hJ179 x21 u22 _ _ _ hf hw (lv_sub hl [1, 2] rfl)
        clear eJ156
        refine lv_if_le (tgt := 142) hx hb dX9_takeSinger_135 (by decide) (fun hc => ?_) (fun hc => ?_)
        · have hf := ifp hc hf
          refine lv_aload_n hx hb dX9_takeSinger_142 rfl (lv_at hl 2 rfl) ?_
          refine lv_aload_n hx hb dX9_takeSinger_143 rfl (lv_at hl 2 rfl) ?_
          refine h_getr hf hx hb hts hown hX hw flX9_48 rfl dX9_takeSinger_144 (fun a60 hf => ?_)
          refine lv_iload_n hx hb dX9_takeSinger_147 rfl (lv_at hl 1 rfl) ?_
          refine lv_iconst (v := 2) hx hb dX9_takeSinger_148 (by decide) ?_
          refine lv_iadd hx hb dX9_takeSinger_149 ?_
          refine lv_iconst (v := 0) hx hb dX9_takeSinger_150 (by decide) ?_
          refine lv_bipush (v := 99) hx hb dX9_takeSinger_151 (by decide) ?_
          refine h_cVi (As := [.ref (B + a60), .int (x11 + (2 : Int32)), .int (0 : Int32), .int (99 : Int32)]) (rest := []) hf hx hb hml hts hown hX hw myX9_into miX9_into lkX9_167 ⟨rfl, by decide⟩ (fun q hq => c_X9_into l E B T a0 a60 (x11 + (2 : Int32)) (0 : Int32) (99 : Int32) q20.2 hq) ⟨Nat.le_of_ble_eq_true rfl, Nat.le_of_ble_eq_true rfl⟩ ⟨Nat.le_refl _, Nat.le_refl _⟩ rfl hl.1 rfl (Nat.le_of_ble_eq_true rfl) dX9_takeSinger_153 (fun q61 H61 L61 hf hw => ?_)
          exact hJ156 q61.1 q61.2 _ _ _ hf hw (lv_sub hl [2, 1] rfl)
        · have hf := ifn hc hf
          refine lv_iload_n hx hb dX9_takeSinger_138 rfl (lv_at hl 0 rfl) ?_
          refine lv_goto (tgt := 156) hx hb dX9_takeSinger_139 (by decide) ?_
          exact hJ156 q20.1 q20.2 _ _ _ hf hw (lv_sub hl [2, 1] rfl)
      · have hf := ifn hc hf
        refine lv_aload_n hx hb dX9_takeSinger_101 rfl (lv_at hl 1 rfl) ?_
        refine lv_iconst (v := 1) hx hb dX9_takeSinger_102 (by decide) ?_
        refine lv_aload_n hx hb dX9_takeSinger_103 rfl (lv_at hl 1 rfl) ?_
        refine h_geti hf hx hb hts hown hX hw flX9_106 rfl dX9_takeSinger_104 (fun x62 hf => ?_)
        refine h_cVi (As := [.int (1 : Int32), .int x62]) (rest := []) hf hx hb hml hts hown hX hw myX9_fails miX9_fails lkX9_136 ⟨rfl, by decide⟩ (fun q hq => c_X9_fails l E B T a0 (1 : Int32) x62 u14 hq) ⟨Nat.le_of_ble_eq_true rfl, Nat.le_of_ble_eq_true rfl⟩ ⟨Nat.le_refl _, Nat.le_refl _⟩ rfl hl.1 rfl (Nat.le_of_ble_eq_true rfl) dX9_takeSinger_107 (fun q63 H63 L63 hf hw => ?_)
        exact h_iret hf hx hb hr hlk hw dX9_takeSinger_110
    · have hf := ifp hc hf
      refine lv_aload_n hx hb dX9_takeSinger_52 rfl (lv_at hl 0 rfl) ?_
      refine lv_iconst (v := 3) hx hb dX9_takeSinger_53 (by decide) ?_
      refine lv_aload_n hx hb dX9_takeSinger_54 rfl (lv_at hl 0 rfl) ?_
      refine h_geti hf hx hb hts hown hX hw flX9_106 rfl dX9_takeSinger_55 (fun x64 hf => ?_)
      refine h_cVi (As := [.int (3 : Int32), .int x64]) (rest := []) hf hx hb hml hts hown hX hw myX9_fails miX9_fails lkX9_136 ⟨rfl, by decide⟩ (fun q hq => c_X9_fails l E B T a0 (3 : Int32) x64 q5.2 hq) ⟨Nat.le_of_ble_eq_true rfl, Nat.le_of_ble_eq_true rfl⟩ ⟨Nat.le_refl _, Nat.le_refl _⟩ rfl hl.1 rfl (Nat.le_of_ble_eq_true rfl) dX9_takeSinger_58 (fun q65 H65 L65 hf hw => ?_)
      exact h_iret hf hx hb hr hlk hw dX9_takeSinger_61
  · have hc := (not_congr (lg_cmp_eq _ _)).mp hc
    have hf := ifn hc hf
    refine lv_aload_n hx hb dX9_takeSinger_33 rfl (lv_at hl 0 rfl) ?_
    refine lv_iconst (v := 1) hx hb dX9_takeSinger_34 (by decide) ?_
    refine lv_aload_n hx hb dX9_takeSinger_35 rfl (lv_at hl 0 rfl) ?_
    refine h_geti hf hx hb hts hown hX hw flX9_106 rfl dX9_takeSinger_36 (fun x66 hf => ?_)
    refine h_cVi (As := [.int (1 : Int32), .int x66]) (rest := []) hf hx hb hml hts hown hX hw myX9_fails miX9_fails lkX9_136 ⟨rfl, by decide⟩ (fun q hq => c_X9_fails l E B T a0 (1 : Int32) x66 q5.2 hq) ⟨Nat.le_of_ble_eq_true rfl, Nat.le_of_ble_eq_true rfl⟩ ⟨Nat.le_refl _, Nat.le_refl _⟩ rfl hl.1 rfl (Nat.le_of_ble_eq_true rfl) dX9_takeSinger_39 (fun q67 H67 L67 hf hw => ?_)
    exact h_iret hf hx hb hr hlk hw dX9_takeSinger_42
theorem c_X9_takeSinger (l : Launch) (E : hE) (B : Nat) (T : hT) (a0 : Nat) (u0 : hM) {z : Int32 × hM} (hf : fX9_takeSinger T a0 u0 = some z) : h_Ct l E B T yX9_takeSinger cX9_takeSinger 3 (some .int) 3 [.ref (B + a0)] u0 z.2 (some (.int z.1)) := h_ofW (by decide) (Nat.le_of_ble_eq_true rfl) (fun p e s m below meth c ls hΓ hl hw => wX9_takeSinger hΓ hf hw hl)
def fX9_singers_L17 (T : hT) (c0 : Nat) (ex : Int32 → hM → Option (Int32 × hM)) : Nat → Int32 → hM → Option (Int32 × hM)
  | 0, _, _ => none
  | n + 1, v1, u0 => if v1 = 0 then ((vc T c0 9 (fX9_here T c0 u0)).bind fun q4 => if q4.1 < 0 then (ex v1 q4.2) else ((vc T c0 9 (fX9_takeSinger T c0 q4.2)).bind fun q5 => fX9_singers_L17 T c0 ex n q5.1 q5.2)) else (ex v1 u0)
def fX9_singers_L60 (T : hT) (c0 : Nat) (ex : hM → Option (Int32 × hM)) : Nat → Int32 → hM → Option (Int32 × hM)
  | 0, _, _ => none
  | n + 1, v2, u0 => if (96 : Int32) ≤ v2 then (ex u0) else ((gtr T u0 c0 9 4).bind fun a11 => (gtr T u0 c0 9 24).bind fun a12 => (ald 11 T u0 a12 v2).bind fun x13 => (asti T u0 a11 v2 x13).bind fun u14 => lt (v2 + (1 : Int32)) fun x15 => fX9_singers_L60 T c0 ex n x15 u14)
def fX9_singers (T : hT) (a0 : Nat) (u0 : hM) : Option (Int32 × hM) := (pti T u0 a0 9 14 (-1 : Int32)).bind fun u1 => (pti T u1 a0 9 15 (0 : Int32)).bind fun u2 => (pti T u2 a0 9 20 (0 : Int32)).bind fun u3 => fX9_singers_L17 T a0 (fun (x6 : Int32) (u7 : hM) => (pti T u7 a0 9 13 (0 : Int32)).bind fun u8 => if x6 ≤ 0 then ((gti T u8 a0 9 20).bind fun x9 => (pti T u8 a0 9 3 x9).bind fun u10 => fX9_singers_L60 T a0 (fun (u16 : hM) => (vc T a0 9 (fX9_endSong T a0 u16)).bind fun q17 => (gti T q17 a0 9 3).bind fun x18 => some (x18, q17)) 6000 (0 : Int32) u10) else (some (((-10 : Int32) - x6), u8))) 6000 (0 : Int32) u3
set_option maxRecDepth 100000 in
set_option maxHeartbeats 4000000 in
theorem wfX9_singers_L17 {c0 : Nat} {ex : Int32 → hM → Option (Int32 × hM)} {z : Int32 × hM} (hΓ : h_Γ E B T p s m args meth c cX9_singers 3 (some .int) RX9) (hex : ∀ (y1 : Int32) (u9 : hM) (H9 : Heap) (L9 : List Loc) (ls : Array Slot), ex y1 u9 = some z → h_W E B T s.heap u9 H9 L9 → lv_has ls 3 [(0, .ref (B + c0)), (1, .int y1)] → W p l e (h_rm 4) s m args below meth c H9 L9 0 0 (h_Qi below E B T args s z) (F0 m 36 ls [])) : ∀ (n : Nat) (v1 : Int32) (u0 : hM) (H0 : Heap) (L0 : List Loc) (ls : Array Slot), fX9_singers_L17 T c0 ex n v1 u0 = some z → h_W E B T s.heap u0 H0 L0 → lv_has ls 3 [(0, .ref (B + c0)), (1, .int v1)] → W p l e (h_rm 4) s m args below meth c H0 L0 0 0 (h_Qi below E B T args s z) (F0 m 17 ls []) := by
  obtain ⟨hx, hb, hr, hml, hts, hown, hlk, hX⟩ := id hΓ
  intro n
  induction n with
  | zero =>
    intro v1 u0 H0 L0 ls hf hw hl
    exact absurd (show (none : Option (Int32 × hM)) = some z from hf) (fun h => by cases h)
  | succ n ih =>
    intro v1 u0 H0 L0 ls hf hw hl
    rw [fX9_singers_L17] at hf
    refine lv_iload_n hx hb dX9_singers_17 rfl (lv_at hl 1 rfl) ?_
    refine lv_if_ne (tgt := 36) hx hb dX9_singers_18 (by decide) (fun hc => ?_) (fun hc => ?_)
    · have hf := ifn hc hf
      exact hex v1 u0 _ _ _ hf hw (lv_sub hl [0, 1] rfl)
    · have hf := ifp hc hf
      refine lv_aload_n hx hb dX9_singers_21 rfl (lv_at hl 0 rfl) ?_
      refine h_cVi (As := []) (rest := []) hf hx hb hml hts hown hX hw myX9_here miX9_here lkX9_109 ⟨rfl, by decide⟩ (fun q hq => c_X9_here l E B T c0 u0 hq) ⟨Nat.le_of_ble_eq_true rfl, Nat.le_of_ble_eq_true rfl⟩ ⟨Nat.le_refl _, Nat.le_refl _⟩ rfl hl.1 rfl (Nat.le_of_ble_eq_true rfl) dX9_singers_22 (fun q4 H4 L4 hf hw => ?_)
      refine lv_if_lt (tgt := 36) hx hb dX9_singers_25 (by decide) (fun hc => ?_) (fun hc => ?_)
      · have hf := ifp hc hf
        exact hex v1 q4.2 _ _ _ hf hw (lv_sub hl [0, 1] rfl)
      · have hf := ifn hc hf
        refine lv_aload_n hx hb dX9_singers_28 rfl (lv_at hl 0 rfl) ?_
        refine h_cVi (As := []) (rest := []) hf hx hb hml hts hown hX hw myX9_takeSinger miX9_takeSinger lkX9_190 ⟨rfl, by decide⟩ (fun q hq => c_X9_takeSinger l E B T c0 q4.2 hq) ⟨Nat.le_of_ble_eq_true rfl, Nat.le_of_ble_eq_true rfl⟩ ⟨Nat.le_refl _, Nat.le_refl _⟩ rfl hl.1 rfl (Nat.le_of_ble_eq_true rfl) dX9_singers_29 (fun q5 H5 L5 hf hw => ?_)
        refine lv_istore_n (lv' := [(1, .int q5.1), (0, .ref (B + c0))]) hx hb dX9_singers_32 rfl hl (by decide) rfl (fun ls hl => ?_)
        refine lv_goto (tgt := 17) hx hb dX9_singers_33 (by decide) ?_
        exact ih q5.1 q5.2 _ _ _ hf hw (lv_sub hl [1, 0] rfl)
set_option maxRecDepth 100000 in
set_option maxHeartbeats 4000000 in
theorem wfX9_singers_L60 {c0 : Nat} {ex : hM → Option (Int32 × hM)} {z : Int32 × hM} (hΓ : h_Γ E B T p s m args meth c cX9_singers 3 (some .int) RX9) (hex : ∀ (u9 : hM) (H9 : Heap) (L9 : List Loc) (ls : Array Slot), ex u9 = some z → h_W E B T s.heap u9 H9 L9 → lv_has ls 3 [(0, .ref (B + c0))] → W p l e (h_rm 4) s m args below meth c H9 L9 0 0 (h_Qi below E B T args s z) (F0 m 84 ls [])) : ∀ (n : Nat) (v2 : Int32) (u0 : hM) (H0 : Heap) (L0 : List Loc) (ls : Array Slot), fX9_singers_L60 T c0 ex n v2 u0 = some z → h_W E B T s.heap u0 H0 L0 → lv_has ls 3 [(0, .ref (B + c0)), (2, .int v2)] → W p l e (h_rm 4) s m args below meth c H0 L0 0 0 (h_Qi below E B T args s z) (F0 m 60 ls []) := by
  obtain ⟨hx, hb, hr, hml, hts, hown, hlk, hX⟩ := id hΓ
  intro n
  induction n with
  | zero =>
    intro v2 u0 H0 L0 ls hf hw hl
    exact absurd (show (none : Option (Int32 × hM)) = some z from hf) (fun h => by cases h)
  | succ n ih =>
    intro v2 u0 H0 L0 ls hf hw hl
    rw [fX9_singers_L60] at hf
    refine lv_iload_n hx hb dX9_singers_60 rfl (lv_at hl 1 rfl) ?_
    refine lv_bipush (v := 96) hx hb dX9_singers_61 (by decide) ?_
    refine lv_icmp_ge (tgt := 84) hx hb dX9_singers_63 (by decide) (fun hc => ?_) (fun hc => ?_)
    · have hf := ifp hc hf
      exact hex  u0 _ _ _ hf hw (lv_sub hl [0] rfl)
    · have hf := ifn hc hf
      refine lv_aload_n hx hb dX9_singers_66 rfl (lv_at hl 0 rfl) ?_
      refine h_getr hf hx hb hts hown hX hw flX9_17 rfl dX9_singers_67 (fun a11 hf => ?_)
      refine lv_iload_n hx hb dX9_singers_70 rfl (lv_at hl 1 rfl) ?_
      refine lv_aload_n hx hb dX9_singers_71 rfl (lv_at hl 0 rfl) ?_
      refine h_getr hf hx hb hts hown hX hw flX9_48 rfl dX9_singers_72 (fun a12 hf => ?_)
      refine lv_iload_n hx hb dX9_singers_75 rfl (lv_at hl 1 rfl) ?_
      refine h_iald hf hx hb hX hw dX9_singers_76 (fun x13 hf => ?_)
      refine h_iast hf hx hb hX hw dX9_singers_77 (fun u14 H14 L14 hf hw => ?_)
      refine h_iinc (k := 1) hf hx hb dX9_singers_78 hl rfl (by decide) (by decide) (fun x15 ls hf hl => ?_)
      have hl : lv_has ls 3 [(2, .int x15), (0, .ref (B + c0))] := hl
      refine lv_goto (tgt := 60) hx hb dX9_singers_81 (by decide) ?_
      exact ih x15 u14 _ _ _ hf hw (lv_sub hl [1, 0] rfl)
set_option maxRecDepth 100000 in
set_option maxHeartbeats 4000000 in
theorem wX9_singers {a0 : Nat} {u0 : hM} {z : Int32 × hM} {ls : Array Slot} (hΓ : h_Γ E B T p s m args meth c cX9_singers 3 (some .int) RX9) (hf : fX9_singers T a0 u0 = some z) (hw : h_W E B T s.heap u0 s.heap []) (hl : lv_has ls 3 [(0, .ref (B + a0))]) : W p l e (h_rm 4) s m args below meth c s.heap [] 0 0 (h_Qi below E B T args s z) (F0 m 0 ls []) := by
  obtain ⟨hx, hb, hr, hml, hts, hown, hlk, hX⟩ := id hΓ
  unfold fX9_singers at hf
  refine lv_aload_n hx hb dX9_singers_0 rfl (lv_at hl 0 rfl) ?_
  refine lv_iconst (v := -1) hx hb dX9_singers_1 (by decide) ?_
  refine h_puti hf hx hb hts hown hX hw flX9_39 ⟨rfl, rfl⟩ dX9_singers_2 (fun u1 H1 L1 hf hw => ?_)
  refine lv_aload_n hx hb dX9_singers_5 rfl (lv_at hl 0 rfl) ?_
  refine lv_iconst (v := 0) hx hb dX9_singers_6 (by decide) ?_
  refine h_puti hf hx hb hts hown hX hw flX9_106 ⟨rfl, rfl⟩ dX9_singers_7 (fun u2 H2 L2 hf hw => ?_)
  refine lv_aload_n hx hb dX9_singers_10 rfl (lv_at hl 0 rfl) ?_
  refine lv_iconst (v := 0) hx hb dX9_singers_11 (by decide) ?_
  refine h_puti hf hx hb hts hown hX hw flX9_160 ⟨rfl, rfl⟩ dX9_singers_12 (fun u3 H3 L3 hf hw => ?_)
  refine lv_iconst (v := 0) hx hb dX9_singers_15 (by decide) ?_
  refine lv_istore_n (lv' := [(1, .int (0 : Int32)), (0, .ref (B + a0))]) hx hb dX9_singers_16 rfl hl (by decide) rfl (fun ls hl => ?_)
  refine wfX9_singers_L17 hΓ ?_ 6000 (0 : Int32) u3 _ _ _ hf hw (lv_sub hl [1, 0] rfl)
  intro x6 u7 H7 L7 ls hf hw hl
  refine lv_aload_n hx hb dX9_singers_36 rfl (lv_at hl 0 rfl) ?_
  refine lv_iconst (v := 0) hx hb dX9_singers_37 (by decide) ?_
  refine h_puti hf hx hb hts hown hX hw flX9_100 ⟨rfl, rfl⟩ dX9_singers_38 (fun u8 H8 L8 hf hw => ?_)
  refine lv_iload_n hx hb dX9_singers_41 rfl (lv_at hl 1 rfl) ?_
  refine lv_if_le (tgt := 50) hx hb dX9_singers_42 (by decide) (fun hc => ?_) (fun hc => ?_)
  · have hf := ifp hc hf
    refine lv_aload_n hx hb dX9_singers_50 rfl (lv_at hl 0 rfl) ?_
    refine lv_aload_n hx hb dX9_singers_51 rfl (lv_at hl 0 rfl) ?_
    refine h_geti hf hx hb hts hown hX hw flX9_160 rfl dX9_singers_52 (fun x9 hf => ?_)
    refine h_puti hf hx hb hts hown hX hw flX9_87 ⟨rfl, rfl⟩ dX9_singers_55 (fun u10 H10 L10 hf hw => ?_)
    refine lv_iconst (v := 0) hx hb dX9_singers_58 (by decide) ?_
    refine lv_istore_n (lv' := [(2, .int (0 : Int32)), (0, .ref (B + a0)), (1, .int x6)]) hx hb dX9_singers_59 rfl hl (by decide) rfl (fun ls hl => ?_)
    refine wfX9_singers_L60 hΓ ?_ 6000 (0 : Int32) u10 _ _ _ hf hw (lv_sub hl [1, 0] rfl)
    intro u16 H16 L16 ls hf hw hl
    refine lv_aload_n hx hb dX9_singers_84 rfl (lv_at hl 0 rfl) ?_
    refine h_cVv (As := []) (rest := []) hf hx hb hml hts hown hX hw myX9_endSong miX9_endSong lkX9_181 ⟨rfl, by decide⟩ (fun q hq => c_X9_endSong l E B T a0 u16 hq) ⟨Nat.le_of_ble_eq_true rfl, Nat.le_of_ble_eq_true rfl⟩ ⟨Nat.le_refl _, Nat.le_refl _⟩ rfl hl.1 rfl (Nat.le_of_ble_eq_true rfl) dX9_singers_85 (fun q17 H17 L17 hf hw => ?_)
    refine lv_aload_n hx hb dX9_singers_88 rfl (lv_at hl 0 rfl) ?_
    refine h_geti hf hx hb hts hown hX hw flX9_87 rfl dX9_singers_89 (fun x18 hf => ?_)
    exact h_iret hf hx hb hr hlk hw dX9_singers_92
  · have hf := ifn hc hf
    refine lv_bipush (v := -10) hx hb dX9_singers_45 (by decide) ?_
    refine lv_iload_n hx hb dX9_singers_47 rfl (lv_at hl 1 rfl) ?_
    refine lv_isub hx hb dX9_singers_48 ?_
    exact h_iret hf hx hb hr hlk hw dX9_singers_49
theorem c_X9_singers (l : Launch) (E : hE) (B : Nat) (T : hT) (a0 : Nat) (u0 : hM) {z : Int32 × hM} (hf : fX9_singers T a0 u0 = some z) : h_Ct l E B T yX9_singers cX9_singers 3 (some .int) 4 [.ref (B + a0)] u0 z.2 (some (.int z.1)) := h_ofW (by decide) (Nat.le_of_ble_eq_true rfl) (fun p e s m below meth c ls hΓ hl hw => wX9_singers hΓ hf hw hl)
def fX9_has (T : hT) (p0 : Int32) (p1 : Int32) (u0 : hM) : Option (Int32 × hM) := if ((p0 >>> (p1 &&& 31)) &&& (1 : Int32)) = (1 : Int32) then (rtz (1 : Int32) u0) else (rtz (0 : Int32) u0)
set_option maxRecDepth 100000 in
set_option maxHeartbeats 4000000 in
theorem wX9_has {p0 : Int32} {p1 : Int32} {u0 : hM} {z : Int32 × hM} {ls : Array Slot} (hΓ : h_Γ E B T p s m args meth c cX9_has 2 (some .boolean) RX9) (hf : fX9_has T p0 p1 u0 = some z) (hw : h_W E B T s.heap u0 s.heap []) (hl : lv_has ls 2 [(0, .int p0), (1, .int p1)]) : W p l e (h_rm 0) s m args below meth c s.heap [] 0 0 (h_Qi below E B T args s z) (F0 m 0 ls []) := by
  obtain ⟨hx, hb, hr, hml, hts, hown, hlk, hX⟩ := id hΓ
  unfold fX9_has at hf
  refine lv_iload_n hx hb dX9_has_0 rfl (lv_at hl 0 rfl) ?_
  refine lv_iload_n hx hb dX9_has_1 rfl (lv_at hl 1 rfl) ?_
  refine lv_ishr hx hb dX9_has_2 ?_
  refine lv_iconst (v := 1) hx hb dX9_has_3 (by decide) ?_
  refine lv_iand hx hb dX9_has_4 ?_
  refine lv_iconst (v := 1) hx hb dX9_has_5 (by decide) ?_
  refine lv_icmp_ne (tgt := 13) hx hb dX9_has_6 (by decide) (fun hc => ?_) (fun hc => ?_)
  · have hf := ifn hc hf
    refine lv_iconst (v := 0) hx hb dX9_has_13 (by decide) ?_
    exact h_zret hf hx hb hr hlk hw dX9_has_14
  · have hf := ifp hc hf
    refine lv_iconst (v := 1) hx hb dX9_has_9 (by decide) ?_
    refine lv_goto (tgt := 14) hx hb dX9_has_10 (by decide) ?_
    exact h_zret hf hx hb hr hlk hw dX9_has_14
theorem c_X9_has (l : Launch) (E : hE) (B : Nat) (T : hT) (p0 : Int32) (p1 : Int32) (u0 : hM) {z : Int32 × hM} (hf : fX9_has T p0 p1 u0 = some z) : h_Ct l E B T yX9_has cX9_has 2 (some .boolean) 0 [.int p0, .int p1] u0 z.2 (some (.int z.1)) := h_ofW (by decide) (Nat.le_of_ble_eq_true rfl) (fun p e s m below meth c ls hΓ hl hw => wX9_has hΓ hf hw hl)
def fX9_takePart (T : hT) (a0 : Nat) (p1 : Int32) (u0 : hM) : Option (Int32 × hM) := (vc T a0 9 (fX9_readWord T a0 u0)).bind fun q1 => (gtl T q1 a0 9 16).bind fun x2 => lt (fun (x3 : Int32) (u4 : hM) => if 0 ≤ x3 then ((gtr T u4 a0 9 25).bind fun a5 => (ald 11 T u4 a5 (p1 + (3 : Int32))).bind fun x6 => (fX9_has T x6 x3 u4).bind fun q7 => if q7.1 = 0 then ((gti T q7.2 a0 9 17).bind fun x8 => (pti T q7.2 a0 9 15 x8).bind fun u9 => (gtr T u9 a0 9 25).bind fun a10 => (ald 11 T u9 a10 (p1 + (3 : Int32))).bind fun x11 => (asti T u9 a10 (p1 + (3 : Int32)) (x11 ||| ((1 : Int32) <<< (x3 &&& 31)))).bind fun u12 => some ((0 : Int32), u12)) else ((gti T q7.2 a0 9 15).bind fun x13 => (vc T a0 9 (fX9_fails T a0 (4 : Int32) x13 q7.2)).bind fun q14 => some (q14.1, q14.2))) else ((gti T u4 a0 9 15).bind fun x15 => (vc T a0 9 (fX9_fails T a0 (1 : Int32) x15 u4)).bind fun q16 => some (q16.1, q16.2))) fun J109 => if x2 = (3690 : Int64) then (J109 (0 : Int32) q1) else ((gtl T q1 a0 9 16).bind fun x17 => (fX9_code T (118 : Int32) (111 : Int32) (105 : Int32) (99 : Int32) q1).bind fun q18 => (fX9_longer T q18.1 (101 : Int32) q18.2).bind fun q19 => if x17 = q19.1 then (J109 (1 : Int32) q19.2) else ((gtl T q19.2 a0 9 16).bind fun x20 => (fX9_code T (109 : Int32) (101 : Int32) (109 : Int32) (111 : Int32) q19.2).bind fun q21 => (fX9_longer T q21.1 (114 : Int32) q21.2).bind fun q22 => (fX9_longer T q22.1 (121 : Int32) q22.2).bind fun q23 => if x20 = q23.1 then (J109 (2 : Int32) q23.2) else ((gtl T q23.2 a0 9 16).bind fun x24 => (fX9_code T (114 : Int32) (97 : Int32) (110 : Int32) (103 : Int32) q23.2).bind fun q25 => (fX9_longer T q25.1 (101 : Int32) q25.2).bind fun q26 => if x24 = q26.1 then (J109 (3 : Int32) q26.2) else (J109 (-1 : Int32) q26.2))))
set_option maxRecDepth 100000 in
set_option maxHeartbeats 4000000 in
theorem wX9_takePart {a0 : Nat} {p1 : Int32} {u0 : hM} {z : Int32 × hM} {ls : Array Slot} (hΓ : h_Γ E B T p s m args meth c cX9_takePart 3 (some .int) RX9) (hf : fX9_takePart T a0 p1 u0 = some z) (hw : h_W E B T s.heap u0 s.heap []) (hl : lv_has ls 3 [(0, .ref (B + a0)), (1, .int p1)]) : W p l e (h_rm 2) s m args below meth c s.heap [] 0 0 (h_Qi below E B T args s z) (F0 m 0 ls []) := by
  obtain ⟨hx, hb, hr, hml, hts, hown, hlk, hX⟩ := id hΓ
  unfold fX9_takePart at hf
  refine lv_aload_n hx hb dX9_takePart_0 rfl (lv_at hl 0 rfl) ?_
  refine h_cVv (As := []) (rest := []) hf hx hb hml hts hown hX hw myX9_readWord miX9_readWord lkX9_149 ⟨rfl, by decide⟩ (fun q hq => c_X9_readWord l E B T a0 u0 hq) ⟨Nat.le_of_ble_eq_true rfl, Nat.le_of_ble_eq_true rfl⟩ ⟨Nat.le_refl _, Nat.le_refl _⟩ rfl hl.1 rfl (Nat.le_of_ble_eq_true rfl) dX9_takePart_1 (fun q1 H1 L1 hf hw => ?_)
  refine lv_aload_n hx hb dX9_takePart_4 rfl (lv_at hl 0 rfl) ?_
  refine h_getl hf hx hb hts hown hX hw flX9_113 rfl dX9_takePart_5 (fun x2 hf => ?_)
  refine lv_ldc2 hx hb hown (hts _ klX9_193) dX9_takePart_8 ?_
  refine W.lcmp hx hb dX9_takePart_11 ?_
  obtain ⟨J109, eJ109, hf⟩ := h_lt hf
  have hJ109 : ∀ (x3 : Int32) (u4 : hM) (H4 : Heap) (L4 : List Loc) (ls : Array Slot), J109 x3 u4 = some z → h_W E B T s.heap u4 H4 L4 → lv_has ls 3 [(0, .ref (B + a0)), (1, .int p1)] → W p l e (h_rm 2) s m args below meth c H4 L4 0 0 (h_Qi below E B T args s z) (F0 m 109 ls [.int x3]) := by
    intro x3 u4 H4 L4 ls hf hw hl
    rw [eJ109] at hf
    refine lv_istore_n (lv' := [(2, .int x3), (0, .ref (B + a0)), (1, .int p1)]) hx hb dX9_takePart_109 rfl hl (by decide) rfl (fun ls hl => ?_)
    refine lv_iload_n hx hb dX9_takePart_110 rfl (lv_at hl 0 rfl) ?_
    refine lv_if_ge (tgt := 124) hx hb dX9_takePart_111 (by decide) (fun hc => ?_) (fun hc => ?_)
    · have hf := ifp hc hf
      refine lv_aload_n hx hb dX9_takePart_124 rfl (lv_at hl 1 rfl) ?_
      refine h_getr hf hx hb hts hown hX hw flX9_51 rfl dX9_takePart_125 (fun a5 hf => ?_)
      refine lv_iload_n hx hb dX9_takePart_128 rfl (lv_at hl 2 rfl) ?_
      refine lv_iconst (v := 3) hx hb dX9_takePart_129 (by decide) ?_
      refine lv_iadd hx hb dX9_takePart_130 ?_
      refine h_iald hf hx hb hX hw dX9_takePart_131 (fun x6 hf => ?_)
      refine lv_iload_n hx hb dX9_takePart_132 rfl (lv_at hl 0 rfl) ?_
      refine h_cSi (As := [.int x6, .int x3]) (rest := []) hf hx hb hml hts hown hX hw myX9_has msX9_has lkX9_195 (fun q hq => c_X9_has l E B T x6 x3 u4 hq) ⟨Nat.le_of_ble_eq_true rfl, Nat.le_of_ble_eq_true rfl⟩ ⟨Nat.le_refl _, Nat.le_refl _⟩ rfl hl.1 rfl (Nat.le_of_ble_eq_true rfl) dX9_takePart_133 (fun q7 H7 L7 hf hw => ?_)
      refine lv_if_eq (tgt := 149) hx hb dX9_takePart_136 (by decide) (fun hc => ?_) (fun hc => ?_)
      · have hf := ifp hc hf
        refine lv_aload_n hx hb dX9_takePart_149 rfl (lv_at hl 1 rfl) ?_
        refine lv_aload_n hx hb dX9_takePart_150 rfl (lv_at hl 1 rfl) ?_
        refine h_geti hf hx hb hts hown hX hw flX9_117 rfl dX9_takePart_151 (fun x8 hf => ?_)
        refine h_puti hf hx hb hts hown hX hw flX9_106 ⟨rfl, rfl⟩ dX9_takePart_154 (fun u9 H9 L9 hf hw => ?_)
        refine lv_aload_n hx hb dX9_takePart_157 rfl (lv_at hl 1 rfl) ?_
        refine h_getr hf hx hb hts hown hX hw flX9_51 rfl dX9_takePart_158 (fun a10 hf => ?_)
        refine lv_iload_n hx hb dX9_takePart_161 rfl (lv_at hl 2 rfl) ?_
        refine lv_iconst (v := 3) hx hb dX9_takePart_162 (by decide) ?_
        refine lv_iadd hx hb dX9_takePart_163 ?_
        refine lv_dup2_11 hx hb dX9_takePart_164 rfl rfl ?_
        refine h_iald hf hx hb hX hw dX9_takePart_165 (fun x11 hf => ?_)
        refine lv_iconst (v := 1) hx hb dX9_takePart_166 (by decide) ?_
        refine lv_iload_n hx hb dX9_takePart_167 rfl (lv_at hl 0 rfl) ?_
        refine lv_ishl hx hb dX9_takePart_168 ?_
        refine lv_ior hx hb dX9_takePart_169 ?_
        refine h_iast hf hx hb hX hw dX9_takePart_170 (fun u12 H12 L12 hf hw => ?_)
        refine lv_iconst (v := 0) hx hb dX9_takePart_171 (by decide) ?_
        exact h_iret hf hx hb hr hlk hw dX9_takePart_172
      · have hf := ifn hc hf
        refine lv_aload_n hx hb dX9_takePart_139 rfl (lv_at hl 1 rfl) ?_
        refine lv_iconst (v := 4) hx hb dX9_takePart_140 (by decide) ?_
        refine lv_aload_n hx hb dX9_takePart_141 rfl (lv_at hl 1 rfl) ?_
        refine h_geti hf hx hb hts hown hX hw flX9_106 rfl dX9_takePart_142 (fun x13 hf => ?_)
        refine h_cVi (As := [.int (4 : Int32), .int x13]) (rest := []) hf hx hb hml hts hown hX hw myX9_fails miX9_fails lkX9_136 ⟨rfl, by decide⟩ (fun q hq => c_X9_fails l E B T a0 (4 : Int32) x13 q7.2 hq) ⟨Nat.le_of_ble_eq_true rfl, Nat.le_of_ble_eq_true rfl⟩ ⟨Nat.le_refl _, Nat.le_refl _⟩ rfl hl.1 rfl (Nat.le_of_ble_eq_true rfl) dX9_takePart_145 (fun q14 H14 L14 hf hw => ?_)
        exact h_iret hf hx hb hr hlk hw dX9_takePart_148
    · have hf := ifn hc hf
      refine lv_aload_n hx hb dX9_takePart_114 rfl (lv_at hl 1 rfl) ?_
      refine lv_iconst (v := 1) hx hb dX9_takePart_115 (by decide) ?_
      refine lv_aload_n hx hb dX9_takePart_116 rfl (lv_at hl 1 rfl) ?_
      refine h_geti hf hx hb hts hown hX hw flX9_106 rfl dX9_takePart_117 (fun x15 hf => ?_)
      refine h_cVi (As := [.int (1 : Int32), .int x15]) (rest := []) hf hx hb hml hts hown hX hw myX9_fails miX9_fails lkX9_136 ⟨rfl, by decide⟩ (fun q hq => c_X9_fails l E B T a0 (1 : Int32) x15 u4 hq) ⟨Nat.le_of_ble_eq_true rfl, Nat.le_of_ble_eq_true rfl⟩ ⟨Nat.le_refl _, Nat.le_refl _⟩ rfl hl.1 rfl (Nat.le_of_ble_eq_true rfl) dX9_takePart_120 (fun q16 H16 L16 hf hw => ?_)
      exact h_iret hf hx hb hr hlk hw dX9_takePart_123
  clear eJ109
  refine lv_if_ne (tgt := 19) hx hb dX9_takePart_12 (by decide) (fun hc => ?_) (fun hc => ?_)
  · have hc := (not_congr (lg_cmp_eq _ _)).mp hc
    have hf := ifn hc hf
    refine lv_aload_n hx hb dX9_takePart_19 rfl (lv_at hl 0 rfl) ?_
    refine h_getl hf hx hb hts hown hX hw flX9_113 rfl dX9_takePart_20 (fun x17 hf => ?_)
    refine lv_bipush (v := 118) hx hb dX9_takePart_23 (by decide) ?_
    refine lv_bipush (v := 111) hx hb dX9_takePart_25 (by decide) ?_
    refine lv_bipush (v := 105) hx hb dX9_takePart_27 (by decide) ?_
    refine lv_bipush (v := 99) hx hb dX9_takePart_29 (by decide) ?_
    refine h_cSl (As := [.int (118 : Int32), .int (111 : Int32), .int (105 : Int32), .int (99 : Int32)]) (rest := [.long x17]) hf hx hb hml hts hown hX hw myX9_code msX9_code lkX9_152 (fun q hq => c_X9_code l E B T (118 : Int32) (111 : Int32) (105 : Int32) (99 : Int32) q1 hq) ⟨Nat.le_of_ble_eq_true rfl, Nat.le_of_ble_eq_true rfl⟩ ⟨Nat.le_refl _, Nat.le_refl _⟩ rfl hl.1 rfl (Nat.le_of_ble_eq_true rfl) dX9_takePart_31 (fun q18 H18 L18 hf hw => ?_)
    refine lv_bipush (v := 101) hx hb dX9_takePart_34 (by decide) ?_
    refine h_cSl (As := [.long q18.1, .int (101 : Int32)]) (rest := [.long x17]) hf hx hb hml hts hown hX hw myX9_longer msX9_longer lkX9_156 (fun q hq => c_X9_longer l E B T q18.1 (101 : Int32) q18.2 hq) ⟨Nat.le_of_ble_eq_true rfl, Nat.le_of_ble_eq_true rfl⟩ ⟨Nat.le_refl _, Nat.le_refl _⟩ rfl hl.1 rfl (Nat.le_of_ble_eq_true rfl) dX9_takePart_36 (fun q19 H19 L19 hf hw => ?_)
    refine W.lcmp hx hb dX9_takePart_39 ?_
    refine lv_if_ne (tgt := 47) hx hb dX9_takePart_40 (by decide) (fun hc => ?_) (fun hc => ?_)
    · have hc := (not_congr (lg_cmp_eq _ _)).mp hc
      have hf := ifn hc hf
      refine lv_aload_n hx hb dX9_takePart_47 rfl (lv_at hl 0 rfl) ?_
      refine h_getl hf hx hb hts hown hX hw flX9_113 rfl dX9_takePart_48 (fun x20 hf => ?_)
      refine lv_bipush (v := 109) hx hb dX9_takePart_51 (by decide) ?_
      refine lv_bipush (v := 101) hx hb dX9_takePart_53 (by decide) ?_
      refine lv_bipush (v := 109) hx hb dX9_takePart_55 (by decide) ?_
      refine lv_bipush (v := 111) hx hb dX9_takePart_57 (by decide) ?_
      refine h_cSl (As := [.int (109 : Int32), .int (101 : Int32), .int (109 : Int32), .int (111 : Int32)]) (rest := [.long x20]) hf hx hb hml hts hown hX hw myX9_code msX9_code lkX9_152 (fun q hq => c_X9_code l E B T (109 : Int32) (101 : Int32) (109 : Int32) (111 : Int32) q19.2 hq) ⟨Nat.le_of_ble_eq_true rfl, Nat.le_of_ble_eq_true rfl⟩ ⟨Nat.le_refl _, Nat.le_refl _⟩ rfl hl.1 rfl (Nat.le_of_ble_eq_true rfl) dX9_takePart_59 (fun q21 H21 L21 hf hw => ?_)
      refine lv_bipush (v := 114) hx hb dX9_takePart_62 (by decide) ?_
      refine h_cSl (As := [.long q21.1, .int (114 : Int32)]) (rest := [.long x20]) hf hx hb hml hts hown hX hw myX9_longer msX9_longer lkX9_156 (fun q hq => c_X9_longer l E B T q21.1 (114 : Int32) q21.2 hq) ⟨Nat.le_of_ble_eq_true rfl, Nat.le_of_ble_eq_true rfl⟩ ⟨Nat.le_refl _, Nat.le_refl _⟩ rfl hl.1 rfl (Nat.le_of_ble_eq_true rfl) dX9_takePart_64 (fun q22 H22 L22 hf hw => ?_)
      refine lv_bipush (v := 121) hx hb dX9_takePart_67 (by decide) ?_
      refine h_cSl (As := [.long q22.1, .int (121 : Int32)]) (rest := [.long x20]) hf hx hb hml hts hown hX hw myX9_longer msX9_longer lkX9_156 (fun q hq => c_X9_longer l E B T q22.1 (121 : Int32) q22.2 hq) ⟨Nat.le_of_ble_eq_true rfl, Nat.le_of_ble_eq_true rfl⟩ ⟨Nat.le_refl _, Nat.le_refl _⟩ rfl hl.1 rfl (Nat.le_of_ble_eq_true rfl) dX9_takePart_69 (fun q23 H23 L23 hf hw => ?_)
      refine W.lcmp hx hb dX9_takePart_72 ?_
      refine lv_if_ne (tgt := 80) hx hb dX9_takePart_73 (by decide) (fun hc => ?_) (fun hc => ?_)
      · have hc := (not_congr (lg_cmp_eq _ _)).mp hc
        have hf := ifn hc hf
        refine lv_aload_n hx hb dX9_takePart_80 rfl (lv_at hl 0 rfl) ?_
        refine h_getl hf hx hb hts hown hX hw flX9_113 rfl dX9_takePart_81 (fun x24 hf => ?_)
        refine lv_bipush (v := 114) hx hb dX9_takePart_84 (by decide) ?_
        refine lv_bipush (v := 97) hx hb dX9_takePart_86 (by decide) ?_
        refine lv_bipush (v := 110) hx hb dX9_takePart_88 (by decide) ?_
        refine lv_bipush (v := 103) hx hb dX9_takePart_90 (by decide) ?_
        refine h_cSl (As := [.int (114 : Int32), .int (97 : Int32), .int (110 : Int32), .int (103 : Int32)]) (rest := [.long x24]) hf hx hb hml hts hown hX hw myX9_code msX9_code lkX9_152 (fun q hq => c_X9_code l E B T (114 : Int32) (97 : Int32) (110 : Int32) (103 : Int32) q23.2 hq) ⟨Nat.le_of_ble_eq_true rfl, Nat.le_of_ble_eq_true rfl⟩ ⟨Nat.le_refl _, Nat.le_refl _⟩ rfl hl.1 rfl (Nat.le_of_ble_eq_true rfl) dX9_takePart_92 (fun q25 H25 L25 hf hw => ?_)
        refine lv_bipush (v := 101) hx hb dX9_takePart_95 (by decide) ?_
        refine h_cSl (As := [.long q25.1, .int (101 : Int32)]) (rest := [.long x24]) hf hx hb hml hts hown hX hw myX9_longer msX9_longer lkX9_156 (fun q hq => c_X9_longer l E B T q25.1 (101 : Int32) q25.2 hq) ⟨Nat.le_of_ble_eq_true rfl, Nat.le_of_ble_eq_true rfl⟩ ⟨Nat.le_refl _, Nat.le_refl _⟩ rfl hl.1 rfl (Nat.le_of_ble_eq_true rfl) dX9_takePart_97 (fun q26 H26 L26 hf hw => ?_)
        refine W.lcmp hx hb dX9_takePart_100 ?_
        refine lv_if_ne (tgt := 108) hx hb dX9_takePart_101 (by decide) (fun hc => ?_) (fun hc => ?_)
        · have hc := (not_congr (lg_cmp_eq _ _)).mp hc
          have hf := ifn hc hf
          refine lv_iconst (v := -1) hx hb dX9_takePart_108 (by decide) ?_
          exact hJ109 (-1 : Int32) q26.2 _ _ _ hf hw (lv_sub hl [0, 1] rfl)
        · have hc := (lg_cmp_eq _ _).mp hc
          have hf := ifp hc hf
          refine lv_iconst (v := 3) hx hb dX9_takePart_104 (by decide) ?_
          refine lv_goto (tgt := 109) hx hb dX9_takePart_105 (by decide) ?_
          exact hJ109 (3 : Int32) q26.2 _ _ _ hf hw (lv_sub hl [0, 1] rfl)
      · have hc := (lg_cmp_eq _ _).mp hc
        have hf := ifp hc hf
        refine lv_iconst (v := 2) hx hb dX9_takePart_76 (by decide) ?_
        refine lv_goto (tgt := 109) hx hb dX9_takePart_77 (by decide) ?_
        exact hJ109 (2 : Int32) q23.2 _ _ _ hf hw (lv_sub hl [0, 1] rfl)
    · have hc := (lg_cmp_eq _ _).mp hc
      have hf := ifp hc hf
      refine lv_iconst (v := 1) hx hb dX9_takePart_43 (by decide) ?_
      refine lv_goto (tgt := 109) hx hb dX9_takePart_44 (by decide) ?_
      exact hJ109 (1 : Int32) q19.2 _ _ _ hf hw (lv_sub hl [0, 1] rfl)
  · have hc := (lg_cmp_eq _ _).mp hc
    have hf := ifp hc hf
    refine lv_iconst (v := 0) hx hb dX9_takePart_15 (by decide) ?_
    refine lv_goto (tgt := 109) hx hb dX9_takePart_16 (by decide) ?_
    exact hJ109 (0 : Int32) q1 _ _ _ hf hw (lv_sub hl [0, 1] rfl)
theorem c_X9_takePart (l : Launch) (E : hE) (B : Nat) (T : hT) (a0 : Nat) (p1 : Int32) (u0 : hM) {z : Int32 × hM} (hf : fX9_takePart T a0 p1 u0 = some z) : h_Ct l E B T yX9_takePart cX9_takePart 3 (some .int) 2 [.ref (B + a0), .int p1] u0 z.2 (some (.int z.1)) := h_ofW (by decide) (Nat.le_of_ble_eq_true rfl) (fun p e s m below meth c ls hΓ hl hw => wX9_takePart hΓ hf hw hl)
def fX9_takeTask_L156 (T : hT) (c0 : Nat) (c1 : Int32) (ex : hM → Option (Int32 × hM)) : Nat → Int32 → hM → Option (Int32 × hM)
  | 0, _, _ => none
  | n + 1, v3, u0 => if v3 = 0 then (ex u0) else ((vc T c0 9 (fX9_takePart T c0 c1 u0)).bind fun q19 => if q19.1 ≤ 0 then ((vc T c0 9 (fX9_here T c0 q19.2)).bind fun q20 => lt (if q20.1 = (44 : Int32) then (1 : Int32) else (0 : Int32)) fun x21 => (gti T q20.2 c0 9 15).bind fun x22 => lt (if x21 = 0 then (0 : Int32) else (1 : Int32)) fun x23 => (pti T q20.2 c0 9 15 (x22 + x23)).bind fun u24 => fX9_takeTask_L156 T c0 c1 ex n x21 u24) else (some (q19.1, q19.2)))
def fX9_takeTask (T : hT) (a0 : Nat) (u0 : hM) : Option (Int32 × hM) := (vc T a0 9 (fX9_readWord T a0 u0)).bind fun q1 => (gtl T q1 a0 9 16).bind fun x2 => (fX9_code T (116 : Int32) (97 : Int32) (115 : Int32) (107 : Int32) q1).bind fun q3 => if x2 = q3.1 then ((gti T q3.2 a0 9 20).bind fun x4 => if x4 = (6 : Int32) then ((gti T q3.2 a0 9 15).bind fun x33 => (vc T a0 9 (fX9_fails T a0 (3 : Int32) x33 q3.2)).bind fun q34 => some (q34.1, q34.2)) else ((gti T q3.2 a0 9 17).bind fun x5 => (pti T q3.2 a0 9 15 x5).bind fun u6 => (gti T u6 a0 9 20).bind fun x7 => lt (((4 : Int32) * x7)) fun x8 => (gtr T u6 a0 9 25).bind fun a9 => (asti T u6 a9 (x8 + (3 : Int32)) (0 : Int32)).bind fun u10 => (gtr T u10 a0 9 25).bind fun a11 => (vc T a0 9 (fX9_into T a0 a11 x8 (1 : Int32) (30 : Int32) u10)).bind fun q12 => lt (fun (x13 : Int32) (u14 : hM) => lt (fun (x15 : Int32) (u16 : hM) => if x15 ≤ 0 then ((vc T a0 9 (fX9_here T a0 u16)).bind fun q17 => lt (if q17.1 = (59 : Int32) then (0 : Int32) else (1 : Int32)) fun x18 => fX9_takeTask_L156 T a0 x8 (fun (u25 : hM) => (gti T u25 a0 9 20).bind fun x26 => (pti T u25 a0 9 20 (x26 + (1 : Int32))).bind fun u27 => (vc T a0 9 (fX9_takeStop T a0 u27)).bind fun q28 => some (q28.1, q28.2)) 6000 x18 q17.2) else (some (x15, u16))) fun J134 => if x13 ≤ 0 then ((gtr T u14 a0 9 25).bind fun a29 => (vc T a0 9 (fX9_into T a0 a29 (x8 + (2 : Int32)) (0 : Int32) (49 : Int32) u14)).bind fun q30 => J134 q30.1 q30.2) else (J134 x13 u14)) fun J111 => if q12.1 ≤ 0 then ((gtr T q12.2 a0 9 25).bind fun a31 => (vc T a0 9 (fX9_into T a0 a31 (x8 + (1 : Int32)) (0 : Int32) (49 : Int32) q12.2)).bind fun q32 => J111 q32.1 q32.2) else (J111 q12.1 q12.2))) else ((gti T q3.2 a0 9 15).bind fun x35 => (vc T a0 9 (fX9_fails T a0 (1 : Int32) x35 q3.2)).bind fun q36 => some (q36.1, q36.2))
set_option maxRecDepth 100000 in
set_option maxHeartbeats 4000000 in
theorem wfX9_takeTask_L156 {c0 : Nat} {c1 : Int32} {ex : hM → Option (Int32 × hM)} {z : Int32 × hM} (hΓ : h_Γ E B T p s m args meth c cX9_takeTask 4 (some .int) RX9) (hex : ∀ (u9 : hM) (H9 : Heap) (L9 : List Loc) (ls : Array Slot), ex u9 = some z → h_W E B T s.heap u9 H9 L9 → lv_has ls 4 [(0, .ref (B + c0))] → W p l e (h_rm 3) s m args below meth c H9 L9 0 0 (h_Qi below E B T args s z) (F0 m 208 ls [])) : ∀ (n : Nat) (v3 : Int32) (u0 : hM) (H0 : Heap) (L0 : List Loc) (ls : Array Slot), fX9_takeTask_L156 T c0 c1 ex n v3 u0 = some z → h_W E B T s.heap u0 H0 L0 → lv_has ls 4 [(0, .ref (B + c0)), (1, .int c1), (3, .int v3)] → W p l e (h_rm 3) s m args below meth c H0 L0 0 0 (h_Qi below E B T args s z) (F0 m 156 ls []) := by
  obtain ⟨hx, hb, hr, hml, hts, hown, hlk, hX⟩ := id hΓ
  intro n
  induction n with
  | zero =>
    intro v3 u0 H0 L0 ls hf hw hl
    exact absurd (show (none : Option (Int32 × hM)) = some z from hf) (fun h => by cases h)
  | succ n ih =>
    intro v3 u0 H0 L0 ls hf hw hl
    rw [fX9_takeTask_L156] at hf
    refine lv_iload_n hx hb dX9_takeTask_156 rfl (lv_at hl 2 rfl) ?_
    refine lv_if_eq (tgt := 208) hx hb dX9_takeTask_157 (by decide) (fun hc => ?_) (fun hc => ?_)
    · have hf := ifp hc hf
      exact hex  u0 _ _ _ hf hw (lv_sub hl [0] rfl)
    · have hf := ifn hc hf
      refine lv_aload_n hx hb dX9_takeTask_160 rfl (lv_at hl 0 rfl) ?_
      refine lv_iload_n hx hb dX9_takeTask_161 rfl (lv_at hl 1 rfl) ?_
      refine h_cVi (As := [.int c1]) (rest := []) hf hx hb hml hts hown hX hw myX9_takePart miX9_takePart lkX9_199 ⟨rfl, by decide⟩ (fun q hq => c_X9_takePart l E B T c0 c1 u0 hq) ⟨Nat.le_of_ble_eq_true rfl, Nat.le_of_ble_eq_true rfl⟩ ⟨Nat.le_refl _, Nat.le_refl _⟩ rfl hl.1 rfl (Nat.le_of_ble_eq_true rfl) dX9_takeTask_162 (fun q19 H19 L19 hf hw => ?_)
      refine lv_istore_n (lv' := [(2, .int q19.1), (0, .ref (B + c0)), (1, .int c1), (3, .int v3)]) hx hb dX9_takeTask_165 rfl hl (by decide) rfl (fun ls hl => ?_)
      refine lv_iload_n hx hb dX9_takeTask_166 rfl (lv_at hl 0 rfl) ?_
      refine lv_if_le (tgt := 172) hx hb dX9_takeTask_167 (by decide) (fun hc => ?_) (fun hc => ?_)
      · have hf := ifp hc hf
        refine lv_aload_n hx hb dX9_takeTask_172 rfl (lv_at hl 1 rfl) ?_
        refine h_cVi (As := []) (rest := []) hf hx hb hml hts hown hX hw myX9_here miX9_here lkX9_109 ⟨rfl, by decide⟩ (fun q hq => c_X9_here l E B T c0 q19.2 hq) ⟨Nat.le_of_ble_eq_true rfl, Nat.le_of_ble_eq_true rfl⟩ ⟨Nat.le_refl _, Nat.le_refl _⟩ rfl hl.1 rfl (Nat.le_of_ble_eq_true rfl) dX9_takeTask_173 (fun q20 H20 L20 hf hw => ?_)
        refine lv_bipush (v := 44) hx hb dX9_takeTask_176 (by decide) ?_
        refine h_ite (ls := ls) (jj := 186) (rest := []) hf (fun k1 k2 => ?_) (fun x21 hf => ?_)
        · refine lv_icmp_ne (tgt := 185) hx hb dX9_takeTask_178 (by decide) (fun hc => ?_) (fun hc => ?_)
          · refine lv_iconst (v := 0) hx hb dX9_takeTask_185 (by decide) ?_
            exact k2 hc
          · refine lv_iconst (v := 1) hx hb dX9_takeTask_181 (by decide) ?_
            refine lv_goto (tgt := 186) hx hb dX9_takeTask_182 (by decide) ?_
            exact k1 hc
        · refine lv_istore_n (lv' := [(3, .int x21), (2, .int q19.1), (0, .ref (B + c0)), (1, .int c1)]) hx hb dX9_takeTask_186 rfl hl (by decide) rfl (fun ls hl => ?_)
          refine lv_aload_n hx hb dX9_takeTask_187 rfl (lv_at hl 2 rfl) ?_
          refine lv_dup hx hb dX9_takeTask_188 rfl ?_
          refine h_geti hf hx hb hts hown hX hw flX9_106 rfl dX9_takeTask_189 (fun x22 hf => ?_)
          refine lv_iload_n hx hb dX9_takeTask_192 rfl (lv_at hl 0 rfl) ?_
          refine h_ite (ls := ls) (jj := 201) (rest := [.int x22, .ref (B + c0)]) hf (fun k1 k2 => ?_) (fun x23 hf => ?_)
          · refine lv_if_eq (tgt := 200) hx hb dX9_takeTask_193 (by decide) (fun hc => ?_) (fun hc => ?_)
            · refine lv_iconst (v := 0) hx hb dX9_takeTask_200 (by decide) ?_
              exact k1 hc
            · refine lv_iconst (v := 1) hx hb dX9_takeTask_196 (by decide) ?_
              refine lv_goto (tgt := 201) hx hb dX9_takeTask_197 (by decide) ?_
              exact k2 hc
          · refine lv_iadd hx hb dX9_takeTask_201 ?_
            refine h_puti hf hx hb hts hown hX hw flX9_106 ⟨rfl, rfl⟩ dX9_takeTask_202 (fun u24 H24 L24 hf hw => ?_)
            refine lv_goto (tgt := 156) hx hb dX9_takeTask_205 (by decide) ?_
            exact ih x21 u24 _ _ _ hf hw (lv_sub hl [2, 3, 0] rfl)
      · have hf := ifn hc hf
        refine lv_iload_n hx hb dX9_takeTask_170 rfl (lv_at hl 0 rfl) ?_
        exact h_iret hf hx hb hr hlk hw dX9_takeTask_171
set_option maxRecDepth 100000 in
set_option maxHeartbeats 4000000 in
theorem wX9_takeTask {a0 : Nat} {u0 : hM} {z : Int32 × hM} {ls : Array Slot} (hΓ : h_Γ E B T p s m args meth c cX9_takeTask 4 (some .int) RX9) (hf : fX9_takeTask T a0 u0 = some z) (hw : h_W E B T s.heap u0 s.heap []) (hl : lv_has ls 4 [(0, .ref (B + a0))]) : W p l e (h_rm 3) s m args below meth c s.heap [] 0 0 (h_Qi below E B T args s z) (F0 m 0 ls []) := by
  obtain ⟨hx, hb, hr, hml, hts, hown, hlk, hX⟩ := id hΓ
  unfold fX9_takeTask at hf
  refine lv_aload_n hx hb dX9_takeTask_0 rfl (lv_at hl 0 rfl) ?_
  refine h_cVv (As := []) (rest := []) hf hx hb hml hts hown hX hw myX9_readWord miX9_readWord lkX9_149 ⟨rfl, by decide⟩ (fun q hq => c_X9_readWord l E B T a0 u0 hq) ⟨Nat.le_of_ble_eq_true rfl, Nat.le_of_ble_eq_true rfl⟩ ⟨Nat.le_refl _, Nat.le_refl _⟩ rfl hl.1 rfl (Nat.le_of_ble_eq_true rfl) dX9_takeTask_1 (fun q1 H1 L1 hf hw => ?_)
  refine lv_aload_n hx hb dX9_takeTask_4 rfl (lv_at hl 0 rfl) ?_
  refine h_getl hf hx hb hts hown hX hw flX9_113 rfl dX9_takeTask_5 (fun x2 hf => ?_)
  refine lv_bipush (v := 116) hx hb dX9_takeTask_8 (by decide) ?_
  refine lv_bipush (v := 97) hx hb dX9_takeTask_10 (by decide) ?_
  refine lv_bipush (v := 115) hx hb dX9_takeTask_12 (by decide) ?_
  refine lv_bipush (v := 107) hx hb dX9_takeTask_14 (by decide) ?_
  refine h_cSl (As := [.int (116 : Int32), .int (97 : Int32), .int (115 : Int32), .int (107 : Int32)]) (rest := [.long x2]) hf hx hb hml hts hown hX hw myX9_code msX9_code lkX9_152 (fun q hq => c_X9_code l E B T (116 : Int32) (97 : Int32) (115 : Int32) (107 : Int32) q1 hq) ⟨Nat.le_of_ble_eq_true rfl, Nat.le_of_ble_eq_true rfl⟩ ⟨Nat.le_refl _, Nat.le_refl _⟩ rfl hl.1 rfl (Nat.le_of_ble_eq_true rfl) dX9_takeTask_16 (fun q3 H3 L3 hf hw => ?_)
  refine W.lcmp hx hb dX9_takeTask_19 ?_
  refine lv_if_eq (tgt := 33) hx hb dX9_takeTask_20 (by decide) (fun hc => ?_) (fun hc => ?_)
  · have hc := (lg_cmp_eq _ _).mp hc
    have hf := ifp hc hf
    refine lv_aload_n hx hb dX9_takeTask_33 rfl (lv_at hl 0 rfl) ?_
    refine h_geti hf hx hb hts hown hX hw flX9_160 rfl dX9_takeTask_34 (fun x4 hf => ?_)
    refine lv_bipush (v := 6) hx hb dX9_takeTask_37 (by decide) ?_
    refine lv_icmp_ne (tgt := 52) hx hb dX9_takeTask_39 (by decide) (fun hc => ?_) (fun hc => ?_)
    · have hf := ifn hc hf
      refine lv_aload_n hx hb dX9_takeTask_52 rfl (lv_at hl 0 rfl) ?_
      refine lv_aload_n hx hb dX9_takeTask_53 rfl (lv_at hl 0 rfl) ?_
      refine h_geti hf hx hb hts hown hX hw flX9_117 rfl dX9_takeTask_54 (fun x5 hf => ?_)
      refine h_puti hf hx hb hts hown hX hw flX9_106 ⟨rfl, rfl⟩ dX9_takeTask_57 (fun u6 H6 L6 hf hw => ?_)
      refine lv_iconst (v := 4) hx hb dX9_takeTask_60 (by decide) ?_
      refine lv_aload_n hx hb dX9_takeTask_61 rfl (lv_at hl 0 rfl) ?_
      refine h_geti hf hx hb hts hown hX hw flX9_160 rfl dX9_takeTask_62 (fun x7 hf => ?_)
      refine lv_imul hx hb dX9_takeTask_65 ?_
      refine h_nmi hf (fun x8 hf => ?_)
      refine lv_istore_n (lv' := [(1, .int x8), (0, .ref (B + a0))]) hx hb dX9_takeTask_66 rfl hl (by decide) rfl (fun ls hl => ?_)
      refine lv_aload_n hx hb dX9_takeTask_67 rfl (lv_at hl 1 rfl) ?_
      refine h_getr hf hx hb hts hown hX hw flX9_51 rfl dX9_takeTask_68 (fun a9 hf => ?_)
      refine lv_iload_n hx hb dX9_takeTask_71 rfl (lv_at hl 0 rfl) ?_
      refine lv_iconst (v := 3) hx hb dX9_takeTask_72 (by decide) ?_
      refine lv_iadd hx hb dX9_takeTask_73 ?_
      refine lv_iconst (v := 0) hx hb dX9_takeTask_74 (by decide) ?_
      refine h_iast hf hx hb hX hw dX9_takeTask_75 (fun u10 H10 L10 hf hw => ?_)
      refine lv_aload_n hx hb dX9_takeTask_76 rfl (lv_at hl 1 rfl) ?_
      refine lv_aload_n hx hb dX9_takeTask_77 rfl (lv_at hl 1 rfl) ?_
      refine h_getr hf hx hb hts hown hX hw flX9_51 rfl dX9_takeTask_78 (fun a11 hf => ?_)
      refine lv_iload_n hx hb dX9_takeTask_81 rfl (lv_at hl 0 rfl) ?_
      refine lv_iconst (v := 1) hx hb dX9_takeTask_82 (by decide) ?_
      refine lv_bipush (v := 30) hx hb dX9_takeTask_83 (by decide) ?_
      refine h_cVi (As := [.ref (B + a11), .int x8, .int (1 : Int32), .int (30 : Int32)]) (rest := []) hf hx hb hml hts hown hX hw myX9_into miX9_into lkX9_167 ⟨rfl, by decide⟩ (fun q hq => c_X9_into l E B T a0 a11 x8 (1 : Int32) (30 : Int32) u10 hq) ⟨Nat.le_of_ble_eq_true rfl, Nat.le_of_ble_eq_true rfl⟩ ⟨Nat.le_refl _, Nat.le_refl _⟩ rfl hl.1 rfl (Nat.le_of_ble_eq_true rfl) dX9_takeTask_85 (fun q12 H12 L12 hf hw => ?_)
      refine lv_istore_n (lv' := [(2, .int q12.1), (1, .int x8), (0, .ref (B + a0))]) hx hb dX9_takeTask_88 rfl hl (by decide) rfl (fun ls hl => ?_)
      refine lv_iload_n hx hb dX9_takeTask_89 rfl (lv_at hl 0 rfl) ?_
      obtain ⟨J111, eJ111, hf⟩ := h_lt hf
      have hJ111 : ∀ (x13 : Int32) (u14 : hM) (H14 : Heap) (L14 : List Loc) (ls : Array Slot), J111 x13 u14 = some z → h_W E B T s.heap u14 H14 L14 → lv_has ls 4 [(0, .ref (B + a0)), (1, .int x8)] → W p l e (h_rm 3) s m args below meth c H14 L14 0 0 (h_Qi below E B T args s z) (F0 m 111 ls [.int x13]) := by
        intro x13 u14 H14 L14 ls hf hw hl
        rw [eJ111] at hf
        refine lv_istore_n (lv' := [(2, .int x13), (0, .ref (B + a0)), (1, .int x8)]) hx hb dX9_takeTask_111 rfl hl (by decide) rfl (fun ls hl => ?_)
        refine lv_iload_n hx hb dX9_takeTask_112 rfl (lv_at hl 0 rfl) ?_
        obtain ⟨J134, eJ134, hf⟩ := h_lt hf
        have hJ134 : ∀ (x15 : Int32) (u16 : hM) (H16 : Heap) (L16 : List Loc) (ls : Array Slot), J134 x15 u16 = some z → h_W E B T s.heap u16 H16 L16 → lv_has ls 4 [(0, .ref (B + a0)), (1, .int x8)] → W p l e (h_rm 3) s m args below meth c H16 L16 0 0 (h_Qi below E B T args s z) (F0 m 134 ls [.int x15]) := by
          intro x15 u16 H16 L16 ls hf hw hl
          rw [eJ134] at hf
          refine lv_istore_n (lv' := [(2, .int x15), (0, .ref (B + a0)), (1, .int x8)]) hx hb dX9_takeTask_134 rfl hl (by decide) rfl (fun ls hl => ?_)
          refine lv_iload_n hx hb dX9_takeTask_135 rfl (lv_at hl 0 rfl) ?_
          refine lv_if_le (tgt := 141) hx hb dX9_takeTask_136 (by decide) (fun hc => ?_) (fun hc => ?_)
          · have hf := ifp hc hf
            refine lv_aload_n hx hb dX9_takeTask_141 rfl (lv_at hl 1 rfl) ?_
            refine h_cVi (As := []) (rest := []) hf hx hb hml hts hown hX hw myX9_here miX9_here lkX9_109 ⟨rfl, by decide⟩ (fun q hq => c_X9_here l E B T a0 u16 hq) ⟨Nat.le_of_ble_eq_true rfl, Nat.le_of_ble_eq_true rfl⟩ ⟨Nat.le_refl _, Nat.le_refl _⟩ rfl hl.1 rfl (Nat.le_of_ble_eq_true rfl) dX9_takeTask_142 (fun q17 H17 L17 hf hw => ?_)
            refine lv_bipush (v := 59) hx hb dX9_takeTask_145 (by decide) ?_
            refine h_ite (ls := ls) (jj := 155) (rest := []) hf (fun k1 k2 => ?_) (fun x18 hf => ?_)
            · refine lv_icmp_eq (tgt := 154) hx hb dX9_takeTask_147 (by decide) (fun hc => ?_) (fun hc => ?_)
              · refine lv_iconst (v := 0) hx hb dX9_takeTask_154 (by decide) ?_
                exact k1 hc
              · refine lv_iconst (v := 1) hx hb dX9_takeTask_150 (by decide) ?_
                refine lv_goto (tgt := 155) hx hb dX9_takeTask_151 (by decide) ?_
                exact k2 hc
            · refine lv_istore_n (lv' := [(3, .int x18), (2, .int x15), (0, .ref (B + a0)), (1, .int x8)]) hx hb dX9_takeTask_155 rfl hl (by decide) rfl (fun ls hl => ?_)
              refine wfX9_takeTask_L156 hΓ ?_ 6000 x18 q17.2 _ _ _ hf hw (lv_sub hl [2, 3, 0] rfl)
              intro u25 H25 L25 ls hf hw hl
              refine lv_aload_n hx hb dX9_takeTask_208 rfl (lv_at hl 0 rfl) ?_
              refine lv_dup hx hb dX9_takeTask_209 rfl ?_
              refine h_geti hf hx hb hts hown hX hw flX9_160 rfl dX9_takeTask_210 (fun x26 hf => ?_)
              refine lv_iconst (v := 1) hx hb dX9_takeTask_213 (by decide) ?_
              refine lv_iadd hx hb dX9_takeTask_214 ?_
              refine h_puti hf hx hb hts hown hX hw flX9_160 ⟨rfl, rfl⟩ dX9_takeTask_215 (fun u27 H27 L27 hf hw => ?_)
              refine lv_aload_n hx hb dX9_takeTask_218 rfl (lv_at hl 0 rfl) ?_
              refine h_cVi (As := []) (rest := []) hf hx hb hml hts hown hX hw myX9_takeStop miX9_takeStop lkX9_171 ⟨rfl, by decide⟩ (fun q hq => c_X9_takeStop l E B T a0 u27 hq) ⟨Nat.le_of_ble_eq_true rfl, Nat.le_of_ble_eq_true rfl⟩ ⟨Nat.le_refl _, Nat.le_refl _⟩ rfl hl.1 rfl (Nat.le_of_ble_eq_true rfl) dX9_takeTask_219 (fun q28 H28 L28 hf hw => ?_)
              exact h_iret hf hx hb hr hlk hw dX9_takeTask_222
          · have hf := ifn hc hf
            refine lv_iload_n hx hb dX9_takeTask_139 rfl (lv_at hl 0 rfl) ?_
            exact h_iret hf hx hb hr hlk hw dX9_takeTask_140
        clear eJ134
        refine lv_if_le (tgt := 120) hx hb dX9_takeTask_113 (by decide) (fun hc => ?_) (fun hc => ?_)
        · have hf := ifp hc hf
          refine lv_aload_n hx hb dX9_takeTask_120 rfl (lv_at hl 1 rfl) ?_
          refine lv_aload_n hx hb dX9_takeTask_121 rfl (lv_at hl 1 rfl) ?_
          refine h_getr hf hx hb hts hown hX hw flX9_51 rfl dX9_takeTask_122 (fun a29 hf => ?_)
          refine lv_iload_n hx hb dX9_takeTask_125 rfl (lv_at hl 2 rfl) ?_
          refine lv_iconst (v := 2) hx hb dX9_takeTask_126 (by decide) ?_
          refine lv_iadd hx hb dX9_takeTask_127 ?_
          refine lv_iconst (v := 0) hx hb dX9_takeTask_128 (by decide) ?_
          refine lv_bipush (v := 49) hx hb dX9_takeTask_129 (by decide) ?_
          refine h_cVi (As := [.ref (B + a29), .int (x8 + (2 : Int32)), .int (0 : Int32), .int (49 : Int32)]) (rest := []) hf hx hb hml hts hown hX hw myX9_into miX9_into lkX9_167 ⟨rfl, by decide⟩ (fun q hq => c_X9_into l E B T a0 a29 (x8 + (2 : Int32)) (0 : Int32) (49 : Int32) u14 hq) ⟨Nat.le_of_ble_eq_true rfl, Nat.le_of_ble_eq_true rfl⟩ ⟨Nat.le_refl _, Nat.le_refl _⟩ rfl hl.1 rfl (Nat.le_of_ble_eq_true rfl) dX9_takeTask_131 (fun q30 H30 L30 hf hw => ?_)
          exact hJ134 q30.1 q30.2 _ _ _ hf hw (lv_sub hl [1, 2] rfl)
        · have hf := ifn hc hf
          refine lv_iload_n hx hb dX9_takeTask_116 rfl (lv_at hl 0 rfl) ?_
          refine lv_goto (tgt := 134) hx hb dX9_takeTask_117 (by decide) ?_
          exact hJ134 x13 u14 _ _ _ hf hw (lv_sub hl [1, 2] rfl)
      clear eJ111
      refine lv_if_le (tgt := 97) hx hb dX9_takeTask_90 (by decide) (fun hc => ?_) (fun hc => ?_)
      · have hf := ifp hc hf
        refine lv_aload_n hx hb dX9_takeTask_97 rfl (lv_at hl 2 rfl) ?_
        refine lv_aload_n hx hb dX9_takeTask_98 rfl (lv_at hl 2 rfl) ?_
        refine h_getr hf hx hb hts hown hX hw flX9_51 rfl dX9_takeTask_99 (fun a31 hf => ?_)
        refine lv_iload_n hx hb dX9_takeTask_102 rfl (lv_at hl 1 rfl) ?_
        refine lv_iconst (v := 1) hx hb dX9_takeTask_103 (by decide) ?_
        refine lv_iadd hx hb dX9_takeTask_104 ?_
        refine lv_iconst (v := 0) hx hb dX9_takeTask_105 (by decide) ?_
        refine lv_bipush (v := 49) hx hb dX9_takeTask_106 (by decide) ?_
        refine h_cVi (As := [.ref (B + a31), .int (x8 + (1 : Int32)), .int (0 : Int32), .int (49 : Int32)]) (rest := []) hf hx hb hml hts hown hX hw myX9_into miX9_into lkX9_167 ⟨rfl, by decide⟩ (fun q hq => c_X9_into l E B T a0 a31 (x8 + (1 : Int32)) (0 : Int32) (49 : Int32) q12.2 hq) ⟨Nat.le_of_ble_eq_true rfl, Nat.le_of_ble_eq_true rfl⟩ ⟨Nat.le_refl _, Nat.le_refl _⟩ rfl hl.1 rfl (Nat.le_of_ble_eq_true rfl) dX9_takeTask_108 (fun q32 H32 L32 hf hw => ?_)
        exact hJ111 q32.1 q32.2 _ _ _ hf hw (lv_sub hl [2, 1] rfl)
      · have hf := ifn hc hf
        refine lv_iload_n hx hb dX9_takeTask_93 rfl (lv_at hl 0 rfl) ?_
        refine lv_goto (tgt := 111) hx hb dX9_takeTask_94 (by decide) ?_
        exact hJ111 q12.1 q12.2 _ _ _ hf hw (lv_sub hl [2, 1] rfl)
    · have hf := ifp hc hf
      refine lv_aload_n hx hb dX9_takeTask_42 rfl (lv_at hl 0 rfl) ?_
      refine lv_iconst (v := 3) hx hb dX9_takeTask_43 (by decide) ?_
      refine lv_aload_n hx hb dX9_takeTask_44 rfl (lv_at hl 0 rfl) ?_
      refine h_geti hf hx hb hts hown hX hw flX9_106 rfl dX9_takeTask_45 (fun x33 hf => ?_)
      refine h_cVi (As := [.int (3 : Int32), .int x33]) (rest := []) hf hx hb hml hts hown hX hw myX9_fails miX9_fails lkX9_136 ⟨rfl, by decide⟩ (fun q hq => c_X9_fails l E B T a0 (3 : Int32) x33 q3.2 hq) ⟨Nat.le_of_ble_eq_true rfl, Nat.le_of_ble_eq_true rfl⟩ ⟨Nat.le_refl _, Nat.le_refl _⟩ rfl hl.1 rfl (Nat.le_of_ble_eq_true rfl) dX9_takeTask_48 (fun q34 H34 L34 hf hw => ?_)
      exact h_iret hf hx hb hr hlk hw dX9_takeTask_51
  · have hc := (not_congr (lg_cmp_eq _ _)).mp hc
    have hf := ifn hc hf
    refine lv_aload_n hx hb dX9_takeTask_23 rfl (lv_at hl 0 rfl) ?_
    refine lv_iconst (v := 1) hx hb dX9_takeTask_24 (by decide) ?_
    refine lv_aload_n hx hb dX9_takeTask_25 rfl (lv_at hl 0 rfl) ?_
    refine h_geti hf hx hb hts hown hX hw flX9_106 rfl dX9_takeTask_26 (fun x35 hf => ?_)
    refine h_cVi (As := [.int (1 : Int32), .int x35]) (rest := []) hf hx hb hml hts hown hX hw myX9_fails miX9_fails lkX9_136 ⟨rfl, by decide⟩ (fun q hq => c_X9_fails l E B T a0 (1 : Int32) x35 q3.2 hq) ⟨Nat.le_of_ble_eq_true rfl, Nat.le_of_ble_eq_true rfl⟩ ⟨Nat.le_refl _, Nat.le_refl _⟩ rfl hl.1 rfl (Nat.le_of_ble_eq_true rfl) dX9_takeTask_29 (fun q36 H36 L36 hf hw => ?_)
    exact h_iret hf hx hb hr hlk hw dX9_takeTask_32
theorem c_X9_takeTask (l : Launch) (E : hE) (B : Nat) (T : hT) (a0 : Nat) (u0 : hM) {z : Int32 × hM} (hf : fX9_takeTask T a0 u0 = some z) : h_Ct l E B T yX9_takeTask cX9_takeTask 4 (some .int) 3 [.ref (B + a0)] u0 z.2 (some (.int z.1)) := h_ofW (by decide) (Nat.le_of_ble_eq_true rfl) (fun p e s m below meth c ls hΓ hl hw => wX9_takeTask hΓ hf hw hl)
def fX9_tasks_L17 (T : hT) (c0 : Nat) (ex : Int32 → hM → Option (Int32 × hM)) : Nat → Int32 → hM → Option (Int32 × hM)
  | 0, _, _ => none
  | n + 1, v1, u0 => if v1 = 0 then ((vc T c0 9 (fX9_here T c0 u0)).bind fun q4 => if q4.1 < 0 then (ex v1 q4.2) else ((vc T c0 9 (fX9_takeTask T c0 q4.2)).bind fun q5 => fX9_tasks_L17 T c0 ex n q5.1 q5.2)) else (ex v1 u0)
def fX9_tasks_L60 (T : hT) (c0 : Nat) (ex : hM → Option (Int32 × hM)) : Nat → Int32 → hM → Option (Int32 × hM)
  | 0, _, _ => none
  | n + 1, v2, u0 => if (24 : Int32) ≤ v2 then (ex u0) else ((gtr T u0 c0 9 6).bind fun a11 => (gtr T u0 c0 9 25).bind fun a12 => (ald 11 T u0 a12 v2).bind fun x13 => (asti T u0 a11 v2 x13).bind fun u14 => lt (v2 + (1 : Int32)) fun x15 => fX9_tasks_L60 T c0 ex n x15 u14)
def fX9_tasks_L86 (T : hT) (c0 : Nat) (ex : hM → Option (Int32 × hM)) : Nat → Int32 → hM → Option (Int32 × hM)
  | 0, _, _ => none
  | n + 1, v2, u0 => if (6 : Int32) ≤ v2 then (ex u0) else ((gtr T u0 c0 9 8).bind fun a17 => (asti T u0 a17 v2 (0 : Int32)).bind fun u18 => lt (v2 + (1 : Int32)) fun x19 => fX9_tasks_L86 T c0 ex n x19 u18)
def fX9_tasks (T : hT) (a0 : Nat) (u0 : hM) : Option (Int32 × hM) := (pti T u0 a0 9 14 (-1 : Int32)).bind fun u1 => (pti T u1 a0 9 15 (0 : Int32)).bind fun u2 => (pti T u2 a0 9 20 (0 : Int32)).bind fun u3 => fX9_tasks_L17 T a0 (fun (x6 : Int32) (u7 : hM) => (pti T u7 a0 9 13 (0 : Int32)).bind fun u8 => if x6 ≤ 0 then ((gti T u8 a0 9 20).bind fun x9 => (pti T u8 a0 9 5 x9).bind fun u10 => fX9_tasks_L60 T a0 (fun (u16 : hM) => fX9_tasks_L86 T a0 (fun (u20 : hM) => (gtr T u20 a0 9 38).bind fun a21 => (astz T u20 a21 (0 : Int32) (0 : Int32)).bind fun u22 => (gtr T u22 a0 9 38).bind fun a23 => (astz T u22 a23 (1 : Int32) (0 : Int32)).bind fun u24 => (gti T u24 a0 9 5).bind fun x25 => some (x25, u24)) 6000 (0 : Int32) u16) 6000 (0 : Int32) u10) else (some (((-10 : Int32) - x6), u8))) 6000 (0 : Int32) u3
set_option maxRecDepth 100000 in
set_option maxHeartbeats 4000000 in
theorem wfX9_tasks_L17 {c0 : Nat} {ex : Int32 → hM → Option (Int32 × hM)} {z : Int32 × hM} (hΓ : h_Γ E B T p s m args meth c cX9_tasks 3 (some .int) RX9) (hex : ∀ (y1 : Int32) (u9 : hM) (H9 : Heap) (L9 : List Loc) (ls : Array Slot), ex y1 u9 = some z → h_W E B T s.heap u9 H9 L9 → lv_has ls 3 [(0, .ref (B + c0)), (1, .int y1)] → W p l e (h_rm 4) s m args below meth c H9 L9 0 0 (h_Qi below E B T args s z) (F0 m 36 ls [])) : ∀ (n : Nat) (v1 : Int32) (u0 : hM) (H0 : Heap) (L0 : List Loc) (ls : Array Slot), fX9_tasks_L17 T c0 ex n v1 u0 = some z → h_W E B T s.heap u0 H0 L0 → lv_has ls 3 [(0, .ref (B + c0)), (1, .int v1)] → W p l e (h_rm 4) s m args below meth c H0 L0 0 0 (h_Qi below E B T args s z) (F0 m 17 ls []) := by
  obtain ⟨hx, hb, hr, hml, hts, hown, hlk, hX⟩ := id hΓ
  intro n
  induction n with
  | zero =>
    intro v1 u0 H0 L0 ls hf hw hl
    exact absurd (show (none : Option (Int32 × hM)) = some z from hf) (fun h => by cases h)
  | succ n ih =>
    intro v1 u0 H0 L0 ls hf hw hl
    rw [fX9_tasks_L17] at hf
    refine lv_iload_n hx hb dX9_tasks_17 rfl (lv_at hl 1 rfl) ?_
    refine lv_if_ne (tgt := 36) hx hb dX9_tasks_18 (by decide) (fun hc => ?_) (fun hc => ?_)
    · have hf := ifn hc hf
      exact hex v1 u0 _ _ _ hf hw (lv_sub hl [0, 1] rfl)
    · have hf := ifp hc hf
      refine lv_aload_n hx hb dX9_tasks_21 rfl (lv_at hl 0 rfl) ?_
      refine h_cVi (As := []) (rest := []) hf hx hb hml hts hown hX hw myX9_here miX9_here lkX9_109 ⟨rfl, by decide⟩ (fun q hq => c_X9_here l E B T c0 u0 hq) ⟨Nat.le_of_ble_eq_true rfl, Nat.le_of_ble_eq_true rfl⟩ ⟨Nat.le_refl _, Nat.le_refl _⟩ rfl hl.1 rfl (Nat.le_of_ble_eq_true rfl) dX9_tasks_22 (fun q4 H4 L4 hf hw => ?_)
      refine lv_if_lt (tgt := 36) hx hb dX9_tasks_25 (by decide) (fun hc => ?_) (fun hc => ?_)
      · have hf := ifp hc hf
        exact hex v1 q4.2 _ _ _ hf hw (lv_sub hl [0, 1] rfl)
      · have hf := ifn hc hf
        refine lv_aload_n hx hb dX9_tasks_28 rfl (lv_at hl 0 rfl) ?_
        refine h_cVi (As := []) (rest := []) hf hx hb hml hts hown hX hw myX9_takeTask miX9_takeTask lkX9_203 ⟨rfl, by decide⟩ (fun q hq => c_X9_takeTask l E B T c0 q4.2 hq) ⟨Nat.le_of_ble_eq_true rfl, Nat.le_of_ble_eq_true rfl⟩ ⟨Nat.le_refl _, Nat.le_refl _⟩ rfl hl.1 rfl (Nat.le_of_ble_eq_true rfl) dX9_tasks_29 (fun q5 H5 L5 hf hw => ?_)
        refine lv_istore_n (lv' := [(1, .int q5.1), (0, .ref (B + c0))]) hx hb dX9_tasks_32 rfl hl (by decide) rfl (fun ls hl => ?_)
        refine lv_goto (tgt := 17) hx hb dX9_tasks_33 (by decide) ?_
        exact ih q5.1 q5.2 _ _ _ hf hw (lv_sub hl [1, 0] rfl)
set_option maxRecDepth 100000 in
set_option maxHeartbeats 4000000 in
theorem wfX9_tasks_L60 {c0 : Nat} {ex : hM → Option (Int32 × hM)} {z : Int32 × hM} (hΓ : h_Γ E B T p s m args meth c cX9_tasks 3 (some .int) RX9) (hex : ∀ (u9 : hM) (H9 : Heap) (L9 : List Loc) (ls : Array Slot), ex u9 = some z → h_W E B T s.heap u9 H9 L9 → lv_has ls 3 [(0, .ref (B + c0))] → W p l e (h_rm 4) s m args below meth c H9 L9 0 0 (h_Qi below E B T args s z) (F0 m 84 ls [])) : ∀ (n : Nat) (v2 : Int32) (u0 : hM) (H0 : Heap) (L0 : List Loc) (ls : Array Slot), fX9_tasks_L60 T c0 ex n v2 u0 = some z → h_W E B T s.heap u0 H0 L0 → lv_has ls 3 [(0, .ref (B + c0)), (2, .int v2)] → W p l e (h_rm 4) s m args below meth c H0 L0 0 0 (h_Qi below E B T args s z) (F0 m 60 ls []) := by
  obtain ⟨hx, hb, hr, hml, hts, hown, hlk, hX⟩ := id hΓ
  intro n
  induction n with
  | zero =>
    intro v2 u0 H0 L0 ls hf hw hl
    exact absurd (show (none : Option (Int32 × hM)) = some z from hf) (fun h => by cases h)
  | succ n ih =>
    intro v2 u0 H0 L0 ls hf hw hl
    rw [fX9_tasks_L60] at hf
    refine lv_iload_n hx hb dX9_tasks_60 rfl (lv_at hl 1 rfl) ?_
    refine lv_bipush (v := 24) hx hb dX9_tasks_61 (by decide) ?_
    refine lv_icmp_ge (tgt := 84) hx hb dX9_tasks_63 (by decide) (fun hc => ?_) (fun hc => ?_)
    · have hf := ifp hc hf
      exact hex  u0 _ _ _ hf hw (lv_sub hl [0] rfl)
    · have hf := ifn hc hf
      refine lv_aload_n hx hb dX9_tasks_66 rfl (lv_at hl 0 rfl) ?_
      refine h_getr hf hx hb hts hown hX hw flX9_20 rfl dX9_tasks_67 (fun a11 hf => ?_)
      refine lv_iload_n hx hb dX9_tasks_70 rfl (lv_at hl 1 rfl) ?_
      refine lv_aload_n hx hb dX9_tasks_71 rfl (lv_at hl 0 rfl) ?_
      refine h_getr hf hx hb hts hown hX hw flX9_51 rfl dX9_tasks_72 (fun a12 hf => ?_)
      refine lv_iload_n hx hb dX9_tasks_75 rfl (lv_at hl 1 rfl) ?_
      refine h_iald hf hx hb hX hw dX9_tasks_76 (fun x13 hf => ?_)
      refine h_iast hf hx hb hX hw dX9_tasks_77 (fun u14 H14 L14 hf hw => ?_)
      refine h_iinc (k := 1) hf hx hb dX9_tasks_78 hl rfl (by decide) (by decide) (fun x15 ls hf hl => ?_)
      have hl : lv_has ls 3 [(2, .int x15), (0, .ref (B + c0))] := hl
      refine lv_goto (tgt := 60) hx hb dX9_tasks_81 (by decide) ?_
      exact ih x15 u14 _ _ _ hf hw (lv_sub hl [1, 0] rfl)
set_option maxRecDepth 100000 in
set_option maxHeartbeats 4000000 in
theorem wfX9_tasks_L86 {c0 : Nat} {ex : hM → Option (Int32 × hM)} {z : Int32 × hM} (hΓ : h_Γ E B T p s m args meth c cX9_tasks 3 (some .int) RX9) (hex : ∀ (u9 : hM) (H9 : Heap) (L9 : List Loc) (ls : Array Slot), ex u9 = some z → h_W E B T s.heap u9 H9 L9 → lv_has ls 3 [(0, .ref (B + c0))] → W p l e (h_rm 4) s m args below meth c H9 L9 0 0 (h_Qi below E B T args s z) (F0 m 105 ls [])) : ∀ (n : Nat) (v2 : Int32) (u0 : hM) (H0 : Heap) (L0 : List Loc) (ls : Array Slot), fX9_tasks_L86 T c0 ex n v2 u0 = some z → h_W E B T s.heap u0 H0 L0 → lv_has ls 3 [(0, .ref (B + c0)), (2, .int v2)] → W p l e (h_rm 4) s m args below meth c H0 L0 0 0 (h_Qi below E B T args s z) (F0 m 86 ls []) := by
  obtain ⟨hx, hb, hr, hml, hts, hown, hlk, hX⟩ := id hΓ
  intro n
  induction n with
  | zero =>
    intro v2 u0 H0 L0 ls hf hw hl
    exact absurd (show (none : Option (Int32 × hM)) = some z from hf) (fun h => by cases h)
  | succ n ih =>
    intro v2 u0 H0 L0 ls hf hw hl
    rw [fX9_tasks_L86] at hf
    refine lv_iload_n hx hb dX9_tasks_86 rfl (lv_at hl 1 rfl) ?_
    refine lv_bipush (v := 6) hx hb dX9_tasks_87 (by decide) ?_
    refine lv_icmp_ge (tgt := 105) hx hb dX9_tasks_89 (by decide) (fun hc => ?_) (fun hc => ?_)
    · have hf := ifp hc hf
      exact hex  u0 _ _ _ hf hw (lv_sub hl [0] rfl)
    · have hf := ifn hc hf
      refine lv_aload_n hx hb dX9_tasks_92 rfl (lv_at hl 0 rfl) ?_
      refine h_getr hf hx hb hts hown hX hw flX9_26 rfl dX9_tasks_93 (fun a17 hf => ?_)
      refine lv_iload_n hx hb dX9_tasks_96 rfl (lv_at hl 1 rfl) ?_
      refine lv_iconst (v := 0) hx hb dX9_tasks_97 (by decide) ?_
      refine h_iast hf hx hb hX hw dX9_tasks_98 (fun u18 H18 L18 hf hw => ?_)
      refine h_iinc (k := 1) hf hx hb dX9_tasks_99 hl rfl (by decide) (by decide) (fun x19 ls hf hl => ?_)
      have hl : lv_has ls 3 [(2, .int x19), (0, .ref (B + c0))] := hl
      refine lv_goto (tgt := 86) hx hb dX9_tasks_102 (by decide) ?_
      exact ih x19 u18 _ _ _ hf hw (lv_sub hl [1, 0] rfl)
set_option maxRecDepth 100000 in
set_option maxHeartbeats 4000000 in
theorem wX9_tasks {a0 : Nat} {u0 : hM} {z : Int32 × hM} {ls : Array Slot} (hΓ : h_Γ E B T p s m args meth c cX9_tasks 3 (some .int) RX9) (hf : fX9_tasks T a0 u0 = some z) (hw : h_W E B T s.heap u0 s.heap []) (hl : lv_has ls 3 [(0, .ref (B + a0))]) : W p l e (h_rm 4) s m args below meth c s.heap [] 0 0 (h_Qi below E B T args s z) (F0 m 0 ls []) := by
  obtain ⟨hx, hb, hr, hml, hts, hown, hlk, hX⟩ := id hΓ
  unfold fX9_tasks at hf
  refine lv_aload_n hx hb dX9_tasks_0 rfl (lv_at hl 0 rfl) ?_
  refine lv_iconst (v := -1) hx hb dX9_tasks_1 (by decide) ?_
  refine h_puti hf hx hb hts hown hX hw flX9_39 ⟨rfl, rfl⟩ dX9_tasks_2 (fun u1 H1 L1 hf hw => ?_)
  refine lv_aload_n hx hb dX9_tasks_5 rfl (lv_at hl 0 rfl) ?_
  refine lv_iconst (v := 0) hx hb dX9_tasks_6 (by decide) ?_
  refine h_puti hf hx hb hts hown hX hw flX9_106 ⟨rfl, rfl⟩ dX9_tasks_7 (fun u2 H2 L2 hf hw => ?_)
  refine lv_aload_n hx hb dX9_tasks_10 rfl (lv_at hl 0 rfl) ?_
  refine lv_iconst (v := 0) hx hb dX9_tasks_11 (by decide) ?_
  refine h_puti hf hx hb hts hown hX hw flX9_160 ⟨rfl, rfl⟩ dX9_tasks_12 (fun u3 H3 L3 hf hw => ?_)
  refine lv_iconst (v := 0) hx hb dX9_tasks_15 (by decide) ?_
  refine lv_istore_n (lv' := [(1, .int (0 : Int32)), (0, .ref (B + a0))]) hx hb dX9_tasks_16 rfl hl (by decide) rfl (fun ls hl => ?_)
  refine wfX9_tasks_L17 hΓ ?_ 6000 (0 : Int32) u3 _ _ _ hf hw (lv_sub hl [1, 0] rfl)
  intro x6 u7 H7 L7 ls hf hw hl
  refine lv_aload_n hx hb dX9_tasks_36 rfl (lv_at hl 0 rfl) ?_
  refine lv_iconst (v := 0) hx hb dX9_tasks_37 (by decide) ?_
  refine h_puti hf hx hb hts hown hX hw flX9_100 ⟨rfl, rfl⟩ dX9_tasks_38 (fun u8 H8 L8 hf hw => ?_)
  refine lv_iload_n hx hb dX9_tasks_41 rfl (lv_at hl 1 rfl) ?_
  refine lv_if_le (tgt := 50) hx hb dX9_tasks_42 (by decide) (fun hc => ?_) (fun hc => ?_)
  · have hf := ifp hc hf
    refine lv_aload_n hx hb dX9_tasks_50 rfl (lv_at hl 0 rfl) ?_
    refine lv_aload_n hx hb dX9_tasks_51 rfl (lv_at hl 0 rfl) ?_
    refine h_geti hf hx hb hts hown hX hw flX9_160 rfl dX9_tasks_52 (fun x9 hf => ?_)
    refine h_puti hf hx hb hts hown hX hw flX9_94 ⟨rfl, rfl⟩ dX9_tasks_55 (fun u10 H10 L10 hf hw => ?_)
    refine lv_iconst (v := 0) hx hb dX9_tasks_58 (by decide) ?_
    refine lv_istore_n (lv' := [(2, .int (0 : Int32)), (0, .ref (B + a0)), (1, .int x6)]) hx hb dX9_tasks_59 rfl hl (by decide) rfl (fun ls hl => ?_)
    refine wfX9_tasks_L60 hΓ ?_ 6000 (0 : Int32) u10 _ _ _ hf hw (lv_sub hl [1, 0] rfl)
    intro u16 H16 L16 ls hf hw hl
    refine lv_iconst (v := 0) hx hb dX9_tasks_84 (by decide) ?_
    refine lv_istore_n (lv' := [(2, .int (0 : Int32)), (0, .ref (B + a0))]) hx hb dX9_tasks_85 rfl hl (by decide) rfl (fun ls hl => ?_)
    refine wfX9_tasks_L86 hΓ ?_ 6000 (0 : Int32) u16 _ _ _ hf hw (lv_sub hl [1, 0] rfl)
    intro u20 H20 L20 ls hf hw hl
    refine lv_aload_n hx hb dX9_tasks_105 rfl (lv_at hl 0 rfl) ?_
    refine h_getr hf hx hb hts hown hX hw flX9_84 rfl dX9_tasks_106 (fun a21 hf => ?_)
    refine lv_iconst (v := 0) hx hb dX9_tasks_109 (by decide) ?_
    refine lv_iconst (v := 0) hx hb dX9_tasks_110 (by decide) ?_
    refine h_zast hf hx hb hX hw dX9_tasks_111 (fun u22 H22 L22 hf hw => ?_)
    refine lv_aload_n hx hb dX9_tasks_112 rfl (lv_at hl 0 rfl) ?_
    refine h_getr hf hx hb hts hown hX hw flX9_84 rfl dX9_tasks_113 (fun a23 hf => ?_)
    refine lv_iconst (v := 1) hx hb dX9_tasks_116 (by decide) ?_
    refine lv_iconst (v := 0) hx hb dX9_tasks_117 (by decide) ?_
    refine h_zast hf hx hb hX hw dX9_tasks_118 (fun u24 H24 L24 hf hw => ?_)
    refine lv_aload_n hx hb dX9_tasks_119 rfl (lv_at hl 0 rfl) ?_
    refine h_geti hf hx hb hts hown hX hw flX9_94 rfl dX9_tasks_120 (fun x25 hf => ?_)
    exact h_iret hf hx hb hr hlk hw dX9_tasks_123
  · have hf := ifn hc hf
    refine lv_bipush (v := -10) hx hb dX9_tasks_45 (by decide) ?_
    refine lv_iload_n hx hb dX9_tasks_47 rfl (lv_at hl 1 rfl) ?_
    refine lv_isub hx hb dX9_tasks_48 ?_
    exact h_iret hf hx hb hr hlk hw dX9_tasks_49
theorem c_X9_tasks (l : Launch) (E : hE) (B : Nat) (T : hT) (a0 : Nat) (u0 : hM) {z : Int32 × hM} (hf : fX9_tasks T a0 u0 = some z) : h_Ct l E B T yX9_tasks cX9_tasks 3 (some .int) 4 [.ref (B + a0)] u0 z.2 (some (.int z.1)) := h_ofW (by decide) (Nat.le_of_ble_eq_true rfl) (fun p e s m below meth c ls hΓ hl hw => wX9_tasks hΓ hf hw hl)
end GEN
