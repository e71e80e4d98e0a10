section GEN
variable {p : Program} {l : Launch} {e : Env} {s : State} {m : MethodId} {args : Array Value} {below : List Frame} {meth : Method} {c : Code} {E : hE} {B : Nat} {T : hT}
def fX9_power_L4 (T : hT) (c0 : Int32) (ex : Int32 → hM → Option (Int32 × hM)) : Nat → Int32 → Int32 → hM → Option (Int32 × hM)
  | 0, _, _, _ => none
  | n + 1, v1, v2, u0 => if c0 ≤ v2 then (ex v1 u0) else (lt ((v1 * (3 : Int32))) fun x1 => lt (v2 + (1 : Int32)) fun x2 => fX9_power_L4 T c0 ex n x1 x2 u0)
def fX9_power (T : hT) (p0 : Int32) (u0 : hM) : Option (Int32 × hM) := fX9_power_L4 T p0 (fun (x3 : Int32) (u4 : hM) => some (x3, u4)) 6000 (1 : Int32) (0 : Int32) u0
set_option maxRecDepth 100000 in
set_option maxHeartbeats 4000000 in
theorem wfX9_power_L4 {c0 : Int32} {ex : Int32 → hM → Option (Int32 × hM)} {z : Int32 × hM} (hΓ : h_Γ E B T p s m args meth c cX9_power 3 (some .int) RX9) (hex : ∀ (y1 : Int32) (u9 : hM) (H9 : Heap) (L9 : List Loc) (ls : Array Slot), ex y1 u9 = some z → h_W E B T s.heap u9 H9 L9 → lv_has ls 3 [(1, .int y1)] → W p l e (h_rm 0) s m args below meth c H9 L9 0 0 (h_Qi below E B T args s z) (F0 m 19 ls [])) : ∀ (n : Nat) (v1 : Int32) (v2 : Int32) (u0 : hM) (H0 : Heap) (L0 : List Loc) (ls : Array Slot), fX9_power_L4 T c0 ex n v1 v2 u0 = some z → h_W E B T s.heap u0 H0 L0 → lv_has ls 3 [(0, .int c0), (1, .int v1), (2, .int v2)] → W p l e (h_rm 0) s m args below meth c H0 L0 0 0 (h_Qi below E B T args s z) (F0 m 4 ls []) := by
  obtain ⟨hx, hb, hr, hml, hts, hown, hlk, hX⟩ := id hΓ
  intro n
  induction n with
  | zero =>
    intro v1 v2 u0 H0 L0 ls hf hw hl
    exact absurd (show (none : Option (Int32 × hM)) = some z from hf) (fun h => by cases h)
  | succ n ih =>
    intro v1 v2 u0 H0 L0 ls hf hw hl
    rw [fX9_power_L4] at hf
    refine lv_iload_n hx hb dX9_power_4 rfl (lv_at hl 2 rfl) ?_
    refine lv_iload_n hx hb dX9_power_5 rfl (lv_at hl 0 rfl) ?_
    refine lv_icmp_ge (tgt := 19) hx hb dX9_power_6 (by decide) (fun hc => ?_) (fun hc => ?_)
    · have hf := ifp hc hf
      exact hex v1 u0 _ _ _ hf hw (lv_sub hl [1] rfl)
    · have hf := ifn hc hf
      refine lv_iload_n hx hb dX9_power_9 rfl (lv_at hl 1 rfl) ?_
      refine lv_iconst (v := 3) hx hb dX9_power_10 (by decide) ?_
      refine lv_imul hx hb dX9_power_11 ?_
      refine h_nmi hf (fun x1 hf => ?_)
      refine lv_istore_n (lv' := [(1, .int x1), (0, .int c0), (2, .int v2)]) hx hb dX9_power_12 rfl hl (by decide) rfl (fun ls hl => ?_)
      refine h_iinc (k := 2) hf hx hb dX9_power_13 hl rfl (by decide) (by decide) (fun x2 ls hf hl => ?_)
      have hl : lv_has ls 3 [(2, .int x2), (1, .int x1), (0, .int c0)] := hl
      refine lv_goto (tgt := 4) hx hb dX9_power_16 (by decide) ?_
      exact ih x1 x2 u0 _ _ _ hf hw (lv_sub hl [2, 1, 0] rfl)
set_option maxRecDepth 100000 in
set_option maxHeartbeats 4000000 in
theorem wX9_power {p0 : Int32} {u0 : hM} {z : Int32 × hM} {ls : Array Slot} (hΓ : h_Γ E B T p s m args meth c cX9_power 3 (some .int) RX9) (hf : fX9_power T p0 u0 = some z) (hw : h_W E B T s.heap u0 s.heap []) (hl : lv_has ls 3 [(0, .int p0)]) : W p l e (h_rm 0) s m args below meth c s.heap [] 0 0 (h_Qi below E B T args s z) (F0 m 0 ls []) := by
  obtain ⟨hx, hb, hr, hml, hts, hown, hlk, hX⟩ := id hΓ
  unfold fX9_power at hf
  refine lv_iconst (v := 1) hx hb dX9_power_0 (by decide) ?_
  refine lv_istore_n (lv' := [(1, .int (1 : Int32)), (0, .int p0)]) hx hb dX9_power_1 rfl hl (by decide) rfl (fun ls hl => ?_)
  refine lv_iconst (v := 0) hx hb dX9_power_2 (by decide) ?_
  refine lv_istore_n (lv' := [(2, .int (0 : Int32)), (1, .int (1 : Int32)), (0, .int p0)]) hx hb dX9_power_3 rfl hl (by decide) rfl (fun ls hl => ?_)
  refine wfX9_power_L4 hΓ ?_ 6000 (1 : Int32) (0 : Int32) u0 _ _ _ hf hw (lv_sub hl [2, 1, 0] rfl)
  intro x3 u4 H4 L4 ls hf hw hl
  refine lv_iload_n hx hb dX9_power_19 rfl (lv_at hl 0 rfl) ?_
  exact h_iret hf hx hb hr hlk hw dX9_power_20
theorem c_X9_power (l : Launch) (E : hE) (B : Nat) (T : hT) (p0 : Int32) (u0 : hM) {z : Int32 × hM} (hf : fX9_power T p0 u0 = some z) : h_Ct l E B T yX9_power cX9_power 3 (some .int) 0 [.int p0] u0 z.2 (some (.int z.1)) := h_ofW (by decide) (Nat.le_of_ble_eq_true rfl) (fun p e s m below meth c ls hΓ hl hw => wX9_power hΓ hf hw hl)
def fX9_leftOf_L2 (T : hT) (c0 : Nat) (c1 : Int32) (ex : hM → Option (Int32 × hM)) : Nat → Int32 → hM → Option (Int32 × hM)
  | 0, _, _ => none
  | n + 1, v3, u0 => if (6 : Int32) ≤ v3 then (ex u0) else ((gtr T u0 c0 9 8).bind fun a1 => (fX9_power T v3 u0).bind fun q2 => (dvi c1 q2.1).bind fun x3 => (asti T q2.2 a1 v3 (x3 - x3 / (3 : Int32) * (3 : Int32))).bind fun u4 => lt (v3 + (1 : Int32)) fun x5 => fX9_leftOf_L2 T c0 c1 ex n x5 u4)
def fX9_leftOf_L59 (T : hT) (c0 : Nat) (c1 : Int32) (ex : Int32 → hM → Option (Int32 × hM)) : Nat → Int32 → Int32 → hM → Option (Int32 × hM)
  | 0, _, _, _ => none
  | n + 1, v5, v6, u0 => (gti T u0 c0 9 5).bind fun x9 => if x9 ≤ v6 then (ex v5 u0) else ((gtr T u0 c0 9 8).bind fun a10 => (ald 11 T u0 a10 v6).bind fun x11 => lt (fun (x12 : Int32) (u13 : hM) => lt (v6 + (1 : Int32)) fun x14 => fX9_leftOf_L59 T c0 c1 ex n x12 x14 u13) fun J150 => if x11 = 0 then ((gtr T u0 c0 9 26).bind fun a15 => (fX9_power T v6 u0).bind fun q16 => (ald 11 T q16.2 a15 (c1 + q16.1)).bind fun x17 => (gtr T q16.2 c0 9 26).bind fun a18 => (fX9_power T v6 q16.2).bind fun q19 => (ald 11 T q19.2 a18 (c1 + ((2 : Int32) * q19.1))).bind fun x20 => (gtr T q19.2 c0 9 6).bind fun a21 => (ald 11 T q19.2 a21 ((4 : Int32) * v6)).bind fun x22 => lt (if x17 ≤ x20 then x20 else x17) fun x23 => lt ((x22 + x23)) fun x24 => lt (if v5 ≤ x24 then v5 else x24) fun x25 => J150 x25 q19.2) else (J150 v5 u0))
def fX9_leftOf (T : hT) (a0 : Nat) (p1 : Int32) (p2 : Int32) (u0 : hM) : Option (Int32 × hM) := fX9_leftOf_L2 T a0 p1 (fun (u6 : hM) => (vc T a0 9 (fX9_allOdds T a0 u6)).bind fun q7 => (vc T a0 9 (fX9_greatest T a0 q7.2)).bind fun q8 => if (q8.1 * (100 : Int64)) < (p2.toInt64 * q7.1) then (fX9_leftOf_L59 T a0 p1 (fun (x26 : Int32) (u27 : hM) => some (x26, u27)) 6000 (1000000 : Int32) (0 : Int32) q8.2) else (some ((0 : Int32), q8.2))) 6000 (0 : Int32) u0
set_option maxRecDepth 100000 in
set_option maxHeartbeats 4000000 in
theorem wfX9_leftOf_L2 {c0 : Nat} {c1 : Int32} {c2 : Int32} {ex : hM → Option (Int32 × hM)} {z : Int32 × hM} (hΓ : h_Γ E B T p s m args meth c cX9_leftOf 10 (some .int) RX9) (hex : ∀ (u9 : hM) (H9 : Heap) (L9 : List Loc) (ls : Array Slot), ex u9 = some z → h_W E B T s.heap u9 H9 L9 → lv_has ls 10 [(0, .ref (B + c0)), (1, .int c1), (2, .int c2)] → W p l e (h_rm 4) s m args below meth c H9 L9 0 0 (h_Qi below E B T args s z) (F0 m 28 ls [])) : ∀ (n : Nat) (v3 : Int32) (u0 : hM) (H0 : Heap) (L0 : List Loc) (ls : Array Slot), fX9_leftOf_L2 T c0 c1 ex n v3 u0 = some z → h_W E B T s.heap u0 H0 L0 → lv_has ls 10 [(0, .ref (B + c0)), (1, .int c1), (2, .int c2), (3, .int v3)] → W p l e (h_rm 4) s m args below meth c H0 L0 0 0 (h_Qi below E B T args s z) (F0 m 2 ls []) := by
  obtain ⟨hx, hb, hr, hml, hts, hown, hlk, hX⟩ := id hΓ
  intro n
  induction n with
  | zero =>
    intro v3 u0 H0 L0 ls hf hw hl
    exact absurd (show (none : Option (Int32 × hM)) = some z from hf) (fun h => by cases h)
  | succ n ih =>
    intro v3 u0 H0 L0 ls hf hw hl
    rw [fX9_leftOf_L2] at hf
    refine lv_iload_n hx hb dX9_leftOf_2 rfl (lv_at hl 3 rfl) ?_
    refine lv_bipush (v := 6) hx hb dX9_leftOf_3 (by decide) ?_
    refine lv_icmp_ge (tgt := 28) hx hb dX9_leftOf_5 (by decide) (fun hc => ?_) (fun hc => ?_)
    · have hf := ifp hc hf
      exact hex  u0 _ _ _ hf hw (lv_sub hl [0, 1, 2] rfl)
    · have hf := ifn hc hf
      refine lv_aload_n hx hb dX9_leftOf_8 rfl (lv_at hl 0 rfl) ?_
      refine h_getr hf hx hb hts hown hX hw flX9_26 rfl dX9_leftOf_9 (fun a1 hf => ?_)
      refine lv_iload_n hx hb dX9_leftOf_12 rfl (lv_at hl 3 rfl) ?_
      refine lv_iload_n hx hb dX9_leftOf_13 rfl (lv_at hl 1 rfl) ?_
      refine lv_iload_n hx hb dX9_leftOf_14 rfl (lv_at hl 3 rfl) ?_
      refine h_cSi (As := [.int v3]) (rest := [.int c1, .int v3, .ref (B + a1)]) hf hx hb hml hts hown hX hw myX9_power msX9_power lkX9_312 (fun q hq => c_X9_power l E B T v3 u0 hq) ⟨Nat.le_of_ble_eq_true rfl, Nat.le_of_ble_eq_true rfl⟩ ⟨Nat.le_refl _, Nat.le_refl _⟩ rfl hl.1 rfl (Nat.le_of_ble_eq_true rfl) dX9_leftOf_15 (fun q2 H2 L2 hf hw => ?_)
      refine h_dvi hf hx hb dX9_leftOf_18 (fun x3 hf => ?_)
      refine lv_iconst (v := 3) hx hb dX9_leftOf_19 (by decide) ?_
      refine lv_irem hx hb dX9_leftOf_20 (by decide) ?_
      refine h_iast hf hx hb hX hw dX9_leftOf_21 (fun u4 H4 L4 hf hw => ?_)
      refine h_iinc (k := 3) hf hx hb dX9_leftOf_22 hl rfl (by decide) (by decide) (fun x5 ls hf hl => ?_)
      have hl : lv_has ls 10 [(3, .int x5), (0, .ref (B + c0)), (1, .int c1), (2, .int c2)] := hl
      refine lv_goto (tgt := 2) hx hb dX9_leftOf_25 (by decide) ?_
      exact ih x5 u4 _ _ _ hf hw (lv_sub hl [1, 2, 3, 0] rfl)
set_option maxRecDepth 100000 in
set_option maxHeartbeats 4000000 in
theorem wfX9_leftOf_L59 {c0 : Nat} {c1 : Int32} {ex : Int32 → hM → Option (Int32 × hM)} {z : Int32 × hM} (hΓ : h_Γ E B T p s m args meth c cX9_leftOf 10 (some .int) RX9) (hex : ∀ (y5 : Int32) (u9 : hM) (H9 : Heap) (L9 : List Loc) (ls : Array Slot), ex y5 u9 = some z → h_W E B T s.heap u9 H9 L9 → lv_has ls 10 [(5, .int y5)] → W p l e (h_rm 4) s m args below meth c H9 L9 0 0 (h_Qi below E B T args s z) (F0 m 156 ls [])) : ∀ (n : Nat) (v5 : Int32) (v6 : Int32) (u0 : hM) (H0 : Heap) (L0 : List Loc) (ls : Array Slot), fX9_leftOf_L59 T c0 c1 ex n v5 v6 u0 = some z → h_W E B T s.heap u0 H0 L0 → lv_has ls 10 [(0, .ref (B + c0)), (1, .int c1), (5, .int v5), (6, .int v6)] → W p l e (h_rm 4) s m args below meth c H0 L0 0 0 (h_Qi below E B T args s z) (F0 m 59 ls []) := by
  obtain ⟨hx, hb, hr, hml, hts, hown, hlk, hX⟩ := id hΓ
  intro n
  induction n with
  | zero =>
    intro v5 v6 u0 H0 L0 ls hf hw hl
    exact absurd (show (none : Option (Int32 × hM)) = some z from hf) (fun h => by cases h)
  | succ n ih =>
    intro v5 v6 u0 H0 L0 ls hf hw hl
    rw [fX9_leftOf_L59] at hf
    refine lv_iload hx hb dX9_leftOf_59 (lv_at hl 3 rfl) ?_
    refine lv_aload_n hx hb dX9_leftOf_61 rfl (lv_at hl 0 rfl) ?_
    refine h_geti hf hx hb hts hown hX hw flX9_94 rfl dX9_leftOf_62 (fun x9 hf => ?_)
    refine lv_icmp_ge (tgt := 156) hx hb dX9_leftOf_65 (by decide) (fun hc => ?_) (fun hc => ?_)
    · have hf := ifp hc hf
      exact hex v5 u0 _ _ _ hf hw (lv_sub hl [2] rfl)
    · have hf := ifn hc hf
      refine lv_aload_n hx hb dX9_leftOf_68 rfl (lv_at hl 0 rfl) ?_
      refine h_getr hf hx hb hts hown hX hw flX9_26 rfl dX9_leftOf_69 (fun a10 hf => ?_)
      refine lv_iload hx hb dX9_leftOf_72 (lv_at hl 3 rfl) ?_
      refine h_iald hf hx hb hX hw dX9_leftOf_74 (fun x11 hf => ?_)
      obtain ⟨J150, eJ150, hf⟩ := h_lt hf
      have hJ150 : ∀ (x12 : Int32) (u13 : hM) (H13 : Heap) (L13 : List Loc) (ls : Array Slot), J150 x12 u13 = some z → h_W E B T s.heap u13 H13 L13 → lv_has ls 10 [(0, .ref (B + c0)), (1, .int c1), (5, .int x12), (6, .int v6)] → W p l e (h_rm 4) s m args below meth c H13 L13 0 0 (h_Qi below E B T args s z) (F0 m 150 ls []) := by
        intro x12 u13 H13 L13 ls hf hw hl
        rw [eJ150] at hf
        refine h_iinc (k := 3) hf hx hb dX9_leftOf_150 hl rfl (by decide) (by decide) (fun x14 ls hf hl => ?_)
        have hl : lv_has ls 10 [(6, .int x14), (0, .ref (B + c0)), (1, .int c1), (5, .int x12)] := hl
        refine lv_goto (tgt := 59) hx hb dX9_leftOf_153 (by decide) ?_
        exact ih x12 x14 u13 _ _ _ hf hw (lv_sub hl [1, 2, 3, 0] rfl)
      clear eJ150
      refine lv_if_ne (tgt := 150) hx hb dX9_leftOf_75 (by decide) (fun hc => ?_) (fun hc => ?_)
      · have hf := ifn hc hf
        exact hJ150 v5 u0 _ _ _ hf hw (lv_sub hl [0, 1, 2, 3] rfl)
      · have hf := ifp hc hf
        refine lv_aload_n hx hb dX9_leftOf_78 rfl (lv_at hl 0 rfl) ?_
        refine h_getr hf hx hb hts hown hX hw flX9_54 rfl dX9_leftOf_79 (fun a15 hf => ?_)
        refine lv_iload_n hx hb dX9_leftOf_82 rfl (lv_at hl 1 rfl) ?_
        refine lv_iload hx hb dX9_leftOf_83 (lv_at hl 3 rfl) ?_
        refine h_cSi (As := [.int v6]) (rest := [.int c1, .ref (B + a15)]) hf hx hb hml hts hown hX hw myX9_power msX9_power lkX9_312 (fun q hq => c_X9_power l E B T v6 u0 hq) ⟨Nat.le_of_ble_eq_true rfl, Nat.le_of_ble_eq_true rfl⟩ ⟨Nat.le_refl _, Nat.le_refl _⟩ rfl hl.1 rfl (Nat.le_of_ble_eq_true rfl) dX9_leftOf_85 (fun q16 H16 L16 hf hw => ?_)
        refine lv_iadd hx hb dX9_leftOf_88 ?_
        refine h_iald hf hx hb hX hw dX9_leftOf_89 (fun x17 hf => ?_)
        refine lv_istore (lv' := [(7, .int x17), (0, .ref (B + c0)), (1, .int c1), (5, .int v5), (6, .int v6)]) hx hb dX9_leftOf_90 hl (by decide) rfl (fun ls hl => ?_)
        refine lv_aload_n hx hb dX9_leftOf_92 rfl (lv_at hl 1 rfl) ?_
        refine h_getr hf hx hb hts hown hX hw flX9_54 rfl dX9_leftOf_93 (fun a18 hf => ?_)
        refine lv_iload_n hx hb dX9_leftOf_96 rfl (lv_at hl 2 rfl) ?_
        refine lv_iconst (v := 2) hx hb dX9_leftOf_97 (by decide) ?_
        refine lv_iload hx hb dX9_leftOf_98 (lv_at hl 4 rfl) ?_
        refine h_cSi (As := [.int v6]) (rest := [.int (2 : Int32), .int c1, .ref (B + a18)]) hf hx hb hml hts hown hX hw myX9_power msX9_power lkX9_312 (fun q hq => c_X9_power l E B T v6 q16.2 hq) ⟨Nat.le_of_ble_eq_true rfl, Nat.le_of_ble_eq_true rfl⟩ ⟨Nat.le_refl _, Nat.le_refl _⟩ rfl hl.1 rfl (Nat.le_of_ble_eq_true rfl) dX9_leftOf_100 (fun q19 H19 L19 hf hw => ?_)
        refine lv_imul hx hb dX9_leftOf_103 ?_
        refine lv_iadd hx hb dX9_leftOf_104 ?_
        refine h_iald hf hx hb hX hw dX9_leftOf_105 (fun x20 hf => ?_)
        refine lv_istore (lv' := [(8, .int x20), (7, .int x17), (0, .ref (B + c0)), (1, .int c1), (5, .int v5), (6, .int v6)]) hx hb dX9_leftOf_106 hl (by decide) rfl (fun ls hl => ?_)
        refine lv_aload_n hx hb dX9_leftOf_108 rfl (lv_at hl 2 rfl) ?_
        refine h_getr hf hx hb hts hown hX hw flX9_20 rfl dX9_leftOf_109 (fun a21 hf => ?_)
        refine lv_iconst (v := 4) hx hb dX9_leftOf_112 (by decide) ?_
        refine lv_iload hx hb dX9_leftOf_113 (lv_at hl 5 rfl) ?_
        refine lv_imul hx hb dX9_leftOf_115 ?_
        refine h_iald hf hx hb hX hw dX9_leftOf_116 (fun x22 hf => ?_)
        refine lv_iload hx hb dX9_leftOf_117 (lv_at hl 1 rfl) ?_
        refine lv_iload hx hb dX9_leftOf_119 (lv_at hl 0 rfl) ?_
        refine h_ite (ls := ls) (jj := 131) (rest := [.int x22]) hf (fun k1 k2 => ?_) (fun x23 hf => ?_)
        · refine lv_icmp_le (tgt := 129) hx hb dX9_leftOf_121 (by decide) (fun hc => ?_) (fun hc => ?_)
          · refine lv_iload hx hb dX9_leftOf_129 (lv_at hl 0 rfl) ?_
            exact k1 hc
          · refine lv_iload hx hb dX9_leftOf_124 (lv_at hl 1 rfl) ?_
            refine lv_goto (tgt := 131) hx hb dX9_leftOf_126 (by decide) ?_
            exact k2 hc
        · refine lv_iadd hx hb dX9_leftOf_131 ?_
          refine h_nmi hf (fun x24 hf => ?_)
          refine lv_istore (lv' := [(9, .int x24), (8, .int x20), (7, .int x17), (0, .ref (B + c0)), (1, .int c1), (5, .int v5), (6, .int v6)]) hx hb dX9_leftOf_132 hl (by decide) rfl (fun ls hl => ?_)
          refine lv_iload hx hb dX9_leftOf_134 (lv_at hl 0 rfl) ?_
          refine lv_iload hx hb dX9_leftOf_136 (lv_at hl 5 rfl) ?_
          refine h_ite (ls := ls) (jj := 148) (rest := []) hf (fun k1 k2 => ?_) (fun x25 hf => ?_)
          · refine lv_icmp_ge (tgt := 146) hx hb dX9_leftOf_138 (by decide) (fun hc => ?_) (fun hc => ?_)
            · refine lv_iload hx hb dX9_leftOf_146 (lv_at hl 5 rfl) ?_
              exact k1 hc
            · refine lv_iload hx hb dX9_leftOf_141 (lv_at hl 0 rfl) ?_
              refine lv_goto (tgt := 148) hx hb dX9_leftOf_143 (by decide) ?_
              exact k2 hc
          · refine lv_istore (lv' := [(5, .int x25), (9, .int x24), (8, .int x20), (7, .int x17), (0, .ref (B + c0)), (1, .int c1), (6, .int v6)]) hx hb dX9_leftOf_148 hl (by decide) rfl (fun ls hl => ?_)
            exact hJ150 x25 q19.2 _ _ _ hf hw (lv_sub hl [4, 5, 0, 6] rfl)
set_option maxRecDepth 100000 in
set_option maxHeartbeats 4000000 in
theorem wX9_leftOf {a0 : Nat} {p1 : Int32} {p2 : Int32} {u0 : hM} {z : Int32 × hM} {ls : Array Slot} (hΓ : h_Γ E B T p s m args meth c cX9_leftOf 10 (some .int) RX9) (hf : fX9_leftOf T a0 p1 p2 u0 = some z) (hw : h_W E B T s.heap u0 s.heap []) (hl : lv_has ls 10 [(0, .ref (B + a0)), (1, .int p1), (2, .int p2)]) : W p l e (h_rm 4) s m args below meth c s.heap [] 0 0 (h_Qi below E B T args s z) (F0 m 0 ls []) := by
  obtain ⟨hx, hb, hr, hml, hts, hown, hlk, hX⟩ := id hΓ
  unfold fX9_leftOf at hf
  refine lv_iconst (v := 0) hx hb dX9_leftOf_0 (by decide) ?_
  refine lv_istore_n (lv' := [(3, .int (0 : Int32)), (0, .ref (B + a0)), (1, .int p1), (2, .int p2)]) hx hb dX9_leftOf_1 rfl hl (by decide) rfl (fun ls hl => ?_)
  refine wfX9_leftOf_L2 hΓ ?_ 6000 (0 : Int32) u0 _ _ _ hf hw (lv_sub hl [1, 2, 3, 0] rfl)
  intro u6 H6 L6 ls hf hw hl
  refine lv_aload_n hx hb dX9_leftOf_28 rfl (lv_at hl 0 rfl) ?_
  refine h_cVl (As := []) (rest := []) hf hx hb hml hts hown hX hw myX9_allOdds miX9_allOdds lkX9_296 ⟨rfl, by decide⟩ (fun q hq => c_X9_allOdds l E B T a0 u6 hq) ⟨Nat.le_of_ble_eq_true rfl, Nat.le_of_ble_eq_true rfl⟩ ⟨Nat.le_refl _, Nat.le_refl _⟩ rfl hl.1 rfl (Nat.le_of_ble_eq_true rfl) dX9_leftOf_29 (fun q7 H7 L7 hf hw => ?_)
  refine lv_lstore_n (lv' := [(3, .long q7.1), (0, .ref (B + a0)), (1, .int p1), (2, .int p2)]) hx hb dX9_leftOf_32 rfl hl (by decide) rfl (fun ls hl => ?_)
  refine lv_aload_n hx hb dX9_leftOf_33 rfl (lv_at hl 1 rfl) ?_
  refine h_cVl (As := []) (rest := []) hf hx hb hml hts hown hX hw myX9_greatest miX9_greatest lkX9_306 ⟨rfl, by decide⟩ (fun q hq => c_X9_greatest l E B T a0 q7.2 hq) ⟨Nat.le_of_ble_eq_true rfl, Nat.le_of_ble_eq_true rfl⟩ ⟨Nat.le_refl _, Nat.le_refl _⟩ rfl hl.1 rfl (Nat.le_of_ble_eq_true rfl) dX9_leftOf_34 (fun q8 H8 L8 hf hw => ?_)
  refine lv_ldc2 hx hb hown (hts _ klX9_315) dX9_leftOf_37 ?_
  refine lv_lmul hx hb dX9_leftOf_40 ?_
  refine lv_iload_n hx hb dX9_leftOf_41 rfl (lv_at hl 3 rfl) ?_
  refine lv_i2l hx hb dX9_leftOf_42 rfl ?_
  refine lv_lload_n hx hb dX9_leftOf_43 rfl (lv_at hl 0 rfl) ?_
  refine lv_lmul hx hb dX9_leftOf_44 ?_
  refine W.lcmp hx hb dX9_leftOf_45 ?_
  refine lv_if_lt (tgt := 51) hx hb dX9_leftOf_46 (by decide) (fun hc => ?_) (fun hc => ?_)
  · have hc := (lg_cmp_lt _ _).mp hc
    have hf := ifp hc hf
    refine lv_ldcw hx hb hown (hts _ kcX9_317) dX9_leftOf_51 ?_
    refine lv_istore (lv' := [(5, .int (1000000 : Int32)), (3, .long q7.1), (0, .ref (B + a0)), (1, .int p1), (2, .int p2)]) hx hb dX9_leftOf_54 hl (by decide) rfl (fun ls hl => ?_)
    refine lv_iconst (v := 0) hx hb dX9_leftOf_56 (by decide) ?_
    refine lv_istore (lv' := [(6, .int (0 : Int32)), (5, .int (1000000 : Int32)), (3, .long q7.1), (0, .ref (B + a0)), (1, .int p1), (2, .int p2)]) hx hb dX9_leftOf_57 hl (by decide) rfl (fun ls hl => ?_)
    refine wfX9_leftOf_L59 hΓ ?_ 6000 (1000000 : Int32) (0 : Int32) q8.2 _ _ _ hf hw (lv_sub hl [3, 4, 1, 0] rfl)
    intro x26 u27 H27 L27 ls hf hw hl
    refine lv_iload hx hb dX9_leftOf_156 (lv_at hl 0 rfl) ?_
    exact h_iret hf hx hb hr hlk hw dX9_leftOf_158
  · have hc := (not_congr (lg_cmp_lt _ _)).mp hc
    have hf := ifn hc hf
    refine lv_iconst (v := 0) hx hb dX9_leftOf_49 (by decide) ?_
    exact h_iret hf hx hb hr hlk hw dX9_leftOf_50
theorem c_X9_leftOf (l : Launch) (E : hE) (B : Nat) (T : hT) (a0 : Nat) (p1 : Int32) (p2 : Int32) (u0 : hM) {z : Int32 × hM} (hf : fX9_leftOf T a0 p1 p2 u0 = some z) : h_Ct l E B T yX9_leftOf cX9_leftOf 10 (some .int) 4 [.ref (B + a0), .int p1, .int p2] u0 z.2 (some (.int z.1)) := h_ofW (by decide) (Nat.le_of_ble_eq_true rfl) (fun p e s m below meth c ls hΓ hl hw => wX9_leftOf hΓ hf hw hl)
def fX9_left_L19 (T : hT) (c0 : Nat) (ex : Int32 → hM → Option (Int32 × hM)) : Nat → Int32 → Int32 → hM → Option (Int32 × hM)
  | 0, _, _, _ => none
  | n + 1, v2, v3, u0 => if (6 : Int32) ≤ v3 then (ex v2 u0) else ((gtr T u0 c0 9 27).bind fun a2 => (gtr T u0 c0 9 8).bind fun a3 => (ald 11 T u0 a3 v3).bind fun x4 => (asti T u0 a2 v3 x4).bind fun u5 => (gtr T u5 c0 9 8).bind fun a6 => (ald 11 T u5 a6 v3).bind fun x7 => (fX9_power T v3 u5).bind fun q8 => lt ((v2 + (x7 * q8.1))) fun x9 => lt (v3 + (1 : Int32)) fun x10 => fX9_left_L19 T c0 ex n x9 x10 q8.2)
def fX9_left_L67 (T : hT) (c0 : Nat) (c1 : Int32) (ex : hM → Option (Int32 × hM)) : Nat → Int32 → hM → Option (Int32 × hM)
  | 0, _, _ => none
  | n + 1, v3, u0 => if v3 < 0 then (ex u0) else ((gtr T u0 c0 9 26).bind fun a16 => (vc T c0 9 (fX9_leftOf T c0 v3 c1 u0)).bind fun q17 => (asti T q17.2 a16 v3 q17.1).bind fun u18 => lt (v3 + (-1 : Int32)) fun x19 => fX9_left_L67 T c0 c1 ex n x19 u18)
def fX9_left_L91 (T : hT) (c0 : Nat) (ex : hM → Option (Int32 × hM)) : Nat → Int32 → hM → Option (Int32 × hM)
  | 0, _, _ => none
  | n + 1, v3, u0 => if (6 : Int32) ≤ v3 then (ex u0) else ((gtr T u0 c0 9 8).bind fun a21 => (gtr T u0 c0 9 27).bind fun a22 => (ald 11 T u0 a22 v3).bind fun x23 => (asti T u0 a21 v3 x23).bind fun u24 => lt (v3 + (1 : Int32)) fun x25 => fX9_left_L91 T c0 ex n x25 u24)
def fX9_left (T : hT) (a0 : Nat) (p1 : Int32) (u0 : hM) : Option (Int32 × hM) := (fX9_in T p1.toInt64 (1 : Int64) (100 : Int64) u0).bind fun q1 => if q1.1 = 0 then (some ((-1000000002 : Int32), q1.2)) else (fX9_left_L19 T a0 (fun (x11 : Int32) (u12 : hM) => (gti T u12 a0 9 5).bind fun x13 => (fX9_power T x13 u12).bind fun q14 => lt ((q14.1 - (1 : Int32))) fun x15 => fX9_left_L67 T a0 p1 (fun (u20 : hM) => fX9_left_L91 T a0 (fun (u26 : hM) => (gtr T u26 a0 9 26).bind fun a27 => (ald 11 T u26 a27 x11).bind fun x28 => if x28 < (1000000 : Int32) then ((gtr T u26 a0 9 26).bind fun a29 => (ald 11 T u26 a29 x11).bind fun x30 => some (x30, u26)) else (some ((-1 : Int32), u26))) 6000 (0 : Int32) u20) 6000 x15 q14.2) 6000 (0 : Int32) (0 : Int32) q1.2)
set_option maxRecDepth 100000 in
set_option maxHeartbeats 4000000 in
theorem wfX9_left_L19 {c0 : Nat} {c1 : Int32} {ex : Int32 → hM → Option (Int32 × hM)} {z : Int32 × hM} (hΓ : h_Γ E B T p s m args meth c cX9_left 4 (some .int) RX9) (hex : ∀ (y2 : Int32) (u9 : hM) (H9 : Heap) (L9 : List Loc) (ls : Array Slot), ex y2 u9 = some z → h_W E B T s.heap u9 H9 L9 → lv_has ls 4 [(0, .ref (B + c0)), (1, .int c1), (2, .int y2)] → W p l e (h_rm 5) s m args below meth c H9 L9 0 0 (h_Qi below E B T args s z) (F0 m 57 ls [])) : ∀ (n : Nat) (v2 : Int32) (v3 : Int32) (u0 : hM) (H0 : Heap) (L0 : List Loc) (ls : Array Slot), fX9_left_L19 T c0 ex n v2 v3 u0 = some z → h_W E B T s.heap u0 H0 L0 → lv_has ls 4 [(0, .ref (B + c0)), (1, .int c1), (2, .int v2), (3, .int v3)] → W p l e (h_rm 5) s m args below meth c H0 L0 0 0 (h_Qi below E B T args s z) (F0 m 19 ls []) := by
  obtain ⟨hx, hb, hr, hml, hts, hown, hlk, hX⟩ := id hΓ
  intro n
  induction n with
  | zero =>
    intro v2 v3 u0 H0 L0 ls hf hw hl
    exact absurd (show (none : Option (Int32 × hM)) = some z from hf) (fun h => by cases h)
  | succ n ih =>
    intro v2 v3 u0 H0 L0 ls hf hw hl
    rw [fX9_left_L19] at hf
    refine lv_iload_n hx hb dX9_left_19 rfl (lv_at hl 3 rfl) ?_
    refine lv_bipush (v := 6) hx hb dX9_left_20 (by decide) ?_
    refine lv_icmp_ge (tgt := 57) hx hb dX9_left_22 (by decide) (fun hc => ?_) (fun hc => ?_)
    · have hf := ifp hc hf
      exact hex v2 u0 _ _ _ hf hw (lv_sub hl [0, 1, 2] rfl)
    · have hf := ifn hc hf
      refine lv_aload_n hx hb dX9_left_25 rfl (lv_at hl 0 rfl) ?_
      refine h_getr hf hx hb hts hown hX hw flX9_57 rfl dX9_left_26 (fun a2 hf => ?_)
      refine lv_iload_n hx hb dX9_left_29 rfl (lv_at hl 3 rfl) ?_
      refine lv_aload_n hx hb dX9_left_30 rfl (lv_at hl 0 rfl) ?_
      refine h_getr hf hx hb hts hown hX hw flX9_26 rfl dX9_left_31 (fun a3 hf => ?_)
      refine lv_iload_n hx hb dX9_left_34 rfl (lv_at hl 3 rfl) ?_
      refine h_iald hf hx hb hX hw dX9_left_35 (fun x4 hf => ?_)
      refine h_iast hf hx hb hX hw dX9_left_36 (fun u5 H5 L5 hf hw => ?_)
      refine lv_iload_n hx hb dX9_left_37 rfl (lv_at hl 2 rfl) ?_
      refine lv_aload_n hx hb dX9_left_38 rfl (lv_at hl 0 rfl) ?_
      refine h_getr hf hx hb hts hown hX hw flX9_26 rfl dX9_left_39 (fun a6 hf => ?_)
      refine lv_iload_n hx hb dX9_left_42 rfl (lv_at hl 3 rfl) ?_
      refine h_iald hf hx hb hX hw dX9_left_43 (fun x7 hf => ?_)
      refine lv_iload_n hx hb dX9_left_44 rfl (lv_at hl 3 rfl) ?_
      refine h_cSi (As := [.int v3]) (rest := [.int x7, .int v2]) hf hx hb hml hts hown hX hw myX9_power msX9_power lkX9_312 (fun q hq => c_X9_power l E B T v3 u5 hq) ⟨Nat.le_of_ble_eq_true rfl, Nat.le_of_ble_eq_true rfl⟩ ⟨Nat.le_refl _, Nat.le_refl _⟩ rfl hl.1 rfl (Nat.le_of_ble_eq_true rfl) dX9_left_45 (fun q8 H8 L8 hf hw => ?_)
      refine lv_imul hx hb dX9_left_48 ?_
      refine lv_iadd hx hb dX9_left_49 ?_
      refine h_nmi hf (fun x9 hf => ?_)
      refine lv_istore_n (lv' := [(2, .int x9), (0, .ref (B + c0)), (1, .int c1), (3, .int v3)]) hx hb dX9_left_50 rfl hl (by decide) rfl (fun ls hl => ?_)
      refine h_iinc (k := 3) hf hx hb dX9_left_51 hl rfl (by decide) (by decide) (fun x10 ls hf hl => ?_)
      have hl : lv_has ls 4 [(3, .int x10), (2, .int x9), (0, .ref (B + c0)), (1, .int c1)] := hl
      refine lv_goto (tgt := 19) hx hb dX9_left_54 (by decide) ?_
      exact ih x9 x10 q8.2 _ _ _ hf hw (lv_sub hl [2, 3, 1, 0] rfl)
set_option maxRecDepth 100000 in
set_option maxHeartbeats 4000000 in
theorem wfX9_left_L67 {c0 : Nat} {c1 : Int32} {c2 : Int32} {ex : hM → Option (Int32 × hM)} {z : Int32 × hM} (hΓ : h_Γ E B T p s m args meth c cX9_left 4 (some .int) RX9) (hex : ∀ (u9 : hM) (H9 : Heap) (L9 : List Loc) (ls : Array Slot), ex u9 = some z → h_W E B T s.heap u9 H9 L9 → lv_has ls 4 [(0, .ref (B + c0)), (2, .int c2)] → W p l e (h_rm 5) s m args below meth c H9 L9 0 0 (h_Qi below E B T args s z) (F0 m 89 ls [])) : ∀ (n : Nat) (v3 : Int32) (u0 : hM) (H0 : Heap) (L0 : List Loc) (ls : Array Slot), fX9_left_L67 T c0 c1 ex n v3 u0 = some z → h_W E B T s.heap u0 H0 L0 → lv_has ls 4 [(0, .ref (B + c0)), (1, .int c1), (2, .int c2), (3, .int v3)] → W p l e (h_rm 5) s m args below meth c H0 L0 0 0 (h_Qi below E B T args s z) (F0 m 67 ls []) := by
  obtain ⟨hx, hb, hr, hml, hts, hown, hlk, hX⟩ := id hΓ
  intro n
  induction n with
  | zero =>
    intro v3 u0 H0 L0 ls hf hw hl
    exact absurd (show (none : Option (Int32 × hM)) = some z from hf) (fun h => by cases h)
  | succ n ih =>
    intro v3 u0 H0 L0 ls hf hw hl
    rw [fX9_left_L67] at hf
    refine lv_iload_n hx hb dX9_left_67 rfl (lv_at hl 3 rfl) ?_
    refine lv_if_lt (tgt := 89) hx hb dX9_left_68 (by decide) (fun hc => ?_) (fun hc => ?_)
    · have hf := ifp hc hf
      exact hex  u0 _ _ _ hf hw (lv_sub hl [0, 2] rfl)
    · have hf := ifn hc hf
      refine lv_aload_n hx hb dX9_left_71 rfl (lv_at hl 0 rfl) ?_
      refine h_getr hf hx hb hts hown hX hw flX9_54 rfl dX9_left_72 (fun a16 hf => ?_)
      refine lv_iload_n hx hb dX9_left_75 rfl (lv_at hl 3 rfl) ?_
      refine lv_aload_n hx hb dX9_left_76 rfl (lv_at hl 0 rfl) ?_
      refine lv_iload_n hx hb dX9_left_77 rfl (lv_at hl 3 rfl) ?_
      refine lv_iload_n hx hb dX9_left_78 rfl (lv_at hl 1 rfl) ?_
      refine h_cVi (As := [.int v3, .int c1]) (rest := [.int v3, .ref (B + a16)]) hf hx hb hml hts hown hX hw myX9_leftOf miX9_leftOf lkX9_318 ⟨rfl, by decide⟩ (fun q hq => c_X9_leftOf l E B T c0 v3 c1 u0 hq) ⟨Nat.le_of_ble_eq_true rfl, Nat.le_of_ble_eq_true rfl⟩ ⟨Nat.le_refl _, Nat.le_refl _⟩ rfl hl.1 rfl (Nat.le_of_ble_eq_true rfl) dX9_left_79 (fun q17 H17 L17 hf hw => ?_)
      refine h_iast hf hx hb hX hw dX9_left_82 (fun u18 H18 L18 hf hw => ?_)
      refine h_iinc (k := 3) hf hx hb dX9_left_83 hl rfl (by decide) (by decide) (fun x19 ls hf hl => ?_)
      have hl : lv_has ls 4 [(3, .int x19), (0, .ref (B + c0)), (1, .int c1), (2, .int c2)] := hl
      refine lv_goto (tgt := 67) hx hb dX9_left_86 (by decide) ?_
      exact ih x19 u18 _ _ _ hf hw (lv_sub hl [1, 2, 3, 0] rfl)
set_option maxRecDepth 100000 in
set_option maxHeartbeats 4000000 in
theorem wfX9_left_L91 {c0 : Nat} {c2 : Int32} {ex : hM → Option (Int32 × hM)} {z : Int32 × hM} (hΓ : h_Γ E B T p s m args meth c cX9_left 4 (some .int) RX9) (hex : ∀ (u9 : hM) (H9 : Heap) (L9 : List Loc) (ls : Array Slot), ex u9 = some z → h_W E B T s.heap u9 H9 L9 → lv_has ls 4 [(0, .ref (B + c0)), (2, .int c2)] → W p l e (h_rm 5) s m args below meth c H9 L9 0 0 (h_Qi below E B T args s z) (F0 m 115 ls [])) : ∀ (n : Nat) (v3 : Int32) (u0 : hM) (H0 : Heap) (L0 : List Loc) (ls : Array Slot), fX9_left_L91 T c0 ex n v3 u0 = some z → h_W E B T s.heap u0 H0 L0 → lv_has ls 4 [(0, .ref (B + c0)), (2, .int c2), (3, .int v3)] → W p l e (h_rm 5) s m args below meth c H0 L0 0 0 (h_Qi below E B T args s z) (F0 m 91 ls []) := by
  obtain ⟨hx, hb, hr, hml, hts, hown, hlk, hX⟩ := id hΓ
  intro n
  induction n with
  | zero =>
    intro v3 u0 H0 L0 ls hf hw hl
    exact absurd (show (none : Option (Int32 × hM)) = some z from hf) (fun h => by cases h)
  | succ n ih =>
    intro v3 u0 H0 L0 ls hf hw hl
    rw [fX9_left_L91] at hf
    refine lv_iload_n hx hb dX9_left_91 rfl (lv_at hl 2 rfl) ?_
    refine lv_bipush (v := 6) hx hb dX9_left_92 (by decide) ?_
    refine lv_icmp_ge (tgt := 115) hx hb dX9_left_94 (by decide) (fun hc => ?_) (fun hc => ?_)
    · have hf := ifp hc hf
      exact hex  u0 _ _ _ hf hw (lv_sub hl [0, 1] rfl)
    · have hf := ifn hc hf
      refine lv_aload_n hx hb dX9_left_97 rfl (lv_at hl 0 rfl) ?_
      refine h_getr hf hx hb hts hown hX hw flX9_26 rfl dX9_left_98 (fun a21 hf => ?_)
      refine lv_iload_n hx hb dX9_left_101 rfl (lv_at hl 2 rfl) ?_
      refine lv_aload_n hx hb dX9_left_102 rfl (lv_at hl 0 rfl) ?_
      refine h_getr hf hx hb hts hown hX hw flX9_57 rfl dX9_left_103 (fun a22 hf => ?_)
      refine lv_iload_n hx hb dX9_left_106 rfl (lv_at hl 2 rfl) ?_
      refine h_iald hf hx hb hX hw dX9_left_107 (fun x23 hf => ?_)
      refine h_iast hf hx hb hX hw dX9_left_108 (fun u24 H24 L24 hf hw => ?_)
      refine h_iinc (k := 2) hf hx hb dX9_left_109 hl rfl (by decide) (by decide) (fun x25 ls hf hl => ?_)
      have hl : lv_has ls 4 [(3, .int x25), (0, .ref (B + c0)), (2, .int c2)] := hl
      refine lv_goto (tgt := 91) hx hb dX9_left_112 (by decide) ?_
      exact ih x25 u24 _ _ _ hf hw (lv_sub hl [1, 2, 0] rfl)
set_option maxRecDepth 100000 in
set_option maxHeartbeats 4000000 in
theorem wX9_left {a0 : Nat} {p1 : Int32} {u0 : hM} {z : Int32 × hM} {ls : Array Slot} (hΓ : h_Γ E B T p s m args meth c cX9_left 4 (some .int) RX9) (hf : fX9_left T a0 p1 u0 = some z) (hw : h_W E B T s.heap u0 s.heap []) (hl : lv_has ls 4 [(0, .ref (B + a0)), (1, .int p1)]) : W p l e (h_rm 5) s m args below meth c s.heap [] 0 0 (h_Qi below E B T args s z) (F0 m 0 ls []) := by
  obtain ⟨hx, hb, hr, hml, hts, hown, hlk, hX⟩ := id hΓ
  unfold fX9_left at hf
  refine lv_iload_n hx hb dX9_left_0 rfl (lv_at hl 1 rfl) ?_
  refine lv_i2l hx hb dX9_left_1 rfl ?_
  refine lv_lconst (v := 1) hx hb dX9_left_2 (by decide) ?_
  refine lv_ldc2 hx hb hown (hts _ klX9_315) dX9_left_3 ?_
  refine h_cSi (As := [.long p1.toInt64, .long (1 : Int64), .long (100 : Int64)]) (rest := []) hf hx hb hml hts hown hX hw myX9_in msX9_in lkX9_90 (fun q hq => c_X9_in l E B T p1.toInt64 (1 : Int64) (100 : Int64) u0 hq) ⟨Nat.le_of_ble_eq_true rfl, Nat.le_of_ble_eq_true rfl⟩ ⟨Nat.le_refl _, Nat.le_refl _⟩ rfl hl.1 rfl (Nat.le_of_ble_eq_true rfl) dX9_left_6 (fun q1 H1 L1 hf hw => ?_)
  refine lv_if_ne (tgt := 15) hx hb dX9_left_9 (by decide) (fun hc => ?_) (fun hc => ?_)
  · have hf := ifn hc hf
    refine lv_iconst (v := 0) hx hb dX9_left_15 (by decide) ?_
    refine lv_istore_n (lv' := [(2, .int (0 : Int32)), (0, .ref (B + a0)), (1, .int p1)]) hx hb dX9_left_16 rfl hl (by decide) rfl (fun ls hl => ?_)
    refine lv_iconst (v := 0) hx hb dX9_left_17 (by decide) ?_
    refine lv_istore_n (lv' := [(3, .int (0 : Int32)), (2, .int (0 : Int32)), (0, .ref (B + a0)), (1, .int p1)]) hx hb dX9_left_18 rfl hl (by decide) rfl (fun ls hl => ?_)
    refine wfX9_left_L19 hΓ ?_ 6000 (0 : Int32) (0 : Int32) q1.2 _ _ _ hf hw (lv_sub hl [2, 3, 1, 0] rfl)
    intro x11 u12 H12 L12 ls hf hw hl
    refine lv_aload_n hx hb dX9_left_57 rfl (lv_at hl 0 rfl) ?_
    refine h_geti hf hx hb hts hown hX hw flX9_94 rfl dX9_left_58 (fun x13 hf => ?_)
    refine h_cSi (As := [.int x13]) (rest := []) hf hx hb hml hts hown hX hw myX9_power msX9_power lkX9_312 (fun q hq => c_X9_power l E B T x13 u12 hq) ⟨Nat.le_of_ble_eq_true rfl, Nat.le_of_ble_eq_true rfl⟩ ⟨Nat.le_refl _, Nat.le_refl _⟩ rfl hl.1 rfl (Nat.le_of_ble_eq_true rfl) dX9_left_61 (fun q14 H14 L14 hf hw => ?_)
    refine lv_iconst (v := 1) hx hb dX9_left_64 (by decide) ?_
    refine lv_isub hx hb dX9_left_65 ?_
    refine h_nmi hf (fun x15 hf => ?_)
    refine lv_istore_n (lv' := [(3, .int x15), (0, .ref (B + a0)), (1, .int p1), (2, .int x11)]) hx hb dX9_left_66 rfl hl (by decide) rfl (fun ls hl => ?_)
    refine wfX9_left_L67 hΓ ?_ 6000 x15 q14.2 _ _ _ hf hw (lv_sub hl [1, 2, 3, 0] rfl)
    intro u20 H20 L20 ls hf hw hl
    refine lv_iconst (v := 0) hx hb dX9_left_89 (by decide) ?_
    refine lv_istore_n (lv' := [(3, .int (0 : Int32)), (0, .ref (B + a0)), (2, .int x11)]) hx hb dX9_left_90 rfl hl (by decide) rfl (fun ls hl => ?_)
    refine wfX9_left_L91 hΓ ?_ 6000 (0 : Int32) u20 _ _ _ hf hw (lv_sub hl [1, 2, 0] rfl)
    intro u26 H26 L26 ls hf hw hl
    refine lv_aload_n hx hb dX9_left_115 rfl (lv_at hl 0 rfl) ?_
    refine h_getr hf hx hb hts hown hX hw flX9_54 rfl dX9_left_116 (fun a27 hf => ?_)
    refine lv_iload_n hx hb dX9_left_119 rfl (lv_at hl 1 rfl) ?_
    refine h_iald hf hx hb hX hw dX9_left_120 (fun x28 hf => ?_)
    refine lv_ldcw hx hb hown (hts _ kcX9_317) dX9_left_121 ?_
    refine lv_icmp_lt (tgt := 131) hx hb dX9_left_124 (by decide) (fun hc => ?_) (fun hc => ?_)
    · have hf := ifp hc hf
      refine lv_aload_n hx hb dX9_left_131 rfl (lv_at hl 0 rfl) ?_
      refine h_getr hf hx hb hts hown hX hw flX9_54 rfl dX9_left_132 (fun a29 hf => ?_)
      refine lv_iload_n hx hb dX9_left_135 rfl (lv_at hl 1 rfl) ?_
      refine h_iald hf hx hb hX hw dX9_left_136 (fun x30 hf => ?_)
      exact h_iret hf hx hb hr hlk hw dX9_left_137
    · have hf := ifn hc hf
      refine lv_iconst (v := -1) hx hb dX9_left_127 (by decide) ?_
      refine lv_goto (tgt := 137) hx hb dX9_left_128 (by decide) ?_
      exact h_iret hf hx hb hr hlk hw dX9_left_137
  · have hf := ifp hc hf
    refine lv_ldc hx hb hown (hts _ kcX9_99) dX9_left_12 ?_
    exact h_iret hf hx hb hr hlk hw dX9_left_14
theorem c_X9_left (l : Launch) (E : hE) (B : Nat) (T : hT) (a0 : Nat) (p1 : Int32) (u0 : hM) {z : Int32 × hM} (hf : fX9_left T a0 p1 u0 = some z) : h_Ct l E B T yX9_left cX9_left 4 (some .int) 5 [.ref (B + a0), .int p1] u0 z.2 (some (.int z.1)) := h_ofW (by decide) (Nat.le_of_ble_eq_true rfl) (fun p e s m below meth c ls hΓ hl hw => wX9_left hΓ hf hw hl)
def fX9_alike_L31 (T : hT) (c0 : Nat) (c1 : Int32) (c3 : Int32) (ex : Int32 → hM → Option (Int32 × hM)) : Nat → Int32 → Int32 → hM → Option (Int32 × hM)
  | 0, _, _, _ => none
  | n + 1, v4, v5, u0 => (gti T u0 c0 9 5).bind fun x2 => if x2 ≤ v5 then (ex v4 u0) else (lt (fun (x3 : Int32) (u4 : hM) => lt (v5 + (1 : Int32)) fun x5 => fX9_alike_L31 T c0 c1 c3 ex n x3 x5 u4) fun J67 => lt (fun (u6 : hM) => J67 (0 : Int32) u6) fun J66 => if v4 = 0 then (J66 u0) else ((vc T c0 9 (fX9_lacks T c0 v5 c1 u0)).bind fun q7 => (vc T c0 9 (fX9_lacks T c0 v5 c3 q7.2)).bind fun q8 => if q7.1 = q8.1 then (J67 (1 : Int32) q8.2) else (J66 q8.2)))
def fX9_alike_L19 (T : hT) (c0 : Nat) (c1 : Int32) (ex : Int32 → hM → Option (Int32 × hM)) : Nat → Int32 → Int32 → hM → Option (Int32 × hM)
  | 0, _, _, _ => none
  | n + 1, v2, v3, u0 => if (16 : Int32) ≤ v3 then (ex v2 u0) else (fX9_alike_L31 T c0 c1 v3 (fun (x9 : Int32) (u10 : hM) => lt (fun (x11 : Int32) (u12 : hM) => lt ((v2 ||| x11)) fun x13 => lt (v3 + (1 : Int32)) fun x14 => fX9_alike_L19 T c0 c1 ex n x13 x14 u12) fun J88 => if x9 = 0 then (J88 (0 : Int32) u10) else (J88 ((1 : Int32) <<< (v3 &&& 31)) u10)) 6000 (1 : Int32) (0 : Int32) u0)
def fX9_alike (T : hT) (a0 : Nat) (p1 : Int32) (u0 : hM) : Option (Int32 × hM) := (fX9_in T p1.toInt64 (0 : Int64) (15 : Int64) u0).bind fun q1 => if q1.1 = 0 then (some ((-1000000001 : Int32), q1.2)) else (fX9_alike_L19 T a0 p1 (fun (x15 : Int32) (u16 : hM) => some (x15, u16)) 6000 (0 : Int32) (0 : Int32) q1.2)
set_option maxRecDepth 100000 in
set_option maxHeartbeats 4000000 in
theorem wfX9_alike_L31 {c0 : Nat} {c1 : Int32} {c2 : Int32} {c3 : Int32} {ex : Int32 → hM → Option (Int32 × hM)} {z : Int32 × hM} (hΓ : h_Γ E B T p s m args meth c cX9_alike 6 (some .int) RX9) (hex : ∀ (y4 : Int32) (u9 : hM) (H9 : Heap) (L9 : List Loc) (ls : Array Slot), ex y4 u9 = some z → h_W E B T s.heap u9 H9 L9 → lv_has ls 6 [(0, .ref (B + c0)), (1, .int c1), (2, .int c2), (3, .int c3), (4, .int y4)] → W p l e (h_rm 1) s m args below meth c H9 L9 0 0 (h_Qi below E B T args s z) (F0 m 75 ls [])) : ∀ (n : Nat) (v4 : Int32) (v5 : Int32) (u0 : hM) (H0 : Heap) (L0 : List Loc) (ls : Array Slot), fX9_alike_L31 T c0 c1 c3 ex n v4 v5 u0 = some z → h_W E B T s.heap u0 H0 L0 → lv_has ls 6 [(0, .ref (B + c0)), (1, .int c1), (2, .int c2), (3, .int c3), (4, .int v4), (5, .int v5)] → W p l e (h_rm 1) s m args below meth c H0 L0 0 0 (h_Qi below E B T args s z) (F0 m 31 ls []) := by
  obtain ⟨hx, hb, hr, hml, hts, hown, hlk, hX⟩ := id hΓ
  intro n
  induction n with
  | zero =>
    intro v4 v5 u0 H0 L0 ls hf hw hl
    exact absurd (show (none : Option (Int32 × hM)) = some z from hf) (fun h => by cases h)
  | succ n ih =>
    intro v4 v5 u0 H0 L0 ls hf hw hl
    rw [fX9_alike_L31] at hf
    refine lv_iload hx hb dX9_alike_31 (lv_at hl 5 rfl) ?_
    refine lv_aload_n hx hb dX9_alike_33 rfl (lv_at hl 0 rfl) ?_
    refine h_geti hf hx hb hts hown hX hw flX9_94 rfl dX9_alike_34 (fun x2 hf => ?_)
    refine lv_icmp_ge (tgt := 75) hx hb dX9_alike_37 (by decide) (fun hc => ?_) (fun hc => ?_)
    · have hf := ifp hc hf
      exact hex v4 u0 _ _ _ hf hw (lv_sub hl [0, 1, 2, 3, 4] rfl)
    · have hf := ifn hc hf
      refine lv_iload hx hb dX9_alike_40 (lv_at hl 4 rfl) ?_
      obtain ⟨J67, eJ67, hf⟩ := h_lt hf
      have hJ67 : ∀ (x3 : Int32) (u4 : hM) (H4 : Heap) (L4 : List Loc) (ls : Array Slot), J67 x3 u4 = some z → h_W E B T s.heap u4 H4 L4 → lv_has ls 6 [(0, .ref (B + c0)), (1, .int c1), (2, .int c2), (3, .int c3), (5, .int v5)] → W p l e (h_rm 1) s m args below meth c H4 L4 0 0 (h_Qi below E B T args s z) (F0 m 67 ls [.int x3]) := by
        intro x3 u4 H4 L4 ls hf hw hl
        rw [eJ67] at hf
        refine lv_istore (lv' := [(4, .int x3), (0, .ref (B + c0)), (1, .int c1), (2, .int c2), (3, .int c3), (5, .int v5)]) hx hb dX9_alike_67 hl (by decide) rfl (fun ls hl => ?_)
        refine h_iinc (k := 5) hf hx hb dX9_alike_69 hl rfl (by decide) (by decide) (fun x5 ls hf hl => ?_)
        have hl : lv_has ls 6 [(5, .int x5), (4, .int x3), (0, .ref (B + c0)), (1, .int c1), (2, .int c2), (3, .int c3)] := hl
        refine lv_goto (tgt := 31) hx hb dX9_alike_72 (by decide) ?_
        exact ih x3 x5 u4 _ _ _ hf hw (lv_sub hl [2, 3, 4, 5, 1, 0] rfl)
      clear eJ67
      obtain ⟨J66, eJ66, hf⟩ := h_lt hf
      have hJ66 : ∀ (u6 : hM) (H6 : Heap) (L6 : List Loc) (ls : Array Slot), J66  u6 = some z → h_W E B T s.heap u6 H6 L6 → lv_has ls 6 [(0, .ref (B + c0)), (1, .int c1), (2, .int c2), (3, .int c3), (5, .int v5)] → W p l e (h_rm 1) s m args below meth c H6 L6 0 0 (h_Qi below E B T args s z) (F0 m 66 ls []) := by
        intro  u6 H6 L6 ls hf hw hl
        rw [eJ66] at hf
        refine lv_iconst (v := 0) hx hb dX9_alike_66 (by decide) ?_
        exact hJ67 (0 : Int32) u6 _ _ _ hf hw (lv_sub hl [0, 1, 2, 3, 4] rfl)
      clear eJ66
      refine lv_if_eq (tgt := 66) hx hb dX9_alike_42 (by decide) (fun hc => ?_) (fun hc => ?_)
      · have hf := ifp hc hf
        exact hJ66  u0 _ _ _ hf hw (lv_sub hl [0, 1, 2, 3, 5] rfl)
      · have hf := ifn hc hf
        refine lv_aload_n hx hb dX9_alike_45 rfl (lv_at hl 0 rfl) ?_
        refine lv_iload hx hb dX9_alike_46 (lv_at hl 5 rfl) ?_
        refine lv_iload_n hx hb dX9_alike_48 rfl (lv_at hl 1 rfl) ?_
        refine h_cVi (As := [.int v5, .int c1]) (rest := []) hf hx hb hml hts hown hX hw myX9_lacks miX9_lacks lkX9_289 ⟨rfl, by decide⟩ (fun q hq => c_X9_lacks l E B T c0 v5 c1 u0 hq) ⟨Nat.le_of_ble_eq_true rfl, Nat.le_of_ble_eq_true rfl⟩ ⟨Nat.le_refl _, Nat.le_refl _⟩ rfl hl.1 rfl (Nat.le_of_ble_eq_true rfl) dX9_alike_49 (fun q7 H7 L7 hf hw => ?_)
        refine lv_aload_n hx hb dX9_alike_52 rfl (lv_at hl 0 rfl) ?_
        refine lv_iload hx hb dX9_alike_53 (lv_at hl 5 rfl) ?_
        refine lv_iload_n hx hb dX9_alike_55 rfl (lv_at hl 3 rfl) ?_
        refine h_cVi (As := [.int v5, .int c3]) (rest := [.int q7.1]) hf hx hb hml hts hown hX hw myX9_lacks miX9_lacks lkX9_289 ⟨rfl, by decide⟩ (fun q hq => c_X9_lacks l E B T c0 v5 c3 q7.2 hq) ⟨Nat.le_of_ble_eq_true rfl, Nat.le_of_ble_eq_true rfl⟩ ⟨Nat.le_refl _, Nat.le_refl _⟩ rfl hl.1 rfl (Nat.le_of_ble_eq_true rfl) dX9_alike_56 (fun q8 H8 L8 hf hw => ?_)
        refine lv_icmp_ne (tgt := 66) hx hb dX9_alike_59 (by decide) (fun hc => ?_) (fun hc => ?_)
        · have hf := ifn hc hf
          exact hJ66  q8.2 _ _ _ hf hw (lv_sub hl [0, 1, 2, 3, 5] rfl)
        · have hf := ifp hc hf
          refine lv_iconst (v := 1) hx hb dX9_alike_62 (by decide) ?_
          refine lv_goto (tgt := 67) hx hb dX9_alike_63 (by decide) ?_
          exact hJ67 (1 : Int32) q8.2 _ _ _ hf hw (lv_sub hl [0, 1, 2, 3, 5] rfl)
set_option maxRecDepth 100000 in
set_option maxHeartbeats 4000000 in
theorem wfX9_alike_L19 {c0 : Nat} {c1 : Int32} {ex : Int32 → hM → Option (Int32 × hM)} {z : Int32 × hM} (hΓ : h_Γ E B T p s m args meth c cX9_alike 6 (some .int) RX9) (hex : ∀ (y2 : Int32) (u9 : hM) (H9 : Heap) (L9 : List Loc) (ls : Array Slot), ex y2 u9 = some z → h_W E B T s.heap u9 H9 L9 → lv_has ls 6 [(2, .int y2)] → W p l e (h_rm 1) s m args below meth c H9 L9 0 0 (h_Qi below E B T args s z) (F0 m 96 ls [])) : ∀ (n : Nat) (v2 : Int32) (v3 : Int32) (u0 : hM) (H0 : Heap) (L0 : List Loc) (ls : Array Slot), fX9_alike_L19 T c0 c1 ex n v2 v3 u0 = some z → h_W E B T s.heap u0 H0 L0 → lv_has ls 6 [(0, .ref (B + c0)), (1, .int c1), (2, .int v2), (3, .int v3)] → W p l e (h_rm 1) s m args below meth c H0 L0 0 0 (h_Qi below E B T args s z) (F0 m 19 ls []) := by
  obtain ⟨hx, hb, hr, hml, hts, hown, hlk, hX⟩ := id hΓ
  intro n
  induction n with
  | zero =>
    intro v2 v3 u0 H0 L0 ls hf hw hl
    exact absurd (show (none : Option (Int32 × hM)) = some z from hf) (fun h => by cases h)
  | succ n ih =>
    intro v2 v3 u0 H0 L0 ls hf hw hl
    rw [fX9_alike_L19] at hf
    refine lv_iload_n hx hb dX9_alike_19 rfl (lv_at hl 3 rfl) ?_
    refine lv_bipush (v := 16) hx hb dX9_alike_20 (by decide) ?_
    refine lv_icmp_ge (tgt := 96) hx hb dX9_alike_22 (by decide) (fun hc => ?_) (fun hc => ?_)
    · have hf := ifp hc hf
      exact hex v2 u0 _ _ _ hf hw (lv_sub hl [2] rfl)
    · have hf := ifn hc hf
      refine lv_iconst (v := 1) hx hb dX9_alike_25 (by decide) ?_
      refine lv_istore (lv' := [(4, .int (1 : Int32)), (0, .ref (B + c0)), (1, .int c1), (2, .int v2), (3, .int v3)]) hx hb dX9_alike_26 hl (by decide) rfl (fun ls hl => ?_)
      refine lv_iconst (v := 0) hx hb dX9_alike_28 (by decide) ?_
      refine lv_istore (lv' := [(5, .int (0 : Int32)), (4, .int (1 : Int32)), (0, .ref (B + c0)), (1, .int c1), (2, .int v2), (3, .int v3)]) hx hb dX9_alike_29 hl (by decide) rfl (fun ls hl => ?_)
      refine wfX9_alike_L31 hΓ ?_ 6000 (1 : Int32) (0 : Int32) u0 _ _ _ hf hw (lv_sub hl [2, 3, 4, 5, 1, 0] rfl)
      intro x9 u10 H10 L10 ls hf hw hl
      refine lv_iload_n hx hb dX9_alike_75 rfl (lv_at hl 2 rfl) ?_
      refine lv_iload hx hb dX9_alike_76 (lv_at hl 4 rfl) ?_
      obtain ⟨J88, eJ88, hf⟩ := h_lt hf
      have hJ88 : ∀ (x11 : Int32) (u12 : hM) (H12 : Heap) (L12 : List Loc) (ls : Array Slot), J88 x11 u12 = some z → h_W E B T s.heap u12 H12 L12 → lv_has ls 6 [(0, .ref (B + c0)), (1, .int c1), (3, .int v3)] → W p l e (h_rm 1) s m args below meth c H12 L12 0 0 (h_Qi below E B T args s z) (F0 m 88 ls [.int x11, .int v2]) := by
        intro x11 u12 H12 L12 ls hf hw hl
        rw [eJ88] at hf
        refine lv_ior hx hb dX9_alike_88 ?_
        refine h_nmi hf (fun x13 hf => ?_)
        refine lv_istore_n (lv' := [(2, .int x13), (0, .ref (B + c0)), (1, .int c1), (3, .int v3)]) hx hb dX9_alike_89 rfl hl (by decide) rfl (fun ls hl => ?_)
        refine h_iinc (k := 3) hf hx hb dX9_alike_90 hl rfl (by decide) (by decide) (fun x14 ls hf hl => ?_)
        have hl : lv_has ls 6 [(3, .int x14), (2, .int x13), (0, .ref (B + c0)), (1, .int c1)] := hl
        refine lv_goto (tgt := 19) hx hb dX9_alike_93 (by decide) ?_
        exact ih x13 x14 u12 _ _ _ hf hw (lv_sub hl [2, 3, 1, 0] rfl)
      clear eJ88
      refine lv_if_eq (tgt := 87) hx hb dX9_alike_78 (by decide) (fun hc => ?_) (fun hc => ?_)
      · have hf := ifp hc hf
        refine lv_iconst (v := 0) hx hb dX9_alike_87 (by decide) ?_
        exact hJ88 (0 : Int32) u10 _ _ _ hf hw (lv_sub hl [0, 1, 3] rfl)
      · have hf := ifn hc hf
        refine lv_iconst (v := 1) hx hb dX9_alike_81 (by decide) ?_
        refine lv_iload_n hx hb dX9_alike_82 rfl (lv_at hl 3 rfl) ?_
        refine lv_ishl hx hb dX9_alike_83 ?_
        refine lv_goto (tgt := 88) hx hb dX9_alike_84 (by decide) ?_
        exact hJ88 ((1 : Int32) <<< (v3 &&& 31)) u10 _ _ _ hf hw (lv_sub hl [0, 1, 3] rfl)
set_option maxRecDepth 100000 in
set_option maxHeartbeats 4000000 in
theorem wX9_alike {a0 : Nat} {p1 : Int32} {u0 : hM} {z : Int32 × hM} {ls : Array Slot} (hΓ : h_Γ E B T p s m args meth c cX9_alike 6 (some .int) RX9) (hf : fX9_alike T a0 p1 u0 = some z) (hw : h_W E B T s.heap u0 s.heap []) (hl : lv_has ls 6 [(0, .ref (B + a0)), (1, .int p1)]) : W p l e (h_rm 1) s m args below meth c s.heap [] 0 0 (h_Qi below E B T args s z) (F0 m 0 ls []) := by
  obtain ⟨hx, hb, hr, hml, hts, hown, hlk, hX⟩ := id hΓ
  unfold fX9_alike at hf
  refine lv_iload_n hx hb dX9_alike_0 rfl (lv_at hl 1 rfl) ?_
  refine lv_i2l hx hb dX9_alike_1 rfl ?_
  refine lv_lconst (v := 0) hx hb dX9_alike_2 (by decide) ?_
  refine lv_ldc2 hx hb hown (hts _ klX9_282) dX9_alike_3 ?_
  refine h_cSi (As := [.long p1.toInt64, .long (0 : Int64), .long (15 : Int64)]) (rest := []) hf hx hb hml hts hown hX hw myX9_in msX9_in lkX9_90 (fun q hq => c_X9_in l E B T p1.toInt64 (0 : Int64) (15 : Int64) u0 hq) ⟨Nat.le_of_ble_eq_true rfl, Nat.le_of_ble_eq_true rfl⟩ ⟨Nat.le_refl _, Nat.le_refl _⟩ rfl hl.1 rfl (Nat.le_of_ble_eq_true rfl) dX9_alike_6 (fun q1 H1 L1 hf hw => ?_)
  refine lv_if_ne (tgt := 15) hx hb dX9_alike_9 (by decide) (fun hc => ?_) (fun hc => ?_)
  · have hf := ifn hc hf
    refine lv_iconst (v := 0) hx hb dX9_alike_15 (by decide) ?_
    refine lv_istore_n (lv' := [(2, .int (0 : Int32)), (0, .ref (B + a0)), (1, .int p1)]) hx hb dX9_alike_16 rfl hl (by decide) rfl (fun ls hl => ?_)
    refine lv_iconst (v := 0) hx hb dX9_alike_17 (by decide) ?_
    refine lv_istore_n (lv' := [(3, .int (0 : Int32)), (2, .int (0 : Int32)), (0, .ref (B + a0)), (1, .int p1)]) hx hb dX9_alike_18 rfl hl (by decide) rfl (fun ls hl => ?_)
    refine wfX9_alike_L19 hΓ ?_ 6000 (0 : Int32) (0 : Int32) q1.2 _ _ _ hf hw (lv_sub hl [2, 3, 1, 0] rfl)
    intro x15 u16 H16 L16 ls hf hw hl
    refine lv_iload_n hx hb dX9_alike_96 rfl (lv_at hl 0 rfl) ?_
    exact h_iret hf hx hb hr hlk hw dX9_alike_97
  · have hf := ifp hc hf
    refine lv_ldc hx hb hown (hts _ kcX9_216) dX9_alike_12 ?_
    exact h_iret hf hx hb hr hlk hw dX9_alike_14
theorem c_X9_alike (l : Launch) (E : hE) (B : Nat) (T : hT) (a0 : Nat) (p1 : Int32) (u0 : hM) {z : Int32 × hM} (hf : fX9_alike T a0 p1 u0 = some z) : h_Ct l E B T yX9_alike cX9_alike 6 (some .int) 1 [.ref (B + a0), .int p1] u0 z.2 (some (.int z.1)) := h_ofW (by decide) (Nat.le_of_ble_eq_true rfl) (fun p e s m below meth c ls hΓ hl hw => wX9_alike hΓ hf hw hl)
def fX9_teach (T : hT) (a0 : Nat) (p1 : Int32) (p2 : Int32) (u0 : hM) : Option (hM) := lt (((8 : Int32) * p1)) fun x1 => if p2 = 0 then ((gtr T u0 a0 9 4).bind fun a32 => (ald 11 T u0 a32 (x1 + (1 : Int32))).bind fun x33 => (gtr T u0 a0 9 4).bind fun a34 => (ald 11 T u0 a34 (x1 + (1 : Int32))).bind fun x35 => (asti T u0 a32 (x1 + (1 : Int32)) (x33 - ((x35 / (4 : Int32)) + (1 : Int32)))).bind fun u36 => (gtr T u36 a0 9 4).bind fun a37 => (gtr T u36 a0 9 4).bind fun a38 => (ald 11 T u36 a38 (x1 + (1 : Int32))).bind fun x39 => lt (fun (x40 : Int32) (u41 : hM) => (asti T u41 a37 (x1 + (1 : Int32)) x40).bind fun u42 => some u42) fun J62 => if 0 ≤ x39 then ((gtr T u36 a0 9 4).bind fun a43 => (ald 11 T u36 a43 (x1 + (1 : Int32))).bind fun x44 => J62 x44 u36) else (J62 (0 : Int32) u36)) else (if p2 = (1 : Int32) then ((gtr T u0 a0 9 4).bind fun a22 => (ald 11 T u0 a22 (x1 + (2 : Int32))).bind fun x23 => (gtr T u0 a0 9 4).bind fun a24 => (ald 11 T u0 a24 (x1 + (2 : Int32))).bind fun x25 => (asti T u0 a22 (x1 + (2 : Int32)) (x23 - (x25 / (3 : Int32)))).bind fun u26 => (gtr T u26 a0 9 4).bind fun a27 => (ald 11 T u26 a27 (x1 + (3 : Int32))).bind fun x28 => (gtr T u26 a0 9 4).bind fun a29 => (ald 11 T u26 a29 (x1 + (3 : Int32))).bind fun x30 => (asti T u26 a27 (x1 + (3 : Int32)) (x28 - (x30 / (3 : Int32)))).bind fun u31 => some u31) else (if p2 = (2 : Int32) then ((gtr T u0 a0 9 4).bind fun a14 => (gtr T u0 a0 9 4).bind fun a15 => (ald 11 T u0 a15 (x1 + (4 : Int32))).bind fun x16 => lt (fun (x17 : Int32) (u18 : hM) => (asti T u18 a14 (x1 + (4 : Int32)) x17).bind fun u19 => some u19) fun J158 => if (x16 + (2 : Int32)) ≤ (40 : Int32) then ((gtr T u0 a0 9 4).bind fun a20 => (ald 11 T u0 a20 (x1 + (4 : Int32))).bind fun x21 => J158 (x21 + (2 : Int32)) u0) else (J158 (40 : Int32) u0)) else ((gtr T u0 a0 9 4).bind fun a2 => (ald 11 T u0 a2 (x1 + (6 : Int32))).bind fun x3 => (gtr T u0 a0 9 4).bind fun a4 => (ald 11 T u0 a4 (x1 + (6 : Int32))).bind fun x5 => lt (if (36 : Int32) ≤ x5 then (0 : Int32) else (1 : Int32)) fun x6 => (asti T u0 a2 (x1 + (6 : Int32)) (x3 + x6)).bind fun u7 => (gtr T u7 a0 9 4).bind fun a8 => (ald 11 T u7 a8 (x1 + (5 : Int32))).bind fun x9 => (gtr T u7 a0 9 4).bind fun a10 => (ald 11 T u7 a10 (x1 + (5 : Int32))).bind fun x11 => lt (if x11 ≤ 0 then (0 : Int32) else (1 : Int32)) fun x12 => (asti T u7 a8 (x1 + (5 : Int32)) (x9 - x12)).bind fun u13 => some u13)))
set_option maxRecDepth 100000 in
set_option maxHeartbeats 4000000 in
theorem wX9_teach {a0 : Nat} {p1 : Int32} {p2 : Int32} {u0 : hM} {z : hM} {ls : Array Slot} (hΓ : h_Γ E B T p s m args meth c cX9_teach 4 none RX9) (hf : fX9_teach T a0 p1 p2 u0 = some z) (hw : h_W E B T s.heap u0 s.heap []) (hl : lv_has ls 4 [(0, .ref (B + a0)), (1, .int p1), (2, .int p2)]) : W p l e (h_rm 0) s m args below meth c s.heap [] 0 0 (h_Qv below E B T args s z) (F0 m 0 ls []) := by
  obtain ⟨hx, hb, hr, hml, hts, hown, hlk, hX⟩ := id hΓ
  unfold fX9_teach at hf
  refine lv_bipush (v := 8) hx hb dX9_teach_0 (by decide) ?_
  refine lv_iload_n hx hb dX9_teach_2 rfl (lv_at hl 1 rfl) ?_
  refine lv_imul hx hb dX9_teach_3 ?_
  refine h_nmi hf (fun x1 hf => ?_)
  refine lv_istore_n (lv' := [(3, .int x1), (0, .ref (B + a0)), (1, .int p1), (2, .int p2)]) hx hb dX9_teach_4 rfl hl (by decide) rfl (fun ls hl => ?_)
  refine lv_iload_n hx hb dX9_teach_5 rfl (lv_at hl 3 rfl) ?_
  refine lv_if_ne (tgt := 66) hx hb dX9_teach_6 (by decide) (fun hc => ?_) (fun hc => ?_)
  · have hf := ifn hc hf
    refine lv_iload_n hx hb dX9_teach_66 rfl (lv_at hl 3 rfl) ?_
    refine lv_iconst (v := 1) hx hb dX9_teach_67 (by decide) ?_
    refine lv_icmp_ne (tgt := 116) hx hb dX9_teach_68 (by decide) (fun hc => ?_) (fun hc => ?_)
    · have hf := ifn hc hf
      refine lv_iload_n hx hb dX9_teach_116 rfl (lv_at hl 3 rfl) ?_
      refine lv_iconst (v := 2) hx hb dX9_teach_117 (by decide) ?_
      refine lv_icmp_ne (tgt := 162) hx hb dX9_teach_118 (by decide) (fun hc => ?_) (fun hc => ?_)
      · have hf := ifn hc hf
        refine lv_aload_n hx hb dX9_teach_162 rfl (lv_at hl 1 rfl) ?_
        refine h_getr hf hx hb hts hown hX hw flX9_17 rfl dX9_teach_163 (fun a2 hf => ?_)
        refine lv_iload_n hx hb dX9_teach_166 rfl (lv_at hl 0 rfl) ?_
        refine lv_bipush (v := 6) hx hb dX9_teach_167 (by decide) ?_
        refine lv_iadd hx hb dX9_teach_169 ?_
        refine lv_dup2_11 hx hb dX9_teach_170 rfl rfl ?_
        refine h_iald hf hx hb hX hw dX9_teach_171 (fun x3 hf => ?_)
        refine lv_aload_n hx hb dX9_teach_172 rfl (lv_at hl 1 rfl) ?_
        refine h_getr hf hx hb hts hown hX hw flX9_17 rfl dX9_teach_173 (fun a4 hf => ?_)
        refine lv_iload_n hx hb dX9_teach_176 rfl (lv_at hl 0 rfl) ?_
        refine lv_bipush (v := 6) hx hb dX9_teach_177 (by decide) ?_
        refine lv_iadd hx hb dX9_teach_179 ?_
        refine h_iald hf hx hb hX hw dX9_teach_180 (fun x5 hf => ?_)
        refine lv_bipush (v := 36) hx hb dX9_teach_181 (by decide) ?_
        refine h_ite (ls := ls) (jj := 191) (rest := [.int x3, .int (x1 + (6 : Int32)), .ref (B + a2)]) hf (fun k1 k2 => ?_) (fun x6 hf => ?_)
        · refine lv_icmp_ge (tgt := 190) hx hb dX9_teach_183 (by decide) (fun hc => ?_) (fun hc => ?_)
          · refine lv_iconst (v := 0) hx hb dX9_teach_190 (by decide) ?_
            exact k1 hc
          · refine lv_iconst (v := 1) hx hb dX9_teach_186 (by decide) ?_
            refine lv_goto (tgt := 191) hx hb dX9_teach_187 (by decide) ?_
            exact k2 hc
        · refine lv_iadd hx hb dX9_teach_191 ?_
          refine h_iast hf hx hb hX hw dX9_teach_192 (fun u7 H7 L7 hf hw => ?_)
          refine lv_aload_n hx hb dX9_teach_193 rfl (lv_at hl 1 rfl) ?_
          refine h_getr hf hx hb hts hown hX hw flX9_17 rfl dX9_teach_194 (fun a8 hf => ?_)
          refine lv_iload_n hx hb dX9_teach_197 rfl (lv_at hl 0 rfl) ?_
          refine lv_iconst (v := 5) hx hb dX9_teach_198 (by decide) ?_
          refine lv_iadd hx hb dX9_teach_199 ?_
          refine lv_dup2_11 hx hb dX9_teach_200 rfl rfl ?_
          refine h_iald hf hx hb hX hw dX9_teach_201 (fun x9 hf => ?_)
          refine lv_aload_n hx hb dX9_teach_202 rfl (lv_at hl 1 rfl) ?_
          refine h_getr hf hx hb hts hown hX hw flX9_17 rfl dX9_teach_203 (fun a10 hf => ?_)
          refine lv_iload_n hx hb dX9_teach_206 rfl (lv_at hl 0 rfl) ?_
          refine lv_iconst (v := 5) hx hb dX9_teach_207 (by decide) ?_
          refine lv_iadd hx hb dX9_teach_208 ?_
          refine h_iald hf hx hb hX hw dX9_teach_209 (fun x11 hf => ?_)
          refine h_ite (ls := ls) (jj := 218) (rest := [.int x9, .int (x1 + (5 : Int32)), .ref (B + a8)]) hf (fun k1 k2 => ?_) (fun x12 hf => ?_)
          · refine lv_if_le (tgt := 217) hx hb dX9_teach_210 (by decide) (fun hc => ?_) (fun hc => ?_)
            · refine lv_iconst (v := 0) hx hb dX9_teach_217 (by decide) ?_
              exact k1 hc
            · refine lv_iconst (v := 1) hx hb dX9_teach_213 (by decide) ?_
              refine lv_goto (tgt := 218) hx hb dX9_teach_214 (by decide) ?_
              exact k2 hc
          · refine lv_isub hx hb dX9_teach_218 ?_
            refine h_iast hf hx hb hX hw dX9_teach_219 (fun u13 H13 L13 hf hw => ?_)
            exact h_vret hf hx hb hr hlk hw dX9_teach_220
      · have hf := ifp hc hf
        refine lv_aload_n hx hb dX9_teach_121 rfl (lv_at hl 1 rfl) ?_
        refine h_getr hf hx hb hts hown hX hw flX9_17 rfl dX9_teach_122 (fun a14 hf => ?_)
        refine lv_iload_n hx hb dX9_teach_125 rfl (lv_at hl 0 rfl) ?_
        refine lv_iconst (v := 4) hx hb dX9_teach_126 (by decide) ?_
        refine lv_iadd hx hb dX9_teach_127 ?_
        refine lv_aload_n hx hb dX9_teach_128 rfl (lv_at hl 1 rfl) ?_
        refine h_getr hf hx hb hts hown hX hw flX9_17 rfl dX9_teach_129 (fun a15 hf => ?_)
        refine lv_iload_n hx hb dX9_teach_132 rfl (lv_at hl 0 rfl) ?_
        refine lv_iconst (v := 4) hx hb dX9_teach_133 (by decide) ?_
        refine lv_iadd hx hb dX9_teach_134 ?_
        refine h_iald hf hx hb hX hw dX9_teach_135 (fun x16 hf => ?_)
        refine lv_iconst (v := 2) hx hb dX9_teach_136 (by decide) ?_
        refine lv_iadd hx hb dX9_teach_137 ?_
        refine lv_bipush (v := 40) hx hb dX9_teach_138 (by decide) ?_
        obtain ⟨J158, eJ158, hf⟩ := h_lt hf
        have hJ158 : ∀ (x17 : Int32) (u18 : hM) (H18 : Heap) (L18 : List Loc) (ls : Array Slot), J158 x17 u18 = some z → h_W E B T s.heap u18 H18 L18 → lv_has ls 4 [] → W p l e (h_rm 0) s m args below meth c H18 L18 0 0 (h_Qv below E B T args s z) (F0 m 158 ls [.int x17, .int (x1 + (4 : Int32)), .ref (B + a14)]) := by
          intro x17 u18 H18 L18 ls hf hw hl
          rw [eJ158] at hf
          refine h_iast hf hx hb hX hw dX9_teach_158 (fun u19 H19 L19 hf hw => ?_)
          refine lv_goto (tgt := 220) hx hb dX9_teach_159 (by decide) ?_
          exact h_vret hf hx hb hr hlk hw dX9_teach_220
        clear eJ158
        refine lv_icmp_le (tgt := 148) hx hb dX9_teach_140 (by decide) (fun hc => ?_) (fun hc => ?_)
        · have hf := ifp hc hf
          refine lv_aload_n hx hb dX9_teach_148 rfl (lv_at hl 1 rfl) ?_
          refine h_getr hf hx hb hts hown hX hw flX9_17 rfl dX9_teach_149 (fun a20 hf => ?_)
          refine lv_iload_n hx hb dX9_teach_152 rfl (lv_at hl 0 rfl) ?_
          refine lv_iconst (v := 4) hx hb dX9_teach_153 (by decide) ?_
          refine lv_iadd hx hb dX9_teach_154 ?_
          refine h_iald hf hx hb hX hw dX9_teach_155 (fun x21 hf => ?_)
          refine lv_iconst (v := 2) hx hb dX9_teach_156 (by decide) ?_
          refine lv_iadd hx hb dX9_teach_157 ?_
          exact hJ158 (x21 + (2 : Int32)) u0 _ _ _ hf hw (lv_sub hl [] rfl)
        · have hf := ifn hc hf
          refine lv_bipush (v := 40) hx hb dX9_teach_143 (by decide) ?_
          refine lv_goto (tgt := 158) hx hb dX9_teach_145 (by decide) ?_
          exact hJ158 (40 : Int32) u0 _ _ _ hf hw (lv_sub hl [] rfl)
    · have hf := ifp hc hf
      refine lv_aload_n hx hb dX9_teach_71 rfl (lv_at hl 1 rfl) ?_
      refine h_getr hf hx hb hts hown hX hw flX9_17 rfl dX9_teach_72 (fun a22 hf => ?_)
      refine lv_iload_n hx hb dX9_teach_75 rfl (lv_at hl 0 rfl) ?_
      refine lv_iconst (v := 2) hx hb dX9_teach_76 (by decide) ?_
      refine lv_iadd hx hb dX9_teach_77 ?_
      refine lv_dup2_11 hx hb dX9_teach_78 rfl rfl ?_
      refine h_iald hf hx hb hX hw dX9_teach_79 (fun x23 hf => ?_)
      refine lv_aload_n hx hb dX9_teach_80 rfl (lv_at hl 1 rfl) ?_
      refine h_getr hf hx hb hts hown hX hw flX9_17 rfl dX9_teach_81 (fun a24 hf => ?_)
      refine lv_iload_n hx hb dX9_teach_84 rfl (lv_at hl 0 rfl) ?_
      refine lv_iconst (v := 2) hx hb dX9_teach_85 (by decide) ?_
      refine lv_iadd hx hb dX9_teach_86 ?_
      refine h_iald hf hx hb hX hw dX9_teach_87 (fun x25 hf => ?_)
      refine lv_iconst (v := 3) hx hb dX9_teach_88 (by decide) ?_
      refine lv_idiv hx hb dX9_teach_89 (by decide) ?_
      refine lv_isub hx hb dX9_teach_90 ?_
      refine h_iast hf hx hb hX hw dX9_teach_91 (fun u26 H26 L26 hf hw => ?_)
      refine lv_aload_n hx hb dX9_teach_92 rfl (lv_at hl 1 rfl) ?_
      refine h_getr hf hx hb hts hown hX hw flX9_17 rfl dX9_teach_93 (fun a27 hf => ?_)
      refine lv_iload_n hx hb dX9_teach_96 rfl (lv_at hl 0 rfl) ?_
      refine lv_iconst (v := 3) hx hb dX9_teach_97 (by decide) ?_
      refine lv_iadd hx hb dX9_teach_98 ?_
      refine lv_dup2_11 hx hb dX9_teach_99 rfl rfl ?_
      refine h_iald hf hx hb hX hw dX9_teach_100 (fun x28 hf => ?_)
      refine lv_aload_n hx hb dX9_teach_101 rfl (lv_at hl 1 rfl) ?_
      refine h_getr hf hx hb hts hown hX hw flX9_17 rfl dX9_teach_102 (fun a29 hf => ?_)
      refine lv_iload_n hx hb dX9_teach_105 rfl (lv_at hl 0 rfl) ?_
      refine lv_iconst (v := 3) hx hb dX9_teach_106 (by decide) ?_
      refine lv_iadd hx hb dX9_teach_107 ?_
      refine h_iald hf hx hb hX hw dX9_teach_108 (fun x30 hf => ?_)
      refine lv_iconst (v := 3) hx hb dX9_teach_109 (by decide) ?_
      refine lv_idiv hx hb dX9_teach_110 (by decide) ?_
      refine lv_isub hx hb dX9_teach_111 ?_
      refine h_iast hf hx hb hX hw dX9_teach_112 (fun u31 H31 L31 hf hw => ?_)
      refine lv_goto (tgt := 220) hx hb dX9_teach_113 (by decide) ?_
      exact h_vret hf hx hb hr hlk hw dX9_teach_220
  · have hf := ifp hc hf
    refine lv_aload_n hx hb dX9_teach_9 rfl (lv_at hl 1 rfl) ?_
    refine h_getr hf hx hb hts hown hX hw flX9_17 rfl dX9_teach_10 (fun a32 hf => ?_)
    refine lv_iload_n hx hb dX9_teach_13 rfl (lv_at hl 0 rfl) ?_
    refine lv_iconst (v := 1) hx hb dX9_teach_14 (by decide) ?_
    refine lv_iadd hx hb dX9_teach_15 ?_
    refine lv_dup2_11 hx hb dX9_teach_16 rfl rfl ?_
    refine h_iald hf hx hb hX hw dX9_teach_17 (fun x33 hf => ?_)
    refine lv_aload_n hx hb dX9_teach_18 rfl (lv_at hl 1 rfl) ?_
    refine h_getr hf hx hb hts hown hX hw flX9_17 rfl dX9_teach_19 (fun a34 hf => ?_)
    refine lv_iload_n hx hb dX9_teach_22 rfl (lv_at hl 0 rfl) ?_
    refine lv_iconst (v := 1) hx hb dX9_teach_23 (by decide) ?_
    refine lv_iadd hx hb dX9_teach_24 ?_
    refine h_iald hf hx hb hX hw dX9_teach_25 (fun x35 hf => ?_)
    refine lv_iconst (v := 4) hx hb dX9_teach_26 (by decide) ?_
    refine lv_idiv hx hb dX9_teach_27 (by decide) ?_
    refine lv_iconst (v := 1) hx hb dX9_teach_28 (by decide) ?_
    refine lv_iadd hx hb dX9_teach_29 ?_
    refine lv_isub hx hb dX9_teach_30 ?_
    refine h_iast hf hx hb hX hw dX9_teach_31 (fun u36 H36 L36 hf hw => ?_)
    refine lv_aload_n hx hb dX9_teach_32 rfl (lv_at hl 1 rfl) ?_
    refine h_getr hf hx hb hts hown hX hw flX9_17 rfl dX9_teach_33 (fun a37 hf => ?_)
    refine lv_iload_n hx hb dX9_teach_36 rfl (lv_at hl 0 rfl) ?_
    refine lv_iconst (v := 1) hx hb dX9_teach_37 (by decide) ?_
    refine lv_iadd hx hb dX9_teach_38 ?_
    refine lv_aload_n hx hb dX9_teach_39 rfl (lv_at hl 1 rfl) ?_
    refine h_getr hf hx hb hts hown hX hw flX9_17 rfl dX9_teach_40 (fun a38 hf => ?_)
    refine lv_iload_n hx hb dX9_teach_43 rfl (lv_at hl 0 rfl) ?_
    refine lv_iconst (v := 1) hx hb dX9_teach_44 (by decide) ?_
    refine lv_iadd hx hb dX9_teach_45 ?_
    refine h_iald hf hx hb hX hw dX9_teach_46 (fun x39 hf => ?_)
    obtain ⟨J62, eJ62, hf⟩ := h_lt hf
    have hJ62 : ∀ (x40 : Int32) (u41 : hM) (H41 : Heap) (L41 : List Loc) (ls : Array Slot), J62 x40 u41 = some z → h_W E B T s.heap u41 H41 L41 → lv_has ls 4 [] → W p l e (h_rm 0) s m args below meth c H41 L41 0 0 (h_Qv below E B T args s z) (F0 m 62 ls [.int x40, .int (x1 + (1 : Int32)), .ref (B + a37)]) := by
      intro x40 u41 H41 L41 ls hf hw hl
      rw [eJ62] at hf
      refine h_iast hf hx hb hX hw dX9_teach_62 (fun u42 H42 L42 hf hw => ?_)
      refine lv_goto (tgt := 220) hx hb dX9_teach_63 (by decide) ?_
      exact h_vret hf hx hb hr hlk hw dX9_teach_220
    clear eJ62
    refine lv_if_ge (tgt := 54) hx hb dX9_teach_47 (by decide) (fun hc => ?_) (fun hc => ?_)
    · have hf := ifp hc hf
      refine lv_aload_n hx hb dX9_teach_54 rfl (lv_at hl 1 rfl) ?_
      refine h_getr hf hx hb hts hown hX hw flX9_17 rfl dX9_teach_55 (fun a43 hf => ?_)
      refine lv_iload_n hx hb dX9_teach_58 rfl (lv_at hl 0 rfl) ?_
      refine lv_iconst (v := 1) hx hb dX9_teach_59 (by decide) ?_
      refine lv_iadd hx hb dX9_teach_60 ?_
      refine h_iald hf hx hb hX hw dX9_teach_61 (fun x44 hf => ?_)
      exact hJ62 x44 u36 _ _ _ hf hw (lv_sub hl [] rfl)
    · have hf := ifn hc hf
      refine lv_iconst (v := 0) hx hb dX9_teach_50 (by decide) ?_
      refine lv_goto (tgt := 62) hx hb dX9_teach_51 (by decide) ?_
      exact hJ62 (0 : Int32) u36 _ _ _ hf hw (lv_sub hl [] rfl)
theorem c_X9_teach (l : Launch) (E : hE) (B : Nat) (T : hT) (a0 : Nat) (p1 : Int32) (p2 : Int32) (u0 : hM) {z : hM} (hf : fX9_teach T a0 p1 p2 u0 = some z) : h_Ct l E B T yX9_teach cX9_teach 4 none 0 [.ref (B + a0), .int p1, .int p2] u0 z none := h_ofW (by decide) (Nat.le_of_ble_eq_true rfl) (fun p e s m below meth c ls hΓ hl hw => wX9_teach hΓ hf hw hl)
def fX9_plainScore (T : hT) (a0 : Nat) (p1 : Int32) (u0 : hM) : Option (Int32 × hM) := (gtr T u0 a0 9 28).bind fun a1 => (vc T a0 9 (fX9_singInto T a0 a1 p1 (2 : Int32) (1 : Int32) u0)).bind fun q2 => (gtr T q2 a0 9 28).bind fun a3 => (vc T a0 9 (fX9_scoreOf T a0 a3 p1 (0 : Int32) q2)).bind fun q4 => (gtr T q4.2 a0 9 28).bind fun a5 => (vc T a0 9 (fX9_scoreOf T a0 a5 p1 (1 : Int32) q4.2)).bind fun q6 => some ((q4.1 + q6.1), q6.2)
set_option maxRecDepth 100000 in
set_option maxHeartbeats 4000000 in
theorem wX9_plainScore {a0 : Nat} {p1 : Int32} {u0 : hM} {z : Int32 × hM} {ls : Array Slot} (hΓ : h_Γ E B T p s m args meth c cX9_plainScore 2 (some .int) RX9) (hf : fX9_plainScore T a0 p1 u0 = some z) (hw : h_W E B T s.heap u0 s.heap []) (hl : lv_has ls 2 [(0, .ref (B + a0)), (1, .int p1)]) : W p l e (h_rm 3) s m args below meth c s.heap [] 0 0 (h_Qi below E B T args s z) (F0 m 0 ls []) := by
  obtain ⟨hx, hb, hr, hml, hts, hown, hlk, hX⟩ := id hΓ
  unfold fX9_plainScore at hf
  refine lv_aload_n hx hb dX9_plainScore_0 rfl (lv_at hl 0 rfl) ?_
  refine lv_aload_n hx hb dX9_plainScore_1 rfl (lv_at hl 0 rfl) ?_
  refine h_getr hf hx hb hts hown hX hw flX9_60 rfl dX9_plainScore_2 (fun a1 hf => ?_)
  refine lv_iload_n hx hb dX9_plainScore_5 rfl (lv_at hl 1 rfl) ?_
  refine lv_iconst (v := 2) hx hb dX9_plainScore_6 (by decide) ?_
  refine lv_iconst (v := 1) hx hb dX9_plainScore_7 (by decide) ?_
  refine h_cVv (As := [.ref (B + a1), .int p1, .int (2 : Int32), .int (1 : Int32)]) (rest := []) hf hx hb hml hts hown hX hw myX9_singInto miX9_singInto lkX9_269 ⟨rfl, by decide⟩ (fun q hq => c_X9_singInto l E B T a0 a1 p1 (2 : Int32) (1 : Int32) u0 hq) ⟨Nat.le_of_ble_eq_true rfl, Nat.le_of_ble_eq_true rfl⟩ ⟨Nat.le_refl _, Nat.le_refl _⟩ rfl hl.1 rfl (Nat.le_of_ble_eq_true rfl) dX9_plainScore_8 (fun q2 H2 L2 hf hw => ?_)
  refine lv_aload_n hx hb dX9_plainScore_11 rfl (lv_at hl 0 rfl) ?_
  refine lv_aload_n hx hb dX9_plainScore_12 rfl (lv_at hl 0 rfl) ?_
  refine h_getr hf hx hb hts hown hX hw flX9_60 rfl dX9_plainScore_13 (fun a3 hf => ?_)
  refine lv_iload_n hx hb dX9_plainScore_16 rfl (lv_at hl 1 rfl) ?_
  refine lv_iconst (v := 0) hx hb dX9_plainScore_17 (by decide) ?_
  refine h_cVi (As := [.ref (B + a3), .int p1, .int (0 : Int32)]) (rest := []) hf hx hb hml hts hown hX hw myX9_scoreOf miX9_scoreOf lkX9_273 ⟨rfl, by decide⟩ (fun q hq => c_X9_scoreOf l E B T a0 a3 p1 (0 : Int32) q2 hq) ⟨Nat.le_of_ble_eq_true rfl, Nat.le_of_ble_eq_true rfl⟩ ⟨Nat.le_refl _, Nat.le_refl _⟩ rfl hl.1 rfl (Nat.le_of_ble_eq_true rfl) dX9_plainScore_18 (fun q4 H4 L4 hf hw => ?_)
  refine lv_aload_n hx hb dX9_plainScore_21 rfl (lv_at hl 0 rfl) ?_
  refine lv_aload_n hx hb dX9_plainScore_22 rfl (lv_at hl 0 rfl) ?_
  refine h_getr hf hx hb hts hown hX hw flX9_60 rfl dX9_plainScore_23 (fun a5 hf => ?_)
  refine lv_iload_n hx hb dX9_plainScore_26 rfl (lv_at hl 1 rfl) ?_
  refine lv_iconst (v := 1) hx hb dX9_plainScore_27 (by decide) ?_
  refine h_cVi (As := [.ref (B + a5), .int p1, .int (1 : Int32)]) (rest := [.int q4.1]) hf hx hb hml hts hown hX hw myX9_scoreOf miX9_scoreOf lkX9_273 ⟨rfl, by decide⟩ (fun q hq => c_X9_scoreOf l E B T a0 a5 p1 (1 : Int32) q4.2 hq) ⟨Nat.le_of_ble_eq_true rfl, Nat.le_of_ble_eq_true rfl⟩ ⟨Nat.le_refl _, Nat.le_refl _⟩ rfl hl.1 rfl (Nat.le_of_ble_eq_true rfl) dX9_plainScore_28 (fun q6 H6 L6 hf hw => ?_)
  refine lv_iadd hx hb dX9_plainScore_31 ?_
  exact h_iret hf hx hb hr hlk hw dX9_plainScore_32
theorem c_X9_plainScore (l : Launch) (E : hE) (B : Nat) (T : hT) (a0 : Nat) (p1 : Int32) (u0 : hM) {z : Int32 × hM} (hf : fX9_plainScore T a0 p1 u0 = some z) : h_Ct l E B T yX9_plainScore cX9_plainScore 2 (some .int) 3 [.ref (B + a0), .int p1] u0 z.2 (some (.int z.1)) := h_ofW (by decide) (Nat.le_of_ble_eq_true rfl) (fun p e s m below meth c ls hΓ hl hw => wX9_plainScore hΓ hf hw hl)
def fX9_lesson (T : hT) (a0 : Nat) (p1 : Int32) (p2 : Int32) (u0 : hM) : Option (Int32 × hM) := (vc T a0 9 (fX9_isSinger T a0 p1 u0)).bind fun q1 => if q1.1 = 0 then (some ((-1000000001 : Int32), q1.2)) else ((fX9_in T p2.toInt64 (0 : Int64) (3 : Int64) q1.2).bind fun q2 => if q2.1 = 0 then (some ((-1000000001 : Int32), q2.2)) else ((vc T a0 9 (fX9_teach T a0 p1 p2 q2.2)).bind fun q3 => (vc T a0 9 (fX9_plainScore T a0 p1 q3)).bind fun q4 => some (q4.1, q4.2)))
set_option maxRecDepth 100000 in
set_option maxHeartbeats 4000000 in
theorem wX9_lesson {a0 : Nat} {p1 : Int32} {p2 : Int32} {u0 : hM} {z : Int32 × hM} {ls : Array Slot} (hΓ : h_Γ E B T p s m args meth c cX9_lesson 3 (some .int) RX9) (hf : fX9_lesson T a0 p1 p2 u0 = some z) (hw : h_W E B T s.heap u0 s.heap []) (hl : lv_has ls 3 [(0, .ref (B + a0)), (1, .int p1), (2, .int p2)]) : W p l e (h_rm 4) s m args below meth c s.heap [] 0 0 (h_Qi below E B T args s z) (F0 m 0 ls []) := by
  obtain ⟨hx, hb, hr, hml, hts, hown, hlk, hX⟩ := id hΓ
  unfold fX9_lesson at hf
  refine lv_aload_n hx hb dX9_lesson_0 rfl (lv_at hl 0 rfl) ?_
  refine lv_iload_n hx hb dX9_lesson_1 rfl (lv_at hl 1 rfl) ?_
  refine h_cVi (As := [.int p1]) (rest := []) hf hx hb hml hts hown hX hw myX9_isSinger miX9_isSinger lkX9_217 ⟨rfl, by decide⟩ (fun q hq => c_X9_isSinger l E B T a0 p1 u0 hq) ⟨Nat.le_of_ble_eq_true rfl, Nat.le_of_ble_eq_true rfl⟩ ⟨Nat.le_refl _, Nat.le_refl _⟩ rfl hl.1 rfl (Nat.le_of_ble_eq_true rfl) dX9_lesson_2 (fun q1 H1 L1 hf hw => ?_)
  refine lv_if_eq (tgt := 20) hx hb dX9_lesson_5 (by decide) (fun hc => ?_) (fun hc => ?_)
  · have hf := ifp hc hf
    refine lv_ldc hx hb hown (hts _ kcX9_216) dX9_lesson_20 ?_
    exact h_iret hf hx hb hr hlk hw dX9_lesson_22
  · have hf := ifn hc hf
    refine lv_iload_n hx hb dX9_lesson_8 rfl (lv_at hl 2 rfl) ?_
    refine lv_i2l hx hb dX9_lesson_9 rfl ?_
    refine lv_lconst (v := 0) hx hb dX9_lesson_10 (by decide) ?_
    refine lv_ldc2 hx hb hown (hts _ klX9_225) dX9_lesson_11 ?_
    refine h_cSi (As := [.long p2.toInt64, .long (0 : Int64), .long (3 : Int64)]) (rest := []) hf hx hb hml hts hown hX hw myX9_in msX9_in lkX9_90 (fun q hq => c_X9_in l E B T p2.toInt64 (0 : Int64) (3 : Int64) q1.2 hq) ⟨Nat.le_of_ble_eq_true rfl, Nat.le_of_ble_eq_true rfl⟩ ⟨Nat.le_refl _, Nat.le_refl _⟩ rfl hl.1 rfl (Nat.le_of_ble_eq_true rfl) dX9_lesson_14 (fun q2 H2 L2 hf hw => ?_)
    refine lv_if_ne (tgt := 23) hx hb dX9_lesson_17 (by decide) (fun hc => ?_) (fun hc => ?_)
    · have hf := ifn hc hf
      refine lv_aload_n hx hb dX9_lesson_23 rfl (lv_at hl 0 rfl) ?_
      refine lv_iload_n hx hb dX9_lesson_24 rfl (lv_at hl 1 rfl) ?_
      refine lv_iload_n hx hb dX9_lesson_25 rfl (lv_at hl 2 rfl) ?_
      refine h_cVv (As := [.int p1, .int p2]) (rest := []) hf hx hb hml hts hown hX hw myX9_teach miX9_teach lkX9_321 ⟨rfl, by decide⟩ (fun q hq => c_X9_teach l E B T a0 p1 p2 q2.2 hq) ⟨Nat.le_of_ble_eq_true rfl, Nat.le_of_ble_eq_true rfl⟩ ⟨Nat.le_refl _, Nat.le_refl _⟩ rfl hl.1 rfl (Nat.le_of_ble_eq_true rfl) dX9_lesson_26 (fun q3 H3 L3 hf hw => ?_)
      refine lv_aload_n hx hb dX9_lesson_29 rfl (lv_at hl 0 rfl) ?_
      refine lv_iload_n hx hb dX9_lesson_30 rfl (lv_at hl 1 rfl) ?_
      refine h_cVi (As := [.int p1]) (rest := []) hf hx hb hml hts hown hX hw myX9_plainScore miX9_plainScore lkX9_325 ⟨rfl, by decide⟩ (fun q hq => c_X9_plainScore l E B T a0 p1 q3 hq) ⟨Nat.le_of_ble_eq_true rfl, Nat.le_of_ble_eq_true rfl⟩ ⟨Nat.le_refl _, Nat.le_refl _⟩ rfl hl.1 rfl (Nat.le_of_ble_eq_true rfl) dX9_lesson_31 (fun q4 H4 L4 hf hw => ?_)
      exact h_iret hf hx hb hr hlk hw dX9_lesson_34
    · have hf := ifp hc hf
      refine lv_ldc hx hb hown (hts _ kcX9_216) dX9_lesson_20 ?_
      exact h_iret hf hx hb hr hlk hw dX9_lesson_22
theorem c_X9_lesson (l : Launch) (E : hE) (B : Nat) (T : hT) (a0 : Nat) (p1 : Int32) (p2 : Int32) (u0 : hM) {z : Int32 × hM} (hf : fX9_lesson T a0 p1 p2 u0 = some z) : h_Ct l E B T yX9_lesson cX9_lesson 3 (some .int) 4 [.ref (B + a0), .int p1, .int p2] u0 z.2 (some (.int z.1)) := h_ofW (by decide) (Nat.le_of_ble_eq_true rfl) (fun p e s m below meth c ls hΓ hl hw => wX9_lesson hΓ hf hw hl)
def fX9_hold_L2 (T : hT) (c0 : Nat) (c1 : Int32) (ex : hM → Option (hM)) : Nat → Int32 → hM → Option (hM)
  | 0, _, _ => none
  | n + 1, v2, u0 => if (8 : Int32) ≤ v2 then (ex u0) else ((gtr T u0 c0 9 29).bind fun a1 => (gtr T u0 c0 9 4).bind fun a2 => (ald 11 T u0 a2 (((8 : Int32) * c1) + v2)).bind fun x3 => (asti T u0 a1 v2 x3).bind fun u4 => lt (v2 + (1 : Int32)) fun x5 => fX9_hold_L2 T c0 c1 ex n x5 u4)
def fX9_hold (T : hT) (a0 : Nat) (p1 : Int32) (u0 : hM) : Option (hM) := fX9_hold_L2 T a0 p1 (fun (u6 : hM) => some u6) 6000 (0 : Int32) u0
set_option maxRecDepth 100000 in
set_option maxHeartbeats 4000000 in
theorem wfX9_hold_L2 {c0 : Nat} {c1 : Int32} {ex : hM → Option (hM)} {z : hM} (hΓ : h_Γ E B T p s m args meth c cX9_hold 3 none RX9) (hex : ∀ (u9 : hM) (H9 : Heap) (L9 : List Loc) (ls : Array Slot), ex u9 = some z → h_W E B T s.heap u9 H9 L9 → lv_has ls 3 [] → W p l e (h_rm 0) s m args below meth c H9 L9 0 0 (h_Qv below E B T args s z) (F0 m 31 ls [])) : ∀ (n : Nat) (v2 : Int32) (u0 : hM) (H0 : Heap) (L0 : List Loc) (ls : Array Slot), fX9_hold_L2 T c0 c1 ex n v2 u0 = some z → h_W E B T s.heap u0 H0 L0 → lv_has ls 3 [(0, .ref (B + c0)), (1, .int c1), (2, .int v2)] → W p l e (h_rm 0) s m args below meth c H0 L0 0 0 (h_Qv below E B T args s z) (F0 m 2 ls []) := by
  obtain ⟨hx, hb, hr, hml, hts, hown, hlk, hX⟩ := id hΓ
  intro n
  induction n with
  | zero =>
    intro v2 u0 H0 L0 ls hf hw hl
    exact absurd (show (none : Option (hM)) = some z from hf) (fun h => by cases h)
  | succ n ih =>
    intro v2 u0 H0 L0 ls hf hw hl
    rw [fX9_hold_L2] at hf
    refine lv_iload_n hx hb dX9_hold_2 rfl (lv_at hl 2 rfl) ?_
    refine lv_bipush (v := 8) hx hb dX9_hold_3 (by decide) ?_
    refine lv_icmp_ge (tgt := 31) hx hb dX9_hold_5 (by decide) (fun hc => ?_) (fun hc => ?_)
    · have hf := ifp hc hf
      exact hex  u0 _ _ _ hf hw (lv_sub hl [] rfl)
    · have hf := ifn hc hf
      refine lv_aload_n hx hb dX9_hold_8 rfl (lv_at hl 0 rfl) ?_
      refine h_getr hf hx hb hts hown hX hw flX9_63 rfl dX9_hold_9 (fun a1 hf => ?_)
      refine lv_iload_n hx hb dX9_hold_12 rfl (lv_at hl 2 rfl) ?_
      refine lv_aload_n hx hb dX9_hold_13 rfl (lv_at hl 0 rfl) ?_
      refine h_getr hf hx hb hts hown hX hw flX9_17 rfl dX9_hold_14 (fun a2 hf => ?_)
      refine lv_bipush (v := 8) hx hb dX9_hold_17 (by decide) ?_
      refine lv_iload_n hx hb dX9_hold_19 rfl (lv_at hl 1 rfl) ?_
      refine lv_imul hx hb dX9_hold_20 ?_
      refine lv_iload_n hx hb dX9_hold_21 rfl (lv_at hl 2 rfl) ?_
      refine lv_iadd hx hb dX9_hold_22 ?_
      refine h_iald hf hx hb hX hw dX9_hold_23 (fun x3 hf => ?_)
      refine h_iast hf hx hb hX hw dX9_hold_24 (fun u4 H4 L4 hf hw => ?_)
      refine h_iinc (k := 2) hf hx hb dX9_hold_25 hl rfl (by decide) (by decide) (fun x5 ls hf hl => ?_)
      have hl : lv_has ls 3 [(2, .int x5), (0, .ref (B + c0)), (1, .int c1)] := hl
      refine lv_goto (tgt := 2) hx hb dX9_hold_28 (by decide) ?_
      exact ih x5 u4 _ _ _ hf hw (lv_sub hl [1, 2, 0] rfl)
set_option maxRecDepth 100000 in
set_option maxHeartbeats 4000000 in
theorem wX9_hold {a0 : Nat} {p1 : Int32} {u0 : hM} {z : hM} {ls : Array Slot} (hΓ : h_Γ E B T p s m args meth c cX9_hold 3 none RX9) (hf : fX9_hold T a0 p1 u0 = some z) (hw : h_W E B T s.heap u0 s.heap []) (hl : lv_has ls 3 [(0, .ref (B + a0)), (1, .int p1)]) : W p l e (h_rm 0) s m args below meth c s.heap [] 0 0 (h_Qv below E B T args s z) (F0 m 0 ls []) := by
  obtain ⟨hx, hb, hr, hml, hts, hown, hlk, hX⟩ := id hΓ
  unfold fX9_hold at hf
  refine lv_iconst (v := 0) hx hb dX9_hold_0 (by decide) ?_
  refine lv_istore_n (lv' := [(2, .int (0 : Int32)), (0, .ref (B + a0)), (1, .int p1)]) hx hb dX9_hold_1 rfl hl (by decide) rfl (fun ls hl => ?_)
  refine wfX9_hold_L2 hΓ ?_ 6000 (0 : Int32) u0 _ _ _ hf hw (lv_sub hl [1, 2, 0] rfl)
  intro u6 H6 L6 ls hf hw hl
  exact h_vret hf hx hb hr hlk hw dX9_hold_31
theorem c_X9_hold (l : Launch) (E : hE) (B : Nat) (T : hT) (a0 : Nat) (p1 : Int32) (u0 : hM) {z : hM} (hf : fX9_hold T a0 p1 u0 = some z) : h_Ct l E B T yX9_hold cX9_hold 3 none 0 [.ref (B + a0), .int p1] u0 z none := h_ofW (by decide) (Nat.le_of_ble_eq_true rfl) (fun p e s m below meth c ls hΓ hl hw => wX9_hold hΓ hf hw hl)
def fX9_partOf (T : hT) (p0 : Int32) (p1 : Int32) (p2 : Int32) (u0 : hM) : Option (Int32 × hM) := some (((p0 >>> (((2 : Int32) * ((p1 - (1 : Int32)) - p2)) &&& 31)) &&& (3 : Int32)), u0)
set_option maxRecDepth 100000 in
set_option maxHeartbeats 4000000 in
theorem wX9_partOf {p0 : Int32} {p1 : Int32} {p2 : Int32} {u0 : hM} {z : Int32 × hM} {ls : Array Slot} (hΓ : h_Γ E B T p s m args meth c cX9_partOf 3 (some .int) RX9) (hf : fX9_partOf T p0 p1 p2 u0 = some z) (hw : h_W E B T s.heap u0 s.heap []) (hl : lv_has ls 3 [(0, .int p0), (1, .int p1), (2, .int p2)]) : W p l e (h_rm 0) s m args below meth c s.heap [] 0 0 (h_Qi below E B T args s z) (F0 m 0 ls []) := by
  obtain ⟨hx, hb, hr, hml, hts, hown, hlk, hX⟩ := id hΓ
  unfold fX9_partOf at hf
  refine lv_iload_n hx hb dX9_partOf_0 rfl (lv_at hl 0 rfl) ?_
  refine lv_iconst (v := 2) hx hb dX9_partOf_1 (by decide) ?_
  refine lv_iload_n hx hb dX9_partOf_2 rfl (lv_at hl 1 rfl) ?_
  refine lv_iconst (v := 1) hx hb dX9_partOf_3 (by decide) ?_
  refine lv_isub hx hb dX9_partOf_4 ?_
  refine lv_iload_n hx hb dX9_partOf_5 rfl (lv_at hl 2 rfl) ?_
  refine lv_isub hx hb dX9_partOf_6 ?_
  refine lv_imul hx hb dX9_partOf_7 ?_
  refine lv_ishr hx hb dX9_partOf_8 ?_
  refine lv_iconst (v := 3) hx hb dX9_partOf_9 (by decide) ?_
  refine lv_iand hx hb dX9_partOf_10 ?_
  exact h_iret hf hx hb hr hlk hw dX9_partOf_11
theorem c_X9_partOf (l : Launch) (E : hE) (B : Nat) (T : hT) (p0 : Int32) (p1 : Int32) (p2 : Int32) (u0 : hM) {z : Int32 × hM} (hf : fX9_partOf T p0 p1 p2 u0 = some z) : h_Ct l E B T yX9_partOf cX9_partOf 3 (some .int) 0 [.int p0, .int p1, .int p2] u0 z.2 (some (.int z.1)) := h_ofW (by decide) (Nat.le_of_ble_eq_true rfl) (fun p e s m below meth c ls hΓ hl hw => wX9_partOf hΓ hf hw hl)
def fX9_putBack_L2 (T : hT) (c0 : Nat) (c1 : Int32) (ex : hM → Option (hM)) : Nat → Int32 → hM → Option (hM)
  | 0, _, _ => none
  | n + 1, v2, u0 => if (8 : Int32) ≤ v2 then (ex u0) else ((gtr T u0 c0 9 4).bind fun a1 => (gtr T u0 c0 9 29).bind fun a2 => (ald 11 T u0 a2 v2).bind fun x3 => (asti T u0 a1 (((8 : Int32) * c1) + v2) x3).bind fun u4 => lt (v2 + (1 : Int32)) fun x5 => fX9_putBack_L2 T c0 c1 ex n x5 u4)
def fX9_putBack (T : hT) (a0 : Nat) (p1 : Int32) (u0 : hM) : Option (hM) := fX9_putBack_L2 T a0 p1 (fun (u6 : hM) => some u6) 6000 (0 : Int32) u0
set_option maxRecDepth 100000 in
set_option maxHeartbeats 4000000 in
theorem wfX9_putBack_L2 {c0 : Nat} {c1 : Int32} {ex : hM → Option (hM)} {z : hM} (hΓ : h_Γ E B T p s m args meth c cX9_putBack 3 none RX9) (hex : ∀ (u9 : hM) (H9 : Heap) (L9 : List Loc) (ls : Array Slot), ex u9 = some z → h_W E B T s.heap u9 H9 L9 → lv_has ls 3 [] → W p l e (h_rm 0) s m args below meth c H9 L9 0 0 (h_Qv below E B T args s z) (F0 m 31 ls [])) : ∀ (n : Nat) (v2 : Int32) (u0 : hM) (H0 : Heap) (L0 : List Loc) (ls : Array Slot), fX9_putBack_L2 T c0 c1 ex n v2 u0 = some z → h_W E B T s.heap u0 H0 L0 → lv_has ls 3 [(0, .ref (B + c0)), (1, .int c1), (2, .int v2)] → W p l e (h_rm 0) s m args below meth c H0 L0 0 0 (h_Qv below E B T args s z) (F0 m 2 ls []) := by
  obtain ⟨hx, hb, hr, hml, hts, hown, hlk, hX⟩ := id hΓ
  intro n
  induction n with
  | zero =>
    intro v2 u0 H0 L0 ls hf hw hl
    exact absurd (show (none : Option (hM)) = some z from hf) (fun h => by cases h)
  | succ n ih =>
    intro v2 u0 H0 L0 ls hf hw hl
    rw [fX9_putBack_L2] at hf
    refine lv_iload_n hx hb dX9_putBack_2 rfl (lv_at hl 2 rfl) ?_
    refine lv_bipush (v := 8) hx hb dX9_putBack_3 (by decide) ?_
    refine lv_icmp_ge (tgt := 31) hx hb dX9_putBack_5 (by decide) (fun hc => ?_) (fun hc => ?_)
    · have hf := ifp hc hf
      exact hex  u0 _ _ _ hf hw (lv_sub hl [] rfl)
    · have hf := ifn hc hf
      refine lv_aload_n hx hb dX9_putBack_8 rfl (lv_at hl 0 rfl) ?_
      refine h_getr hf hx hb hts hown hX hw flX9_17 rfl dX9_putBack_9 (fun a1 hf => ?_)
      refine lv_bipush (v := 8) hx hb dX9_putBack_12 (by decide) ?_
      refine lv_iload_n hx hb dX9_putBack_14 rfl (lv_at hl 1 rfl) ?_
      refine lv_imul hx hb dX9_putBack_15 ?_
      refine lv_iload_n hx hb dX9_putBack_16 rfl (lv_at hl 2 rfl) ?_
      refine lv_iadd hx hb dX9_putBack_17 ?_
      refine lv_aload_n hx hb dX9_putBack_18 rfl (lv_at hl 0 rfl) ?_
      refine h_getr hf hx hb hts hown hX hw flX9_63 rfl dX9_putBack_19 (fun a2 hf => ?_)
      refine lv_iload_n hx hb dX9_putBack_22 rfl (lv_at hl 2 rfl) ?_
      refine h_iald hf hx hb hX hw dX9_putBack_23 (fun x3 hf => ?_)
      refine h_iast hf hx hb hX hw dX9_putBack_24 (fun u4 H4 L4 hf hw => ?_)
      refine h_iinc (k := 2) hf hx hb dX9_putBack_25 hl rfl (by decide) (by decide) (fun x5 ls hf hl => ?_)
      have hl : lv_has ls 3 [(2, .int x5), (0, .ref (B + c0)), (1, .int c1)] := hl
      refine lv_goto (tgt := 2) hx hb dX9_putBack_28 (by decide) ?_
      exact ih x5 u4 _ _ _ hf hw (lv_sub hl [1, 2, 0] rfl)
set_option maxRecDepth 100000 in
set_option maxHeartbeats 4000000 in
theorem wX9_putBack {a0 : Nat} {p1 : Int32} {u0 : hM} {z : hM} {ls : Array Slot} (hΓ : h_Γ E B T p s m args meth c cX9_putBack 3 none RX9) (hf : fX9_putBack T a0 p1 u0 = some z) (hw : h_W E B T s.heap u0 s.heap []) (hl : lv_has ls 3 [(0, .ref (B + a0)), (1, .int p1)]) : W p l e (h_rm 0) s m args below meth c s.heap [] 0 0 (h_Qv below E B T args s z) (F0 m 0 ls []) := by
  obtain ⟨hx, hb, hr, hml, hts, hown, hlk, hX⟩ := id hΓ
  unfold fX9_putBack at hf
  refine lv_iconst (v := 0) hx hb dX9_putBack_0 (by decide) ?_
  refine lv_istore_n (lv' := [(2, .int (0 : Int32)), (0, .ref (B + a0)), (1, .int p1)]) hx hb dX9_putBack_1 rfl hl (by decide) rfl (fun ls hl => ?_)
  refine wfX9_putBack_L2 hΓ ?_ 6000 (0 : Int32) u0 _ _ _ hf hw (lv_sub hl [1, 2, 0] rfl)
  intro u6 H6 L6 ls hf hw hl
  exact h_vret hf hx hb hr hlk hw dX9_putBack_31
theorem c_X9_putBack (l : Launch) (E : hE) (B : Nat) (T : hT) (a0 : Nat) (p1 : Int32) (u0 : hM) {z : hM} (hf : fX9_putBack T a0 p1 u0 = some z) : h_Ct l E B T yX9_putBack cX9_putBack 3 none 0 [.ref (B + a0), .int p1] u0 z none := h_ofW (by decide) (Nat.le_of_ble_eq_true rfl) (fun p e s m below meth c ls hΓ hl hw => wX9_putBack hΓ hf hw hl)
def fX9_plan_L64 (T : hT) (c0 : Nat) (c1 : Int32) (c2 : Int32) (c6 : Int32) (ex : hM → Option (Int32 × hM)) : Nat → Int32 → hM → Option (Int32 × hM)
  | 0, _, _ => none
  | n + 1, v7, u0 => if c2 ≤ v7 then (ex u0) else ((fX9_partOf T c6 c2 v7 u0).bind fun q5 => (vc T c0 9 (fX9_teach T c0 c1 q5.1 q5.2)).bind fun q6 => lt (v7 + (1 : Int32)) fun x7 => fX9_plan_L64 T c0 c1 c2 c6 ex n x7 q6)
def fX9_plan_L51 (T : hT) (c0 : Nat) (c1 : Int32) (c2 : Int32) (ex : Int32 → Int32 → hM → Option (Int32 × hM)) : Nat → Int32 → Int32 → Int32 → hM → Option (Int32 × hM)
  | 0, _, _, _, _ => none
  | n + 1, v4, v5, v6, u0 => if ((1 : Int32) <<< (((2 : Int32) * c2) &&& 31)) ≤ v6 then (ex v4 v5 u0) else (fX9_plan_L64 T c0 c1 c2 v6 (fun (u8 : hM) => (vc T c0 9 (fX9_plainScore T c0 c1 u8)).bind fun q9 => lt (fun (x10 : Int32) (u11 : hM) => lt (if x10 = v6 then q9.1 else v5) fun x12 => (vc T c0 9 (fX9_putBack T c0 c1 u11)).bind fun q13 => lt (v6 + (1 : Int32)) fun x14 => fX9_plan_L51 T c0 c1 c2 ex n x10 x12 x14 q13) fun J115 => lt (fun (u15 : hM) => J115 v6 u15) fun J108 => if v4 < 0 then (J108 q9.2) else (if q9.1 ≤ v5 then (J115 v4 q9.2) else (J108 q9.2))) 6000 (0 : Int32) u0)
def fX9_plan (T : hT) (a0 : Nat) (p1 : Int32) (p2 : Int32) (p3 : Int32) (u0 : hM) : Option (Int32 × hM) := (vc T a0 9 (fX9_isSinger T a0 p1 u0)).bind fun q1 => if q1.1 = 0 then (some ((-1000000001 : Int32), q1.2)) else ((fX9_in T p2.toInt64 (1 : Int64) (4 : Int64) q1.2).bind fun q2 => if q2.1 = 0 then (some ((-1000000002 : Int32), q2.2)) else ((fX9_in T p3.toInt64 (0 : Int64) p2.toInt64 q2.2).bind fun q3 => if q3.1 = 0 then (some ((-1000000002 : Int32), q3.2)) else ((vc T a0 9 (fX9_hold T a0 p1 q3.2)).bind fun q4 => fX9_plan_L51 T a0 p1 p2 (fun (x16 : Int32) (x17 : Int32) (u18 : hM) => if p3 = 0 then (some (x17, u18)) else ((fX9_partOf T x16 p2 (p3 - (1 : Int32)) u18).bind fun q19 => some (q19.1, q19.2))) 6000 (-1 : Int32) (0 : Int32) (0 : Int32) q4)))
set_option maxRecDepth 100000 in
set_option maxHeartbeats 4000000 in
theorem wfX9_plan_L64 {c0 : Nat} {c1 : Int32} {c2 : Int32} {c3 : Int32} {c4 : Int32} {c5 : Int32} {c6 : Int32} {ex : hM → Option (Int32 × hM)} {z : Int32 × hM} (hΓ : h_Γ E B T p s m args meth c cX9_plan 8 (some .int) RX9) (hex : ∀ (u9 : hM) (H9 : Heap) (L9 : List Loc) (ls : Array Slot), ex u9 = some z → h_W E B T s.heap u9 H9 L9 → lv_has ls 8 [(0, .ref (B + c0)), (1, .int c1), (2, .int c2), (3, .int c3), (4, .int c4), (5, .int c5), (6, .int c6)] → W p l e (h_rm 4) s m args below meth c H9 L9 0 0 (h_Qi below E B T args s z) (F0 m 89 ls [])) : ∀ (n : Nat) (v7 : Int32) (u0 : hM) (H0 : Heap) (L0 : List Loc) (ls : Array Slot), fX9_plan_L64 T c0 c1 c2 c6 ex n v7 u0 = some z → h_W E B T s.heap u0 H0 L0 → lv_has ls 8 [(0, .ref (B + c0)), (1, .int c1), (2, .int c2), (3, .int c3), (4, .int c4), (5, .int c5), (6, .int c6), (7, .int v7)] → W p l e (h_rm 4) s m args below meth c H0 L0 0 0 (h_Qi below E B T args s z) (F0 m 64 ls []) := by
  obtain ⟨hx, hb, hr, hml, hts, hown, hlk, hX⟩ := id hΓ
  intro n
  induction n with
  | zero =>
    intro v7 u0 H0 L0 ls hf hw hl
    exact absurd (show (none : Option (Int32 × hM)) = some z from hf) (fun h => by cases h)
  | succ n ih =>
    intro v7 u0 H0 L0 ls hf hw hl
    rw [fX9_plan_L64] at hf
    refine lv_iload hx hb dX9_plan_64 (lv_at hl 7 rfl) ?_
    refine lv_iload_n hx hb dX9_plan_66 rfl (lv_at hl 2 rfl) ?_
    refine lv_icmp_ge (tgt := 89) hx hb dX9_plan_67 (by decide) (fun hc => ?_) (fun hc => ?_)
    · have hf := ifp hc hf
      exact hex  u0 _ _ _ hf hw (lv_sub hl [0, 1, 2, 3, 4, 5, 6] rfl)
    · have hf := ifn hc hf
      refine lv_aload_n hx hb dX9_plan_70 rfl (lv_at hl 0 rfl) ?_
      refine lv_iload_n hx hb dX9_plan_71 rfl (lv_at hl 1 rfl) ?_
      refine lv_iload hx hb dX9_plan_72 (lv_at hl 6 rfl) ?_
      refine lv_iload_n hx hb dX9_plan_74 rfl (lv_at hl 2 rfl) ?_
      refine lv_iload hx hb dX9_plan_75 (lv_at hl 7 rfl) ?_
      refine h_cSi (As := [.int c6, .int c2, .int v7]) (rest := [.int c1, .ref (B + c0)]) hf hx hb hml hts hown hX hw myX9_partOf msX9_partOf lkX9_334 (fun q hq => c_X9_partOf l E B T c6 c2 v7 u0 hq) ⟨Nat.le_of_ble_eq_true rfl, Nat.le_of_ble_eq_true rfl⟩ ⟨Nat.le_refl _, Nat.le_refl _⟩ rfl hl.1 rfl (Nat.le_of_ble_eq_true rfl) dX9_plan_77 (fun q5 H5 L5 hf hw => ?_)
      refine h_cVv (As := [.int c1, .int q5.1]) (rest := []) hf hx hb hml hts hown hX hw myX9_teach miX9_teach lkX9_321 ⟨rfl, by decide⟩ (fun q hq => c_X9_teach l E B T c0 c1 q5.1 q5.2 hq) ⟨Nat.le_of_ble_eq_true rfl, Nat.le_of_ble_eq_true rfl⟩ ⟨Nat.le_refl _, Nat.le_refl _⟩ rfl hl.1 rfl (Nat.le_of_ble_eq_true rfl) dX9_plan_80 (fun q6 H6 L6 hf hw => ?_)
      refine h_iinc (k := 7) hf hx hb dX9_plan_83 hl rfl (by decide) (by decide) (fun x7 ls hf hl => ?_)
      have hl : lv_has ls 8 [(7, .int x7), (0, .ref (B + c0)), (1, .int c1), (2, .int c2), (3, .int c3), (4, .int c4), (5, .int c5), (6, .int c6)] := hl
      refine lv_goto (tgt := 64) hx hb dX9_plan_86 (by decide) ?_
      exact ih x7 q6 _ _ _ hf hw (lv_sub hl [1, 2, 3, 4, 5, 6, 7, 0] rfl)
set_option maxRecDepth 100000 in
set_option maxHeartbeats 4000000 in
theorem wfX9_plan_L51 {c0 : Nat} {c1 : Int32} {c2 : Int32} {c3 : Int32} {ex : Int32 → Int32 → hM → Option (Int32 × hM)} {z : Int32 × hM} (hΓ : h_Γ E B T p s m args meth c cX9_plan 8 (some .int) RX9) (hex : ∀ (y4 : Int32) (y5 : Int32) (u9 : hM) (H9 : Heap) (L9 : List Loc) (ls : Array Slot), ex y4 y5 u9 = some z → h_W E B T s.heap u9 H9 L9 → lv_has ls 8 [(2, .int c2), (3, .int c3), (4, .int y4), (5, .int y5)] → W p l e (h_rm 4) s m args below meth c H9 L9 0 0 (h_Qi below E B T args s z) (F0 m 144 ls [])) : ∀ (n : Nat) (v4 : Int32) (v5 : Int32) (v6 : Int32) (u0 : hM) (H0 : Heap) (L0 : List Loc) (ls : Array Slot), fX9_plan_L51 T c0 c1 c2 ex n v4 v5 v6 u0 = some z → h_W E B T s.heap u0 H0 L0 → lv_has ls 8 [(0, .ref (B + c0)), (1, .int c1), (2, .int c2), (3, .int c3), (4, .int v4), (5, .int v5), (6, .int v6)] → W p l e (h_rm 4) s m args below meth c H0 L0 0 0 (h_Qi below E B T args s z) (F0 m 51 ls []) := by
  obtain ⟨hx, hb, hr, hml, hts, hown, hlk, hX⟩ := id hΓ
  intro n
  induction n with
  | zero =>
    intro v4 v5 v6 u0 H0 L0 ls hf hw hl
    exact absurd (show (none : Option (Int32 × hM)) = some z from hf) (fun h => by cases h)
  | succ n ih =>
    intro v4 v5 v6 u0 H0 L0 ls hf hw hl
    rw [fX9_plan_L51] at hf
    refine lv_iload hx hb dX9_plan_51 (lv_at hl 6 rfl) ?_
    refine lv_iconst (v := 1) hx hb dX9_plan_53 (by decide) ?_
    refine lv_iconst (v := 2) hx hb dX9_plan_54 (by decide) ?_
    refine lv_iload_n hx hb dX9_plan_55 rfl (lv_at hl 2 rfl) ?_
    refine lv_imul hx hb dX9_plan_56 ?_
    refine lv_ishl hx hb dX9_plan_57 ?_
    refine lv_icmp_ge (tgt := 144) hx hb dX9_plan_58 (by decide) (fun hc => ?_) (fun hc => ?_)
    · have hf := ifp hc hf
      exact hex v4 v5 u0 _ _ _ hf hw (lv_sub hl [2, 3, 4, 5] rfl)
    · have hf := ifn hc hf
      refine lv_iconst (v := 0) hx hb dX9_plan_61 (by decide) ?_
      refine lv_istore (lv' := [(7, .int (0 : Int32)), (0, .ref (B + c0)), (1, .int c1), (2, .int c2), (3, .int c3), (4, .int v4), (5, .int v5), (6, .int v6)]) hx hb dX9_plan_62 hl (by decide) rfl (fun ls hl => ?_)
      refine wfX9_plan_L64 hΓ ?_ 6000 (0 : Int32) u0 _ _ _ hf hw (lv_sub hl [1, 2, 3, 4, 5, 6, 7, 0] rfl)
      intro u8 H8 L8 ls hf hw hl
      refine lv_aload_n hx hb dX9_plan_89 rfl (lv_at hl 0 rfl) ?_
      refine lv_iload_n hx hb dX9_plan_90 rfl (lv_at hl 1 rfl) ?_
      refine h_cVi (As := [.int c1]) (rest := []) hf hx hb hml hts hown hX hw myX9_plainScore miX9_plainScore lkX9_325 ⟨rfl, by decide⟩ (fun q hq => c_X9_plainScore l E B T c0 c1 u8 hq) ⟨Nat.le_of_ble_eq_true rfl, Nat.le_of_ble_eq_true rfl⟩ ⟨Nat.le_refl _, Nat.le_refl _⟩ rfl hl.1 rfl (Nat.le_of_ble_eq_true rfl) dX9_plan_91 (fun q9 H9 L9 hf hw => ?_)
      refine lv_istore (lv' := [(7, .int q9.1), (0, .ref (B + c0)), (1, .int c1), (2, .int c2), (3, .int c3), (4, .int v4), (5, .int v5), (6, .int v6)]) hx hb dX9_plan_94 hl (by decide) rfl (fun ls hl => ?_)
      refine lv_iload hx hb dX9_plan_96 (lv_at hl 5 rfl) ?_
      obtain ⟨J115, eJ115, hf⟩ := h_lt hf
      have hJ115 : ∀ (x10 : Int32) (u11 : hM) (H11 : Heap) (L11 : List Loc) (ls : Array Slot), J115 x10 u11 = some z → h_W E B T s.heap u11 H11 L11 → lv_has ls 8 [(0, .ref (B + c0)), (1, .int c1), (2, .int c2), (3, .int c3), (5, .int v5), (6, .int v6), (7, .int q9.1)] → W p l e (h_rm 4) s m args below meth c H11 L11 0 0 (h_Qi below E B T args s z) (F0 m 115 ls [.int x10]) := by
        intro x10 u11 H11 L11 ls hf hw hl
        rw [eJ115] at hf
        refine lv_istore (lv' := [(4, .int x10), (0, .ref (B + c0)), (1, .int c1), (2, .int c2), (3, .int c3), (5, .int v5), (6, .int v6), (7, .int q9.1)]) hx hb dX9_plan_115 hl (by decide) rfl (fun ls hl => ?_)
        refine lv_iload hx hb dX9_plan_117 (lv_at hl 0 rfl) ?_
        refine lv_iload hx hb dX9_plan_119 (lv_at hl 6 rfl) ?_
        refine h_ite (ls := ls) (jj := 131) (rest := []) hf (fun k1 k2 => ?_) (fun x12 hf => ?_)
        · refine lv_icmp_ne (tgt := 129) hx hb dX9_plan_121 (by decide) (fun hc => ?_) (fun hc => ?_)
          · refine lv_iload hx hb dX9_plan_129 (lv_at hl 5 rfl) ?_
            exact k2 hc
          · refine lv_iload hx hb dX9_plan_124 (lv_at hl 7 rfl) ?_
            refine lv_goto (tgt := 131) hx hb dX9_plan_126 (by decide) ?_
            exact k1 hc
        · refine lv_istore (lv' := [(5, .int x12), (4, .int x10), (0, .ref (B + c0)), (1, .int c1), (2, .int c2), (3, .int c3), (6, .int v6), (7, .int q9.1)]) hx hb dX9_plan_131 hl (by decide) rfl (fun ls hl => ?_)
          refine lv_aload_n hx hb dX9_plan_133 rfl (lv_at hl 2 rfl) ?_
          refine lv_iload_n hx hb dX9_plan_134 rfl (lv_at hl 3 rfl) ?_
          refine h_cVv (As := [.int c1]) (rest := []) hf hx hb hml hts hown hX hw myX9_putBack miX9_putBack lkX9_337 ⟨rfl, by decide⟩ (fun q hq => c_X9_putBack l E B T c0 c1 u11 hq) ⟨Nat.le_of_ble_eq_true rfl, Nat.le_of_ble_eq_true rfl⟩ ⟨Nat.le_refl _, Nat.le_refl _⟩ rfl hl.1 rfl (Nat.le_of_ble_eq_true rfl) dX9_plan_135 (fun q13 H13 L13 hf hw => ?_)
          refine h_iinc (k := 6) hf hx hb dX9_plan_138 hl rfl (by decide) (by decide) (fun x14 ls hf hl => ?_)
          have hl : lv_has ls 8 [(6, .int x14), (5, .int x12), (4, .int x10), (0, .ref (B + c0)), (1, .int c1), (2, .int c2), (3, .int c3), (7, .int q9.1)] := hl
          refine lv_goto (tgt := 51) hx hb dX9_plan_141 (by decide) ?_
          exact ih x10 x12 x14 q13 _ _ _ hf hw (lv_sub hl [3, 4, 5, 6, 2, 1, 0] rfl)
      clear eJ115
      obtain ⟨J108, eJ108, hf⟩ := h_lt hf
      have hJ108 : ∀ (u15 : hM) (H15 : Heap) (L15 : List Loc) (ls : Array Slot), J108  u15 = some z → h_W E B T s.heap u15 H15 L15 → lv_has ls 8 [(0, .ref (B + c0)), (1, .int c1), (2, .int c2), (3, .int c3), (5, .int v5), (6, .int v6), (7, .int q9.1)] → W p l e (h_rm 4) s m args below meth c H15 L15 0 0 (h_Qi below E B T args s z) (F0 m 108 ls []) := by
        intro  u15 H15 L15 ls hf hw hl
        rw [eJ108] at hf
        refine lv_iload hx hb dX9_plan_108 (lv_at hl 5 rfl) ?_
        refine lv_goto (tgt := 115) hx hb dX9_plan_110 (by decide) ?_
        exact hJ115 v6 u15 _ _ _ hf hw (lv_sub hl [0, 1, 2, 3, 4, 5, 6] rfl)
      clear eJ108
      refine lv_if_lt (tgt := 108) hx hb dX9_plan_98 (by decide) (fun hc => ?_) (fun hc => ?_)
      · have hf := ifp hc hf
        exact hJ108  q9.2 _ _ _ hf hw (lv_sub hl [1, 2, 3, 4, 6, 7, 0] rfl)
      · have hf := ifn hc hf
        refine lv_iload hx hb dX9_plan_101 (lv_at hl 0 rfl) ?_
        refine lv_iload hx hb dX9_plan_103 (lv_at hl 6 rfl) ?_
        refine lv_icmp_le (tgt := 113) hx hb dX9_plan_105 (by decide) (fun hc => ?_) (fun hc => ?_)
        · have hf := ifp hc hf
          refine lv_iload hx hb dX9_plan_113 (lv_at hl 5 rfl) ?_
          exact hJ115 v4 q9.2 _ _ _ hf hw (lv_sub hl [1, 2, 3, 4, 6, 7, 0] rfl)
        · have hf := ifn hc hf
          exact hJ108  q9.2 _ _ _ hf hw (lv_sub hl [1, 2, 3, 4, 6, 7, 0] rfl)
set_option maxRecDepth 100000 in
set_option maxHeartbeats 4000000 in
theorem wX9_plan {a0 : Nat} {p1 : Int32} {p2 : Int32} {p3 : Int32} {u0 : hM} {z : Int32 × hM} {ls : Array Slot} (hΓ : h_Γ E B T p s m args meth c cX9_plan 8 (some .int) RX9) (hf : fX9_plan T a0 p1 p2 p3 u0 = some z) (hw : h_W E B T s.heap u0 s.heap []) (hl : lv_has ls 8 [(0, .ref (B + a0)), (1, .int p1), (2, .int p2), (3, .int p3)]) : W p l e (h_rm 4) s m args below meth c s.heap [] 0 0 (h_Qi below E B T args s z) (F0 m 0 ls []) := by
  obtain ⟨hx, hb, hr, hml, hts, hown, hlk, hX⟩ := id hΓ
  unfold fX9_plan at hf
  refine lv_aload_n hx hb dX9_plan_0 rfl (lv_at hl 0 rfl) ?_
  refine lv_iload_n hx hb dX9_plan_1 rfl (lv_at hl 1 rfl) ?_
  refine h_cVi (As := [.int p1]) (rest := []) hf hx hb hml hts hown hX hw myX9_isSinger miX9_isSinger lkX9_217 ⟨rfl, by decide⟩ (fun q hq => c_X9_isSinger l E B T a0 p1 u0 hq) ⟨Nat.le_of_ble_eq_true rfl, Nat.le_of_ble_eq_true rfl⟩ ⟨Nat.le_refl _, Nat.le_refl _⟩ rfl hl.1 rfl (Nat.le_of_ble_eq_true rfl) dX9_plan_2 (fun q1 H1 L1 hf hw => ?_)
  refine lv_if_ne (tgt := 11) hx hb dX9_plan_5 (by decide) (fun hc => ?_) (fun hc => ?_)
  · have hf := ifn hc hf
    refine lv_iload_n hx hb dX9_plan_11 rfl (lv_at hl 2 rfl) ?_
    refine lv_i2l hx hb dX9_plan_12 rfl ?_
    refine lv_lconst (v := 1) hx hb dX9_plan_13 (by decide) ?_
    refine lv_ldc2 hx hb hown (hts _ klX9_328) dX9_plan_14 ?_
    refine h_cSi (As := [.long p2.toInt64, .long (1 : Int64), .long (4 : Int64)]) (rest := []) hf hx hb hml hts hown hX hw myX9_in msX9_in lkX9_90 (fun q hq => c_X9_in l E B T p2.toInt64 (1 : Int64) (4 : Int64) q1.2 hq) ⟨Nat.le_of_ble_eq_true rfl, Nat.le_of_ble_eq_true rfl⟩ ⟨Nat.le_refl _, Nat.le_refl _⟩ rfl hl.1 rfl (Nat.le_of_ble_eq_true rfl) dX9_plan_17 (fun q2 H2 L2 hf hw => ?_)
    refine lv_if_eq (tgt := 34) hx hb dX9_plan_20 (by decide) (fun hc => ?_) (fun hc => ?_)
    · have hf := ifp hc hf
      refine lv_ldc hx hb hown (hts _ kcX9_99) dX9_plan_34 ?_
      exact h_iret hf hx hb hr hlk hw dX9_plan_36
    · have hf := ifn hc hf
      refine lv_iload_n hx hb dX9_plan_23 rfl (lv_at hl 3 rfl) ?_
      refine lv_i2l hx hb dX9_plan_24 rfl ?_
      refine lv_lconst (v := 0) hx hb dX9_plan_25 (by decide) ?_
      refine lv_iload_n hx hb dX9_plan_26 rfl (lv_at hl 2 rfl) ?_
      refine lv_i2l hx hb dX9_plan_27 rfl ?_
      refine h_cSi (As := [.long p3.toInt64, .long (0 : Int64), .long p2.toInt64]) (rest := []) hf hx hb hml hts hown hX hw myX9_in msX9_in lkX9_90 (fun q hq => c_X9_in l E B T p3.toInt64 (0 : Int64) p2.toInt64 q2.2 hq) ⟨Nat.le_of_ble_eq_true rfl, Nat.le_of_ble_eq_true rfl⟩ ⟨Nat.le_refl _, Nat.le_refl _⟩ rfl hl.1 rfl (Nat.le_of_ble_eq_true rfl) dX9_plan_28 (fun q3 H3 L3 hf hw => ?_)
      refine lv_if_ne (tgt := 37) hx hb dX9_plan_31 (by decide) (fun hc => ?_) (fun hc => ?_)
      · have hf := ifn hc hf
        refine lv_iconst (v := -1) hx hb dX9_plan_37 (by decide) ?_
        refine lv_istore (lv' := [(4, .int (-1 : Int32)), (0, .ref (B + a0)), (1, .int p1), (2, .int p2), (3, .int p3)]) hx hb dX9_plan_38 hl (by decide) rfl (fun ls hl => ?_)
        refine lv_iconst (v := 0) hx hb dX9_plan_40 (by decide) ?_
        refine lv_istore (lv' := [(5, .int (0 : Int32)), (4, .int (-1 : Int32)), (0, .ref (B + a0)), (1, .int p1), (2, .int p2), (3, .int p3)]) hx hb dX9_plan_41 hl (by decide) rfl (fun ls hl => ?_)
        refine lv_aload_n hx hb dX9_plan_43 rfl (lv_at hl 2 rfl) ?_
        refine lv_iload_n hx hb dX9_plan_44 rfl (lv_at hl 3 rfl) ?_
        refine h_cVv (As := [.int p1]) (rest := []) hf hx hb hml hts hown hX hw myX9_hold miX9_hold lkX9_330 ⟨rfl, by decide⟩ (fun q hq => c_X9_hold l E B T a0 p1 q3.2 hq) ⟨Nat.le_of_ble_eq_true rfl, Nat.le_of_ble_eq_true rfl⟩ ⟨Nat.le_refl _, Nat.le_refl _⟩ rfl hl.1 rfl (Nat.le_of_ble_eq_true rfl) dX9_plan_45 (fun q4 H4 L4 hf hw => ?_)
        refine lv_iconst (v := 0) hx hb dX9_plan_48 (by decide) ?_
        refine lv_istore (lv' := [(6, .int (0 : Int32)), (5, .int (0 : Int32)), (4, .int (-1 : Int32)), (0, .ref (B + a0)), (1, .int p1), (2, .int p2), (3, .int p3)]) hx hb dX9_plan_49 hl (by decide) rfl (fun ls hl => ?_)
        refine wfX9_plan_L51 hΓ ?_ 6000 (-1 : Int32) (0 : Int32) (0 : Int32) q4 _ _ _ hf hw (lv_sub hl [3, 4, 5, 6, 2, 1, 0] rfl)
        intro x16 x17 u18 H18 L18 ls hf hw hl
        refine lv_iload_n hx hb dX9_plan_144 rfl (lv_at hl 1 rfl) ?_
        refine lv_if_ne (tgt := 153) hx hb dX9_plan_145 (by decide) (fun hc => ?_) (fun hc => ?_)
        · have hf := ifn hc hf
          refine lv_iload hx hb dX9_plan_153 (lv_at hl 2 rfl) ?_
          refine lv_iload_n hx hb dX9_plan_155 rfl (lv_at hl 0 rfl) ?_
          refine lv_iload_n hx hb dX9_plan_156 rfl (lv_at hl 1 rfl) ?_
          refine lv_iconst (v := 1) hx hb dX9_plan_157 (by decide) ?_
          refine lv_isub hx hb dX9_plan_158 ?_
          refine h_cSi (As := [.int x16, .int p2, .int (p3 - (1 : Int32))]) (rest := []) hf hx hb hml hts hown hX hw myX9_partOf msX9_partOf lkX9_334 (fun q hq => c_X9_partOf l E B T x16 p2 (p3 - (1 : Int32)) u18 hq) ⟨Nat.le_of_ble_eq_true rfl, Nat.le_of_ble_eq_true rfl⟩ ⟨Nat.le_refl _, Nat.le_refl _⟩ rfl hl.1 rfl (Nat.le_of_ble_eq_true rfl) dX9_plan_159 (fun q19 H19 L19 hf hw => ?_)
          exact h_iret hf hx hb hr hlk hw dX9_plan_162
        · have hf := ifp hc hf
          refine lv_iload hx hb dX9_plan_148 (lv_at hl 3 rfl) ?_
          refine lv_goto (tgt := 162) hx hb dX9_plan_150 (by decide) ?_
          exact h_iret hf hx hb hr hlk hw dX9_plan_162
      · have hf := ifp hc hf
        refine lv_ldc hx hb hown (hts _ kcX9_99) dX9_plan_34 ?_
        exact h_iret hf hx hb hr hlk hw dX9_plan_36
  · have hf := ifp hc hf
    refine lv_ldc hx hb hown (hts _ kcX9_216) dX9_plan_8 ?_
    exact h_iret hf hx hb hr hlk hw dX9_plan_10
theorem c_X9_plan (l : Launch) (E : hE) (B : Nat) (T : hT) (a0 : Nat) (p1 : Int32) (p2 : Int32) (p3 : Int32) (u0 : hM) {z : Int32 × hM} (hf : fX9_plan T a0 p1 p2 p3 u0 = some z) : h_Ct l E B T yX9_plan cX9_plan 8 (some .int) 4 [.ref (B + a0), .int p1, .int p2, .int p3] u0 z.2 (some (.int z.1)) := h_ofW (by decide) (Nat.le_of_ble_eq_true rfl) (fun p e s m below meth c ls hΓ hl hw => wX9_plan hΓ hf hw hl)
end GEN
