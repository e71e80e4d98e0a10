section GEN
variable {p : Program} {l : Launch} {e : Env} {s : State} {m : MethodId} {args : Array Value} {below : List Frame} {meth : Method} {c : Code} {E : hE} {B : Nat} {T : hT}
def fX8_partOfWeek (T : hT) (p0 : Int32) (p1 : Int32) (p2 : Int32) (u0 : hM) : Option (Int32 × hM) := some (((p0 >>> (((2 : Int32) * (p1 - p2)) &&& 31)) &&& (3 : Int32)), u0)
set_option maxRecDepth 100000 in
set_option maxHeartbeats 4000000 in
theorem wX8_partOfWeek {p0 : Int32} {p1 : Int32} {p2 : Int32} {u0 : hM} {z : Int32 × hM} {ls : Array Slot} (hΓ : h_Γ E B T p s m args meth c cX8_partOfWeek 3 (some .int) RX8) (hf : fX8_partOfWeek T p0 p1 p2 u0 = some z) (hw : h_W E B T s.heap u0 s.heap []) (hl : lv_has ls 3 [(0, .int p0), (1, .int p1), (2, .int p2)]) : W p l e (h_rm 0) s m args below meth c s.heap [] 0 0 (h_Qi below E B T args s z) (F0 m 0 ls []) := by
  obtain ⟨hx, hb, hr, hml, hts, hown, hlk, hX⟩ := id hΓ
  unfold fX8_partOfWeek at hf
  refine lv_iload_n hx hb dX8_partOfWeek_0 rfl (lv_at hl 0 rfl) ?_
  refine lv_iconst (v := 2) hx hb dX8_partOfWeek_1 (by decide) ?_
  refine lv_iload_n hx hb dX8_partOfWeek_2 rfl (lv_at hl 1 rfl) ?_
  refine lv_iload_n hx hb dX8_partOfWeek_3 rfl (lv_at hl 2 rfl) ?_
  refine lv_isub hx hb dX8_partOfWeek_4 ?_
  refine lv_imul hx hb dX8_partOfWeek_5 ?_
  refine lv_ishr hx hb dX8_partOfWeek_6 ?_
  refine lv_iconst (v := 3) hx hb dX8_partOfWeek_7 (by decide) ?_
  refine lv_iand hx hb dX8_partOfWeek_8 ?_
  exact h_iret hf hx hb hr hlk hw dX8_partOfWeek_9
theorem c_X8_partOfWeek (l : Launch) (E : hE) (B : Nat) (T : hT) (p0 : Int32) (p1 : Int32) (p2 : Int32) (u0 : hM) {z : Int32 × hM} (hf : fX8_partOfWeek T p0 p1 p2 u0 = some z) : h_Ct l E B T yX8_partOfWeek cX8_partOfWeek 3 (some .int) 0 [.int p0, .int p1, .int p2] u0 z.2 (some (.int z.1)) := h_ofW (by decide) (Nat.le_of_ble_eq_true rfl) (fun p e s m below meth c ls hΓ hl hw => wX8_partOfWeek hΓ hf hw hl)
def fX8_isRising_L2 (T : hT) (c0 : Int32) (c1 : Int32) (ex : hM → Option (Int32 × hM)) : Nat → Int32 → hM → Option (Int32 × hM)
  | 0, _, _ => none
  | n + 1, v2, u0 => if c1 < v2 then (ex u0) else ((fX8_partOfWeek T c0 c1 v2 u0).bind fun q1 => (fX8_partOfWeek T c0 c1 (v2 - (1 : Int32)) q1.2).bind fun q2 => if q2.1 ≤ q1.1 then (lt (v2 + (1 : Int32)) fun x3 => fX8_isRising_L2 T c0 c1 ex n x3 q2.2) else (rtz (0 : Int32) q2.2))
def fX8_isRising (T : hT) (p0 : Int32) (p1 : Int32) (u0 : hM) : Option (Int32 × hM) := fX8_isRising_L2 T p0 p1 (fun (u4 : hM) => rtz (1 : Int32) u4) 6000 (2 : Int32) u0
set_option maxRecDepth 100000 in
set_option maxHeartbeats 4000000 in
theorem wfX8_isRising_L2 {c0 : Int32} {c1 : Int32} {ex : hM → Option (Int32 × hM)} {z : Int32 × hM} (hΓ : h_Γ E B T p s m args meth c cX8_isRising 3 (some .boolean) RX8) (hex : ∀ (u9 : hM) (H9 : Heap) (L9 : List Loc) (ls : Array Slot), ex u9 = some z → h_W E B T s.heap u9 H9 L9 → lv_has ls 3 [] → W p l e (h_rm 1) s m args below meth c H9 L9 0 0 (h_Qi below E B T args s z) (F0 m 32 ls [])) : ∀ (n : Nat) (v2 : Int32) (u0 : hM) (H0 : Heap) (L0 : List Loc) (ls : Array Slot), fX8_isRising_L2 T c0 c1 ex n v2 u0 = some z → h_W E B T s.heap u0 H0 L0 → lv_has ls 3 [(0, .int c0), (1, .int c1), (2, .int v2)] → W p l e (h_rm 1) s m args below meth c H0 L0 0 0 (h_Qi below E B T args s z) (F0 m 2 ls []) := by
  obtain ⟨hx, hb, hr, hml, hts, hown, hlk, hX⟩ := id hΓ
  intro n
  induction n with
  | zero =>
    intro v2 u0 H0 L0 ls hf hw hl
    exact absurd (show (none : Option (Int32 × hM)) = some z from hf) (fun h => by cases h)
  | succ n ih =>
    intro v2 u0 H0 L0 ls hf hw hl
    rw [fX8_isRising_L2] at hf
    refine lv_iload_n hx hb dX8_isRising_2 rfl (lv_at hl 2 rfl) ?_
    refine lv_iload_n hx hb dX8_isRising_3 rfl (lv_at hl 1 rfl) ?_
    refine lv_icmp_gt (tgt := 32) hx hb dX8_isRising_4 (by decide) (fun hc => ?_) (fun hc => ?_)
    · have hf := ifp hc hf
      exact hex  u0 _ _ _ hf hw (lv_sub hl [] rfl)
    · have hf := ifn hc hf
      refine lv_iload_n hx hb dX8_isRising_7 rfl (lv_at hl 0 rfl) ?_
      refine lv_iload_n hx hb dX8_isRising_8 rfl (lv_at hl 1 rfl) ?_
      refine lv_iload_n hx hb dX8_isRising_9 rfl (lv_at hl 2 rfl) ?_
      refine h_cSi (As := [.int c0, .int c1, .int v2]) (rest := []) hf hx hb hml hts hown hX hw myX8_partOfWeek msX8_partOfWeek lkX8_285 (fun q hq => c_X8_partOfWeek l E B T c0 c1 v2 u0 hq) ⟨Nat.le_of_ble_eq_true rfl, Nat.le_of_ble_eq_true rfl⟩ ⟨Nat.le_refl _, Nat.le_refl _⟩ rfl hl.1 rfl (Nat.le_of_ble_eq_true rfl) dX8_isRising_10 (fun q1 H1 L1 hf hw => ?_)
      refine lv_iload_n hx hb dX8_isRising_13 rfl (lv_at hl 0 rfl) ?_
      refine lv_iload_n hx hb dX8_isRising_14 rfl (lv_at hl 1 rfl) ?_
      refine lv_iload_n hx hb dX8_isRising_15 rfl (lv_at hl 2 rfl) ?_
      refine lv_iconst (v := 1) hx hb dX8_isRising_16 (by decide) ?_
      refine lv_isub hx hb dX8_isRising_17 ?_
      refine h_cSi (As := [.int c0, .int c1, .int (v2 - (1 : Int32))]) (rest := [.int q1.1]) hf hx hb hml hts hown hX hw myX8_partOfWeek msX8_partOfWeek lkX8_285 (fun q hq => c_X8_partOfWeek l E B T c0 c1 (v2 - (1 : Int32)) q1.2 hq) ⟨Nat.le_of_ble_eq_true rfl, Nat.le_of_ble_eq_true rfl⟩ ⟨Nat.le_refl _, Nat.le_refl _⟩ rfl hl.1 rfl (Nat.le_of_ble_eq_true rfl) dX8_isRising_18 (fun q2 H2 L2 hf hw => ?_)
      refine lv_icmp_ge (tgt := 26) hx hb dX8_isRising_21 (by decide) (fun hc => ?_) (fun hc => ?_)
      · have hf := ifp hc hf
        refine h_iinc (k := 2) hf hx hb dX8_isRising_26 hl rfl (by decide) (by decide) (fun x3 ls hf hl => ?_)
        have hl : lv_has ls 3 [(2, .int x3), (0, .int c0), (1, .int c1)] := hl
        refine lv_goto (tgt := 2) hx hb dX8_isRising_29 (by decide) ?_
        exact ih x3 q2.2 _ _ _ hf hw (lv_sub hl [1, 2, 0] rfl)
      · have hf := ifn hc hf
        refine lv_iconst (v := 0) hx hb dX8_isRising_24 (by decide) ?_
        exact h_zret hf hx hb hr hlk hw dX8_isRising_25
set_option maxRecDepth 100000 in
set_option maxHeartbeats 4000000 in
theorem wX8_isRising {p0 : Int32} {p1 : Int32} {u0 : hM} {z : Int32 × hM} {ls : Array Slot} (hΓ : h_Γ E B T p s m args meth c cX8_isRising 3 (some .boolean) RX8) (hf : fX8_isRising T p0 p1 u0 = some z) (hw : h_W E B T s.heap u0 s.heap []) (hl : lv_has ls 3 [(0, .int p0), (1, .int p1)]) : W p l e (h_rm 1) s m args below meth c s.heap [] 0 0 (h_Qi below E B T args s z) (F0 m 0 ls []) := by
  obtain ⟨hx, hb, hr, hml, hts, hown, hlk, hX⟩ := id hΓ
  unfold fX8_isRising at hf
  refine lv_iconst (v := 2) hx hb dX8_isRising_0 (by decide) ?_
  refine lv_istore_n (lv' := [(2, .int (2 : Int32)), (0, .int p0), (1, .int p1)]) hx hb dX8_isRising_1 rfl hl (by decide) rfl (fun ls hl => ?_)
  refine wfX8_isRising_L2 hΓ ?_ 6000 (2 : Int32) u0 _ _ _ hf hw (lv_sub hl [1, 2, 0] rfl)
  intro u4 H4 L4 ls hf hw hl
  refine lv_iconst (v := 1) hx hb dX8_isRising_32 (by decide) ?_
  exact h_zret hf hx hb hr hlk hw dX8_isRising_33
theorem c_X8_isRising (l : Launch) (E : hE) (B : Nat) (T : hT) (p0 : Int32) (p1 : Int32) (u0 : hM) {z : Int32 × hM} (hf : fX8_isRising T p0 p1 u0 = some z) : h_Ct l E B T yX8_isRising cX8_isRising 3 (some .boolean) 1 [.int p0, .int p1] u0 z.2 (some (.int z.1)) := h_ofW (by decide) (Nat.le_of_ble_eq_true rfl) (fun p e s m below meth c ls hΓ hl hw => wX8_isRising hΓ hf hw hl)
def fX3_copyFrom (T : hT) (a0 : Nat) (r1 : Nat) (u0 : hM) : Option (hM) := (gti T u0 r1 3 0).bind fun x1 => (pti T u0 a0 3 0 x1).bind fun u2 => (gti T u2 r1 3 1).bind fun x3 => (pti T u2 a0 3 1 x3).bind fun u4 => (gti T u4 r1 3 2).bind fun x5 => (pti T u4 a0 3 2 x5).bind fun u6 => (gti T u6 r1 3 3).bind fun x7 => (pti T u6 a0 3 3 x7).bind fun u8 => (gti T u8 r1 3 4).bind fun x9 => (pti T u8 a0 3 4 x9).bind fun u10 => (gti T u10 r1 3 5).bind fun x11 => (pti T u10 a0 3 5 x11).bind fun u12 => (gti T u12 r1 3 6).bind fun x13 => (pti T u12 a0 3 6 x13).bind fun u14 => (gti T u14 r1 3 7).bind fun x15 => (pti T u14 a0 3 7 x15).bind fun u16 => some u16
set_option maxRecDepth 100000 in
set_option maxHeartbeats 4000000 in
theorem wX3_copyFrom {a0 : Nat} {r1 : Nat} {u0 : hM} {z : hM} {ls : Array Slot} (hΓ : h_Γ E B T p s m args meth c cX3_copyFrom 2 none RX3) (hf : fX3_copyFrom T a0 r1 u0 = some z) (hw : h_W E B T s.heap u0 s.heap []) (hl : lv_has ls 2 [(0, .ref (B + a0)), (1, .ref (B + r1))]) : W p l e (h_rm 0) s m args below meth c s.heap [] 0 0 (h_Qv below E B T args s z) (F0 m 0 ls []) := by
  obtain ⟨hx, hb, hr, hml, hts, hown, hlk, hX⟩ := id hΓ
  unfold fX3_copyFrom at hf
  refine lv_aload_n hx hb dX3_copyFrom_0 rfl (lv_at hl 0 rfl) ?_
  refine lv_aload_n hx hb dX3_copyFrom_1 rfl (lv_at hl 1 rfl) ?_
  refine h_geti hf hx hb hts hown hX hw flX3_9 rfl dX3_copyFrom_2 (fun x1 hf => ?_)
  refine h_puti hf hx hb hts hown hX hw flX3_9 ⟨rfl, rfl⟩ dX3_copyFrom_5 (fun u2 H2 L2 hf hw => ?_)
  refine lv_aload_n hx hb dX3_copyFrom_8 rfl (lv_at hl 0 rfl) ?_
  refine lv_aload_n hx hb dX3_copyFrom_9 rfl (lv_at hl 1 rfl) ?_
  refine h_geti hf hx hb hts hown hX hw flX3_15 rfl dX3_copyFrom_10 (fun x3 hf => ?_)
  refine h_puti hf hx hb hts hown hX hw flX3_15 ⟨rfl, rfl⟩ dX3_copyFrom_13 (fun u4 H4 L4 hf hw => ?_)
  refine lv_aload_n hx hb dX3_copyFrom_16 rfl (lv_at hl 0 rfl) ?_
  refine lv_aload_n hx hb dX3_copyFrom_17 rfl (lv_at hl 1 rfl) ?_
  refine h_geti hf hx hb hts hown hX hw flX3_18 rfl dX3_copyFrom_18 (fun x5 hf => ?_)
  refine h_puti hf hx hb hts hown hX hw flX3_18 ⟨rfl, rfl⟩ dX3_copyFrom_21 (fun u6 H6 L6 hf hw => ?_)
  refine lv_aload_n hx hb dX3_copyFrom_24 rfl (lv_at hl 0 rfl) ?_
  refine lv_aload_n hx hb dX3_copyFrom_25 rfl (lv_at hl 1 rfl) ?_
  refine h_geti hf hx hb hts hown hX hw flX3_21 rfl dX3_copyFrom_26 (fun x7 hf => ?_)
  refine h_puti hf hx hb hts hown hX hw flX3_21 ⟨rfl, rfl⟩ dX3_copyFrom_29 (fun u8 H8 L8 hf hw => ?_)
  refine lv_aload_n hx hb dX3_copyFrom_32 rfl (lv_at hl 0 rfl) ?_
  refine lv_aload_n hx hb dX3_copyFrom_33 rfl (lv_at hl 1 rfl) ?_
  refine h_geti hf hx hb hts hown hX hw flX3_24 rfl dX3_copyFrom_34 (fun x9 hf => ?_)
  refine h_puti hf hx hb hts hown hX hw flX3_24 ⟨rfl, rfl⟩ dX3_copyFrom_37 (fun u10 H10 L10 hf hw => ?_)
  refine lv_aload_n hx hb dX3_copyFrom_40 rfl (lv_at hl 0 rfl) ?_
  refine lv_aload_n hx hb dX3_copyFrom_41 rfl (lv_at hl 1 rfl) ?_
  refine h_geti hf hx hb hts hown hX hw flX3_27 rfl dX3_copyFrom_42 (fun x11 hf => ?_)
  refine h_puti hf hx hb hts hown hX hw flX3_27 ⟨rfl, rfl⟩ dX3_copyFrom_45 (fun u12 H12 L12 hf hw => ?_)
  refine lv_aload_n hx hb dX3_copyFrom_48 rfl (lv_at hl 0 rfl) ?_
  refine lv_aload_n hx hb dX3_copyFrom_49 rfl (lv_at hl 1 rfl) ?_
  refine h_geti hf hx hb hts hown hX hw flX3_30 rfl dX3_copyFrom_50 (fun x13 hf => ?_)
  refine h_puti hf hx hb hts hown hX hw flX3_30 ⟨rfl, rfl⟩ dX3_copyFrom_53 (fun u14 H14 L14 hf hw => ?_)
  refine lv_aload_n hx hb dX3_copyFrom_56 rfl (lv_at hl 0 rfl) ?_
  refine lv_aload_n hx hb dX3_copyFrom_57 rfl (lv_at hl 1 rfl) ?_
  refine h_geti hf hx hb hts hown hX hw flX3_33 rfl dX3_copyFrom_58 (fun x15 hf => ?_)
  refine h_puti hf hx hb hts hown hX hw flX3_33 ⟨rfl, rfl⟩ dX3_copyFrom_61 (fun u16 H16 L16 hf hw => ?_)
  exact h_vret hf hx hb hr hlk hw dX3_copyFrom_64
theorem c_X3_copyFrom (l : Launch) (E : hE) (B : Nat) (T : hT) (a0 : Nat) (r1 : Nat) (u0 : hM) {z : hM} (hf : fX3_copyFrom T a0 r1 u0 = some z) : h_Ct l E B T yX3_copyFrom cX3_copyFrom 2 none 0 [.ref (B + a0), .ref (B + r1)] u0 z none := h_ofW (by decide) (Nat.le_of_ble_eq_true rfl) (fun p e s m below meth c ls hΓ hl hw => wX3_copyFrom hΓ hf hw hl)
def fX8_plan_L82 (T : hT) (c0 : Nat) (c2 : Int32) (c6 : Int32) (ex : hM → Option (Int32 × hM)) : Nat → Int32 → hM → Option (Int32 × hM)
  | 0, _, _ => none
  | n + 1, v7, u0 => if c2 < v7 then (ex u0) else ((gtr T u0 c0 8 13).bind fun a14 => (fX8_partOfWeek T c6 c2 v7 u0).bind fun q15 => (vc T a14 3 (fX3_learn T a14 q15.1 q15.2)).bind fun q16 => lt (v7 + (1 : Int32)) fun x17 => fX8_plan_L82 T c0 c2 c6 ex n x17 q16)
def fX8_plan_L41 (T : hT) (c0 : Nat) (c1 : Int32) (c2 : Int32) (ex : Int32 → Int32 → hM → Option (Int32 × hM)) : Nat → Int32 → Int32 → Int32 → hM → Option (Int32 × hM)
  | 0, _, _, _, _ => none
  | n + 1, v4, v5, v6, u0 => if ((1 : Int32) <<< (((2 : Int32) * c2) &&& 31)) ≤ v6 then (ex v4 v5 u0) else ((fX8_isRising T v6 c2 u0).bind fun q4 => lt (fun (x5 : Int32) (x6 : Int32) (u7 : hM) => lt (v6 + (1 : Int32)) fun x8 => fX8_plan_L41 T c0 c1 c2 ex n x5 x6 x8 u7) fun J134 => if q4.1 = 0 then (J134 v4 v5 q4.2) else ((gtr T q4.2 c0 8 13).bind fun a9 => (gtr T q4.2 c0 8 6).bind fun a10 => (gtr T q4.2 a10 5 2).bind fun a11 => (aldr 15 T q4.2 a11 c1).bind fun a12 => (vc T a9 3 (fX3_copyFrom T a9 a12 q4.2)).bind fun q13 => fX8_plan_L82 T c0 c2 v6 (fun (u18 : hM) => (gtr T u18 c0 8 13).bind fun a19 => (vc T c0 8 (fX8_plainPoints T c0 a19 u18)).bind fun q20 => if q20.1 ≤ v4 then (J134 v4 v5 q20.2) else (J134 q20.1 v6 q20.2)) 6000 (1 : Int32) q13))
def fX8_plan (T : hT) (a0 : Nat) (p1 : Int32) (p2 : Int32) (p3 : Int32) (u0 : hM) : Option (Int32 × hM) := (vc T a0 8 (fX8_isSinger T a0 p1 u0)).bind fun q1 => if q1.1 = 0 then (some ((-1000000001 : Int32), q1.2)) else ((fX8_isWithin T p2 (1 : Int32) (4 : Int32) q1.2).bind fun q2 => if q2.1 = 0 then (some ((-1000000002 : Int32), q2.2)) else ((fX8_isWithin T p3 (0 : Int32) p2 q2.2).bind fun q3 => if q3.1 = 0 then (some ((-1000000002 : Int32), q3.2)) else (fX8_plan_L41 T a0 p1 p2 (fun (x21 : Int32) (x22 : Int32) (u23 : hM) => if p3 = 0 then (some (x21, u23)) else ((fX8_partOfWeek T x22 p2 p3 u23).bind fun q24 => some (q24.1, q24.2))) 6000 (-1 : Int32) (0 : Int32) (0 : Int32) q3.2)))
set_option maxRecDepth 100000 in
set_option maxHeartbeats 4000000 in
theorem wfX8_plan_L82 {c0 : Nat} {c1 : Int32} {c2 : Int32} {c3 : Int32} {c4 : Int32} {c5 : Int32} {c6 : Int32} {ex : hM → Option (Int32 × hM)} {z : Int32 × hM} (hΓ : h_Γ E B T p s m args meth c cX8_plan 8 (some .int) RX8) (hex : ∀ (u9 : hM) (H9 : Heap) (L9 : List Loc) (ls : Array Slot), ex u9 = some z → h_W E B T s.heap u9 H9 L9 → lv_has ls 8 [(0, .ref (B + c0)), (1, .int c1), (2, .int c2), (3, .int c3), (4, .int c4), (5, .int c5), (6, .int c6)] → W p l e (h_rm 6) s m args below meth c H9 L9 0 0 (h_Qi below E B T args s z) (F0 m 109 ls [])) : ∀ (n : Nat) (v7 : Int32) (u0 : hM) (H0 : Heap) (L0 : List Loc) (ls : Array Slot), fX8_plan_L82 T c0 c2 c6 ex n v7 u0 = some z → h_W E B T s.heap u0 H0 L0 → lv_has ls 8 [(0, .ref (B + c0)), (1, .int c1), (2, .int c2), (3, .int c3), (4, .int c4), (5, .int c5), (6, .int c6), (7, .int v7)] → W p l e (h_rm 6) s m args below meth c H0 L0 0 0 (h_Qi below E B T args s z) (F0 m 82 ls []) := by
  obtain ⟨hx, hb, hr, hml, hts, hown, hlk, hX⟩ := id hΓ
  intro n
  induction n with
  | zero =>
    intro v7 u0 H0 L0 ls hf hw hl
    exact absurd (show (none : Option (Int32 × hM)) = some z from hf) (fun h => by cases h)
  | succ n ih =>
    intro v7 u0 H0 L0 ls hf hw hl
    rw [fX8_plan_L82] at hf
    refine lv_iload hx hb dX8_plan_82 (lv_at hl 7 rfl) ?_
    refine lv_iload_n hx hb dX8_plan_84 rfl (lv_at hl 2 rfl) ?_
    refine lv_icmp_gt (tgt := 109) hx hb dX8_plan_85 (by decide) (fun hc => ?_) (fun hc => ?_)
    · have hf := ifp hc hf
      exact hex  u0 _ _ _ hf hw (lv_sub hl [0, 1, 2, 3, 4, 5, 6] rfl)
    · have hf := ifn hc hf
      refine lv_aload_n hx hb dX8_plan_88 rfl (lv_at hl 0 rfl) ?_
      refine h_getr hf hx hb hts hown hX hw flX8_87 rfl dX8_plan_89 (fun a14 hf => ?_)
      refine lv_iload hx hb dX8_plan_92 (lv_at hl 6 rfl) ?_
      refine lv_iload_n hx hb dX8_plan_94 rfl (lv_at hl 2 rfl) ?_
      refine lv_iload hx hb dX8_plan_95 (lv_at hl 7 rfl) ?_
      refine h_cSi (As := [.int c6, .int c2, .int v7]) (rest := [.ref (B + a14)]) hf hx hb hml hts hown hX hw myX8_partOfWeek msX8_partOfWeek lkX8_285 (fun q hq => c_X8_partOfWeek l E B T c6 c2 v7 u0 hq) ⟨Nat.le_of_ble_eq_true rfl, Nat.le_of_ble_eq_true rfl⟩ ⟨Nat.le_refl _, Nat.le_refl _⟩ rfl hl.1 rfl (Nat.le_of_ble_eq_true rfl) dX8_plan_97 (fun q15 H15 L15 hf hw => ?_)
      refine h_cVv (As := [.int q15.1]) (rest := []) hf hx hb hml hts hown hX hw myX3_learn miX3_learn lkX8_270 ⟨rfl, by decide⟩ (fun q hq => c_X3_learn l E B T a14 q15.1 q15.2 hq) ⟨Nat.le_of_ble_eq_true rfl, Nat.le_of_ble_eq_true rfl⟩ ⟨Nat.le_refl _, Nat.le_refl _⟩ rfl hl.1 rfl (Nat.le_of_ble_eq_true rfl) dX8_plan_100 (fun q16 H16 L16 hf hw => ?_)
      refine h_iinc (k := 7) hf hx hb dX8_plan_103 hl rfl (by decide) (by decide) (fun x17 ls hf hl => ?_)
      have hl : lv_has ls 8 [(7, .int x17), (0, .ref (B + c0)), (1, .int c1), (2, .int c2), (3, .int c3), (4, .int c4), (5, .int c5), (6, .int c6)] := hl
      refine lv_goto (tgt := 82) hx hb dX8_plan_106 (by decide) ?_
      exact ih x17 q16 _ _ _ hf hw (lv_sub hl [1, 2, 3, 4, 5, 6, 7, 0] rfl)
set_option maxRecDepth 100000 in
set_option maxHeartbeats 4000000 in
theorem wfX8_plan_L41 {c0 : Nat} {c1 : Int32} {c2 : Int32} {c3 : Int32} {ex : Int32 → Int32 → hM → Option (Int32 × hM)} {z : Int32 × hM} (hΓ : h_Γ E B T p s m args meth c cX8_plan 8 (some .int) RX8) (hex : ∀ (y4 : Int32) (y5 : Int32) (u9 : hM) (H9 : Heap) (L9 : List Loc) (ls : Array Slot), ex y4 y5 u9 = some z → h_W E B T s.heap u9 H9 L9 → lv_has ls 8 [(2, .int c2), (3, .int c3), (4, .int y4), (5, .int y5)] → W p l e (h_rm 6) s m args below meth c H9 L9 0 0 (h_Qi below E B T args s z) (F0 m 140 ls [])) : ∀ (n : Nat) (v4 : Int32) (v5 : Int32) (v6 : Int32) (u0 : hM) (H0 : Heap) (L0 : List Loc) (ls : Array Slot), fX8_plan_L41 T c0 c1 c2 ex n v4 v5 v6 u0 = some z → h_W E B T s.heap u0 H0 L0 → lv_has ls 8 [(0, .ref (B + c0)), (1, .int c1), (2, .int c2), (3, .int c3), (4, .int v4), (5, .int v5), (6, .int v6)] → W p l e (h_rm 6) s m args below meth c H0 L0 0 0 (h_Qi below E B T args s z) (F0 m 41 ls []) := by
  obtain ⟨hx, hb, hr, hml, hts, hown, hlk, hX⟩ := id hΓ
  intro n
  induction n with
  | zero =>
    intro v4 v5 v6 u0 H0 L0 ls hf hw hl
    exact absurd (show (none : Option (Int32 × hM)) = some z from hf) (fun h => by cases h)
  | succ n ih =>
    intro v4 v5 v6 u0 H0 L0 ls hf hw hl
    rw [fX8_plan_L41] at hf
    refine lv_iload hx hb dX8_plan_41 (lv_at hl 6 rfl) ?_
    refine lv_iconst (v := 1) hx hb dX8_plan_43 (by decide) ?_
    refine lv_iconst (v := 2) hx hb dX8_plan_44 (by decide) ?_
    refine lv_iload_n hx hb dX8_plan_45 rfl (lv_at hl 2 rfl) ?_
    refine lv_imul hx hb dX8_plan_46 ?_
    refine lv_ishl hx hb dX8_plan_47 ?_
    refine lv_icmp_ge (tgt := 140) hx hb dX8_plan_48 (by decide) (fun hc => ?_) (fun hc => ?_)
    · have hf := ifp hc hf
      exact hex v4 v5 u0 _ _ _ hf hw (lv_sub hl [2, 3, 4, 5] rfl)
    · have hf := ifn hc hf
      refine lv_iload hx hb dX8_plan_51 (lv_at hl 6 rfl) ?_
      refine lv_iload_n hx hb dX8_plan_53 rfl (lv_at hl 2 rfl) ?_
      refine h_cSi (As := [.int v6, .int c2]) (rest := []) hf hx hb hml hts hown hX hw myX8_isRising msX8_isRising lkX8_278 (fun q hq => c_X8_isRising l E B T v6 c2 u0 hq) ⟨Nat.le_of_ble_eq_true rfl, Nat.le_of_ble_eq_true rfl⟩ ⟨Nat.le_refl _, Nat.le_refl _⟩ rfl hl.1 rfl (Nat.le_of_ble_eq_true rfl) dX8_plan_54 (fun q4 H4 L4 hf hw => ?_)
      obtain ⟨J134, eJ134, hf⟩ := h_lt hf
      have hJ134 : ∀ (x5 : Int32) (x6 : Int32) (u7 : hM) (H7 : Heap) (L7 : List Loc) (ls : Array Slot), J134 x5 x6 u7 = some z → h_W E B T s.heap u7 H7 L7 → lv_has ls 8 [(0, .ref (B + c0)), (1, .int c1), (2, .int c2), (3, .int c3), (4, .int x5), (5, .int x6), (6, .int v6)] → W p l e (h_rm 6) s m args below meth c H7 L7 0 0 (h_Qi below E B T args s z) (F0 m 134 ls []) := by
        intro x5 x6 u7 H7 L7 ls hf hw hl
        rw [eJ134] at hf
        refine h_iinc (k := 6) hf hx hb dX8_plan_134 hl rfl (by decide) (by decide) (fun x8 ls hf hl => ?_)
        have hl : lv_has ls 8 [(6, .int x8), (0, .ref (B + c0)), (1, .int c1), (2, .int c2), (3, .int c3), (4, .int x5), (5, .int x6)] := hl
        refine lv_goto (tgt := 41) hx hb dX8_plan_137 (by decide) ?_
        exact ih x5 x6 x8 u7 _ _ _ hf hw (lv_sub hl [1, 2, 3, 4, 5, 6, 0] rfl)
      clear eJ134
      refine lv_if_ne (tgt := 63) hx hb dX8_plan_57 (by decide) (fun hc => ?_) (fun hc => ?_)
      · have hf := ifn hc hf
        refine lv_aload_n hx hb dX8_plan_63 rfl (lv_at hl 0 rfl) ?_
        refine h_getr hf hx hb hts hown hX hw flX8_87 rfl dX8_plan_64 (fun a9 hf => ?_)
        refine lv_aload_n hx hb dX8_plan_67 rfl (lv_at hl 0 rfl) ?_
        refine h_getr hf hx hb hts hown hX hw flX8_47 rfl dX8_plan_68 (fun a10 hf => ?_)
        refine h_getr hf hx hb hts hown hX hw flX8_131 rfl dX8_plan_71 (fun a11 hf => ?_)
        refine lv_iload_n hx hb dX8_plan_74 rfl (lv_at hl 1 rfl) ?_
        refine h_aald15 hf hx hb hX hw dX8_plan_75 (fun a12 hf => ?_)
        refine h_cVv (As := [.ref (B + a12)]) (rest := []) hf hx hb hml hts hown hX hw myX3_copyFrom miX3_copyFrom lkX8_281 ⟨rfl, by decide⟩ (fun q hq => c_X3_copyFrom l E B T a9 a12 q4.2 hq) ⟨Nat.le_of_ble_eq_true rfl, Nat.le_of_ble_eq_true rfl⟩ ⟨Nat.le_refl _, Nat.le_refl _⟩ rfl hl.1 rfl (Nat.le_of_ble_eq_true rfl) dX8_plan_76 (fun q13 H13 L13 hf hw => ?_)
        refine lv_iconst (v := 1) hx hb dX8_plan_79 (by decide) ?_
        refine lv_istore (lv' := [(7, .int (1 : Int32)), (0, .ref (B + c0)), (1, .int c1), (2, .int c2), (3, .int c3), (4, .int v4), (5, .int v5), (6, .int v6)]) hx hb dX8_plan_80 hl (by decide) rfl (fun ls hl => ?_)
        refine wfX8_plan_L82 hΓ ?_ 6000 (1 : Int32) q13 _ _ _ hf hw (lv_sub hl [1, 2, 3, 4, 5, 6, 7, 0] rfl)
        intro u18 H18 L18 ls hf hw hl
        refine lv_aload_n hx hb dX8_plan_109 rfl (lv_at hl 0 rfl) ?_
        refine lv_aload_n hx hb dX8_plan_110 rfl (lv_at hl 0 rfl) ?_
        refine h_getr hf hx hb hts hown hX hw flX8_87 rfl dX8_plan_111 (fun a19 hf => ?_)
        refine h_cVi (As := [.ref (B + a19)]) (rest := []) hf hx hb hml hts hown hX hw myX8_plainPoints miX8_plainPoints lkX8_274 ⟨rfl, by decide⟩ (fun q hq => c_X8_plainPoints l E B T c0 a19 u18 hq) ⟨Nat.le_of_ble_eq_true rfl, Nat.le_of_ble_eq_true rfl⟩ ⟨Nat.le_refl _, Nat.le_refl _⟩ rfl hl.1 rfl (Nat.le_of_ble_eq_true rfl) dX8_plan_114 (fun q20 H20 L20 hf hw => ?_)
        refine lv_istore (lv' := [(7, .int q20.1), (0, .ref (B + c0)), (1, .int c1), (2, .int c2), (3, .int c3), (4, .int v4), (5, .int v5), (6, .int v6)]) hx hb dX8_plan_117 hl (by decide) rfl (fun ls hl => ?_)
        refine lv_iload hx hb dX8_plan_119 (lv_at hl 0 rfl) ?_
        refine lv_iload hx hb dX8_plan_121 (lv_at hl 5 rfl) ?_
        refine lv_icmp_le (tgt := 134) hx hb dX8_plan_123 (by decide) (fun hc => ?_) (fun hc => ?_)
        · have hf := ifp hc hf
          exact hJ134 v4 v5 q20.2 _ _ _ hf hw (lv_sub hl [1, 2, 3, 4, 5, 6, 7] rfl)
        · have hf := ifn hc hf
          refine lv_iload hx hb dX8_plan_126 (lv_at hl 0 rfl) ?_
          refine lv_istore (lv' := [(4, .int q20.1), (7, .int q20.1), (0, .ref (B + c0)), (1, .int c1), (2, .int c2), (3, .int c3), (5, .int v5), (6, .int v6)]) hx hb dX8_plan_128 hl (by decide) rfl (fun ls hl => ?_)
          refine lv_iload hx hb dX8_plan_130 (lv_at hl 7 rfl) ?_
          refine lv_istore (lv' := [(5, .int v6), (4, .int q20.1), (7, .int q20.1), (0, .ref (B + c0)), (1, .int c1), (2, .int c2), (3, .int c3), (6, .int v6)]) hx hb dX8_plan_132 hl (by decide) rfl (fun ls hl => ?_)
          exact hJ134 q20.1 v6 q20.2 _ _ _ hf hw (lv_sub hl [3, 4, 5, 6, 1, 0, 7] rfl)
      · have hf := ifp hc hf
        refine lv_goto (tgt := 134) hx hb dX8_plan_60 (by decide) ?_
        exact hJ134 v4 v5 q4.2 _ _ _ hf hw (lv_sub hl [0, 1, 2, 3, 4, 5, 6] rfl)
set_option maxRecDepth 100000 in
set_option maxHeartbeats 4000000 in
theorem wX8_plan {a0 : Nat} {p1 : Int32} {p2 : Int32} {p3 : Int32} {u0 : hM} {z : Int32 × hM} {ls : Array Slot} (hΓ : h_Γ E B T p s m args meth c cX8_plan 8 (some .int) RX8) (hf : fX8_plan T a0 p1 p2 p3 u0 = some z) (hw : h_W E B T s.heap u0 s.heap []) (hl : lv_has ls 8 [(0, .ref (B + a0)), (1, .int p1), (2, .int p2), (3, .int p3)]) : W p l e (h_rm 6) s m args below meth c s.heap [] 0 0 (h_Qi below E B T args s z) (F0 m 0 ls []) := by
  obtain ⟨hx, hb, hr, hml, hts, hown, hlk, hX⟩ := id hΓ
  unfold fX8_plan at hf
  refine lv_aload_n hx hb dX8_plan_0 rfl (lv_at hl 0 rfl) ?_
  refine lv_iload_n hx hb dX8_plan_1 rfl (lv_at hl 1 rfl) ?_
  refine h_cVi (As := [.int p1]) (rest := []) hf hx hb hml hts hown hX hw myX8_isSinger miX8_isSinger lkX8_165 ⟨rfl, by decide⟩ (fun q hq => c_X8_isSinger l E B T a0 p1 u0 hq) ⟨Nat.le_of_ble_eq_true rfl, Nat.le_of_ble_eq_true rfl⟩ ⟨Nat.le_refl _, Nat.le_refl _⟩ rfl hl.1 rfl (Nat.le_of_ble_eq_true rfl) dX8_plan_2 (fun q1 H1 L1 hf hw => ?_)
  refine lv_if_ne (tgt := 11) hx hb dX8_plan_5 (by decide) (fun hc => ?_) (fun hc => ?_)
  · have hf := ifn hc hf
    refine lv_iload_n hx hb dX8_plan_11 rfl (lv_at hl 2 rfl) ?_
    refine lv_iconst (v := 1) hx hb dX8_plan_12 (by decide) ?_
    refine lv_iconst (v := 4) hx hb dX8_plan_13 (by decide) ?_
    refine h_cSi (As := [.int p2, .int (1 : Int32), .int (4 : Int32)]) (rest := []) hf hx hb hml hts hown hX hw myX8_isWithin msX8_isWithin lkX8_91 (fun q hq => c_X8_isWithin l E B T p2 (1 : Int32) (4 : Int32) q1.2 hq) ⟨Nat.le_of_ble_eq_true rfl, Nat.le_of_ble_eq_true rfl⟩ ⟨Nat.le_refl _, Nat.le_refl _⟩ rfl hl.1 rfl (Nat.le_of_ble_eq_true rfl) dX8_plan_14 (fun q2 H2 L2 hf hw => ?_)
    refine lv_if_eq (tgt := 29) hx hb dX8_plan_17 (by decide) (fun hc => ?_) (fun hc => ?_)
    · have hf := ifp hc hf
      refine lv_ldc hx hb hown (hts _ kcX8_95) dX8_plan_29 ?_
      exact h_iret hf hx hb hr hlk hw dX8_plan_31
    · have hf := ifn hc hf
      refine lv_iload_n hx hb dX8_plan_20 rfl (lv_at hl 3 rfl) ?_
      refine lv_iconst (v := 0) hx hb dX8_plan_21 (by decide) ?_
      refine lv_iload_n hx hb dX8_plan_22 rfl (lv_at hl 2 rfl) ?_
      refine h_cSi (As := [.int p3, .int (0 : Int32), .int p2]) (rest := []) hf hx hb hml hts hown hX hw myX8_isWithin msX8_isWithin lkX8_91 (fun q hq => c_X8_isWithin l E B T p3 (0 : Int32) p2 q2.2 hq) ⟨Nat.le_of_ble_eq_true rfl, Nat.le_of_ble_eq_true rfl⟩ ⟨Nat.le_refl _, Nat.le_refl _⟩ rfl hl.1 rfl (Nat.le_of_ble_eq_true rfl) dX8_plan_23 (fun q3 H3 L3 hf hw => ?_)
      refine lv_if_ne (tgt := 32) hx hb dX8_plan_26 (by decide) (fun hc => ?_) (fun hc => ?_)
      · have hf := ifn hc hf
        refine lv_iconst (v := -1) hx hb dX8_plan_32 (by decide) ?_
        refine lv_istore (lv' := [(4, .int (-1 : Int32)), (0, .ref (B + a0)), (1, .int p1), (2, .int p2), (3, .int p3)]) hx hb dX8_plan_33 hl (by decide) rfl (fun ls hl => ?_)
        refine lv_iconst (v := 0) hx hb dX8_plan_35 (by decide) ?_
        refine lv_istore (lv' := [(5, .int (0 : Int32)), (4, .int (-1 : Int32)), (0, .ref (B + a0)), (1, .int p1), (2, .int p2), (3, .int p3)]) hx hb dX8_plan_36 hl (by decide) rfl (fun ls hl => ?_)
        refine lv_iconst (v := 0) hx hb dX8_plan_38 (by decide) ?_
        refine lv_istore (lv' := [(6, .int (0 : Int32)), (5, .int (0 : Int32)), (4, .int (-1 : Int32)), (0, .ref (B + a0)), (1, .int p1), (2, .int p2), (3, .int p3)]) hx hb dX8_plan_39 hl (by decide) rfl (fun ls hl => ?_)
        refine wfX8_plan_L41 hΓ ?_ 6000 (-1 : Int32) (0 : Int32) (0 : Int32) q3.2 _ _ _ hf hw (lv_sub hl [3, 4, 5, 6, 2, 1, 0] rfl)
        intro x21 x22 u23 H23 L23 ls hf hw hl
        refine lv_iload_n hx hb dX8_plan_140 rfl (lv_at hl 1 rfl) ?_
        refine lv_if_ne (tgt := 149) hx hb dX8_plan_141 (by decide) (fun hc => ?_) (fun hc => ?_)
        · have hf := ifn hc hf
          refine lv_iload hx hb dX8_plan_149 (lv_at hl 3 rfl) ?_
          refine lv_iload_n hx hb dX8_plan_151 rfl (lv_at hl 0 rfl) ?_
          refine lv_iload_n hx hb dX8_plan_152 rfl (lv_at hl 1 rfl) ?_
          refine h_cSi (As := [.int x22, .int p2, .int p3]) (rest := []) hf hx hb hml hts hown hX hw myX8_partOfWeek msX8_partOfWeek lkX8_285 (fun q hq => c_X8_partOfWeek l E B T x22 p2 p3 u23 hq) ⟨Nat.le_of_ble_eq_true rfl, Nat.le_of_ble_eq_true rfl⟩ ⟨Nat.le_refl _, Nat.le_refl _⟩ rfl hl.1 rfl (Nat.le_of_ble_eq_true rfl) dX8_plan_153 (fun q24 H24 L24 hf hw => ?_)
          exact h_iret hf hx hb hr hlk hw dX8_plan_156
        · have hf := ifp hc hf
          refine lv_iload hx hb dX8_plan_144 (lv_at hl 2 rfl) ?_
          refine lv_goto (tgt := 156) hx hb dX8_plan_146 (by decide) ?_
          exact h_iret hf hx hb hr hlk hw dX8_plan_156
      · have hf := ifp hc hf
        refine lv_ldc hx hb hown (hts _ kcX8_95) dX8_plan_29 ?_
        exact h_iret hf hx hb hr hlk hw dX8_plan_31
  · have hf := ifp hc hf
    refine lv_ldc hx hb hown (hts _ kcX8_158) dX8_plan_8 ?_
    exact h_iret hf hx hb hr hlk hw dX8_plan_10
theorem c_X8_plan (l : Launch) (E : hE) (B : Nat) (T : hT) (a0 : Nat) (p1 : Int32) (p2 : Int32) (p3 : Int32) (u0 : hM) {z : Int32 × hM} (hf : fX8_plan T a0 p1 p2 p3 u0 = some z) : h_Ct l E B T yX8_plan cX8_plan 8 (some .int) 6 [.ref (B + a0), .int p1, .int p2, .int p3] u0 z.2 (some (.int z.1)) := h_ofW (by decide) (Nat.le_of_ble_eq_true rfl) (fun p e s m below meth c ls hΓ hl hw => wX8_plan hΓ hf hw hl)
def fX1_fitsWithin_L2 (T : hT) (c0 : Nat) (c1 : Int32) (c2 : Int32) (ex : hM → Option (Int32 × hM)) : Nat → Int32 → hM → Option (Int32 × hM)
  | 0, _, _ => none
  | n + 1, v3, u0 => (gti T u0 c0 1 2).bind fun x1 => if x1 ≤ v3 then (ex u0) else ((gtr T u0 c0 1 0).bind fun a2 => (ald 11 T u0 a2 v3).bind fun x3 => (fX8_isWithin T x3 c1 c2 u0).bind fun q4 => if q4.1 = 0 then (rtz (0 : Int32) q4.2) else (lt (v3 + (1 : Int32)) fun x5 => fX1_fitsWithin_L2 T c0 c1 c2 ex n x5 q4.2))
def fX1_fitsWithin (T : hT) (a0 : Nat) (p1 : Int32) (p2 : Int32) (u0 : hM) : Option (Int32 × hM) := fX1_fitsWithin_L2 T a0 p1 p2 (fun (u6 : hM) => rtz (1 : Int32) u6) 6000 (0 : Int32) u0
set_option maxRecDepth 100000 in
set_option maxHeartbeats 4000000 in
theorem wfX1_fitsWithin_L2 {c0 : Nat} {c1 : Int32} {c2 : Int32} {ex : hM → Option (Int32 × hM)} {z : Int32 × hM} (hΓ : h_Γ E B T p s m args meth c cX1_fitsWithin 4 (some .boolean) RX1) (hex : ∀ (u9 : hM) (H9 : Heap) (L9 : List Loc) (ls : Array Slot), ex u9 = some z → h_W E B T s.heap u9 H9 L9 → lv_has ls 4 [] → W p l e (h_rm 1) s m args below meth c H9 L9 0 0 (h_Qi below E B T args s z) (F0 m 32 ls [])) : ∀ (n : Nat) (v3 : Int32) (u0 : hM) (H0 : Heap) (L0 : List Loc) (ls : Array Slot), fX1_fitsWithin_L2 T c0 c1 c2 ex n v3 u0 = some z → h_W E B T s.heap u0 H0 L0 → lv_has ls 4 [(0, .ref (B + c0)), (1, .int c1), (2, .int c2), (3, .int v3)] → W p l e (h_rm 1) s m args below meth c H0 L0 0 0 (h_Qi below E B T args s z) (F0 m 2 ls []) := by
  obtain ⟨hx, hb, hr, hml, hts, hown, hlk, hX⟩ := id hΓ
  intro n
  induction n with
  | zero =>
    intro v3 u0 H0 L0 ls hf hw hl
    exact absurd (show (none : Option (Int32 × hM)) = some z from hf) (fun h => by cases h)
  | succ n ih =>
    intro v3 u0 H0 L0 ls hf hw hl
    rw [fX1_fitsWithin_L2] at hf
    refine lv_iload_n hx hb dX1_fitsWithin_2 rfl (lv_at hl 3 rfl) ?_
    refine lv_aload_n hx hb dX1_fitsWithin_3 rfl (lv_at hl 0 rfl) ?_
    refine h_geti hf hx hb hts hown hX hw flX1_18 rfl dX1_fitsWithin_4 (fun x1 hf => ?_)
    refine lv_icmp_ge (tgt := 32) hx hb dX1_fitsWithin_7 (by decide) (fun hc => ?_) (fun hc => ?_)
    · have hf := ifp hc hf
      exact hex  u0 _ _ _ hf hw (lv_sub hl [] rfl)
    · have hf := ifn hc hf
      refine lv_aload_n hx hb dX1_fitsWithin_10 rfl (lv_at hl 0 rfl) ?_
      refine h_getr hf hx hb hts hown hX hw flX1_9 rfl dX1_fitsWithin_11 (fun a2 hf => ?_)
      refine lv_iload_n hx hb dX1_fitsWithin_14 rfl (lv_at hl 3 rfl) ?_
      refine h_iald hf hx hb hX hw dX1_fitsWithin_15 (fun x3 hf => ?_)
      refine lv_iload_n hx hb dX1_fitsWithin_16 rfl (lv_at hl 1 rfl) ?_
      refine lv_iload_n hx hb dX1_fitsWithin_17 rfl (lv_at hl 2 rfl) ?_
      refine h_cNi (As := [.int x3, .int c1, .int c2]) (rest := []) hf hx hb hml hts hown hX hw myX8_isWithin msX8_isWithin nkX1_49 (fun q hq => c_X8_isWithin l E B T x3 c1 c2 u0 hq) ⟨Nat.le_of_ble_eq_true rfl, Nat.le_of_ble_eq_true rfl⟩ ⟨Nat.le_refl _, Nat.le_refl _⟩ rfl hl.1 rfl (Nat.le_of_ble_eq_true rfl) dX1_fitsWithin_18 (fun q4 H4 L4 hf hw => ?_)
      refine lv_if_ne (tgt := 26) hx hb dX1_fitsWithin_21 (by decide) (fun hc => ?_) (fun hc => ?_)
      · have hf := ifn hc hf
        refine h_iinc (k := 3) hf hx hb dX1_fitsWithin_26 hl rfl (by decide) (by decide) (fun x5 ls hf hl => ?_)
        have hl : lv_has ls 4 [(3, .int x5), (0, .ref (B + c0)), (1, .int c1), (2, .int c2)] := hl
        refine lv_goto (tgt := 2) hx hb dX1_fitsWithin_29 (by decide) ?_
        exact ih x5 q4.2 _ _ _ hf hw (lv_sub hl [1, 2, 3, 0] rfl)
      · have hf := ifp hc hf
        refine lv_iconst (v := 0) hx hb dX1_fitsWithin_24 (by decide) ?_
        exact h_zret hf hx hb hr hlk hw dX1_fitsWithin_25
set_option maxRecDepth 100000 in
set_option maxHeartbeats 4000000 in
theorem wX1_fitsWithin {a0 : Nat} {p1 : Int32} {p2 : Int32} {u0 : hM} {z : Int32 × hM} {ls : Array Slot} (hΓ : h_Γ E B T p s m args meth c cX1_fitsWithin 4 (some .boolean) RX1) (hf : fX1_fitsWithin T a0 p1 p2 u0 = some z) (hw : h_W E B T s.heap u0 s.heap []) (hl : lv_has ls 4 [(0, .ref (B + a0)), (1, .int p1), (2, .int p2)]) : W p l e (h_rm 1) s m args below meth c s.heap [] 0 0 (h_Qi below E B T args s z) (F0 m 0 ls []) := by
  obtain ⟨hx, hb, hr, hml, hts, hown, hlk, hX⟩ := id hΓ
  unfold fX1_fitsWithin at hf
  refine lv_iconst (v := 0) hx hb dX1_fitsWithin_0 (by decide) ?_
  refine lv_istore_n (lv' := [(3, .int (0 : Int32)), (0, .ref (B + a0)), (1, .int p1), (2, .int p2)]) hx hb dX1_fitsWithin_1 rfl hl (by decide) rfl (fun ls hl => ?_)
  refine wfX1_fitsWithin_L2 hΓ ?_ 6000 (0 : Int32) u0 _ _ _ hf hw (lv_sub hl [1, 2, 3, 0] rfl)
  intro u6 H6 L6 ls hf hw hl
  refine lv_iconst (v := 1) hx hb dX1_fitsWithin_32 (by decide) ?_
  exact h_zret hf hx hb hr hlk hw dX1_fitsWithin_33
theorem c_X1_fitsWithin (l : Launch) (E : hE) (B : Nat) (T : hT) (a0 : Nat) (p1 : Int32) (p2 : Int32) (u0 : hM) {z : Int32 × hM} (hf : fX1_fitsWithin T a0 p1 p2 u0 = some z) : h_Ct l E B T yX1_fitsWithin cX1_fitsWithin 4 (some .boolean) 1 [.ref (B + a0), .int p1, .int p2] u0 z.2 (some (.int z.1)) := h_ofW (by decide) (Nat.le_of_ble_eq_true rfl) (fun p e s m below meth c ls hΓ hl hw => wX1_fitsWithin hΓ hf hw hl)
def fX8_countAble_L4 (T : hT) (c0 : Nat) (c1 : Int32) (ex : Int32 → hM → Option (Int32 × hM)) : Nat → Int32 → Int32 → hM → Option (Int32 × hM)
  | 0, _, _, _ => none
  | n + 1, v2, v3, u0 => (gtr T u0 c0 8 6).bind fun a1 => (gti T u0 a1 5 3).bind fun x2 => if x2 ≤ v3 then (ex v2 u0) else ((gtr T u0 c0 8 6).bind fun a3 => (gtr T u0 a3 5 2).bind fun a4 => (aldr 15 T u0 a4 v3).bind fun a5 => (gti T u0 a5 3 0).bind fun x6 => lt (fun (x7 : Int32) (u8 : hM) => lt (v3 + (1 : Int32)) fun x9 => fX8_countAble_L4 T c0 c1 ex n x7 x9 u8) fun J81 => if x6 = (4 : Int32) then (J81 v2 u0) else ((gti T u0 a5 3 0).bind fun x10 => if x10 = (7 : Int32) then (J81 v2 u0) else ((gtr T u0 c0 8 1).bind fun a11 => (gti T u0 a5 3 5).bind fun x12 => (vc T a5 3 (fX3_highSung T a5 u0)).bind fun q13 => (vc T a11 1 (fX1_fitsWithin T a11 ((100 : Int32) * (x12 - c1)) ((100 : Int32) * (q13.1 - c1)) q13.2)).bind fun q14 => if q14.1 = 0 then (J81 v2 q14.2) else (lt (v2 + (1 : Int32)) fun x15 => J81 x15 q14.2))))
def fX8_countAble (T : hT) (a0 : Nat) (p1 : Int32) (u0 : hM) : Option (Int32 × hM) := fX8_countAble_L4 T a0 p1 (fun (x16 : Int32) (u17 : hM) => some (x16, u17)) 6000 (0 : Int32) (0 : Int32) u0
set_option maxRecDepth 100000 in
set_option maxHeartbeats 4000000 in
theorem wfX8_countAble_L4 {c0 : Nat} {c1 : Int32} {ex : Int32 → hM → Option (Int32 × hM)} {z : Int32 × hM} (hΓ : h_Γ E B T p s m args meth c cX8_countAble 5 (some .int) RX8) (hex : ∀ (y2 : Int32) (u9 : hM) (H9 : Heap) (L9 : List Loc) (ls : Array Slot), ex y2 u9 = some z → h_W E B T s.heap u9 H9 L9 → lv_has ls 5 [(2, .int y2)] → W p l e (h_rm 2) s m args below meth c H9 L9 0 0 (h_Qi below E B T args s z) (F0 m 87 ls [])) : ∀ (n : Nat) (v2 : Int32) (v3 : Int32) (u0 : hM) (H0 : Heap) (L0 : List Loc) (ls : Array Slot), fX8_countAble_L4 T c0 c1 ex n v2 v3 u0 = some z → h_W E B T s.heap u0 H0 L0 → lv_has ls 5 [(0, .ref (B + c0)), (1, .int c1), (2, .int v2), (3, .int v3)] → W p l e (h_rm 2) s m args below meth c H0 L0 0 0 (h_Qi below E B T args s z) (F0 m 4 ls []) := by
  obtain ⟨hx, hb, hr, hml, hts, hown, hlk, hX⟩ := id hΓ
  intro n
  induction n with
  | zero =>
    intro v2 v3 u0 H0 L0 ls hf hw hl
    exact absurd (show (none : Option (Int32 × hM)) = some z from hf) (fun h => by cases h)
  | succ n ih =>
    intro v2 v3 u0 H0 L0 ls hf hw hl
    rw [fX8_countAble_L4] at hf
    refine lv_iload_n hx hb dX8_countAble_4 rfl (lv_at hl 3 rfl) ?_
    refine lv_aload_n hx hb dX8_countAble_5 rfl (lv_at hl 0 rfl) ?_
    refine h_getr hf hx hb hts hown hX hw flX8_47 rfl dX8_countAble_6 (fun a1 hf => ?_)
    refine h_geti hf hx hb hts hown hX hw flX8_134 rfl dX8_countAble_9 (fun x2 hf => ?_)
    refine lv_icmp_ge (tgt := 87) hx hb dX8_countAble_12 (by decide) (fun hc => ?_) (fun hc => ?_)
    · have hf := ifp hc hf
      exact hex v2 u0 _ _ _ hf hw (lv_sub hl [2] rfl)
    · have hf := ifn hc hf
      refine lv_aload_n hx hb dX8_countAble_15 rfl (lv_at hl 0 rfl) ?_
      refine h_getr hf hx hb hts hown hX hw flX8_47 rfl dX8_countAble_16 (fun a3 hf => ?_)
      refine h_getr hf hx hb hts hown hX hw flX8_131 rfl dX8_countAble_19 (fun a4 hf => ?_)
      refine lv_iload_n hx hb dX8_countAble_22 rfl (lv_at hl 3 rfl) ?_
      refine h_aald15 hf hx hb hX hw dX8_countAble_23 (fun a5 hf => ?_)
      refine lv_astore (lv' := [(4, .ref (B + a5)), (0, .ref (B + c0)), (1, .int c1), (2, .int v2), (3, .int v3)]) hx hb dX8_countAble_24 hl (by decide) rfl (fun ls hl => ?_)
      refine lv_aload hx hb dX8_countAble_26 (lv_at hl 0 rfl) ?_
      refine h_geti hf hx hb hts hown hX hw flX8_169 rfl dX8_countAble_28 (fun x6 hf => ?_)
      refine lv_iconst (v := 4) hx hb dX8_countAble_31 (by decide) ?_
      obtain ⟨J81, eJ81, hf⟩ := h_lt hf
      have hJ81 : ∀ (x7 : Int32) (u8 : hM) (H8 : Heap) (L8 : List Loc) (ls : Array Slot), J81 x7 u8 = some z → h_W E B T s.heap u8 H8 L8 → lv_has ls 5 [(0, .ref (B + c0)), (1, .int c1), (2, .int x7), (3, .int v3)] → W p l e (h_rm 2) s m args below meth c H8 L8 0 0 (h_Qi below E B T args s z) (F0 m 81 ls []) := by
        intro x7 u8 H8 L8 ls hf hw hl
        rw [eJ81] at hf
        refine h_iinc (k := 3) hf hx hb dX8_countAble_81 hl rfl (by decide) (by decide) (fun x9 ls hf hl => ?_)
        have hl : lv_has ls 5 [(3, .int x9), (0, .ref (B + c0)), (1, .int c1), (2, .int x7)] := hl
        refine lv_goto (tgt := 4) hx hb dX8_countAble_84 (by decide) ?_
        exact ih x7 x9 u8 _ _ _ hf hw (lv_sub hl [1, 2, 3, 0] rfl)
      clear eJ81
      refine lv_icmp_eq (tgt := 81) hx hb dX8_countAble_32 (by decide) (fun hc => ?_) (fun hc => ?_)
      · have hf := ifp hc hf
        exact hJ81 v2 u0 _ _ _ hf hw (lv_sub hl [1, 2, 3, 4] rfl)
      · have hf := ifn hc hf
        refine lv_aload hx hb dX8_countAble_35 (lv_at hl 0 rfl) ?_
        refine h_geti hf hx hb hts hown hX hw flX8_169 rfl dX8_countAble_37 (fun x10 hf => ?_)
        refine lv_bipush (v := 7) hx hb dX8_countAble_40 (by decide) ?_
        refine lv_icmp_ne (tgt := 48) hx hb dX8_countAble_42 (by decide) (fun hc => ?_) (fun hc => ?_)
        · have hf := ifn hc hf
          refine lv_aload_n hx hb dX8_countAble_48 rfl (lv_at hl 1 rfl) ?_
          refine h_getr hf hx hb hts hown hX hw flX8_19 rfl dX8_countAble_49 (fun a11 hf => ?_)
          refine lv_bipush (v := 100) hx hb dX8_countAble_52 (by decide) ?_
          refine lv_aload hx hb dX8_countAble_54 (lv_at hl 0 rfl) ?_
          refine h_geti hf hx hb hts hown hX hw flX8_184 rfl dX8_countAble_56 (fun x12 hf => ?_)
          refine lv_iload_n hx hb dX8_countAble_59 rfl (lv_at hl 2 rfl) ?_
          refine lv_isub hx hb dX8_countAble_60 ?_
          refine lv_imul hx hb dX8_countAble_61 ?_
          refine lv_bipush (v := 100) hx hb dX8_countAble_62 (by decide) ?_
          refine lv_aload hx hb dX8_countAble_64 (lv_at hl 0 rfl) ?_
          refine h_cVi (As := []) (rest := [.int (100 : Int32), .int ((100 : Int32) * (x12 - c1)), .ref (B + a11)]) hf hx hb hml hts hown hX hw myX3_highSung miX3_highSung lkX8_372 ⟨rfl, by decide⟩ (fun q hq => c_X3_highSung l E B T a5 u0 hq) ⟨Nat.le_of_ble_eq_true rfl, Nat.le_of_ble_eq_true rfl⟩ ⟨Nat.le_refl _, Nat.le_refl _⟩ rfl hl.1 rfl (Nat.le_of_ble_eq_true rfl) dX8_countAble_66 (fun q13 H13 L13 hf hw => ?_)
          refine lv_iload_n hx hb dX8_countAble_69 rfl (lv_at hl 2 rfl) ?_
          refine lv_isub hx hb dX8_countAble_70 ?_
          refine lv_imul hx hb dX8_countAble_71 ?_
          refine h_cVi (As := [.int ((100 : Int32) * (x12 - c1)), .int ((100 : Int32) * (q13.1 - c1))]) (rest := []) hf hx hb hml hts hown hX hw myX1_fitsWithin miX1_fitsWithin lkX8_375 ⟨rfl, by decide⟩ (fun q hq => c_X1_fitsWithin l E B T a11 ((100 : Int32) * (x12 - c1)) ((100 : Int32) * (q13.1 - c1)) q13.2 hq) ⟨Nat.le_of_ble_eq_true rfl, Nat.le_of_ble_eq_true rfl⟩ ⟨Nat.le_refl _, Nat.le_refl _⟩ rfl hl.1 rfl (Nat.le_of_ble_eq_true rfl) dX8_countAble_72 (fun q14 H14 L14 hf hw => ?_)
          refine lv_if_eq (tgt := 81) hx hb dX8_countAble_75 (by decide) (fun hc => ?_) (fun hc => ?_)
          · have hf := ifp hc hf
            exact hJ81 v2 q14.2 _ _ _ hf hw (lv_sub hl [1, 2, 3, 4] rfl)
          · have hf := ifn hc hf
            refine h_iinc (k := 3) hf hx hb dX8_countAble_78 hl rfl (by decide) (by decide) (fun x15 ls hf hl => ?_)
            have hl : lv_has ls 5 [(2, .int x15), (4, .ref (B + a5)), (0, .ref (B + c0)), (1, .int c1), (3, .int v3)] := hl
            exact hJ81 x15 q14.2 _ _ _ hf hw (lv_sub hl [2, 3, 0, 4] rfl)
        · have hf := ifp hc hf
          refine lv_goto (tgt := 81) hx hb dX8_countAble_45 (by decide) ?_
          exact hJ81 v2 u0 _ _ _ hf hw (lv_sub hl [1, 2, 3, 4] rfl)
set_option maxRecDepth 100000 in
set_option maxHeartbeats 4000000 in
theorem wX8_countAble {a0 : Nat} {p1 : Int32} {u0 : hM} {z : Int32 × hM} {ls : Array Slot} (hΓ : h_Γ E B T p s m args meth c cX8_countAble 5 (some .int) RX8) (hf : fX8_countAble T a0 p1 u0 = some z) (hw : h_W E B T s.heap u0 s.heap []) (hl : lv_has ls 5 [(0, .ref (B + a0)), (1, .int p1)]) : W p l e (h_rm 2) s m args below meth c s.heap [] 0 0 (h_Qi below E B T args s z) (F0 m 0 ls []) := by
  obtain ⟨hx, hb, hr, hml, hts, hown, hlk, hX⟩ := id hΓ
  unfold fX8_countAble at hf
  refine lv_iconst (v := 0) hx hb dX8_countAble_0 (by decide) ?_
  refine lv_istore_n (lv' := [(2, .int (0 : Int32)), (0, .ref (B + a0)), (1, .int p1)]) hx hb dX8_countAble_1 rfl hl (by decide) rfl (fun ls hl => ?_)
  refine lv_iconst (v := 0) hx hb dX8_countAble_2 (by decide) ?_
  refine lv_istore_n (lv' := [(3, .int (0 : Int32)), (2, .int (0 : Int32)), (0, .ref (B + a0)), (1, .int p1)]) hx hb dX8_countAble_3 rfl hl (by decide) rfl (fun ls hl => ?_)
  refine wfX8_countAble_L4 hΓ ?_ 6000 (0 : Int32) (0 : Int32) u0 _ _ _ hf hw (lv_sub hl [2, 3, 1, 0] rfl)
  intro x16 u17 H17 L17 ls hf hw hl
  refine lv_iload_n hx hb dX8_countAble_87 rfl (lv_at hl 0 rfl) ?_
  exact h_iret hf hx hb hr hlk hw dX8_countAble_88
theorem c_X8_countAble (l : Launch) (E : hE) (B : Nat) (T : hT) (a0 : Nat) (p1 : Int32) (u0 : hM) {z : Int32 × hM} (hf : fX8_countAble T a0 p1 u0 = some z) : h_Ct l E B T yX8_countAble cX8_countAble 5 (some .int) 2 [.ref (B + a0), .int p1] u0 z.2 (some (.int z.1)) := h_ofW (by decide) (Nat.le_of_ble_eq_true rfl) (fun p e s m below meth c ls hΓ hl hw => wX8_countAble hΓ hf hw hl)
def fX8_key_L19 (T : hT) (c0 : Nat) (ex : Int32 → Int32 → hM → Option (Int32 × hM)) : Nat → Int32 → Int32 → Int32 → hM → Option (Int32 × hM)
  | 0, _, _, _, _ => none
  | n + 1, v2, v3, v4, u0 => if (24 : Int32) < v4 then (ex v2 v3 u0) else (lt (fun (x2 : Int32) (u3 : hM) => (vc T c0 8 (fX8_countAble T c0 x2 u3)).bind fun q4 => lt (fun (x5 : Int32) (x6 : Int32) (u7 : hM) => lt (v4 + (1 : Int32)) fun x8 => fX8_key_L19 T c0 ex n x5 x6 x8 u7) fun J70 => if q4.1 ≤ v3 then (J70 v2 v3 q4.2) else (J70 x2 q4.1 q4.2)) fun J48 => if (v4 - v4 / (2 : Int32) * (2 : Int32)) = (1 : Int32) then (J48 ((-(v4 + (1 : Int32))) / (2 : Int32)) u0) else (J48 (v4 / (2 : Int32)) u0))
def fX8_key (T : hT) (a0 : Nat) (p1 : Int32) (u0 : hM) : Option (Int32 × hM) := (fX8_isWithin T p1 (0 : Int32) (1 : Int32) u0).bind fun q1 => if q1.1 = 0 then (some ((-1000000002 : Int32), q1.2)) else (fX8_key_L19 T a0 (fun (x9 : Int32) (x10 : Int32) (u11 : hM) => if p1 = 0 then (some (x9, u11)) else (some (x10, u11))) 6000 (0 : Int32) (-1 : Int32) (0 : Int32) q1.2)
set_option maxRecDepth 100000 in
set_option maxHeartbeats 4000000 in
theorem wfX8_key_L19 {c0 : Nat} {c1 : Int32} {ex : Int32 → Int32 → hM → Option (Int32 × hM)} {z : Int32 × hM} (hΓ : h_Γ E B T p s m args meth c cX8_key 7 (some .int) RX8) (hex : ∀ (y2 : Int32) (y3 : Int32) (u9 : hM) (H9 : Heap) (L9 : List Loc) (ls : Array Slot), ex y2 y3 u9 = some z → h_W E B T s.heap u9 H9 L9 → lv_has ls 7 [(1, .int c1), (2, .int y2), (3, .int y3)] → W p l e (h_rm 3) s m args below meth c H9 L9 0 0 (h_Qi below E B T args s z) (F0 m 76 ls [])) : ∀ (n : Nat) (v2 : Int32) (v3 : Int32) (v4 : Int32) (u0 : hM) (H0 : Heap) (L0 : List Loc) (ls : Array Slot), fX8_key_L19 T c0 ex n v2 v3 v4 u0 = some z → h_W E B T s.heap u0 H0 L0 → lv_has ls 7 [(0, .ref (B + c0)), (1, .int c1), (2, .int v2), (3, .int v3), (4, .int v4)] → W p l e (h_rm 3) s m args below meth c H0 L0 0 0 (h_Qi below E B T args s z) (F0 m 19 ls []) := by
  obtain ⟨hx, hb, hr, hml, hts, hown, hlk, hX⟩ := id hΓ
  intro n
  induction n with
  | zero =>
    intro v2 v3 v4 u0 H0 L0 ls hf hw hl
    exact absurd (show (none : Option (Int32 × hM)) = some z from hf) (fun h => by cases h)
  | succ n ih =>
    intro v2 v3 v4 u0 H0 L0 ls hf hw hl
    rw [fX8_key_L19] at hf
    refine lv_iload hx hb dX8_key_19 (lv_at hl 4 rfl) ?_
    refine lv_bipush (v := 24) hx hb dX8_key_21 (by decide) ?_
    refine lv_icmp_gt (tgt := 76) hx hb dX8_key_23 (by decide) (fun hc => ?_) (fun hc => ?_)
    · have hf := ifp hc hf
      exact hex v2 v3 u0 _ _ _ hf hw (lv_sub hl [1, 2, 3] rfl)
    · have hf := ifn hc hf
      refine lv_iload hx hb dX8_key_26 (lv_at hl 4 rfl) ?_
      refine lv_iconst (v := 2) hx hb dX8_key_28 (by decide) ?_
      refine lv_irem hx hb dX8_key_29 (by decide) ?_
      refine lv_iconst (v := 1) hx hb dX8_key_30 (by decide) ?_
      obtain ⟨J48, eJ48, hf⟩ := h_lt hf
      have hJ48 : ∀ (x2 : Int32) (u3 : hM) (H3 : Heap) (L3 : List Loc) (ls : Array Slot), J48 x2 u3 = some z → h_W E B T s.heap u3 H3 L3 → lv_has ls 7 [(0, .ref (B + c0)), (1, .int c1), (2, .int v2), (3, .int v3), (4, .int v4)] → W p l e (h_rm 3) s m args below meth c H3 L3 0 0 (h_Qi below E B T args s z) (F0 m 48 ls [.int x2]) := by
        intro x2 u3 H3 L3 ls hf hw hl
        rw [eJ48] at hf
        refine lv_istore (lv' := [(5, .int x2), (0, .ref (B + c0)), (1, .int c1), (2, .int v2), (3, .int v3), (4, .int v4)]) hx hb dX8_key_48 hl (by decide) rfl (fun ls hl => ?_)
        refine lv_aload_n hx hb dX8_key_50 rfl (lv_at hl 1 rfl) ?_
        refine lv_iload hx hb dX8_key_51 (lv_at hl 0 rfl) ?_
        refine h_cVi (As := [.int x2]) (rest := []) hf hx hb hml hts hown hX hw myX8_countAble miX8_countAble lkX8_289 ⟨rfl, by decide⟩ (fun q hq => c_X8_countAble l E B T c0 x2 u3 hq) ⟨Nat.le_of_ble_eq_true rfl, Nat.le_of_ble_eq_true rfl⟩ ⟨Nat.le_refl _, Nat.le_refl _⟩ rfl hl.1 rfl (Nat.le_of_ble_eq_true rfl) dX8_key_53 (fun q4 H4 L4 hf hw => ?_)
        refine lv_istore (lv' := [(6, .int q4.1), (5, .int x2), (0, .ref (B + c0)), (1, .int c1), (2, .int v2), (3, .int v3), (4, .int v4)]) hx hb dX8_key_56 hl (by decide) rfl (fun ls hl => ?_)
        refine lv_iload hx hb dX8_key_58 (lv_at hl 0 rfl) ?_
        refine lv_iload_n hx hb dX8_key_60 rfl (lv_at hl 5 rfl) ?_
        obtain ⟨J70, eJ70, hf⟩ := h_lt hf
        have hJ70 : ∀ (x5 : Int32) (x6 : Int32) (u7 : hM) (H7 : Heap) (L7 : List Loc) (ls : Array Slot), J70 x5 x6 u7 = some z → h_W E B T s.heap u7 H7 L7 → lv_has ls 7 [(0, .ref (B + c0)), (1, .int c1), (2, .int x5), (3, .int x6), (4, .int v4)] → W p l e (h_rm 3) s m args below meth c H7 L7 0 0 (h_Qi below E B T args s z) (F0 m 70 ls []) := by
          intro x5 x6 u7 H7 L7 ls hf hw hl
          rw [eJ70] at hf
          refine h_iinc (k := 4) hf hx hb dX8_key_70 hl rfl (by decide) (by decide) (fun x8 ls hf hl => ?_)
          have hl : lv_has ls 7 [(4, .int x8), (0, .ref (B + c0)), (1, .int c1), (2, .int x5), (3, .int x6)] := hl
          refine lv_goto (tgt := 19) hx hb dX8_key_73 (by decide) ?_
          exact ih x5 x6 x8 u7 _ _ _ hf hw (lv_sub hl [1, 2, 3, 4, 0] rfl)
        clear eJ70
        refine lv_icmp_le (tgt := 70) hx hb dX8_key_61 (by decide) (fun hc => ?_) (fun hc => ?_)
        · have hf := ifp hc hf
          exact hJ70 v2 v3 q4.2 _ _ _ hf hw (lv_sub hl [2, 3, 4, 5, 6] rfl)
        · have hf := ifn hc hf
          refine lv_iload hx hb dX8_key_64 (lv_at hl 0 rfl) ?_
          refine lv_istore_n (lv' := [(3, .int q4.1), (6, .int q4.1), (5, .int x2), (0, .ref (B + c0)), (1, .int c1), (2, .int v2), (4, .int v4)]) hx hb dX8_key_66 rfl hl (by decide) rfl (fun ls hl => ?_)
          refine lv_iload hx hb dX8_key_67 (lv_at hl 2 rfl) ?_
          refine lv_istore_n (lv' := [(2, .int x2), (3, .int q4.1), (6, .int q4.1), (5, .int x2), (0, .ref (B + c0)), (1, .int c1), (4, .int v4)]) hx hb dX8_key_69 rfl hl (by decide) rfl (fun ls hl => ?_)
          exact hJ70 x2 q4.1 q4.2 _ _ _ hf hw (lv_sub hl [4, 5, 0, 1, 6] rfl)
      clear eJ48
      refine lv_icmp_ne (tgt := 44) hx hb dX8_key_31 (by decide) (fun hc => ?_) (fun hc => ?_)
      · have hf := ifn hc hf
        refine lv_iload hx hb dX8_key_44 (lv_at hl 4 rfl) ?_
        refine lv_iconst (v := 2) hx hb dX8_key_46 (by decide) ?_
        refine lv_idiv hx hb dX8_key_47 (by decide) ?_
        exact hJ48 (v4 / (2 : Int32)) u0 _ _ _ hf hw (lv_sub hl [0, 1, 2, 3, 4] rfl)
      · have hf := ifp hc hf
        refine lv_iload hx hb dX8_key_34 (lv_at hl 4 rfl) ?_
        refine lv_iconst (v := 1) hx hb dX8_key_36 (by decide) ?_
        refine lv_iadd hx hb dX8_key_37 ?_
        refine lv_ineg hx hb dX8_key_38 ?_
        refine lv_iconst (v := 2) hx hb dX8_key_39 (by decide) ?_
        refine lv_idiv hx hb dX8_key_40 (by decide) ?_
        refine lv_goto (tgt := 48) hx hb dX8_key_41 (by decide) ?_
        exact hJ48 ((-(v4 + (1 : Int32))) / (2 : Int32)) u0 _ _ _ hf hw (lv_sub hl [0, 1, 2, 3, 4] rfl)
set_option maxRecDepth 100000 in
set_option maxHeartbeats 4000000 in
theorem wX8_key {a0 : Nat} {p1 : Int32} {u0 : hM} {z : Int32 × hM} {ls : Array Slot} (hΓ : h_Γ E B T p s m args meth c cX8_key 7 (some .int) RX8) (hf : fX8_key T a0 p1 u0 = some z) (hw : h_W E B T s.heap u0 s.heap []) (hl : lv_has ls 7 [(0, .ref (B + a0)), (1, .int p1)]) : W p l e (h_rm 3) s m args below meth c s.heap [] 0 0 (h_Qi below E B T args s z) (F0 m 0 ls []) := by
  obtain ⟨hx, hb, hr, hml, hts, hown, hlk, hX⟩ := id hΓ
  unfold fX8_key at hf
  refine lv_iload_n hx hb dX8_key_0 rfl (lv_at hl 1 rfl) ?_
  refine lv_iconst (v := 0) hx hb dX8_key_1 (by decide) ?_
  refine lv_iconst (v := 1) hx hb dX8_key_2 (by decide) ?_
  refine h_cSi (As := [.int p1, .int (0 : Int32), .int (1 : Int32)]) (rest := []) hf hx hb hml hts hown hX hw myX8_isWithin msX8_isWithin lkX8_91 (fun q hq => c_X8_isWithin l E B T p1 (0 : Int32) (1 : Int32) u0 hq) ⟨Nat.le_of_ble_eq_true rfl, Nat.le_of_ble_eq_true rfl⟩ ⟨Nat.le_refl _, Nat.le_refl _⟩ rfl hl.1 rfl (Nat.le_of_ble_eq_true rfl) dX8_key_3 (fun q1 H1 L1 hf hw => ?_)
  refine lv_if_ne (tgt := 12) hx hb dX8_key_6 (by decide) (fun hc => ?_) (fun hc => ?_)
  · have hf := ifn hc hf
    refine lv_iconst (v := 0) hx hb dX8_key_12 (by decide) ?_
    refine lv_istore_n (lv' := [(2, .int (0 : Int32)), (0, .ref (B + a0)), (1, .int p1)]) hx hb dX8_key_13 rfl hl (by decide) rfl (fun ls hl => ?_)
    refine lv_iconst (v := -1) hx hb dX8_key_14 (by decide) ?_
    refine lv_istore_n (lv' := [(3, .int (-1 : Int32)), (2, .int (0 : Int32)), (0, .ref (B + a0)), (1, .int p1)]) hx hb dX8_key_15 rfl hl (by decide) rfl (fun ls hl => ?_)
    refine lv_iconst (v := 0) hx hb dX8_key_16 (by decide) ?_
    refine lv_istore (lv' := [(4, .int (0 : Int32)), (3, .int (-1 : Int32)), (2, .int (0 : Int32)), (0, .ref (B + a0)), (1, .int p1)]) hx hb dX8_key_17 hl (by decide) rfl (fun ls hl => ?_)
    refine wfX8_key_L19 hΓ ?_ 6000 (0 : Int32) (-1 : Int32) (0 : Int32) q1.2 _ _ _ hf hw (lv_sub hl [3, 4, 2, 1, 0] rfl)
    intro x9 x10 u11 H11 L11 ls hf hw hl
    refine lv_iload_n hx hb dX8_key_76 rfl (lv_at hl 0 rfl) ?_
    refine lv_if_ne (tgt := 84) hx hb dX8_key_77 (by decide) (fun hc => ?_) (fun hc => ?_)
    · have hf := ifn hc hf
      refine lv_iload_n hx hb dX8_key_84 rfl (lv_at hl 2 rfl) ?_
      exact h_iret hf hx hb hr hlk hw dX8_key_85
    · have hf := ifp hc hf
      refine lv_iload_n hx hb dX8_key_80 rfl (lv_at hl 1 rfl) ?_
      refine lv_goto (tgt := 85) hx hb dX8_key_81 (by decide) ?_
      exact h_iret hf hx hb hr hlk hw dX8_key_85
  · have hf := ifp hc hf
    refine lv_ldc hx hb hown (hts _ kcX8_95) dX8_key_9 ?_
    exact h_iret hf hx hb hr hlk hw dX8_key_11
theorem c_X8_key (l : Launch) (E : hE) (B : Nat) (T : hT) (a0 : Nat) (p1 : Int32) (u0 : hM) {z : Int32 × hM} (hf : fX8_key T a0 p1 u0 = some z) : h_Ct l E B T yX8_key cX8_key 7 (some .int) 3 [.ref (B + a0), .int p1] u0 z.2 (some (.int z.1)) := h_ofW (by decide) (Nat.le_of_ble_eq_true rfl) (fun p e s m below meth c ls hΓ hl hw => wX8_key hΓ hf hw hl)
def fX8_age_L71 (T : hT) (c0 : Nat) (ex : hM → Option (Int32 × hM)) : Nat → Int32 → hM → Option (Int32 × hM)
  | 0, _, _ => none
  | n + 1, v4, u0 => if (4 : Int32) ≤ v4 then (ex u0) else ((gtr T u0 c0 8 13).bind fun a13 => (vc T a13 3 (fX3_learn T a13 v4 u0)).bind fun q14 => lt (v4 + (1 : Int32)) fun x15 => fX8_age_L71 T c0 ex n x15 q14)
def fX8_age_L29 (T : hT) (c0 : Nat) (ex : hM → Option (Int32 × hM)) : Nat → Int32 → hM → Option (Int32 × hM)
  | 0, _, _ => none
  | n + 1, v2, u0 => if (30 : Int32) < v2 then (ex u0) else ((gtr T u0 c0 8 12).bind fun a7 => (gtr T u0 c0 8 13).bind fun a8 => (vc T c0 8 (fX8_singInto T c0 a7 a8 (3 : Int32) u0)).bind fun q9 => (gtr T q9 c0 8 12).bind fun a10 => (gtr T q9 c0 8 1).bind fun a11 => (vc T a10 4 (fX4_wrongBy T a10 a11 q9)).bind fun q12 => if (q12.1 &&& (3 : Int32)) = 0 then (some (v2, q12.2)) else (fX8_age_L71 T c0 (fun (u16 : hM) => lt (v2 + (1 : Int32)) fun x17 => fX8_age_L29 T c0 ex n x17 u16) 6000 (0 : Int32) q12.2))
def fX8_age (T : hT) (a0 : Nat) (p1 : Int32) (u0 : hM) : Option (Int32 × hM) := (vc T a0 8 (fX8_isSinger T a0 p1 u0)).bind fun q1 => if q1.1 = 0 then (some ((-1000000001 : Int32), q1.2)) else ((gtr T q1.2 a0 8 13).bind fun a2 => (gtr T q1.2 a0 8 6).bind fun a3 => (gtr T q1.2 a3 5 2).bind fun a4 => (aldr 15 T q1.2 a4 p1).bind fun a5 => (vc T a2 3 (fX3_copyFrom T a2 a5 q1.2)).bind fun q6 => fX8_age_L29 T a0 (fun (u18 : hM) => some ((-1 : Int32), u18)) 6000 (0 : Int32) q6)
set_option maxRecDepth 100000 in
set_option maxHeartbeats 4000000 in
theorem wfX8_age_L71 {c0 : Nat} {c2 : Int32} {ex : hM → Option (Int32 × hM)} {z : Int32 × hM} (hΓ : h_Γ E B T p s m args meth c cX8_age 5 (some .int) RX8) (hex : ∀ (u9 : hM) (H9 : Heap) (L9 : List Loc) (ls : Array Slot), ex u9 = some z → h_W E B T s.heap u9 H9 L9 → lv_has ls 5 [(0, .ref (B + c0)), (2, .int c2)] → W p l e (h_rm 6) s m args below meth c H9 L9 0 0 (h_Qi below E B T args s z) (F0 m 92 ls [])) : ∀ (n : Nat) (v4 : Int32) (u0 : hM) (H0 : Heap) (L0 : List Loc) (ls : Array Slot), fX8_age_L71 T c0 ex n v4 u0 = some z → h_W E B T s.heap u0 H0 L0 → lv_has ls 5 [(0, .ref (B + c0)), (2, .int c2), (4, .int v4)] → W p l e (h_rm 6) s m args below meth c H0 L0 0 0 (h_Qi below E B T args s z) (F0 m 71 ls []) := by
  obtain ⟨hx, hb, hr, hml, hts, hown, hlk, hX⟩ := id hΓ
  intro n
  induction n with
  | zero =>
    intro v4 u0 H0 L0 ls hf hw hl
    exact absurd (show (none : Option (Int32 × hM)) = some z from hf) (fun h => by cases h)
  | succ n ih =>
    intro v4 u0 H0 L0 ls hf hw hl
    rw [fX8_age_L71] at hf
    refine lv_iload hx hb dX8_age_71 (lv_at hl 2 rfl) ?_
    refine lv_iconst (v := 4) hx hb dX8_age_73 (by decide) ?_
    refine lv_icmp_ge (tgt := 92) hx hb dX8_age_74 (by decide) (fun hc => ?_) (fun hc => ?_)
    · have hf := ifp hc hf
      exact hex  u0 _ _ _ hf hw (lv_sub hl [0, 1] rfl)
    · have hf := ifn hc hf
      refine lv_aload_n hx hb dX8_age_77 rfl (lv_at hl 0 rfl) ?_
      refine h_getr hf hx hb hts hown hX hw flX8_87 rfl dX8_age_78 (fun a13 hf => ?_)
      refine lv_iload hx hb dX8_age_81 (lv_at hl 2 rfl) ?_
      refine h_cVv (As := [.int v4]) (rest := []) hf hx hb hml hts hown hX hw myX3_learn miX3_learn lkX8_270 ⟨rfl, by decide⟩ (fun q hq => c_X3_learn l E B T a13 v4 u0 hq) ⟨Nat.le_of_ble_eq_true rfl, Nat.le_of_ble_eq_true rfl⟩ ⟨Nat.le_refl _, Nat.le_refl _⟩ rfl hl.1 rfl (Nat.le_of_ble_eq_true rfl) dX8_age_83 (fun q14 H14 L14 hf hw => ?_)
      refine h_iinc (k := 2) hf hx hb dX8_age_86 hl rfl (by decide) (by decide) (fun x15 ls hf hl => ?_)
      have hl : lv_has ls 5 [(4, .int x15), (0, .ref (B + c0)), (2, .int c2)] := hl
      refine lv_goto (tgt := 71) hx hb dX8_age_89 (by decide) ?_
      exact ih x15 q14 _ _ _ hf hw (lv_sub hl [1, 2, 0] rfl)
set_option maxRecDepth 100000 in
set_option maxHeartbeats 4000000 in
theorem wfX8_age_L29 {c0 : Nat} {ex : hM → Option (Int32 × hM)} {z : Int32 × hM} (hΓ : h_Γ E B T p s m args meth c cX8_age 5 (some .int) RX8) (hex : ∀ (u9 : hM) (H9 : Heap) (L9 : List Loc) (ls : Array Slot), ex u9 = some z → h_W E B T s.heap u9 H9 L9 → lv_has ls 5 [] → W p l e (h_rm 6) s m args below meth c H9 L9 0 0 (h_Qi below E B T args s z) (F0 m 98 ls [])) : ∀ (n : Nat) (v2 : Int32) (u0 : hM) (H0 : Heap) (L0 : List Loc) (ls : Array Slot), fX8_age_L29 T c0 ex n v2 u0 = some z → h_W E B T s.heap u0 H0 L0 → lv_has ls 5 [(0, .ref (B + c0)), (2, .int v2)] → W p l e (h_rm 6) s m args below meth c H0 L0 0 0 (h_Qi below E B T args s z) (F0 m 29 ls []) := by
  obtain ⟨hx, hb, hr, hml, hts, hown, hlk, hX⟩ := id hΓ
  intro n
  induction n with
  | zero =>
    intro v2 u0 H0 L0 ls hf hw hl
    exact absurd (show (none : Option (Int32 × hM)) = some z from hf) (fun h => by cases h)
  | succ n ih =>
    intro v2 u0 H0 L0 ls hf hw hl
    rw [fX8_age_L29] at hf
    refine lv_iload_n hx hb dX8_age_29 rfl (lv_at hl 1 rfl) ?_
    refine lv_bipush (v := 30) hx hb dX8_age_30 (by decide) ?_
    refine lv_icmp_gt (tgt := 98) hx hb dX8_age_32 (by decide) (fun hc => ?_) (fun hc => ?_)
    · have hf := ifp hc hf
      exact hex  u0 _ _ _ hf hw (lv_sub hl [] rfl)
    · have hf := ifn hc hf
      refine lv_aload_n hx hb dX8_age_35 rfl (lv_at hl 0 rfl) ?_
      refine lv_aload_n hx hb dX8_age_36 rfl (lv_at hl 0 rfl) ?_
      refine h_getr hf hx hb hts hown hX hw flX8_80 rfl dX8_age_37 (fun a7 hf => ?_)
      refine lv_aload_n hx hb dX8_age_40 rfl (lv_at hl 0 rfl) ?_
      refine h_getr hf hx hb hts hown hX hw flX8_87 rfl dX8_age_41 (fun a8 hf => ?_)
      refine lv_iconst (v := 3) hx hb dX8_age_44 (by decide) ?_
      refine h_cVv (As := [.ref (B + a7), .ref (B + a8), .int (3 : Int32)]) (rest := []) hf hx hb hml hts hown hX hw myX8_singInto miX8_singInto lkX8_208 ⟨rfl, by decide⟩ (fun q hq => c_X8_singInto l E B T c0 a7 a8 (3 : Int32) u0 hq) ⟨Nat.le_of_ble_eq_true rfl, Nat.le_of_ble_eq_true rfl⟩ ⟨Nat.le_refl _, Nat.le_refl _⟩ rfl hl.1 rfl (Nat.le_of_ble_eq_true rfl) dX8_age_45 (fun q9 H9 L9 hf hw => ?_)
      refine lv_aload_n hx hb dX8_age_48 rfl (lv_at hl 0 rfl) ?_
      refine h_getr hf hx hb hts hown hX hw flX8_80 rfl dX8_age_49 (fun a10 hf => ?_)
      refine lv_aload_n hx hb dX8_age_52 rfl (lv_at hl 0 rfl) ?_
      refine h_getr hf hx hb hts hown hX hw flX8_19 rfl dX8_age_53 (fun a11 hf => ?_)
      refine h_cVi (As := [.ref (B + a11)]) (rest := []) hf hx hb hml hts hown hX hw myX4_wrongBy miX4_wrongBy lkX8_228 ⟨rfl, by decide⟩ (fun q hq => c_X4_wrongBy l E B T a10 a11 q9 hq) ⟨Nat.le_of_ble_eq_true rfl, Nat.le_of_ble_eq_true rfl⟩ ⟨Nat.le_refl _, Nat.le_refl _⟩ rfl hl.1 rfl (Nat.le_of_ble_eq_true rfl) dX8_age_56 (fun q12 H12 L12 hf hw => ?_)
      refine lv_istore_n (lv' := [(3, .int q12.1), (0, .ref (B + c0)), (2, .int v2)]) hx hb dX8_age_59 rfl hl (by decide) rfl (fun ls hl => ?_)
      refine lv_iload_n hx hb dX8_age_60 rfl (lv_at hl 0 rfl) ?_
      refine lv_iconst (v := 3) hx hb dX8_age_61 (by decide) ?_
      refine lv_iand hx hb dX8_age_62 ?_
      refine lv_if_ne (tgt := 68) hx hb dX8_age_63 (by decide) (fun hc => ?_) (fun hc => ?_)
      · have hf := ifn hc hf
        refine lv_iconst (v := 0) hx hb dX8_age_68 (by decide) ?_
        refine lv_istore (lv' := [(4, .int (0 : Int32)), (3, .int q12.1), (0, .ref (B + c0)), (2, .int v2)]) hx hb dX8_age_69 hl (by decide) rfl (fun ls hl => ?_)
        refine wfX8_age_L71 hΓ ?_ 6000 (0 : Int32) q12.2 _ _ _ hf hw (lv_sub hl [2, 3, 0] rfl)
        intro u16 H16 L16 ls hf hw hl
        refine h_iinc (k := 1) hf hx hb dX8_age_92 hl rfl (by decide) (by decide) (fun x17 ls hf hl => ?_)
        have hl : lv_has ls 5 [(2, .int x17), (0, .ref (B + c0))] := hl
        refine lv_goto (tgt := 29) hx hb dX8_age_95 (by decide) ?_
        exact ih x17 u16 _ _ _ hf hw (lv_sub hl [1, 0] rfl)
      · have hf := ifp hc hf
        refine lv_iload_n hx hb dX8_age_66 rfl (lv_at hl 2 rfl) ?_
        exact h_iret hf hx hb hr hlk hw dX8_age_67
set_option maxRecDepth 100000 in
set_option maxHeartbeats 4000000 in
theorem wX8_age {a0 : Nat} {p1 : Int32} {u0 : hM} {z : Int32 × hM} {ls : Array Slot} (hΓ : h_Γ E B T p s m args meth c cX8_age 5 (some .int) RX8) (hf : fX8_age T a0 p1 u0 = some z) (hw : h_W E B T s.heap u0 s.heap []) (hl : lv_has ls 5 [(0, .ref (B + a0)), (1, .int p1)]) : W p l e (h_rm 6) s m args below meth c s.heap [] 0 0 (h_Qi below E B T args s z) (F0 m 0 ls []) := by
  obtain ⟨hx, hb, hr, hml, hts, hown, hlk, hX⟩ := id hΓ
  unfold fX8_age at hf
  refine lv_aload_n hx hb dX8_age_0 rfl (lv_at hl 0 rfl) ?_
  refine lv_iload_n hx hb dX8_age_1 rfl (lv_at hl 1 rfl) ?_
  refine h_cVi (As := [.int p1]) (rest := []) hf hx hb hml hts hown hX hw myX8_isSinger miX8_isSinger lkX8_165 ⟨rfl, by decide⟩ (fun q hq => c_X8_isSinger l E B T a0 p1 u0 hq) ⟨Nat.le_of_ble_eq_true rfl, Nat.le_of_ble_eq_true rfl⟩ ⟨Nat.le_refl _, Nat.le_refl _⟩ rfl hl.1 rfl (Nat.le_of_ble_eq_true rfl) dX8_age_2 (fun q1 H1 L1 hf hw => ?_)
  refine lv_if_ne (tgt := 11) hx hb dX8_age_5 (by decide) (fun hc => ?_) (fun hc => ?_)
  · have hf := ifn hc hf
    refine lv_aload_n hx hb dX8_age_11 rfl (lv_at hl 0 rfl) ?_
    refine h_getr hf hx hb hts hown hX hw flX8_87 rfl dX8_age_12 (fun a2 hf => ?_)
    refine lv_aload_n hx hb dX8_age_15 rfl (lv_at hl 0 rfl) ?_
    refine h_getr hf hx hb hts hown hX hw flX8_47 rfl dX8_age_16 (fun a3 hf => ?_)
    refine h_getr hf hx hb hts hown hX hw flX8_131 rfl dX8_age_19 (fun a4 hf => ?_)
    refine lv_iload_n hx hb dX8_age_22 rfl (lv_at hl 1 rfl) ?_
    refine h_aald15 hf hx hb hX hw dX8_age_23 (fun a5 hf => ?_)
    refine h_cVv (As := [.ref (B + a5)]) (rest := []) hf hx hb hml hts hown hX hw myX3_copyFrom miX3_copyFrom lkX8_281 ⟨rfl, by decide⟩ (fun q hq => c_X3_copyFrom l E B T a2 a5 q1.2 hq) ⟨Nat.le_of_ble_eq_true rfl, Nat.le_of_ble_eq_true rfl⟩ ⟨Nat.le_refl _, Nat.le_refl _⟩ rfl hl.1 rfl (Nat.le_of_ble_eq_true rfl) dX8_age_24 (fun q6 H6 L6 hf hw => ?_)
    refine lv_iconst (v := 0) hx hb dX8_age_27 (by decide) ?_
    refine lv_istore_n (lv' := [(2, .int (0 : Int32)), (0, .ref (B + a0)), (1, .int p1)]) hx hb dX8_age_28 rfl hl (by decide) rfl (fun ls hl => ?_)
    refine wfX8_age_L29 hΓ ?_ 6000 (0 : Int32) q6 _ _ _ hf hw (lv_sub hl [1, 0] rfl)
    intro u18 H18 L18 ls hf hw hl
    refine lv_iconst (v := -1) hx hb dX8_age_98 (by decide) ?_
    exact h_iret hf hx hb hr hlk hw dX8_age_99
  · have hf := ifp hc hf
    refine lv_ldc hx hb hown (hts _ kcX8_158) dX8_age_8 ?_
    exact h_iret hf hx hb hr hlk hw dX8_age_10
theorem c_X8_age (l : Launch) (E : hE) (B : Nat) (T : hT) (a0 : Nat) (p1 : Int32) (u0 : hM) {z : Int32 × hM} (hf : fX8_age T a0 p1 u0 = some z) : h_Ct l E B T yX8_age cX8_age 5 (some .int) 6 [.ref (B + a0), .int p1] u0 z.2 (some (.int z.1)) := h_ofW (by decide) (Nat.le_of_ble_eq_true rfl) (fun p e s m below meth c ls hΓ hl hw => wX8_age hΓ hf hw hl)
def fX8_answersNeeded (T : hT) (p0 : Int32) (p1 : Int32) (p2 : Int32) (u0 : hM) : Option (Int32 × hM) := if p1 = 0 then (some (p0, u0)) else (if p0 = (1 : Int32) then (some (p0, u0)) else (if (p0 - p0 / (2 : Int32) * (2 : Int32)) = (1 : Int32) then (some (((p0 * (p2 + (1 : Int32))) + (p2 - (1 : Int32))), u0)) else (some (((p0 * (p2 + (1 : Int32))) + (0 : Int32)), u0))))
set_option maxRecDepth 100000 in
set_option maxHeartbeats 4000000 in
theorem wX8_answersNeeded {p0 : Int32} {p1 : Int32} {p2 : Int32} {u0 : hM} {z : Int32 × hM} {ls : Array Slot} (hΓ : h_Γ E B T p s m args meth c cX8_answersNeeded 3 (some .int) RX8) (hf : fX8_answersNeeded T p0 p1 p2 u0 = some z) (hw : h_W E B T s.heap u0 s.heap []) (hl : lv_has ls 3 [(0, .int p0), (1, .int p1), (2, .int p2)]) : W p l e (h_rm 0) s m args below meth c s.heap [] 0 0 (h_Qi below E B T args s z) (F0 m 0 ls []) := by
  obtain ⟨hx, hb, hr, hml, hts, hown, hlk, hX⟩ := id hΓ
  unfold fX8_answersNeeded at hf
  refine lv_iload_n hx hb dX8_answersNeeded_0 rfl (lv_at hl 1 rfl) ?_
  refine lv_if_eq (tgt := 9) hx hb dX8_answersNeeded_1 (by decide) (fun hc => ?_) (fun hc => ?_)
  · have hf := ifp hc hf
    refine lv_iload_n hx hb dX8_answersNeeded_9 rfl (lv_at hl 0 rfl) ?_
    exact h_iret hf hx hb hr hlk hw dX8_answersNeeded_10
  · have hf := ifn hc hf
    refine lv_iload_n hx hb dX8_answersNeeded_4 rfl (lv_at hl 0 rfl) ?_
    refine lv_iconst (v := 1) hx hb dX8_answersNeeded_5 (by decide) ?_
    refine lv_icmp_ne (tgt := 11) hx hb dX8_answersNeeded_6 (by decide) (fun hc => ?_) (fun hc => ?_)
    · have hf := ifn hc hf
      refine lv_iload_n hx hb dX8_answersNeeded_11 rfl (lv_at hl 0 rfl) ?_
      refine lv_iload_n hx hb dX8_answersNeeded_12 rfl (lv_at hl 2 rfl) ?_
      refine lv_iconst (v := 1) hx hb dX8_answersNeeded_13 (by decide) ?_
      refine lv_iadd hx hb dX8_answersNeeded_14 ?_
      refine lv_imul hx hb dX8_answersNeeded_15 ?_
      refine lv_iload_n hx hb dX8_answersNeeded_16 rfl (lv_at hl 0 rfl) ?_
      refine lv_iconst (v := 2) hx hb dX8_answersNeeded_17 (by decide) ?_
      refine lv_irem hx hb dX8_answersNeeded_18 (by decide) ?_
      refine lv_iconst (v := 1) hx hb dX8_answersNeeded_19 (by decide) ?_
      refine lv_icmp_ne (tgt := 29) hx hb dX8_answersNeeded_20 (by decide) (fun hc => ?_) (fun hc => ?_)
      · have hf := ifn hc hf
        refine lv_iconst (v := 0) hx hb dX8_answersNeeded_29 (by decide) ?_
        refine lv_iadd hx hb dX8_answersNeeded_30 ?_
        exact h_iret hf hx hb hr hlk hw dX8_answersNeeded_31
      · have hf := ifp hc hf
        refine lv_iload_n hx hb dX8_answersNeeded_23 rfl (lv_at hl 2 rfl) ?_
        refine lv_iconst (v := 1) hx hb dX8_answersNeeded_24 (by decide) ?_
        refine lv_isub hx hb dX8_answersNeeded_25 ?_
        refine lv_goto (tgt := 30) hx hb dX8_answersNeeded_26 (by decide) ?_
        refine lv_iadd hx hb dX8_answersNeeded_30 ?_
        exact h_iret hf hx hb hr hlk hw dX8_answersNeeded_31
    · have hf := ifp hc hf
      refine lv_iload_n hx hb dX8_answersNeeded_9 rfl (lv_at hl 0 rfl) ?_
      exact h_iret hf hx hb hr hlk hw dX8_answersNeeded_10
theorem c_X8_answersNeeded (l : Launch) (E : hE) (B : Nat) (T : hT) (p0 : Int32) (p1 : Int32) (p2 : Int32) (u0 : hM) {z : Int32 × hM} (hf : fX8_answersNeeded T p0 p1 p2 u0 = some z) : h_Ct l E B T yX8_answersNeeded cX8_answersNeeded 3 (some .int) 0 [.int p0, .int p1, .int p2] u0 z.2 (some (.int z.1)) := h_ofW (by decide) (Nat.le_of_ble_eq_true rfl) (fun p e s m below meth c ls hΓ hl hw => wX8_answersNeeded hΓ hf hw hl)
def fX8_passes_L24 (T : hT) (c1 : Int32) (c2 : Int32) (ex : hM → Option (Int32 × hM)) : Nat → Int32 → hM → Option (Int32 × hM)
  | 0, _, _ => none
  | n + 1, v3, u0 => if (30 : Int32) ≤ v3 then (ex u0) else ((fX8_answersNeeded T c1 c2 v3 u0).bind fun q3 => if ((1 : Int32) <<< (v3 &&& 31)) < q3.1 then (lt (v3 + (1 : Int32)) fun x4 => fX8_passes_L24 T c1 c2 ex n x4 q3.2) else (some (v3, q3.2)))
def fX8_passes (T : hT) (a0 : Nat) (p1 : Int32) (p2 : Int32) (u0 : hM) : Option (Int32 × hM) := (fX8_isWithin T p1 (1 : Int32) (16 : Int32) u0).bind fun q1 => if q1.1 = 0 then (some ((-1000000002 : Int32), q1.2)) else ((fX8_isWithin T p2 (0 : Int32) (1 : Int32) q1.2).bind fun q2 => if q2.1 = 0 then (some ((-1000000002 : Int32), q2.2)) else (fX8_passes_L24 T p1 p2 (fun (u5 : hM) => some ((-1 : Int32), u5)) 6000 (0 : Int32) q2.2))
set_option maxRecDepth 100000 in
set_option maxHeartbeats 4000000 in
theorem wfX8_passes_L24 {c1 : Int32} {c2 : Int32} {ex : hM → Option (Int32 × hM)} {z : Int32 × hM} (hΓ : h_Γ E B T p s m args meth c cX8_passes 4 (some .int) RX8) (hex : ∀ (u9 : hM) (H9 : Heap) (L9 : List Loc) (ls : Array Slot), ex u9 = some z → h_W E B T s.heap u9 H9 L9 → lv_has ls 4 [] → W p l e (h_rm 1) s m args below meth c H9 L9 0 0 (h_Qi below E B T args s z) (F0 m 50 ls [])) : ∀ (n : Nat) (v3 : Int32) (u0 : hM) (H0 : Heap) (L0 : List Loc) (ls : Array Slot), fX8_passes_L24 T c1 c2 ex n v3 u0 = some z → h_W E B T s.heap u0 H0 L0 → lv_has ls 4 [(1, .int c1), (2, .int c2), (3, .int v3)] → W p l e (h_rm 1) s m args below meth c H0 L0 0 0 (h_Qi below E B T args s z) (F0 m 24 ls []) := by
  obtain ⟨hx, hb, hr, hml, hts, hown, hlk, hX⟩ := id hΓ
  intro n
  induction n with
  | zero =>
    intro v3 u0 H0 L0 ls hf hw hl
    exact absurd (show (none : Option (Int32 × hM)) = some z from hf) (fun h => by cases h)
  | succ n ih =>
    intro v3 u0 H0 L0 ls hf hw hl
    rw [fX8_passes_L24] at hf
    refine lv_iload_n hx hb dX8_passes_24 rfl (lv_at hl 2 rfl) ?_
    refine lv_bipush (v := 30) hx hb dX8_passes_25 (by decide) ?_
    refine lv_icmp_ge (tgt := 50) hx hb dX8_passes_27 (by decide) (fun hc => ?_) (fun hc => ?_)
    · have hf := ifp hc hf
      exact hex  u0 _ _ _ hf hw (lv_sub hl [] rfl)
    · have hf := ifn hc hf
      refine lv_iconst (v := 1) hx hb dX8_passes_30 (by decide) ?_
      refine lv_iload_n hx hb dX8_passes_31 rfl (lv_at hl 2 rfl) ?_
      refine lv_ishl hx hb dX8_passes_32 ?_
      refine lv_iload_n hx hb dX8_passes_33 rfl (lv_at hl 0 rfl) ?_
      refine lv_iload_n hx hb dX8_passes_34 rfl (lv_at hl 1 rfl) ?_
      refine lv_iload_n hx hb dX8_passes_35 rfl (lv_at hl 2 rfl) ?_
      refine h_cSi (As := [.int c1, .int c2, .int v3]) (rest := [.int ((1 : Int32) <<< (v3 &&& 31))]) hf hx hb hml hts hown hX hw myX8_answersNeeded msX8_answersNeeded lkX8_292 (fun q hq => c_X8_answersNeeded l E B T c1 c2 v3 u0 hq) ⟨Nat.le_of_ble_eq_true rfl, Nat.le_of_ble_eq_true rfl⟩ ⟨Nat.le_refl _, Nat.le_refl _⟩ rfl hl.1 rfl (Nat.le_of_ble_eq_true rfl) dX8_passes_36 (fun q3 H3 L3 hf hw => ?_)
      refine lv_icmp_lt (tgt := 44) hx hb dX8_passes_39 (by decide) (fun hc => ?_) (fun hc => ?_)
      · have hf := ifp hc hf
        refine h_iinc (k := 2) hf hx hb dX8_passes_44 hl rfl (by decide) (by decide) (fun x4 ls hf hl => ?_)
        have hl : lv_has ls 4 [(3, .int x4), (1, .int c1), (2, .int c2)] := hl
        refine lv_goto (tgt := 24) hx hb dX8_passes_47 (by decide) ?_
        exact ih x4 q3.2 _ _ _ hf hw (lv_sub hl [1, 2, 0] rfl)
      · have hf := ifn hc hf
        refine lv_iload_n hx hb dX8_passes_42 rfl (lv_at hl 2 rfl) ?_
        exact h_iret hf hx hb hr hlk hw dX8_passes_43
set_option maxRecDepth 100000 in
set_option maxHeartbeats 4000000 in
theorem wX8_passes {a0 : Nat} {p1 : Int32} {p2 : Int32} {u0 : hM} {z : Int32 × hM} {ls : Array Slot} (hΓ : h_Γ E B T p s m args meth c cX8_passes 4 (some .int) RX8) (hf : fX8_passes T a0 p1 p2 u0 = some z) (hw : h_W E B T s.heap u0 s.heap []) (hl : lv_has ls 4 [(0, .ref (B + a0)), (1, .int p1), (2, .int p2)]) : W p l e (h_rm 1) s m args below meth c s.heap [] 0 0 (h_Qi below E B T args s z) (F0 m 0 ls []) := by
  obtain ⟨hx, hb, hr, hml, hts, hown, hlk, hX⟩ := id hΓ
  unfold fX8_passes at hf
  refine lv_iload_n hx hb dX8_passes_0 rfl (lv_at hl 1 rfl) ?_
  refine lv_iconst (v := 1) hx hb dX8_passes_1 (by decide) ?_
  refine lv_bipush (v := 16) hx hb dX8_passes_2 (by decide) ?_
  refine h_cSi (As := [.int p1, .int (1 : Int32), .int (16 : Int32)]) (rest := []) hf hx hb hml hts hown hX hw myX8_isWithin msX8_isWithin lkX8_91 (fun q hq => c_X8_isWithin l E B T p1 (1 : Int32) (16 : Int32) u0 hq) ⟨Nat.le_of_ble_eq_true rfl, Nat.le_of_ble_eq_true rfl⟩ ⟨Nat.le_refl _, Nat.le_refl _⟩ rfl hl.1 rfl (Nat.le_of_ble_eq_true rfl) dX8_passes_4 (fun q1 H1 L1 hf hw => ?_)
  refine lv_if_eq (tgt := 19) hx hb dX8_passes_7 (by decide) (fun hc => ?_) (fun hc => ?_)
  · have hf := ifp hc hf
    refine lv_ldc hx hb hown (hts _ kcX8_95) dX8_passes_19 ?_
    exact h_iret hf hx hb hr hlk hw dX8_passes_21
  · have hf := ifn hc hf
    refine lv_iload_n hx hb dX8_passes_10 rfl (lv_at hl 2 rfl) ?_
    refine lv_iconst (v := 0) hx hb dX8_passes_11 (by decide) ?_
    refine lv_iconst (v := 1) hx hb dX8_passes_12 (by decide) ?_
    refine h_cSi (As := [.int p2, .int (0 : Int32), .int (1 : Int32)]) (rest := []) hf hx hb hml hts hown hX hw myX8_isWithin msX8_isWithin lkX8_91 (fun q hq => c_X8_isWithin l E B T p2 (0 : Int32) (1 : Int32) q1.2 hq) ⟨Nat.le_of_ble_eq_true rfl, Nat.le_of_ble_eq_true rfl⟩ ⟨Nat.le_refl _, Nat.le_refl _⟩ rfl hl.1 rfl (Nat.le_of_ble_eq_true rfl) dX8_passes_13 (fun q2 H2 L2 hf hw => ?_)
    refine lv_if_ne (tgt := 22) hx hb dX8_passes_16 (by decide) (fun hc => ?_) (fun hc => ?_)
    · have hf := ifn hc hf
      refine lv_iconst (v := 0) hx hb dX8_passes_22 (by decide) ?_
      refine lv_istore_n (lv' := [(3, .int (0 : Int32)), (0, .ref (B + a0)), (1, .int p1), (2, .int p2)]) hx hb dX8_passes_23 rfl hl (by decide) rfl (fun ls hl => ?_)
      refine wfX8_passes_L24 hΓ ?_ 6000 (0 : Int32) q2.2 _ _ _ hf hw (lv_sub hl [2, 3, 0] rfl)
      intro u5 H5 L5 ls hf hw hl
      refine lv_iconst (v := -1) hx hb dX8_passes_50 (by decide) ?_
      exact h_iret hf hx hb hr hlk hw dX8_passes_51
    · have hf := ifp hc hf
      refine lv_ldc hx hb hown (hts _ kcX8_95) dX8_passes_19 ?_
      exact h_iret hf hx hb hr hlk hw dX8_passes_21
theorem c_X8_passes (l : Launch) (E : hE) (B : Nat) (T : hT) (a0 : Nat) (p1 : Int32) (p2 : Int32) (u0 : hM) {z : Int32 × hM} (hf : fX8_passes T a0 p1 p2 u0 = some z) : h_Ct l E B T yX8_passes cX8_passes 4 (some .int) 1 [.ref (B + a0), .int p1, .int p2] u0 z.2 (some (.int z.1)) := h_ofW (by decide) (Nat.le_of_ble_eq_true rfl) (fun p e s m below meth c ls hΓ hl hw => wX8_passes hΓ hf hw hl)
def fX8_pairs_L23 (T : hT) (c2 : Int32) (ex : hM → Option (Int32 × hM)) : Nat → Int32 → hM → Option (Int32 × hM)
  | 0, _, _ => none
  | n + 1, v3, u0 => if (30 : Int32) ≤ v3 then (ex u0) else (if ((1 : Int32) <<< (v3 &&& 31)) < c2 then (lt (v3 + (1 : Int32)) fun x3 => fX8_pairs_L23 T c2 ex n x3 u0) else (some (v3, u0)))
def fX8_pairs (T : hT) (a0 : Nat) (p1 : Int32) (u0 : hM) : Option (Int32 × hM) := (fX8_isWithin T p1 (2 : Int32) (16 : Int32) u0).bind fun q1 => if q1.1 = 0 then (some ((-1000000002 : Int32), q1.2)) else (lt (((p1 * (p1 - (1 : Int32))) / (2 : Int32))) fun x2 => fX8_pairs_L23 T x2 (fun (u4 : hM) => some ((-1 : Int32), u4)) 6000 (0 : Int32) q1.2)
set_option maxRecDepth 100000 in
set_option maxHeartbeats 4000000 in
theorem wfX8_pairs_L23 {c2 : Int32} {ex : hM → Option (Int32 × hM)} {z : Int32 × hM} (hΓ : h_Γ E B T p s m args meth c cX8_pairs 4 (some .int) RX8) (hex : ∀ (u9 : hM) (H9 : Heap) (L9 : List Loc) (ls : Array Slot), ex u9 = some z → h_W E B T s.heap u9 H9 L9 → lv_has ls 4 [] → W p l e (h_rm 1) s m args below meth c H9 L9 0 0 (h_Qi below E B T args s z) (F0 m 44 ls [])) : ∀ (n : Nat) (v3 : Int32) (u0 : hM) (H0 : Heap) (L0 : List Loc) (ls : Array Slot), fX8_pairs_L23 T c2 ex n v3 u0 = some z → h_W E B T s.heap u0 H0 L0 → lv_has ls 4 [(2, .int c2), (3, .int v3)] → W p l e (h_rm 1) s m args below meth c H0 L0 0 0 (h_Qi below E B T args s z) (F0 m 23 ls []) := by
  obtain ⟨hx, hb, hr, hml, hts, hown, hlk, hX⟩ := id hΓ
  intro n
  induction n with
  | zero =>
    intro v3 u0 H0 L0 ls hf hw hl
    exact absurd (show (none : Option (Int32 × hM)) = some z from hf) (fun h => by cases h)
  | succ n ih =>
    intro v3 u0 H0 L0 ls hf hw hl
    rw [fX8_pairs_L23] at hf
    refine lv_iload_n hx hb dX8_pairs_23 rfl (lv_at hl 1 rfl) ?_
    refine lv_bipush (v := 30) hx hb dX8_pairs_24 (by decide) ?_
    refine lv_icmp_ge (tgt := 44) hx hb dX8_pairs_26 (by decide) (fun hc => ?_) (fun hc => ?_)
    · have hf := ifp hc hf
      exact hex  u0 _ _ _ hf hw (lv_sub hl [] rfl)
    · have hf := ifn hc hf
      refine lv_iconst (v := 1) hx hb dX8_pairs_29 (by decide) ?_
      refine lv_iload_n hx hb dX8_pairs_30 rfl (lv_at hl 1 rfl) ?_
      refine lv_ishl hx hb dX8_pairs_31 ?_
      refine lv_iload_n hx hb dX8_pairs_32 rfl (lv_at hl 0 rfl) ?_
      refine lv_icmp_lt (tgt := 38) hx hb dX8_pairs_33 (by decide) (fun hc => ?_) (fun hc => ?_)
      · have hf := ifp hc hf
        refine h_iinc (k := 1) hf hx hb dX8_pairs_38 hl rfl (by decide) (by decide) (fun x3 ls hf hl => ?_)
        have hl : lv_has ls 4 [(3, .int x3), (2, .int c2)] := hl
        refine lv_goto (tgt := 23) hx hb dX8_pairs_41 (by decide) ?_
        exact ih x3 u0 _ _ _ hf hw (lv_sub hl [1, 0] rfl)
      · have hf := ifn hc hf
        refine lv_iload_n hx hb dX8_pairs_36 rfl (lv_at hl 1 rfl) ?_
        exact h_iret hf hx hb hr hlk hw dX8_pairs_37
set_option maxRecDepth 100000 in
set_option maxHeartbeats 4000000 in
theorem wX8_pairs {a0 : Nat} {p1 : Int32} {u0 : hM} {z : Int32 × hM} {ls : Array Slot} (hΓ : h_Γ E B T p s m args meth c cX8_pairs 4 (some .int) RX8) (hf : fX8_pairs T a0 p1 u0 = some z) (hw : h_W E B T s.heap u0 s.heap []) (hl : lv_has ls 4 [(0, .ref (B + a0)), (1, .int p1)]) : W p l e (h_rm 1) s m args below meth c s.heap [] 0 0 (h_Qi below E B T args s z) (F0 m 0 ls []) := by
  obtain ⟨hx, hb, hr, hml, hts, hown, hlk, hX⟩ := id hΓ
  unfold fX8_pairs at hf
  refine lv_iload_n hx hb dX8_pairs_0 rfl (lv_at hl 1 rfl) ?_
  refine lv_iconst (v := 2) hx hb dX8_pairs_1 (by decide) ?_
  refine lv_bipush (v := 16) hx hb dX8_pairs_2 (by decide) ?_
  refine h_cSi (As := [.int p1, .int (2 : Int32), .int (16 : Int32)]) (rest := []) hf hx hb hml hts hown hX hw myX8_isWithin msX8_isWithin lkX8_91 (fun q hq => c_X8_isWithin l E B T p1 (2 : Int32) (16 : Int32) u0 hq) ⟨Nat.le_of_ble_eq_true rfl, Nat.le_of_ble_eq_true rfl⟩ ⟨Nat.le_refl _, Nat.le_refl _⟩ rfl hl.1 rfl (Nat.le_of_ble_eq_true rfl) dX8_pairs_4 (fun q1 H1 L1 hf hw => ?_)
  refine lv_if_ne (tgt := 13) hx hb dX8_pairs_7 (by decide) (fun hc => ?_) (fun hc => ?_)
  · have hf := ifn hc hf
    refine lv_iload_n hx hb dX8_pairs_13 rfl (lv_at hl 1 rfl) ?_
    refine lv_iload_n hx hb dX8_pairs_14 rfl (lv_at hl 1 rfl) ?_
    refine lv_iconst (v := 1) hx hb dX8_pairs_15 (by decide) ?_
    refine lv_isub hx hb dX8_pairs_16 ?_
    refine lv_imul hx hb dX8_pairs_17 ?_
    refine lv_iconst (v := 2) hx hb dX8_pairs_18 (by decide) ?_
    refine lv_idiv hx hb dX8_pairs_19 (by decide) ?_
    refine h_nmi hf (fun x2 hf => ?_)
    refine lv_istore_n (lv' := [(2, .int x2), (0, .ref (B + a0)), (1, .int p1)]) hx hb dX8_pairs_20 rfl hl (by decide) rfl (fun ls hl => ?_)
    refine lv_iconst (v := 0) hx hb dX8_pairs_21 (by decide) ?_
    refine lv_istore_n (lv' := [(3, .int (0 : Int32)), (2, .int x2), (0, .ref (B + a0)), (1, .int p1)]) hx hb dX8_pairs_22 rfl hl (by decide) rfl (fun ls hl => ?_)
    refine wfX8_pairs_L23 hΓ ?_ 6000 (0 : Int32) q1.2 _ _ _ hf hw (lv_sub hl [1, 0] rfl)
    intro u4 H4 L4 ls hf hw hl
    refine lv_iconst (v := -1) hx hb dX8_pairs_44 (by decide) ?_
    exact h_iret hf hx hb hr hlk hw dX8_pairs_45
  · have hf := ifp hc hf
    refine lv_ldc hx hb hown (hts _ kcX8_95) dX8_pairs_10 ?_
    exact h_iret hf hx hb hr hlk hw dX8_pairs_12
theorem c_X8_pairs (l : Launch) (E : hE) (B : Nat) (T : hT) (a0 : Nat) (p1 : Int32) (u0 : hM) {z : Int32 × hM} (hf : fX8_pairs T a0 p1 u0 = some z) : h_Ct l E B T yX8_pairs cX8_pairs 4 (some .int) 1 [.ref (B + a0), .int p1] u0 z.2 (some (.int z.1)) := h_ofW (by decide) (Nat.le_of_ble_eq_true rfl) (fun p e s m below meth c ls hΓ hl hw => wX8_pairs hΓ hf hw hl)
def fX8_isHome (T : hT) (p0 : Int32) (u0 : hM) : Option (Int32 × hM) := (fX8_isWithin T p0 (-1200 : Int32) (1200 : Int32) u0).bind fun q1 => rtz q1.1 q1.2
set_option maxRecDepth 100000 in
set_option maxHeartbeats 4000000 in
theorem wX8_isHome {p0 : Int32} {u0 : hM} {z : Int32 × hM} {ls : Array Slot} (hΓ : h_Γ E B T p s m args meth c cX8_isHome 1 (some .boolean) RX8) (hf : fX8_isHome T p0 u0 = some z) (hw : h_W E B T s.heap u0 s.heap []) (hl : lv_has ls 1 [(0, .int p0)]) : W p l e (h_rm 1) s m args below meth c s.heap [] 0 0 (h_Qi below E B T args s z) (F0 m 0 ls []) := by
  obtain ⟨hx, hb, hr, hml, hts, hown, hlk, hX⟩ := id hΓ
  unfold fX8_isHome at hf
  refine lv_iload_n hx hb dX8_isHome_0 rfl (lv_at hl 0 rfl) ?_
  refine lv_sipush (v := -1200) hx hb dX8_isHome_1 (by decide) ?_
  refine lv_sipush (v := 1200) hx hb dX8_isHome_4 (by decide) ?_
  refine h_cSi (As := [.int p0, .int (-1200 : Int32), .int (1200 : Int32)]) (rest := []) hf hx hb hml hts hown hX hw myX8_isWithin msX8_isWithin lkX8_91 (fun q hq => c_X8_isWithin l E B T p0 (-1200 : Int32) (1200 : Int32) u0 hq) ⟨Nat.le_of_ble_eq_true rfl, Nat.le_of_ble_eq_true rfl⟩ ⟨Nat.le_refl _, Nat.le_refl _⟩ rfl hl.1 rfl (Nat.le_of_ble_eq_true rfl) dX8_isHome_7 (fun q1 H1 L1 hf hw => ?_)
  exact h_zret hf hx hb hr hlk hw dX8_isHome_10
theorem c_X8_isHome (l : Launch) (E : hE) (B : Nat) (T : hT) (p0 : Int32) (u0 : hM) {z : Int32 × hM} (hf : fX8_isHome T p0 u0 = some z) : h_Ct l E B T yX8_isHome cX8_isHome 1 (some .boolean) 1 [.int p0] u0 z.2 (some (.int z.1)) := h_ofW (by decide) (Nat.le_of_ble_eq_true rfl) (fun p e s m below meth c ls hΓ hl hw => wX8_isHome hΓ hf hw hl)
def fX0_add (T : hT) (a0 : Nat) (p1 : Int32) (u0 : hM) : Option (hM) := (gti T u0 a0 0 2).bind fun x1 => if x1 < (8 : Int32) then ((gtr T u0 a0 0 0).bind fun a2 => (gti T u0 a0 0 2).bind fun x3 => (asti T u0 a2 x3 p1).bind fun u4 => (gti T u4 a0 0 2).bind fun x5 => (pti T u4 a0 0 2 (x5 + (1 : Int32))).bind fun u6 => some u6) else (some u0)
set_option maxRecDepth 100000 in
set_option maxHeartbeats 4000000 in
theorem wX0_add {a0 : Nat} {p1 : Int32} {u0 : hM} {z : hM} {ls : Array Slot} (hΓ : h_Γ E B T p s m args meth c cX0_add 2 none RX0) (hf : fX0_add T a0 p1 u0 = some z) (hw : h_W E B T s.heap u0 s.heap []) (hl : lv_has ls 2 [(0, .ref (B + a0)), (1, .int p1)]) : W p l e (h_rm 0) s m args below meth c s.heap [] 0 0 (h_Qv below E B T args s z) (F0 m 0 ls []) := by
  obtain ⟨hx, hb, hr, hml, hts, hown, hlk, hX⟩ := id hΓ
  unfold fX0_add at hf
  refine lv_aload_n hx hb dX0_add_0 rfl (lv_at hl 0 rfl) ?_
  refine h_geti hf hx hb hts hown hX hw flX0_18 rfl dX0_add_1 (fun x1 hf => ?_)
  refine lv_bipush (v := 8) hx hb dX0_add_4 (by decide) ?_
  refine lv_icmp_lt (tgt := 10) hx hb dX0_add_6 (by decide) (fun hc => ?_) (fun hc => ?_)
  · have hf := ifp hc hf
    refine lv_aload_n hx hb dX0_add_10 rfl (lv_at hl 0 rfl) ?_
    refine h_getr hf hx hb hts hown hX hw flX0_9 rfl dX0_add_11 (fun a2 hf => ?_)
    refine lv_aload_n hx hb dX0_add_14 rfl (lv_at hl 0 rfl) ?_
    refine h_geti hf hx hb hts hown hX hw flX0_18 rfl dX0_add_15 (fun x3 hf => ?_)
    refine lv_iload_n hx hb dX0_add_18 rfl (lv_at hl 1 rfl) ?_
    refine h_iast hf hx hb hX hw dX0_add_19 (fun u4 H4 L4 hf hw => ?_)
    refine lv_aload_n hx hb dX0_add_20 rfl (lv_at hl 0 rfl) ?_
    refine lv_dup hx hb dX0_add_21 rfl ?_
    refine h_geti hf hx hb hts hown hX hw flX0_18 rfl dX0_add_22 (fun x5 hf => ?_)
    refine lv_iconst (v := 1) hx hb dX0_add_25 (by decide) ?_
    refine lv_iadd hx hb dX0_add_26 ?_
    refine h_puti hf hx hb hts hown hX hw flX0_18 ⟨rfl, rfl⟩ dX0_add_27 (fun u6 H6 L6 hf hw => ?_)
    exact h_vret hf hx hb hr hlk hw dX0_add_30
  · have hf := ifn hc hf
    exact h_vret hf hx hb hr hlk hw dX0_add_9
theorem c_X0_add (l : Launch) (E : hE) (B : Nat) (T : hT) (a0 : Nat) (p1 : Int32) (u0 : hM) {z : hM} (hf : fX0_add T a0 p1 u0 = some z) : h_Ct l E B T yX0_add cX0_add 2 none 0 [.ref (B + a0), .int p1] u0 z none := h_ofW (by decide) (Nat.le_of_ble_eq_true rfl) (fun p e s m below meth c ls hΓ hl hw => wX0_add hΓ hf hw hl)
def fX8_join (T : hT) (a0 : Nat) (p1 : Int32) (u0 : hM) : Option (Int32 × hM) := (fX8_isHome T p1 u0).bind fun q1 => if q1.1 = 0 then (some ((-1000000002 : Int32), q1.2)) else ((gtr T q1.2 a0 8 9).bind fun a2 => (gti T q1.2 a2 0 2).bind fun x3 => if x3 < (8 : Int32) then ((gtr T q1.2 a0 8 9).bind fun a4 => (vc T a4 0 (fX0_add T a4 p1 q1.2)).bind fun q5 => (gtr T q5 a0 8 9).bind fun a6 => (gti T q5 a6 0 2).bind fun x7 => some (x7, q5)) else (some ((-1000000004 : Int32), q1.2)))
set_option maxRecDepth 100000 in
set_option maxHeartbeats 4000000 in
theorem wX8_join {a0 : Nat} {p1 : Int32} {u0 : hM} {z : Int32 × hM} {ls : Array Slot} (hΓ : h_Γ E B T p s m args meth c cX8_join 2 (some .int) RX8) (hf : fX8_join T a0 p1 u0 = some z) (hw : h_W E B T s.heap u0 s.heap []) (hl : lv_has ls 2 [(0, .ref (B + a0)), (1, .int p1)]) : W p l e (h_rm 2) s m args below meth c s.heap [] 0 0 (h_Qi below E B T args s z) (F0 m 0 ls []) := by
  obtain ⟨hx, hb, hr, hml, hts, hown, hlk, hX⟩ := id hΓ
  unfold fX8_join at hf
  refine lv_iload_n hx hb dX8_join_0 rfl (lv_at hl 1 rfl) ?_
  refine h_cSi (As := [.int p1]) (rest := []) hf hx hb hml hts hown hX hw myX8_isHome msX8_isHome lkX8_295 (fun q hq => c_X8_isHome l E B T p1 u0 hq) ⟨Nat.le_of_ble_eq_true rfl, Nat.le_of_ble_eq_true rfl⟩ ⟨Nat.le_refl _, Nat.le_refl _⟩ rfl hl.1 rfl (Nat.le_of_ble_eq_true rfl) dX8_join_1 (fun q1 H1 L1 hf hw => ?_)
  refine lv_if_ne (tgt := 10) hx hb dX8_join_4 (by decide) (fun hc => ?_) (fun hc => ?_)
  · have hf := ifn hc hf
    refine lv_aload_n hx hb dX8_join_10 rfl (lv_at hl 0 rfl) ?_
    refine h_getr hf hx hb hts hown hX hw flX8_65 rfl dX8_join_11 (fun a2 hf => ?_)
    refine h_geti hf hx hb hts hown hX hw flX8_151 rfl dX8_join_14 (fun x3 hf => ?_)
    refine lv_bipush (v := 8) hx hb dX8_join_17 (by decide) ?_
    refine lv_icmp_lt (tgt := 25) hx hb dX8_join_19 (by decide) (fun hc => ?_) (fun hc => ?_)
    · have hf := ifp hc hf
      refine lv_aload_n hx hb dX8_join_25 rfl (lv_at hl 0 rfl) ?_
      refine h_getr hf hx hb hts hown hX hw flX8_65 rfl dX8_join_26 (fun a4 hf => ?_)
      refine lv_iload_n hx hb dX8_join_29 rfl (lv_at hl 1 rfl) ?_
      refine h_cVv (As := [.int p1]) (rest := []) hf hx hb hml hts hown hX hw myX0_add miX0_add lkX8_298 ⟨rfl, by decide⟩ (fun q hq => c_X0_add l E B T a4 p1 q1.2 hq) ⟨Nat.le_of_ble_eq_true rfl, Nat.le_of_ble_eq_true rfl⟩ ⟨Nat.le_refl _, Nat.le_refl _⟩ rfl hl.1 rfl (Nat.le_of_ble_eq_true rfl) dX8_join_30 (fun q5 H5 L5 hf hw => ?_)
      refine lv_aload_n hx hb dX8_join_33 rfl (lv_at hl 0 rfl) ?_
      refine h_getr hf hx hb hts hown hX hw flX8_65 rfl dX8_join_34 (fun a6 hf => ?_)
      refine h_geti hf hx hb hts hown hX hw flX8_151 rfl dX8_join_37 (fun x7 hf => ?_)
      exact h_iret hf hx hb hr hlk hw dX8_join_40
    · have hf := ifn hc hf
      refine lv_ldc hx hb hown (hts _ kcX8_99) dX8_join_22 ?_
      exact h_iret hf hx hb hr hlk hw dX8_join_24
  · have hf := ifp hc hf
    refine lv_ldc hx hb hown (hts _ kcX8_95) dX8_join_7 ?_
    exact h_iret hf hx hb hr hlk hw dX8_join_9
theorem c_X8_join (l : Launch) (E : hE) (B : Nat) (T : hT) (a0 : Nat) (p1 : Int32) (u0 : hM) {z : Int32 × hM} (hf : fX8_join T a0 p1 u0 = some z) : h_Ct l E B T yX8_join cX8_join 2 (some .int) 2 [.ref (B + a0), .int p1] u0 z.2 (some (.int z.1)) := h_ofW (by decide) (Nat.le_of_ble_eq_true rfl) (fun p e s m below meth c ls hΓ hl hw => wX8_join hΓ hf hw hl)
def fX8_part (T : hT) (a0 : Nat) (u0 : hM) : Option (Int32 × hM) := (gtr T u0 a0 8 9).bind fun a1 => (gti T u0 a1 0 2).bind fun x2 => (gtr T u0 a0 8 9).bind fun a3 => (pti T u0 a3 0 2 (0 : Int32)).bind fun u4 => some (x2, u4)
set_option maxRecDepth 100000 in
set_option maxHeartbeats 4000000 in
theorem wX8_part {a0 : Nat} {u0 : hM} {z : Int32 × hM} {ls : Array Slot} (hΓ : h_Γ E B T p s m args meth c cX8_part 2 (some .int) RX8) (hf : fX8_part T a0 u0 = some z) (hw : h_W E B T s.heap u0 s.heap []) (hl : lv_has ls 2 [(0, .ref (B + a0))]) : W p l e (h_rm 0) s m args below meth c s.heap [] 0 0 (h_Qi below E B T args s z) (F0 m 0 ls []) := by
  obtain ⟨hx, hb, hr, hml, hts, hown, hlk, hX⟩ := id hΓ
  unfold fX8_part at hf
  refine lv_aload_n hx hb dX8_part_0 rfl (lv_at hl 0 rfl) ?_
  refine h_getr hf hx hb hts hown hX hw flX8_65 rfl dX8_part_1 (fun a1 hf => ?_)
  refine h_geti hf hx hb hts hown hX hw flX8_151 rfl dX8_part_4 (fun x2 hf => ?_)
  refine lv_istore_n (lv' := [(1, .int x2), (0, .ref (B + a0))]) hx hb dX8_part_7 rfl hl (by decide) rfl (fun ls hl => ?_)
  refine lv_aload_n hx hb dX8_part_8 rfl (lv_at hl 1 rfl) ?_
  refine h_getr hf hx hb hts hown hX hw flX8_65 rfl dX8_part_9 (fun a3 hf => ?_)
  refine lv_iconst (v := 0) hx hb dX8_part_12 (by decide) ?_
  refine h_puti hf hx hb hts hown hX hw flX8_151 ⟨rfl, rfl⟩ dX8_part_13 (fun u4 H4 L4 hf hw => ?_)
  refine lv_iload_n hx hb dX8_part_16 rfl (lv_at hl 0 rfl) ?_
  exact h_iret hf hx hb hr hlk hw dX8_part_17
theorem c_X8_part (l : Launch) (E : hE) (B : Nat) (T : hT) (a0 : Nat) (u0 : hM) {z : Int32 × hM} (hf : fX8_part T a0 u0 = some z) : h_Ct l E B T yX8_part cX8_part 2 (some .int) 0 [.ref (B + a0)] u0 z.2 (some (.int z.1)) := h_ofW (by decide) (Nat.le_of_ble_eq_true rfl) (fun p e s m below meth c ls hΓ hl hw => wX8_part hΓ hf hw hl)
def fX0_meanOfMoved_L4 (T : hT) (c0 : Nat) (ex : Int32 → hM → Option (Int32 × hM)) : Nat → Int32 → Int32 → hM → Option (Int32 × hM)
  | 0, _, _, _ => none
  | n + 1, v1, v2, u0 => (gti T u0 c0 0 2).bind fun x1 => if x1 ≤ v2 then (ex v1 u0) else ((gtr T u0 c0 0 1).bind fun a2 => (ald 11 T u0 a2 v2).bind fun x3 => lt ((v1 + x3)) fun x4 => lt (v2 + (1 : Int32)) fun x5 => fX0_meanOfMoved_L4 T c0 ex n x4 x5 u0)
def fX0_meanOfMoved (T : hT) (a0 : Nat) (u0 : hM) : Option (Int32 × hM) := fX0_meanOfMoved_L4 T a0 (fun (x6 : Int32) (u7 : hM) => (gti T u7 a0 0 2).bind fun x8 => if x8 ≤ 0 then (some ((0 : Int32), u7)) else ((gti T u7 a0 0 2).bind fun x9 => (dvi x6 x9).bind fun x10 => some (x10, u7))) 6000 (0 : Int32) (0 : Int32) u0
set_option maxRecDepth 100000 in
set_option maxHeartbeats 4000000 in
theorem wfX0_meanOfMoved_L4 {c0 : Nat} {ex : Int32 → hM → Option (Int32 × hM)} {z : Int32 × hM} (hΓ : h_Γ E B T p s m args meth c cX0_meanOfMoved 3 (some .int) RX0) (hex : ∀ (y1 : Int32) (u9 : hM) (H9 : Heap) (L9 : List Loc) (ls : Array Slot), ex y1 u9 = some z → h_W E B T s.heap u9 H9 L9 → lv_has ls 3 [(0, .ref (B + c0)), (1, .int y1)] → W p l e (h_rm 0) s m args below meth c H9 L9 0 0 (h_Qi below E B T args s z) (F0 m 27 ls [])) : ∀ (n : Nat) (v1 : Int32) (v2 : Int32) (u0 : hM) (H0 : Heap) (L0 : List Loc) (ls : Array Slot), fX0_meanOfMoved_L4 T c0 ex n v1 v2 u0 = some z → h_W E B T s.heap u0 H0 L0 → lv_has ls 3 [(0, .ref (B + c0)), (1, .int v1), (2, .int v2)] → W p l e (h_rm 0) s m args below meth c H0 L0 0 0 (h_Qi below E B T args s z) (F0 m 4 ls []) := by
  obtain ⟨hx, hb, hr, hml, hts, hown, hlk, hX⟩ := id hΓ
  intro n
  induction n with
  | zero =>
    intro v1 v2 u0 H0 L0 ls hf hw hl
    exact absurd (show (none : Option (Int32 × hM)) = some z from hf) (fun h => by cases h)
  | succ n ih =>
    intro v1 v2 u0 H0 L0 ls hf hw hl
    rw [fX0_meanOfMoved_L4] at hf
    refine lv_iload_n hx hb dX0_meanOfMoved_4 rfl (lv_at hl 2 rfl) ?_
    refine lv_aload_n hx hb dX0_meanOfMoved_5 rfl (lv_at hl 0 rfl) ?_
    refine h_geti hf hx hb hts hown hX hw flX0_18 rfl dX0_meanOfMoved_6 (fun x1 hf => ?_)
    refine lv_icmp_ge (tgt := 27) hx hb dX0_meanOfMoved_9 (by decide) (fun hc => ?_) (fun hc => ?_)
    · have hf := ifp hc hf
      exact hex v1 u0 _ _ _ hf hw (lv_sub hl [0, 1] rfl)
    · have hf := ifn hc hf
      refine lv_iload_n hx hb dX0_meanOfMoved_12 rfl (lv_at hl 1 rfl) ?_
      refine lv_aload_n hx hb dX0_meanOfMoved_13 rfl (lv_at hl 0 rfl) ?_
      refine h_getr hf hx hb hts hown hX hw flX0_15 rfl dX0_meanOfMoved_14 (fun a2 hf => ?_)
      refine lv_iload_n hx hb dX0_meanOfMoved_17 rfl (lv_at hl 2 rfl) ?_
      refine h_iald hf hx hb hX hw dX0_meanOfMoved_18 (fun x3 hf => ?_)
      refine lv_iadd hx hb dX0_meanOfMoved_19 ?_
      refine h_nmi hf (fun x4 hf => ?_)
      refine lv_istore_n (lv' := [(1, .int x4), (0, .ref (B + c0)), (2, .int v2)]) hx hb dX0_meanOfMoved_20 rfl hl (by decide) rfl (fun ls hl => ?_)
      refine h_iinc (k := 2) hf hx hb dX0_meanOfMoved_21 hl rfl (by decide) (by decide) (fun x5 ls hf hl => ?_)
      have hl : lv_has ls 3 [(2, .int x5), (1, .int x4), (0, .ref (B + c0))] := hl
      refine lv_goto (tgt := 4) hx hb dX0_meanOfMoved_24 (by decide) ?_
      exact ih x4 x5 u0 _ _ _ hf hw (lv_sub hl [2, 1, 0] rfl)
set_option maxRecDepth 100000 in
set_option maxHeartbeats 4000000 in
theorem wX0_meanOfMoved {a0 : Nat} {u0 : hM} {z : Int32 × hM} {ls : Array Slot} (hΓ : h_Γ E B T p s m args meth c cX0_meanOfMoved 3 (some .int) RX0) (hf : fX0_meanOfMoved T a0 u0 = some z) (hw : h_W E B T s.heap u0 s.heap []) (hl : lv_has ls 3 [(0, .ref (B + a0))]) : W p l e (h_rm 0) s m args below meth c s.heap [] 0 0 (h_Qi below E B T args s z) (F0 m 0 ls []) := by
  obtain ⟨hx, hb, hr, hml, hts, hown, hlk, hX⟩ := id hΓ
  unfold fX0_meanOfMoved at hf
  refine lv_iconst (v := 0) hx hb dX0_meanOfMoved_0 (by decide) ?_
  refine lv_istore_n (lv' := [(1, .int (0 : Int32)), (0, .ref (B + a0))]) hx hb dX0_meanOfMoved_1 rfl hl (by decide) rfl (fun ls hl => ?_)
  refine lv_iconst (v := 0) hx hb dX0_meanOfMoved_2 (by decide) ?_
  refine lv_istore_n (lv' := [(2, .int (0 : Int32)), (1, .int (0 : Int32)), (0, .ref (B + a0))]) hx hb dX0_meanOfMoved_3 rfl hl (by decide) rfl (fun ls hl => ?_)
  refine wfX0_meanOfMoved_L4 hΓ ?_ 6000 (0 : Int32) (0 : Int32) u0 _ _ _ hf hw (lv_sub hl [2, 1, 0] rfl)
  intro x6 u7 H7 L7 ls hf hw hl
  refine lv_aload_n hx hb dX0_meanOfMoved_27 rfl (lv_at hl 0 rfl) ?_
  refine h_geti hf hx hb hts hown hX hw flX0_18 rfl dX0_meanOfMoved_28 (fun x8 hf => ?_)
  refine lv_if_le (tgt := 43) hx hb dX0_meanOfMoved_31 (by decide) (fun hc => ?_) (fun hc => ?_)
  · have hf := ifp hc hf
    refine lv_iconst (v := 0) hx hb dX0_meanOfMoved_43 (by decide) ?_
    exact h_iret hf hx hb hr hlk hw dX0_meanOfMoved_44
  · have hf := ifn hc hf
    refine lv_iload_n hx hb dX0_meanOfMoved_34 rfl (lv_at hl 1 rfl) ?_
    refine lv_aload_n hx hb dX0_meanOfMoved_35 rfl (lv_at hl 0 rfl) ?_
    refine h_geti hf hx hb hts hown hX hw flX0_18 rfl dX0_meanOfMoved_36 (fun x9 hf => ?_)
    refine h_dvi hf hx hb dX0_meanOfMoved_39 (fun x10 hf => ?_)
    refine lv_goto (tgt := 44) hx hb dX0_meanOfMoved_40 (by decide) ?_
    exact h_iret hf hx hb hr hlk hw dX0_meanOfMoved_44
theorem c_X0_meanOfMoved (l : Launch) (E : hE) (B : Nat) (T : hT) (a0 : Nat) (u0 : hM) {z : Int32 × hM} (hf : fX0_meanOfMoved T a0 u0 = some z) : h_Ct l E B T yX0_meanOfMoved cX0_meanOfMoved 3 (some .int) 0 [.ref (B + a0)] u0 z.2 (some (.int z.1)) := h_ofW (by decide) (Nat.le_of_ble_eq_true rfl) (fun p e s m below meth c ls hΓ hl hw => wX0_meanOfMoved hΓ hf hw hl)
end GEN
