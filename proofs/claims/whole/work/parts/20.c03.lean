section GEN
variable {p : Program} {l : Launch} {e : Env} {s : State} {m : MethodId} {args : Array Value} {below : List Frame} {meth : Method} {c : Code} {E : hE} {B : Nat} {T : hT}
def fX8_hasSong (T : hT) (a0 : Nat) (u0 : hM) : Option (Int32 × hM) := (gtr T u0 a0 8 6).bind fun a1 => (gtr T u0 a1 5 0).bind fun a2 => (gti T u0 a2 4 2).bind fun x3 => if x3 = (-1 : Int32) then (rtz (0 : Int32) u0) else (rtz (1 : Int32) u0)
set_option maxRecDepth 100000 in
set_option maxHeartbeats 4000000 in
theorem wX8_hasSong {a0 : Nat} {u0 : hM} {z : Int32 × hM} {ls : Array Slot} (hΓ : h_Γ E B T p s m args meth c cX8_hasSong 1 (some .boolean) RX8) (hf : fX8_hasSong T a0 u0 = some z) (hw : h_W E B T s.heap u0 s.heap []) (hl : lv_has ls 1 [(0, .ref (B + a0))]) : W p l e (h_rm 0) s m args below meth c s.heap [] 0 0 (h_Qi below E B T args s z) (F0 m 0 ls []) := by
  obtain ⟨hx, hb, hr, hml, hts, hown, hlk, hX⟩ := id hΓ
  unfold fX8_hasSong at hf
  refine lv_aload_n hx hb dX8_hasSong_0 rfl (lv_at hl 0 rfl) ?_
  refine h_getr hf hx hb hts hown hX hw flX8_47 rfl dX8_hasSong_1 (fun a1 hf => ?_)
  refine h_getr hf hx hb hts hown hX hw flX8_145 rfl dX8_hasSong_4 (fun a2 hf => ?_)
  refine h_geti hf hx hb hts hown hX hw flX8_148 rfl dX8_hasSong_7 (fun x3 hf => ?_)
  refine lv_iconst (v := -1) hx hb dX8_hasSong_10 (by decide) ?_
  refine lv_icmp_eq (tgt := 18) hx hb dX8_hasSong_11 (by decide) (fun hc => ?_) (fun hc => ?_)
  · have hf := ifp hc hf
    refine lv_iconst (v := 0) hx hb dX8_hasSong_18 (by decide) ?_
    exact h_zret hf hx hb hr hlk hw dX8_hasSong_19
  · have hf := ifn hc hf
    refine lv_iconst (v := 1) hx hb dX8_hasSong_14 (by decide) ?_
    refine lv_goto (tgt := 19) hx hb dX8_hasSong_15 (by decide) ?_
    exact h_zret hf hx hb hr hlk hw dX8_hasSong_19
theorem c_X8_hasSong (l : Launch) (E : hE) (B : Nat) (T : hT) (a0 : Nat) (u0 : hM) {z : Int32 × hM} (hf : fX8_hasSong T a0 u0 = some z) : h_Ct l E B T yX8_hasSong cX8_hasSong 1 (some .boolean) 0 [.ref (B + a0)] u0 z.2 (some (.int z.1)) := h_ofW (by decide) (Nat.le_of_ble_eq_true rfl) (fun p e s m below meth c ls hΓ hl hw => wX8_hasSong hΓ hf hw hl)
def fX8_height (T : hT) (a0 : Nat) (p1 : Int32) (u0 : hM) : Option (Int32 × hM) := (gtr T u0 a0 8 1).bind fun a1 => (gti T u0 a1 1 2).bind fun x2 => (fX8_isWithin T p1 (0 : Int32) (x2 - (1 : Int32)) u0).bind fun q3 => if q3.1 = 0 then (some ((-1000000001 : Int32), q3.2)) else ((vc T a0 8 (fX8_hasSong T a0 q3.2)).bind fun q4 => if q4.1 = 0 then (some ((-1000000003 : Int32), q4.2)) else ((gtr T q4.2 a0 8 6).bind fun a5 => (gtr T q4.2 a5 5 0).bind fun a6 => (vc T a6 4 (fX4_heightAt T a6 p1 q4.2)).bind fun q7 => some (q7.1, q7.2)))
set_option maxRecDepth 100000 in
set_option maxHeartbeats 4000000 in
theorem wX8_height {a0 : Nat} {p1 : Int32} {u0 : hM} {z : Int32 × hM} {ls : Array Slot} (hΓ : h_Γ E B T p s m args meth c cX8_height 2 (some .int) RX8) (hf : fX8_height T a0 p1 u0 = some z) (hw : h_W E B T s.heap u0 s.heap []) (hl : lv_has ls 2 [(0, .ref (B + a0)), (1, .int p1)]) : W p l e (h_rm 2) s m args below meth c s.heap [] 0 0 (h_Qi below E B T args s z) (F0 m 0 ls []) := by
  obtain ⟨hx, hb, hr, hml, hts, hown, hlk, hX⟩ := id hΓ
  unfold fX8_height at hf
  refine lv_iload_n hx hb dX8_height_0 rfl (lv_at hl 1 rfl) ?_
  refine lv_iconst (v := 0) hx hb dX8_height_1 (by decide) ?_
  refine lv_aload_n hx hb dX8_height_2 rfl (lv_at hl 0 rfl) ?_
  refine h_getr hf hx hb hts hown hX hw flX8_19 rfl dX8_height_3 (fun a1 hf => ?_)
  refine h_geti hf hx hb hts hown hX hw flX8_124 rfl dX8_height_6 (fun x2 hf => ?_)
  refine lv_iconst (v := 1) hx hb dX8_height_9 (by decide) ?_
  refine lv_isub hx hb dX8_height_10 ?_
  refine h_cSi (As := [.int p1, .int (0 : Int32), .int (x2 - (1 : Int32))]) (rest := []) hf hx hb hml hts hown hX hw myX8_isWithin msX8_isWithin lkX8_91 (fun q hq => c_X8_isWithin l E B T p1 (0 : Int32) (x2 - (1 : Int32)) u0 hq) ⟨Nat.le_of_ble_eq_true rfl, Nat.le_of_ble_eq_true rfl⟩ ⟨Nat.le_refl _, Nat.le_refl _⟩ rfl hl.1 rfl (Nat.le_of_ble_eq_true rfl) dX8_height_11 (fun q3 H3 L3 hf hw => ?_)
  refine lv_if_ne (tgt := 20) hx hb dX8_height_14 (by decide) (fun hc => ?_) (fun hc => ?_)
  · have hf := ifn hc hf
    refine lv_aload_n hx hb dX8_height_20 rfl (lv_at hl 0 rfl) ?_
    refine h_cVi (As := []) (rest := []) hf hx hb hml hts hown hX hw myX8_hasSong miX8_hasSong lkX8_216 ⟨rfl, by decide⟩ (fun q hq => c_X8_hasSong l E B T a0 q3.2 hq) ⟨Nat.le_of_ble_eq_true rfl, Nat.le_of_ble_eq_true rfl⟩ ⟨Nat.le_refl _, Nat.le_refl _⟩ rfl hl.1 rfl (Nat.le_of_ble_eq_true rfl) dX8_height_21 (fun q4 H4 L4 hf hw => ?_)
    refine lv_if_ne (tgt := 30) hx hb dX8_height_24 (by decide) (fun hc => ?_) (fun hc => ?_)
    · have hf := ifn hc hf
      refine lv_aload_n hx hb dX8_height_30 rfl (lv_at hl 0 rfl) ?_
      refine h_getr hf hx hb hts hown hX hw flX8_47 rfl dX8_height_31 (fun a5 hf => ?_)
      refine h_getr hf hx hb hts hown hX hw flX8_145 rfl dX8_height_34 (fun a6 hf => ?_)
      refine lv_iload_n hx hb dX8_height_37 rfl (lv_at hl 1 rfl) ?_
      refine h_cVi (As := [.int p1]) (rest := []) hf hx hb hml hts hown hX hw myX4_heightAt miX4_heightAt lkX8_220 ⟨rfl, by decide⟩ (fun q hq => c_X4_heightAt l E B T a6 p1 q4.2 hq) ⟨Nat.le_of_ble_eq_true rfl, Nat.le_of_ble_eq_true rfl⟩ ⟨Nat.le_refl _, Nat.le_refl _⟩ rfl hl.1 rfl (Nat.le_of_ble_eq_true rfl) dX8_height_38 (fun q7 H7 L7 hf hw => ?_)
      exact h_iret hf hx hb hr hlk hw dX8_height_41
    · have hf := ifp hc hf
      refine lv_ldc hx hb hown (hts _ kcX8_219) dX8_height_27 ?_
      exact h_iret hf hx hb hr hlk hw dX8_height_29
  · have hf := ifp hc hf
    refine lv_ldc hx hb hown (hts _ kcX8_158) dX8_height_17 ?_
    exact h_iret hf hx hb hr hlk hw dX8_height_19
theorem c_X8_height (l : Launch) (E : hE) (B : Nat) (T : hT) (a0 : Nat) (p1 : Int32) (u0 : hM) {z : Int32 × hM} (hf : fX8_height T a0 p1 u0 = some z) : h_Ct l E B T yX8_height cX8_height 2 (some .int) 2 [.ref (B + a0), .int p1] u0 z.2 (some (.int z.1)) := h_ofW (by decide) (Nat.le_of_ble_eq_true rfl) (fun p e s m below meth c ls hΓ hl hw => wX8_height hΓ hf hw hl)
def fX8_slid (T : hT) (a0 : Nat) (u0 : hM) : Option (Int32 × hM) := (vc T a0 8 (fX8_hasSong T a0 u0)).bind fun q1 => if q1.1 = 0 then (some ((-1000000003 : Int32), q1.2)) else ((gtr T q1.2 a0 8 6).bind fun a2 => (gtr T q1.2 a2 5 0).bind fun a3 => (gtr T q1.2 a0 8 1).bind fun a4 => (vc T a3 4 (fX4_slide T a3 a4 q1.2)).bind fun q5 => some (q5.1, q5.2))
set_option maxRecDepth 100000 in
set_option maxHeartbeats 4000000 in
theorem wX8_slid {a0 : Nat} {u0 : hM} {z : Int32 × hM} {ls : Array Slot} (hΓ : h_Γ E B T p s m args meth c cX8_slid 1 (some .int) RX8) (hf : fX8_slid T a0 u0 = some z) (hw : h_W E B T s.heap u0 s.heap []) (hl : lv_has ls 1 [(0, .ref (B + a0))]) : W p l e (h_rm 4) s m args below meth c s.heap [] 0 0 (h_Qi below E B T args s z) (F0 m 0 ls []) := by
  obtain ⟨hx, hb, hr, hml, hts, hown, hlk, hX⟩ := id hΓ
  unfold fX8_slid at hf
  refine lv_aload_n hx hb dX8_slid_0 rfl (lv_at hl 0 rfl) ?_
  refine h_cVi (As := []) (rest := []) hf hx hb hml hts hown hX hw myX8_hasSong miX8_hasSong lkX8_216 ⟨rfl, by decide⟩ (fun q hq => c_X8_hasSong l E B T a0 u0 hq) ⟨Nat.le_of_ble_eq_true rfl, Nat.le_of_ble_eq_true rfl⟩ ⟨Nat.le_refl _, Nat.le_refl _⟩ rfl hl.1 rfl (Nat.le_of_ble_eq_true rfl) dX8_slid_1 (fun q1 H1 L1 hf hw => ?_)
  refine lv_if_ne (tgt := 10) hx hb dX8_slid_4 (by decide) (fun hc => ?_) (fun hc => ?_)
  · have hf := ifn hc hf
    refine lv_aload_n hx hb dX8_slid_10 rfl (lv_at hl 0 rfl) ?_
    refine h_getr hf hx hb hts hown hX hw flX8_47 rfl dX8_slid_11 (fun a2 hf => ?_)
    refine h_getr hf hx hb hts hown hX hw flX8_145 rfl dX8_slid_14 (fun a3 hf => ?_)
    refine lv_aload_n hx hb dX8_slid_17 rfl (lv_at hl 0 rfl) ?_
    refine h_getr hf hx hb hts hown hX hw flX8_19 rfl dX8_slid_18 (fun a4 hf => ?_)
    refine h_cVi (As := [.ref (B + a4)]) (rest := []) hf hx hb hml hts hown hX hw myX4_slide miX4_slide lkX8_224 ⟨rfl, by decide⟩ (fun q hq => c_X4_slide l E B T a3 a4 q1.2 hq) ⟨Nat.le_of_ble_eq_true rfl, Nat.le_of_ble_eq_true rfl⟩ ⟨Nat.le_refl _, Nat.le_refl _⟩ rfl hl.1 rfl (Nat.le_of_ble_eq_true rfl) dX8_slid_21 (fun q5 H5 L5 hf hw => ?_)
    exact h_iret hf hx hb hr hlk hw dX8_slid_24
  · have hf := ifp hc hf
    refine lv_ldc hx hb hown (hts _ kcX8_219) dX8_slid_7 ?_
    exact h_iret hf hx hb hr hlk hw dX8_slid_9
theorem c_X8_slid (l : Launch) (E : hE) (B : Nat) (T : hT) (a0 : Nat) (u0 : hM) {z : Int32 × hM} (hf : fX8_slid T a0 u0 = some z) : h_Ct l E B T yX8_slid cX8_slid 1 (some .int) 4 [.ref (B + a0)] u0 z.2 (some (.int z.1)) := h_ofW (by decide) (Nat.le_of_ble_eq_true rfl) (fun p e s m below meth c ls hΓ hl hw => wX8_slid hΓ hf hw hl)
def fX8_score (T : hT) (a0 : Nat) (p1 : Int32) (u0 : hM) : Option (Int32 × hM) := (fX8_isWithin T p1 (0 : Int32) (3 : Int32) u0).bind fun q1 => if q1.1 = 0 then (some ((-1000000002 : Int32), q1.2)) else ((vc T a0 8 (fX8_hasSong T a0 q1.2)).bind fun q2 => if q2.1 = 0 then (some ((-1000000003 : Int32), q2.2)) else ((gtr T q2.2 a0 8 6).bind fun a3 => (gtr T q2.2 a3 5 0).bind fun a4 => (gtr T q2.2 a0 8 1).bind fun a5 => (vc T a4 4 (fX4_points T a4 p1 a5 q2.2)).bind fun q6 => some (q6.1, q6.2)))
set_option maxRecDepth 100000 in
set_option maxHeartbeats 4000000 in
theorem wX8_score {a0 : Nat} {p1 : Int32} {u0 : hM} {z : Int32 × hM} {ls : Array Slot} (hΓ : h_Γ E B T p s m args meth c cX8_score 2 (some .int) RX8) (hf : fX8_score T a0 p1 u0 = some z) (hw : h_W E B T s.heap u0 s.heap []) (hl : lv_has ls 2 [(0, .ref (B + a0)), (1, .int p1)]) : W p l e (h_rm 5) s m args below meth c s.heap [] 0 0 (h_Qi below E B T args s z) (F0 m 0 ls []) := by
  obtain ⟨hx, hb, hr, hml, hts, hown, hlk, hX⟩ := id hΓ
  unfold fX8_score at hf
  refine lv_iload_n hx hb dX8_score_0 rfl (lv_at hl 1 rfl) ?_
  refine lv_iconst (v := 0) hx hb dX8_score_1 (by decide) ?_
  refine lv_iconst (v := 3) hx hb dX8_score_2 (by decide) ?_
  refine h_cSi (As := [.int p1, .int (0 : Int32), .int (3 : Int32)]) (rest := []) hf hx hb hml hts hown hX hw myX8_isWithin msX8_isWithin lkX8_91 (fun q hq => c_X8_isWithin l E B T p1 (0 : Int32) (3 : Int32) u0 hq) ⟨Nat.le_of_ble_eq_true rfl, Nat.le_of_ble_eq_true rfl⟩ ⟨Nat.le_refl _, Nat.le_refl _⟩ rfl hl.1 rfl (Nat.le_of_ble_eq_true rfl) dX8_score_3 (fun q1 H1 L1 hf hw => ?_)
  refine lv_if_ne (tgt := 12) hx hb dX8_score_6 (by decide) (fun hc => ?_) (fun hc => ?_)
  · have hf := ifn hc hf
    refine lv_aload_n hx hb dX8_score_12 rfl (lv_at hl 0 rfl) ?_
    refine h_cVi (As := []) (rest := []) hf hx hb hml hts hown hX hw myX8_hasSong miX8_hasSong lkX8_216 ⟨rfl, by decide⟩ (fun q hq => c_X8_hasSong l E B T a0 q1.2 hq) ⟨Nat.le_of_ble_eq_true rfl, Nat.le_of_ble_eq_true rfl⟩ ⟨Nat.le_refl _, Nat.le_refl _⟩ rfl hl.1 rfl (Nat.le_of_ble_eq_true rfl) dX8_score_13 (fun q2 H2 L2 hf hw => ?_)
    refine lv_if_ne (tgt := 22) hx hb dX8_score_16 (by decide) (fun hc => ?_) (fun hc => ?_)
    · have hf := ifn hc hf
      refine lv_aload_n hx hb dX8_score_22 rfl (lv_at hl 0 rfl) ?_
      refine h_getr hf hx hb hts hown hX hw flX8_47 rfl dX8_score_23 (fun a3 hf => ?_)
      refine h_getr hf hx hb hts hown hX hw flX8_145 rfl dX8_score_26 (fun a4 hf => ?_)
      refine lv_iload_n hx hb dX8_score_29 rfl (lv_at hl 1 rfl) ?_
      refine lv_aload_n hx hb dX8_score_30 rfl (lv_at hl 0 rfl) ?_
      refine h_getr hf hx hb hts hown hX hw flX8_19 rfl dX8_score_31 (fun a5 hf => ?_)
      refine h_cVi (As := [.int p1, .ref (B + a5)]) (rest := []) hf hx hb hml hts hown hX hw myX4_points miX4_points lkX8_212 ⟨rfl, by decide⟩ (fun q hq => c_X4_points l E B T a4 p1 a5 q2.2 hq) ⟨Nat.le_of_ble_eq_true rfl, Nat.le_of_ble_eq_true rfl⟩ ⟨Nat.le_refl _, Nat.le_refl _⟩ rfl hl.1 rfl (Nat.le_of_ble_eq_true rfl) dX8_score_34 (fun q6 H6 L6 hf hw => ?_)
      exact h_iret hf hx hb hr hlk hw dX8_score_37
    · have hf := ifp hc hf
      refine lv_ldc hx hb hown (hts _ kcX8_219) dX8_score_19 ?_
      exact h_iret hf hx hb hr hlk hw dX8_score_21
  · have hf := ifp hc hf
    refine lv_ldc hx hb hown (hts _ kcX8_95) dX8_score_9 ?_
    exact h_iret hf hx hb hr hlk hw dX8_score_11
theorem c_X8_score (l : Launch) (E : hE) (B : Nat) (T : hT) (a0 : Nat) (p1 : Int32) (u0 : hM) {z : Int32 × hM} (hf : fX8_score T a0 p1 u0 = some z) : h_Ct l E B T yX8_score cX8_score 2 (some .int) 5 [.ref (B + a0), .int p1] u0 z.2 (some (.int z.1)) := h_ofW (by decide) (Nat.le_of_ble_eq_true rfl) (fun p e s m below meth c ls hΓ hl hw => wX8_score hΓ hf hw hl)
def fX4_fullPoints (T : hT) (a0 : Nat) (p1 : Int32) (u0 : hM) : Option (Int32 × hM) := if p1 = 0 then ((gti T u0 a0 4 1).bind fun x2 => some ((x2 - (1 : Int32)), u0)) else (if p1 = (1 : Int32) then ((gti T u0 a0 4 1).bind fun x1 => some (x1, u0)) else (some ((1 : Int32), u0)))
set_option maxRecDepth 100000 in
set_option maxHeartbeats 4000000 in
theorem wX4_fullPoints {a0 : Nat} {p1 : Int32} {u0 : hM} {z : Int32 × hM} {ls : Array Slot} (hΓ : h_Γ E B T p s m args meth c cX4_fullPoints 2 (some .int) RX4) (hf : fX4_fullPoints T a0 p1 u0 = some z) (hw : h_W E B T s.heap u0 s.heap []) (hl : lv_has ls 2 [(0, .ref (B + a0)), (1, .int p1)]) : W p l e (h_rm 0) s m args below meth c s.heap [] 0 0 (h_Qi below E B T args s z) (F0 m 0 ls []) := by
  obtain ⟨hx, hb, hr, hml, hts, hown, hlk, hX⟩ := id hΓ
  unfold fX4_fullPoints at hf
  refine lv_iload_n hx hb dX4_fullPoints_0 rfl (lv_at hl 1 rfl) ?_
  refine lv_if_ne (tgt := 11) hx hb dX4_fullPoints_1 (by decide) (fun hc => ?_) (fun hc => ?_)
  · have hf := ifn hc hf
    refine lv_iload_n hx hb dX4_fullPoints_11 rfl (lv_at hl 1 rfl) ?_
    refine lv_iconst (v := 1) hx hb dX4_fullPoints_12 (by decide) ?_
    refine lv_icmp_ne (tgt := 23) hx hb dX4_fullPoints_13 (by decide) (fun hc => ?_) (fun hc => ?_)
    · have hf := ifn hc hf
      refine lv_iconst (v := 1) hx hb dX4_fullPoints_23 (by decide) ?_
      exact h_iret hf hx hb hr hlk hw dX4_fullPoints_24
    · have hf := ifp hc hf
      refine lv_aload_n hx hb dX4_fullPoints_16 rfl (lv_at hl 0 rfl) ?_
      refine h_geti hf hx hb hts hown hX hw flX4_15 rfl dX4_fullPoints_17 (fun x1 hf => ?_)
      refine lv_goto (tgt := 24) hx hb dX4_fullPoints_20 (by decide) ?_
      exact h_iret hf hx hb hr hlk hw dX4_fullPoints_24
  · have hf := ifp hc hf
    refine lv_aload_n hx hb dX4_fullPoints_4 rfl (lv_at hl 0 rfl) ?_
    refine h_geti hf hx hb hts hown hX hw flX4_15 rfl dX4_fullPoints_5 (fun x2 hf => ?_)
    refine lv_iconst (v := 1) hx hb dX4_fullPoints_8 (by decide) ?_
    refine lv_isub hx hb dX4_fullPoints_9 ?_
    exact h_iret hf hx hb hr hlk hw dX4_fullPoints_10
theorem c_X4_fullPoints (l : Launch) (E : hE) (B : Nat) (T : hT) (a0 : Nat) (p1 : Int32) (u0 : hM) {z : Int32 × hM} (hf : fX4_fullPoints T a0 p1 u0 = some z) : h_Ct l E B T yX4_fullPoints cX4_fullPoints 2 (some .int) 0 [.ref (B + a0), .int p1] u0 z.2 (some (.int z.1)) := h_ofW (by decide) (Nat.le_of_ble_eq_true rfl) (fun p e s m below meth c ls hΓ hl hw => wX4_fullPoints hΓ hf hw hl)
def fX4_wrongBy_L4 (T : hT) (c0 : Nat) (c1 : Nat) (ex : Int32 → hM → Option (Int32 × hM)) : Nat → Int32 → Int32 → hM → Option (Int32 × hM)
  | 0, _, _, _ => none
  | n + 1, v2, v3, u0 => if (3 : Int32) < v3 then (ex v2 u0) else ((vc T c0 4 (fX4_isHeard T c0 u0)).bind fun q1 => lt (fun (x2 : Int32) (u3 : hM) => lt (v3 + (1 : Int32)) fun x4 => fX4_wrongBy_L4 T c0 c1 ex n x2 x4 u3) fun J36 => lt (fun (u5 : hM) => lt ((v2 ||| ((1 : Int32) <<< (v3 &&& 31)))) fun x6 => J36 x6 u5) fun J30 => if q1.1 = 0 then (J30 q1.2) else ((vc T c0 4 (fX4_points T c0 v3 c1 q1.2)).bind fun q7 => (vc T c0 4 (fX4_fullPoints T c0 v3 q7.2)).bind fun q8 => if q7.1 = q8.1 then (J36 v2 q8.2) else (J30 q8.2)))
def fX4_wrongBy (T : hT) (a0 : Nat) (r1 : Nat) (u0 : hM) : Option (Int32 × hM) := fX4_wrongBy_L4 T a0 r1 (fun (x9 : Int32) (u10 : hM) => some (x9, u10)) 6000 (0 : Int32) (0 : Int32) u0
set_option maxRecDepth 100000 in
set_option maxHeartbeats 4000000 in
theorem wfX4_wrongBy_L4 {c0 : Nat} {c1 : Nat} {ex : Int32 → hM → Option (Int32 × hM)} {z : Int32 × hM} (hΓ : h_Γ E B T p s m args meth c cX4_wrongBy 4 (some .int) RX4) (hex : ∀ (y2 : Int32) (u9 : hM) (H9 : Heap) (L9 : List Loc) (ls : Array Slot), ex y2 u9 = some z → h_W E B T s.heap u9 H9 L9 → lv_has ls 4 [(2, .int y2)] → W p l e (h_rm 5) s m args below meth c H9 L9 0 0 (h_Qi below E B T args s z) (F0 m 42 ls [])) : ∀ (n : Nat) (v2 : Int32) (v3 : Int32) (u0 : hM) (H0 : Heap) (L0 : List Loc) (ls : Array Slot), fX4_wrongBy_L4 T c0 c1 ex n v2 v3 u0 = some z → h_W E B T s.heap u0 H0 L0 → lv_has ls 4 [(0, .ref (B + c0)), (1, .ref (B + c1)), (2, .int v2), (3, .int v3)] → W p l e (h_rm 5) s m args below meth c H0 L0 0 0 (h_Qi below E B T args s z) (F0 m 4 ls []) := by
  obtain ⟨hx, hb, hr, hml, hts, hown, hlk, hX⟩ := id hΓ
  intro n
  induction n with
  | zero =>
    intro v2 v3 u0 H0 L0 ls hf hw hl
    exact absurd (show (none : Option (Int32 × hM)) = some z from hf) (fun h => by cases h)
  | succ n ih =>
    intro v2 v3 u0 H0 L0 ls hf hw hl
    rw [fX4_wrongBy_L4] at hf
    refine lv_iload_n hx hb dX4_wrongBy_4 rfl (lv_at hl 3 rfl) ?_
    refine lv_iconst (v := 3) hx hb dX4_wrongBy_5 (by decide) ?_
    refine lv_icmp_gt (tgt := 42) hx hb dX4_wrongBy_6 (by decide) (fun hc => ?_) (fun hc => ?_)
    · have hf := ifp hc hf
      exact hex v2 u0 _ _ _ hf hw (lv_sub hl [2] rfl)
    · have hf := ifn hc hf
      refine lv_aload_n hx hb dX4_wrongBy_9 rfl (lv_at hl 0 rfl) ?_
      refine h_cVi (As := []) (rest := []) hf hx hb hml hts hown hX hw myX4_isHeard miX4_isHeard lkX4_41 ⟨rfl, by decide⟩ (fun q hq => c_X4_isHeard l E B T c0 u0 hq) ⟨Nat.le_of_ble_eq_true rfl, Nat.le_of_ble_eq_true rfl⟩ ⟨Nat.le_refl _, Nat.le_refl _⟩ rfl hl.1 rfl (Nat.le_of_ble_eq_true rfl) dX4_wrongBy_10 (fun q1 H1 L1 hf hw => ?_)
      obtain ⟨J36, eJ36, hf⟩ := h_lt hf
      have hJ36 : ∀ (x2 : Int32) (u3 : hM) (H3 : Heap) (L3 : List Loc) (ls : Array Slot), J36 x2 u3 = some z → h_W E B T s.heap u3 H3 L3 → lv_has ls 4 [(0, .ref (B + c0)), (1, .ref (B + c1)), (2, .int x2), (3, .int v3)] → W p l e (h_rm 5) s m args below meth c H3 L3 0 0 (h_Qi below E B T args s z) (F0 m 36 ls []) := by
        intro x2 u3 H3 L3 ls hf hw hl
        rw [eJ36] at hf
        refine h_iinc (k := 3) hf hx hb dX4_wrongBy_36 hl rfl (by decide) (by decide) (fun x4 ls hf hl => ?_)
        have hl : lv_has ls 4 [(3, .int x4), (0, .ref (B + c0)), (1, .ref (B + c1)), (2, .int x2)] := hl
        refine lv_goto (tgt := 4) hx hb dX4_wrongBy_39 (by decide) ?_
        exact ih x2 x4 u3 _ _ _ hf hw (lv_sub hl [1, 2, 3, 0] rfl)
      clear eJ36
      obtain ⟨J30, eJ30, hf⟩ := h_lt hf
      have hJ30 : ∀ (u5 : hM) (H5 : Heap) (L5 : List Loc) (ls : Array Slot), J30  u5 = some z → h_W E B T s.heap u5 H5 L5 → lv_has ls 4 [(0, .ref (B + c0)), (1, .ref (B + c1)), (2, .int v2), (3, .int v3)] → W p l e (h_rm 5) s m args below meth c H5 L5 0 0 (h_Qi below E B T args s z) (F0 m 30 ls []) := by
        intro  u5 H5 L5 ls hf hw hl
        rw [eJ30] at hf
        refine lv_iload_n hx hb dX4_wrongBy_30 rfl (lv_at hl 2 rfl) ?_
        refine lv_iconst (v := 1) hx hb dX4_wrongBy_31 (by decide) ?_
        refine lv_iload_n hx hb dX4_wrongBy_32 rfl (lv_at hl 3 rfl) ?_
        refine lv_ishl hx hb dX4_wrongBy_33 ?_
        refine lv_ior hx hb dX4_wrongBy_34 ?_
        refine h_nmi hf (fun x6 hf => ?_)
        refine lv_istore_n (lv' := [(2, .int x6), (0, .ref (B + c0)), (1, .ref (B + c1)), (3, .int v3)]) hx hb dX4_wrongBy_35 rfl hl (by decide) rfl (fun ls hl => ?_)
        exact hJ36 x6 u5 _ _ _ hf hw (lv_sub hl [1, 2, 0, 3] rfl)
      clear eJ30
      refine lv_if_eq (tgt := 30) hx hb dX4_wrongBy_13 (by decide) (fun hc => ?_) (fun hc => ?_)
      · have hf := ifp hc hf
        exact hJ30  q1.2 _ _ _ hf hw (lv_sub hl [0, 1, 2, 3] rfl)
      · have hf := ifn hc hf
        refine lv_aload_n hx hb dX4_wrongBy_16 rfl (lv_at hl 0 rfl) ?_
        refine lv_iload_n hx hb dX4_wrongBy_17 rfl (lv_at hl 3 rfl) ?_
        refine lv_aload_n hx hb dX4_wrongBy_18 rfl (lv_at hl 1 rfl) ?_
        refine h_cVi (As := [.int v3, .ref (B + c1)]) (rest := []) hf hx hb hml hts hown hX hw myX4_points miX4_points lkX4_63 ⟨rfl, by decide⟩ (fun q hq => c_X4_points l E B T c0 v3 c1 q1.2 hq) ⟨Nat.le_of_ble_eq_true rfl, Nat.le_of_ble_eq_true rfl⟩ ⟨Nat.le_refl _, Nat.le_refl _⟩ rfl hl.1 rfl (Nat.le_of_ble_eq_true rfl) dX4_wrongBy_19 (fun q7 H7 L7 hf hw => ?_)
        refine lv_aload_n hx hb dX4_wrongBy_22 rfl (lv_at hl 0 rfl) ?_
        refine lv_iload_n hx hb dX4_wrongBy_23 rfl (lv_at hl 3 rfl) ?_
        refine h_cVi (As := [.int v3]) (rest := [.int q7.1]) hf hx hb hml hts hown hX hw myX4_fullPoints miX4_fullPoints lkX4_66 ⟨rfl, by decide⟩ (fun q hq => c_X4_fullPoints l E B T c0 v3 q7.2 hq) ⟨Nat.le_of_ble_eq_true rfl, Nat.le_of_ble_eq_true rfl⟩ ⟨Nat.le_refl _, Nat.le_refl _⟩ rfl hl.1 rfl (Nat.le_of_ble_eq_true rfl) dX4_wrongBy_24 (fun q8 H8 L8 hf hw => ?_)
        refine lv_icmp_eq (tgt := 36) hx hb dX4_wrongBy_27 (by decide) (fun hc => ?_) (fun hc => ?_)
        · have hf := ifp hc hf
          exact hJ36 v2 q8.2 _ _ _ hf hw (lv_sub hl [0, 1, 2, 3] rfl)
        · have hf := ifn hc hf
          exact hJ30  q8.2 _ _ _ hf hw (lv_sub hl [0, 1, 2, 3] rfl)
set_option maxRecDepth 100000 in
set_option maxHeartbeats 4000000 in
theorem wX4_wrongBy {a0 : Nat} {r1 : Nat} {u0 : hM} {z : Int32 × hM} {ls : Array Slot} (hΓ : h_Γ E B T p s m args meth c cX4_wrongBy 4 (some .int) RX4) (hf : fX4_wrongBy T a0 r1 u0 = some z) (hw : h_W E B T s.heap u0 s.heap []) (hl : lv_has ls 4 [(0, .ref (B + a0)), (1, .ref (B + r1))]) : W p l e (h_rm 5) s m args below meth c s.heap [] 0 0 (h_Qi below E B T args s z) (F0 m 0 ls []) := by
  obtain ⟨hx, hb, hr, hml, hts, hown, hlk, hX⟩ := id hΓ
  unfold fX4_wrongBy at hf
  refine lv_iconst (v := 0) hx hb dX4_wrongBy_0 (by decide) ?_
  refine lv_istore_n (lv' := [(2, .int (0 : Int32)), (0, .ref (B + a0)), (1, .ref (B + r1))]) hx hb dX4_wrongBy_1 rfl hl (by decide) rfl (fun ls hl => ?_)
  refine lv_iconst (v := 0) hx hb dX4_wrongBy_2 (by decide) ?_
  refine lv_istore_n (lv' := [(3, .int (0 : Int32)), (2, .int (0 : Int32)), (0, .ref (B + a0)), (1, .ref (B + r1))]) hx hb dX4_wrongBy_3 rfl hl (by decide) rfl (fun ls hl => ?_)
  refine wfX4_wrongBy_L4 hΓ ?_ 6000 (0 : Int32) (0 : Int32) u0 _ _ _ hf hw (lv_sub hl [2, 3, 1, 0] rfl)
  intro x9 u10 H10 L10 ls hf hw hl
  refine lv_iload_n hx hb dX4_wrongBy_42 rfl (lv_at hl 0 rfl) ?_
  exact h_iret hf hx hb hr hlk hw dX4_wrongBy_43
theorem c_X4_wrongBy (l : Launch) (E : hE) (B : Nat) (T : hT) (a0 : Nat) (r1 : Nat) (u0 : hM) {z : Int32 × hM} (hf : fX4_wrongBy T a0 r1 u0 = some z) : h_Ct l E B T yX4_wrongBy cX4_wrongBy 4 (some .int) 5 [.ref (B + a0), .ref (B + r1)] u0 z.2 (some (.int z.1)) := h_ofW (by decide) (Nat.le_of_ble_eq_true rfl) (fun p e s m below meth c ls hΓ hl hw => wX4_wrongBy hΓ hf hw hl)
def fX8_calls (T : hT) (a0 : Nat) (u0 : hM) : Option (Int32 × hM) := (vc T a0 8 (fX8_hasSong T a0 u0)).bind fun q1 => if q1.1 = 0 then (some ((-1000000003 : Int32), q1.2)) else ((gtr T q1.2 a0 8 6).bind fun a2 => (gtr T q1.2 a2 5 0).bind fun a3 => (gtr T q1.2 a0 8 1).bind fun a4 => (vc T a3 4 (fX4_wrongBy T a3 a4 q1.2)).bind fun q5 => some (q5.1, q5.2))
set_option maxRecDepth 100000 in
set_option maxHeartbeats 4000000 in
theorem wX8_calls {a0 : Nat} {u0 : hM} {z : Int32 × hM} {ls : Array Slot} (hΓ : h_Γ E B T p s m args meth c cX8_calls 1 (some .int) RX8) (hf : fX8_calls T a0 u0 = some z) (hw : h_W E B T s.heap u0 s.heap []) (hl : lv_has ls 1 [(0, .ref (B + a0))]) : W p l e (h_rm 6) s m args below meth c s.heap [] 0 0 (h_Qi below E B T args s z) (F0 m 0 ls []) := by
  obtain ⟨hx, hb, hr, hml, hts, hown, hlk, hX⟩ := id hΓ
  unfold fX8_calls at hf
  refine lv_aload_n hx hb dX8_calls_0 rfl (lv_at hl 0 rfl) ?_
  refine h_cVi (As := []) (rest := []) hf hx hb hml hts hown hX hw myX8_hasSong miX8_hasSong lkX8_216 ⟨rfl, by decide⟩ (fun q hq => c_X8_hasSong l E B T a0 u0 hq) ⟨Nat.le_of_ble_eq_true rfl, Nat.le_of_ble_eq_true rfl⟩ ⟨Nat.le_refl _, Nat.le_refl _⟩ rfl hl.1 rfl (Nat.le_of_ble_eq_true rfl) dX8_calls_1 (fun q1 H1 L1 hf hw => ?_)
  refine lv_if_ne (tgt := 10) hx hb dX8_calls_4 (by decide) (fun hc => ?_) (fun hc => ?_)
  · have hf := ifn hc hf
    refine lv_aload_n hx hb dX8_calls_10 rfl (lv_at hl 0 rfl) ?_
    refine h_getr hf hx hb hts hown hX hw flX8_47 rfl dX8_calls_11 (fun a2 hf => ?_)
    refine h_getr hf hx hb hts hown hX hw flX8_145 rfl dX8_calls_14 (fun a3 hf => ?_)
    refine lv_aload_n hx hb dX8_calls_17 rfl (lv_at hl 0 rfl) ?_
    refine h_getr hf hx hb hts hown hX hw flX8_19 rfl dX8_calls_18 (fun a4 hf => ?_)
    refine h_cVi (As := [.ref (B + a4)]) (rest := []) hf hx hb hml hts hown hX hw myX4_wrongBy miX4_wrongBy lkX8_228 ⟨rfl, by decide⟩ (fun q hq => c_X4_wrongBy l E B T a3 a4 q1.2 hq) ⟨Nat.le_of_ble_eq_true rfl, Nat.le_of_ble_eq_true rfl⟩ ⟨Nat.le_refl _, Nat.le_refl _⟩ rfl hl.1 rfl (Nat.le_of_ble_eq_true rfl) dX8_calls_21 (fun q5 H5 L5 hf hw => ?_)
    exact h_iret hf hx hb hr hlk hw dX8_calls_24
  · have hf := ifp hc hf
    refine lv_ldc hx hb hown (hts _ kcX8_219) dX8_calls_7 ?_
    exact h_iret hf hx hb hr hlk hw dX8_calls_9
theorem c_X8_calls (l : Launch) (E : hE) (B : Nat) (T : hT) (a0 : Nat) (u0 : hM) {z : Int32 × hM} (hf : fX8_calls T a0 u0 = some z) : h_Ct l E B T yX8_calls cX8_calls 1 (some .int) 6 [.ref (B + a0)] u0 z.2 (some (.int z.1)) := h_ofW (by decide) (Nat.le_of_ble_eq_true rfl) (fun p e s m below meth c ls hΓ hl hw => wX8_calls hΓ hf hw hl)
def fX1_countNear_L4 (T : hT) (c0 : Nat) (c1 : Int32) (ex : Int32 → hM → Option (Int32 × hM)) : Nat → Int32 → Int32 → hM → Option (Int32 × hM)
  | 0, _, _, _ => none
  | n + 1, v2, v3, u0 => (gti T u0 c0 1 2).bind fun x1 => if x1 ≤ v3 then (ex v2 u0) else ((gtr T u0 c0 1 0).bind fun a2 => (ald 11 T u0 a2 v3).bind fun x3 => (fX8_isNear T (x3 - c1) u0).bind fun q4 => lt (fun (x5 : Int32) (u6 : hM) => lt (v3 + (1 : Int32)) fun x7 => fX1_countNear_L4 T c0 c1 ex n x5 x7 u6) fun J29 => if q4.1 = 0 then (J29 v2 q4.2) else (lt (v2 + (1 : Int32)) fun x8 => J29 x8 q4.2))
def fX1_countNear (T : hT) (a0 : Nat) (p1 : Int32) (u0 : hM) : Option (Int32 × hM) := fX1_countNear_L4 T a0 p1 (fun (x9 : Int32) (u10 : hM) => some (x9, u10)) 6000 (0 : Int32) (0 : Int32) u0
set_option maxRecDepth 100000 in
set_option maxHeartbeats 4000000 in
theorem wfX1_countNear_L4 {c0 : Nat} {c1 : Int32} {ex : Int32 → hM → Option (Int32 × hM)} {z : Int32 × hM} (hΓ : h_Γ E B T p s m args meth c cX1_countNear 4 (some .int) RX1) (hex : ∀ (y2 : Int32) (u9 : hM) (H9 : Heap) (L9 : List Loc) (ls : Array Slot), ex y2 u9 = some z → h_W E B T s.heap u9 H9 L9 → lv_has ls 4 [(2, .int y2)] → W p l e (h_rm 2) s m args below meth c H9 L9 0 0 (h_Qi below E B T args s z) (F0 m 35 ls [])) : ∀ (n : Nat) (v2 : Int32) (v3 : Int32) (u0 : hM) (H0 : Heap) (L0 : List Loc) (ls : Array Slot), fX1_countNear_L4 T c0 c1 ex n v2 v3 u0 = some z → h_W E B T s.heap u0 H0 L0 → lv_has ls 4 [(0, .ref (B + c0)), (1, .int c1), (2, .int v2), (3, .int v3)] → W p l e (h_rm 2) s m args below meth c H0 L0 0 0 (h_Qi below E B T args s z) (F0 m 4 ls []) := by
  obtain ⟨hx, hb, hr, hml, hts, hown, hlk, hX⟩ := id hΓ
  intro n
  induction n with
  | zero =>
    intro v2 v3 u0 H0 L0 ls hf hw hl
    exact absurd (show (none : Option (Int32 × hM)) = some z from hf) (fun h => by cases h)
  | succ n ih =>
    intro v2 v3 u0 H0 L0 ls hf hw hl
    rw [fX1_countNear_L4] at hf
    refine lv_iload_n hx hb dX1_countNear_4 rfl (lv_at hl 3 rfl) ?_
    refine lv_aload_n hx hb dX1_countNear_5 rfl (lv_at hl 0 rfl) ?_
    refine h_geti hf hx hb hts hown hX hw flX1_18 rfl dX1_countNear_6 (fun x1 hf => ?_)
    refine lv_icmp_ge (tgt := 35) hx hb dX1_countNear_9 (by decide) (fun hc => ?_) (fun hc => ?_)
    · have hf := ifp hc hf
      exact hex v2 u0 _ _ _ hf hw (lv_sub hl [2] rfl)
    · have hf := ifn hc hf
      refine lv_aload_n hx hb dX1_countNear_12 rfl (lv_at hl 0 rfl) ?_
      refine h_getr hf hx hb hts hown hX hw flX1_9 rfl dX1_countNear_13 (fun a2 hf => ?_)
      refine lv_iload_n hx hb dX1_countNear_16 rfl (lv_at hl 3 rfl) ?_
      refine h_iald hf hx hb hX hw dX1_countNear_17 (fun x3 hf => ?_)
      refine lv_iload_n hx hb dX1_countNear_18 rfl (lv_at hl 1 rfl) ?_
      refine lv_isub hx hb dX1_countNear_19 ?_
      refine h_cNi (As := [.int (x3 - c1)]) (rest := []) hf hx hb hml hts hown hX hw myX8_isNear msX8_isNear nkX1_53 (fun q hq => c_X8_isNear l E B T (x3 - c1) u0 hq) ⟨Nat.le_of_ble_eq_true rfl, Nat.le_of_ble_eq_true rfl⟩ ⟨Nat.le_refl _, Nat.le_refl _⟩ rfl hl.1 rfl (Nat.le_of_ble_eq_true rfl) dX1_countNear_20 (fun q4 H4 L4 hf hw => ?_)
      obtain ⟨J29, eJ29, hf⟩ := h_lt hf
      have hJ29 : ∀ (x5 : Int32) (u6 : hM) (H6 : Heap) (L6 : List Loc) (ls : Array Slot), J29 x5 u6 = some z → h_W E B T s.heap u6 H6 L6 → lv_has ls 4 [(0, .ref (B + c0)), (1, .int c1), (2, .int x5), (3, .int v3)] → W p l e (h_rm 2) s m args below meth c H6 L6 0 0 (h_Qi below E B T args s z) (F0 m 29 ls []) := by
        intro x5 u6 H6 L6 ls hf hw hl
        rw [eJ29] at hf
        refine h_iinc (k := 3) hf hx hb dX1_countNear_29 hl rfl (by decide) (by decide) (fun x7 ls hf hl => ?_)
        have hl : lv_has ls 4 [(3, .int x7), (0, .ref (B + c0)), (1, .int c1), (2, .int x5)] := hl
        refine lv_goto (tgt := 4) hx hb dX1_countNear_32 (by decide) ?_
        exact ih x5 x7 u6 _ _ _ hf hw (lv_sub hl [1, 2, 3, 0] rfl)
      clear eJ29
      refine lv_if_eq (tgt := 29) hx hb dX1_countNear_23 (by decide) (fun hc => ?_) (fun hc => ?_)
      · have hf := ifp hc hf
        exact hJ29 v2 q4.2 _ _ _ hf hw (lv_sub hl [0, 1, 2, 3] rfl)
      · have hf := ifn hc hf
        refine h_iinc (k := 2) hf hx hb dX1_countNear_26 hl rfl (by decide) (by decide) (fun x8 ls hf hl => ?_)
        have hl : lv_has ls 4 [(2, .int x8), (0, .ref (B + c0)), (1, .int c1), (3, .int v3)] := hl
        exact hJ29 x8 q4.2 _ _ _ hf hw (lv_sub hl [1, 2, 0, 3] rfl)
set_option maxRecDepth 100000 in
set_option maxHeartbeats 4000000 in
theorem wX1_countNear {a0 : Nat} {p1 : Int32} {u0 : hM} {z : Int32 × hM} {ls : Array Slot} (hΓ : h_Γ E B T p s m args meth c cX1_countNear 4 (some .int) RX1) (hf : fX1_countNear T a0 p1 u0 = some z) (hw : h_W E B T s.heap u0 s.heap []) (hl : lv_has ls 4 [(0, .ref (B + a0)), (1, .int p1)]) : W p l e (h_rm 2) s m args below meth c s.heap [] 0 0 (h_Qi below E B T args s z) (F0 m 0 ls []) := by
  obtain ⟨hx, hb, hr, hml, hts, hown, hlk, hX⟩ := id hΓ
  unfold fX1_countNear at hf
  refine lv_iconst (v := 0) hx hb dX1_countNear_0 (by decide) ?_
  refine lv_istore_n (lv' := [(2, .int (0 : Int32)), (0, .ref (B + a0)), (1, .int p1)]) hx hb dX1_countNear_1 rfl hl (by decide) rfl (fun ls hl => ?_)
  refine lv_iconst (v := 0) hx hb dX1_countNear_2 (by decide) ?_
  refine lv_istore_n (lv' := [(3, .int (0 : Int32)), (2, .int (0 : Int32)), (0, .ref (B + a0)), (1, .int p1)]) hx hb dX1_countNear_3 rfl hl (by decide) rfl (fun ls hl => ?_)
  refine wfX1_countNear_L4 hΓ ?_ 6000 (0 : Int32) (0 : Int32) u0 _ _ _ hf hw (lv_sub hl [2, 3, 1, 0] rfl)
  intro x9 u10 H10 L10 ls hf hw hl
  refine lv_iload_n hx hb dX1_countNear_35 rfl (lv_at hl 0 rfl) ?_
  exact h_iret hf hx hb hr hlk hw dX1_countNear_36
theorem c_X1_countNear (l : Launch) (E : hE) (B : Nat) (T : hT) (a0 : Nat) (p1 : Int32) (u0 : hM) {z : Int32 × hM} (hf : fX1_countNear T a0 p1 u0 = some z) : h_Ct l E B T yX1_countNear cX1_countNear 4 (some .int) 2 [.ref (B + a0), .int p1] u0 z.2 (some (.int z.1)) := h_ofW (by decide) (Nat.le_of_ble_eq_true rfl) (fun p e s m below meth c ls hΓ hl hw => wX1_countNear hΓ hf hw hl)
def fX8_fooled_L19 (T : hT) (c0 : Nat) (ex : Int32 → Int32 → hM → Option (Int32 × hM)) : Nat → Int32 → Int32 → Int32 → hM → Option (Int32 × hM)
  | 0, _, _, _, _ => none
  | n + 1, v2, v3, v4, u0 => if (3600 : Int32) < v4 then (ex v2 v3 u0) else ((gtr T u0 c0 8 1).bind fun a2 => (vc T a2 1 (fX1_countNear T a2 v4 u0)).bind fun q3 => lt (fun (x4 : Int32) (x5 : Int32) (u6 : hM) => lt (v4 + (50 : Int32)) fun x7 => fX8_fooled_L19 T c0 ex n x4 x5 x7 u6) fun J50 => if q3.1 ≤ v3 then (J50 v2 v3 q3.2) else (J50 v4 q3.1 q3.2))
def fX8_fooled (T : hT) (a0 : Nat) (p1 : Int32) (u0 : hM) : Option (Int32 × hM) := (fX8_isWithin T p1 (0 : Int32) (1 : Int32) u0).bind fun q1 => if q1.1 = 0 then (some ((-1000000002 : Int32), q1.2)) else (fX8_fooled_L19 T a0 (fun (x8 : Int32) (x9 : Int32) (u10 : hM) => if p1 = 0 then (some (x8, u10)) else (some (x9, u10))) 6000 (-1 : Int32) (0 : Int32) (0 : Int32) q1.2)
set_option maxRecDepth 100000 in
set_option maxHeartbeats 4000000 in
theorem wfX8_fooled_L19 {c0 : Nat} {c1 : Int32} {ex : Int32 → Int32 → hM → Option (Int32 × hM)} {z : Int32 × hM} (hΓ : h_Γ E B T p s m args meth c cX8_fooled 6 (some .int) RX8) (hex : ∀ (y2 : Int32) (y3 : Int32) (u9 : hM) (H9 : Heap) (L9 : List Loc) (ls : Array Slot), ex y2 y3 u9 = some z → h_W E B T s.heap u9 H9 L9 → lv_has ls 6 [(1, .int c1), (2, .int y2), (3, .int y3)] → W p l e (h_rm 3) s m args below meth c H9 L9 0 0 (h_Qi below E B T args s z) (F0 m 56 ls [])) : ∀ (n : Nat) (v2 : Int32) (v3 : Int32) (v4 : Int32) (u0 : hM) (H0 : Heap) (L0 : List Loc) (ls : Array Slot), fX8_fooled_L19 T c0 ex n v2 v3 v4 u0 = some z → h_W E B T s.heap u0 H0 L0 → lv_has ls 6 [(0, .ref (B + c0)), (1, .int c1), (2, .int v2), (3, .int v3), (4, .int v4)] → W p l e (h_rm 3) s m args below meth c H0 L0 0 0 (h_Qi below E B T args s z) (F0 m 19 ls []) := by
  obtain ⟨hx, hb, hr, hml, hts, hown, hlk, hX⟩ := id hΓ
  intro n
  induction n with
  | zero =>
    intro v2 v3 v4 u0 H0 L0 ls hf hw hl
    exact absurd (show (none : Option (Int32 × hM)) = some z from hf) (fun h => by cases h)
  | succ n ih =>
    intro v2 v3 v4 u0 H0 L0 ls hf hw hl
    rw [fX8_fooled_L19] at hf
    refine lv_iload hx hb dX8_fooled_19 (lv_at hl 4 rfl) ?_
    refine lv_sipush (v := 3600) hx hb dX8_fooled_21 (by decide) ?_
    refine lv_icmp_gt (tgt := 56) hx hb dX8_fooled_24 (by decide) (fun hc => ?_) (fun hc => ?_)
    · have hf := ifp hc hf
      exact hex v2 v3 u0 _ _ _ hf hw (lv_sub hl [1, 2, 3] rfl)
    · have hf := ifn hc hf
      refine lv_aload_n hx hb dX8_fooled_27 rfl (lv_at hl 0 rfl) ?_
      refine h_getr hf hx hb hts hown hX hw flX8_19 rfl dX8_fooled_28 (fun a2 hf => ?_)
      refine lv_iload hx hb dX8_fooled_31 (lv_at hl 4 rfl) ?_
      refine h_cVi (As := [.int v4]) (rest := []) hf hx hb hml hts hown hX hw myX1_countNear miX1_countNear lkX8_231 ⟨rfl, by decide⟩ (fun q hq => c_X1_countNear l E B T a2 v4 u0 hq) ⟨Nat.le_of_ble_eq_true rfl, Nat.le_of_ble_eq_true rfl⟩ ⟨Nat.le_refl _, Nat.le_refl _⟩ rfl hl.1 rfl (Nat.le_of_ble_eq_true rfl) dX8_fooled_33 (fun q3 H3 L3 hf hw => ?_)
      refine lv_istore (lv' := [(5, .int q3.1), (0, .ref (B + c0)), (1, .int c1), (2, .int v2), (3, .int v3), (4, .int v4)]) hx hb dX8_fooled_36 hl (by decide) rfl (fun ls hl => ?_)
      refine lv_iload hx hb dX8_fooled_38 (lv_at hl 0 rfl) ?_
      refine lv_iload_n hx hb dX8_fooled_40 rfl (lv_at hl 4 rfl) ?_
      obtain ⟨J50, eJ50, hf⟩ := h_lt hf
      have hJ50 : ∀ (x4 : Int32) (x5 : Int32) (u6 : hM) (H6 : Heap) (L6 : List Loc) (ls : Array Slot), J50 x4 x5 u6 = some z → h_W E B T s.heap u6 H6 L6 → lv_has ls 6 [(0, .ref (B + c0)), (1, .int c1), (2, .int x4), (3, .int x5), (4, .int v4)] → W p l e (h_rm 3) s m args below meth c H6 L6 0 0 (h_Qi below E B T args s z) (F0 m 50 ls []) := by
        intro x4 x5 u6 H6 L6 ls hf hw hl
        rw [eJ50] at hf
        refine h_iinc (k := 4) hf hx hb dX8_fooled_50 hl rfl (by decide) (by decide) (fun x7 ls hf hl => ?_)
        have hl : lv_has ls 6 [(4, .int x7), (0, .ref (B + c0)), (1, .int c1), (2, .int x4), (3, .int x5)] := hl
        refine lv_goto (tgt := 19) hx hb dX8_fooled_53 (by decide) ?_
        exact ih x4 x5 x7 u6 _ _ _ hf hw (lv_sub hl [1, 2, 3, 4, 0] rfl)
      clear eJ50
      refine lv_icmp_le (tgt := 50) hx hb dX8_fooled_41 (by decide) (fun hc => ?_) (fun hc => ?_)
      · have hf := ifp hc hf
        exact hJ50 v2 v3 q3.2 _ _ _ hf hw (lv_sub hl [1, 2, 3, 4, 5] rfl)
      · have hf := ifn hc hf
        refine lv_iload hx hb dX8_fooled_44 (lv_at hl 0 rfl) ?_
        refine lv_istore_n (lv' := [(3, .int q3.1), (5, .int q3.1), (0, .ref (B + c0)), (1, .int c1), (2, .int v2), (4, .int v4)]) hx hb dX8_fooled_46 rfl hl (by decide) rfl (fun ls hl => ?_)
        refine lv_iload hx hb dX8_fooled_47 (lv_at hl 5 rfl) ?_
        refine lv_istore_n (lv' := [(2, .int v4), (3, .int q3.1), (5, .int q3.1), (0, .ref (B + c0)), (1, .int c1), (4, .int v4)]) hx hb dX8_fooled_49 rfl hl (by decide) rfl (fun ls hl => ?_)
        exact hJ50 v4 q3.1 q3.2 _ _ _ hf hw (lv_sub hl [3, 4, 0, 1, 5] rfl)
set_option maxRecDepth 100000 in
set_option maxHeartbeats 4000000 in
theorem wX8_fooled {a0 : Nat} {p1 : Int32} {u0 : hM} {z : Int32 × hM} {ls : Array Slot} (hΓ : h_Γ E B T p s m args meth c cX8_fooled 6 (some .int) RX8) (hf : fX8_fooled T a0 p1 u0 = some z) (hw : h_W E B T s.heap u0 s.heap []) (hl : lv_has ls 6 [(0, .ref (B + a0)), (1, .int p1)]) : W p l e (h_rm 3) s m args below meth c s.heap [] 0 0 (h_Qi below E B T args s z) (F0 m 0 ls []) := by
  obtain ⟨hx, hb, hr, hml, hts, hown, hlk, hX⟩ := id hΓ
  unfold fX8_fooled at hf
  refine lv_iload_n hx hb dX8_fooled_0 rfl (lv_at hl 1 rfl) ?_
  refine lv_iconst (v := 0) hx hb dX8_fooled_1 (by decide) ?_
  refine lv_iconst (v := 1) hx hb dX8_fooled_2 (by decide) ?_
  refine h_cSi (As := [.int p1, .int (0 : Int32), .int (1 : Int32)]) (rest := []) hf hx hb hml hts hown hX hw myX8_isWithin msX8_isWithin lkX8_91 (fun q hq => c_X8_isWithin l E B T p1 (0 : Int32) (1 : Int32) u0 hq) ⟨Nat.le_of_ble_eq_true rfl, Nat.le_of_ble_eq_true rfl⟩ ⟨Nat.le_refl _, Nat.le_refl _⟩ rfl hl.1 rfl (Nat.le_of_ble_eq_true rfl) dX8_fooled_3 (fun q1 H1 L1 hf hw => ?_)
  refine lv_if_ne (tgt := 12) hx hb dX8_fooled_6 (by decide) (fun hc => ?_) (fun hc => ?_)
  · have hf := ifn hc hf
    refine lv_iconst (v := -1) hx hb dX8_fooled_12 (by decide) ?_
    refine lv_istore_n (lv' := [(2, .int (-1 : Int32)), (0, .ref (B + a0)), (1, .int p1)]) hx hb dX8_fooled_13 rfl hl (by decide) rfl (fun ls hl => ?_)
    refine lv_iconst (v := 0) hx hb dX8_fooled_14 (by decide) ?_
    refine lv_istore_n (lv' := [(3, .int (0 : Int32)), (2, .int (-1 : Int32)), (0, .ref (B + a0)), (1, .int p1)]) hx hb dX8_fooled_15 rfl hl (by decide) rfl (fun ls hl => ?_)
    refine lv_iconst (v := 0) hx hb dX8_fooled_16 (by decide) ?_
    refine lv_istore (lv' := [(4, .int (0 : Int32)), (3, .int (0 : Int32)), (2, .int (-1 : Int32)), (0, .ref (B + a0)), (1, .int p1)]) hx hb dX8_fooled_17 hl (by decide) rfl (fun ls hl => ?_)
    refine wfX8_fooled_L19 hΓ ?_ 6000 (-1 : Int32) (0 : Int32) (0 : Int32) q1.2 _ _ _ hf hw (lv_sub hl [3, 4, 2, 1, 0] rfl)
    intro x8 x9 u10 H10 L10 ls hf hw hl
    refine lv_iload_n hx hb dX8_fooled_56 rfl (lv_at hl 0 rfl) ?_
    refine lv_if_ne (tgt := 64) hx hb dX8_fooled_57 (by decide) (fun hc => ?_) (fun hc => ?_)
    · have hf := ifn hc hf
      refine lv_iload_n hx hb dX8_fooled_64 rfl (lv_at hl 2 rfl) ?_
      exact h_iret hf hx hb hr hlk hw dX8_fooled_65
    · have hf := ifp hc hf
      refine lv_iload_n hx hb dX8_fooled_60 rfl (lv_at hl 1 rfl) ?_
      refine lv_goto (tgt := 65) hx hb dX8_fooled_61 (by decide) ?_
      exact h_iret hf hx hb hr hlk hw dX8_fooled_65
  · have hf := ifp hc hf
    refine lv_ldc hx hb hown (hts _ kcX8_95) dX8_fooled_9 ?_
    exact h_iret hf hx hb hr hlk hw dX8_fooled_11
theorem c_X8_fooled (l : Launch) (E : hE) (B : Nat) (T : hT) (a0 : Nat) (p1 : Int32) (u0 : hM) {z : Int32 × hM} (hf : fX8_fooled T a0 p1 u0 = some z) : h_Ct l E B T yX8_fooled cX8_fooled 6 (some .int) 3 [.ref (B + a0), .int p1] u0 z.2 (some (.int z.1)) := h_ofW (by decide) (Nat.le_of_ble_eq_true rfl) (fun p e s m below meth c ls hΓ hl hw => wX8_fooled hΓ hf hw hl)
def fX8_isType (T : hT) (p0 : Int32) (u0 : hM) : Option (Int32 × hM) := (fX8_isWithin T p0 (0 : Int32) (15 : Int32) u0).bind fun q1 => rtz q1.1 q1.2
set_option maxRecDepth 100000 in
set_option maxHeartbeats 4000000 in
theorem wX8_isType {p0 : Int32} {u0 : hM} {z : Int32 × hM} {ls : Array Slot} (hΓ : h_Γ E B T p s m args meth c cX8_isType 1 (some .boolean) RX8) (hf : fX8_isType T p0 u0 = some z) (hw : h_W E B T s.heap u0 s.heap []) (hl : lv_has ls 1 [(0, .int p0)]) : W p l e (h_rm 1) s m args below meth c s.heap [] 0 0 (h_Qi below E B T args s z) (F0 m 0 ls []) := by
  obtain ⟨hx, hb, hr, hml, hts, hown, hlk, hX⟩ := id hΓ
  unfold fX8_isType at hf
  refine lv_iload_n hx hb dX8_isType_0 rfl (lv_at hl 0 rfl) ?_
  refine lv_iconst (v := 0) hx hb dX8_isType_1 (by decide) ?_
  refine lv_bipush (v := 15) hx hb dX8_isType_2 (by decide) ?_
  refine h_cSi (As := [.int p0, .int (0 : Int32), .int (15 : Int32)]) (rest := []) hf hx hb hml hts hown hX hw myX8_isWithin msX8_isWithin lkX8_91 (fun q hq => c_X8_isWithin l E B T p0 (0 : Int32) (15 : Int32) u0 hq) ⟨Nat.le_of_ble_eq_true rfl, Nat.le_of_ble_eq_true rfl⟩ ⟨Nat.le_refl _, Nat.le_refl _⟩ rfl hl.1 rfl (Nat.le_of_ble_eq_true rfl) dX8_isType_4 (fun q1 H1 L1 hf hw => ?_)
  exact h_zret hf hx hb hr hlk hw dX8_isType_7
theorem c_X8_isType (l : Launch) (E : hE) (B : Nat) (T : hT) (p0 : Int32) (u0 : hM) {z : Int32 × hM} (hf : fX8_isType T p0 u0 = some z) : h_Ct l E B T yX8_isType cX8_isType 1 (some .boolean) 1 [.int p0] u0 z.2 (some (.int z.1)) := h_ofW (by decide) (Nat.le_of_ble_eq_true rfl) (fun p e s m below meth c ls hΓ hl hw => wX8_isType hΓ hf hw hl)
def fX8_weigh (T : hT) (a0 : Nat) (p1 : Int32) (p2 : Int32) (u0 : hM) : Option (Int32 × hM) := (fX8_isType T p1 u0).bind fun q1 => if q1.1 = 0 then (some ((-1000000001 : Int32), q1.2)) else ((fX8_isWithin T p2 (0 : Int32) (99 : Int32) q1.2).bind fun q2 => if q2.1 = 0 then (some ((-1000000002 : Int32), q2.2)) else ((gtr T q2.2 a0 8 6).bind fun a3 => (gtr T q2.2 a3 5 1).bind fun a4 => (ald 11 T q2.2 a4 p1).bind fun x5 => (gtr T q2.2 a0 8 6).bind fun a6 => (gtr T q2.2 a6 5 1).bind fun a7 => (asti T q2.2 a7 p1 p2).bind fun u8 => some (x5, u8)))
set_option maxRecDepth 100000 in
set_option maxHeartbeats 4000000 in
theorem wX8_weigh {a0 : Nat} {p1 : Int32} {p2 : Int32} {u0 : hM} {z : Int32 × hM} {ls : Array Slot} (hΓ : h_Γ E B T p s m args meth c cX8_weigh 4 (some .int) RX8) (hf : fX8_weigh T a0 p1 p2 u0 = some z) (hw : h_W E B T s.heap u0 s.heap []) (hl : lv_has ls 4 [(0, .ref (B + a0)), (1, .int p1), (2, .int p2)]) : W p l e (h_rm 2) s m args below meth c s.heap [] 0 0 (h_Qi below E B T args s z) (F0 m 0 ls []) := by
  obtain ⟨hx, hb, hr, hml, hts, hown, hlk, hX⟩ := id hΓ
  unfold fX8_weigh at hf
  refine lv_iload_n hx hb dX8_weigh_0 rfl (lv_at hl 1 rfl) ?_
  refine h_cSi (As := [.int p1]) (rest := []) hf hx hb hml hts hown hX hw myX8_isType msX8_isType lkX8_234 (fun q hq => c_X8_isType l E B T p1 u0 hq) ⟨Nat.le_of_ble_eq_true rfl, Nat.le_of_ble_eq_true rfl⟩ ⟨Nat.le_refl _, Nat.le_refl _⟩ rfl hl.1 rfl (Nat.le_of_ble_eq_true rfl) dX8_weigh_1 (fun q1 H1 L1 hf hw => ?_)
  refine lv_if_ne (tgt := 10) hx hb dX8_weigh_4 (by decide) (fun hc => ?_) (fun hc => ?_)
  · have hf := ifn hc hf
    refine lv_iload_n hx hb dX8_weigh_10 rfl (lv_at hl 2 rfl) ?_
    refine lv_iconst (v := 0) hx hb dX8_weigh_11 (by decide) ?_
    refine lv_bipush (v := 99) hx hb dX8_weigh_12 (by decide) ?_
    refine h_cSi (As := [.int p2, .int (0 : Int32), .int (99 : Int32)]) (rest := []) hf hx hb hml hts hown hX hw myX8_isWithin msX8_isWithin lkX8_91 (fun q hq => c_X8_isWithin l E B T p2 (0 : Int32) (99 : Int32) q1.2 hq) ⟨Nat.le_of_ble_eq_true rfl, Nat.le_of_ble_eq_true rfl⟩ ⟨Nat.le_refl _, Nat.le_refl _⟩ rfl hl.1 rfl (Nat.le_of_ble_eq_true rfl) dX8_weigh_14 (fun q2 H2 L2 hf hw => ?_)
    refine lv_if_ne (tgt := 23) hx hb dX8_weigh_17 (by decide) (fun hc => ?_) (fun hc => ?_)
    · have hf := ifn hc hf
      refine lv_aload_n hx hb dX8_weigh_23 rfl (lv_at hl 0 rfl) ?_
      refine h_getr hf hx hb hts hown hX hw flX8_47 rfl dX8_weigh_24 (fun a3 hf => ?_)
      refine h_getr hf hx hb hts hown hX hw flX8_237 rfl dX8_weigh_27 (fun a4 hf => ?_)
      refine lv_iload_n hx hb dX8_weigh_30 rfl (lv_at hl 1 rfl) ?_
      refine h_iald hf hx hb hX hw dX8_weigh_31 (fun x5 hf => ?_)
      refine lv_istore_n (lv' := [(3, .int x5), (0, .ref (B + a0)), (1, .int p1), (2, .int p2)]) hx hb dX8_weigh_32 rfl hl (by decide) rfl (fun ls hl => ?_)
      refine lv_aload_n hx hb dX8_weigh_33 rfl (lv_at hl 1 rfl) ?_
      refine h_getr hf hx hb hts hown hX hw flX8_47 rfl dX8_weigh_34 (fun a6 hf => ?_)
      refine h_getr hf hx hb hts hown hX hw flX8_237 rfl dX8_weigh_37 (fun a7 hf => ?_)
      refine lv_iload_n hx hb dX8_weigh_40 rfl (lv_at hl 2 rfl) ?_
      refine lv_iload_n hx hb dX8_weigh_41 rfl (lv_at hl 3 rfl) ?_
      refine h_iast hf hx hb hX hw dX8_weigh_42 (fun u8 H8 L8 hf hw => ?_)
      refine lv_iload_n hx hb dX8_weigh_43 rfl (lv_at hl 0 rfl) ?_
      exact h_iret hf hx hb hr hlk hw dX8_weigh_44
    · have hf := ifp hc hf
      refine lv_ldc hx hb hown (hts _ kcX8_95) dX8_weigh_20 ?_
      exact h_iret hf hx hb hr hlk hw dX8_weigh_22
  · have hf := ifp hc hf
    refine lv_ldc hx hb hown (hts _ kcX8_158) dX8_weigh_7 ?_
    exact h_iret hf hx hb hr hlk hw dX8_weigh_9
theorem c_X8_weigh (l : Launch) (E : hE) (B : Nat) (T : hT) (a0 : Nat) (p1 : Int32) (p2 : Int32) (u0 : hM) {z : Int32 × hM} (hf : fX8_weigh T a0 p1 p2 u0 = some z) : h_Ct l E B T yX8_weigh cX8_weigh 4 (some .int) 2 [.ref (B + a0), .int p1, .int p2] u0 z.2 (some (.int z.1)) := h_ofW (by decide) (Nat.le_of_ble_eq_true rfl) (fun p e s m below meth c ls hΓ hl hw => wX8_weigh hΓ hf hw hl)
def fX5_isDone (T : hT) (a0 : Nat) (p1 : Int32) (u0 : hM) : Option (Int32 × hM) := (gti T u0 a0 5 4).bind fun x1 => if ((x1 >>> (p1 &&& 31)) &&& (1 : Int32)) = (1 : Int32) then (rtz (1 : Int32) u0) else (rtz (0 : Int32) u0)
set_option maxRecDepth 100000 in
set_option maxHeartbeats 4000000 in
theorem wX5_isDone {a0 : Nat} {p1 : Int32} {u0 : hM} {z : Int32 × hM} {ls : Array Slot} (hΓ : h_Γ E B T p s m args meth c cX5_isDone 2 (some .boolean) RX5) (hf : fX5_isDone T a0 p1 u0 = some z) (hw : h_W E B T s.heap u0 s.heap []) (hl : lv_has ls 2 [(0, .ref (B + a0)), (1, .int p1)]) : W p l e (h_rm 0) s m args below meth c s.heap [] 0 0 (h_Qi below E B T args s z) (F0 m 0 ls []) := by
  obtain ⟨hx, hb, hr, hml, hts, hown, hlk, hX⟩ := id hΓ
  unfold fX5_isDone at hf
  refine lv_aload_n hx hb dX5_isDone_0 rfl (lv_at hl 0 rfl) ?_
  refine h_geti hf hx hb hts hown hX hw flX5_34 rfl dX5_isDone_1 (fun x1 hf => ?_)
  refine lv_iload_n hx hb dX5_isDone_4 rfl (lv_at hl 1 rfl) ?_
  refine lv_ishr hx hb dX5_isDone_5 ?_
  refine lv_iconst (v := 1) hx hb dX5_isDone_6 (by decide) ?_
  refine lv_iand hx hb dX5_isDone_7 ?_
  refine lv_iconst (v := 1) hx hb dX5_isDone_8 (by decide) ?_
  refine lv_icmp_ne (tgt := 16) hx hb dX5_isDone_9 (by decide) (fun hc => ?_) (fun hc => ?_)
  · have hf := ifn hc hf
    refine lv_iconst (v := 0) hx hb dX5_isDone_16 (by decide) ?_
    exact h_zret hf hx hb hr hlk hw dX5_isDone_17
  · have hf := ifp hc hf
    refine lv_iconst (v := 1) hx hb dX5_isDone_12 (by decide) ?_
    refine lv_goto (tgt := 17) hx hb dX5_isDone_13 (by decide) ?_
    exact h_zret hf hx hb hr hlk hw dX5_isDone_17
theorem c_X5_isDone (l : Launch) (E : hE) (B : Nat) (T : hT) (a0 : Nat) (p1 : Int32) (u0 : hM) {z : Int32 × hM} (hf : fX5_isDone T a0 p1 u0 = some z) : h_Ct l E B T yX5_isDone cX5_isDone 2 (some .boolean) 0 [.ref (B + a0), .int p1] u0 z.2 (some (.int z.1)) := h_ofW (by decide) (Nat.le_of_ble_eq_true rfl) (fun p e s m below meth c ls hΓ hl hw => wX5_isDone hΓ hf hw hl)
def fJ6_bitCount_0f7a4 (T : hT) (p0 : Int32) (u0 : hM) : Option (Int32 × hM) := lt ((p0 - ((p0.toUInt32 >>> ((1 : Int32).toUInt32 &&& Int32.toUInt32 31)).toInt32 &&& (1431655765 : Int32)))) fun x1 => lt (((x1 &&& (858993459 : Int32)) + ((x1.toUInt32 >>> ((2 : Int32).toUInt32 &&& Int32.toUInt32 31)).toInt32 &&& (858993459 : Int32)))) fun x2 => lt (((x2 + (x2.toUInt32 >>> ((4 : Int32).toUInt32 &&& Int32.toUInt32 31)).toInt32) &&& (252645135 : Int32))) fun x3 => lt ((x3 + (x3.toUInt32 >>> ((8 : Int32).toUInt32 &&& Int32.toUInt32 31)).toInt32)) fun x4 => lt ((x4 + (x4.toUInt32 >>> ((16 : Int32).toUInt32 &&& Int32.toUInt32 31)).toInt32)) fun x5 => some ((x5 &&& (63 : Int32)), u0)
set_option maxRecDepth 100000 in
set_option maxHeartbeats 4000000 in
theorem wJ6_bitCount_0f7a4 {p0 : Int32} {u0 : hM} {z : Int32 × hM} {ls : Array Slot} (hΓ : h_Γ E B T p s m args meth c cJ6_bitCount_0f7a4 1 (some .int) RJ6) (hf : fJ6_bitCount_0f7a4 T p0 u0 = some z) (hw : h_W E B T s.heap u0 s.heap []) (hl : lv_has ls 1 [(0, .int p0)]) : W p l e (h_rm 0) s m args below meth c s.heap [] 0 0 (h_Qi below E B T args s z) (F0 m 0 ls []) := by
  obtain ⟨hx, hb, hr, hml, hts, hown, hlk, hX⟩ := id hΓ
  unfold fJ6_bitCount_0f7a4 at hf
  refine lv_iload_n hx hb dJ6_bitCount_0f7a4_0 rfl (lv_at hl 0 rfl) ?_
  refine lv_iload_n hx hb dJ6_bitCount_0f7a4_1 rfl (lv_at hl 0 rfl) ?_
  refine lv_iconst (v := 1) hx hb dJ6_bitCount_0f7a4_2 (by decide) ?_
  refine lv_iushr hx hb dJ6_bitCount_0f7a4_3 rfl ?_
  refine lv_ldcw hx hb hown (hts _ kcJ6_265) dJ6_bitCount_0f7a4_4 ?_
  refine lv_iand hx hb dJ6_bitCount_0f7a4_7 ?_
  refine lv_isub hx hb dJ6_bitCount_0f7a4_8 ?_
  refine h_nmi hf (fun x1 hf => ?_)
  refine lv_istore_n (lv' := [(0, .int x1)]) hx hb dJ6_bitCount_0f7a4_9 rfl hl (by decide) rfl (fun ls hl => ?_)
  refine lv_iload_n hx hb dJ6_bitCount_0f7a4_10 rfl (lv_at hl 0 rfl) ?_
  refine lv_ldcw hx hb hown (hts _ kcJ6_266) dJ6_bitCount_0f7a4_11 ?_
  refine lv_iand hx hb dJ6_bitCount_0f7a4_14 ?_
  refine lv_iload_n hx hb dJ6_bitCount_0f7a4_15 rfl (lv_at hl 0 rfl) ?_
  refine lv_iconst (v := 2) hx hb dJ6_bitCount_0f7a4_16 (by decide) ?_
  refine lv_iushr hx hb dJ6_bitCount_0f7a4_17 rfl ?_
  refine lv_ldcw hx hb hown (hts _ kcJ6_266) dJ6_bitCount_0f7a4_18 ?_
  refine lv_iand hx hb dJ6_bitCount_0f7a4_21 ?_
  refine lv_iadd hx hb dJ6_bitCount_0f7a4_22 ?_
  refine h_nmi hf (fun x2 hf => ?_)
  refine lv_istore_n (lv' := [(0, .int x2)]) hx hb dJ6_bitCount_0f7a4_23 rfl hl (by decide) rfl (fun ls hl => ?_)
  refine lv_iload_n hx hb dJ6_bitCount_0f7a4_24 rfl (lv_at hl 0 rfl) ?_
  refine lv_iload_n hx hb dJ6_bitCount_0f7a4_25 rfl (lv_at hl 0 rfl) ?_
  refine lv_iconst (v := 4) hx hb dJ6_bitCount_0f7a4_26 (by decide) ?_
  refine lv_iushr hx hb dJ6_bitCount_0f7a4_27 rfl ?_
  refine lv_iadd hx hb dJ6_bitCount_0f7a4_28 ?_
  refine lv_ldcw hx hb hown (hts _ kcJ6_267) dJ6_bitCount_0f7a4_29 ?_
  refine lv_iand hx hb dJ6_bitCount_0f7a4_32 ?_
  refine h_nmi hf (fun x3 hf => ?_)
  refine lv_istore_n (lv' := [(0, .int x3)]) hx hb dJ6_bitCount_0f7a4_33 rfl hl (by decide) rfl (fun ls hl => ?_)
  refine lv_iload_n hx hb dJ6_bitCount_0f7a4_34 rfl (lv_at hl 0 rfl) ?_
  refine lv_iload_n hx hb dJ6_bitCount_0f7a4_35 rfl (lv_at hl 0 rfl) ?_
  refine lv_bipush (v := 8) hx hb dJ6_bitCount_0f7a4_36 (by decide) ?_
  refine lv_iushr hx hb dJ6_bitCount_0f7a4_38 rfl ?_
  refine lv_iadd hx hb dJ6_bitCount_0f7a4_39 ?_
  refine h_nmi hf (fun x4 hf => ?_)
  refine lv_istore_n (lv' := [(0, .int x4)]) hx hb dJ6_bitCount_0f7a4_40 rfl hl (by decide) rfl (fun ls hl => ?_)
  refine lv_iload_n hx hb dJ6_bitCount_0f7a4_41 rfl (lv_at hl 0 rfl) ?_
  refine lv_iload_n hx hb dJ6_bitCount_0f7a4_42 rfl (lv_at hl 0 rfl) ?_
  refine lv_bipush (v := 16) hx hb dJ6_bitCount_0f7a4_43 (by decide) ?_
  refine lv_iushr hx hb dJ6_bitCount_0f7a4_45 rfl ?_
  refine lv_iadd hx hb dJ6_bitCount_0f7a4_46 ?_
  refine h_nmi hf (fun x5 hf => ?_)
  refine lv_istore_n (lv' := [(0, .int x5)]) hx hb dJ6_bitCount_0f7a4_47 rfl hl (by decide) rfl (fun ls hl => ?_)
  refine lv_iload_n hx hb dJ6_bitCount_0f7a4_48 rfl (lv_at hl 0 rfl) ?_
  refine lv_bipush (v := 63) hx hb dJ6_bitCount_0f7a4_49 (by decide) ?_
  refine lv_iand hx hb dJ6_bitCount_0f7a4_51 ?_
  exact h_iret hf hx hb hr hlk hw dJ6_bitCount_0f7a4_52
theorem c_J6_bitCount_0f7a4 (l : Launch) (E : hE) (B : Nat) (T : hT) (p0 : Int32) (u0 : hM) {z : Int32 × hM} (hf : fJ6_bitCount_0f7a4 T p0 u0 = some z) : h_Ct l E B T yJ6_bitCount_0f7a4 cJ6_bitCount_0f7a4 1 (some .int) 0 [.int p0] u0 z.2 (some (.int z.1)) := h_ofW (by decide) (Nat.le_of_ble_eq_true rfl) (fun p e s m below meth c ls hΓ hl hw => wJ6_bitCount_0f7a4 hΓ hf hw hl)
def fX8_result (T : hT) (a0 : Nat) (p1 : Int32) (p2 : Int32) (u0 : hM) : Option (Int32 × hM) := (vc T a0 8 (fX8_isTask T a0 p1 u0)).bind fun q1 => if q1.1 = 0 then (some ((-1000000001 : Int32), q1.2)) else ((gtr T q1.2 a0 8 6).bind fun a2 => (vc T a2 5 (fX5_isDone T a2 p1 q1.2)).bind fun q3 => if q3.1 = 0 then ((gtr T q3.2 a0 8 6).bind fun a4 => (gti T q3.2 a4 5 4).bind fun x5 => (pti T q3.2 a4 5 4 (x5 ||| ((1 : Int32) <<< (p1 &&& 31)))).bind fun u6 => lt (fun (u7 : hM) => (gtr T u7 a0 8 6).bind fun a8 => (gti T u7 a8 5 4).bind fun x9 => (fJ6_bitCount_0f7a4 T x9 u7).bind fun q10 => some (q10.1, q10.2)) fun J59 => if p2 = 0 then (J59 u6) else ((gtr T u6 a0 8 6).bind fun a11 => (gti T u6 a11 5 5).bind fun x12 => (pti T u6 a11 5 5 (x12 ||| ((1 : Int32) <<< (p1 &&& 31)))).bind fun u13 => J59 u13)) else (some ((-1000000003 : Int32), q3.2)))
set_option maxRecDepth 100000 in
set_option maxHeartbeats 4000000 in
theorem wX8_result {a0 : Nat} {p1 : Int32} {p2 : Int32} {u0 : hM} {z : Int32 × hM} {ls : Array Slot} (hΓ : h_Γ E B T p s m args meth c cX8_result 3 (some .int) RX8) (hf : fX8_result T a0 p1 p2 u0 = some z) (hw : h_W E B T s.heap u0 s.heap []) (hl : lv_has ls 3 [(0, .ref (B + a0)), (1, .int p1), (2, .int p2)]) : W p l e (h_rm 2) s m args below meth c s.heap [] 0 0 (h_Qi below E B T args s z) (F0 m 0 ls []) := by
  obtain ⟨hx, hb, hr, hml, hts, hown, hlk, hX⟩ := id hΓ
  unfold fX8_result at hf
  refine lv_aload_n hx hb dX8_result_0 rfl (lv_at hl 0 rfl) ?_
  refine lv_iload_n hx hb dX8_result_1 rfl (lv_at hl 1 rfl) ?_
  refine h_cVi (As := [.int p1]) (rest := []) hf hx hb hml hts hown hX hw myX8_isTask miX8_isTask lkX8_193 ⟨rfl, by decide⟩ (fun q hq => c_X8_isTask l E B T a0 p1 u0 hq) ⟨Nat.le_of_ble_eq_true rfl, Nat.le_of_ble_eq_true rfl⟩ ⟨Nat.le_refl _, Nat.le_refl _⟩ rfl hl.1 rfl (Nat.le_of_ble_eq_true rfl) dX8_result_2 (fun q1 H1 L1 hf hw => ?_)
  refine lv_if_ne (tgt := 11) hx hb dX8_result_5 (by decide) (fun hc => ?_) (fun hc => ?_)
  · have hf := ifn hc hf
    refine lv_aload_n hx hb dX8_result_11 rfl (lv_at hl 0 rfl) ?_
    refine h_getr hf hx hb hts hown hX hw flX8_47 rfl dX8_result_12 (fun a2 hf => ?_)
    refine lv_iload_n hx hb dX8_result_15 rfl (lv_at hl 1 rfl) ?_
    refine h_cVi (As := [.int p1]) (rest := []) hf hx hb hml hts hown hX hw myX5_isDone miX5_isDone lkX8_240 ⟨rfl, by decide⟩ (fun q hq => c_X5_isDone l E B T a2 p1 q1.2 hq) ⟨Nat.le_of_ble_eq_true rfl, Nat.le_of_ble_eq_true rfl⟩ ⟨Nat.le_refl _, Nat.le_refl _⟩ rfl hl.1 rfl (Nat.le_of_ble_eq_true rfl) dX8_result_16 (fun q3 H3 L3 hf hw => ?_)
    refine lv_if_eq (tgt := 25) hx hb dX8_result_19 (by decide) (fun hc => ?_) (fun hc => ?_)
    · have hf := ifp hc hf
      refine lv_aload_n hx hb dX8_result_25 rfl (lv_at hl 0 rfl) ?_
      refine h_getr hf hx hb hts hown hX hw flX8_47 rfl dX8_result_26 (fun a4 hf => ?_)
      refine lv_dup hx hb dX8_result_29 rfl ?_
      refine h_geti hf hx hb hts hown hX hw flX8_152 rfl dX8_result_30 (fun x5 hf => ?_)
      refine lv_iconst (v := 1) hx hb dX8_result_33 (by decide) ?_
      refine lv_iload_n hx hb dX8_result_34 rfl (lv_at hl 1 rfl) ?_
      refine lv_ishl hx hb dX8_result_35 ?_
      refine lv_ior hx hb dX8_result_36 ?_
      refine h_puti hf hx hb hts hown hX hw flX8_152 ⟨rfl, rfl⟩ dX8_result_37 (fun u6 H6 L6 hf hw => ?_)
      refine lv_iload_n hx hb dX8_result_40 rfl (lv_at hl 2 rfl) ?_
      obtain ⟨J59, eJ59, hf⟩ := h_lt hf
      have hJ59 : ∀ (u7 : hM) (H7 : Heap) (L7 : List Loc) (ls : Array Slot), J59  u7 = some z → h_W E B T s.heap u7 H7 L7 → lv_has ls 3 [(0, .ref (B + a0))] → W p l e (h_rm 2) s m args below meth c H7 L7 0 0 (h_Qi below E B T args s z) (F0 m 59 ls []) := by
        intro  u7 H7 L7 ls hf hw hl
        rw [eJ59] at hf
        refine lv_aload_n hx hb dX8_result_59 rfl (lv_at hl 0 rfl) ?_
        refine h_getr hf hx hb hts hown hX hw flX8_47 rfl dX8_result_60 (fun a8 hf => ?_)
        refine h_geti hf hx hb hts hown hX hw flX8_152 rfl dX8_result_63 (fun x9 hf => ?_)
        refine h_cSi (As := [.int x9]) (rest := []) hf hx hb hml hts hown hX hw myJ6_bitCount_0f7a4 msJ6_bitCount_0f7a4 lkX8_243 (fun q hq => c_J6_bitCount_0f7a4 l E B T x9 u7 hq) ⟨Nat.le_of_ble_eq_true rfl, Nat.le_of_ble_eq_true rfl⟩ ⟨Nat.le_refl _, Nat.le_refl _⟩ rfl hl.1 rfl (Nat.le_of_ble_eq_true rfl) dX8_result_66 (fun q10 H10 L10 hf hw => ?_)
        exact h_iret hf hx hb hr hlk hw dX8_result_69
      clear eJ59
      refine lv_if_eq (tgt := 59) hx hb dX8_result_41 (by decide) (fun hc => ?_) (fun hc => ?_)
      · have hf := ifp hc hf
        exact hJ59  u6 _ _ _ hf hw (lv_sub hl [0] rfl)
      · have hf := ifn hc hf
        refine lv_aload_n hx hb dX8_result_44 rfl (lv_at hl 0 rfl) ?_
        refine h_getr hf hx hb hts hown hX hw flX8_47 rfl dX8_result_45 (fun a11 hf => ?_)
        refine lv_dup hx hb dX8_result_48 rfl ?_
        refine h_geti hf hx hb hts hown hX hw flX8_155 rfl dX8_result_49 (fun x12 hf => ?_)
        refine lv_iconst (v := 1) hx hb dX8_result_52 (by decide) ?_
        refine lv_iload_n hx hb dX8_result_53 rfl (lv_at hl 1 rfl) ?_
        refine lv_ishl hx hb dX8_result_54 ?_
        refine lv_ior hx hb dX8_result_55 ?_
        refine h_puti hf hx hb hts hown hX hw flX8_155 ⟨rfl, rfl⟩ dX8_result_56 (fun u13 H13 L13 hf hw => ?_)
        exact hJ59  u13 _ _ _ hf hw (lv_sub hl [0] rfl)
    · have hf := ifn hc hf
      refine lv_ldc hx hb hown (hts _ kcX8_219) dX8_result_22 ?_
      exact h_iret hf hx hb hr hlk hw dX8_result_24
  · have hf := ifp hc hf
    refine lv_ldc hx hb hown (hts _ kcX8_158) dX8_result_8 ?_
    exact h_iret hf hx hb hr hlk hw dX8_result_10
theorem c_X8_result (l : Launch) (E : hE) (B : Nat) (T : hT) (a0 : Nat) (p1 : Int32) (p2 : Int32) (u0 : hM) {z : Int32 × hM} (hf : fX8_result T a0 p1 p2 u0 = some z) : h_Ct l E B T yX8_result cX8_result 3 (some .int) 2 [.ref (B + a0), .int p1, .int p2] u0 z.2 (some (.int z.1)) := h_ofW (by decide) (Nat.le_of_ble_eq_true rfl) (fun p e s m below meth c ls hΓ hl hw => wX8_result hΓ hf hw hl)
def fX8_forget (T : hT) (a0 : Nat) (u0 : hM) : Option (Int32 × hM) := (gtr T u0 a0 8 6).bind fun a1 => (gti T u0 a1 5 4).bind fun x2 => (fJ6_bitCount_0f7a4 T x2 u0).bind fun q3 => (vc T a0 8 (fX8_dropResults T a0 q3.2)).bind fun q4 => some (q3.1, q4)
set_option maxRecDepth 100000 in
set_option maxHeartbeats 4000000 in
theorem wX8_forget {a0 : Nat} {u0 : hM} {z : Int32 × hM} {ls : Array Slot} (hΓ : h_Γ E B T p s m args meth c cX8_forget 2 (some .int) RX8) (hf : fX8_forget T a0 u0 = some z) (hw : h_W E B T s.heap u0 s.heap []) (hl : lv_has ls 2 [(0, .ref (B + a0))]) : W p l e (h_rm 1) s m args below meth c s.heap [] 0 0 (h_Qi below E B T args s z) (F0 m 0 ls []) := by
  obtain ⟨hx, hb, hr, hml, hts, hown, hlk, hX⟩ := id hΓ
  unfold fX8_forget at hf
  refine lv_aload_n hx hb dX8_forget_0 rfl (lv_at hl 0 rfl) ?_
  refine h_getr hf hx hb hts hown hX hw flX8_47 rfl dX8_forget_1 (fun a1 hf => ?_)
  refine h_geti hf hx hb hts hown hX hw flX8_152 rfl dX8_forget_4 (fun x2 hf => ?_)
  refine h_cSi (As := [.int x2]) (rest := []) hf hx hb hml hts hown hX hw myJ6_bitCount_0f7a4 msJ6_bitCount_0f7a4 lkX8_243 (fun q hq => c_J6_bitCount_0f7a4 l E B T x2 u0 hq) ⟨Nat.le_of_ble_eq_true rfl, Nat.le_of_ble_eq_true rfl⟩ ⟨Nat.le_refl _, Nat.le_refl _⟩ rfl hl.1 rfl (Nat.le_of_ble_eq_true rfl) dX8_forget_7 (fun q3 H3 L3 hf hw => ?_)
  refine lv_istore_n (lv' := [(1, .int q3.1), (0, .ref (B + a0))]) hx hb dX8_forget_10 rfl hl (by decide) rfl (fun ls hl => ?_)
  refine lv_aload_n hx hb dX8_forget_11 rfl (lv_at hl 1 rfl) ?_
  refine h_cVv (As := []) (rest := []) hf hx hb hml hts hown hX hw myX8_dropResults miX8_dropResults lkX8_138 ⟨rfl, by decide⟩ (fun q hq => c_X8_dropResults l E B T a0 q3.2 hq) ⟨Nat.le_of_ble_eq_true rfl, Nat.le_of_ble_eq_true rfl⟩ ⟨Nat.le_refl _, Nat.le_refl _⟩ rfl hl.1 rfl (Nat.le_of_ble_eq_true rfl) dX8_forget_12 (fun q4 H4 L4 hf hw => ?_)
  refine lv_iload_n hx hb dX8_forget_15 rfl (lv_at hl 0 rfl) ?_
  exact h_iret hf hx hb hr hlk hw dX8_forget_16
theorem c_X8_forget (l : Launch) (E : hE) (B : Nat) (T : hT) (a0 : Nat) (u0 : hM) {z : Int32 × hM} (hf : fX8_forget T a0 u0 = some z) : h_Ct l E B T yX8_forget cX8_forget 2 (some .int) 1 [.ref (B + a0)] u0 z.2 (some (.int z.1)) := h_ofW (by decide) (Nat.le_of_ble_eq_true rfl) (fun p e s m below meth c ls hΓ hl hw => wX8_forget hΓ hf hw hl)
def fX5_isPassed (T : hT) (a0 : Nat) (p1 : Int32) (u0 : hM) : Option (Int32 × hM) := (gti T u0 a0 5 5).bind fun x1 => if ((x1 >>> (p1 &&& 31)) &&& (1 : Int32)) = (1 : Int32) then (rtz (1 : Int32) u0) else (rtz (0 : Int32) u0)
set_option maxRecDepth 100000 in
set_option maxHeartbeats 4000000 in
theorem wX5_isPassed {a0 : Nat} {p1 : Int32} {u0 : hM} {z : Int32 × hM} {ls : Array Slot} (hΓ : h_Γ E B T p s m args meth c cX5_isPassed 2 (some .boolean) RX5) (hf : fX5_isPassed T a0 p1 u0 = some z) (hw : h_W E B T s.heap u0 s.heap []) (hl : lv_has ls 2 [(0, .ref (B + a0)), (1, .int p1)]) : W p l e (h_rm 0) s m args below meth c s.heap [] 0 0 (h_Qi below E B T args s z) (F0 m 0 ls []) := by
  obtain ⟨hx, hb, hr, hml, hts, hown, hlk, hX⟩ := id hΓ
  unfold fX5_isPassed at hf
  refine lv_aload_n hx hb dX5_isPassed_0 rfl (lv_at hl 0 rfl) ?_
  refine h_geti hf hx hb hts hown hX hw flX5_37 rfl dX5_isPassed_1 (fun x1 hf => ?_)
  refine lv_iload_n hx hb dX5_isPassed_4 rfl (lv_at hl 1 rfl) ?_
  refine lv_ishr hx hb dX5_isPassed_5 ?_
  refine lv_iconst (v := 1) hx hb dX5_isPassed_6 (by decide) ?_
  refine lv_iand hx hb dX5_isPassed_7 ?_
  refine lv_iconst (v := 1) hx hb dX5_isPassed_8 (by decide) ?_
  refine lv_icmp_ne (tgt := 16) hx hb dX5_isPassed_9 (by decide) (fun hc => ?_) (fun hc => ?_)
  · have hf := ifn hc hf
    refine lv_iconst (v := 0) hx hb dX5_isPassed_16 (by decide) ?_
    exact h_zret hf hx hb hr hlk hw dX5_isPassed_17
  · have hf := ifp hc hf
    refine lv_iconst (v := 1) hx hb dX5_isPassed_12 (by decide) ?_
    refine lv_goto (tgt := 17) hx hb dX5_isPassed_13 (by decide) ?_
    exact h_zret hf hx hb hr hlk hw dX5_isPassed_17
theorem c_X5_isPassed (l : Launch) (E : hE) (B : Nat) (T : hT) (a0 : Nat) (p1 : Int32) (u0 : hM) {z : Int32 × hM} (hf : fX5_isPassed T a0 p1 u0 = some z) : h_Ct l E B T yX5_isPassed cX5_isPassed 2 (some .boolean) 0 [.ref (B + a0), .int p1] u0 z.2 (some (.int z.1)) := h_ofW (by decide) (Nat.le_of_ble_eq_true rfl) (fun p e s m below meth c ls hΓ hl hw => wX5_isPassed hΓ hf hw hl)
def fX7_isBeyond (T : hT) (a0 : Nat) (p1 : Int32) (p2 : Int32) (u0 : hM) : Option (Int32 × hM) := (gti T u0 a0 7 4).bind fun x1 => (fX8_isWithin T p1 (0 : Int32) (x1 - (1 : Int32)) u0).bind fun q2 => if q2.1 = 0 then (rtz (0 : Int32) q2.2) else ((gtr T q2.2 a0 7 3).bind fun a3 => (ald 11 T q2.2 a3 p1).bind fun x4 => if (x4 &&& p2) = 0 then (rtz (0 : Int32) q2.2) else (rtz (1 : Int32) q2.2))
set_option maxRecDepth 100000 in
set_option maxHeartbeats 4000000 in
theorem wX7_isBeyond {a0 : Nat} {p1 : Int32} {p2 : Int32} {u0 : hM} {z : Int32 × hM} {ls : Array Slot} (hΓ : h_Γ E B T p s m args meth c cX7_isBeyond 3 (some .boolean) RX7) (hf : fX7_isBeyond T a0 p1 p2 u0 = some z) (hw : h_W E B T s.heap u0 s.heap []) (hl : lv_has ls 3 [(0, .ref (B + a0)), (1, .int p1), (2, .int p2)]) : W p l e (h_rm 1) s m args below meth c s.heap [] 0 0 (h_Qi below E B T args s z) (F0 m 0 ls []) := by
  obtain ⟨hx, hb, hr, hml, hts, hown, hlk, hX⟩ := id hΓ
  unfold fX7_isBeyond at hf
  refine lv_iload_n hx hb dX7_isBeyond_0 rfl (lv_at hl 1 rfl) ?_
  refine lv_iconst (v := 0) hx hb dX7_isBeyond_1 (by decide) ?_
  refine lv_aload_n hx hb dX7_isBeyond_2 rfl (lv_at hl 0 rfl) ?_
  refine h_geti hf hx hb hts hown hX hw flX7_24 rfl dX7_isBeyond_3 (fun x1 hf => ?_)
  refine lv_iconst (v := 1) hx hb dX7_isBeyond_6 (by decide) ?_
  refine lv_isub hx hb dX7_isBeyond_7 ?_
  refine h_cNi (As := [.int p1, .int (0 : Int32), .int (x1 - (1 : Int32))]) (rest := []) hf hx hb hml hts hown hX hw myX8_isWithin msX8_isWithin nkX7_68 (fun q hq => c_X8_isWithin l E B T p1 (0 : Int32) (x1 - (1 : Int32)) u0 hq) ⟨Nat.le_of_ble_eq_true rfl, Nat.le_of_ble_eq_true rfl⟩ ⟨Nat.le_refl _, Nat.le_refl _⟩ rfl hl.1 rfl (Nat.le_of_ble_eq_true rfl) dX7_isBeyond_8 (fun q2 H2 L2 hf hw => ?_)
  refine lv_if_eq (tgt := 29) hx hb dX7_isBeyond_11 (by decide) (fun hc => ?_) (fun hc => ?_)
  · have hf := ifp hc hf
    refine lv_iconst (v := 0) hx hb dX7_isBeyond_29 (by decide) ?_
    exact h_zret hf hx hb hr hlk hw dX7_isBeyond_30
  · have hf := ifn hc hf
    refine lv_aload_n hx hb dX7_isBeyond_14 rfl (lv_at hl 0 rfl) ?_
    refine h_getr hf hx hb hts hown hX hw flX7_21 rfl dX7_isBeyond_15 (fun a3 hf => ?_)
    refine lv_iload_n hx hb dX7_isBeyond_18 rfl (lv_at hl 1 rfl) ?_
    refine h_iald hf hx hb hX hw dX7_isBeyond_19 (fun x4 hf => ?_)
    refine lv_iload_n hx hb dX7_isBeyond_20 rfl (lv_at hl 2 rfl) ?_
    refine lv_iand hx hb dX7_isBeyond_21 ?_
    refine lv_if_eq (tgt := 29) hx hb dX7_isBeyond_22 (by decide) (fun hc => ?_) (fun hc => ?_)
    · have hf := ifp hc hf
      refine lv_iconst (v := 0) hx hb dX7_isBeyond_29 (by decide) ?_
      exact h_zret hf hx hb hr hlk hw dX7_isBeyond_30
    · have hf := ifn hc hf
      refine lv_iconst (v := 1) hx hb dX7_isBeyond_25 (by decide) ?_
      refine lv_goto (tgt := 30) hx hb dX7_isBeyond_26 (by decide) ?_
      exact h_zret hf hx hb hr hlk hw dX7_isBeyond_30
theorem c_X7_isBeyond (l : Launch) (E : hE) (B : Nat) (T : hT) (a0 : Nat) (p1 : Int32) (p2 : Int32) (u0 : hM) {z : Int32 × hM} (hf : fX7_isBeyond T a0 p1 p2 u0 = some z) : h_Ct l E B T yX7_isBeyond cX7_isBeyond 3 (some .boolean) 1 [.ref (B + a0), .int p1, .int p2] u0 z.2 (some (.int z.1)) := h_ofW (by decide) (Nat.le_of_ble_eq_true rfl) (fun p e s m below meth c ls hΓ hl hw => wX7_isBeyond hΓ hf hw hl)
def fX7_percent (T : hT) (a0 : Nat) (p1 : Int32) (p2 : Int32) (p3 : Int32) (u0 : hM) : Option (Int32 × hM) := (gti T u0 a0 7 4).bind fun x1 => (fX8_isWithin T p1 (0 : Int32) (x1 - (1 : Int32)) u0).bind fun q2 => if q2.1 = 0 then (some ((0 : Int32), q2.2)) else ((vc T a0 7 (fX7_isBeyond T a0 p1 p2 q2.2)).bind fun q3 => if q3.1 = 0 then (if p3 = 0 then ((gtr T q3.2 a0 7 1).bind fun a4 => (ald 11 T q3.2 a4 p1).bind fun x5 => some (x5, q3.2)) else ((gtr T q3.2 a0 7 1).bind fun a6 => (ald 11 T q3.2 a6 p1).bind fun x7 => some (((100 : Int32) - x7), q3.2))) else (if p3 = 0 then ((gtr T q3.2 a0 7 2).bind fun a8 => (ald 11 T q3.2 a8 p1).bind fun x9 => some (((100 : Int32) - x9), q3.2)) else ((gtr T q3.2 a0 7 2).bind fun a10 => (ald 11 T q3.2 a10 p1).bind fun x11 => some (x11, q3.2))))
set_option maxRecDepth 100000 in
set_option maxHeartbeats 4000000 in
theorem wX7_percent {a0 : Nat} {p1 : Int32} {p2 : Int32} {p3 : Int32} {u0 : hM} {z : Int32 × hM} {ls : Array Slot} (hΓ : h_Γ E B T p s m args meth c cX7_percent 4 (some .int) RX7) (hf : fX7_percent T a0 p1 p2 p3 u0 = some z) (hw : h_W E B T s.heap u0 s.heap []) (hl : lv_has ls 4 [(0, .ref (B + a0)), (1, .int p1), (2, .int p2), (3, .int p3)]) : W p l e (h_rm 2) s m args below meth c s.heap [] 0 0 (h_Qi below E B T args s z) (F0 m 0 ls []) := by
  obtain ⟨hx, hb, hr, hml, hts, hown, hlk, hX⟩ := id hΓ
  unfold fX7_percent at hf
  refine lv_iload_n hx hb dX7_percent_0 rfl (lv_at hl 1 rfl) ?_
  refine lv_iconst (v := 0) hx hb dX7_percent_1 (by decide) ?_
  refine lv_aload_n hx hb dX7_percent_2 rfl (lv_at hl 0 rfl) ?_
  refine h_geti hf hx hb hts hown hX hw flX7_24 rfl dX7_percent_3 (fun x1 hf => ?_)
  refine lv_iconst (v := 1) hx hb dX7_percent_6 (by decide) ?_
  refine lv_isub hx hb dX7_percent_7 ?_
  refine h_cNi (As := [.int p1, .int (0 : Int32), .int (x1 - (1 : Int32))]) (rest := []) hf hx hb hml hts hown hX hw myX8_isWithin msX8_isWithin nkX7_68 (fun q hq => c_X8_isWithin l E B T p1 (0 : Int32) (x1 - (1 : Int32)) u0 hq) ⟨Nat.le_of_ble_eq_true rfl, Nat.le_of_ble_eq_true rfl⟩ ⟨Nat.le_refl _, Nat.le_refl _⟩ rfl hl.1 rfl (Nat.le_of_ble_eq_true rfl) dX7_percent_8 (fun q2 H2 L2 hf hw => ?_)
  refine lv_if_ne (tgt := 16) hx hb dX7_percent_11 (by decide) (fun hc => ?_) (fun hc => ?_)
  · have hf := ifn hc hf
    refine lv_aload_n hx hb dX7_percent_16 rfl (lv_at hl 0 rfl) ?_
    refine lv_iload_n hx hb dX7_percent_17 rfl (lv_at hl 1 rfl) ?_
    refine lv_iload_n hx hb dX7_percent_18 rfl (lv_at hl 2 rfl) ?_
    refine h_cVi (As := [.int p1, .int p2]) (rest := []) hf hx hb hml hts hown hX hw myX7_isBeyond miX7_isBeyond lkX7_72 ⟨rfl, by decide⟩ (fun q hq => c_X7_isBeyond l E B T a0 p1 p2 q2.2 hq) ⟨Nat.le_of_ble_eq_true rfl, Nat.le_of_ble_eq_true rfl⟩ ⟨Nat.le_refl _, Nat.le_refl _⟩ rfl hl.1 rfl (Nat.le_of_ble_eq_true rfl) dX7_percent_19 (fun q3 H3 L3 hf hw => ?_)
    refine lv_if_eq (tgt := 48) hx hb dX7_percent_22 (by decide) (fun hc => ?_) (fun hc => ?_)
    · have hf := ifp hc hf
      refine lv_iload_n hx hb dX7_percent_48 rfl (lv_at hl 3 rfl) ?_
      refine lv_if_eq (tgt := 64) hx hb dX7_percent_49 (by decide) (fun hc => ?_) (fun hc => ?_)
      · have hf := ifp hc hf
        refine lv_aload_n hx hb dX7_percent_64 rfl (lv_at hl 0 rfl) ?_
        refine h_getr hf hx hb hts hown hX hw flX7_15 rfl dX7_percent_65 (fun a4 hf => ?_)
        refine lv_iload_n hx hb dX7_percent_68 rfl (lv_at hl 1 rfl) ?_
        refine h_iald hf hx hb hX hw dX7_percent_69 (fun x5 hf => ?_)
        exact h_iret hf hx hb hr hlk hw dX7_percent_70
      · have hf := ifn hc hf
        refine lv_bipush (v := 100) hx hb dX7_percent_52 (by decide) ?_
        refine lv_aload_n hx hb dX7_percent_54 rfl (lv_at hl 0 rfl) ?_
        refine h_getr hf hx hb hts hown hX hw flX7_15 rfl dX7_percent_55 (fun a6 hf => ?_)
        refine lv_iload_n hx hb dX7_percent_58 rfl (lv_at hl 1 rfl) ?_
        refine h_iald hf hx hb hX hw dX7_percent_59 (fun x7 hf => ?_)
        refine lv_isub hx hb dX7_percent_60 ?_
        refine lv_goto (tgt := 70) hx hb dX7_percent_61 (by decide) ?_
        exact h_iret hf hx hb hr hlk hw dX7_percent_70
    · have hf := ifn hc hf
      refine lv_iload_n hx hb dX7_percent_25 rfl (lv_at hl 3 rfl) ?_
      refine lv_if_eq (tgt := 38) hx hb dX7_percent_26 (by decide) (fun hc => ?_) (fun hc => ?_)
      · have hf := ifp hc hf
        refine lv_bipush (v := 100) hx hb dX7_percent_38 (by decide) ?_
        refine lv_aload_n hx hb dX7_percent_40 rfl (lv_at hl 0 rfl) ?_
        refine h_getr hf hx hb hts hown hX hw flX7_18 rfl dX7_percent_41 (fun a8 hf => ?_)
        refine lv_iload_n hx hb dX7_percent_44 rfl (lv_at hl 1 rfl) ?_
        refine h_iald hf hx hb hX hw dX7_percent_45 (fun x9 hf => ?_)
        refine lv_isub hx hb dX7_percent_46 ?_
        exact h_iret hf hx hb hr hlk hw dX7_percent_47
      · have hf := ifn hc hf
        refine lv_aload_n hx hb dX7_percent_29 rfl (lv_at hl 0 rfl) ?_
        refine h_getr hf hx hb hts hown hX hw flX7_18 rfl dX7_percent_30 (fun a10 hf => ?_)
        refine lv_iload_n hx hb dX7_percent_33 rfl (lv_at hl 1 rfl) ?_
        refine h_iald hf hx hb hX hw dX7_percent_34 (fun x11 hf => ?_)
        refine lv_goto (tgt := 47) hx hb dX7_percent_35 (by decide) ?_
        exact h_iret hf hx hb hr hlk hw dX7_percent_47
  · have hf := ifp hc hf
    refine lv_iconst (v := 0) hx hb dX7_percent_14 (by decide) ?_
    exact h_iret hf hx hb hr hlk hw dX7_percent_15
theorem c_X7_percent (l : Launch) (E : hE) (B : Nat) (T : hT) (a0 : Nat) (p1 : Int32) (p2 : Int32) (p3 : Int32) (u0 : hM) {z : Int32 × hM} (hf : fX7_percent T a0 p1 p2 p3 u0 = some z) : h_Ct l E B T yX7_percent cX7_percent 4 (some .int) 2 [.ref (B + a0), .int p1, .int p2, .int p3] u0 z.2 (some (.int z.1)) := h_ofW (by decide) (Nat.le_of_ble_eq_true rfl) (fun p e s m below meth c ls hΓ hl hw => wX7_percent hΓ hf hw hl)
def fX8_oddsNow_L14 (T : hT) (c0 : Nat) (c1 : Int32) (ex : Int64 → hM → Option (Int64 × hM)) : Nat → Int64 → Int32 → hM → Option (Int64 × hM)
  | 0, _, _, _ => none
  | n + 1, v2, v4, u0 => (gtr T u0 c0 8 3).bind fun a4 => (gti T u0 a4 7 4).bind fun x5 => if x5 ≤ v4 then (ex v2 u0) else ((gtr T u0 c0 8 6).bind fun a6 => (vc T a6 5 (fX5_isDone T a6 v4 u0)).bind fun q7 => lt (fun (x8 : Int64) (u9 : hM) => lt (v4 + (1 : Int32)) fun x10 => fX8_oddsNow_L14 T c0 c1 ex n x8 x10 u9) fun J61 => if q7.1 = 0 then (J61 v2 q7.2) else ((gtr T q7.2 c0 8 3).bind fun a11 => (gtr T q7.2 c0 8 6).bind fun a12 => (vc T a12 5 (fX5_isPassed T a12 v4 q7.2)).bind fun q13 => (vc T a11 7 (fX7_percent T a11 v4 c1 q13.1 q13.2)).bind fun q14 => lt ((v2 * q14.1.toInt64)) fun x15 => J61 x15 q14.2))
def fX8_oddsNow (T : hT) (a0 : Nat) (p1 : Int32) (u0 : hM) : Option (Int64 × hM) := (gtr T u0 a0 8 6).bind fun a1 => (gtr T u0 a1 5 1).bind fun a2 => (ald 11 T u0 a2 p1).bind fun x3 => fX8_oddsNow_L14 T a0 p1 (fun (x16 : Int64) (u17 : hM) => some (x16, u17)) 6000 x3.toInt64 (0 : Int32) u0
set_option maxRecDepth 100000 in
set_option maxHeartbeats 4000000 in
theorem wfX8_oddsNow_L14 {c0 : Nat} {c1 : Int32} {ex : Int64 → hM → Option (Int64 × hM)} {z : Int64 × hM} (hΓ : h_Γ E B T p s m args meth c cX8_oddsNow 5 (some .long) RX8) (hex : ∀ (y2 : Int64) (u9 : hM) (H9 : Heap) (L9 : List Loc) (ls : Array Slot), ex y2 u9 = some z → h_W E B T s.heap u9 H9 L9 → lv_has ls 5 [(2, .long y2)] → W p l e (h_rm 3) s m args below meth c H9 L9 0 0 (h_Ql below E B T args s z) (F0 m 67 ls [])) : ∀ (n : Nat) (v2 : Int64) (v4 : Int32) (u0 : hM) (H0 : Heap) (L0 : List Loc) (ls : Array Slot), fX8_oddsNow_L14 T c0 c1 ex n v2 v4 u0 = some z → h_W E B T s.heap u0 H0 L0 → lv_has ls 5 [(0, .ref (B + c0)), (1, .int c1), (2, .long v2), (4, .int v4)] → W p l e (h_rm 3) s m args below meth c H0 L0 0 0 (h_Ql below E B T args s z) (F0 m 14 ls []) := by
  obtain ⟨hx, hb, hr, hml, hts, hown, hlk, hX⟩ := id hΓ
  intro n
  induction n with
  | zero =>
    intro v2 v4 u0 H0 L0 ls hf hw hl
    exact absurd (show (none : Option (Int64 × hM)) = some z from hf) (fun h => by cases h)
  | succ n ih =>
    intro v2 v4 u0 H0 L0 ls hf hw hl
    rw [fX8_oddsNow_L14] at hf
    refine lv_iload hx hb dX8_oddsNow_14 (lv_at hl 3 rfl) ?_
    refine lv_aload_n hx hb dX8_oddsNow_16 rfl (lv_at hl 0 rfl) ?_
    refine h_getr hf hx hb hts hown hX hw flX8_29 rfl dX8_oddsNow_17 (fun a4 hf => ?_)
    refine h_geti hf hx hb hts hown hX hw flX8_141 rfl dX8_oddsNow_20 (fun x5 hf => ?_)
    refine lv_icmp_ge (tgt := 67) hx hb dX8_oddsNow_23 (by decide) (fun hc => ?_) (fun hc => ?_)
    · have hf := ifp hc hf
      exact hex v2 u0 _ _ _ hf hw (lv_sub hl [2] rfl)
    · have hf := ifn hc hf
      refine lv_aload_n hx hb dX8_oddsNow_26 rfl (lv_at hl 0 rfl) ?_
      refine h_getr hf hx hb hts hown hX hw flX8_47 rfl dX8_oddsNow_27 (fun a6 hf => ?_)
      refine lv_iload hx hb dX8_oddsNow_30 (lv_at hl 3 rfl) ?_
      refine h_cVi (As := [.int v4]) (rest := []) hf hx hb hml hts hown hX hw myX5_isDone miX5_isDone lkX8_240 ⟨rfl, by decide⟩ (fun q hq => c_X5_isDone l E B T a6 v4 u0 hq) ⟨Nat.le_of_ble_eq_true rfl, Nat.le_of_ble_eq_true rfl⟩ ⟨Nat.le_refl _, Nat.le_refl _⟩ rfl hl.1 rfl (Nat.le_of_ble_eq_true rfl) dX8_oddsNow_32 (fun q7 H7 L7 hf hw => ?_)
      obtain ⟨J61, eJ61, hf⟩ := h_lt hf
      have hJ61 : ∀ (x8 : Int64) (u9 : hM) (H9 : Heap) (L9 : List Loc) (ls : Array Slot), J61 x8 u9 = some z → h_W E B T s.heap u9 H9 L9 → lv_has ls 5 [(0, .ref (B + c0)), (1, .int c1), (2, .long x8), (4, .int v4)] → W p l e (h_rm 3) s m args below meth c H9 L9 0 0 (h_Ql below E B T args s z) (F0 m 61 ls []) := by
        intro x8 u9 H9 L9 ls hf hw hl
        rw [eJ61] at hf
        refine h_iinc (k := 3) hf hx hb dX8_oddsNow_61 hl rfl (by decide) (by decide) (fun x10 ls hf hl => ?_)
        have hl : lv_has ls 5 [(4, .int x10), (0, .ref (B + c0)), (1, .int c1), (2, .long x8)] := hl
        refine lv_goto (tgt := 14) hx hb dX8_oddsNow_64 (by decide) ?_
        exact ih x8 x10 u9 _ _ _ hf hw (lv_sub hl [1, 2, 3, 0] rfl)
      clear eJ61
      refine lv_if_eq (tgt := 61) hx hb dX8_oddsNow_35 (by decide) (fun hc => ?_) (fun hc => ?_)
      · have hf := ifp hc hf
        exact hJ61 v2 q7.2 _ _ _ hf hw (lv_sub hl [0, 1, 2, 3] rfl)
      · have hf := ifn hc hf
        refine lv_lload_n hx hb dX8_oddsNow_38 rfl (lv_at hl 2 rfl) ?_
        refine lv_aload_n hx hb dX8_oddsNow_39 rfl (lv_at hl 0 rfl) ?_
        refine h_getr hf hx hb hts hown hX hw flX8_29 rfl dX8_oddsNow_40 (fun a11 hf => ?_)
        refine lv_iload hx hb dX8_oddsNow_43 (lv_at hl 3 rfl) ?_
        refine lv_iload_n hx hb dX8_oddsNow_45 rfl (lv_at hl 1 rfl) ?_
        refine lv_aload_n hx hb dX8_oddsNow_46 rfl (lv_at hl 0 rfl) ?_
        refine h_getr hf hx hb hts hown hX hw flX8_47 rfl dX8_oddsNow_47 (fun a12 hf => ?_)
        refine lv_iload hx hb dX8_oddsNow_50 (lv_at hl 3 rfl) ?_
        refine h_cVi (As := [.int v4]) (rest := [.int c1, .int v4, .ref (B + a11), .long v2]) hf hx hb hml hts hown hX hw myX5_isPassed miX5_isPassed lkX8_378 ⟨rfl, by decide⟩ (fun q hq => c_X5_isPassed l E B T a12 v4 q7.2 hq) ⟨Nat.le_of_ble_eq_true rfl, Nat.le_of_ble_eq_true rfl⟩ ⟨Nat.le_refl _, Nat.le_refl _⟩ rfl hl.1 rfl (Nat.le_of_ble_eq_true rfl) dX8_oddsNow_52 (fun q13 H13 L13 hf hw => ?_)
        refine h_cVi (As := [.int v4, .int c1, .int q13.1]) (rest := [.long v2]) hf hx hb hml hts hown hX hw myX7_percent miX7_percent lkX8_381 ⟨rfl, by decide⟩ (fun q hq => c_X7_percent l E B T a11 v4 c1 q13.1 q13.2 hq) ⟨Nat.le_of_ble_eq_true rfl, Nat.le_of_ble_eq_true rfl⟩ ⟨Nat.le_refl _, Nat.le_refl _⟩ rfl hl.1 rfl (Nat.le_of_ble_eq_true rfl) dX8_oddsNow_55 (fun q14 H14 L14 hf hw => ?_)
        refine lv_i2l hx hb dX8_oddsNow_58 rfl ?_
        refine lv_lmul hx hb dX8_oddsNow_59 ?_
        refine h_nml hf (fun x15 hf => ?_)
        refine lv_lstore_n (lv' := [(2, .long x15), (0, .ref (B + c0)), (1, .int c1), (4, .int v4)]) hx hb dX8_oddsNow_60 rfl hl (by decide) rfl (fun ls hl => ?_)
        exact hJ61 x15 q14.2 _ _ _ hf hw (lv_sub hl [1, 2, 0, 3] rfl)
set_option maxRecDepth 100000 in
set_option maxHeartbeats 4000000 in
theorem wX8_oddsNow {a0 : Nat} {p1 : Int32} {u0 : hM} {z : Int64 × hM} {ls : Array Slot} (hΓ : h_Γ E B T p s m args meth c cX8_oddsNow 5 (some .long) RX8) (hf : fX8_oddsNow T a0 p1 u0 = some z) (hw : h_W E B T s.heap u0 s.heap []) (hl : lv_has ls 5 [(0, .ref (B + a0)), (1, .int p1)]) : W p l e (h_rm 3) s m args below meth c s.heap [] 0 0 (h_Ql below E B T args s z) (F0 m 0 ls []) := by
  obtain ⟨hx, hb, hr, hml, hts, hown, hlk, hX⟩ := id hΓ
  unfold fX8_oddsNow at hf
  refine lv_aload_n hx hb dX8_oddsNow_0 rfl (lv_at hl 0 rfl) ?_
  refine h_getr hf hx hb hts hown hX hw flX8_47 rfl dX8_oddsNow_1 (fun a1 hf => ?_)
  refine h_getr hf hx hb hts hown hX hw flX8_237 rfl dX8_oddsNow_4 (fun a2 hf => ?_)
  refine lv_iload_n hx hb dX8_oddsNow_7 rfl (lv_at hl 1 rfl) ?_
  refine h_iald hf hx hb hX hw dX8_oddsNow_8 (fun x3 hf => ?_)
  refine lv_i2l hx hb dX8_oddsNow_9 rfl ?_
  refine lv_lstore_n (lv' := [(2, .long x3.toInt64), (0, .ref (B + a0)), (1, .int p1)]) hx hb dX8_oddsNow_10 rfl hl (by decide) rfl (fun ls hl => ?_)
  refine lv_iconst (v := 0) hx hb dX8_oddsNow_11 (by decide) ?_
  refine lv_istore (lv' := [(4, .int (0 : Int32)), (2, .long x3.toInt64), (0, .ref (B + a0)), (1, .int p1)]) hx hb dX8_oddsNow_12 hl (by decide) rfl (fun ls hl => ?_)
  refine wfX8_oddsNow_L14 hΓ ?_ 6000 x3.toInt64 (0 : Int32) u0 _ _ _ hf hw (lv_sub hl [2, 3, 1, 0] rfl)
  intro x16 u17 H17 L17 ls hf hw hl
  refine lv_lload_n hx hb dX8_oddsNow_67 rfl (lv_at hl 0 rfl) ?_
  exact h_lret hf hx hb hr hlk hw dX8_oddsNow_68
theorem c_X8_oddsNow (l : Launch) (E : hE) (B : Nat) (T : hT) (a0 : Nat) (p1 : Int32) (u0 : hM) {z : Int64 × hM} (hf : fX8_oddsNow T a0 p1 u0 = some z) : h_Ct l E B T yX8_oddsNow cX8_oddsNow 5 (some .long) 3 [.ref (B + a0), .int p1] u0 z.2 (some (.long z.1)) := h_ofW (by decide) (Nat.le_of_ble_eq_true rfl) (fun p e s m below meth c ls hΓ hl hw => wX8_oddsNow hΓ hf hw hl)
def fX8_odds_L27 (T : hT) (c0 : Nat) (ex : Int64 → hM → Option (Int64 × hM)) : Nat → Int64 → Int32 → hM → Option (Int64 × hM)
  | 0, _, _, _ => none
  | n + 1, v2, v4, u0 => if (16 : Int32) ≤ v4 then (ex v2 u0) else ((vc T c0 8 (fX8_oddsNow T c0 v4 u0)).bind fun q2 => lt ((v2 + q2.1)) fun x3 => lt (v4 + (1 : Int32)) fun x4 => fX8_odds_L27 T c0 ex n x3 x4 q2.2)
def fX8_odds (T : hT) (a0 : Nat) (p1 : Int32) (u0 : hM) : Option (Int64 × hM) := (fX8_isType T p1 u0).bind fun q1 => if q1.1 = 0 then (if p1 = (-1 : Int32) then (fX8_odds_L27 T a0 (fun (x5 : Int64) (u6 : hM) => some (x5, u6)) 6000 (0 : Int64) (0 : Int32) q1.2) else (some ((-1000000001 : Int64), q1.2))) else ((vc T a0 8 (fX8_oddsNow T a0 p1 q1.2)).bind fun q7 => some (q7.1, q7.2))
set_option maxRecDepth 100000 in
set_option maxHeartbeats 4000000 in
theorem wfX8_odds_L27 {c0 : Nat} {ex : Int64 → hM → Option (Int64 × hM)} {z : Int64 × hM} (hΓ : h_Γ E B T p s m args meth c cX8_odds 5 (some .long) RX8) (hex : ∀ (y2 : Int64) (u9 : hM) (H9 : Heap) (L9 : List Loc) (ls : Array Slot), ex y2 u9 = some z → h_W E B T s.heap u9 H9 L9 → lv_has ls 5 [(2, .long y2)] → W p l e (h_rm 4) s m args below meth c H9 L9 0 0 (h_Ql below E B T args s z) (F0 m 49 ls [])) : ∀ (n : Nat) (v2 : Int64) (v4 : Int32) (u0 : hM) (H0 : Heap) (L0 : List Loc) (ls : Array Slot), fX8_odds_L27 T c0 ex n v2 v4 u0 = some z → h_W E B T s.heap u0 H0 L0 → lv_has ls 5 [(0, .ref (B + c0)), (2, .long v2), (4, .int v4)] → W p l e (h_rm 4) s m args below meth c H0 L0 0 0 (h_Ql below E B T args s z) (F0 m 27 ls []) := by
  obtain ⟨hx, hb, hr, hml, hts, hown, hlk, hX⟩ := id hΓ
  intro n
  induction n with
  | zero =>
    intro v2 v4 u0 H0 L0 ls hf hw hl
    exact absurd (show (none : Option (Int64 × hM)) = some z from hf) (fun h => by cases h)
  | succ n ih =>
    intro v2 v4 u0 H0 L0 ls hf hw hl
    rw [fX8_odds_L27] at hf
    refine lv_iload hx hb dX8_odds_27 (lv_at hl 2 rfl) ?_
    refine lv_bipush (v := 16) hx hb dX8_odds_29 (by decide) ?_
    refine lv_icmp_ge (tgt := 49) hx hb dX8_odds_31 (by decide) (fun hc => ?_) (fun hc => ?_)
    · have hf := ifp hc hf
      exact hex v2 u0 _ _ _ hf hw (lv_sub hl [1] rfl)
    · have hf := ifn hc hf
      refine lv_lload_n hx hb dX8_odds_34 rfl (lv_at hl 1 rfl) ?_
      refine lv_aload_n hx hb dX8_odds_35 rfl (lv_at hl 0 rfl) ?_
      refine lv_iload hx hb dX8_odds_36 (lv_at hl 2 rfl) ?_
      refine h_cVl (As := [.int v4]) (rest := [.long v2]) hf hx hb hml hts hown hX hw myX8_oddsNow miX8_oddsNow lkX8_248 ⟨rfl, by decide⟩ (fun q hq => c_X8_oddsNow l E B T c0 v4 u0 hq) ⟨Nat.le_of_ble_eq_true rfl, Nat.le_of_ble_eq_true rfl⟩ ⟨Nat.le_refl _, Nat.le_refl _⟩ rfl hl.1 rfl (Nat.le_of_ble_eq_true rfl) dX8_odds_38 (fun q2 H2 L2 hf hw => ?_)
      refine lv_ladd hx hb dX8_odds_41 ?_
      refine h_nml hf (fun x3 hf => ?_)
      refine lv_lstore_n (lv' := [(2, .long x3), (0, .ref (B + c0)), (4, .int v4)]) hx hb dX8_odds_42 rfl hl (by decide) rfl (fun ls hl => ?_)
      refine h_iinc (k := 2) hf hx hb dX8_odds_43 hl rfl (by decide) (by decide) (fun x4 ls hf hl => ?_)
      have hl : lv_has ls 5 [(4, .int x4), (2, .long x3), (0, .ref (B + c0))] := hl
      refine lv_goto (tgt := 27) hx hb dX8_odds_46 (by decide) ?_
      exact ih x3 x4 q2.2 _ _ _ hf hw (lv_sub hl [2, 1, 0] rfl)
set_option maxRecDepth 100000 in
set_option maxHeartbeats 4000000 in
theorem wX8_odds {a0 : Nat} {p1 : Int32} {u0 : hM} {z : Int64 × hM} {ls : Array Slot} (hΓ : h_Γ E B T p s m args meth c cX8_odds 5 (some .long) RX8) (hf : fX8_odds T a0 p1 u0 = some z) (hw : h_W E B T s.heap u0 s.heap []) (hl : lv_has ls 5 [(0, .ref (B + a0)), (1, .int p1)]) : W p l e (h_rm 4) s m args below meth c s.heap [] 0 0 (h_Ql below E B T args s z) (F0 m 0 ls []) := by
  obtain ⟨hx, hb, hr, hml, hts, hown, hlk, hX⟩ := id hΓ
  unfold fX8_odds at hf
  refine lv_iload_n hx hb dX8_odds_0 rfl (lv_at hl 1 rfl) ?_
  refine h_cSi (As := [.int p1]) (rest := []) hf hx hb hml hts hown hX hw myX8_isType msX8_isType lkX8_234 (fun q hq => c_X8_isType l E B T p1 u0 hq) ⟨Nat.le_of_ble_eq_true rfl, Nat.le_of_ble_eq_true rfl⟩ ⟨Nat.le_refl _, Nat.le_refl _⟩ rfl hl.1 rfl (Nat.le_of_ble_eq_true rfl) dX8_odds_1 (fun q1 H1 L1 hf hw => ?_)
  refine lv_if_eq (tgt := 13) hx hb dX8_odds_4 (by decide) (fun hc => ?_) (fun hc => ?_)
  · have hf := ifp hc hf
    refine lv_iload_n hx hb dX8_odds_13 rfl (lv_at hl 1 rfl) ?_
    refine lv_iconst (v := -1) hx hb dX8_odds_14 (by decide) ?_
    refine lv_icmp_eq (tgt := 22) hx hb dX8_odds_15 (by decide) (fun hc => ?_) (fun hc => ?_)
    · have hf := ifp hc hf
      refine lv_lconst (v := 0) hx hb dX8_odds_22 (by decide) ?_
      refine lv_lstore_n (lv' := [(2, .long (0 : Int64)), (0, .ref (B + a0)), (1, .int p1)]) hx hb dX8_odds_23 rfl hl (by decide) rfl (fun ls hl => ?_)
      refine lv_iconst (v := 0) hx hb dX8_odds_24 (by decide) ?_
      refine lv_istore (lv' := [(4, .int (0 : Int32)), (2, .long (0 : Int64)), (0, .ref (B + a0)), (1, .int p1)]) hx hb dX8_odds_25 hl (by decide) rfl (fun ls hl => ?_)
      refine wfX8_odds_L27 hΓ ?_ 6000 (0 : Int64) (0 : Int32) q1.2 _ _ _ hf hw (lv_sub hl [2, 1, 0] rfl)
      intro x5 u6 H6 L6 ls hf hw hl
      refine lv_lload_n hx hb dX8_odds_49 rfl (lv_at hl 0 rfl) ?_
      exact h_lret hf hx hb hr hlk hw dX8_odds_50
    · have hf := ifn hc hf
      refine lv_ldc2 hx hb hown (hts _ klX8_252) dX8_odds_18 ?_
      exact h_lret hf hx hb hr hlk hw dX8_odds_21
  · have hf := ifn hc hf
    refine lv_aload_n hx hb dX8_odds_7 rfl (lv_at hl 0 rfl) ?_
    refine lv_iload_n hx hb dX8_odds_8 rfl (lv_at hl 1 rfl) ?_
    refine h_cVl (As := [.int p1]) (rest := []) hf hx hb hml hts hown hX hw myX8_oddsNow miX8_oddsNow lkX8_248 ⟨rfl, by decide⟩ (fun q hq => c_X8_oddsNow l E B T a0 p1 q1.2 hq) ⟨Nat.le_of_ble_eq_true rfl, Nat.le_of_ble_eq_true rfl⟩ ⟨Nat.le_refl _, Nat.le_refl _⟩ rfl hl.1 rfl (Nat.le_of_ble_eq_true rfl) dX8_odds_9 (fun q7 H7 L7 hf hw => ?_)
    exact h_lret hf hx hb hr hlk hw dX8_odds_12
theorem c_X8_odds (l : Launch) (E : hE) (B : Nat) (T : hT) (a0 : Nat) (p1 : Int32) (u0 : hM) {z : Int64 × hM} (hf : fX8_odds T a0 p1 u0 = some z) : h_Ct l E B T yX8_odds cX8_odds 5 (some .long) 4 [.ref (B + a0), .int p1] u0 z.2 (some (.long z.1)) := h_ofW (by decide) (Nat.le_of_ble_eq_true rfl) (fun p e s m below meth c ls hΓ hl hw => wX8_odds hΓ hf hw hl)
def fX8_greatestWith_L5 (T : hT) (c0 : Nat) (c1 : Int32) (c2 : Int32) (ex : Int64 → hM → Option (Int64 × hM)) : Nat → Int64 → Int32 → hM → Option (Int64 × hM)
  | 0, _, _, _ => none
  | n + 1, v3, v5, u0 => if (16 : Int32) ≤ v5 then (ex v3 u0) else ((vc T c0 8 (fX8_oddsNow T c0 v5 u0)).bind fun q1 => (gtr T q1.2 c0 8 3).bind fun a2 => (vc T a2 7 (fX7_percent T a2 c1 v5 c2 q1.2)).bind fun q3 => lt ((if (q1.1 * q3.1.toInt64) < v3 then v3 else (q1.1 * q3.1.toInt64))) fun x4 => lt (v5 + (1 : Int32)) fun x5 => fX8_greatestWith_L5 T c0 c1 c2 ex n x4 x5 q3.2)
def fX8_greatestWith (T : hT) (a0 : Nat) (p1 : Int32) (p2 : Int32) (u0 : hM) : Option (Int64 × hM) := fX8_greatestWith_L5 T a0 p1 p2 (fun (x6 : Int64) (u7 : hM) => some (x6, u7)) 6000 (0 : Int64) (0 : Int32) u0
set_option maxRecDepth 100000 in
set_option maxHeartbeats 4000000 in
theorem wfX8_greatestWith_L5 {c0 : Nat} {c1 : Int32} {c2 : Int32} {ex : Int64 → hM → Option (Int64 × hM)} {z : Int64 × hM} (hΓ : h_Γ E B T p s m args meth c cX8_greatestWith 6 (some .long) RX8) (hex : ∀ (y3 : Int64) (u9 : hM) (H9 : Heap) (L9 : List Loc) (ls : Array Slot), ex y3 u9 = some z → h_W E B T s.heap u9 H9 L9 → lv_has ls 6 [(3, .long y3)] → W p l e (h_rm 4) s m args below meth c H9 L9 0 0 (h_Ql below E B T args s z) (F0 m 42 ls [])) : ∀ (n : Nat) (v3 : Int64) (v5 : Int32) (u0 : hM) (H0 : Heap) (L0 : List Loc) (ls : Array Slot), fX8_greatestWith_L5 T c0 c1 c2 ex n v3 v5 u0 = some z → h_W E B T s.heap u0 H0 L0 → lv_has ls 6 [(0, .ref (B + c0)), (1, .int c1), (2, .int c2), (3, .long v3), (5, .int v5)] → W p l e (h_rm 4) s m args below meth c H0 L0 0 0 (h_Ql below E B T args s z) (F0 m 5 ls []) := by
  obtain ⟨hx, hb, hr, hml, hts, hown, hlk, hX⟩ := id hΓ
  intro n
  induction n with
  | zero =>
    intro v3 v5 u0 H0 L0 ls hf hw hl
    exact absurd (show (none : Option (Int64 × hM)) = some z from hf) (fun h => by cases h)
  | succ n ih =>
    intro v3 v5 u0 H0 L0 ls hf hw hl
    rw [fX8_greatestWith_L5] at hf
    refine lv_iload hx hb dX8_greatestWith_5 (lv_at hl 4 rfl) ?_
    refine lv_bipush (v := 16) hx hb dX8_greatestWith_7 (by decide) ?_
    refine lv_icmp_ge (tgt := 42) hx hb dX8_greatestWith_9 (by decide) (fun hc => ?_) (fun hc => ?_)
    · have hf := ifp hc hf
      exact hex v3 u0 _ _ _ hf hw (lv_sub hl [3] rfl)
    · have hf := ifn hc hf
      refine lv_lload_n hx hb dX8_greatestWith_12 rfl (lv_at hl 3 rfl) ?_
      refine lv_aload_n hx hb dX8_greatestWith_13 rfl (lv_at hl 0 rfl) ?_
      refine lv_iload hx hb dX8_greatestWith_14 (lv_at hl 4 rfl) ?_
      refine h_cVl (As := [.int v5]) (rest := [.long v3]) hf hx hb hml hts hown hX hw myX8_oddsNow miX8_oddsNow lkX8_248 ⟨rfl, by decide⟩ (fun q hq => c_X8_oddsNow l E B T c0 v5 u0 hq) ⟨Nat.le_of_ble_eq_true rfl, Nat.le_of_ble_eq_true rfl⟩ ⟨Nat.le_refl _, Nat.le_refl _⟩ rfl hl.1 rfl (Nat.le_of_ble_eq_true rfl) dX8_greatestWith_16 (fun q1 H1 L1 hf hw => ?_)
      refine lv_aload_n hx hb dX8_greatestWith_19 rfl (lv_at hl 0 rfl) ?_
      refine h_getr hf hx hb hts hown hX hw flX8_29 rfl dX8_greatestWith_20 (fun a2 hf => ?_)
      refine lv_iload_n hx hb dX8_greatestWith_23 rfl (lv_at hl 1 rfl) ?_
      refine lv_iload hx hb dX8_greatestWith_24 (lv_at hl 4 rfl) ?_
      refine lv_iload_n hx hb dX8_greatestWith_26 rfl (lv_at hl 2 rfl) ?_
      refine h_cVi (As := [.int c1, .int v5, .int c2]) (rest := [.long q1.1, .long v3]) hf hx hb hml hts hown hX hw myX7_percent miX7_percent lkX8_381 ⟨rfl, by decide⟩ (fun q hq => c_X7_percent l E B T a2 c1 v5 c2 q1.2 hq) ⟨Nat.le_of_ble_eq_true rfl, Nat.le_of_ble_eq_true rfl⟩ ⟨Nat.le_refl _, Nat.le_refl _⟩ rfl hl.1 rfl (Nat.le_of_ble_eq_true rfl) dX8_greatestWith_27 (fun q3 H3 L3 hf hw => ?_)
      refine lv_i2l hx hb dX8_greatestWith_30 rfl ?_
      refine lv_lmul hx hb dX8_greatestWith_31 ?_
      refine h_mmaxl (rest := []) hx hb hml hl.1 hts hown lkX8_385 ⟨Nat.le_of_ble_eq_true rfl, Nat.le_of_ble_eq_true rfl⟩ ⟨Nat.le_refl _, Nat.le_refl _⟩ dX8_greatestWith_32 ?_
      refine h_nml hf (fun x4 hf => ?_)
      refine lv_lstore_n (lv' := [(3, .long x4), (0, .ref (B + c0)), (1, .int c1), (2, .int c2), (5, .int v5)]) hx hb dX8_greatestWith_35 rfl hl (by decide) rfl (fun ls hl => ?_)
      refine h_iinc (k := 4) hf hx hb dX8_greatestWith_36 hl rfl (by decide) (by decide) (fun x5 ls hf hl => ?_)
      have hl : lv_has ls 6 [(5, .int x5), (3, .long x4), (0, .ref (B + c0)), (1, .int c1), (2, .int c2)] := hl
      refine lv_goto (tgt := 5) hx hb dX8_greatestWith_39 (by decide) ?_
      exact ih x4 x5 q3.2 _ _ _ hf hw (lv_sub hl [2, 3, 4, 1, 0] rfl)
set_option maxRecDepth 100000 in
set_option maxHeartbeats 4000000 in
theorem wX8_greatestWith {a0 : Nat} {p1 : Int32} {p2 : Int32} {u0 : hM} {z : Int64 × hM} {ls : Array Slot} (hΓ : h_Γ E B T p s m args meth c cX8_greatestWith 6 (some .long) RX8) (hf : fX8_greatestWith T a0 p1 p2 u0 = some z) (hw : h_W E B T s.heap u0 s.heap []) (hl : lv_has ls 6 [(0, .ref (B + a0)), (1, .int p1), (2, .int p2)]) : W p l e (h_rm 4) s m args below meth c s.heap [] 0 0 (h_Ql below E B T args s z) (F0 m 0 ls []) := by
  obtain ⟨hx, hb, hr, hml, hts, hown, hlk, hX⟩ := id hΓ
  unfold fX8_greatestWith at hf
  refine lv_lconst (v := 0) hx hb dX8_greatestWith_0 (by decide) ?_
  refine lv_lstore_n (lv' := [(3, .long (0 : Int64)), (0, .ref (B + a0)), (1, .int p1), (2, .int p2)]) hx hb dX8_greatestWith_1 rfl hl (by decide) rfl (fun ls hl => ?_)
  refine lv_iconst (v := 0) hx hb dX8_greatestWith_2 (by decide) ?_
  refine lv_istore (lv' := [(5, .int (0 : Int32)), (3, .long (0 : Int64)), (0, .ref (B + a0)), (1, .int p1), (2, .int p2)]) hx hb dX8_greatestWith_3 hl (by decide) rfl (fun ls hl => ?_)
  refine wfX8_greatestWith_L5 hΓ ?_ 6000 (0 : Int64) (0 : Int32) u0 _ _ _ hf hw (lv_sub hl [2, 3, 4, 1, 0] rfl)
  intro x6 u7 H7 L7 ls hf hw hl
  refine lv_lload_n hx hb dX8_greatestWith_42 rfl (lv_at hl 0 rfl) ?_
  exact h_lret hf hx hb hr hlk hw dX8_greatestWith_43
theorem c_X8_greatestWith (l : Launch) (E : hE) (B : Nat) (T : hT) (a0 : Nat) (p1 : Int32) (p2 : Int32) (u0 : hM) {z : Int64 × hM} (hf : fX8_greatestWith T a0 p1 p2 u0 = some z) : h_Ct l E B T yX8_greatestWith cX8_greatestWith 6 (some .long) 4 [.ref (B + a0), .int p1, .int p2] u0 z.2 (some (.long z.1)) := h_ofW (by decide) (Nat.le_of_ble_eq_true rfl) (fun p e s m below meth c ls hΓ hl hw => wX8_greatestWith hΓ hf hw hl)
end GEN
