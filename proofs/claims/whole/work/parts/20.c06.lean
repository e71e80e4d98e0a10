section GEN
variable {p : Program} {l : Launch} {e : Env} {s : State} {m : MethodId} {args : Array Value} {below : List Frame} {meth : Method} {c : Code} {E : hE} {B : Nat} {T : hT}
def fX8_tear (T : hT) (a0 : Nat) (u0 : hM) : Option (Int32 × hM) := (gti T u0 a0 8 11).bind fun x1 => (pti T u0 a0 8 11 (0 : Int32)).bind fun u2 => some (x1, u2)
set_option maxRecDepth 100000 in
set_option maxHeartbeats 4000000 in
theorem wX8_tear {a0 : Nat} {u0 : hM} {z : Int32 × hM} {ls : Array Slot} (hΓ : h_Γ E B T p s m args meth c cX8_tear 2 (some .int) RX8) (hf : fX8_tear T a0 u0 = some z) (hw : h_W E B T s.heap u0 s.heap []) (hl : lv_has ls 2 [(0, .ref (B + a0))]) : W p l e (h_rm 0) s m args below meth c s.heap [] 0 0 (h_Qi below E B T args s z) (F0 m 0 ls []) := by
  obtain ⟨hx, hb, hr, hml, hts, hown, hlk, hX⟩ := id hΓ
  unfold fX8_tear at hf
  refine lv_aload_n hx hb dX8_tear_0 rfl (lv_at hl 0 rfl) ?_
  refine h_geti hf hx hb hts hown hX hw flX8_73 rfl dX8_tear_1 (fun x1 hf => ?_)
  refine lv_istore_n (lv' := [(1, .int x1), (0, .ref (B + a0))]) hx hb dX8_tear_4 rfl hl (by decide) rfl (fun ls hl => ?_)
  refine lv_aload_n hx hb dX8_tear_5 rfl (lv_at hl 1 rfl) ?_
  refine lv_iconst (v := 0) hx hb dX8_tear_6 (by decide) ?_
  refine h_puti hf hx hb hts hown hX hw flX8_73 ⟨rfl, rfl⟩ dX8_tear_7 (fun u2 H2 L2 hf hw => ?_)
  refine lv_iload_n hx hb dX8_tear_10 rfl (lv_at hl 0 rfl) ?_
  exact h_iret hf hx hb hr hlk hw dX8_tear_11
theorem c_X8_tear (l : Launch) (E : hE) (B : Nat) (T : hT) (a0 : Nat) (u0 : hM) {z : Int32 × hM} (hf : fX8_tear T a0 u0 = some z) : h_Ct l E B T yX8_tear cX8_tear 2 (some .int) 0 [.ref (B + a0)] u0 z.2 (some (.int z.1)) := h_ofW (by decide) (Nat.le_of_ble_eq_true rfl) (fun p e s m below meth c ls hΓ hl hw => wX8_tear hΓ hf hw hl)
def fX8_judge_L12 (T : hT) (c0 : Nat) (ex : hM → Option (Int32 × hM)) : Nat → Int32 → hM → Option (Int32 × hM)
  | 0, _, _ => none
  | n + 1, v1, u0 => (gti T u0 c0 8 11).bind fun x2 => if x2 ≤ v1 then (ex u0) else ((gtr T u0 c0 8 6).bind fun a3 => (gtr T u0 a3 5 0).bind fun a4 => (vc T a4 4 (fX4_heightAt T a4 v1 u0)).bind fun q5 => if q5.1 = (-1 : Int32) then (some (v1, q5.2)) else ((gtr T q5.2 c0 8 10).bind fun a6 => (ald 11 T q5.2 a6 v1).bind fun x7 => (fX8_isNear T (x7 - q5.1) q5.2).bind fun q8 => if q8.1 = 0 then (some (v1, q8.2)) else (lt (v1 + (1 : Int32)) fun x9 => fX8_judge_L12 T c0 ex n x9 q8.2)))
def fX8_judge (T : hT) (a0 : Nat) (u0 : hM) : Option (Int32 × hM) := (vc T a0 8 (fX8_hasSong T a0 u0)).bind fun q1 => if q1.1 = 0 then (some ((-1000000003 : Int32), q1.2)) else (fX8_judge_L12 T a0 (fun (u10 : hM) => some ((-1 : Int32), u10)) 6000 (0 : Int32) q1.2)
set_option maxRecDepth 100000 in
set_option maxHeartbeats 4000000 in
theorem wfX8_judge_L12 {c0 : Nat} {ex : hM → Option (Int32 × hM)} {z : Int32 × hM} (hΓ : h_Γ E B T p s m args meth c cX8_judge 3 (some .int) RX8) (hex : ∀ (u9 : hM) (H9 : Heap) (L9 : List Loc) (ls : Array Slot), ex u9 = some z → h_W E B T s.heap u9 H9 L9 → lv_has ls 3 [] → W p l e (h_rm 2) s m args below meth c H9 L9 0 0 (h_Qi below E B T args s z) (F0 m 59 ls [])) : ∀ (n : Nat) (v1 : Int32) (u0 : hM) (H0 : Heap) (L0 : List Loc) (ls : Array Slot), fX8_judge_L12 T c0 ex n v1 u0 = some z → h_W E B T s.heap u0 H0 L0 → lv_has ls 3 [(0, .ref (B + c0)), (1, .int v1)] → W p l e (h_rm 2) s m args below meth c H0 L0 0 0 (h_Qi below E B T args s z) (F0 m 12 ls []) := by
  obtain ⟨hx, hb, hr, hml, hts, hown, hlk, hX⟩ := id hΓ
  intro n
  induction n with
  | zero =>
    intro v1 u0 H0 L0 ls hf hw hl
    exact absurd (show (none : Option (Int32 × hM)) = some z from hf) (fun h => by cases h)
  | succ n ih =>
    intro v1 u0 H0 L0 ls hf hw hl
    rw [fX8_judge_L12] at hf
    refine lv_iload_n hx hb dX8_judge_12 rfl (lv_at hl 1 rfl) ?_
    refine lv_aload_n hx hb dX8_judge_13 rfl (lv_at hl 0 rfl) ?_
    refine h_geti hf hx hb hts hown hX hw flX8_73 rfl dX8_judge_14 (fun x2 hf => ?_)
    refine lv_icmp_ge (tgt := 59) hx hb dX8_judge_17 (by decide) (fun hc => ?_) (fun hc => ?_)
    · have hf := ifp hc hf
      exact hex  u0 _ _ _ hf hw (lv_sub hl [] rfl)
    · have hf := ifn hc hf
      refine lv_aload_n hx hb dX8_judge_20 rfl (lv_at hl 0 rfl) ?_
      refine h_getr hf hx hb hts hown hX hw flX8_47 rfl dX8_judge_21 (fun a3 hf => ?_)
      refine h_getr hf hx hb hts hown hX hw flX8_145 rfl dX8_judge_24 (fun a4 hf => ?_)
      refine lv_iload_n hx hb dX8_judge_27 rfl (lv_at hl 1 rfl) ?_
      refine h_cVi (As := [.int v1]) (rest := []) hf hx hb hml hts hown hX hw myX4_heightAt miX4_heightAt lkX8_220 ⟨rfl, by decide⟩ (fun q hq => c_X4_heightAt l E B T a4 v1 u0 hq) ⟨Nat.le_of_ble_eq_true rfl, Nat.le_of_ble_eq_true rfl⟩ ⟨Nat.le_refl _, Nat.le_refl _⟩ rfl hl.1 rfl (Nat.le_of_ble_eq_true rfl) dX8_judge_28 (fun q5 H5 L5 hf hw => ?_)
      refine lv_istore_n (lv' := [(2, .int q5.1), (0, .ref (B + c0)), (1, .int v1)]) hx hb dX8_judge_31 rfl hl (by decide) rfl (fun ls hl => ?_)
      refine lv_iload_n hx hb dX8_judge_32 rfl (lv_at hl 0 rfl) ?_
      refine lv_iconst (v := -1) hx hb dX8_judge_33 (by decide) ?_
      refine lv_icmp_eq (tgt := 51) hx hb dX8_judge_34 (by decide) (fun hc => ?_) (fun hc => ?_)
      · have hf := ifp hc hf
        refine lv_iload_n hx hb dX8_judge_51 rfl (lv_at hl 2 rfl) ?_
        exact h_iret hf hx hb hr hlk hw dX8_judge_52
      · have hf := ifn hc hf
        refine lv_aload_n hx hb dX8_judge_37 rfl (lv_at hl 1 rfl) ?_
        refine h_getr hf hx hb hts hown hX hw flX8_69 rfl dX8_judge_38 (fun a6 hf => ?_)
        refine lv_iload_n hx hb dX8_judge_41 rfl (lv_at hl 2 rfl) ?_
        refine h_iald hf hx hb hX hw dX8_judge_42 (fun x7 hf => ?_)
        refine lv_iload_n hx hb dX8_judge_43 rfl (lv_at hl 0 rfl) ?_
        refine lv_isub hx hb dX8_judge_44 ?_
        refine h_cSi (As := [.int (x7 - q5.1)]) (rest := []) hf hx hb hml hts hown hX hw myX8_isNear msX8_isNear lkX8_309 (fun q hq => c_X8_isNear l E B T (x7 - q5.1) q5.2 hq) ⟨Nat.le_of_ble_eq_true rfl, Nat.le_of_ble_eq_true rfl⟩ ⟨Nat.le_refl _, Nat.le_refl _⟩ rfl hl.1 rfl (Nat.le_of_ble_eq_true rfl) dX8_judge_45 (fun q8 H8 L8 hf hw => ?_)
        refine lv_if_ne (tgt := 53) hx hb dX8_judge_48 (by decide) (fun hc => ?_) (fun hc => ?_)
        · have hf := ifn hc hf
          refine h_iinc (k := 2) hf hx hb dX8_judge_53 hl rfl (by decide) (by decide) (fun x9 ls hf hl => ?_)
          have hl : lv_has ls 3 [(1, .int x9), (2, .int q5.1), (0, .ref (B + c0))] := hl
          refine lv_goto (tgt := 12) hx hb dX8_judge_56 (by decide) ?_
          exact ih x9 q8.2 _ _ _ hf hw (lv_sub hl [2, 0] rfl)
        · have hf := ifp hc hf
          refine lv_iload_n hx hb dX8_judge_51 rfl (lv_at hl 2 rfl) ?_
          exact h_iret hf hx hb hr hlk hw dX8_judge_52
set_option maxRecDepth 100000 in
set_option maxHeartbeats 4000000 in
theorem wX8_judge {a0 : Nat} {u0 : hM} {z : Int32 × hM} {ls : Array Slot} (hΓ : h_Γ E B T p s m args meth c cX8_judge 3 (some .int) RX8) (hf : fX8_judge T a0 u0 = some z) (hw : h_W E B T s.heap u0 s.heap []) (hl : lv_has ls 3 [(0, .ref (B + a0))]) : W p l e (h_rm 2) s m args below meth c s.heap [] 0 0 (h_Qi below E B T args s z) (F0 m 0 ls []) := by
  obtain ⟨hx, hb, hr, hml, hts, hown, hlk, hX⟩ := id hΓ
  unfold fX8_judge at hf
  refine lv_aload_n hx hb dX8_judge_0 rfl (lv_at hl 0 rfl) ?_
  refine h_cVi (As := []) (rest := []) hf hx hb hml hts hown hX hw myX8_hasSong miX8_hasSong lkX8_216 ⟨rfl, by decide⟩ (fun q hq => c_X8_hasSong l E B T a0 u0 hq) ⟨Nat.le_of_ble_eq_true rfl, Nat.le_of_ble_eq_true rfl⟩ ⟨Nat.le_refl _, Nat.le_refl _⟩ rfl hl.1 rfl (Nat.le_of_ble_eq_true rfl) dX8_judge_1 (fun q1 H1 L1 hf hw => ?_)
  refine lv_if_ne (tgt := 10) hx hb dX8_judge_4 (by decide) (fun hc => ?_) (fun hc => ?_)
  · have hf := ifn hc hf
    refine lv_iconst (v := 0) hx hb dX8_judge_10 (by decide) ?_
    refine lv_istore_n (lv' := [(1, .int (0 : Int32)), (0, .ref (B + a0))]) hx hb dX8_judge_11 rfl hl (by decide) rfl (fun ls hl => ?_)
    refine wfX8_judge_L12 hΓ ?_ 6000 (0 : Int32) q1.2 _ _ _ hf hw (lv_sub hl [1, 0] rfl)
    intro u10 H10 L10 ls hf hw hl
    refine lv_iconst (v := -1) hx hb dX8_judge_59 (by decide) ?_
    exact h_iret hf hx hb hr hlk hw dX8_judge_60
  · have hf := ifp hc hf
    refine lv_ldc hx hb hown (hts _ kcX8_219) dX8_judge_7 ?_
    exact h_iret hf hx hb hr hlk hw dX8_judge_9
theorem c_X8_judge (l : Launch) (E : hE) (B : Nat) (T : hT) (a0 : Nat) (u0 : hM) {z : Int32 × hM} (hf : fX8_judge T a0 u0 = some z) : h_Ct l E B T yX8_judge cX8_judge 3 (some .int) 2 [.ref (B + a0)] u0 z.2 (some (.int z.1)) := h_ofW (by decide) (Nat.le_of_ble_eq_true rfl) (fun p e s m below meth c ls hΓ hl hw => wX8_judge hΓ hf hw hl)
def fX8_seed (T : hT) (a0 : Nat) (p1 : Int32) (u0 : hM) : Option (Int32 × hM) := if 0 ≤ p1 then ((gtr T u0 a0 8 6).bind fun a1 => (gti T u0 a1 5 6).bind fun x2 => (gtr T u0 a0 8 6).bind fun a3 => (pti T u0 a3 5 6 p1).bind fun u4 => some (x2, u4)) else (some ((-1000000002 : Int32), u0))
set_option maxRecDepth 100000 in
set_option maxHeartbeats 4000000 in
theorem wX8_seed {a0 : Nat} {p1 : Int32} {u0 : hM} {z : Int32 × hM} {ls : Array Slot} (hΓ : h_Γ E B T p s m args meth c cX8_seed 3 (some .int) RX8) (hf : fX8_seed T a0 p1 u0 = some z) (hw : h_W E B T s.heap u0 s.heap []) (hl : lv_has ls 3 [(0, .ref (B + a0)), (1, .int p1)]) : W p l e (h_rm 0) s m args below meth c s.heap [] 0 0 (h_Qi below E B T args s z) (F0 m 0 ls []) := by
  obtain ⟨hx, hb, hr, hml, hts, hown, hlk, hX⟩ := id hΓ
  unfold fX8_seed at hf
  refine lv_iload_n hx hb dX8_seed_0 rfl (lv_at hl 1 rfl) ?_
  refine lv_if_ge (tgt := 7) hx hb dX8_seed_1 (by decide) (fun hc => ?_) (fun hc => ?_)
  · have hf := ifp hc hf
    refine lv_aload_n hx hb dX8_seed_7 rfl (lv_at hl 0 rfl) ?_
    refine h_getr hf hx hb hts hown hX hw flX8_47 rfl dX8_seed_8 (fun a1 hf => ?_)
    refine h_geti hf hx hb hts hown hX hw flX8_312 rfl dX8_seed_11 (fun x2 hf => ?_)
    refine lv_istore_n (lv' := [(2, .int x2), (0, .ref (B + a0)), (1, .int p1)]) hx hb dX8_seed_14 rfl hl (by decide) rfl (fun ls hl => ?_)
    refine lv_aload_n hx hb dX8_seed_15 rfl (lv_at hl 1 rfl) ?_
    refine h_getr hf hx hb hts hown hX hw flX8_47 rfl dX8_seed_16 (fun a3 hf => ?_)
    refine lv_iload_n hx hb dX8_seed_19 rfl (lv_at hl 2 rfl) ?_
    refine h_puti hf hx hb hts hown hX hw flX8_312 ⟨rfl, rfl⟩ dX8_seed_20 (fun u4 H4 L4 hf hw => ?_)
    refine lv_iload_n hx hb dX8_seed_23 rfl (lv_at hl 0 rfl) ?_
    exact h_iret hf hx hb hr hlk hw dX8_seed_24
  · have hf := ifn hc hf
    refine lv_ldc hx hb hown (hts _ kcX8_95) dX8_seed_4 ?_
    exact h_iret hf hx hb hr hlk hw dX8_seed_6
theorem c_X8_seed (l : Launch) (E : hE) (B : Nat) (T : hT) (a0 : Nat) (p1 : Int32) (u0 : hM) {z : Int32 × hM} (hf : fX8_seed T a0 p1 u0 = some z) : h_Ct l E B T yX8_seed cX8_seed 3 (some .int) 0 [.ref (B + a0), .int p1] u0 z.2 (some (.int z.1)) := h_ofW (by decide) (Nat.le_of_ble_eq_true rfl) (fun p e s m below meth c ls hΓ hl hw => wX8_seed hΓ hf hw hl)
def fX4_copyFrom (T : hT) (a0 : Nat) (r1 : Nat) (u0 : hM) : Option (hM) := (gtr T u0 r1 4 0).bind fun a1 => (gtr T u0 a0 4 0).bind fun a2 => (acp T u0 a1 (0 : Int32) a2 (0 : Int32) (40 : Int32)).bind fun u3 => (gti T u3 r1 4 1).bind fun x4 => (pti T u3 a0 4 1 x4).bind fun u5 => (gti T u5 r1 4 2).bind fun x6 => (pti T u5 a0 4 2 x6).bind fun u7 => some u7
set_option maxRecDepth 100000 in
set_option maxHeartbeats 4000000 in
theorem wX4_copyFrom {a0 : Nat} {r1 : Nat} {u0 : hM} {z : hM} {ls : Array Slot} (hΓ : h_Γ E B T p s m args meth c cX4_copyFrom 2 none RX4) (hf : fX4_copyFrom T a0 r1 u0 = some z) (hw : h_W E B T s.heap u0 s.heap []) (hl : lv_has ls 2 [(0, .ref (B + a0)), (1, .ref (B + r1))]) : W p l e (h_rm 1) s m args below meth c s.heap [] 0 0 (h_Qv below E B T args s z) (F0 m 0 ls []) := by
  obtain ⟨hx, hb, hr, hml, hts, hown, hlk, hX⟩ := id hΓ
  unfold fX4_copyFrom at hf
  refine lv_aload_n hx hb dX4_copyFrom_0 rfl (lv_at hl 1 rfl) ?_
  refine h_getr hf hx hb hts hown hX hw flX4_9 rfl dX4_copyFrom_1 (fun a1 hf => ?_)
  refine lv_iconst (v := 0) hx hb dX4_copyFrom_4 (by decide) ?_
  refine lv_aload_n hx hb dX4_copyFrom_5 rfl (lv_at hl 0 rfl) ?_
  refine h_getr hf hx hb hts hown hX hw flX4_9 rfl dX4_copyFrom_6 (fun a2 hf => ?_)
  refine lv_iconst (v := 0) hx hb dX4_copyFrom_9 (by decide) ?_
  refine lv_bipush (v := 40) hx hb dX4_copyFrom_10 (by decide) ?_
  refine h_acp hf hx hb hml hl.1 hts hown hX hw lkX4_22 ⟨Nat.le_of_ble_eq_true rfl, Nat.le_of_ble_eq_true rfl⟩ dX4_copyFrom_12 (fun u3 H3 L3 hf hw => ?_)
  refine lv_aload_n hx hb dX4_copyFrom_15 rfl (lv_at hl 0 rfl) ?_
  refine lv_aload_n hx hb dX4_copyFrom_16 rfl (lv_at hl 1 rfl) ?_
  refine h_geti hf hx hb hts hown hX hw flX4_15 rfl dX4_copyFrom_17 (fun x4 hf => ?_)
  refine h_puti hf hx hb hts hown hX hw flX4_15 ⟨rfl, rfl⟩ dX4_copyFrom_20 (fun u5 H5 L5 hf hw => ?_)
  refine lv_aload_n hx hb dX4_copyFrom_23 rfl (lv_at hl 0 rfl) ?_
  refine lv_aload_n hx hb dX4_copyFrom_24 rfl (lv_at hl 1 rfl) ?_
  refine h_geti hf hx hb hts hown hX hw flX4_19 rfl dX4_copyFrom_25 (fun x6 hf => ?_)
  refine h_puti hf hx hb hts hown hX hw flX4_19 ⟨rfl, rfl⟩ dX4_copyFrom_28 (fun u7 H7 L7 hf hw => ?_)
  exact h_vret hf hx hb hr hlk hw dX4_copyFrom_31
theorem c_X4_copyFrom (l : Launch) (E : hE) (B : Nat) (T : hT) (a0 : Nat) (r1 : Nat) (u0 : hM) {z : hM} (hf : fX4_copyFrom T a0 r1 u0 = some z) : h_Ct l E B T yX4_copyFrom cX4_copyFrom 2 none 1 [.ref (B + a0), .ref (B + r1)] u0 z none := h_ofW (by decide) (Nat.le_of_ble_eq_true rfl) (fun p e s m below meth c ls hΓ hl hw => wX4_copyFrom hΓ hf hw hl)
def fX5_copyFrom_L28 (T : hT) (c0 : Nat) (c1 : Nat) (ex : hM → Option (hM)) : Nat → Int32 → hM → Option (hM)
  | 0, _, _ => none
  | n + 1, v2, u0 => if (12 : Int32) ≤ v2 then (ex u0) else ((gtr T u0 c0 5 2).bind fun a7 => (aldr 15 T u0 a7 v2).bind fun a8 => (gtr T u0 c1 5 2).bind fun a9 => (aldr 15 T u0 a9 v2).bind fun a10 => (vc T a8 3 (fX3_copyFrom T a8 a10 u0)).bind fun q11 => lt (v2 + (1 : Int32)) fun x12 => fX5_copyFrom_L28 T c0 c1 ex n x12 q11)
def fX5_copyFrom (T : hT) (a0 : Nat) (r1 : Nat) (u0 : hM) : Option (hM) := (gtr T u0 a0 5 0).bind fun a1 => (gtr T u0 r1 5 0).bind fun a2 => (vc T a1 4 (fX4_copyFrom T a1 a2 u0)).bind fun q3 => (gtr T q3 r1 5 1).bind fun a4 => (gtr T q3 a0 5 1).bind fun a5 => (acp T q3 a4 (0 : Int32) a5 (0 : Int32) (16 : Int32)).bind fun u6 => fX5_copyFrom_L28 T a0 r1 (fun (u13 : hM) => (gti T u13 r1 5 3).bind fun x14 => (pti T u13 a0 5 3 x14).bind fun u15 => (gti T u15 r1 5 4).bind fun x16 => (pti T u15 a0 5 4 x16).bind fun u17 => (gti T u17 r1 5 5).bind fun x18 => (pti T u17 a0 5 5 x18).bind fun u19 => (gti T u19 r1 5 6).bind fun x20 => (pti T u19 a0 5 6 x20).bind fun u21 => some u21) 6000 (0 : Int32) u6
set_option maxRecDepth 100000 in
set_option maxHeartbeats 4000000 in
theorem wfX5_copyFrom_L28 {c0 : Nat} {c1 : Nat} {ex : hM → Option (hM)} {z : hM} (hΓ : h_Γ E B T p s m args meth c cX5_copyFrom 3 none RX5) (hex : ∀ (u9 : hM) (H9 : Heap) (L9 : List Loc) (ls : Array Slot), ex u9 = some z → h_W E B T s.heap u9 H9 L9 → lv_has ls 3 [(0, .ref (B + c0)), (1, .ref (B + c1))] → W p l e (h_rm 2) s m args below meth c H9 L9 0 0 (h_Qv below E B T args s z) (F0 m 55 ls [])) : ∀ (n : Nat) (v2 : Int32) (u0 : hM) (H0 : Heap) (L0 : List Loc) (ls : Array Slot), fX5_copyFrom_L28 T c0 c1 ex n v2 u0 = some z → h_W E B T s.heap u0 H0 L0 → lv_has ls 3 [(0, .ref (B + c0)), (1, .ref (B + c1)), (2, .int v2)] → W p l e (h_rm 2) s m args below meth c H0 L0 0 0 (h_Qv below E B T args s z) (F0 m 28 ls []) := by
  obtain ⟨hx, hb, hr, hml, hts, hown, hlk, hX⟩ := id hΓ
  intro n
  induction n with
  | zero =>
    intro v2 u0 H0 L0 ls hf hw hl
    exact absurd (show (none : Option (hM)) = some z from hf) (fun h => by cases h)
  | succ n ih =>
    intro v2 u0 H0 L0 ls hf hw hl
    rw [fX5_copyFrom_L28] at hf
    refine lv_iload_n hx hb dX5_copyFrom_28 rfl (lv_at hl 2 rfl) ?_
    refine lv_bipush (v := 12) hx hb dX5_copyFrom_29 (by decide) ?_
    refine lv_icmp_ge (tgt := 55) hx hb dX5_copyFrom_31 (by decide) (fun hc => ?_) (fun hc => ?_)
    · have hf := ifp hc hf
      exact hex  u0 _ _ _ hf hw (lv_sub hl [0, 1] rfl)
    · have hf := ifn hc hf
      refine lv_aload_n hx hb dX5_copyFrom_34 rfl (lv_at hl 0 rfl) ?_
      refine h_getr hf hx hb hts hown hX hw flX5_26 rfl dX5_copyFrom_35 (fun a7 hf => ?_)
      refine lv_iload_n hx hb dX5_copyFrom_38 rfl (lv_at hl 2 rfl) ?_
      refine h_aald15 hf hx hb hX hw dX5_copyFrom_39 (fun a8 hf => ?_)
      refine lv_aload_n hx hb dX5_copyFrom_40 rfl (lv_at hl 1 rfl) ?_
      refine h_getr hf hx hb hts hown hX hw flX5_26 rfl dX5_copyFrom_41 (fun a9 hf => ?_)
      refine lv_iload_n hx hb dX5_copyFrom_44 rfl (lv_at hl 2 rfl) ?_
      refine h_aald15 hf hx hb hX hw dX5_copyFrom_45 (fun a10 hf => ?_)
      refine h_cVv (As := [.ref (B + a10)]) (rest := []) hf hx hb hml hts hown hX hw myX3_copyFrom miX3_copyFrom lkX5_63 ⟨rfl, by decide⟩ (fun q hq => c_X3_copyFrom l E B T a8 a10 u0 hq) ⟨Nat.le_of_ble_eq_true rfl, Nat.le_of_ble_eq_true rfl⟩ ⟨Nat.le_refl _, Nat.le_refl _⟩ rfl hl.1 rfl (Nat.le_of_ble_eq_true rfl) dX5_copyFrom_46 (fun q11 H11 L11 hf hw => ?_)
      refine h_iinc (k := 2) hf hx hb dX5_copyFrom_49 hl rfl (by decide) (by decide) (fun x12 ls hf hl => ?_)
      have hl : lv_has ls 3 [(2, .int x12), (0, .ref (B + c0)), (1, .ref (B + c1))] := hl
      refine lv_goto (tgt := 28) hx hb dX5_copyFrom_52 (by decide) ?_
      exact ih x12 q11 _ _ _ hf hw (lv_sub hl [1, 2, 0] rfl)
set_option maxRecDepth 100000 in
set_option maxHeartbeats 4000000 in
theorem wX5_copyFrom {a0 : Nat} {r1 : Nat} {u0 : hM} {z : hM} {ls : Array Slot} (hΓ : h_Γ E B T p s m args meth c cX5_copyFrom 3 none RX5) (hf : fX5_copyFrom T a0 r1 u0 = some z) (hw : h_W E B T s.heap u0 s.heap []) (hl : lv_has ls 3 [(0, .ref (B + a0)), (1, .ref (B + r1))]) : W p l e (h_rm 2) s m args below meth c s.heap [] 0 0 (h_Qv below E B T args s z) (F0 m 0 ls []) := by
  obtain ⟨hx, hb, hr, hml, hts, hown, hlk, hX⟩ := id hΓ
  unfold fX5_copyFrom at hf
  refine lv_aload_n hx hb dX5_copyFrom_0 rfl (lv_at hl 0 rfl) ?_
  refine h_getr hf hx hb hts hown hX hw flX5_12 rfl dX5_copyFrom_1 (fun a1 hf => ?_)
  refine lv_aload_n hx hb dX5_copyFrom_4 rfl (lv_at hl 1 rfl) ?_
  refine h_getr hf hx hb hts hown hX hw flX5_12 rfl dX5_copyFrom_5 (fun a2 hf => ?_)
  refine h_cVv (As := [.ref (B + a2)]) (rest := []) hf hx hb hml hts hown hX hw myX4_copyFrom miX4_copyFrom lkX5_53 ⟨rfl, by decide⟩ (fun q hq => c_X4_copyFrom l E B T a1 a2 u0 hq) ⟨Nat.le_of_ble_eq_true rfl, Nat.le_of_ble_eq_true rfl⟩ ⟨Nat.le_refl _, Nat.le_refl _⟩ rfl hl.1 rfl (Nat.le_of_ble_eq_true rfl) dX5_copyFrom_8 (fun q3 H3 L3 hf hw => ?_)
  refine lv_aload_n hx hb dX5_copyFrom_11 rfl (lv_at hl 1 rfl) ?_
  refine h_getr hf hx hb hts hown hX hw flX5_18 rfl dX5_copyFrom_12 (fun a4 hf => ?_)
  refine lv_iconst (v := 0) hx hb dX5_copyFrom_15 (by decide) ?_
  refine lv_aload_n hx hb dX5_copyFrom_16 rfl (lv_at hl 0 rfl) ?_
  refine h_getr hf hx hb hts hown hX hw flX5_18 rfl dX5_copyFrom_17 (fun a5 hf => ?_)
  refine lv_iconst (v := 0) hx hb dX5_copyFrom_20 (by decide) ?_
  refine lv_bipush (v := 16) hx hb dX5_copyFrom_21 (by decide) ?_
  refine h_acp hf hx hb hml hl.1 hts hown hX hw lkX5_57 ⟨Nat.le_of_ble_eq_true rfl, Nat.le_of_ble_eq_true rfl⟩ dX5_copyFrom_23 (fun u6 H6 L6 hf hw => ?_)
  refine lv_iconst (v := 0) hx hb dX5_copyFrom_26 (by decide) ?_
  refine lv_istore_n (lv' := [(2, .int (0 : Int32)), (0, .ref (B + a0)), (1, .ref (B + r1))]) hx hb dX5_copyFrom_27 rfl hl (by decide) rfl (fun ls hl => ?_)
  refine wfX5_copyFrom_L28 hΓ ?_ 6000 (0 : Int32) u6 _ _ _ hf hw (lv_sub hl [1, 2, 0] rfl)
  intro u13 H13 L13 ls hf hw hl
  refine lv_aload_n hx hb dX5_copyFrom_55 rfl (lv_at hl 0 rfl) ?_
  refine lv_aload_n hx hb dX5_copyFrom_56 rfl (lv_at hl 1 rfl) ?_
  refine h_geti hf hx hb hts hown hX hw flX5_30 rfl dX5_copyFrom_57 (fun x14 hf => ?_)
  refine h_puti hf hx hb hts hown hX hw flX5_30 ⟨rfl, rfl⟩ dX5_copyFrom_60 (fun u15 H15 L15 hf hw => ?_)
  refine lv_aload_n hx hb dX5_copyFrom_63 rfl (lv_at hl 0 rfl) ?_
  refine lv_aload_n hx hb dX5_copyFrom_64 rfl (lv_at hl 1 rfl) ?_
  refine h_geti hf hx hb hts hown hX hw flX5_34 rfl dX5_copyFrom_65 (fun x16 hf => ?_)
  refine h_puti hf hx hb hts hown hX hw flX5_34 ⟨rfl, rfl⟩ dX5_copyFrom_68 (fun u17 H17 L17 hf hw => ?_)
  refine lv_aload_n hx hb dX5_copyFrom_71 rfl (lv_at hl 0 rfl) ?_
  refine lv_aload_n hx hb dX5_copyFrom_72 rfl (lv_at hl 1 rfl) ?_
  refine h_geti hf hx hb hts hown hX hw flX5_37 rfl dX5_copyFrom_73 (fun x18 hf => ?_)
  refine h_puti hf hx hb hts hown hX hw flX5_37 ⟨rfl, rfl⟩ dX5_copyFrom_76 (fun u19 H19 L19 hf hw => ?_)
  refine lv_aload_n hx hb dX5_copyFrom_79 rfl (lv_at hl 0 rfl) ?_
  refine lv_aload_n hx hb dX5_copyFrom_80 rfl (lv_at hl 1 rfl) ?_
  refine h_geti hf hx hb hts hown hX hw flX5_40 rfl dX5_copyFrom_81 (fun x20 hf => ?_)
  refine h_puti hf hx hb hts hown hX hw flX5_40 ⟨rfl, rfl⟩ dX5_copyFrom_84 (fun u21 H21 L21 hf hw => ?_)
  exact h_vret hf hx hb hr hlk hw dX5_copyFrom_87
theorem c_X5_copyFrom (l : Launch) (E : hE) (B : Nat) (T : hT) (a0 : Nat) (r1 : Nat) (u0 : hM) {z : hM} (hf : fX5_copyFrom T a0 r1 u0 = some z) : h_Ct l E B T yX5_copyFrom cX5_copyFrom 3 none 2 [.ref (B + a0), .ref (B + r1)] u0 z none := h_ofW (by decide) (Nat.le_of_ble_eq_true rfl) (fun p e s m below meth c ls hΓ hl hw => wX5_copyFrom hΓ hf hw hl)
def fX8_keep (T : hT) (a0 : Nat) (p1 : Int32) (u0 : hM) : Option (Int32 × hM) := (fX8_isWithin T p1 (0 : Int32) (1 : Int32) u0).bind fun q1 => if q1.1 = 0 then (some ((-1000000001 : Int32), q1.2)) else ((gtr T q1.2 a0 8 7).bind fun a2 => (aldr 16 T q1.2 a2 p1).bind fun a3 => (gtr T q1.2 a0 8 6).bind fun a4 => (vc T a3 5 (fX5_copyFrom T a3 a4 q1.2)).bind fun q5 => (gtr T q5 a0 8 7).bind fun a6 => (aldr 16 T q5 a6 p1).bind fun a7 => (ptz T q5 a7 5 7 (1 : Int32)).bind fun u8 => some ((1 : Int32), u8))
set_option maxRecDepth 100000 in
set_option maxHeartbeats 4000000 in
theorem wX8_keep {a0 : Nat} {p1 : Int32} {u0 : hM} {z : Int32 × hM} {ls : Array Slot} (hΓ : h_Γ E B T p s m args meth c cX8_keep 2 (some .int) RX8) (hf : fX8_keep T a0 p1 u0 = some z) (hw : h_W E B T s.heap u0 s.heap []) (hl : lv_has ls 2 [(0, .ref (B + a0)), (1, .int p1)]) : W p l e (h_rm 3) s m args below meth c s.heap [] 0 0 (h_Qi below E B T args s z) (F0 m 0 ls []) := by
  obtain ⟨hx, hb, hr, hml, hts, hown, hlk, hX⟩ := id hΓ
  unfold fX8_keep at hf
  refine lv_iload_n hx hb dX8_keep_0 rfl (lv_at hl 1 rfl) ?_
  refine lv_iconst (v := 0) hx hb dX8_keep_1 (by decide) ?_
  refine lv_iconst (v := 1) hx hb dX8_keep_2 (by decide) ?_
  refine h_cSi (As := [.int p1, .int (0 : Int32), .int (1 : Int32)]) (rest := []) hf hx hb hml hts hown hX hw myX8_isWithin msX8_isWithin lkX8_91 (fun q hq => c_X8_isWithin l E B T p1 (0 : Int32) (1 : Int32) u0 hq) ⟨Nat.le_of_ble_eq_true rfl, Nat.le_of_ble_eq_true rfl⟩ ⟨Nat.le_refl _, Nat.le_refl _⟩ rfl hl.1 rfl (Nat.le_of_ble_eq_true rfl) dX8_keep_3 (fun q1 H1 L1 hf hw => ?_)
  refine lv_if_ne (tgt := 12) hx hb dX8_keep_6 (by decide) (fun hc => ?_) (fun hc => ?_)
  · have hf := ifn hc hf
    refine lv_aload_n hx hb dX8_keep_12 rfl (lv_at hl 0 rfl) ?_
    refine h_getr hf hx hb hts hown hX hw flX8_51 rfl dX8_keep_13 (fun a2 hf => ?_)
    refine lv_iload_n hx hb dX8_keep_16 rfl (lv_at hl 1 rfl) ?_
    refine h_aald16 hf hx hb hX hw dX8_keep_17 (fun a3 hf => ?_)
    refine lv_aload_n hx hb dX8_keep_18 rfl (lv_at hl 0 rfl) ?_
    refine h_getr hf hx hb hts hown hX hw flX8_47 rfl dX8_keep_19 (fun a4 hf => ?_)
    refine h_cVv (As := [.ref (B + a4)]) (rest := []) hf hx hb hml hts hown hX hw myX5_copyFrom miX5_copyFrom lkX8_315 ⟨rfl, by decide⟩ (fun q hq => c_X5_copyFrom l E B T a3 a4 q1.2 hq) ⟨Nat.le_of_ble_eq_true rfl, Nat.le_of_ble_eq_true rfl⟩ ⟨Nat.le_refl _, Nat.le_refl _⟩ rfl hl.1 rfl (Nat.le_of_ble_eq_true rfl) dX8_keep_22 (fun q5 H5 L5 hf hw => ?_)
    refine lv_aload_n hx hb dX8_keep_25 rfl (lv_at hl 0 rfl) ?_
    refine h_getr hf hx hb hts hown hX hw flX8_51 rfl dX8_keep_26 (fun a6 hf => ?_)
    refine lv_iload_n hx hb dX8_keep_29 rfl (lv_at hl 1 rfl) ?_
    refine h_aald16 hf hx hb hX hw dX8_keep_30 (fun a7 hf => ?_)
    refine lv_iconst (v := 1) hx hb dX8_keep_31 (by decide) ?_
    refine h_putz hf hx hb hts hown hX hw flX8_318 ⟨rfl, rfl⟩ dX8_keep_32 (fun u8 H8 L8 hf hw => ?_)
    refine lv_iconst (v := 1) hx hb dX8_keep_35 (by decide) ?_
    exact h_iret hf hx hb hr hlk hw dX8_keep_36
  · have hf := ifp hc hf
    refine lv_ldc hx hb hown (hts _ kcX8_158) dX8_keep_9 ?_
    exact h_iret hf hx hb hr hlk hw dX8_keep_11
theorem c_X8_keep (l : Launch) (E : hE) (B : Nat) (T : hT) (a0 : Nat) (p1 : Int32) (u0 : hM) {z : Int32 × hM} (hf : fX8_keep T a0 p1 u0 = some z) : h_Ct l E B T yX8_keep cX8_keep 2 (some .int) 3 [.ref (B + a0), .int p1] u0 z.2 (some (.int z.1)) := h_ofW (by decide) (Nat.le_of_ble_eq_true rfl) (fun p e s m below meth c ls hΓ hl hw => wX8_keep hΓ hf hw hl)
def fX8_goBack (T : hT) (a0 : Nat) (p1 : Int32) (u0 : hM) : Option (Int32 × hM) := (fX8_isWithin T p1 (0 : Int32) (1 : Int32) u0).bind fun q1 => if q1.1 = 0 then (some ((-1000000001 : Int32), q1.2)) else ((gtr T q1.2 a0 8 7).bind fun a2 => (aldr 16 T q1.2 a2 p1).bind fun a3 => (gti T q1.2 a3 5 7).bind fun x4 => if x4 = 0 then (some ((-1000000003 : Int32), q1.2)) else ((gtr T q1.2 a0 8 6).bind fun a5 => (gtr T q1.2 a0 8 7).bind fun a6 => (aldr 16 T q1.2 a6 p1).bind fun a7 => (vc T a5 5 (fX5_copyFrom T a5 a7 q1.2)).bind fun q8 => some ((1 : Int32), q8)))
set_option maxRecDepth 100000 in
set_option maxHeartbeats 4000000 in
theorem wX8_goBack {a0 : Nat} {p1 : Int32} {u0 : hM} {z : Int32 × hM} {ls : Array Slot} (hΓ : h_Γ E B T p s m args meth c cX8_goBack 2 (some .int) RX8) (hf : fX8_goBack T a0 p1 u0 = some z) (hw : h_W E B T s.heap u0 s.heap []) (hl : lv_has ls 2 [(0, .ref (B + a0)), (1, .int p1)]) : W p l e (h_rm 3) s m args below meth c s.heap [] 0 0 (h_Qi below E B T args s z) (F0 m 0 ls []) := by
  obtain ⟨hx, hb, hr, hml, hts, hown, hlk, hX⟩ := id hΓ
  unfold fX8_goBack at hf
  refine lv_iload_n hx hb dX8_goBack_0 rfl (lv_at hl 1 rfl) ?_
  refine lv_iconst (v := 0) hx hb dX8_goBack_1 (by decide) ?_
  refine lv_iconst (v := 1) hx hb dX8_goBack_2 (by decide) ?_
  refine h_cSi (As := [.int p1, .int (0 : Int32), .int (1 : Int32)]) (rest := []) hf hx hb hml hts hown hX hw myX8_isWithin msX8_isWithin lkX8_91 (fun q hq => c_X8_isWithin l E B T p1 (0 : Int32) (1 : Int32) u0 hq) ⟨Nat.le_of_ble_eq_true rfl, Nat.le_of_ble_eq_true rfl⟩ ⟨Nat.le_refl _, Nat.le_refl _⟩ rfl hl.1 rfl (Nat.le_of_ble_eq_true rfl) dX8_goBack_3 (fun q1 H1 L1 hf hw => ?_)
  refine lv_if_ne (tgt := 12) hx hb dX8_goBack_6 (by decide) (fun hc => ?_) (fun hc => ?_)
  · have hf := ifn hc hf
    refine lv_aload_n hx hb dX8_goBack_12 rfl (lv_at hl 0 rfl) ?_
    refine h_getr hf hx hb hts hown hX hw flX8_51 rfl dX8_goBack_13 (fun a2 hf => ?_)
    refine lv_iload_n hx hb dX8_goBack_16 rfl (lv_at hl 1 rfl) ?_
    refine h_aald16 hf hx hb hX hw dX8_goBack_17 (fun a3 hf => ?_)
    refine h_geti hf hx hb hts hown hX hw flX8_318 rfl dX8_goBack_18 (fun x4 hf => ?_)
    refine lv_if_ne (tgt := 27) hx hb dX8_goBack_21 (by decide) (fun hc => ?_) (fun hc => ?_)
    · have hf := ifn hc hf
      refine lv_aload_n hx hb dX8_goBack_27 rfl (lv_at hl 0 rfl) ?_
      refine h_getr hf hx hb hts hown hX hw flX8_47 rfl dX8_goBack_28 (fun a5 hf => ?_)
      refine lv_aload_n hx hb dX8_goBack_31 rfl (lv_at hl 0 rfl) ?_
      refine h_getr hf hx hb hts hown hX hw flX8_51 rfl dX8_goBack_32 (fun a6 hf => ?_)
      refine lv_iload_n hx hb dX8_goBack_35 rfl (lv_at hl 1 rfl) ?_
      refine h_aald16 hf hx hb hX hw dX8_goBack_36 (fun a7 hf => ?_)
      refine h_cVv (As := [.ref (B + a7)]) (rest := []) hf hx hb hml hts hown hX hw myX5_copyFrom miX5_copyFrom lkX8_315 ⟨rfl, by decide⟩ (fun q hq => c_X5_copyFrom l E B T a5 a7 q1.2 hq) ⟨Nat.le_of_ble_eq_true rfl, Nat.le_of_ble_eq_true rfl⟩ ⟨Nat.le_refl _, Nat.le_refl _⟩ rfl hl.1 rfl (Nat.le_of_ble_eq_true rfl) dX8_goBack_37 (fun q8 H8 L8 hf hw => ?_)
      refine lv_iconst (v := 1) hx hb dX8_goBack_40 (by decide) ?_
      exact h_iret hf hx hb hr hlk hw dX8_goBack_41
    · have hf := ifp hc hf
      refine lv_ldc hx hb hown (hts _ kcX8_219) dX8_goBack_24 ?_
      exact h_iret hf hx hb hr hlk hw dX8_goBack_26
  · have hf := ifp hc hf
    refine lv_ldc hx hb hown (hts _ kcX8_158) dX8_goBack_9 ?_
    exact h_iret hf hx hb hr hlk hw dX8_goBack_11
theorem c_X8_goBack (l : Launch) (E : hE) (B : Nat) (T : hT) (a0 : Nat) (p1 : Int32) (u0 : hM) {z : Int32 × hM} (hf : fX8_goBack T a0 p1 u0 = some z) : h_Ct l E B T yX8_goBack cX8_goBack 2 (some .int) 3 [.ref (B + a0), .int p1] u0 z.2 (some (.int z.1)) := h_ofW (by decide) (Nat.le_of_ble_eq_true rfl) (fun p e s m below meth c ls hΓ hl hw => wX8_goBack hΓ hf hw hl)
end GEN
