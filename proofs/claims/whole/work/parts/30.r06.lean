section GEN
variable {p : Program} {l : Launch} {e : Env} {s : State} {m : MethodId} {args : Array Value} {below : List Frame} {meth : Method} {c : Code} {E : hE} {B : Nat} {T : hT}
def fX9_ends_L26 (T : hT) (c0 : Nat) (ex : hM → Option (Int32 × hM)) : Nat → Int32 → hM → Option (Int32 × hM)
  | 0, _, _ => none
  | n + 1, v2, u0 => (gti T u0 c0 9 32).bind fun x3 => if x3 ≤ v2 then (ex u0) else ((gtr T u0 c0 9 34).bind fun a4 => (gtr T u0 c0 9 33).bind fun a5 => (ald 11 T u0 a5 v2).bind fun x6 => (asti T u0 a4 v2 x6).bind fun u7 => lt (v2 + (1 : Int32)) fun x8 => fX9_ends_L26 T c0 ex n x8 u7)
def fX9_ends_L70 (T : hT) (c0 : Nat) (ex : Int32 → hM → Option (Int32 × hM)) : Nat → Int32 → Int32 → hM → Option (Int32 × hM)
  | 0, _, _, _ => none
  | n + 1, v5, v6, u0 => (gti T u0 c0 9 32).bind fun x10 => if x10 ≤ v6 then (ex v5 u0) else ((gtr T u0 c0 9 34).bind fun a11 => (ald 11 T u0 a11 v6).bind fun x12 => lt ((v5 + x12)) fun x13 => lt (v6 + (1 : Int32)) fun x14 => fX9_ends_L70 T c0 ex n x13 x14 u0)
def fX9_ends_L111 (T : hT) (c0 : Nat) (c3 : Int32) (ex : Int32 → hM → Option (Int32 × hM)) : Nat → Int32 → Int32 → hM → Option (Int32 × hM)
  | 0, _, _, _ => none
  | n + 1, v4, v6, u0 => (gti T u0 c0 9 32).bind fun x19 => if x19 ≤ v6 then (ex v4 u0) else ((gtr T u0 c0 9 34).bind fun a20 => (ald 11 T u0 a20 v6).bind fun x21 => lt (((c3 - x21) / (2 : Int32))) fun x22 => lt (fun (x23 : Int32) (u24 : hM) => (gtr T u24 c0 9 34).bind fun a25 => (ald 11 T u24 a25 v6).bind fun x26 => (asti T u24 a25 v6 (x26 + x22)).bind fun u27 => lt (v6 + (1 : Int32)) fun x28 => fX9_ends_L111 T c0 c3 ex n x23 x28 u27) fun J148 => lt (fun (u29 : hM) => J148 (1 : Int32) u29) fun J143 => if v4 = 0 then (if x22 = 0 then (J148 (0 : Int32) u0) else (J143 u0)) else (J143 u0))
def fX9_ends_L59 (T : hT) (c0 : Nat) (ex : Int32 → Int32 → hM → Option (Int32 × hM)) : Nat → Int32 → Int32 → Int32 → hM → Option (Int32 × hM)
  | 0, _, _, _, _ => none
  | n + 1, v2, v3, v4, u0 => if v4 = 0 then (ex v2 v3 u0) else (fX9_ends_L70 T c0 (fun (x15 : Int32) (u16 : hM) => (gti T u16 c0 9 32).bind fun x17 => (dvi x15 x17).bind fun x18 => fX9_ends_L111 T c0 x18 (fun (x30 : Int32) (u31 : hM) => lt (if x30 = 0 then (0 : Int32) else (1 : Int32)) fun x32 => lt ((v2 + x32)) fun x33 => fX9_ends_L59 T c0 ex n x33 x18 x30 u31) 6000 (0 : Int32) (0 : Int32) u16) 6000 (0 : Int32) (0 : Int32) u0)
def fX9_ends (T : hT) (a0 : Nat) (p1 : Int32) (u0 : hM) : Option (Int32 × hM) := (fX9_in T p1.toInt64 (0 : Int64) (1 : Int64) u0).bind fun q1 => if q1.1 = 0 then (some ((-1000000002 : Int32), q1.2)) else ((gti T q1.2 a0 9 32).bind fun x2 => if x2 = 0 then (some ((-1000000003 : Int32), q1.2)) else (fX9_ends_L26 T a0 (fun (u9 : hM) => fX9_ends_L59 T a0 (fun (x34 : Int32) (x35 : Int32) (u36 : hM) => if p1 = 0 then (some (x35, u36)) else (some (x34, u36))) 6000 (0 : Int32) (0 : Int32) (1 : Int32) u9) 6000 (0 : Int32) q1.2))
set_option maxRecDepth 100000 in
set_option maxHeartbeats 4000000 in
theorem wfX9_ends_L26 {c0 : Nat} {c1 : Int32} {ex : hM → Option (Int32 × hM)} {z : Int32 × hM} (hΓ : h_Γ E B T p s m args meth c cX9_ends 8 (some .int) RX9) (hex : ∀ (u9 : hM) (H9 : Heap) (L9 : List Loc) (ls : Array Slot), ex u9 = some z → h_W E B T s.heap u9 H9 L9 → lv_has ls 8 [(0, .ref (B + c0)), (1, .int c1)] → W p l e (h_rm 1) s m args below meth c H9 L9 0 0 (h_Qi below E B T args s z) (F0 m 52 ls [])) : ∀ (n : Nat) (v2 : Int32) (u0 : hM) (H0 : Heap) (L0 : List Loc) (ls : Array Slot), fX9_ends_L26 T c0 ex n v2 u0 = some z → h_W E B T s.heap u0 H0 L0 → lv_has ls 8 [(0, .ref (B + c0)), (1, .int c1), (2, .int v2)] → W p l e (h_rm 1) s m args below meth c H0 L0 0 0 (h_Qi below E B T args s z) (F0 m 26 ls []) := by
  obtain ⟨hx, hb, hr, hml, hts, hown, hlk, hX⟩ := id hΓ
  intro n
  induction n with
  | zero =>
    intro v2 u0 H0 L0 ls hf hw hl
    exact absurd (show (none : Option (Int32 × hM)) = some z from hf) (fun h => by cases h)
  | succ n ih =>
    intro v2 u0 H0 L0 ls hf hw hl
    rw [fX9_ends_L26] at hf
    refine lv_iload_n hx hb dX9_ends_26 rfl (lv_at hl 2 rfl) ?_
    refine lv_aload_n hx hb dX9_ends_27 rfl (lv_at hl 0 rfl) ?_
    refine h_geti hf hx hb hts hown hX hw flX9_206 rfl dX9_ends_28 (fun x3 hf => ?_)
    refine lv_icmp_ge (tgt := 52) hx hb dX9_ends_31 (by decide) (fun hc => ?_) (fun hc => ?_)
    · have hf := ifp hc hf
      exact hex  u0 _ _ _ hf hw (lv_sub hl [0, 1] rfl)
    · have hf := ifn hc hf
      refine lv_aload_n hx hb dX9_ends_34 rfl (lv_at hl 0 rfl) ?_
      refine h_getr hf hx hb hts hown hX hw flX9_75 rfl dX9_ends_35 (fun a4 hf => ?_)
      refine lv_iload_n hx hb dX9_ends_38 rfl (lv_at hl 2 rfl) ?_
      refine lv_aload_n hx hb dX9_ends_39 rfl (lv_at hl 0 rfl) ?_
      refine h_getr hf hx hb hts hown hX hw flX9_72 rfl dX9_ends_40 (fun a5 hf => ?_)
      refine lv_iload_n hx hb dX9_ends_43 rfl (lv_at hl 2 rfl) ?_
      refine h_iald hf hx hb hX hw dX9_ends_44 (fun x6 hf => ?_)
      refine h_iast hf hx hb hX hw dX9_ends_45 (fun u7 H7 L7 hf hw => ?_)
      refine h_iinc (k := 2) hf hx hb dX9_ends_46 hl rfl (by decide) (by decide) (fun x8 ls hf hl => ?_)
      have hl : lv_has ls 8 [(2, .int x8), (0, .ref (B + c0)), (1, .int c1)] := hl
      refine lv_goto (tgt := 26) hx hb dX9_ends_49 (by decide) ?_
      exact ih x8 u7 _ _ _ hf hw (lv_sub hl [1, 2, 0] rfl)
set_option maxRecDepth 100000 in
set_option maxHeartbeats 4000000 in
theorem wfX9_ends_L70 {c0 : Nat} {c1 : Int32} {c2 : Int32} {ex : Int32 → hM → Option (Int32 × hM)} {z : Int32 × hM} (hΓ : h_Γ E B T p s m args meth c cX9_ends 8 (some .int) RX9) (hex : ∀ (y5 : Int32) (u9 : hM) (H9 : Heap) (L9 : List Loc) (ls : Array Slot), ex y5 u9 = some z → h_W E B T s.heap u9 H9 L9 → lv_has ls 8 [(0, .ref (B + c0)), (1, .int c1), (2, .int c2), (5, .int y5)] → W p l e (h_rm 1) s m args below meth c H9 L9 0 0 (h_Qi below E B T args s z) (F0 m 97 ls [])) : ∀ (n : Nat) (v5 : Int32) (v6 : Int32) (u0 : hM) (H0 : Heap) (L0 : List Loc) (ls : Array Slot), fX9_ends_L70 T c0 ex n v5 v6 u0 = some z → h_W E B T s.heap u0 H0 L0 → lv_has ls 8 [(0, .ref (B + c0)), (1, .int c1), (2, .int c2), (5, .int v5), (6, .int v6)] → W p l e (h_rm 1) s m args below meth c H0 L0 0 0 (h_Qi below E B T args s z) (F0 m 70 ls []) := by
  obtain ⟨hx, hb, hr, hml, hts, hown, hlk, hX⟩ := id hΓ
  intro n
  induction n with
  | zero =>
    intro v5 v6 u0 H0 L0 ls hf hw hl
    exact absurd (show (none : Option (Int32 × hM)) = some z from hf) (fun h => by cases h)
  | succ n ih =>
    intro v5 v6 u0 H0 L0 ls hf hw hl
    rw [fX9_ends_L70] at hf
    refine lv_iload hx hb dX9_ends_70 (lv_at hl 4 rfl) ?_
    refine lv_aload_n hx hb dX9_ends_72 rfl (lv_at hl 0 rfl) ?_
    refine h_geti hf hx hb hts hown hX hw flX9_206 rfl dX9_ends_73 (fun x10 hf => ?_)
    refine lv_icmp_ge (tgt := 97) hx hb dX9_ends_76 (by decide) (fun hc => ?_) (fun hc => ?_)
    · have hf := ifp hc hf
      exact hex v5 u0 _ _ _ hf hw (lv_sub hl [0, 1, 2, 3] rfl)
    · have hf := ifn hc hf
      refine lv_iload hx hb dX9_ends_79 (lv_at hl 3 rfl) ?_
      refine lv_aload_n hx hb dX9_ends_81 rfl (lv_at hl 0 rfl) ?_
      refine h_getr hf hx hb hts hown hX hw flX9_75 rfl dX9_ends_82 (fun a11 hf => ?_)
      refine lv_iload hx hb dX9_ends_85 (lv_at hl 4 rfl) ?_
      refine h_iald hf hx hb hX hw dX9_ends_87 (fun x12 hf => ?_)
      refine lv_iadd hx hb dX9_ends_88 ?_
      refine h_nmi hf (fun x13 hf => ?_)
      refine lv_istore (lv' := [(5, .int x13), (0, .ref (B + c0)), (1, .int c1), (2, .int c2), (6, .int v6)]) hx hb dX9_ends_89 hl (by decide) rfl (fun ls hl => ?_)
      refine h_iinc (k := 4) hf hx hb dX9_ends_91 hl rfl (by decide) (by decide) (fun x14 ls hf hl => ?_)
      have hl : lv_has ls 8 [(6, .int x14), (5, .int x13), (0, .ref (B + c0)), (1, .int c1), (2, .int c2)] := hl
      refine lv_goto (tgt := 70) hx hb dX9_ends_94 (by decide) ?_
      exact ih x13 x14 u0 _ _ _ hf hw (lv_sub hl [2, 3, 4, 1, 0] rfl)
set_option maxRecDepth 100000 in
set_option maxHeartbeats 4000000 in
theorem wfX9_ends_L111 {c0 : Nat} {c1 : Int32} {c2 : Int32} {c3 : Int32} {ex : Int32 → hM → Option (Int32 × hM)} {z : Int32 × hM} (hΓ : h_Γ E B T p s m args meth c cX9_ends 8 (some .int) RX9) (hex : ∀ (y4 : Int32) (u9 : hM) (H9 : Heap) (L9 : List Loc) (ls : Array Slot), ex y4 u9 = some z → h_W E B T s.heap u9 H9 L9 → lv_has ls 8 [(0, .ref (B + c0)), (1, .int c1), (2, .int c2), (3, .int c3), (4, .int y4)] → W p l e (h_rm 1) s m args below meth c H9 L9 0 0 (h_Qi below E B T args s z) (F0 m 168 ls [])) : ∀ (n : Nat) (v4 : Int32) (v6 : Int32) (u0 : hM) (H0 : Heap) (L0 : List Loc) (ls : Array Slot), fX9_ends_L111 T c0 c3 ex n v4 v6 u0 = some z → h_W E B T s.heap u0 H0 L0 → lv_has ls 8 [(0, .ref (B + c0)), (1, .int c1), (2, .int c2), (3, .int c3), (4, .int v4), (6, .int v6)] → W p l e (h_rm 1) s m args below meth c H0 L0 0 0 (h_Qi below E B T args s z) (F0 m 111 ls []) := by
  obtain ⟨hx, hb, hr, hml, hts, hown, hlk, hX⟩ := id hΓ
  intro n
  induction n with
  | zero =>
    intro v4 v6 u0 H0 L0 ls hf hw hl
    exact absurd (show (none : Option (Int32 × hM)) = some z from hf) (fun h => by cases h)
  | succ n ih =>
    intro v4 v6 u0 H0 L0 ls hf hw hl
    rw [fX9_ends_L111] at hf
    refine lv_iload hx hb dX9_ends_111 (lv_at hl 5 rfl) ?_
    refine lv_aload_n hx hb dX9_ends_113 rfl (lv_at hl 0 rfl) ?_
    refine h_geti hf hx hb hts hown hX hw flX9_206 rfl dX9_ends_114 (fun x19 hf => ?_)
    refine lv_icmp_ge (tgt := 168) hx hb dX9_ends_117 (by decide) (fun hc => ?_) (fun hc => ?_)
    · have hf := ifp hc hf
      exact hex v4 u0 _ _ _ hf hw (lv_sub hl [0, 1, 2, 3, 4] rfl)
    · have hf := ifn hc hf
      refine lv_iload_n hx hb dX9_ends_120 rfl (lv_at hl 3 rfl) ?_
      refine lv_aload_n hx hb dX9_ends_121 rfl (lv_at hl 0 rfl) ?_
      refine h_getr hf hx hb hts hown hX hw flX9_75 rfl dX9_ends_122 (fun a20 hf => ?_)
      refine lv_iload hx hb dX9_ends_125 (lv_at hl 5 rfl) ?_
      refine h_iald hf hx hb hX hw dX9_ends_127 (fun x21 hf => ?_)
      refine lv_isub hx hb dX9_ends_128 ?_
      refine lv_iconst (v := 2) hx hb dX9_ends_129 (by decide) ?_
      refine lv_idiv hx hb dX9_ends_130 (by decide) ?_
      refine h_nmi hf (fun x22 hf => ?_)
      refine lv_istore (lv' := [(7, .int x22), (0, .ref (B + c0)), (1, .int c1), (2, .int c2), (3, .int c3), (4, .int v4), (6, .int v6)]) hx hb dX9_ends_131 hl (by decide) rfl (fun ls hl => ?_)
      refine lv_iload hx hb dX9_ends_133 (lv_at hl 5 rfl) ?_
      obtain ⟨J148, eJ148, hf⟩ := h_lt hf
      have hJ148 : ∀ (x23 : Int32) (u24 : hM) (H24 : Heap) (L24 : List Loc) (ls : Array Slot), J148 x23 u24 = some z → h_W E B T s.heap u24 H24 L24 → lv_has ls 8 [(0, .ref (B + c0)), (1, .int c1), (2, .int c2), (3, .int c3), (6, .int v6), (7, .int x22)] → W p l e (h_rm 1) s m args below meth c H24 L24 0 0 (h_Qi below E B T args s z) (F0 m 148 ls [.int x23]) := by
        intro x23 u24 H24 L24 ls hf hw hl
        rw [eJ148] at hf
        refine lv_istore (lv' := [(4, .int x23), (0, .ref (B + c0)), (1, .int c1), (2, .int c2), (3, .int c3), (6, .int v6), (7, .int x22)]) hx hb dX9_ends_148 hl (by decide) rfl (fun ls hl => ?_)
        refine lv_aload_n hx hb dX9_ends_150 rfl (lv_at hl 1 rfl) ?_
        refine h_getr hf hx hb hts hown hX hw flX9_75 rfl dX9_ends_151 (fun a25 hf => ?_)
        refine lv_iload hx hb dX9_ends_154 (lv_at hl 5 rfl) ?_
        refine lv_dup2_11 hx hb dX9_ends_156 rfl rfl ?_
        refine h_iald hf hx hb hX hw dX9_ends_157 (fun x26 hf => ?_)
        refine lv_iload hx hb dX9_ends_158 (lv_at hl 6 rfl) ?_
        refine lv_iadd hx hb dX9_ends_160 ?_
        refine h_iast hf hx hb hX hw dX9_ends_161 (fun u27 H27 L27 hf hw => ?_)
        refine h_iinc (k := 5) hf hx hb dX9_ends_162 hl rfl (by decide) (by decide) (fun x28 ls hf hl => ?_)
        have hl : lv_has ls 8 [(6, .int x28), (4, .int x23), (0, .ref (B + c0)), (1, .int c1), (2, .int c2), (3, .int c3), (7, .int x22)] := hl
        refine lv_goto (tgt := 111) hx hb dX9_ends_165 (by decide) ?_
        exact ih x23 x28 u27 _ _ _ hf hw (lv_sub hl [2, 3, 4, 5, 1, 0] rfl)
      clear eJ148
      obtain ⟨J143, eJ143, hf⟩ := h_lt hf
      have hJ143 : ∀ (u29 : hM) (H29 : Heap) (L29 : List Loc) (ls : Array Slot), J143  u29 = some z → h_W E B T s.heap u29 H29 L29 → lv_has ls 8 [(0, .ref (B + c0)), (1, .int c1), (2, .int c2), (3, .int c3), (6, .int v6), (7, .int x22)] → W p l e (h_rm 1) s m args below meth c H29 L29 0 0 (h_Qi below E B T args s z) (F0 m 143 ls []) := by
        intro  u29 H29 L29 ls hf hw hl
        rw [eJ143] at hf
        refine lv_iconst (v := 1) hx hb dX9_ends_143 (by decide) ?_
        refine lv_goto (tgt := 148) hx hb dX9_ends_144 (by decide) ?_
        exact hJ148 (1 : Int32) u29 _ _ _ hf hw (lv_sub hl [0, 1, 2, 3, 4, 5] rfl)
      clear eJ143
      refine lv_if_ne (tgt := 143) hx hb dX9_ends_135 (by decide) (fun hc => ?_) (fun hc => ?_)
      · have hf := ifn hc hf
        exact hJ143  u0 _ _ _ hf hw (lv_sub hl [1, 2, 3, 4, 6, 0] rfl)
      · have hf := ifp hc hf
        refine lv_iload hx hb dX9_ends_138 (lv_at hl 0 rfl) ?_
        refine lv_if_eq (tgt := 147) hx hb dX9_ends_140 (by decide) (fun hc => ?_) (fun hc => ?_)
        · have hf := ifp hc hf
          refine lv_iconst (v := 0) hx hb dX9_ends_147 (by decide) ?_
          exact hJ148 (0 : Int32) u0 _ _ _ hf hw (lv_sub hl [1, 2, 3, 4, 6, 0] rfl)
        · have hf := ifn hc hf
          exact hJ143  u0 _ _ _ hf hw (lv_sub hl [1, 2, 3, 4, 6, 0] rfl)
set_option maxRecDepth 100000 in
set_option maxHeartbeats 4000000 in
theorem wfX9_ends_L59 {c0 : Nat} {c1 : Int32} {ex : Int32 → Int32 → hM → Option (Int32 × hM)} {z : Int32 × hM} (hΓ : h_Γ E B T p s m args meth c cX9_ends 8 (some .int) RX9) (hex : ∀ (y2 : Int32) (y3 : Int32) (u9 : hM) (H9 : Heap) (L9 : List Loc) (ls : Array Slot), ex y2 y3 u9 = some z → h_W E B T s.heap u9 H9 L9 → lv_has ls 8 [(1, .int c1), (2, .int y2), (3, .int y3)] → W p l e (h_rm 1) s m args below meth c H9 L9 0 0 (h_Qi below E B T args s z) (F0 m 184 ls [])) : ∀ (n : Nat) (v2 : Int32) (v3 : Int32) (v4 : Int32) (u0 : hM) (H0 : Heap) (L0 : List Loc) (ls : Array Slot), fX9_ends_L59 T c0 ex n v2 v3 v4 u0 = some z → h_W E B T s.heap u0 H0 L0 → lv_has ls 8 [(0, .ref (B + c0)), (1, .int c1), (2, .int v2), (3, .int v3), (4, .int v4)] → W p l e (h_rm 1) s m args below meth c H0 L0 0 0 (h_Qi below E B T args s z) (F0 m 59 ls []) := by
  obtain ⟨hx, hb, hr, hml, hts, hown, hlk, hX⟩ := id hΓ
  intro n
  induction n with
  | zero =>
    intro v2 v3 v4 u0 H0 L0 ls hf hw hl
    exact absurd (show (none : Option (Int32 × hM)) = some z from hf) (fun h => by cases h)
  | succ n ih =>
    intro v2 v3 v4 u0 H0 L0 ls hf hw hl
    rw [fX9_ends_L59] at hf
    refine lv_iload hx hb dX9_ends_59 (lv_at hl 4 rfl) ?_
    refine lv_if_eq (tgt := 184) hx hb dX9_ends_61 (by decide) (fun hc => ?_) (fun hc => ?_)
    · have hf := ifp hc hf
      exact hex v2 v3 u0 _ _ _ hf hw (lv_sub hl [1, 2, 3] rfl)
    · have hf := ifn hc hf
      refine lv_iconst (v := 0) hx hb dX9_ends_64 (by decide) ?_
      refine lv_istore (lv' := [(5, .int (0 : Int32)), (0, .ref (B + c0)), (1, .int c1), (2, .int v2), (3, .int v3), (4, .int v4)]) hx hb dX9_ends_65 hl (by decide) rfl (fun ls hl => ?_)
      refine lv_iconst (v := 0) hx hb dX9_ends_67 (by decide) ?_
      refine lv_istore (lv' := [(6, .int (0 : Int32)), (5, .int (0 : Int32)), (0, .ref (B + c0)), (1, .int c1), (2, .int v2), (3, .int v3), (4, .int v4)]) hx hb dX9_ends_68 hl (by decide) rfl (fun ls hl => ?_)
      refine wfX9_ends_L70 hΓ ?_ 6000 (0 : Int32) (0 : Int32) u0 _ _ _ hf hw (lv_sub hl [2, 3, 4, 1, 0] rfl)
      intro x15 u16 H16 L16 ls hf hw hl
      refine lv_iload hx hb dX9_ends_97 (lv_at hl 3 rfl) ?_
      refine lv_aload_n hx hb dX9_ends_99 rfl (lv_at hl 0 rfl) ?_
      refine h_geti hf hx hb hts hown hX hw flX9_206 rfl dX9_ends_100 (fun x17 hf => ?_)
      refine h_dvi hf hx hb dX9_ends_103 (fun x18 hf => ?_)
      refine lv_istore_n (lv' := [(3, .int x18), (0, .ref (B + c0)), (1, .int c1), (2, .int v2), (5, .int x15)]) hx hb dX9_ends_104 rfl hl (by decide) rfl (fun ls hl => ?_)
      refine lv_iconst (v := 0) hx hb dX9_ends_105 (by decide) ?_
      refine lv_istore (lv' := [(4, .int (0 : Int32)), (3, .int x18), (0, .ref (B + c0)), (1, .int c1), (2, .int v2), (5, .int x15)]) hx hb dX9_ends_106 hl (by decide) rfl (fun ls hl => ?_)
      refine lv_iconst (v := 0) hx hb dX9_ends_108 (by decide) ?_
      refine lv_istore (lv' := [(6, .int (0 : Int32)), (4, .int (0 : Int32)), (3, .int x18), (0, .ref (B + c0)), (1, .int c1), (2, .int v2), (5, .int x15)]) hx hb dX9_ends_109 hl (by decide) rfl (fun ls hl => ?_)
      refine wfX9_ends_L111 hΓ ?_ 6000 (0 : Int32) (0 : Int32) u16 _ _ _ hf hw (lv_sub hl [3, 4, 5, 2, 1, 0] rfl)
      intro x30 u31 H31 L31 ls hf hw hl
      refine lv_iload_n hx hb dX9_ends_168 rfl (lv_at hl 2 rfl) ?_
      refine lv_iload hx hb dX9_ends_169 (lv_at hl 4 rfl) ?_
      refine h_ite (ls := ls) (jj := 179) (rest := [.int v2]) hf (fun k1 k2 => ?_) (fun x32 hf => ?_)
      · refine lv_if_eq (tgt := 178) hx hb dX9_ends_171 (by decide) (fun hc => ?_) (fun hc => ?_)
        · refine lv_iconst (v := 0) hx hb dX9_ends_178 (by decide) ?_
          exact k1 hc
        · refine lv_iconst (v := 1) hx hb dX9_ends_174 (by decide) ?_
          refine lv_goto (tgt := 179) hx hb dX9_ends_175 (by decide) ?_
          exact k2 hc
      · refine lv_iadd hx hb dX9_ends_179 ?_
        refine h_nmi hf (fun x33 hf => ?_)
        refine lv_istore_n (lv' := [(2, .int x33), (0, .ref (B + c0)), (1, .int c1), (3, .int x18), (4, .int x30)]) hx hb dX9_ends_180 rfl hl (by decide) rfl (fun ls hl => ?_)
        refine lv_goto (tgt := 59) hx hb dX9_ends_181 (by decide) ?_
        exact ih x33 x18 x30 u31 _ _ _ hf hw (lv_sub hl [1, 2, 0, 3, 4] rfl)
set_option maxRecDepth 100000 in
set_option maxHeartbeats 4000000 in
theorem wX9_ends {a0 : Nat} {p1 : Int32} {u0 : hM} {z : Int32 × hM} {ls : Array Slot} (hΓ : h_Γ E B T p s m args meth c cX9_ends 8 (some .int) RX9) (hf : fX9_ends T a0 p1 u0 = some z) (hw : h_W E B T s.heap u0 s.heap []) (hl : lv_has ls 8 [(0, .ref (B + a0)), (1, .int p1)]) : W p l e (h_rm 1) s m args below meth c s.heap [] 0 0 (h_Qi below E B T args s z) (F0 m 0 ls []) := by
  obtain ⟨hx, hb, hr, hml, hts, hown, hlk, hX⟩ := id hΓ
  unfold fX9_ends at hf
  refine lv_iload_n hx hb dX9_ends_0 rfl (lv_at hl 1 rfl) ?_
  refine lv_i2l hx hb dX9_ends_1 rfl ?_
  refine lv_lconst (v := 0) hx hb dX9_ends_2 (by decide) ?_
  refine lv_lconst (v := 1) hx hb dX9_ends_3 (by decide) ?_
  refine h_cSi (As := [.long p1.toInt64, .long (0 : Int64), .long (1 : Int64)]) (rest := []) hf hx hb hml hts hown hX hw myX9_in msX9_in lkX9_90 (fun q hq => c_X9_in l E B T p1.toInt64 (0 : Int64) (1 : Int64) u0 hq) ⟨Nat.le_of_ble_eq_true rfl, Nat.le_of_ble_eq_true rfl⟩ ⟨Nat.le_refl _, Nat.le_refl _⟩ rfl hl.1 rfl (Nat.le_of_ble_eq_true rfl) dX9_ends_4 (fun q1 H1 L1 hf hw => ?_)
  refine lv_if_ne (tgt := 13) hx hb dX9_ends_7 (by decide) (fun hc => ?_) (fun hc => ?_)
  · have hf := ifn hc hf
    refine lv_aload_n hx hb dX9_ends_13 rfl (lv_at hl 0 rfl) ?_
    refine h_geti hf hx hb hts hown hX hw flX9_206 rfl dX9_ends_14 (fun x2 hf => ?_)
    refine lv_if_ne (tgt := 24) hx hb dX9_ends_17 (by decide) (fun hc => ?_) (fun hc => ?_)
    · have hf := ifn hc hf
      refine lv_iconst (v := 0) hx hb dX9_ends_24 (by decide) ?_
      refine lv_istore_n (lv' := [(2, .int (0 : Int32)), (0, .ref (B + a0)), (1, .int p1)]) hx hb dX9_ends_25 rfl hl (by decide) rfl (fun ls hl => ?_)
      refine wfX9_ends_L26 hΓ ?_ 6000 (0 : Int32) q1.2 _ _ _ hf hw (lv_sub hl [1, 2, 0] rfl)
      intro u9 H9 L9 ls hf hw hl
      refine lv_iconst (v := 0) hx hb dX9_ends_52 (by decide) ?_
      refine lv_istore_n (lv' := [(2, .int (0 : Int32)), (0, .ref (B + a0)), (1, .int p1)]) hx hb dX9_ends_53 rfl hl (by decide) rfl (fun ls hl => ?_)
      refine lv_iconst (v := 0) hx hb dX9_ends_54 (by decide) ?_
      refine lv_istore_n (lv' := [(3, .int (0 : Int32)), (2, .int (0 : Int32)), (0, .ref (B + a0)), (1, .int p1)]) hx hb dX9_ends_55 rfl hl (by decide) rfl (fun ls hl => ?_)
      refine lv_iconst (v := 1) hx hb dX9_ends_56 (by decide) ?_
      refine lv_istore (lv' := [(4, .int (1 : Int32)), (3, .int (0 : Int32)), (2, .int (0 : Int32)), (0, .ref (B + a0)), (1, .int p1)]) hx hb dX9_ends_57 hl (by decide) rfl (fun ls hl => ?_)
      refine wfX9_ends_L59 hΓ ?_ 6000 (0 : Int32) (0 : Int32) (1 : Int32) u9 _ _ _ hf hw (lv_sub hl [3, 4, 2, 1, 0] rfl)
      intro x34 x35 u36 H36 L36 ls hf hw hl
      refine lv_iload_n hx hb dX9_ends_184 rfl (lv_at hl 0 rfl) ?_
      refine lv_if_ne (tgt := 192) hx hb dX9_ends_185 (by decide) (fun hc => ?_) (fun hc => ?_)
      · have hf := ifn hc hf
        refine lv_iload_n hx hb dX9_ends_192 rfl (lv_at hl 1 rfl) ?_
        exact h_iret hf hx hb hr hlk hw dX9_ends_193
      · have hf := ifp hc hf
        refine lv_iload_n hx hb dX9_ends_188 rfl (lv_at hl 2 rfl) ?_
        refine lv_goto (tgt := 193) hx hb dX9_ends_189 (by decide) ?_
        exact h_iret hf hx hb hr hlk hw dX9_ends_193
    · have hf := ifp hc hf
      refine lv_ldcw hx hb hown (hts _ kcX9_277) dX9_ends_20 ?_
      exact h_iret hf hx hb hr hlk hw dX9_ends_23
  · have hf := ifp hc hf
    refine lv_ldc hx hb hown (hts _ kcX9_99) dX9_ends_10 ?_
    exact h_iret hf hx hb hr hlk hw dX9_ends_12
theorem c_X9_ends (l : Launch) (E : hE) (B : Nat) (T : hT) (a0 : Nat) (p1 : Int32) (u0 : hM) {z : Int32 × hM} (hf : fX9_ends T a0 p1 u0 = some z) : h_Ct l E B T yX9_ends cX9_ends 8 (some .int) 1 [.ref (B + a0), .int p1] u0 z.2 (some (.int z.1)) := h_ofW (by decide) (Nat.le_of_ble_eq_true rfl) (fun p e s m below meth c ls hΓ hl hw => wX9_ends hΓ hf hw hl)
def fX9_round_L49 (T : hT) (c3 : Int32) (ex : Int32 → Int32 → hM → Option (Int32 × hM)) : Nat → Int32 → Int32 → Int32 → hM → Option (Int32 × hM)
  | 0, _, _, _, _ => none
  | n + 1, v5, v6, v7, u0 => if c3 ≤ v7 then (ex v5 v6 u0) else (lt (((v6 - v5) / (3 : Int32))) fun x5 => lt ((v5 + x5)) fun x6 => lt ((v6 - x5)) fun x7 => lt (v7 + (1 : Int32)) fun x8 => fX9_round_L49 T c3 ex n x6 x7 x8 u0)
def fX9_round (T : hT) (a0 : Nat) (p1 : Int32) (p2 : Int32) (p3 : Int32) (p4 : Int32) (u0 : hM) : Option (Int32 × hM) := (fX9_isHome T p1 u0).bind fun q1 => if q1.1 = 0 then (some ((-1000000002 : Int32), q1.2)) else ((fX9_isHome T p2 q1.2).bind fun q2 => if q2.1 = 0 then (some ((-1000000002 : Int32), q2.2)) else ((fX9_in T p3.toInt64 (0 : Int64) (99 : Int64) q2.2).bind fun q3 => if q3.1 = 0 then (some ((-1000000002 : Int32), q3.2)) else ((fX9_in T p4.toInt64 (0 : Int64) (1 : Int64) q3.2).bind fun q4 => if q4.1 = 0 then (some ((-1000000002 : Int32), q4.2)) else (fX9_round_L49 T p3 (fun (x9 : Int32) (x10 : Int32) (u11 : hM) => if p4 = 0 then (some (x9, u11)) else (some (x10, u11))) 6000 p1 p2 (0 : Int32) q4.2))))
set_option maxRecDepth 100000 in
set_option maxHeartbeats 4000000 in
theorem wfX9_round_L49 {c3 : Int32} {c4 : Int32} {ex : Int32 → Int32 → hM → Option (Int32 × hM)} {z : Int32 × hM} (hΓ : h_Γ E B T p s m args meth c cX9_round 9 (some .int) RX9) (hex : ∀ (y5 : Int32) (y6 : Int32) (u9 : hM) (H9 : Heap) (L9 : List Loc) (ls : Array Slot), ex y5 y6 u9 = some z → h_W E B T s.heap u9 H9 L9 → lv_has ls 9 [(4, .int c4), (5, .int y5), (6, .int y6)] → W p l e (h_rm 2) s m args below meth c H9 L9 0 0 (h_Qi below E B T args s z) (F0 m 84 ls [])) : ∀ (n : Nat) (v5 : Int32) (v6 : Int32) (v7 : Int32) (u0 : hM) (H0 : Heap) (L0 : List Loc) (ls : Array Slot), fX9_round_L49 T c3 ex n v5 v6 v7 u0 = some z → h_W E B T s.heap u0 H0 L0 → lv_has ls 9 [(3, .int c3), (4, .int c4), (5, .int v5), (6, .int v6), (7, .int v7)] → W p l e (h_rm 2) s m args below meth c H0 L0 0 0 (h_Qi below E B T args s z) (F0 m 49 ls []) := by
  obtain ⟨hx, hb, hr, hml, hts, hown, hlk, hX⟩ := id hΓ
  intro n
  induction n with
  | zero =>
    intro v5 v6 v7 u0 H0 L0 ls hf hw hl
    exact absurd (show (none : Option (Int32 × hM)) = some z from hf) (fun h => by cases h)
  | succ n ih =>
    intro v5 v6 v7 u0 H0 L0 ls hf hw hl
    rw [fX9_round_L49] at hf
    refine lv_iload hx hb dX9_round_49 (lv_at hl 4 rfl) ?_
    refine lv_iload_n hx hb dX9_round_51 rfl (lv_at hl 0 rfl) ?_
    refine lv_icmp_ge (tgt := 84) hx hb dX9_round_52 (by decide) (fun hc => ?_) (fun hc => ?_)
    · have hf := ifp hc hf
      exact hex v5 v6 u0 _ _ _ hf hw (lv_sub hl [1, 2, 3] rfl)
    · have hf := ifn hc hf
      refine lv_iload hx hb dX9_round_55 (lv_at hl 3 rfl) ?_
      refine lv_iload hx hb dX9_round_57 (lv_at hl 2 rfl) ?_
      refine lv_isub hx hb dX9_round_59 ?_
      refine lv_iconst (v := 3) hx hb dX9_round_60 (by decide) ?_
      refine lv_idiv hx hb dX9_round_61 (by decide) ?_
      refine h_nmi hf (fun x5 hf => ?_)
      refine lv_istore (lv' := [(8, .int x5), (3, .int c3), (4, .int c4), (5, .int v5), (6, .int v6), (7, .int v7)]) hx hb dX9_round_62 hl (by decide) rfl (fun ls hl => ?_)
      refine lv_iload hx hb dX9_round_64 (lv_at hl 3 rfl) ?_
      refine lv_iload hx hb dX9_round_66 (lv_at hl 0 rfl) ?_
      refine lv_iadd hx hb dX9_round_68 ?_
      refine h_nmi hf (fun x6 hf => ?_)
      refine lv_istore (lv' := [(5, .int x6), (8, .int x5), (3, .int c3), (4, .int c4), (6, .int v6), (7, .int v7)]) hx hb dX9_round_69 hl (by decide) rfl (fun ls hl => ?_)
      refine lv_iload hx hb dX9_round_71 (lv_at hl 4 rfl) ?_
      refine lv_iload hx hb dX9_round_73 (lv_at hl 1 rfl) ?_
      refine lv_isub hx hb dX9_round_75 ?_
      refine h_nmi hf (fun x7 hf => ?_)
      refine lv_istore (lv' := [(6, .int x7), (5, .int x6), (8, .int x5), (3, .int c3), (4, .int c4), (7, .int v7)]) hx hb dX9_round_76 hl (by decide) rfl (fun ls hl => ?_)
      refine h_iinc (k := 5) hf hx hb dX9_round_78 hl rfl (by decide) (by decide) (fun x8 ls hf hl => ?_)
      have hl : lv_has ls 9 [(7, .int x8), (6, .int x7), (5, .int x6), (8, .int x5), (3, .int c3), (4, .int c4)] := hl
      refine lv_goto (tgt := 49) hx hb dX9_round_81 (by decide) ?_
      exact ih x6 x7 x8 u0 _ _ _ hf hw (lv_sub hl [4, 5, 2, 1, 0] rfl)
set_option maxRecDepth 100000 in
set_option maxHeartbeats 4000000 in
theorem wX9_round {a0 : Nat} {p1 : Int32} {p2 : Int32} {p3 : Int32} {p4 : Int32} {u0 : hM} {z : Int32 × hM} {ls : Array Slot} (hΓ : h_Γ E B T p s m args meth c cX9_round 9 (some .int) RX9) (hf : fX9_round T a0 p1 p2 p3 p4 u0 = some z) (hw : h_W E B T s.heap u0 s.heap []) (hl : lv_has ls 9 [(0, .ref (B + a0)), (1, .int p1), (2, .int p2), (3, .int p3), (4, .int p4)]) : W p l e (h_rm 2) s m args below meth c s.heap [] 0 0 (h_Qi below E B T args s z) (F0 m 0 ls []) := by
  obtain ⟨hx, hb, hr, hml, hts, hown, hlk, hX⟩ := id hΓ
  unfold fX9_round at hf
  refine lv_iload_n hx hb dX9_round_0 rfl (lv_at hl 1 rfl) ?_
  refine h_cSi (As := [.int p1]) (rest := []) hf hx hb hml hts hown hX hw myX9_isHome msX9_isHome lkX9_358 (fun q hq => c_X9_isHome l E B T p1 u0 hq) ⟨Nat.le_of_ble_eq_true rfl, Nat.le_of_ble_eq_true rfl⟩ ⟨Nat.le_refl _, Nat.le_refl _⟩ rfl hl.1 rfl (Nat.le_of_ble_eq_true rfl) dX9_round_1 (fun q1 H1 L1 hf hw => ?_)
  refine lv_if_eq (tgt := 37) hx hb dX9_round_4 (by decide) (fun hc => ?_) (fun hc => ?_)
  · have hf := ifp hc hf
    refine lv_ldc hx hb hown (hts _ kcX9_99) dX9_round_37 ?_
    exact h_iret hf hx hb hr hlk hw dX9_round_39
  · have hf := ifn hc hf
    refine lv_iload_n hx hb dX9_round_7 rfl (lv_at hl 2 rfl) ?_
    refine h_cSi (As := [.int p2]) (rest := []) hf hx hb hml hts hown hX hw myX9_isHome msX9_isHome lkX9_358 (fun q hq => c_X9_isHome l E B T p2 q1.2 hq) ⟨Nat.le_of_ble_eq_true rfl, Nat.le_of_ble_eq_true rfl⟩ ⟨Nat.le_refl _, Nat.le_refl _⟩ rfl hl.1 rfl (Nat.le_of_ble_eq_true rfl) dX9_round_8 (fun q2 H2 L2 hf hw => ?_)
    refine lv_if_eq (tgt := 37) hx hb dX9_round_11 (by decide) (fun hc => ?_) (fun hc => ?_)
    · have hf := ifp hc hf
      refine lv_ldc hx hb hown (hts _ kcX9_99) dX9_round_37 ?_
      exact h_iret hf hx hb hr hlk hw dX9_round_39
    · have hf := ifn hc hf
      refine lv_iload_n hx hb dX9_round_14 rfl (lv_at hl 3 rfl) ?_
      refine lv_i2l hx hb dX9_round_15 rfl ?_
      refine lv_lconst (v := 0) hx hb dX9_round_16 (by decide) ?_
      refine lv_ldc2 hx hb hown (hts _ klX9_284) dX9_round_17 ?_
      refine h_cSi (As := [.long p3.toInt64, .long (0 : Int64), .long (99 : Int64)]) (rest := []) hf hx hb hml hts hown hX hw myX9_in msX9_in lkX9_90 (fun q hq => c_X9_in l E B T p3.toInt64 (0 : Int64) (99 : Int64) q2.2 hq) ⟨Nat.le_of_ble_eq_true rfl, Nat.le_of_ble_eq_true rfl⟩ ⟨Nat.le_refl _, Nat.le_refl _⟩ rfl hl.1 rfl (Nat.le_of_ble_eq_true rfl) dX9_round_20 (fun q3 H3 L3 hf hw => ?_)
      refine lv_if_eq (tgt := 37) hx hb dX9_round_23 (by decide) (fun hc => ?_) (fun hc => ?_)
      · have hf := ifp hc hf
        refine lv_ldc hx hb hown (hts _ kcX9_99) dX9_round_37 ?_
        exact h_iret hf hx hb hr hlk hw dX9_round_39
      · have hf := ifn hc hf
        refine lv_iload hx hb dX9_round_26 (lv_at hl 4 rfl) ?_
        refine lv_i2l hx hb dX9_round_28 rfl ?_
        refine lv_lconst (v := 0) hx hb dX9_round_29 (by decide) ?_
        refine lv_lconst (v := 1) hx hb dX9_round_30 (by decide) ?_
        refine h_cSi (As := [.long p4.toInt64, .long (0 : Int64), .long (1 : Int64)]) (rest := []) hf hx hb hml hts hown hX hw myX9_in msX9_in lkX9_90 (fun q hq => c_X9_in l E B T p4.toInt64 (0 : Int64) (1 : Int64) q3.2 hq) ⟨Nat.le_of_ble_eq_true rfl, Nat.le_of_ble_eq_true rfl⟩ ⟨Nat.le_refl _, Nat.le_refl _⟩ rfl hl.1 rfl (Nat.le_of_ble_eq_true rfl) dX9_round_31 (fun q4 H4 L4 hf hw => ?_)
        refine lv_if_ne (tgt := 40) hx hb dX9_round_34 (by decide) (fun hc => ?_) (fun hc => ?_)
        · have hf := ifn hc hf
          refine lv_iload_n hx hb dX9_round_40 rfl (lv_at hl 1 rfl) ?_
          refine lv_istore (lv' := [(5, .int p1), (0, .ref (B + a0)), (1, .int p1), (2, .int p2), (3, .int p3), (4, .int p4)]) hx hb dX9_round_41 hl (by decide) rfl (fun ls hl => ?_)
          refine lv_iload_n hx hb dX9_round_43 rfl (lv_at hl 3 rfl) ?_
          refine lv_istore (lv' := [(6, .int p2), (5, .int p1), (0, .ref (B + a0)), (1, .int p1), (2, .int p2), (3, .int p3), (4, .int p4)]) hx hb dX9_round_44 hl (by decide) rfl (fun ls hl => ?_)
          refine lv_iconst (v := 0) hx hb dX9_round_46 (by decide) ?_
          refine lv_istore (lv' := [(7, .int (0 : Int32)), (6, .int p2), (5, .int p1), (0, .ref (B + a0)), (1, .int p1), (2, .int p2), (3, .int p3), (4, .int p4)]) hx hb dX9_round_47 hl (by decide) rfl (fun ls hl => ?_)
          refine wfX9_round_L49 hΓ ?_ 6000 p1 p2 (0 : Int32) q4.2 _ _ _ hf hw (lv_sub hl [6, 7, 2, 1, 0] rfl)
          intro x9 x10 u11 H11 L11 ls hf hw hl
          refine lv_iload hx hb dX9_round_84 (lv_at hl 0 rfl) ?_
          refine lv_if_ne (tgt := 94) hx hb dX9_round_86 (by decide) (fun hc => ?_) (fun hc => ?_)
          · have hf := ifn hc hf
            refine lv_iload hx hb dX9_round_94 (lv_at hl 2 rfl) ?_
            exact h_iret hf hx hb hr hlk hw dX9_round_96
          · have hf := ifp hc hf
            refine lv_iload hx hb dX9_round_89 (lv_at hl 1 rfl) ?_
            refine lv_goto (tgt := 96) hx hb dX9_round_91 (by decide) ?_
            exact h_iret hf hx hb hr hlk hw dX9_round_96
        · have hf := ifp hc hf
          refine lv_ldc hx hb hown (hts _ kcX9_99) dX9_round_37 ?_
          exact h_iret hf hx hb hr hlk hw dX9_round_39
theorem c_X9_round (l : Launch) (E : hE) (B : Nat) (T : hT) (a0 : Nat) (p1 : Int32) (p2 : Int32) (p3 : Int32) (p4 : Int32) (u0 : hM) {z : Int32 × hM} (hf : fX9_round T a0 p1 p2 p3 p4 u0 = some z) : h_Ct l E B T yX9_round cX9_round 9 (some .int) 2 [.ref (B + a0), .int p1, .int p2, .int p3, .int p4] u0 z.2 (some (.int z.1)) := h_ofW (by decide) (Nat.le_of_ble_eq_true rfl) (fun p e s m below meth c ls hΓ hl hw => wX9_round hΓ hf hw hl)
def fX9_write (T : hT) (a0 : Nat) (p1 : Int32) (u0 : hM) : Option (Int32 × hM) := (fX9_in T p1.toInt64 (0 : Int64) (9999 : Int64) u0).bind fun q1 => if q1.1 = 0 then (some ((-1000000002 : Int32), q1.2)) else ((gti T q1.2 a0 9 35).bind fun x2 => if x2 = (40 : Int32) then (some ((-1000000004 : Int32), q1.2)) else ((gtr T q1.2 a0 9 36).bind fun a3 => (gti T q1.2 a0 9 35).bind fun x4 => (asti T q1.2 a3 x4 p1).bind fun u5 => (gti T u5 a0 9 35).bind fun x6 => (pti T u5 a0 9 35 (x6 + (1 : Int32))).bind fun u7 => (gti T u7 a0 9 35).bind fun x8 => some (x8, u7)))
set_option maxRecDepth 100000 in
set_option maxHeartbeats 4000000 in
theorem wX9_write {a0 : Nat} {p1 : Int32} {u0 : hM} {z : Int32 × hM} {ls : Array Slot} (hΓ : h_Γ E B T p s m args meth c cX9_write 2 (some .int) RX9) (hf : fX9_write T a0 p1 u0 = some z) (hw : h_W E B T s.heap u0 s.heap []) (hl : lv_has ls 2 [(0, .ref (B + a0)), (1, .int p1)]) : W p l e (h_rm 1) s m args below meth c s.heap [] 0 0 (h_Qi below E B T args s z) (F0 m 0 ls []) := by
  obtain ⟨hx, hb, hr, hml, hts, hown, hlk, hX⟩ := id hΓ
  unfold fX9_write at hf
  refine lv_iload_n hx hb dX9_write_0 rfl (lv_at hl 1 rfl) ?_
  refine lv_i2l hx hb dX9_write_1 rfl ?_
  refine lv_lconst (v := 0) hx hb dX9_write_2 (by decide) ?_
  refine lv_ldc2 hx hb hown (hts _ klX9_361) dX9_write_3 ?_
  refine h_cSi (As := [.long p1.toInt64, .long (0 : Int64), .long (9999 : Int64)]) (rest := []) hf hx hb hml hts hown hX hw myX9_in msX9_in lkX9_90 (fun q hq => c_X9_in l E B T p1.toInt64 (0 : Int64) (9999 : Int64) u0 hq) ⟨Nat.le_of_ble_eq_true rfl, Nat.le_of_ble_eq_true rfl⟩ ⟨Nat.le_refl _, Nat.le_refl _⟩ rfl hl.1 rfl (Nat.le_of_ble_eq_true rfl) dX9_write_6 (fun q1 H1 L1 hf hw => ?_)
  refine lv_if_ne (tgt := 15) hx hb dX9_write_9 (by decide) (fun hc => ?_) (fun hc => ?_)
  · have hf := ifn hc hf
    refine lv_aload_n hx hb dX9_write_15 rfl (lv_at hl 0 rfl) ?_
    refine h_geti hf hx hb hts hown hX hw flX9_184 rfl dX9_write_16 (fun x2 hf => ?_)
    refine lv_bipush (v := 40) hx hb dX9_write_19 (by decide) ?_
    refine lv_icmp_ne (tgt := 27) hx hb dX9_write_21 (by decide) (fun hc => ?_) (fun hc => ?_)
    · have hf := ifn hc hf
      refine lv_aload_n hx hb dX9_write_27 rfl (lv_at hl 0 rfl) ?_
      refine h_getr hf hx hb hts hown hX hw flX9_78 rfl dX9_write_28 (fun a3 hf => ?_)
      refine lv_aload_n hx hb dX9_write_31 rfl (lv_at hl 0 rfl) ?_
      refine h_geti hf hx hb hts hown hX hw flX9_184 rfl dX9_write_32 (fun x4 hf => ?_)
      refine lv_iload_n hx hb dX9_write_35 rfl (lv_at hl 1 rfl) ?_
      refine h_iast hf hx hb hX hw dX9_write_36 (fun u5 H5 L5 hf hw => ?_)
      refine lv_aload_n hx hb dX9_write_37 rfl (lv_at hl 0 rfl) ?_
      refine lv_dup hx hb dX9_write_38 rfl ?_
      refine h_geti hf hx hb hts hown hX hw flX9_184 rfl dX9_write_39 (fun x6 hf => ?_)
      refine lv_iconst (v := 1) hx hb dX9_write_42 (by decide) ?_
      refine lv_iadd hx hb dX9_write_43 ?_
      refine h_puti hf hx hb hts hown hX hw flX9_184 ⟨rfl, rfl⟩ dX9_write_44 (fun u7 H7 L7 hf hw => ?_)
      refine lv_aload_n hx hb dX9_write_47 rfl (lv_at hl 0 rfl) ?_
      refine h_geti hf hx hb hts hown hX hw flX9_184 rfl dX9_write_48 (fun x8 hf => ?_)
      exact h_iret hf hx hb hr hlk hw dX9_write_51
    · have hf := ifp hc hf
      refine lv_ldc hx hb hown (hts _ kcX9_103) dX9_write_24 ?_
      exact h_iret hf hx hb hr hlk hw dX9_write_26
  · have hf := ifp hc hf
    refine lv_ldc hx hb hown (hts _ kcX9_99) dX9_write_12 ?_
    exact h_iret hf hx hb hr hlk hw dX9_write_14
theorem c_X9_write (l : Launch) (E : hE) (B : Nat) (T : hT) (a0 : Nat) (p1 : Int32) (u0 : hM) {z : Int32 × hM} (hf : fX9_write T a0 p1 u0 = some z) : h_Ct l E B T yX9_write cX9_write 2 (some .int) 1 [.ref (B + a0), .int p1] u0 z.2 (some (.int z.1)) := h_ofW (by decide) (Nat.le_of_ble_eq_true rfl) (fun p e s m below meth c ls hΓ hl hw => wX9_write hΓ hf hw hl)
def fX9_tear (T : hT) (a0 : Nat) (u0 : hM) : Option (Int32 × hM) := (gti T u0 a0 9 35).bind fun x1 => (pti T u0 a0 9 35 (0 : Int32)).bind fun u2 => some (x1, u2)
set_option maxRecDepth 100000 in
set_option maxHeartbeats 4000000 in
theorem wX9_tear {a0 : Nat} {u0 : hM} {z : Int32 × hM} {ls : Array Slot} (hΓ : h_Γ E B T p s m args meth c cX9_tear 2 (some .int) RX9) (hf : fX9_tear T a0 u0 = some z) (hw : h_W E B T s.heap u0 s.heap []) (hl : lv_has ls 2 [(0, .ref (B + a0))]) : W p l e (h_rm 0) s m args below meth c s.heap [] 0 0 (h_Qi below E B T args s z) (F0 m 0 ls []) := by
  obtain ⟨hx, hb, hr, hml, hts, hown, hlk, hX⟩ := id hΓ
  unfold fX9_tear at hf
  refine lv_aload_n hx hb dX9_tear_0 rfl (lv_at hl 0 rfl) ?_
  refine h_geti hf hx hb hts hown hX hw flX9_184 rfl dX9_tear_1 (fun x1 hf => ?_)
  refine lv_istore_n (lv' := [(1, .int x1), (0, .ref (B + a0))]) hx hb dX9_tear_4 rfl hl (by decide) rfl (fun ls hl => ?_)
  refine lv_aload_n hx hb dX9_tear_5 rfl (lv_at hl 1 rfl) ?_
  refine lv_iconst (v := 0) hx hb dX9_tear_6 (by decide) ?_
  refine h_puti hf hx hb hts hown hX hw flX9_184 ⟨rfl, rfl⟩ dX9_tear_7 (fun u2 H2 L2 hf hw => ?_)
  refine lv_iload_n hx hb dX9_tear_10 rfl (lv_at hl 0 rfl) ?_
  exact h_iret hf hx hb hr hlk hw dX9_tear_11
theorem c_X9_tear (l : Launch) (E : hE) (B : Nat) (T : hT) (a0 : Nat) (u0 : hM) {z : Int32 × hM} (hf : fX9_tear T a0 u0 = some z) : h_Ct l E B T yX9_tear cX9_tear 2 (some .int) 0 [.ref (B + a0)] u0 z.2 (some (.int z.1)) := h_ofW (by decide) (Nat.le_of_ble_eq_true rfl) (fun p e s m below meth c ls hΓ hl hw => wX9_tear hΓ hf hw hl)
def fX9_judge_L13 (T : hT) (c0 : Nat) (ex : hM → Option (Int32 × hM)) : Nat → Int32 → hM → Option (Int32 × hM)
  | 0, _, _ => none
  | n + 1, v1, u0 => (gti T u0 c0 9 35).bind fun x2 => if x2 ≤ v1 then (ex u0) else ((gti T u0 c0 9 0).bind fun x3 => if x3 ≤ v1 then (some (v1, u0)) else ((gtr T u0 c0 9 10).bind fun a4 => (ald 11 T u0 a4 v1).bind fun x5 => if x5 < 0 then (some (v1, u0)) else ((gtr T u0 c0 9 36).bind fun a6 => (ald 11 T u0 a6 v1).bind fun x7 => (gtr T u0 c0 9 10).bind fun a8 => (ald 11 T u0 a8 v1).bind fun x9 => (fX9_isNear T (x7 - x9) u0).bind fun q10 => if q10.1 = 0 then (some (v1, q10.2)) else (lt (v1 + (1 : Int32)) fun x11 => fX9_judge_L13 T c0 ex n x11 q10.2))))
def fX9_judge (T : hT) (a0 : Nat) (u0 : hM) : Option (Int32 × hM) := (gti T u0 a0 9 9).bind fun x1 => if 0 ≤ x1 then (fX9_judge_L13 T a0 (fun (u12 : hM) => some ((-1 : Int32), u12)) 6000 (0 : Int32) u0) else (some ((-1000000003 : Int32), u0))
set_option maxRecDepth 100000 in
set_option maxHeartbeats 4000000 in
theorem wfX9_judge_L13 {c0 : Nat} {ex : hM → Option (Int32 × hM)} {z : Int32 × hM} (hΓ : h_Γ E B T p s m args meth c cX9_judge 2 (some .int) RX9) (hex : ∀ (u9 : hM) (H9 : Heap) (L9 : List Loc) (ls : Array Slot), ex u9 = some z → h_W E B T s.heap u9 H9 L9 → lv_has ls 2 [] → W p l e (h_rm 2) s m args below meth c H9 L9 0 0 (h_Qi below E B T args s z) (F0 m 65 ls [])) : ∀ (n : Nat) (v1 : Int32) (u0 : hM) (H0 : Heap) (L0 : List Loc) (ls : Array Slot), fX9_judge_L13 T c0 ex n v1 u0 = some z → h_W E B T s.heap u0 H0 L0 → lv_has ls 2 [(0, .ref (B + c0)), (1, .int v1)] → W p l e (h_rm 2) s m args below meth c H0 L0 0 0 (h_Qi below E B T args s z) (F0 m 13 ls []) := by
  obtain ⟨hx, hb, hr, hml, hts, hown, hlk, hX⟩ := id hΓ
  intro n
  induction n with
  | zero =>
    intro v1 u0 H0 L0 ls hf hw hl
    exact absurd (show (none : Option (Int32 × hM)) = some z from hf) (fun h => by cases h)
  | succ n ih =>
    intro v1 u0 H0 L0 ls hf hw hl
    rw [fX9_judge_L13] at hf
    refine lv_iload_n hx hb dX9_judge_13 rfl (lv_at hl 1 rfl) ?_
    refine lv_aload_n hx hb dX9_judge_14 rfl (lv_at hl 0 rfl) ?_
    refine h_geti hf hx hb hts hown hX hw flX9_184 rfl dX9_judge_15 (fun x2 hf => ?_)
    refine lv_icmp_ge (tgt := 65) hx hb dX9_judge_18 (by decide) (fun hc => ?_) (fun hc => ?_)
    · have hf := ifp hc hf
      exact hex  u0 _ _ _ hf hw (lv_sub hl [] rfl)
    · have hf := ifn hc hf
      refine lv_iload_n hx hb dX9_judge_21 rfl (lv_at hl 1 rfl) ?_
      refine lv_aload_n hx hb dX9_judge_22 rfl (lv_at hl 0 rfl) ?_
      refine h_geti hf hx hb hts hown hX hw flX9_178 rfl dX9_judge_23 (fun x3 hf => ?_)
      refine lv_icmp_ge (tgt := 57) hx hb dX9_judge_26 (by decide) (fun hc => ?_) (fun hc => ?_)
      · have hf := ifp hc hf
        refine lv_iload_n hx hb dX9_judge_57 rfl (lv_at hl 1 rfl) ?_
        exact h_iret hf hx hb hr hlk hw dX9_judge_58
      · have hf := ifn hc hf
        refine lv_aload_n hx hb dX9_judge_29 rfl (lv_at hl 0 rfl) ?_
        refine h_getr hf hx hb hts hown hX hw flX9_33 rfl dX9_judge_30 (fun a4 hf => ?_)
        refine lv_iload_n hx hb dX9_judge_33 rfl (lv_at hl 1 rfl) ?_
        refine h_iald hf hx hb hX hw dX9_judge_34 (fun x5 hf => ?_)
        refine lv_if_lt (tgt := 57) hx hb dX9_judge_35 (by decide) (fun hc => ?_) (fun hc => ?_)
        · have hf := ifp hc hf
          refine lv_iload_n hx hb dX9_judge_57 rfl (lv_at hl 1 rfl) ?_
          exact h_iret hf hx hb hr hlk hw dX9_judge_58
        · have hf := ifn hc hf
          refine lv_aload_n hx hb dX9_judge_38 rfl (lv_at hl 0 rfl) ?_
          refine h_getr hf hx hb hts hown hX hw flX9_78 rfl dX9_judge_39 (fun a6 hf => ?_)
          refine lv_iload_n hx hb dX9_judge_42 rfl (lv_at hl 1 rfl) ?_
          refine h_iald hf hx hb hX hw dX9_judge_43 (fun x7 hf => ?_)
          refine lv_aload_n hx hb dX9_judge_44 rfl (lv_at hl 0 rfl) ?_
          refine h_getr hf hx hb hts hown hX hw flX9_33 rfl dX9_judge_45 (fun a8 hf => ?_)
          refine lv_iload_n hx hb dX9_judge_48 rfl (lv_at hl 1 rfl) ?_
          refine h_iald hf hx hb hX hw dX9_judge_49 (fun x9 hf => ?_)
          refine lv_isub hx hb dX9_judge_50 ?_
          refine h_cSi (As := [.int (x7 - x9)]) (rest := []) hf hx hb hml hts hown hX hw myX9_isNear msX9_isNear lkX9_264 (fun q hq => c_X9_isNear l E B T (x7 - x9) u0 hq) ⟨Nat.le_of_ble_eq_true rfl, Nat.le_of_ble_eq_true rfl⟩ ⟨Nat.le_refl _, Nat.le_refl _⟩ rfl hl.1 rfl (Nat.le_of_ble_eq_true rfl) dX9_judge_51 (fun q10 H10 L10 hf hw => ?_)
          refine lv_if_ne (tgt := 59) hx hb dX9_judge_54 (by decide) (fun hc => ?_) (fun hc => ?_)
          · have hf := ifn hc hf
            refine h_iinc (k := 1) hf hx hb dX9_judge_59 hl rfl (by decide) (by decide) (fun x11 ls hf hl => ?_)
            have hl : lv_has ls 2 [(1, .int x11), (0, .ref (B + c0))] := hl
            refine lv_goto (tgt := 13) hx hb dX9_judge_62 (by decide) ?_
            exact ih x11 q10.2 _ _ _ hf hw (lv_sub hl [1, 0] rfl)
          · have hf := ifp hc hf
            refine lv_iload_n hx hb dX9_judge_57 rfl (lv_at hl 1 rfl) ?_
            exact h_iret hf hx hb hr hlk hw dX9_judge_58
set_option maxRecDepth 100000 in
set_option maxHeartbeats 4000000 in
theorem wX9_judge {a0 : Nat} {u0 : hM} {z : Int32 × hM} {ls : Array Slot} (hΓ : h_Γ E B T p s m args meth c cX9_judge 2 (some .int) RX9) (hf : fX9_judge T a0 u0 = some z) (hw : h_W E B T s.heap u0 s.heap []) (hl : lv_has ls 2 [(0, .ref (B + a0))]) : W p l e (h_rm 2) s m args below meth c s.heap [] 0 0 (h_Qi below E B T args s z) (F0 m 0 ls []) := by
  obtain ⟨hx, hb, hr, hml, hts, hown, hlk, hX⟩ := id hΓ
  unfold fX9_judge at hf
  refine lv_aload_n hx hb dX9_judge_0 rfl (lv_at hl 0 rfl) ?_
  refine h_geti hf hx hb hts hown hX hw flX9_29 rfl dX9_judge_1 (fun x1 hf => ?_)
  refine lv_if_ge (tgt := 11) hx hb dX9_judge_4 (by decide) (fun hc => ?_) (fun hc => ?_)
  · have hf := ifp hc hf
    refine lv_iconst (v := 0) hx hb dX9_judge_11 (by decide) ?_
    refine lv_istore_n (lv' := [(1, .int (0 : Int32)), (0, .ref (B + a0))]) hx hb dX9_judge_12 rfl hl (by decide) rfl (fun ls hl => ?_)
    refine wfX9_judge_L13 hΓ ?_ 6000 (0 : Int32) u0 _ _ _ hf hw (lv_sub hl [1, 0] rfl)
    intro u12 H12 L12 ls hf hw hl
    refine lv_iconst (v := -1) hx hb dX9_judge_65 (by decide) ?_
    exact h_iret hf hx hb hr hlk hw dX9_judge_66
  · have hf := ifn hc hf
    refine lv_ldcw hx hb hown (hts _ kcX9_277) dX9_judge_7 ?_
    exact h_iret hf hx hb hr hlk hw dX9_judge_10
theorem c_X9_judge (l : Launch) (E : hE) (B : Nat) (T : hT) (a0 : Nat) (u0 : hM) {z : Int32 × hM} (hf : fX9_judge T a0 u0 = some z) : h_Ct l E B T yX9_judge cX9_judge 2 (some .int) 2 [.ref (B + a0)] u0 z.2 (some (.int z.1)) := h_ofW (by decide) (Nat.le_of_ble_eq_true rfl) (fun p e s m below meth c ls hΓ hl hw => wX9_judge hΓ hf hw hl)
def fX9_seed (T : hT) (a0 : Nat) (p1 : Int32) (u0 : hM) : Option (Int32 × hM) := if 0 ≤ p1 then ((gti T u0 a0 9 11).bind fun x1 => (pti T u0 a0 9 11 p1).bind fun u2 => some (x1, u2)) else (some ((-1000000002 : Int32), u0))
set_option maxRecDepth 100000 in
set_option maxHeartbeats 4000000 in
theorem wX9_seed {a0 : Nat} {p1 : Int32} {u0 : hM} {z : Int32 × hM} {ls : Array Slot} (hΓ : h_Γ E B T p s m args meth c cX9_seed 3 (some .int) RX9) (hf : fX9_seed T a0 p1 u0 = some z) (hw : h_W E B T s.heap u0 s.heap []) (hl : lv_has ls 3 [(0, .ref (B + a0)), (1, .int p1)]) : W p l e (h_rm 0) s m args below meth c s.heap [] 0 0 (h_Qi below E B T args s z) (F0 m 0 ls []) := by
  obtain ⟨hx, hb, hr, hml, hts, hown, hlk, hX⟩ := id hΓ
  unfold fX9_seed at hf
  refine lv_iload_n hx hb dX9_seed_0 rfl (lv_at hl 1 rfl) ?_
  refine lv_if_ge (tgt := 7) hx hb dX9_seed_1 (by decide) (fun hc => ?_) (fun hc => ?_)
  · have hf := ifp hc hf
    refine lv_aload_n hx hb dX9_seed_7 rfl (lv_at hl 0 rfl) ?_
    refine h_geti hf hx hb hts hown hX hw flX9_227 rfl dX9_seed_8 (fun x1 hf => ?_)
    refine lv_istore_n (lv' := [(2, .int x1), (0, .ref (B + a0)), (1, .int p1)]) hx hb dX9_seed_11 rfl hl (by decide) rfl (fun ls hl => ?_)
    refine lv_aload_n hx hb dX9_seed_12 rfl (lv_at hl 1 rfl) ?_
    refine lv_iload_n hx hb dX9_seed_13 rfl (lv_at hl 2 rfl) ?_
    refine h_puti hf hx hb hts hown hX hw flX9_227 ⟨rfl, rfl⟩ dX9_seed_14 (fun u2 H2 L2 hf hw => ?_)
    refine lv_iload_n hx hb dX9_seed_17 rfl (lv_at hl 0 rfl) ?_
    exact h_iret hf hx hb hr hlk hw dX9_seed_18
  · have hf := ifn hc hf
    refine lv_ldc hx hb hown (hts _ kcX9_99) dX9_seed_4 ?_
    exact h_iret hf hx hb hr hlk hw dX9_seed_6
theorem c_X9_seed (l : Launch) (E : hE) (B : Nat) (T : hT) (a0 : Nat) (p1 : Int32) (u0 : hM) {z : Int32 × hM} (hf : fX9_seed T a0 p1 u0 = some z) : h_Ct l E B T yX9_seed cX9_seed 3 (some .int) 0 [.ref (B + a0), .int p1] u0 z.2 (some (.int z.1)) := h_ofW (by decide) (Nat.le_of_ble_eq_true rfl) (fun p e s m below meth c ls hΓ hl hw => wX9_seed hΓ hf hw hl)
def fX9_keep_L21 (T : hT) (c0 : Nat) (c2 : Int32) (ex : hM → Option (Int32 × hM)) : Nat → Int32 → hM → Option (Int32 × hM)
  | 0, _, _ => none
  | n + 1, v3, u0 => if (40 : Int32) ≤ v3 then (ex u0) else ((gtr T u0 c0 9 37).bind fun a3 => (gtr T u0 c0 9 10).bind fun a4 => (ald 11 T u0 a4 v3).bind fun x5 => (asti T u0 a3 (c2 + v3) x5).bind fun u6 => lt (v3 + (1 : Int32)) fun x7 => fX9_keep_L21 T c0 c2 ex n x7 u6)
def fX9_keep_L49 (T : hT) (c0 : Nat) (c2 : Int32) (ex : hM → Option (Int32 × hM)) : Nat → Int32 → hM → Option (Int32 × hM)
  | 0, _, _ => none
  | n + 1, v3, u0 => if (6 : Int32) ≤ v3 then (ex u0) else ((gtr T u0 c0 9 37).bind fun a9 => (gtr T u0 c0 9 8).bind fun a10 => (ald 11 T u0 a10 v3).bind fun x11 => (asti T u0 a9 ((c2 + (40 : Int32)) + v3) x11).bind fun u12 => lt (v3 + (1 : Int32)) fun x13 => fX9_keep_L49 T c0 c2 ex n x13 u12)
def fX9_keep_L80 (T : hT) (c0 : Nat) (c2 : Int32) (ex : hM → Option (Int32 × hM)) : Nat → Int32 → hM → Option (Int32 × hM)
  | 0, _, _ => none
  | n + 1, v3, u0 => if (16 : Int32) ≤ v3 then (ex u0) else ((gtr T u0 c0 9 37).bind fun a15 => (gtr T u0 c0 9 7).bind fun a16 => (ald 11 T u0 a16 v3).bind fun x17 => (asti T u0 a15 ((c2 + (46 : Int32)) + v3) x17).bind fun u18 => lt (v3 + (1 : Int32)) fun x19 => fX9_keep_L80 T c0 c2 ex n x19 u18)
def fX9_keep_L111 (T : hT) (c0 : Nat) (c2 : Int32) (ex : hM → Option (Int32 × hM)) : Nat → Int32 → hM → Option (Int32 × hM)
  | 0, _, _ => none
  | n + 1, v3, u0 => if (96 : Int32) ≤ v3 then (ex u0) else ((gtr T u0 c0 9 37).bind fun a21 => (gtr T u0 c0 9 4).bind fun a22 => (ald 11 T u0 a22 v3).bind fun x23 => (asti T u0 a21 ((c2 + (62 : Int32)) + v3) x23).bind fun u24 => lt (v3 + (1 : Int32)) fun x25 => fX9_keep_L111 T c0 c2 ex n x25 u24)
def fX9_keep (T : hT) (a0 : Nat) (p1 : Int32) (u0 : hM) : Option (Int32 × hM) := (fX9_in T p1.toInt64 (0 : Int64) (1 : Int64) u0).bind fun q1 => if q1.1 = 0 then (some ((-1000000001 : Int32), q1.2)) else (lt (((200 : Int32) * p1)) fun x2 => fX9_keep_L21 T a0 x2 (fun (u8 : hM) => fX9_keep_L49 T a0 x2 (fun (u14 : hM) => fX9_keep_L80 T a0 x2 (fun (u20 : hM) => fX9_keep_L111 T a0 x2 (fun (u26 : hM) => (gtr T u26 a0 9 37).bind fun a27 => (gti T u26 a0 9 9).bind fun x28 => (asti T u26 a27 (x2 + (158 : Int32)) x28).bind fun u29 => (gtr T u29 a0 9 37).bind fun a30 => (gti T u29 a0 9 11).bind fun x31 => (asti T u29 a30 (x2 + (159 : Int32)) x31).bind fun u32 => (gtr T u32 a0 9 38).bind fun a33 => (astz T u32 a33 p1 (1 : Int32)).bind fun u34 => some ((1 : Int32), u34)) 6000 (0 : Int32) u20) 6000 (0 : Int32) u14) 6000 (0 : Int32) u8) 6000 (0 : Int32) q1.2)
set_option maxRecDepth 100000 in
set_option maxHeartbeats 4000000 in
theorem wfX9_keep_L21 {c0 : Nat} {c1 : Int32} {c2 : Int32} {ex : hM → Option (Int32 × hM)} {z : Int32 × hM} (hΓ : h_Γ E B T p s m args meth c cX9_keep 4 (some .int) RX9) (hex : ∀ (u9 : hM) (H9 : Heap) (L9 : List Loc) (ls : Array Slot), ex u9 = some z → h_W E B T s.heap u9 H9 L9 → lv_has ls 4 [(0, .ref (B + c0)), (1, .int c1), (2, .int c2)] → W p l e (h_rm 1) s m args below meth c H9 L9 0 0 (h_Qi below E B T args s z) (F0 m 47 ls [])) : ∀ (n : Nat) (v3 : Int32) (u0 : hM) (H0 : Heap) (L0 : List Loc) (ls : Array Slot), fX9_keep_L21 T c0 c2 ex n v3 u0 = some z → h_W E B T s.heap u0 H0 L0 → lv_has ls 4 [(0, .ref (B + c0)), (1, .int c1), (2, .int c2), (3, .int v3)] → W p l e (h_rm 1) s m args below meth c H0 L0 0 0 (h_Qi below E B T args s z) (F0 m 21 ls []) := by
  obtain ⟨hx, hb, hr, hml, hts, hown, hlk, hX⟩ := id hΓ
  intro n
  induction n with
  | zero =>
    intro v3 u0 H0 L0 ls hf hw hl
    exact absurd (show (none : Option (Int32 × hM)) = some z from hf) (fun h => by cases h)
  | succ n ih =>
    intro v3 u0 H0 L0 ls hf hw hl
    rw [fX9_keep_L21] at hf
    refine lv_iload_n hx hb dX9_keep_21 rfl (lv_at hl 3 rfl) ?_
    refine lv_bipush (v := 40) hx hb dX9_keep_22 (by decide) ?_
    refine lv_icmp_ge (tgt := 47) hx hb dX9_keep_24 (by decide) (fun hc => ?_) (fun hc => ?_)
    · have hf := ifp hc hf
      exact hex  u0 _ _ _ hf hw (lv_sub hl [0, 1, 2] rfl)
    · have hf := ifn hc hf
      refine lv_aload_n hx hb dX9_keep_27 rfl (lv_at hl 0 rfl) ?_
      refine h_getr hf hx hb hts hown hX hw flX9_81 rfl dX9_keep_28 (fun a3 hf => ?_)
      refine lv_iload_n hx hb dX9_keep_31 rfl (lv_at hl 2 rfl) ?_
      refine lv_iload_n hx hb dX9_keep_32 rfl (lv_at hl 3 rfl) ?_
      refine lv_iadd hx hb dX9_keep_33 ?_
      refine lv_aload_n hx hb dX9_keep_34 rfl (lv_at hl 0 rfl) ?_
      refine h_getr hf hx hb hts hown hX hw flX9_33 rfl dX9_keep_35 (fun a4 hf => ?_)
      refine lv_iload_n hx hb dX9_keep_38 rfl (lv_at hl 3 rfl) ?_
      refine h_iald hf hx hb hX hw dX9_keep_39 (fun x5 hf => ?_)
      refine h_iast hf hx hb hX hw dX9_keep_40 (fun u6 H6 L6 hf hw => ?_)
      refine h_iinc (k := 3) hf hx hb dX9_keep_41 hl rfl (by decide) (by decide) (fun x7 ls hf hl => ?_)
      have hl : lv_has ls 4 [(3, .int x7), (0, .ref (B + c0)), (1, .int c1), (2, .int c2)] := hl
      refine lv_goto (tgt := 21) hx hb dX9_keep_44 (by decide) ?_
      exact ih x7 u6 _ _ _ hf hw (lv_sub hl [1, 2, 3, 0] rfl)
set_option maxRecDepth 100000 in
set_option maxHeartbeats 4000000 in
theorem wfX9_keep_L49 {c0 : Nat} {c1 : Int32} {c2 : Int32} {ex : hM → Option (Int32 × hM)} {z : Int32 × hM} (hΓ : h_Γ E B T p s m args meth c cX9_keep 4 (some .int) RX9) (hex : ∀ (u9 : hM) (H9 : Heap) (L9 : List Loc) (ls : Array Slot), ex u9 = some z → h_W E B T s.heap u9 H9 L9 → lv_has ls 4 [(0, .ref (B + c0)), (1, .int c1), (2, .int c2)] → W p l e (h_rm 1) s m args below meth c H9 L9 0 0 (h_Qi below E B T args s z) (F0 m 78 ls [])) : ∀ (n : Nat) (v3 : Int32) (u0 : hM) (H0 : Heap) (L0 : List Loc) (ls : Array Slot), fX9_keep_L49 T c0 c2 ex n v3 u0 = some z → h_W E B T s.heap u0 H0 L0 → lv_has ls 4 [(0, .ref (B + c0)), (1, .int c1), (2, .int c2), (3, .int v3)] → W p l e (h_rm 1) s m args below meth c H0 L0 0 0 (h_Qi below E B T args s z) (F0 m 49 ls []) := by
  obtain ⟨hx, hb, hr, hml, hts, hown, hlk, hX⟩ := id hΓ
  intro n
  induction n with
  | zero =>
    intro v3 u0 H0 L0 ls hf hw hl
    exact absurd (show (none : Option (Int32 × hM)) = some z from hf) (fun h => by cases h)
  | succ n ih =>
    intro v3 u0 H0 L0 ls hf hw hl
    rw [fX9_keep_L49] at hf
    refine lv_iload_n hx hb dX9_keep_49 rfl (lv_at hl 3 rfl) ?_
    refine lv_bipush (v := 6) hx hb dX9_keep_50 (by decide) ?_
    refine lv_icmp_ge (tgt := 78) hx hb dX9_keep_52 (by decide) (fun hc => ?_) (fun hc => ?_)
    · have hf := ifp hc hf
      exact hex  u0 _ _ _ hf hw (lv_sub hl [0, 1, 2] rfl)
    · have hf := ifn hc hf
      refine lv_aload_n hx hb dX9_keep_55 rfl (lv_at hl 0 rfl) ?_
      refine h_getr hf hx hb hts hown hX hw flX9_81 rfl dX9_keep_56 (fun a9 hf => ?_)
      refine lv_iload_n hx hb dX9_keep_59 rfl (lv_at hl 2 rfl) ?_
      refine lv_bipush (v := 40) hx hb dX9_keep_60 (by decide) ?_
      refine lv_iadd hx hb dX9_keep_62 ?_
      refine lv_iload_n hx hb dX9_keep_63 rfl (lv_at hl 3 rfl) ?_
      refine lv_iadd hx hb dX9_keep_64 ?_
      refine lv_aload_n hx hb dX9_keep_65 rfl (lv_at hl 0 rfl) ?_
      refine h_getr hf hx hb hts hown hX hw flX9_26 rfl dX9_keep_66 (fun a10 hf => ?_)
      refine lv_iload_n hx hb dX9_keep_69 rfl (lv_at hl 3 rfl) ?_
      refine h_iald hf hx hb hX hw dX9_keep_70 (fun x11 hf => ?_)
      refine h_iast hf hx hb hX hw dX9_keep_71 (fun u12 H12 L12 hf hw => ?_)
      refine h_iinc (k := 3) hf hx hb dX9_keep_72 hl rfl (by decide) (by decide) (fun x13 ls hf hl => ?_)
      have hl : lv_has ls 4 [(3, .int x13), (0, .ref (B + c0)), (1, .int c1), (2, .int c2)] := hl
      refine lv_goto (tgt := 49) hx hb dX9_keep_75 (by decide) ?_
      exact ih x13 u12 _ _ _ hf hw (lv_sub hl [1, 2, 3, 0] rfl)
set_option maxRecDepth 100000 in
set_option maxHeartbeats 4000000 in
theorem wfX9_keep_L80 {c0 : Nat} {c1 : Int32} {c2 : Int32} {ex : hM → Option (Int32 × hM)} {z : Int32 × hM} (hΓ : h_Γ E B T p s m args meth c cX9_keep 4 (some .int) RX9) (hex : ∀ (u9 : hM) (H9 : Heap) (L9 : List Loc) (ls : Array Slot), ex u9 = some z → h_W E B T s.heap u9 H9 L9 → lv_has ls 4 [(0, .ref (B + c0)), (1, .int c1), (2, .int c2)] → W p l e (h_rm 1) s m args below meth c H9 L9 0 0 (h_Qi below E B T args s z) (F0 m 109 ls [])) : ∀ (n : Nat) (v3 : Int32) (u0 : hM) (H0 : Heap) (L0 : List Loc) (ls : Array Slot), fX9_keep_L80 T c0 c2 ex n v3 u0 = some z → h_W E B T s.heap u0 H0 L0 → lv_has ls 4 [(0, .ref (B + c0)), (1, .int c1), (2, .int c2), (3, .int v3)] → W p l e (h_rm 1) s m args below meth c H0 L0 0 0 (h_Qi below E B T args s z) (F0 m 80 ls []) := by
  obtain ⟨hx, hb, hr, hml, hts, hown, hlk, hX⟩ := id hΓ
  intro n
  induction n with
  | zero =>
    intro v3 u0 H0 L0 ls hf hw hl
    exact absurd (show (none : Option (Int32 × hM)) = some z from hf) (fun h => by cases h)
  | succ n ih =>
    intro v3 u0 H0 L0 ls hf hw hl
    rw [fX9_keep_L80] at hf
    refine lv_iload_n hx hb dX9_keep_80 rfl (lv_at hl 3 rfl) ?_
    refine lv_bipush (v := 16) hx hb dX9_keep_81 (by decide) ?_
    refine lv_icmp_ge (tgt := 109) hx hb dX9_keep_83 (by decide) (fun hc => ?_) (fun hc => ?_)
    · have hf := ifp hc hf
      exact hex  u0 _ _ _ hf hw (lv_sub hl [0, 1, 2] rfl)
    · have hf := ifn hc hf
      refine lv_aload_n hx hb dX9_keep_86 rfl (lv_at hl 0 rfl) ?_
      refine h_getr hf hx hb hts hown hX hw flX9_81 rfl dX9_keep_87 (fun a15 hf => ?_)
      refine lv_iload_n hx hb dX9_keep_90 rfl (lv_at hl 2 rfl) ?_
      refine lv_bipush (v := 46) hx hb dX9_keep_91 (by decide) ?_
      refine lv_iadd hx hb dX9_keep_93 ?_
      refine lv_iload_n hx hb dX9_keep_94 rfl (lv_at hl 3 rfl) ?_
      refine lv_iadd hx hb dX9_keep_95 ?_
      refine lv_aload_n hx hb dX9_keep_96 rfl (lv_at hl 0 rfl) ?_
      refine h_getr hf hx hb hts hown hX hw flX9_23 rfl dX9_keep_97 (fun a16 hf => ?_)
      refine lv_iload_n hx hb dX9_keep_100 rfl (lv_at hl 3 rfl) ?_
      refine h_iald hf hx hb hX hw dX9_keep_101 (fun x17 hf => ?_)
      refine h_iast hf hx hb hX hw dX9_keep_102 (fun u18 H18 L18 hf hw => ?_)
      refine h_iinc (k := 3) hf hx hb dX9_keep_103 hl rfl (by decide) (by decide) (fun x19 ls hf hl => ?_)
      have hl : lv_has ls 4 [(3, .int x19), (0, .ref (B + c0)), (1, .int c1), (2, .int c2)] := hl
      refine lv_goto (tgt := 80) hx hb dX9_keep_106 (by decide) ?_
      exact ih x19 u18 _ _ _ hf hw (lv_sub hl [1, 2, 3, 0] rfl)
set_option maxRecDepth 100000 in
set_option maxHeartbeats 4000000 in
theorem wfX9_keep_L111 {c0 : Nat} {c1 : Int32} {c2 : Int32} {ex : hM → Option (Int32 × hM)} {z : Int32 × hM} (hΓ : h_Γ E B T p s m args meth c cX9_keep 4 (some .int) RX9) (hex : ∀ (u9 : hM) (H9 : Heap) (L9 : List Loc) (ls : Array Slot), ex u9 = some z → h_W E B T s.heap u9 H9 L9 → lv_has ls 4 [(0, .ref (B + c0)), (1, .int c1), (2, .int c2)] → W p l e (h_rm 1) s m args below meth c H9 L9 0 0 (h_Qi below E B T args s z) (F0 m 140 ls [])) : ∀ (n : Nat) (v3 : Int32) (u0 : hM) (H0 : Heap) (L0 : List Loc) (ls : Array Slot), fX9_keep_L111 T c0 c2 ex n v3 u0 = some z → h_W E B T s.heap u0 H0 L0 → lv_has ls 4 [(0, .ref (B + c0)), (1, .int c1), (2, .int c2), (3, .int v3)] → W p l e (h_rm 1) s m args below meth c H0 L0 0 0 (h_Qi below E B T args s z) (F0 m 111 ls []) := by
  obtain ⟨hx, hb, hr, hml, hts, hown, hlk, hX⟩ := id hΓ
  intro n
  induction n with
  | zero =>
    intro v3 u0 H0 L0 ls hf hw hl
    exact absurd (show (none : Option (Int32 × hM)) = some z from hf) (fun h => by cases h)
  | succ n ih =>
    intro v3 u0 H0 L0 ls hf hw hl
    rw [fX9_keep_L111] at hf
    refine lv_iload_n hx hb dX9_keep_111 rfl (lv_at hl 3 rfl) ?_
    refine lv_bipush (v := 96) hx hb dX9_keep_112 (by decide) ?_
    refine lv_icmp_ge (tgt := 140) hx hb dX9_keep_114 (by decide) (fun hc => ?_) (fun hc => ?_)
    · have hf := ifp hc hf
      exact hex  u0 _ _ _ hf hw (lv_sub hl [0, 1, 2] rfl)
    · have hf := ifn hc hf
      refine lv_aload_n hx hb dX9_keep_117 rfl (lv_at hl 0 rfl) ?_
      refine h_getr hf hx hb hts hown hX hw flX9_81 rfl dX9_keep_118 (fun a21 hf => ?_)
      refine lv_iload_n hx hb dX9_keep_121 rfl (lv_at hl 2 rfl) ?_
      refine lv_bipush (v := 62) hx hb dX9_keep_122 (by decide) ?_
      refine lv_iadd hx hb dX9_keep_124 ?_
      refine lv_iload_n hx hb dX9_keep_125 rfl (lv_at hl 3 rfl) ?_
      refine lv_iadd hx hb dX9_keep_126 ?_
      refine lv_aload_n hx hb dX9_keep_127 rfl (lv_at hl 0 rfl) ?_
      refine h_getr hf hx hb hts hown hX hw flX9_17 rfl dX9_keep_128 (fun a22 hf => ?_)
      refine lv_iload_n hx hb dX9_keep_131 rfl (lv_at hl 3 rfl) ?_
      refine h_iald hf hx hb hX hw dX9_keep_132 (fun x23 hf => ?_)
      refine h_iast hf hx hb hX hw dX9_keep_133 (fun u24 H24 L24 hf hw => ?_)
      refine h_iinc (k := 3) hf hx hb dX9_keep_134 hl rfl (by decide) (by decide) (fun x25 ls hf hl => ?_)
      have hl : lv_has ls 4 [(3, .int x25), (0, .ref (B + c0)), (1, .int c1), (2, .int c2)] := hl
      refine lv_goto (tgt := 111) hx hb dX9_keep_137 (by decide) ?_
      exact ih x25 u24 _ _ _ hf hw (lv_sub hl [1, 2, 3, 0] rfl)
set_option maxRecDepth 100000 in
set_option maxHeartbeats 4000000 in
theorem wX9_keep {a0 : Nat} {p1 : Int32} {u0 : hM} {z : Int32 × hM} {ls : Array Slot} (hΓ : h_Γ E B T p s m args meth c cX9_keep 4 (some .int) RX9) (hf : fX9_keep T a0 p1 u0 = some z) (hw : h_W E B T s.heap u0 s.heap []) (hl : lv_has ls 4 [(0, .ref (B + a0)), (1, .int p1)]) : W p l e (h_rm 1) s m args below meth c s.heap [] 0 0 (h_Qi below E B T args s z) (F0 m 0 ls []) := by
  obtain ⟨hx, hb, hr, hml, hts, hown, hlk, hX⟩ := id hΓ
  unfold fX9_keep at hf
  refine lv_iload_n hx hb dX9_keep_0 rfl (lv_at hl 1 rfl) ?_
  refine lv_i2l hx hb dX9_keep_1 rfl ?_
  refine lv_lconst (v := 0) hx hb dX9_keep_2 (by decide) ?_
  refine lv_lconst (v := 1) hx hb dX9_keep_3 (by decide) ?_
  refine h_cSi (As := [.long p1.toInt64, .long (0 : Int64), .long (1 : Int64)]) (rest := []) hf hx hb hml hts hown hX hw myX9_in msX9_in lkX9_90 (fun q hq => c_X9_in l E B T p1.toInt64 (0 : Int64) (1 : Int64) u0 hq) ⟨Nat.le_of_ble_eq_true rfl, Nat.le_of_ble_eq_true rfl⟩ ⟨Nat.le_refl _, Nat.le_refl _⟩ rfl hl.1 rfl (Nat.le_of_ble_eq_true rfl) dX9_keep_4 (fun q1 H1 L1 hf hw => ?_)
  refine lv_if_ne (tgt := 13) hx hb dX9_keep_7 (by decide) (fun hc => ?_) (fun hc => ?_)
  · have hf := ifn hc hf
    refine lv_sipush (v := 200) hx hb dX9_keep_13 (by decide) ?_
    refine lv_iload_n hx hb dX9_keep_16 rfl (lv_at hl 1 rfl) ?_
    refine lv_imul hx hb dX9_keep_17 ?_
    refine h_nmi hf (fun x2 hf => ?_)
    refine lv_istore_n (lv' := [(2, .int x2), (0, .ref (B + a0)), (1, .int p1)]) hx hb dX9_keep_18 rfl hl (by decide) rfl (fun ls hl => ?_)
    refine lv_iconst (v := 0) hx hb dX9_keep_19 (by decide) ?_
    refine lv_istore_n (lv' := [(3, .int (0 : Int32)), (2, .int x2), (0, .ref (B + a0)), (1, .int p1)]) hx hb dX9_keep_20 rfl hl (by decide) rfl (fun ls hl => ?_)
    refine wfX9_keep_L21 hΓ ?_ 6000 (0 : Int32) q1.2 _ _ _ hf hw (lv_sub hl [2, 3, 1, 0] rfl)
    intro u8 H8 L8 ls hf hw hl
    refine lv_iconst (v := 0) hx hb dX9_keep_47 (by decide) ?_
    refine lv_istore_n (lv' := [(3, .int (0 : Int32)), (0, .ref (B + a0)), (1, .int p1), (2, .int x2)]) hx hb dX9_keep_48 rfl hl (by decide) rfl (fun ls hl => ?_)
    refine wfX9_keep_L49 hΓ ?_ 6000 (0 : Int32) u8 _ _ _ hf hw (lv_sub hl [1, 2, 3, 0] rfl)
    intro u14 H14 L14 ls hf hw hl
    refine lv_iconst (v := 0) hx hb dX9_keep_78 (by decide) ?_
    refine lv_istore_n (lv' := [(3, .int (0 : Int32)), (0, .ref (B + a0)), (1, .int p1), (2, .int x2)]) hx hb dX9_keep_79 rfl hl (by decide) rfl (fun ls hl => ?_)
    refine wfX9_keep_L80 hΓ ?_ 6000 (0 : Int32) u14 _ _ _ hf hw (lv_sub hl [1, 2, 3, 0] rfl)
    intro u20 H20 L20 ls hf hw hl
    refine lv_iconst (v := 0) hx hb dX9_keep_109 (by decide) ?_
    refine lv_istore_n (lv' := [(3, .int (0 : Int32)), (0, .ref (B + a0)), (1, .int p1), (2, .int x2)]) hx hb dX9_keep_110 rfl hl (by decide) rfl (fun ls hl => ?_)
    refine wfX9_keep_L111 hΓ ?_ 6000 (0 : Int32) u20 _ _ _ hf hw (lv_sub hl [1, 2, 3, 0] rfl)
    intro u26 H26 L26 ls hf hw hl
    refine lv_aload_n hx hb dX9_keep_140 rfl (lv_at hl 0 rfl) ?_
    refine h_getr hf hx hb hts hown hX hw flX9_81 rfl dX9_keep_141 (fun a27 hf => ?_)
    refine lv_iload_n hx hb dX9_keep_144 rfl (lv_at hl 2 rfl) ?_
    refine lv_sipush (v := 158) hx hb dX9_keep_145 (by decide) ?_
    refine lv_iadd hx hb dX9_keep_148 ?_
    refine lv_aload_n hx hb dX9_keep_149 rfl (lv_at hl 0 rfl) ?_
    refine h_geti hf hx hb hts hown hX hw flX9_29 rfl dX9_keep_150 (fun x28 hf => ?_)
    refine h_iast hf hx hb hX hw dX9_keep_153 (fun u29 H29 L29 hf hw => ?_)
    refine lv_aload_n hx hb dX9_keep_154 rfl (lv_at hl 0 rfl) ?_
    refine h_getr hf hx hb hts hown hX hw flX9_81 rfl dX9_keep_155 (fun a30 hf => ?_)
    refine lv_iload_n hx hb dX9_keep_158 rfl (lv_at hl 2 rfl) ?_
    refine lv_sipush (v := 159) hx hb dX9_keep_159 (by decide) ?_
    refine lv_iadd hx hb dX9_keep_162 ?_
    refine lv_aload_n hx hb dX9_keep_163 rfl (lv_at hl 0 rfl) ?_
    refine h_geti hf hx hb hts hown hX hw flX9_227 rfl dX9_keep_164 (fun x31 hf => ?_)
    refine h_iast hf hx hb hX hw dX9_keep_167 (fun u32 H32 L32 hf hw => ?_)
    refine lv_aload_n hx hb dX9_keep_168 rfl (lv_at hl 0 rfl) ?_
    refine h_getr hf hx hb hts hown hX hw flX9_84 rfl dX9_keep_169 (fun a33 hf => ?_)
    refine lv_iload_n hx hb dX9_keep_172 rfl (lv_at hl 1 rfl) ?_
    refine lv_iconst (v := 1) hx hb dX9_keep_173 (by decide) ?_
    refine h_zast hf hx hb hX hw dX9_keep_174 (fun u34 H34 L34 hf hw => ?_)
    refine lv_iconst (v := 1) hx hb dX9_keep_175 (by decide) ?_
    exact h_iret hf hx hb hr hlk hw dX9_keep_176
  · have hf := ifp hc hf
    refine lv_ldc hx hb hown (hts _ kcX9_216) dX9_keep_10 ?_
    exact h_iret hf hx hb hr hlk hw dX9_keep_12
theorem c_X9_keep (l : Launch) (E : hE) (B : Nat) (T : hT) (a0 : Nat) (p1 : Int32) (u0 : hM) {z : Int32 × hM} (hf : fX9_keep T a0 p1 u0 = some z) : h_Ct l E B T yX9_keep cX9_keep 4 (some .int) 1 [.ref (B + a0), .int p1] u0 z.2 (some (.int z.1)) := h_ofW (by decide) (Nat.le_of_ble_eq_true rfl) (fun p e s m below meth c ls hΓ hl hw => wX9_keep hΓ hf hw hl)
def fX9_goBack_L34 (T : hT) (c0 : Nat) (c2 : Int32) (ex : hM → Option (Int32 × hM)) : Nat → Int32 → hM → Option (Int32 × hM)
  | 0, _, _ => none
  | n + 1, v3, u0 => if (40 : Int32) ≤ v3 then (ex u0) else ((gtr T u0 c0 9 10).bind fun a5 => (gtr T u0 c0 9 37).bind fun a6 => (ald 11 T u0 a6 (c2 + v3)).bind fun x7 => (asti T u0 a5 v3 x7).bind fun u8 => lt (v3 + (1 : Int32)) fun x9 => fX9_goBack_L34 T c0 c2 ex n x9 u8)
def fX9_goBack_L62 (T : hT) (c0 : Nat) (c2 : Int32) (ex : hM → Option (Int32 × hM)) : Nat → Int32 → hM → Option (Int32 × hM)
  | 0, _, _ => none
  | n + 1, v3, u0 => if (6 : Int32) ≤ v3 then (ex u0) else ((gtr T u0 c0 9 8).bind fun a11 => (gtr T u0 c0 9 37).bind fun a12 => (ald 11 T u0 a12 ((c2 + (40 : Int32)) + v3)).bind fun x13 => (asti T u0 a11 v3 x13).bind fun u14 => lt (v3 + (1 : Int32)) fun x15 => fX9_goBack_L62 T c0 c2 ex n x15 u14)
def fX9_goBack_L93 (T : hT) (c0 : Nat) (c2 : Int32) (ex : hM → Option (Int32 × hM)) : Nat → Int32 → hM → Option (Int32 × hM)
  | 0, _, _ => none
  | n + 1, v3, u0 => if (16 : Int32) ≤ v3 then (ex u0) else ((gtr T u0 c0 9 7).bind fun a17 => (gtr T u0 c0 9 37).bind fun a18 => (ald 11 T u0 a18 ((c2 + (46 : Int32)) + v3)).bind fun x19 => (asti T u0 a17 v3 x19).bind fun u20 => lt (v3 + (1 : Int32)) fun x21 => fX9_goBack_L93 T c0 c2 ex n x21 u20)
def fX9_goBack_L124 (T : hT) (c0 : Nat) (c2 : Int32) (ex : hM → Option (Int32 × hM)) : Nat → Int32 → hM → Option (Int32 × hM)
  | 0, _, _ => none
  | n + 1, v3, u0 => if (96 : Int32) ≤ v3 then (ex u0) else ((gtr T u0 c0 9 4).bind fun a23 => (gtr T u0 c0 9 37).bind fun a24 => (ald 11 T u0 a24 ((c2 + (62 : Int32)) + v3)).bind fun x25 => (asti T u0 a23 v3 x25).bind fun u26 => lt (v3 + (1 : Int32)) fun x27 => fX9_goBack_L124 T c0 c2 ex n x27 u26)
def fX9_goBack (T : hT) (a0 : Nat) (p1 : Int32) (u0 : hM) : Option (Int32 × hM) := (fX9_in T p1.toInt64 (0 : Int64) (1 : Int64) u0).bind fun q1 => if q1.1 = 0 then (some ((-1000000001 : Int32), q1.2)) else ((gtr T q1.2 a0 9 38).bind fun a2 => (ald 13 T q1.2 a2 p1).bind fun x3 => if x3 = 0 then (some ((-1000000003 : Int32), q1.2)) else (lt (((200 : Int32) * p1)) fun x4 => fX9_goBack_L34 T a0 x4 (fun (u10 : hM) => fX9_goBack_L62 T a0 x4 (fun (u16 : hM) => fX9_goBack_L93 T a0 x4 (fun (u22 : hM) => fX9_goBack_L124 T a0 x4 (fun (u28 : hM) => (gtr T u28 a0 9 37).bind fun a29 => (ald 11 T u28 a29 (x4 + (158 : Int32))).bind fun x30 => (pti T u28 a0 9 9 x30).bind fun u31 => (gtr T u31 a0 9 37).bind fun a32 => (ald 11 T u31 a32 (x4 + (159 : Int32))).bind fun x33 => (pti T u31 a0 9 11 x33).bind fun u34 => some ((1 : Int32), u34)) 6000 (0 : Int32) u22) 6000 (0 : Int32) u16) 6000 (0 : Int32) u10) 6000 (0 : Int32) q1.2))
set_option maxRecDepth 100000 in
set_option maxHeartbeats 4000000 in
theorem wfX9_goBack_L34 {c0 : Nat} {c2 : Int32} {ex : hM → Option (Int32 × hM)} {z : Int32 × hM} (hΓ : h_Γ E B T p s m args meth c cX9_goBack 4 (some .int) RX9) (hex : ∀ (u9 : hM) (H9 : Heap) (L9 : List Loc) (ls : Array Slot), ex u9 = some z → h_W E B T s.heap u9 H9 L9 → lv_has ls 4 [(0, .ref (B + c0)), (2, .int c2)] → W p l e (h_rm 1) s m args below meth c H9 L9 0 0 (h_Qi below E B T args s z) (F0 m 60 ls [])) : ∀ (n : Nat) (v3 : Int32) (u0 : hM) (H0 : Heap) (L0 : List Loc) (ls : Array Slot), fX9_goBack_L34 T c0 c2 ex n v3 u0 = some z → h_W E B T s.heap u0 H0 L0 → lv_has ls 4 [(0, .ref (B + c0)), (2, .int c2), (3, .int v3)] → W p l e (h_rm 1) s m args below meth c H0 L0 0 0 (h_Qi below E B T args s z) (F0 m 34 ls []) := by
  obtain ⟨hx, hb, hr, hml, hts, hown, hlk, hX⟩ := id hΓ
  intro n
  induction n with
  | zero =>
    intro v3 u0 H0 L0 ls hf hw hl
    exact absurd (show (none : Option (Int32 × hM)) = some z from hf) (fun h => by cases h)
  | succ n ih =>
    intro v3 u0 H0 L0 ls hf hw hl
    rw [fX9_goBack_L34] at hf
    refine lv_iload_n hx hb dX9_goBack_34 rfl (lv_at hl 2 rfl) ?_
    refine lv_bipush (v := 40) hx hb dX9_goBack_35 (by decide) ?_
    refine lv_icmp_ge (tgt := 60) hx hb dX9_goBack_37 (by decide) (fun hc => ?_) (fun hc => ?_)
    · have hf := ifp hc hf
      exact hex  u0 _ _ _ hf hw (lv_sub hl [0, 1] rfl)
    · have hf := ifn hc hf
      refine lv_aload_n hx hb dX9_goBack_40 rfl (lv_at hl 0 rfl) ?_
      refine h_getr hf hx hb hts hown hX hw flX9_33 rfl dX9_goBack_41 (fun a5 hf => ?_)
      refine lv_iload_n hx hb dX9_goBack_44 rfl (lv_at hl 2 rfl) ?_
      refine lv_aload_n hx hb dX9_goBack_45 rfl (lv_at hl 0 rfl) ?_
      refine h_getr hf hx hb hts hown hX hw flX9_81 rfl dX9_goBack_46 (fun a6 hf => ?_)
      refine lv_iload_n hx hb dX9_goBack_49 rfl (lv_at hl 1 rfl) ?_
      refine lv_iload_n hx hb dX9_goBack_50 rfl (lv_at hl 2 rfl) ?_
      refine lv_iadd hx hb dX9_goBack_51 ?_
      refine h_iald hf hx hb hX hw dX9_goBack_52 (fun x7 hf => ?_)
      refine h_iast hf hx hb hX hw dX9_goBack_53 (fun u8 H8 L8 hf hw => ?_)
      refine h_iinc (k := 2) hf hx hb dX9_goBack_54 hl rfl (by decide) (by decide) (fun x9 ls hf hl => ?_)
      have hl : lv_has ls 4 [(3, .int x9), (0, .ref (B + c0)), (2, .int c2)] := hl
      refine lv_goto (tgt := 34) hx hb dX9_goBack_57 (by decide) ?_
      exact ih x9 u8 _ _ _ hf hw (lv_sub hl [1, 2, 0] rfl)
set_option maxRecDepth 100000 in
set_option maxHeartbeats 4000000 in
theorem wfX9_goBack_L62 {c0 : Nat} {c2 : Int32} {ex : hM → Option (Int32 × hM)} {z : Int32 × hM} (hΓ : h_Γ E B T p s m args meth c cX9_goBack 4 (some .int) RX9) (hex : ∀ (u9 : hM) (H9 : Heap) (L9 : List Loc) (ls : Array Slot), ex u9 = some z → h_W E B T s.heap u9 H9 L9 → lv_has ls 4 [(0, .ref (B + c0)), (2, .int c2)] → W p l e (h_rm 1) s m args below meth c H9 L9 0 0 (h_Qi below E B T args s z) (F0 m 91 ls [])) : ∀ (n : Nat) (v3 : Int32) (u0 : hM) (H0 : Heap) (L0 : List Loc) (ls : Array Slot), fX9_goBack_L62 T c0 c2 ex n v3 u0 = some z → h_W E B T s.heap u0 H0 L0 → lv_has ls 4 [(0, .ref (B + c0)), (2, .int c2), (3, .int v3)] → W p l e (h_rm 1) s m args below meth c H0 L0 0 0 (h_Qi below E B T args s z) (F0 m 62 ls []) := by
  obtain ⟨hx, hb, hr, hml, hts, hown, hlk, hX⟩ := id hΓ
  intro n
  induction n with
  | zero =>
    intro v3 u0 H0 L0 ls hf hw hl
    exact absurd (show (none : Option (Int32 × hM)) = some z from hf) (fun h => by cases h)
  | succ n ih =>
    intro v3 u0 H0 L0 ls hf hw hl
    rw [fX9_goBack_L62] at hf
    refine lv_iload_n hx hb dX9_goBack_62 rfl (lv_at hl 2 rfl) ?_
    refine lv_bipush (v := 6) hx hb dX9_goBack_63 (by decide) ?_
    refine lv_icmp_ge (tgt := 91) hx hb dX9_goBack_65 (by decide) (fun hc => ?_) (fun hc => ?_)
    · have hf := ifp hc hf
      exact hex  u0 _ _ _ hf hw (lv_sub hl [0, 1] rfl)
    · have hf := ifn hc hf
      refine lv_aload_n hx hb dX9_goBack_68 rfl (lv_at hl 0 rfl) ?_
      refine h_getr hf hx hb hts hown hX hw flX9_26 rfl dX9_goBack_69 (fun a11 hf => ?_)
      refine lv_iload_n hx hb dX9_goBack_72 rfl (lv_at hl 2 rfl) ?_
      refine lv_aload_n hx hb dX9_goBack_73 rfl (lv_at hl 0 rfl) ?_
      refine h_getr hf hx hb hts hown hX hw flX9_81 rfl dX9_goBack_74 (fun a12 hf => ?_)
      refine lv_iload_n hx hb dX9_goBack_77 rfl (lv_at hl 1 rfl) ?_
      refine lv_bipush (v := 40) hx hb dX9_goBack_78 (by decide) ?_
      refine lv_iadd hx hb dX9_goBack_80 ?_
      refine lv_iload_n hx hb dX9_goBack_81 rfl (lv_at hl 2 rfl) ?_
      refine lv_iadd hx hb dX9_goBack_82 ?_
      refine h_iald hf hx hb hX hw dX9_goBack_83 (fun x13 hf => ?_)
      refine h_iast hf hx hb hX hw dX9_goBack_84 (fun u14 H14 L14 hf hw => ?_)
      refine h_iinc (k := 2) hf hx hb dX9_goBack_85 hl rfl (by decide) (by decide) (fun x15 ls hf hl => ?_)
      have hl : lv_has ls 4 [(3, .int x15), (0, .ref (B + c0)), (2, .int c2)] := hl
      refine lv_goto (tgt := 62) hx hb dX9_goBack_88 (by decide) ?_
      exact ih x15 u14 _ _ _ hf hw (lv_sub hl [1, 2, 0] rfl)
set_option maxRecDepth 100000 in
set_option maxHeartbeats 4000000 in
theorem wfX9_goBack_L93 {c0 : Nat} {c2 : Int32} {ex : hM → Option (Int32 × hM)} {z : Int32 × hM} (hΓ : h_Γ E B T p s m args meth c cX9_goBack 4 (some .int) RX9) (hex : ∀ (u9 : hM) (H9 : Heap) (L9 : List Loc) (ls : Array Slot), ex u9 = some z → h_W E B T s.heap u9 H9 L9 → lv_has ls 4 [(0, .ref (B + c0)), (2, .int c2)] → W p l e (h_rm 1) s m args below meth c H9 L9 0 0 (h_Qi below E B T args s z) (F0 m 122 ls [])) : ∀ (n : Nat) (v3 : Int32) (u0 : hM) (H0 : Heap) (L0 : List Loc) (ls : Array Slot), fX9_goBack_L93 T c0 c2 ex n v3 u0 = some z → h_W E B T s.heap u0 H0 L0 → lv_has ls 4 [(0, .ref (B + c0)), (2, .int c2), (3, .int v3)] → W p l e (h_rm 1) s m args below meth c H0 L0 0 0 (h_Qi below E B T args s z) (F0 m 93 ls []) := by
  obtain ⟨hx, hb, hr, hml, hts, hown, hlk, hX⟩ := id hΓ
  intro n
  induction n with
  | zero =>
    intro v3 u0 H0 L0 ls hf hw hl
    exact absurd (show (none : Option (Int32 × hM)) = some z from hf) (fun h => by cases h)
  | succ n ih =>
    intro v3 u0 H0 L0 ls hf hw hl
    rw [fX9_goBack_L93] at hf
    refine lv_iload_n hx hb dX9_goBack_93 rfl (lv_at hl 2 rfl) ?_
    refine lv_bipush (v := 16) hx hb dX9_goBack_94 (by decide) ?_
    refine lv_icmp_ge (tgt := 122) hx hb dX9_goBack_96 (by decide) (fun hc => ?_) (fun hc => ?_)
    · have hf := ifp hc hf
      exact hex  u0 _ _ _ hf hw (lv_sub hl [0, 1] rfl)
    · have hf := ifn hc hf
      refine lv_aload_n hx hb dX9_goBack_99 rfl (lv_at hl 0 rfl) ?_
      refine h_getr hf hx hb hts hown hX hw flX9_23 rfl dX9_goBack_100 (fun a17 hf => ?_)
      refine lv_iload_n hx hb dX9_goBack_103 rfl (lv_at hl 2 rfl) ?_
      refine lv_aload_n hx hb dX9_goBack_104 rfl (lv_at hl 0 rfl) ?_
      refine h_getr hf hx hb hts hown hX hw flX9_81 rfl dX9_goBack_105 (fun a18 hf => ?_)
      refine lv_iload_n hx hb dX9_goBack_108 rfl (lv_at hl 1 rfl) ?_
      refine lv_bipush (v := 46) hx hb dX9_goBack_109 (by decide) ?_
      refine lv_iadd hx hb dX9_goBack_111 ?_
      refine lv_iload_n hx hb dX9_goBack_112 rfl (lv_at hl 2 rfl) ?_
      refine lv_iadd hx hb dX9_goBack_113 ?_
      refine h_iald hf hx hb hX hw dX9_goBack_114 (fun x19 hf => ?_)
      refine h_iast hf hx hb hX hw dX9_goBack_115 (fun u20 H20 L20 hf hw => ?_)
      refine h_iinc (k := 2) hf hx hb dX9_goBack_116 hl rfl (by decide) (by decide) (fun x21 ls hf hl => ?_)
      have hl : lv_has ls 4 [(3, .int x21), (0, .ref (B + c0)), (2, .int c2)] := hl
      refine lv_goto (tgt := 93) hx hb dX9_goBack_119 (by decide) ?_
      exact ih x21 u20 _ _ _ hf hw (lv_sub hl [1, 2, 0] rfl)
set_option maxRecDepth 100000 in
set_option maxHeartbeats 4000000 in
theorem wfX9_goBack_L124 {c0 : Nat} {c2 : Int32} {ex : hM → Option (Int32 × hM)} {z : Int32 × hM} (hΓ : h_Γ E B T p s m args meth c cX9_goBack 4 (some .int) RX9) (hex : ∀ (u9 : hM) (H9 : Heap) (L9 : List Loc) (ls : Array Slot), ex u9 = some z → h_W E B T s.heap u9 H9 L9 → lv_has ls 4 [(0, .ref (B + c0)), (2, .int c2)] → W p l e (h_rm 1) s m args below meth c H9 L9 0 0 (h_Qi below E B T args s z) (F0 m 153 ls [])) : ∀ (n : Nat) (v3 : Int32) (u0 : hM) (H0 : Heap) (L0 : List Loc) (ls : Array Slot), fX9_goBack_L124 T c0 c2 ex n v3 u0 = some z → h_W E B T s.heap u0 H0 L0 → lv_has ls 4 [(0, .ref (B + c0)), (2, .int c2), (3, .int v3)] → W p l e (h_rm 1) s m args below meth c H0 L0 0 0 (h_Qi below E B T args s z) (F0 m 124 ls []) := by
  obtain ⟨hx, hb, hr, hml, hts, hown, hlk, hX⟩ := id hΓ
  intro n
  induction n with
  | zero =>
    intro v3 u0 H0 L0 ls hf hw hl
    exact absurd (show (none : Option (Int32 × hM)) = some z from hf) (fun h => by cases h)
  | succ n ih =>
    intro v3 u0 H0 L0 ls hf hw hl
    rw [fX9_goBack_L124] at hf
    refine lv_iload_n hx hb dX9_goBack_124 rfl (lv_at hl 2 rfl) ?_
    refine lv_bipush (v := 96) hx hb dX9_goBack_125 (by decide) ?_
    refine lv_icmp_ge (tgt := 153) hx hb dX9_goBack_127 (by decide) (fun hc => ?_) (fun hc => ?_)
    · have hf := ifp hc hf
      exact hex  u0 _ _ _ hf hw (lv_sub hl [0, 1] rfl)
    · have hf := ifn hc hf
      refine lv_aload_n hx hb dX9_goBack_130 rfl (lv_at hl 0 rfl) ?_
      refine h_getr hf hx hb hts hown hX hw flX9_17 rfl dX9_goBack_131 (fun a23 hf => ?_)
      refine lv_iload_n hx hb dX9_goBack_134 rfl (lv_at hl 2 rfl) ?_
      refine lv_aload_n hx hb dX9_goBack_135 rfl (lv_at hl 0 rfl) ?_
      refine h_getr hf hx hb hts hown hX hw flX9_81 rfl dX9_goBack_136 (fun a24 hf => ?_)
      refine lv_iload_n hx hb dX9_goBack_139 rfl (lv_at hl 1 rfl) ?_
      refine lv_bipush (v := 62) hx hb dX9_goBack_140 (by decide) ?_
      refine lv_iadd hx hb dX9_goBack_142 ?_
      refine lv_iload_n hx hb dX9_goBack_143 rfl (lv_at hl 2 rfl) ?_
      refine lv_iadd hx hb dX9_goBack_144 ?_
      refine h_iald hf hx hb hX hw dX9_goBack_145 (fun x25 hf => ?_)
      refine h_iast hf hx hb hX hw dX9_goBack_146 (fun u26 H26 L26 hf hw => ?_)
      refine h_iinc (k := 2) hf hx hb dX9_goBack_147 hl rfl (by decide) (by decide) (fun x27 ls hf hl => ?_)
      have hl : lv_has ls 4 [(3, .int x27), (0, .ref (B + c0)), (2, .int c2)] := hl
      refine lv_goto (tgt := 124) hx hb dX9_goBack_150 (by decide) ?_
      exact ih x27 u26 _ _ _ hf hw (lv_sub hl [1, 2, 0] rfl)
set_option maxRecDepth 100000 in
set_option maxHeartbeats 4000000 in
theorem wX9_goBack {a0 : Nat} {p1 : Int32} {u0 : hM} {z : Int32 × hM} {ls : Array Slot} (hΓ : h_Γ E B T p s m args meth c cX9_goBack 4 (some .int) RX9) (hf : fX9_goBack T a0 p1 u0 = some z) (hw : h_W E B T s.heap u0 s.heap []) (hl : lv_has ls 4 [(0, .ref (B + a0)), (1, .int p1)]) : W p l e (h_rm 1) s m args below meth c s.heap [] 0 0 (h_Qi below E B T args s z) (F0 m 0 ls []) := by
  obtain ⟨hx, hb, hr, hml, hts, hown, hlk, hX⟩ := id hΓ
  unfold fX9_goBack at hf
  refine lv_iload_n hx hb dX9_goBack_0 rfl (lv_at hl 1 rfl) ?_
  refine lv_i2l hx hb dX9_goBack_1 rfl ?_
  refine lv_lconst (v := 0) hx hb dX9_goBack_2 (by decide) ?_
  refine lv_lconst (v := 1) hx hb dX9_goBack_3 (by decide) ?_
  refine h_cSi (As := [.long p1.toInt64, .long (0 : Int64), .long (1 : Int64)]) (rest := []) hf hx hb hml hts hown hX hw myX9_in msX9_in lkX9_90 (fun q hq => c_X9_in l E B T p1.toInt64 (0 : Int64) (1 : Int64) u0 hq) ⟨Nat.le_of_ble_eq_true rfl, Nat.le_of_ble_eq_true rfl⟩ ⟨Nat.le_refl _, Nat.le_refl _⟩ rfl hl.1 rfl (Nat.le_of_ble_eq_true rfl) dX9_goBack_4 (fun q1 H1 L1 hf hw => ?_)
  refine lv_if_ne (tgt := 13) hx hb dX9_goBack_7 (by decide) (fun hc => ?_) (fun hc => ?_)
  · have hf := ifn hc hf
    refine lv_aload_n hx hb dX9_goBack_13 rfl (lv_at hl 0 rfl) ?_
    refine h_getr hf hx hb hts hown hX hw flX9_84 rfl dX9_goBack_14 (fun a2 hf => ?_)
    refine lv_iload_n hx hb dX9_goBack_17 rfl (lv_at hl 1 rfl) ?_
    refine h_zald hf hx hb hX hw dX9_goBack_18 (fun x3 hf => ?_)
    refine lv_if_ne (tgt := 26) hx hb dX9_goBack_19 (by decide) (fun hc => ?_) (fun hc => ?_)
    · have hf := ifn hc hf
      refine lv_sipush (v := 200) hx hb dX9_goBack_26 (by decide) ?_
      refine lv_iload_n hx hb dX9_goBack_29 rfl (lv_at hl 1 rfl) ?_
      refine lv_imul hx hb dX9_goBack_30 ?_
      refine h_nmi hf (fun x4 hf => ?_)
      refine lv_istore_n (lv' := [(2, .int x4), (0, .ref (B + a0)), (1, .int p1)]) hx hb dX9_goBack_31 rfl hl (by decide) rfl (fun ls hl => ?_)
      refine lv_iconst (v := 0) hx hb dX9_goBack_32 (by decide) ?_
      refine lv_istore_n (lv' := [(3, .int (0 : Int32)), (2, .int x4), (0, .ref (B + a0)), (1, .int p1)]) hx hb dX9_goBack_33 rfl hl (by decide) rfl (fun ls hl => ?_)
      refine wfX9_goBack_L34 hΓ ?_ 6000 (0 : Int32) q1.2 _ _ _ hf hw (lv_sub hl [2, 1, 0] rfl)
      intro u10 H10 L10 ls hf hw hl
      refine lv_iconst (v := 0) hx hb dX9_goBack_60 (by decide) ?_
      refine lv_istore_n (lv' := [(3, .int (0 : Int32)), (0, .ref (B + a0)), (2, .int x4)]) hx hb dX9_goBack_61 rfl hl (by decide) rfl (fun ls hl => ?_)
      refine wfX9_goBack_L62 hΓ ?_ 6000 (0 : Int32) u10 _ _ _ hf hw (lv_sub hl [1, 2, 0] rfl)
      intro u16 H16 L16 ls hf hw hl
      refine lv_iconst (v := 0) hx hb dX9_goBack_91 (by decide) ?_
      refine lv_istore_n (lv' := [(3, .int (0 : Int32)), (0, .ref (B + a0)), (2, .int x4)]) hx hb dX9_goBack_92 rfl hl (by decide) rfl (fun ls hl => ?_)
      refine wfX9_goBack_L93 hΓ ?_ 6000 (0 : Int32) u16 _ _ _ hf hw (lv_sub hl [1, 2, 0] rfl)
      intro u22 H22 L22 ls hf hw hl
      refine lv_iconst (v := 0) hx hb dX9_goBack_122 (by decide) ?_
      refine lv_istore_n (lv' := [(3, .int (0 : Int32)), (0, .ref (B + a0)), (2, .int x4)]) hx hb dX9_goBack_123 rfl hl (by decide) rfl (fun ls hl => ?_)
      refine wfX9_goBack_L124 hΓ ?_ 6000 (0 : Int32) u22 _ _ _ hf hw (lv_sub hl [1, 2, 0] rfl)
      intro u28 H28 L28 ls hf hw hl
      refine lv_aload_n hx hb dX9_goBack_153 rfl (lv_at hl 0 rfl) ?_
      refine lv_aload_n hx hb dX9_goBack_154 rfl (lv_at hl 0 rfl) ?_
      refine h_getr hf hx hb hts hown hX hw flX9_81 rfl dX9_goBack_155 (fun a29 hf => ?_)
      refine lv_iload_n hx hb dX9_goBack_158 rfl (lv_at hl 1 rfl) ?_
      refine lv_sipush (v := 158) hx hb dX9_goBack_159 (by decide) ?_
      refine lv_iadd hx hb dX9_goBack_162 ?_
      refine h_iald hf hx hb hX hw dX9_goBack_163 (fun x30 hf => ?_)
      refine h_puti hf hx hb hts hown hX hw flX9_29 ⟨rfl, rfl⟩ dX9_goBack_164 (fun u31 H31 L31 hf hw => ?_)
      refine lv_aload_n hx hb dX9_goBack_167 rfl (lv_at hl 0 rfl) ?_
      refine lv_aload_n hx hb dX9_goBack_168 rfl (lv_at hl 0 rfl) ?_
      refine h_getr hf hx hb hts hown hX hw flX9_81 rfl dX9_goBack_169 (fun a32 hf => ?_)
      refine lv_iload_n hx hb dX9_goBack_172 rfl (lv_at hl 1 rfl) ?_
      refine lv_sipush (v := 159) hx hb dX9_goBack_173 (by decide) ?_
      refine lv_iadd hx hb dX9_goBack_176 ?_
      refine h_iald hf hx hb hX hw dX9_goBack_177 (fun x33 hf => ?_)
      refine h_puti hf hx hb hts hown hX hw flX9_227 ⟨rfl, rfl⟩ dX9_goBack_178 (fun u34 H34 L34 hf hw => ?_)
      refine lv_iconst (v := 1) hx hb dX9_goBack_181 (by decide) ?_
      exact h_iret hf hx hb hr hlk hw dX9_goBack_182
    · have hf := ifp hc hf
      refine lv_ldcw hx hb hown (hts _ kcX9_277) dX9_goBack_22 ?_
      exact h_iret hf hx hb hr hlk hw dX9_goBack_25
  · have hf := ifp hc hf
    refine lv_ldc hx hb hown (hts _ kcX9_216) dX9_goBack_10 ?_
    exact h_iret hf hx hb hr hlk hw dX9_goBack_12
theorem c_X9_goBack (l : Launch) (E : hE) (B : Nat) (T : hT) (a0 : Nat) (p1 : Int32) (u0 : hM) {z : Int32 × hM} (hf : fX9_goBack T a0 p1 u0 = some z) : h_Ct l E B T yX9_goBack cX9_goBack 4 (some .int) 1 [.ref (B + a0), .int p1] u0 z.2 (some (.int z.1)) := h_ofW (by decide) (Nat.le_of_ble_eq_true rfl) (fun p e s m below meth c ls hΓ hl hw => wX9_goBack hΓ hf hw hl)
end GEN
