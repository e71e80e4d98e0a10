/-! THE LAW: its loop, its start, out of the steps of the calls -/
def StepAll (Cpl : hM → hM → Prop) : Prop := st_feed Cpl ∧ st_tune Cpl ∧ st_singers Cpl ∧ st_tasks Cpl ∧ st_fault Cpl ∧ st_told Cpl ∧ st_note Cpl ∧ st_singer Cpl ∧ st_task Cpl ∧ st_sing Cpl ∧ st_height Cpl ∧ st_slid Cpl ∧ st_score Cpl ∧ st_calls Cpl ∧ st_fooled Cpl ∧ st_weigh Cpl ∧ st_result Cpl ∧ st_forget Cpl ∧ st_odds Cpl ∧ st_next Cpl ∧ st_left Cpl ∧ st_alike Cpl ∧ st_lesson Cpl ∧ st_plan Cpl ∧ st_key Cpl ∧ st_age Cpl ∧ st_passes Cpl ∧ st_pairs Cpl ∧ st_join Cpl ∧ st_part Cpl ∧ st_ends Cpl ∧ st_round Cpl ∧ st_write Cpl ∧ st_tear Cpl ∧ st_judge Cpl ∧ st_seed Cpl ∧ st_keep Cpl ∧ st_goBack Cpl
theorem l_cond {L i : Nat} (hL : L ≤ 320) (hi : i ≤ 400) (h : ¬ Int32.ofNat L - 5 < nI i) : i + 5 ≤ L := by
  rcases Nat.lt_or_ge L (i + 5) with q | q
  · refine absurd ?_ h
    rw [Int32.lt_iff_toInt_lt, nI_toInt (by omega)]
    have := pk_sub_toInt (a := L) (b := 5) (by omega) (by decide)
    have e : (Int32.ofNat L - 5).toInt = (L : Int) - 5 := this
    rw [e]
    omega
  · exact q
section LAWL
variable {p : Program} {l : Launch} {e : Env} {s : State} {m : MethodId} {below : List Frame} {meth : Method} {c : Code} {b L : Nat} {xs : Nat → Int32} {E : hE}
set_option maxRecDepth 100000 in
set_option maxHeartbeats 8000000 in
theorem law_loop {Cpl : hM → hM → Prop} (hA : StepAll Cpl) (hL : L ≤ 320) (hΓ : l_Γ E p s m meth c b L xs) : ∀ (n i : Nat) (v3 : Int32), i ≤ L + 5 → L + 6 ≤ i + n → v3 = nI i → ∀ (σ1 σ2 : hM) (H : Heap) (L0 : List Loc) (ls : Array Slot), Cpl σ1 σ2 → h_L E s.heap.size s.heap σ1 σ2 H L0 → lv_has ls 4 [(0, .ref b), (1, .ref (s.heap.size + 0)), (2, .ref (s.heap.size + 101 + 0)), (3, .int v3)] → W p l e room_1 s m #[Value.ref b] below meth c H L0 600000 7302249 (lw_Z below #[Value.ref b] s) (F0 m 18 ls []) := by
  obtain ⟨hx, hb, hr, hml, hts, hown, hlk, hX, hXs, hbl⟩ := id hΓ
  have hbA : ¬ (fun q : Nat => s.heap.size ≤ q) b := Nat.not_le.mpr hbl
  obtain ⟨h_feed, h_tune, h_singers, h_tasks, h_fault, h_told, h_note, h_singer, h_task, h_sing, h_height, h_slid, h_score, h_calls, h_fooled, h_weigh, h_result, h_forget, h_odds, h_next, h_left, h_alike, h_lesson, h_plan, h_key, h_age, h_passes, h_pairs, h_join, h_part, h_ends, h_round, h_write, h_tear, h_judge, h_seed, h_keep, h_goBack⟩ := hA
  intro n
  induction n with
  | zero => intro i v3 h1 h2; exact absurd h2 (by omega)
  | succ n ih =>
    intro i v3 hi hin ev σ1 σ2 H L0 ls hc hw hl
    refine lv_iload_n hx hb dL_law_18 rfl (lv_at hl 3 rfl) ?_
    refine lv_aload_n hx hb dL_law_19 rfl (lv_at hl 0 rfl) ?_
    refine va_slen hx hb hXs hbl hbA hw.2.2.1 dL_law_20 ?_
    refine lv_iconst (v := 5) hx hb dL_law_21 (by decide) ?_
    refine lv_isub hx hb dL_law_22 ?_
    refine lv_icmp_gt (tgt := 1157) hx hb dL_law_23 (by decide) (fun hq => ?_) (fun hq => ?_)
    · refine lv_iconst (v := 1) hx hb dL_law_1157 (by decide) ?_
      refine va_forget (fun q hq => hw.2.2.1.2.2 q hq) ?_
      exact lw_ret hx hb hr hlk dL_law_1158
    · rw [ev] at hq
      have h5 := l_cond hL (by omega) hq
      have hv : ∀ j : Nat, j < 5 → vp_in (v3 + nI j) L := fun j hj => by rw [ev, nI_add]; exact vp_in_nI (by omega) (by omega)
      have hi0 : vp_in v3 L := by rw [ev]; exact vp_in_nI (by omega) (by omega)
      have hi1 : vp_in (v3 + (1 : Int32)) L := hv 1 (by decide)
      have hi2 : vp_in (v3 + (2 : Int32)) L := hv 2 (by decide)
      have hi3 : vp_in (v3 + (3 : Int32)) L := hv 3 (by decide)
      have hi4 : vp_in (v3 + (4 : Int32)) L := hv 4 (by decide)
      have hnx : ∀ (σ1 σ2 : hM) (H : Heap) (L0 : List Loc) (ls : Array Slot), Cpl σ1 σ2 → h_L E s.heap.size s.heap σ1 σ2 H L0 → lv_has ls 4 [(0, .ref b), (1, .ref (s.heap.size + 0)), (2, .ref (s.heap.size + 101 + 0)), (3, .int v3)] → W p l e room_1 s m #[Value.ref b] below meth c H L0 600000 7302249 (lw_Z below #[Value.ref b] s) (F0 m 1151 ls []) := by
        intro σ1 σ2 H L0 ls hc hw hl
        obtain ⟨x5, e5⟩ : ∃ y : Int32, y = v3 + 5 := ⟨_, rfl⟩
        refine lv_iinc (v := x5) (lv' := [(3, .int x5), (0, .ref b), (1, .ref (s.heap.size + 0)), (2, .ref (s.heap.size + 101 + 0))]) hx hb dL_law_1151 hl (k := 3) rfl (by rw [e5]; rfl) (by decide) rfl (fun ls hl => ?_)
        refine lv_goto (tgt := 18) hx hb dL_law_1154 (by decide) ?_
        exact ih (i + 5) x5 (by omega) (by omega) (by rw [e5, ev]; exact nI_add i 5) σ1 σ2 H L0 ls hc hw (lv_sub hl [1, 2, 3, 0] rfl)
      refine lv_aload_n hx hb dL_law_26 rfl (lv_at hl 0 rfl) ?_
      refine lv_iload_n hx hb dL_law_27 rfl (lv_at hl 3 rfl) ?_
      refine va_sld hx hb hXs hbl hbA hw.2.2.1 hi0 dL_law_28 ?_
      refine lv_bipush (v := 63) hx hb dL_law_29 (by decide) ?_
      refine lv_iand hx hb dL_law_31 ?_
      refine lv_topi (fun y ey => ?_)
      obtain ⟨j, hj, ej⟩ := pk_andE (xs v3.toNatClampNeg) (m := 63) 6 (by decide)
      rw [ej] at ey
      subst ey
      clear ej
      match j, hj with
      | 0, _ =>
        refine lv_tableIn (off := 168) (tgt := 200) hx hb dL_law_32 (by decide) (by decide) (by decide) (by decide) ?_
        exact law_feed h_feed hΓ hi1 hi2 hi3 hi4 hc hw hl hnx
      | 1, _ =>
        refine lv_tableIn (off := 231) (tgt := 263) hx hb dL_law_32 (by decide) (by decide) (by decide) (by decide) ?_
        exact law_tune h_tune hΓ hi1 hi2 hi3 hi4 hc hw hl hnx
      | 2, _ =>
        refine lv_tableIn (off := 244) (tgt := 276) hx hb dL_law_32 (by decide) (by decide) (by decide) (by decide) ?_
        exact law_singers h_singers hΓ hi1 hi2 hi3 hi4 hc hw hl hnx
      | 3, _ =>
        refine lv_tableIn (off := 257) (tgt := 289) hx hb dL_law_32 (by decide) (by decide) (by decide) (by decide) ?_
        exact law_tasks h_tasks hΓ hi1 hi2 hi3 hi4 hc hw hl hnx
      | 4, _ =>
        refine lv_tableIn (off := 270) (tgt := 302) hx hb dL_law_32 (by decide) (by decide) (by decide) (by decide) ?_
        exact law_fault h_fault hΓ hi1 hi2 hi3 hi4 hc hw hl hnx
      | 5, _ =>
        refine lv_tableIn (off := 283) (tgt := 315) hx hb dL_law_32 (by decide) (by decide) (by decide) (by decide) ?_
        exact law_told h_told hΓ hi1 hi2 hi3 hi4 hc hw hl hnx
      | 6, _ =>
        refine lv_tableIn (off := 306) (tgt := 338) hx hb dL_law_32 (by decide) (by decide) (by decide) (by decide) ?_
        exact law_note h_note hΓ hi1 hi2 hi3 hi4 hc hw hl hnx
      | 7, _ =>
        refine lv_tableIn (off := 339) (tgt := 371) hx hb dL_law_32 (by decide) (by decide) (by decide) (by decide) ?_
        exact law_singer h_singer hΓ hi1 hi2 hi3 hi4 hc hw hl hnx
      | 8, _ =>
        refine lv_tableIn (off := 372) (tgt := 404) hx hb dL_law_32 (by decide) (by decide) (by decide) (by decide) ?_
        exact law_task h_task hΓ hi1 hi2 hi3 hi4 hc hw hl hnx
      | 9, _ =>
        refine lv_tableIn (off := 405) (tgt := 437) hx hb dL_law_32 (by decide) (by decide) (by decide) (by decide) ?_
        exact law_sing h_sing hΓ hi1 hi2 hi3 hi4 hc hw hl hnx
      | 10, _ =>
        refine lv_tableIn (off := 438) (tgt := 470) hx hb dL_law_32 (by decide) (by decide) (by decide) (by decide) ?_
        exact law_height h_height hΓ hi1 hi2 hi3 hi4 hc hw hl hnx
      | 11, _ =>
        refine lv_tableIn (off := 461) (tgt := 493) hx hb dL_law_32 (by decide) (by decide) (by decide) (by decide) ?_
        exact law_slid h_slid hΓ hi1 hi2 hi3 hi4 hc hw hl hnx
      | 12, _ =>
        refine lv_tableIn (off := 474) (tgt := 506) hx hb dL_law_32 (by decide) (by decide) (by decide) (by decide) ?_
        exact law_score h_score hΓ hi1 hi2 hi3 hi4 hc hw hl hnx
      | 13, _ =>
        refine lv_tableIn (off := 497) (tgt := 529) hx hb dL_law_32 (by decide) (by decide) (by decide) (by decide) ?_
        exact law_calls h_calls hΓ hi1 hi2 hi3 hi4 hc hw hl hnx
      | 14, _ =>
        refine lv_tableIn (off := 510) (tgt := 542) hx hb dL_law_32 (by decide) (by decide) (by decide) (by decide) ?_
        exact law_fooled h_fooled hΓ hi1 hi2 hi3 hi4 hc hw hl hnx
      | 15, _ =>
        refine lv_tableIn (off := 533) (tgt := 565) hx hb dL_law_32 (by decide) (by decide) (by decide) (by decide) ?_
        exact law_weigh h_weigh hΓ hi1 hi2 hi3 hi4 hc hw hl hnx
      | 16, _ =>
        refine lv_tableIn (off := 566) (tgt := 598) hx hb dL_law_32 (by decide) (by decide) (by decide) (by decide) ?_
        exact law_result h_result hΓ hi1 hi2 hi3 hi4 hc hw hl hnx
      | 17, _ =>
        refine lv_tableIn (off := 615) (tgt := 647) hx hb dL_law_32 (by decide) (by decide) (by decide) (by decide) ?_
        exact law_forget h_forget hΓ hi1 hi2 hi3 hi4 hc hw hl hnx
      | 18, _ =>
        refine lv_tableIn (off := 628) (tgt := 660) hx hb dL_law_32 (by decide) (by decide) (by decide) (by decide) ?_
        exact law_odds h_odds hΓ hi1 hi2 hi3 hi4 hc hw hl hnx
      | 19, _ =>
        refine lv_tableIn (off := 652) (tgt := 684) hx hb dL_law_32 (by decide) (by decide) (by decide) (by decide) ?_
        exact law_next h_next hΓ hi1 hi2 hi3 hi4 hc hw hl hnx
      | 20, _ =>
        refine lv_tableIn (off := 665) (tgt := 697) hx hb dL_law_32 (by decide) (by decide) (by decide) (by decide) ?_
        exact law_left h_left hΓ hi1 hi2 hi3 hi4 hc hw hl hnx
      | 21, _ =>
        refine lv_tableIn (off := 688) (tgt := 720) hx hb dL_law_32 (by decide) (by decide) (by decide) (by decide) ?_
        exact law_alike h_alike hΓ hi1 hi2 hi3 hi4 hc hw hl hnx
      | 22, _ =>
        refine lv_tableIn (off := 711) (tgt := 743) hx hb dL_law_32 (by decide) (by decide) (by decide) (by decide) ?_
        exact law_lesson h_lesson hΓ hi1 hi2 hi3 hi4 hc hw hl hnx
      | 23, _ =>
        refine lv_tableIn (off := 744) (tgt := 776) hx hb dL_law_32 (by decide) (by decide) (by decide) (by decide) ?_
        exact law_plan h_plan hΓ hi1 hi2 hi3 hi4 hc hw hl hnx
      | 24, _ =>
        refine lv_tableIn (off := 787) (tgt := 819) hx hb dL_law_32 (by decide) (by decide) (by decide) (by decide) ?_
        exact law_key h_key hΓ hi1 hi2 hi3 hi4 hc hw hl hnx
      | 25, _ =>
        refine lv_tableIn (off := 810) (tgt := 842) hx hb dL_law_32 (by decide) (by decide) (by decide) (by decide) ?_
        exact law_age h_age hΓ hi1 hi2 hi3 hi4 hc hw hl hnx
      | 26, _ =>
        refine lv_tableIn (off := 833) (tgt := 865) hx hb dL_law_32 (by decide) (by decide) (by decide) (by decide) ?_
        exact law_passes h_passes hΓ hi1 hi2 hi3 hi4 hc hw hl hnx
      | 27, _ =>
        refine lv_tableIn (off := 866) (tgt := 898) hx hb dL_law_32 (by decide) (by decide) (by decide) (by decide) ?_
        exact law_pairs h_pairs hΓ hi1 hi2 hi3 hi4 hc hw hl hnx
      | 28, _ =>
        refine lv_tableIn (off := 889) (tgt := 921) hx hb dL_law_32 (by decide) (by decide) (by decide) (by decide) ?_
        exact law_join h_join hΓ hi1 hi2 hi3 hi4 hc hw hl hnx
      | 29, _ =>
        refine lv_tableIn (off := 912) (tgt := 944) hx hb dL_law_32 (by decide) (by decide) (by decide) (by decide) ?_
        exact law_part h_part hΓ hi1 hi2 hi3 hi4 hc hw hl hnx
      | 30, _ =>
        refine lv_tableIn (off := 925) (tgt := 957) hx hb dL_law_32 (by decide) (by decide) (by decide) (by decide) ?_
        exact law_ends h_ends hΓ hi1 hi2 hi3 hi4 hc hw hl hnx
      | 31, _ =>
        refine lv_tableIn (off := 948) (tgt := 980) hx hb dL_law_32 (by decide) (by decide) (by decide) (by decide) ?_
        exact law_round h_round hΓ hi1 hi2 hi3 hi4 hc hw hl hnx
      | 32, _ =>
        refine lv_tableIn (off := 1001) (tgt := 1033) hx hb dL_law_32 (by decide) (by decide) (by decide) (by decide) ?_
        exact law_write h_write hΓ hi1 hi2 hi3 hi4 hc hw hl hnx
      | 33, _ =>
        refine lv_tableIn (off := 1024) (tgt := 1056) hx hb dL_law_32 (by decide) (by decide) (by decide) (by decide) ?_
        exact law_tear h_tear hΓ hi1 hi2 hi3 hi4 hc hw hl hnx
      | 34, _ =>
        refine lv_tableIn (off := 1037) (tgt := 1069) hx hb dL_law_32 (by decide) (by decide) (by decide) (by decide) ?_
        exact law_judge h_judge hΓ hi1 hi2 hi3 hi4 hc hw hl hnx
      | 35, _ =>
        refine lv_tableIn (off := 1050) (tgt := 1082) hx hb dL_law_32 (by decide) (by decide) (by decide) (by decide) ?_
        exact law_seed h_seed hΓ hi1 hi2 hi3 hi4 hc hw hl hnx
      | 36, _ =>
        refine lv_tableIn (off := 1073) (tgt := 1105) hx hb dL_law_32 (by decide) (by decide) (by decide) (by decide) ?_
        exact law_keep h_keep hΓ hi1 hi2 hi3 hi4 hc hw hl hnx
      | 37, _ =>
        refine lv_tableIn (off := 1096) (tgt := 1128) hx hb dL_law_32 (by decide) (by decide) (by decide) (by decide) ?_
        exact law_goBack h_goBack hΓ hi1 hi2 hi3 hi4 hc hw hl hnx
      | j + 38, hj =>
        refine lv_tableOut (tgt := 1151) hx hb dL_law_32 (Or.inr (by rw [nI_toInt (by omega)]; omega)) (by decide) ?_
        exact hnx σ1 σ2 H L0 ls hc hw hl
end LAWL
def z0 : hM := (fun _ _ => 0, fun _ _ => 0, fun _ _ => none)
section LAWS
variable {p : Program} {l : Launch} {e : Env} {R rm : Room} {s : State} {m : MethodId} {args : Array Value} {below : List Frame} {meth : Method} {c : Code} {H : Heap} {locs : List Loc} {cells slots : Nat} {Q : State → Prop}
variable {cc : ByteArray} {pc nL : Nat} {ls : Array Slot} {rest st0 As : List Value} {E : hE} {B : Nat} {T : hT} {σ : hM} {α : Type} {z : α} {index ci n a np nL2 : Nat} {own : String} {A : Nat → Prop} {H0 : Heap} {y : MethodName} {cc2 : ByteArray}
theorem h_new2 {κ : hM × Nat → Option α} (hf : (nwo T σ n ci).bind κ = some z) (hx : p.tables.exec = Jvm.exec) (hb : c.code = cc) (hts : ∀ w ∈ h_tbl, w.before args s = true) (hown : s.vm.findClass own = some m.cls) (hX : h_X E A s s.heap) (hw : h_Wa E B T H0 σ n H locs) (hci : ci < 10) (hcl : Cond.classLink own index (h_C ci) ∈ h_tbl) (hin : Cond.instantiable (h_C ci) (h_N ci) ∈ h_tbl) (hini : Cond.initialized (h_C ci) ∈ h_tbl) (hcells : cells + 1 ≤ R.cells) (hslots : slots + h_N ci ≤ R.slots) (hdg : decode cc pc = .ok (.new index, 3))
    (kk : ∀ (w : hM × Nat) (H1 : Heap), κ w = some z → h_Wa E B T H0 w.1 w.2 H1 locs → ((∀ q, q < H.size → H1[q]? = H[q]?) ∧ H1.size = B + n + 1) → W p l e R s m args below meth c H1 locs (cells + 1) (slots + h_N ci) Q (F0 m (pc + 3) ls (.ref (B + n) :: rest))) : W p l e R s m args below meth c H locs cells slots Q (F0 m pc ls rest) := by
  obtain ⟨hT, hf⟩ := ob_some hf
  have hKn := hX.1.1 ci _ (h_cl_ok ci hci)
  refine W.newcK hx hb hown (hts _ hcl) (hts _ hin) (hts _ hini) rfl hdg hcells hslots hKn.2.1 rfl fun H1 kC hkC e1 z1 o1 => ?_
  rw [hw.2.2.1]
  refine kk _ H1 hf (h_grow hw (by omega) z1 o1 ⟨fun ci' g1 g2 => ?_, fun t g1 g2 g3 => (by omega)⟩) ⟨o1, by rw [z1, hw.2.2.1]⟩
  have ec : ci' = ci := by omega
  subst ec
  rw [hw.2.2.1] at e1
  refine (u_born (h_fty ci') hts (h_in ci' hci) hKn hkC e1 (h_ty_ok ci' hci)).to (fun k hk => ?_)
  simp only [h_V, clr, if_true]
  exact h_dflt ci' hci k hk B
theorem h_cIP2 {F : Option (hM × Nat)} {q : hM × Nat} (hf : F = some q) (hx : p.tables.exec = Jvm.exec) (hb : c.code = cc) (hml : c.maxLocals = nL) (hts : ∀ w ∈ h_tbl, w.before args s = true) (hown : s.vm.findClass own = some m.cls) (hX : h_X E (fun q => B ≤ q) s s.heap) (hY : h_Y s) (hw : h_Wa E B T s.heap σ n H locs)
    (hMY : h_MY y cc2 nL2 none np) (hMI : Cond.instanceMethod y ∈ h_tbl) (hlk : Cond.methodLink own index y ∈ h_tbl) (hnm : y.name = "<init>") (hC : ∀ q, F = some q → h_CA l E B T y cc2 nL2 none rm (.ref (B + a) :: As) σ n q.1 q.2 none) (hR : rm.frames + 1 ≤ R.frames ∧ 8 + (nL2 + 11) + rm.locals ≤ R.locals) (hcs : cells + rm.cells ≤ R.cells ∧ slots + rm.slots ≤ R.slots)
    (hn : As.length = np) (hsz : ls.size = nL) (hst : st0 = As.reverse ++ .ref (B + a) :: rest) (hcat : (rest.map fun v => v.category).sum ≤ 8) (hdg : decode cc pc = .ok (.invokespecial index, 3))
    (kk : ∀ (H1 : Heap) (locs1 : List Loc), h_Wa E B T s.heap q.1 q.2 H1 locs1 → (∀ x, x < H.size → ¬ B ≤ x → H1[x]? = H[x]?) → W p l e R s m args below meth c H1 locs1 (cells + rm.cells) (slots + rm.slots) Q (F0 m (pc + 3) ls rest)) : W p l e R s m args below meth c H locs cells slots Q (F0 m pc ls st0) := by
  obtain ⟨g1, g2, g3⟩ := hMY
  have hr := va_runI (p := p) (l := l) (e := e) (R := R) (s := s) (m := m) (args := args) (below := below) (meth := meth) (c := c) (H := H) (locs := locs) (cells := cells) (slots := slots) (g := F0 m pc ls st0) (Ts := h_tbl) ⟨hx, hb, hml, hown, hts⟩ (hC q hf) ⟨callB_of np hts (h_good g1) rfl rfl rfl (hts _ g2) (hts _ hlk) g3 hR, hnm, hts _ hMI⟩ ⟨h_blindA, fun U hU hW => h_goA hX hY hw hU hW⟩ rfl hn hsz hst (lv_room hcat) hdg hcs
  intro TT hT X
  obtain ⟨v', st₀, t, T', L, h0, X', hL, e1, e2, ⟨⟨hv, hp, hz⟩, hF1, hF2⟩, st⟩ := hr TT hT X
  cases hv
  rw [h0] at hF1 hF2
  obtain ⟨t2, a2, b2⟩ := kk T'.heap (locs ++ L) ⟨by rw [e1]; exact hp.1, ⟨Nat.le_trans hw.2.1.1 (by rw [e1]; exact hF1), fun q h1 h2 => by
      rw [e1, hF2 q (Nat.lt_of_lt_of_le h1 hw.2.1.1) h2]
      exact hw.2.1.2.1 q h1 h2, fun q hq => by
      rcases List.mem_append.mp hq with h | h
      · exact hw.2.1.2.2 q h
      · exact hL q h⟩, by rw [e1]; exact hz, hp.2⟩ (fun x h1 h2 => by rw [e1]; exact hF2 x h1 h2) T' rfl X'
  exact ⟨t2, st t2 a2, b2⟩
theorem h_empty {sz : Nat} (h : H.size = sz) : h_P E sz (tr T 0) z0 H := ⟨fun a => ⟨fun ci g => absurd g (by simp [tr]), fun t g g2 => by simp [tr] at g; omega⟩, fun a ha => absurd (by simp [tr]) ha⟩
end LAWS
theorem l_cl1 : Cond.classLink RL 7 (h_C 8) ∈ h_tbl := h_tb 89 (by decide +kernel)
theorem l_cl2 : Cond.classLink RL 10 (h_C 9) ∈ h_tbl := h_tb 962 (by decide +kernel)
theorem myX8_init : h_MY yX8_init cX8_init 1 none 0 := ⟨h_tb 93 (by decide +kernel), h_tb 71 (by decide +kernel), by decide +kernel⟩
theorem lkL_9 : Cond.methodLink RL 9 yX8_init ∈ h_tbl := h_tb 91 (by decide +kernel)
theorem iiX8_init : Cond.instanceMethod yX8_init ∈ h_tbl := h_tb 92 (by decide +kernel)
theorem myX9_init : h_MY yX9_init cX9_init 2 none 0 := ⟨h_tb 966 (by decide +kernel), h_tb 81 (by decide +kernel), by decide +kernel⟩
theorem lkL_12 : Cond.methodLink RL 12 yX9_init ∈ h_tbl := h_tb 964 (by decide +kernel)
theorem iiX9_init : Cond.instanceMethod yX9_init ∈ h_tbl := h_tb 965 (by decide +kernel)
theorem ib8 : Cond.instantiable (h_C 8) (h_N 8) ∈ h_tbl := h_tb 90 (by decide +kernel)
theorem it8 : Cond.initialized (h_C 8) ∈ h_tbl := h_tb 71 (by decide +kernel)
theorem ib9 : Cond.instantiable (h_C 9) (h_N 9) ∈ h_tbl := h_tb 963 (by decide +kernel)
theorem it9 : Cond.initialized (h_C 9) ∈ h_tbl := h_tb 81 (by decide +kernel)
set_option maxRecDepth 100000 in
set_option maxHeartbeats 8000000 in
theorem law_start {Cpl : hM → hM → Prop} (hA : StepAll Cpl) {σ1 σ2 : hM} (h1 : fX8_init kT1 0 (clr z0 0) 1 = some (σ1, 101)) (h2 : fX9_init kT2 0 (clr z0 0) 1 = some (σ2, 24)) (h0 : Cpl σ1 σ2) {p : Program} {e : Env} {s : State} {m : MethodId} {below : List Frame} {meth : Method} {c : Code} (l : Launch) {b L : Nat} {xs : Nat → Int32} (hL : L ≤ 320) (C0 : lw_At p s m meth c b L xs) : W p l e room_1 s m #[Value.ref b] below meth c s.heap [] 0 0 (lw_Z below #[Value.ref b] s) (entryFrame m ([Value.ref b] : List Value).toArray 4) := by
  obtain ⟨E, hX, hY⟩ := l_env C0
  obtain ⟨hx, hb, hr, hml, hown, hts0, hXs, hbl, hlk, hgv⟩ := id C0
  have hts : ∀ w ∈ h_tbl, w.before #[Value.ref b] s = true := fun w h => hts0 w (List.mem_filter.mp h).1
  have hown : s.vm.findClass RL = some m.cls := hown
  have hl := lv_entry ([.ref b]) (n := 4) (Nat.le_of_ble_eq_true rfl)
  rw [lg_entry_eq]
  generalize (lg_sl ([.ref b]) ++ List.replicate (4 - (lg_sl ([.ref b])).length) Slot.unset).toArray = ls at hl ⊢
  have hl : lv_has ls 4 [(0, .ref b)] := hl
  have hw : h_Wa E s.heap.size kT1 s.heap z0 0 s.heap [] := ⟨h_empty rfl, va_S.rf, rfl, fun a ha => absurd ha (Nat.not_lt_zero a)⟩
  have n1 : (nwo kT1 z0 0 8).bind some = some (clr z0 0, 1) := rfl
  refine h_new2 n1 hx hb hts hown hX hw (by decide) l_cl1 ib8 it8 (Nat.le_of_ble_eq_true rfl) (Nat.le_of_ble_eq_true rfl) dL_law_0 (fun w1 H1 hf hw o1 => ?_)
  cases hf
  refine lv_dup hx hb dL_law_3 rfl ?_
  refine h_cIP2 (rm := rmX8_init) (a := 0) (As := []) (rest := [.ref (s.heap.size + 0)]) h1 hx hb hml hts hown hX hY hw myX8_init iiX8_init lkL_9 rfl (fun q hq => c_X8_init l E s.heap.size kT1 0 _ _ hq) ⟨Nat.le_of_ble_eq_true rfl, Nat.le_of_ble_eq_true rfl⟩ ⟨Nat.le_of_ble_eq_true rfl, Nat.le_of_ble_eq_true rfl⟩ rfl hl.1 rfl (Nat.le_of_ble_eq_true rfl) dL_law_4 (fun H2 L2 hw o2 => ?_)
  refine lv_astore_n (lv' := [(1, .ref (s.heap.size + 0)), (0, .ref b)]) hx hb dL_law_7 rfl hl (by decide) rfl (fun ls hl => ?_)
  refine va_forget (fun q hq => hw.2.1.2.2 q hq) ?_
  have hX2 : h_X E (fun q => s.heap.size + 101 ≤ q) s s.heap := hX.narrow (fun q h => Nat.le_trans (Nat.le_add_right _ _) h)
  have hw2 : h_Wa E (s.heap.size + 101) kT2 s.heap z0 0 H2 [] := ⟨h_empty hw.2.2.1, ⟨hw.2.1.1, fun q g1 g2 => hw.2.1.2.1 q g1 (Nat.not_le.mpr g1), fun q hq => by cases hq⟩, hw.2.2.1, fun a ha => absurd ha (Nat.not_lt_zero a)⟩
  have n2 : (nwo kT2 z0 0 9).bind some = some (clr z0 0, 1) := rfl
  refine h_new2 n2 hx hb hts hown hX2 hw2 (by decide) l_cl2 ib9 it9 (Nat.le_of_ble_eq_true rfl) (Nat.le_of_ble_eq_true rfl) dL_law_8 (fun w3 H3 hf hw2 o3 => ?_)
  cases hf
  refine lv_dup hx hb dL_law_11 rfl ?_
  refine h_cIP2 (rm := rmX9_init) (a := 0) (As := []) (rest := [.ref (s.heap.size + 101 + 0)]) h2 hx hb hml hts hown hX2 hY hw2 myX9_init iiX9_init lkL_12 rfl (fun q hq => c_X9_init l E (s.heap.size + 101) kT2 0 _ _ hq) ⟨Nat.le_of_ble_eq_true rfl, Nat.le_of_ble_eq_true rfl⟩ ⟨Nat.le_of_ble_eq_true rfl, Nat.le_of_ble_eq_true rfl⟩ rfl hl.1 rfl (Nat.le_of_ble_eq_true rfl) dL_law_12 (fun H4 L4 hw2 o4 => ?_)
  refine W.widen (k := 600000) (n := 7302249) (Nat.le_of_ble_eq_true rfl) (Nat.le_of_ble_eq_true rfl) ?_
  refine lv_astore_n (lv' := [(2, .ref (s.heap.size + 101 + 0)), (1, .ref (s.heap.size + 0)), (0, .ref b)]) hx hb dL_law_15 rfl hl (by decide) rfl (fun ls hl => ?_)
  refine lv_iconst (v := 0) hx hb dL_law_16 (by decide) ?_
  refine lv_istore_n (lv' := [(3, .int 0), (2, .ref (s.heap.size + 101 + 0)), (1, .ref (s.heap.size + 0)), (0, .ref b)]) hx hb dL_law_17 rfl hl (by decide) rfl (fun ls hl => ?_)
  have hz3 : H3.size = s.heap.size + 101 + 1 := o3.2
  have hP1 : h_P E s.heap.size kT1 σ1 H4 := by
    have hp := hw.1
    rw [k_tr1] at hp
    refine hp.kept (fun a ha => ?_) (by rw [hw.2.2.1, hw2.2.2.1]; omega)
    have := k_lt1 ha
    rw [o4 _ (by rw [hz3]; omega) (by omega), o3.1 _ (by rw [hw.2.2.1]; omega)]
  have hLw : h_L E s.heap.size s.heap σ1 σ2 H4 L4 := by
    refine ⟨hP1, by have hp := hw2.1; rw [k_tr2] at hp; exact hp, ⟨hw2.2.1.1, fun q g1 g2 => hw2.2.1.2.1 q g1 (by omega), fun q hq => Nat.le_trans (Nat.le_add_right _ _) (hw2.2.1.2.2 q hq)⟩, hw2.2.2.1⟩
  exact law_loop hA hL ⟨hx, hb, hr, hml, hts, hown, hlk, hX, hXs, hbl⟩ (L + 6) 0 0 (by omega) (by omega) nI_0.symm σ1 σ2 H4 L4 ls h0 hLw (lv_sub hl [3, 2, 1, 0] rfl)
