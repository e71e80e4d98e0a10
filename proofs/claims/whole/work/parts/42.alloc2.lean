/-! arrays that are made, final fields, constructors' contracts -/
section HM2
variable {p : Program} {l : Launch} {e : Env} {R : Room} {s : State} {m : MethodId} {args : Array Value} {below : List Frame} {meth : Method} {c : Code} {H : Heap} {locs : List Loc} {cells slots : Nat} {Q : State → Prop}
variable {cc : ByteArray} {pc nL : Nat} {ls : Array Slot} {rest st0 As : List Value} {E : hE} {B : Nat} {T : hT} {σ : hM} {α : Type} {z : α} {index ci k a n : Nat} {own : String} {A : Nat → Prop} {H0 : Heap}
theorem h_newi {κ : hM × Nat → Option α} {x : Int32} {len : Nat} (hf : (nwa T σ n 11 len).bind κ = some z) (hx : p.tables.exec = Jvm.exec) (hb : c.code = cc) (hts : ∀ w ∈ h_tbl, w.before args s = true) (hX : h_X E A s s.heap) (hw : h_Wa E B T H0 σ n H locs) (hac : Cond.arrayClass .int ∈ h_tbl) (hn : ¬ x < 0 ∧ x.toNatClampNeg = len ∧ len * 4 ≤ 536870912) (hcells : cells + 1 ≤ R.cells) (hslots : slots + len ≤ R.slots) (hdg : decode cc pc = .ok (.newarray .int, 2))
    (kk : ∀ (w : hM × Nat) (H1 : Heap), κ w = some z → h_Wa E B T H0 w.1 w.2 H1 locs → W p l e R s m args below meth c H1 locs (cells + 1) (slots + len) Q (F0 m (pc + 2) ls (.ref (B + n) :: rest))) : W p l e R s m args below meth c H locs cells slots Q (F0 m pc ls (.int x :: rest)) := by
  obtain ⟨⟨hT, hTl⟩, hf⟩ := ob_some hf
  refine va_newaK (atype := .int) hx hb (hts _ hac) rfl hdg rfl hn.1 hn.2.1 hn.2.2 hcells hslots hw.2.2.1 fun H1 cA e1 z1 o1 hAr hNm => ?_
  have ec : cA = E.2.1 11 := Option.some.inj (hNm.symm.trans (hX.1.2 0 _ rfl).2)
  subst ec
  refine kk _ H1 hf (h_grow hw (by omega) (by rw [z1, hw.2.2.1]) (fun q hq => o1 q (by rw [← hw.2.2.1]; exact hq)) ⟨fun ci' g1 g2 => (by omega), fun t g1 g2 g3 => ?_⟩)
  have et : t = 11 := by omega
  subst et
  rw [e1, h_arrI (by decide), vp_cell_i, hTl]
  congr 2
  funext j
  simp [clr]; rfl
theorem h_newb {κ : hM × Nat → Option α} {x : Int32} {len : Nat} (hf : (nwa T σ n 12 len).bind κ = some z) (hx : p.tables.exec = Jvm.exec) (hb : c.code = cc) (hts : ∀ w ∈ h_tbl, w.before args s = true) (hX : h_X E A s s.heap) (hw : h_Wa E B T H0 σ n H locs) (hac : Cond.arrayClass .byte ∈ h_tbl) (hn : ¬ x < 0 ∧ x.toNatClampNeg = len ∧ len * 1 ≤ 536870912) (hcells : cells + 1 ≤ R.cells) (hslots : slots + len ≤ R.slots) (hdg : decode cc pc = .ok (.newarray .byte, 2))
    (kk : ∀ (w : hM × Nat) (H1 : Heap), κ w = some z → h_Wa E B T H0 w.1 w.2 H1 locs → W p l e R s m args below meth c H1 locs (cells + 1) (slots + len) Q (F0 m (pc + 2) ls (.ref (B + n) :: rest))) : W p l e R s m args below meth c H locs cells slots Q (F0 m pc ls (.int x :: rest)) := by
  obtain ⟨⟨hT, hTl⟩, hf⟩ := ob_some hf
  refine va_newaK (atype := .byte) hx hb (hts _ hac) rfl hdg rfl hn.1 hn.2.1 hn.2.2 hcells hslots hw.2.2.1 fun H1 cA e1 z1 o1 hAr hNm => ?_
  have ec : cA = E.2.1 12 := Option.some.inj (hNm.symm.trans (hX.1.2 1 _ rfl).2)
  subst ec
  refine kk _ H1 hf (h_grow hw (by omega) (by rw [z1, hw.2.2.1]) (fun q hq => o1 q (by rw [← hw.2.2.1]; exact hq)) ⟨fun ci' g1 g2 => (by omega), fun t g1 g2 g3 => ?_⟩)
  have et : t = 12 := by omega
  subst et
  rw [e1, h_arrI (by decide), vp_cell_i, hTl]
  congr 2
  funext j
  simp [clr]; rfl
theorem h_newz {κ : hM × Nat → Option α} {x : Int32} {len : Nat} (hf : (nwa T σ n 13 len).bind κ = some z) (hx : p.tables.exec = Jvm.exec) (hb : c.code = cc) (hts : ∀ w ∈ h_tbl, w.before args s = true) (hX : h_X E A s s.heap) (hw : h_Wa E B T H0 σ n H locs) (hac : Cond.arrayClass .boolean ∈ h_tbl) (hn : ¬ x < 0 ∧ x.toNatClampNeg = len ∧ len * 1 ≤ 536870912) (hcells : cells + 1 ≤ R.cells) (hslots : slots + len ≤ R.slots) (hdg : decode cc pc = .ok (.newarray .boolean, 2))
    (kk : ∀ (w : hM × Nat) (H1 : Heap), κ w = some z → h_Wa E B T H0 w.1 w.2 H1 locs → W p l e R s m args below meth c H1 locs (cells + 1) (slots + len) Q (F0 m (pc + 2) ls (.ref (B + n) :: rest))) : W p l e R s m args below meth c H locs cells slots Q (F0 m pc ls (.int x :: rest)) := by
  obtain ⟨⟨hT, hTl⟩, hf⟩ := ob_some hf
  refine va_newaK (atype := .boolean) hx hb (hts _ hac) rfl hdg rfl hn.1 hn.2.1 hn.2.2 hcells hslots hw.2.2.1 fun H1 cA e1 z1 o1 hAr hNm => ?_
  have ec : cA = E.2.1 13 := Option.some.inj (hNm.symm.trans (hX.1.2 2 _ rfl).2)
  subst ec
  refine kk _ H1 hf (h_grow hw (by omega) (by rw [z1, hw.2.2.1]) (fun q hq => o1 q (by rw [← hw.2.2.1]; exact hq)) ⟨fun ci' g1 g2 => (by omega), fun t g1 g2 g3 => ?_⟩)
  have et : t = 13 := by omega
  subst et
  rw [e1, h_arrI (by decide), vp_cell_i, hTl]
  congr 2
  funext j
  simp [clr]; rfl
theorem h_newq {κ : hM × Nat → Option α} {x : Int32} {len t t0 : Nat} {C : String} (hf : (nwa T σ n t len).bind κ = some z) (hx : p.tables.exec = Jvm.exec) (hb : c.code = cc) (hts : ∀ w ∈ h_tbl, w.before args s = true) (hown : s.vm.findClass own = some m.cls) (hX : h_X E A s s.heap) (hw : h_Wa E B T H0 σ n H locs) (ht : (15 ≤ t ∧ t ≤ 17) ∧ (h_tys E)[t0]? = some (E.2.1 t, .object C)) (hao : va_AO C s) (hcl : Cond.classLink own index C ∈ h_tbl) (hn : ¬ x < 0 ∧ x.toNatClampNeg = len ∧ len * 4 ≤ 536870912) (hcells : cells + 1 ≤ R.cells) (hslots : slots + len ≤ R.slots) (hdg : decode cc pc = .ok (.anewarray index, 3))
    (kk : ∀ (w : hM × Nat) (H1 : Heap), κ w = some z → h_Wa E B T H0 w.1 w.2 H1 locs → W p l e R s m args below meth c H1 locs (cells + 1) (slots + len) Q (F0 m (pc + 3) ls (.ref (B + n) :: rest))) : W p l e R s m args below meth c H locs cells slots Q (F0 m pc ls (.int x :: rest)) := by
  obtain ⟨⟨hT, hTl⟩, hf2⟩ := ob_some hf
  clear hf
  obtain ⟨hn1, hn2, hn3⟩ := hn
  subst hn2
  refine W.anew hx hb hown (hts _ hcl) (va_AO.use hao) rfl hdg rfl hn1 hn3 hcells hslots fun cA kA comp f1 f2 f3 f4 => ?_
  obtain ⟨kA2, comp2, g1, g2, g3, g4⟩ := (hX.1.2 t0 _ ht.2).2
  have ec : cA = E.2.1 t := Option.some.inj (f1.symm.trans g4)
  subst ec
  generalize hH1 : H.push ({ cls := E.2.1 t, slots := Array.replicate x.toNatClampNeg .null, vm := .none } : Cell) = H1
  have z1 : H1.size = H.size + 1 := by rw [← hH1, Array.size_push]
  have e1 : H1[H.size]? = some (arrV (E.2.1 t) x.toNatClampNeg (fun _ => .null)) := by rw [← hH1, Array.getElem?_push_size, ← arrV_new]
  have o1 : ∀ q : Nat, q < H.size → H1[q]? = H[q]? := fun q hq => by rw [← hH1, Array.getElem?_push, if_neg (Nat.ne_of_lt hq)]
  have hz := kk _ H1 hf2 (h_grow hw (by omega) z1 o1 ⟨fun ci' q1 q2 => (by omega), fun t' q1 q2 q3 => by
    have et : t' = t := by omega
    subst et
    rw [← hw.2.2.1, e1, h_arrR ht.1.1, vp_cell_q, hTl]
    congr 2
    funext j
    simp [clr, h_lf, va_rf]⟩)
  rw [← hw.2.2.1] at hz
  exact hz
theorem h_mna {κ : hM × Nat → Option α} (hf : (mna T σ n).bind κ = some z) (hx : p.tables.exec = Jvm.exec) (hb : c.code = cc) (hts : ∀ w ∈ h_tbl, w.before args s = true) (hown : s.vm.findClass own = some m.cls) (hX : h_X E A s s.heap) (hY : h_Y s) (hw : h_Wa E B T H0 σ n H locs) (hac : Cond.arrayClass .long ∈ h_tbl) (hcl : Cond.classLink own index "[[J" ∈ h_tbl) (hcells : cells + 8 ≤ R.cells) (hslots : slots + 119 ≤ R.slots) (hdg : decode cc pc = .ok (.multianewarray index 2, 4))
    (kk : ∀ (w : hM × Nat) (H1 : Heap), κ w = some z → h_Wa E B T H0 w.1 w.2 H1 locs → W p l e R s m args below meth c H1 locs (cells + 8) (slots + 119) Q (F0 m (pc + 4) ls (.ref (B + n) :: rest))) : W p l e R s m args below meth c H locs cells slots Q (F0 m pc ls (.int 16 :: .int 7 :: rest)) := by
  obtain ⟨⟨⟨hT, hTl⟩, hT2⟩, hf⟩ := ob_some hf
  refine m7_W hx hb hown (hts _ hcl) hY.2.2 (hts _ hac) hcells hslots hdg fun cA cC H1 fA fC z1 o1 eo ei => ?_
  have ecA : cA = E.2.1 17 := Option.some.inj (fA.symm.trans (hX.1.2 6 _ rfl).2)
  have ecC : cC = E.2.1 14 := Option.some.inj (fC.symm.trans (hX.1.2 3 _ rfl).2)
  subst ecA
  subst ecC
  obtain ⟨⟨h0, h1⟩, h2, h3, h4⟩ := hw
  rw [h3]
  rw [h3] at eo ei
  have hd : ∀ a, n ≤ a → a < n + 8 → a = n ∨ ∃ j, j < 7 ∧ a = n + 1 + j := fun a q1 q2 => by
    rcases Nat.eq_or_lt_of_le q1 with q | q
    · exact Or.inl q.symm
    · exact Or.inr ⟨a - n - 1, by omega, by omega⟩
  refine kk _ H1 hf ⟨⟨fun b => ?_, fun b hb9 => ?_⟩, ⟨by rw [z1]; have := h2.1; omega, fun q g1 g2 => (o1 q (Nat.lt_of_lt_of_le g1 h2.1)).trans (h2.2.1 q g1 g2), h2.2.2⟩, by rw [z1, h3]; omega, fun b hb9 => ?_⟩
  · by_cases hb1 : b < n
    · have hs : h_at E B (tr T n) (mnr σ n) H1 b := ((h0 b).same ⟨by funext j; simp [mnr, show ¬ n ≤ b by omega], by funext j; simp [mnr, show ¬ n ≤ b by omega], by funext j; simp [mnr, show ¬ n ≤ b by omega, Nat.ne_of_lt hb1]⟩).kept (o1 _ (by rw [h3]; omega))
      have e9 : (tr T (n + 8)).1 b = (tr T n).1 b := by simp [tr, hb1, show b < n + 8 by omega]
      exact ⟨fun ci g => by rw [e9] at g; exact hs.1 ci g, fun t g => by rw [e9] at g; exact hs.2 t g⟩
    · by_cases hb2 : b < n + 8
      · have e9 : (tr T (n + 8)).1 b = T.1 b := by simp [tr, hb2]
        rcases hd b (by omega) hb2 with q | ⟨j, hj, q⟩
        · subst q
          refine ⟨fun ci g => by rw [e9] at g; omega, fun t g g5 g6 => ?_⟩
          rw [e9] at g
          have et : t = 17 := by omega
          subst et
          rw [eo, h_arrR (by decide), vp_cell_q, m7_out]
          show _ = some (arrV _ (T.2 b) _)
          rw [hTl]
          refine congrArg some (congrArg (arrV (E.2.1 17) 7) (funext fun j => ?_))
          simp only [mnr, if_true]
          by_cases hj : j < 7
          · simp only [hj, if_true, h_lf, Option.map_some, va_rf]
            rw [show B + b + 1 + j = B + (b + 1 + j) by omega]
          · simp [hj, h_lf, va_rf]
        · have hTj := hT2 j hj
          rw [← q] at hTj
          refine ⟨fun ci g => by rw [e9] at g; omega, fun t g g5 g6 => ?_⟩
          rw [e9] at g
          have et : t = 14 := by omega
          subst et
          have ei2 := ei j hj
          rw [show B + n + 1 + j = B + b by omega] at ei2
          rw [ei2, h_arrL, vp_cell_l, m7_in]
          show _ = some (arrV _ (T.2 b) _)
          rw [hTj.2]
          refine congrArg some (congrArg (arrV (E.2.1 14) 16) (funext fun j2 => ?_))
          simp [mnr, show n ≤ b by omega, hb2]
      · have e9 : (tr T (n + 8)).1 b = 0 := by simp [tr, hb2]
        exact ⟨fun ci g => by rw [e9] at g; omega, fun t g => by rw [e9] at g; omega⟩
  · have hlt : b < n + 8 := by
      rcases Nat.lt_or_ge b (n + 8) with q | q
      · exact q
      · exact absurd (show (if b < n + 8 then T.1 b else 0) = 0 by rw [if_neg (by omega)]) hb9
    rw [z1, h3]; omega
  · by_cases hb1 : b < n
    · exact h4 b hb1
    · rcases hd b (by omega) hb9 with q | ⟨j, hj, q⟩
      · rw [q, hT]; decide
      · rw [q, (hT2 j hj).1]; decide
theorem h_aastq {κ : hM → Option α} {i : Int32} {v t t0 : Nat} (hf : (astq T σ a i v t ci).bind κ = some z) (hx : p.tables.exec = Jvm.exec) (hb : c.code = cc) (hX : h_X E A s s.heap) (hw : h_W E B T H0 σ H locs) (ht : (15 ≤ t ∧ t ≤ 17) ∧ (h_tys E)[t0]? = some (E.2.1 t, .object (h_C ci))) (hci : ci < 10) (hdg : decode cc pc = .ok (.aastore, 1))
    (kk : ∀ (σ1 : hM) (H1 : Heap) (locs1 : List Loc), κ σ1 = some z → h_W E B T H0 σ1 H1 locs1 → W p l e R s m args below meth c H1 locs1 cells slots Q (F0 m (pc + 1) ls rest)) : W p l e R s m args below meth c H locs cells slots Q (F0 m pc ls (.ref (B + v) :: .int i :: .ref (B + a) :: rest)) := by
  obtain ⟨⟨⟨hT, hTv⟩, hin⟩, hf⟩ := ob_some hf
  have hlt : i.toNatClampNeg < T.2 a := Nat.not_le.mp fun q => hin (Or.inr q)
  obtain ⟨cellV, g1, g2, g3, -⟩ := (hw.1.1 v).1 ci hTv hci
  have hcls := (hX.1.1 ci _ (h_cl_ok ci hci)).2
  obtain ⟨kA, comp, k1, k2, k3, -⟩ := (hX.1.2 t0 _ ht.2).2
  have hcomp : comp = E.1.1 ci := Option.some.inj (k3.symm.trans hcls.1)
  subst hcomp
  obtain ⟨kC, hkC, -⟩ := hcls.2
  refine W.aast hx hb (h_cR hw hT ht.1.1 ht.1.2) (fun q h => by cases h) (fun h => by cases h) k1 k2 rfl hkC ⟨fun q => hin (Or.inl q), by rw [arrV_size]; exact hlt⟩ g1 (fun q h => by rw [g3] at h; cases h) (by rw [g2]; exact hkC) (by rw [g2]; exact va_assign hcls) rfl rfl hdg fun H1 he zz oq => ?_
  refine kk _ H1 _ hf (hw.put (by omega) h_w2R ⟨fun ci' q1 q2 => (by omega), fun t' q1 q2 q3 => ?_⟩ oq zz)
  have et : t' = t := by omega
  subst et
  rw [he, h_arrR ht.1.1, vp_cell_q, arrV_store]
  congr 2
  funext q
  by_cases hq : q = i.toNatClampNeg
  · subst hq; simp [updV, wR, h_w2, h_lf, va_rf]
  · simp [updV, wR, h_w2, hq]
theorem h_putF {κ : hM → Option α} {v : Nat} (hf : (ptr T σ a ci k (some v)).bind κ = some z) (hx : p.tables.exec = Jvm.exec) (hb : c.code = cc) (hts : ∀ w ∈ h_tbl, w.before args s = true) (hown : s.vm.findClass own = some m.cls) (hX : h_X E A s s.heap) (hw : h_W E B T H0 σ H locs) (hL : h_FL own index ci k) (ht : h_tag (h_fty ci k) = 2 ∧ (h_T ci k).2.2.2 = true) (hin2 : meth.name = "<init>") (hdecl : (h_T ci k).1 = own) (hdg : decode cc pc = .ok (.putfield index, 3))
    (kk : ∀ (σ1 : hM) (H1 : Heap) (locs1 : List Loc), κ σ1 = some z → h_W E B T H0 σ1 H1 locs1 → W p l e R s m args below meth c H1 locs1 cells slots Q (F0 m (pc + 3) ls rest)) : W p l e R s m args below meth c H locs cells slots Q (F0 m pc ls (.ref (B + v) :: .ref (B + a) :: rest)) := by
  obtain ⟨hT, hf⟩ := ob_some hf
  obtain ⟨⟨hci, hk⟩, hlk⟩ := hL
  obtain ⟨cell, q1, q2, q3, q4⟩ := (hw.1.1 a).1 ci hT hci
  have hap := va_apart (own := own) hts (h_in ci hci) (h_fty ci) (h_ty_ok ci hci) (h_nm_ok ci hci) hX.1 (h_cl_ok ci hci)
  obtain ⟨hS, hfc, kC, hkC, hkind⟩ := hX.1.1 ci _ (h_cl_ok ci hci)
  obtain ⟨cf, kf, fi, f, hi, hsl⟩ := hS k hk
  have hlay := hts _ (h_in ci hci _ (u_in_lay hk))
  unfold u_lay at hlay
  rw [if_pos ht.2] at hlay
  have hst := (u_facts hfc hkC (u_lays hts (h_in ci hci) hk) hi).1
  have hcf : m.cls = cf := by
    obtain ⟨_, _, c', _, _, _, -, -, hf', -, -, -, hown2, -⟩ := Cond.laysFinal_spec hlay
    have e1 : c' = cf := by have := hi.symm.trans hf'; simp at this; exact this.1.symm
    rw [hdecl] at hown2
    rw [← e1]; exact Option.some.inj (hown.symm.trans hown2)
  have h6 := u_fits hfc hkC hkind (Or.inr hlay) hi (h_ty_ok ci hci k hk) (h_nar2 ht.1 (some (B + v))).1 (h_nar2 ht.1 (some (B + v))).2
  refine W.putFinK hx hb hown (hts _ hlk) hi hst hcf hin2 (by rw [q2]; exact h6) q1 q3 (by rw [hsl]; exact k2_hasslot (q4 k hk)) rfl rfl hdg fun H' e1 e2 e3 => ?_
  rw [hsl] at e1 ⊢
  refine kk _ H' _ hf (hw.put (by omega) h_w2R ⟨fun ci' h1 h2 => ?_, fun t h1 h2 h3 => (by omega)⟩ e3 e2)
  have ec : ci' = ci := by omega
  subst ec
  exact t_OB.to ⟨_, e1, q2, q3, t_set q4 hap hk (va_rf (some (B + v)))⟩ (fun j _ => h_Vw ((h_val2 ht.1).trans (by simp [wR, h_w2, h_lf])) h_wVR j)
end HM2
