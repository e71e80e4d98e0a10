/-! ROWS: arrays -/
theorem h_arrI {B t n : Nat} {σ : hM} {a : Nat} (h : t ≤ 13) : h_arr B t n σ a = (n, .inl (σ.1 a)) := by simp [h_arr, h]
theorem h_arrL {B n : Nat} {σ : hM} {a : Nat} : h_arr B 14 n σ a = (n, .inr (.inl (σ.2.1 a))) := rfl
theorem h_arrR {B t n : Nat} {σ : hM} {a : Nat} (h : 15 ≤ t) : h_arr B t n σ a = (n, .inr (.inr (.inr (.inr (fun j => h_lf B (σ.2.2 a j)))))) := by
  have h1 : ¬ t ≤ 13 := by omega
  have h2 : ¬ t = 14 := by omega
  simp [h_arr, h1, h2]
section HA
variable {p : Program} {l : Launch} {e : Env} {R : Room} {s : State} {m : MethodId} {args : Array Value} {below : List Frame} {meth : Method} {c : Code} {H : Heap} {locs : List Loc} {cells slots : Nat} {Q : State → Prop}
variable {cc : ByteArray} {pc : Nat} {ls : Array Slot} {rest : List Value} {E : hE} {B : Nat} {T : hT} {σ : hM} {A : Nat → Prop} {H0 : Heap} {α : Type} {z : α} {a : Nat} {i : Int32}
theorem h_ty11 (hX : h_X E A s s.heap) : ArrOfT s (E.2.1 11) .int := (hX.1.2 0 _ rfl).1
theorem h_ty12 (hX : h_X E A s s.heap) : ArrOfT s (E.2.1 12) .byte := (hX.1.2 1 _ rfl).1
theorem h_ty13 (hX : h_X E A s s.heap) : ArrOfT s (E.2.1 13) .boolean := (hX.1.2 2 _ rfl).1
theorem h_ty14 (hX : h_X E A s s.heap) : ArrOfT s (E.2.1 14) .long := (hX.1.2 3 _ rfl).1
theorem h_ty15 (hX : h_X E A s s.heap) : ArrOfT s (E.2.1 15) (.object RX3) := (hX.1.2 4 _ rfl).1
theorem h_ty16 (hX : h_X E A s s.heap) : ArrOfT s (E.2.1 16) (.object RX5) := (hX.1.2 5 _ rfl).1
theorem h_ty17 (hX : h_X E A s s.heap) : ArrOfT s (E.2.1 17) (.array .long) := (hX.1.2 6 _ rfl).1
theorem h_in2 {cA : ClassId} {n : Nat} {f : Nat → Value} (h : ¬ (i < 0 ∨ n ≤ i.toNatClampNeg)) : ¬ (i < 0 ∨ (arrV cA n f).slots.size ≤ i.toNatClampNeg) := by rw [arrV_size]; exact h
theorem h_rd2 {cA : ClassId} {n : Nat} {f : Nat → Value} (h : ¬ (i < 0 ∨ n ≤ i.toNatClampNeg)) : (arrV cA n f).slots[i.toNatClampNeg]? = some (f i.toNatClampNeg) := arrV_read _ _ (Nat.not_le.mp fun q => h (Or.inr q))
theorem h_cI {t : Nat} (hw : h_W E B T H0 σ H locs) (hT : T.1 a = t) (h1 : 11 ≤ t) (h2 : t ≤ 13) : H[B + a]? = some (arrV (E.2.1 t) (T.2 a) (fun j => .int (σ.1 a j))) := by
  have h := (hw.1.1 a).2 t hT h1 (by omega)
  rw [h_arrI h2] at h
  exact h
theorem h_cL (hw : h_W E B T H0 σ H locs) (hT : T.1 a = 14) : H[B + a]? = some (arrV (E.2.1 14) (T.2 a) (fun j => .long (σ.2.1 a j))) := (hw.1.1 a).2 14 hT (by decide) (by decide)
theorem h_cR {t : Nat} (hw : h_W E B T H0 σ H locs) (hT : T.1 a = t) (h1 : 15 ≤ t) (h2 : t ≤ 17) : H[B + a]? = some (arrV (E.2.1 t) (T.2 a) (fun j => va_rf (h_lf B (σ.2.2 a j)))) := by
  have h := (hw.1.1 a).2 t hT (by omega) h2
  rw [h_arrR h1] at h
  exact h
theorem h_iald {κ : Int32 → Option α} (hf : (ald 11 T σ a i).bind κ = some z) (hx : p.tables.exec = Jvm.exec) (hb : c.code = cc) (hX : h_X E A s s.heap) (hw : h_W E B T H0 σ H locs) (hdg : decode cc pc = .ok (.iaload, 1))
    (kk : ∀ x : Int32, κ x = some z → W p l e R s m args below meth c H locs cells slots Q (F0 m (pc + 1) ls (.int x :: rest))) : W p l e R s m args below meth c H locs cells slots Q (F0 m pc ls (.int i :: .ref (B + a) :: rest)) := by
  obtain ⟨⟨hT, hin⟩, hf⟩ := ob_some hf
  exact W.iald hx hb (h_cI hw hT (by decide) (by decide)) (h_ty11 hX _ _) (fun q => by cases q) (h_in2 hin) (h_rd2 hin) rfl rfl hdg (kk _ hf)
theorem h_bald {κ : Int32 → Option α} (hf : (ald 12 T σ a i).bind κ = some z) (hx : p.tables.exec = Jvm.exec) (hb : c.code = cc) (hX : h_X E A s s.heap) (hw : h_W E B T H0 σ H locs) (hdg : decode cc pc = .ok (.baload, 1))
    (kk : ∀ x : Int32, κ x = some z → W p l e R s m args below meth c H locs cells slots Q (F0 m (pc + 1) ls (.int x :: rest))) : W p l e R s m args below meth c H locs cells slots Q (F0 m pc ls (.int i :: .ref (B + a) :: rest)) := by
  obtain ⟨⟨hT, hin⟩, hf⟩ := ob_some hf
  exact W.bald hx hb (h_cI hw hT (by decide) (by decide)) (h_ty12 hX _ _) (fun q => by cases q) (h_in2 hin) (h_rd2 hin) rfl rfl hdg (kk _ hf)
theorem h_zald {κ : Int32 → Option α} (hf : (ald 13 T σ a i).bind κ = some z) (hx : p.tables.exec = Jvm.exec) (hb : c.code = cc) (hX : h_X E A s s.heap) (hw : h_W E B T H0 σ H locs) (hdg : decode cc pc = .ok (.baload, 1))
    (kk : ∀ x : Int32, κ x = some z → W p l e R s m args below meth c H locs cells slots Q (F0 m (pc + 1) ls (.int x :: rest))) : W p l e R s m args below meth c H locs cells slots Q (F0 m pc ls (.int i :: .ref (B + a) :: rest)) := by
  obtain ⟨⟨hT, hin⟩, hf⟩ := ob_some hf
  exact W.zald hx hb (h_cI hw hT (by decide) (by decide)) (h_ty13 hX _ _) (fun q => by cases q) (h_in2 hin) (h_rd2 hin) rfl rfl hdg (kk _ hf)
theorem h_lald {κ : Int64 → Option α} (hf : (aldl T σ a i).bind κ = some z) (hx : p.tables.exec = Jvm.exec) (hb : c.code = cc) (hX : h_X E A s s.heap) (hw : h_W E B T H0 σ H locs) (hdg : decode cc pc = .ok (.laload, 1))
    (kk : ∀ x : Int64, κ x = some z → W p l e R s m args below meth c H locs cells slots Q (F0 m (pc + 1) ls (.long x :: rest))) : W p l e R s m args below meth c H locs cells slots Q (F0 m pc ls (.int i :: .ref (B + a) :: rest)) := by
  obtain ⟨⟨hT, hin⟩, hf⟩ := ob_some hf
  exact W.lald hx hb (h_cL hw hT) (h_ty14 hX _ _) (fun q => by cases q) (h_in2 hin) (h_rd2 hin) rfl rfl hdg (kk _ hf)
theorem h_aald15 {κ : Nat → Option α} (hf : (aldr 15 T σ a i).bind κ = some z) (hx : p.tables.exec = Jvm.exec) (hb : c.code = cc) (hX : h_X E A s s.heap) (hw : h_W E B T H0 σ H locs) (hdg : decode cc pc = .ok (.aaload, 1))
    (kk : ∀ x : Nat, κ x = some z → W p l e R s m args below meth c H locs cells slots Q (F0 m (pc + 1) ls (.ref (B + x) :: rest))) : W p l e R s m args below meth c H locs cells slots Q (F0 m pc ls (.int i :: .ref (B + a) :: rest)) := by
  obtain ⟨⟨hT, hin⟩, x, hx2, hf⟩ := ob_opt hf
  exact W.aald (v := .ref (B + x)) hx hb (h_cR hw hT (by decide) (by decide)) (h_ty15 hX _ _) rfl (fun q => by cases q) (h_in2 hin) ((h_rd2 hin).trans (by rw [hx2]; rfl)) rfl rfl hdg (kk _ hf)
theorem h_aald16 {κ : Nat → Option α} (hf : (aldr 16 T σ a i).bind κ = some z) (hx : p.tables.exec = Jvm.exec) (hb : c.code = cc) (hX : h_X E A s s.heap) (hw : h_W E B T H0 σ H locs) (hdg : decode cc pc = .ok (.aaload, 1))
    (kk : ∀ x : Nat, κ x = some z → W p l e R s m args below meth c H locs cells slots Q (F0 m (pc + 1) ls (.ref (B + x) :: rest))) : W p l e R s m args below meth c H locs cells slots Q (F0 m pc ls (.int i :: .ref (B + a) :: rest)) := by
  obtain ⟨⟨hT, hin⟩, x, hx2, hf⟩ := ob_opt hf
  exact W.aald (v := .ref (B + x)) hx hb (h_cR hw hT (by decide) (by decide)) (h_ty16 hX _ _) rfl (fun q => by cases q) (h_in2 hin) ((h_rd2 hin).trans (by rw [hx2]; rfl)) rfl rfl hdg (kk _ hf)
theorem h_aald17 {κ : Nat → Option α} (hf : (aldr 17 T σ a i).bind κ = some z) (hx : p.tables.exec = Jvm.exec) (hb : c.code = cc) (hX : h_X E A s s.heap) (hw : h_W E B T H0 σ H locs) (hdg : decode cc pc = .ok (.aaload, 1))
    (kk : ∀ x : Nat, κ x = some z → W p l e R s m args below meth c H locs cells slots Q (F0 m (pc + 1) ls (.ref (B + x) :: rest))) : W p l e R s m args below meth c H locs cells slots Q (F0 m pc ls (.int i :: .ref (B + a) :: rest)) := by
  obtain ⟨⟨hT, hin⟩, x, hx2, hf⟩ := ob_opt hf
  exact W.aald (v := .ref (B + x)) hx hb (h_cR hw hT (by decide) (by decide)) (h_ty17 hX _ _) rfl (fun q => by cases q) (h_in2 hin) ((h_rd2 hin).trans (by rw [hx2]; rfl)) rfl rfl hdg (kk _ hf)
theorem h_upI {cA : ClassId} {n k : Nat} {f : Nat → Int32} {v : Int32} : (arrV cA n (fun j => .int (f j))).setSlot k (.int v) = arrV cA n (fun j => .int (if j = k then v else f j)) := by
  rw [arrV_store]
  congr 1
  funext q
  by_cases hq : q = k
  · subst hq; simp [updV]
  · simp [updV, hq]
theorem h_atI {t k : Nat} {v : Int32} {H1 : Heap} (hT : T.1 a = t) (h1 : 11 ≤ t) (h2 : t ≤ 13) (he : H1[B + a]? = some ((arrV (E.2.1 t) (T.2 a) (fun j => .int (σ.1 a j))).setSlot k (.int v))) : h_at E B T (wI σ a k v) H1 a := by
  refine ⟨fun ci h3 h4 => (by omega), fun t' h3 h4 h5 => ?_⟩
  have et : t' = t := by omega
  subst et
  rw [he, h_upI, h_arrI h2, vp_cell_i]
  congr 2
  funext j
  by_cases hj : j = k <;> simp [wI, h_w2, hj]
theorem h_iast {κ : hM → Option α} {v : Int32} (hf : (asti T σ a i v).bind κ = some z) (hx : p.tables.exec = Jvm.exec) (hb : c.code = cc) (hX : h_X E A s s.heap) (hw : h_W E B T H0 σ H locs) (hdg : decode cc pc = .ok (.iastore, 1))
    (kk : ∀ (σ1 : hM) (H1 : Heap) (locs1 : List Loc), κ σ1 = some z → h_W E B T H0 σ1 H1 locs1 → W p l e R s m args below meth c H1 locs1 cells slots Q (F0 m (pc + 1) ls rest)) : W p l e R s m args below meth c H locs cells slots Q (F0 m pc ls (.int v :: .int i :: .ref (B + a) :: rest)) := by
  obtain ⟨⟨hT, hin⟩, hf⟩ := ob_some hf
  refine W.iast hx hb (h_cI hw hT (by decide) (by decide)) (h_ty11 hX _ _) (fun q => by cases q) (h_in2 hin) rfl rfl hdg fun H1 he zz oq => ?_
  exact kk _ H1 _ hf (hw.put (by omega) h_w2I (h_atI hT (by decide) (by decide) he) oq zz)
theorem h_bast {κ : hM → Option α} {v : Int32} (hf : (astb T σ a i v).bind κ = some z) (hx : p.tables.exec = Jvm.exec) (hb : c.code = cc) (hX : h_X E A s s.heap) (hw : h_W E B T H0 σ H locs) (hdg : decode cc pc = .ok (.bastore, 1))
    (kk : ∀ (σ1 : hM) (H1 : Heap) (locs1 : List Loc), κ σ1 = some z → h_W E B T H0 σ1 H1 locs1 → W p l e R s m args below meth c H1 locs1 cells slots Q (F0 m (pc + 1) ls rest)) : W p l e R s m args below meth c H locs cells slots Q (F0 m pc ls (.int v :: .int i :: .ref (B + a) :: rest)) := by
  obtain ⟨⟨hT, hin⟩, hf⟩ := ob_some hf
  refine W.bast hx hb (h_cI hw hT (by decide) (by decide)) (h_ty12 hX _ _) (fun q => by cases q) (h_in2 hin) rfl rfl hdg fun H1 he zz oq => ?_
  exact kk _ H1 _ hf (hw.put (by omega) h_w2I (h_atI hT (by decide) (by decide) (he.trans (by simp [vp_nar]; try rfl))) oq zz)
theorem h_zast {κ : hM → Option α} {v : Int32} (hf : (astz T σ a i v).bind κ = some z) (hx : p.tables.exec = Jvm.exec) (hb : c.code = cc) (hX : h_X E A s s.heap) (hw : h_W E B T H0 σ H locs) (hdg : decode cc pc = .ok (.bastore, 1))
    (kk : ∀ (σ1 : hM) (H1 : Heap) (locs1 : List Loc), κ σ1 = some z → h_W E B T H0 σ1 H1 locs1 → W p l e R s m args below meth c H1 locs1 cells slots Q (F0 m (pc + 1) ls rest)) : W p l e R s m args below meth c H locs cells slots Q (F0 m pc ls (.int v :: .int i :: .ref (B + a) :: rest)) := by
  obtain ⟨⟨hT, hin⟩, hf⟩ := ob_some hf
  refine W.zast hx hb (h_cI hw hT (by decide) (by decide)) (h_ty13 hX _ _) (fun q => by cases q) (h_in2 hin) rfl rfl hdg fun H1 he zz oq => ?_
  exact kk _ H1 _ hf (hw.put (by omega) h_w2I (h_atI hT (by decide) (by decide) (he.trans (by simp [vp_nar]; try rfl))) oq zz)
theorem h_last {κ : hM → Option α} {v : Int64} (hf : (astl T σ a i v).bind κ = some z) (hx : p.tables.exec = Jvm.exec) (hb : c.code = cc) (hX : h_X E A s s.heap) (hw : h_W E B T H0 σ H locs) (hdg : decode cc pc = .ok (.lastore, 1))
    (kk : ∀ (σ1 : hM) (H1 : Heap) (locs1 : List Loc), κ σ1 = some z → h_W E B T H0 σ1 H1 locs1 → W p l e R s m args below meth c H1 locs1 cells slots Q (F0 m (pc + 1) ls rest)) : W p l e R s m args below meth c H locs cells slots Q (F0 m pc ls (.long v :: .int i :: .ref (B + a) :: rest)) := by
  obtain ⟨⟨hT, hin⟩, hf⟩ := ob_some hf
  refine W.last hx hb (h_cL hw hT) (h_ty14 hX _ _) (fun q => by cases q) (h_in2 hin) rfl rfl hdg fun H1 he zz oq => ?_
  refine kk _ H1 _ hf (hw.put (by omega) h_w2L ⟨fun ci h3 h4 => (by omega), fun t' h3 h4 h5 => ?_⟩ oq zz)
  have et : t' = 14 := by omega
  subst et
  rw [he, h_arrL, vp_cell_l, arrV_store]
  congr 2
  funext q
  by_cases hq : q = i.toNatClampNeg
  · subst hq; simp [updV, wL, h_w2]
  · simp [updV, wL, h_w2, hq]
theorem h_alen {κ : Int32 → Option α} (hf : (aln T a).bind κ = some z) (hx : p.tables.exec = Jvm.exec) (hb : c.code = cc) (hX : h_X E A s s.heap) (hw : h_W E B T H0 σ H locs) (hdg : decode cc pc = .ok (.arraylength, 1))
    (kk : ∀ x : Int32, κ x = some z → W p l e R s m args below meth c H locs cells slots Q (F0 m (pc + 1) ls (.int x :: rest))) : W p l e R s m args below meth c H locs cells slots Q (F0 m pc ls (.ref (B + a) :: rest)) := by
  obtain ⟨⟨h1, h2⟩, hf⟩ := ob_some hf
  have hk := kk _ hf
  rcases (show T.1 a = 11 ∨ T.1 a = 12 ∨ T.1 a = 13 ∨ T.1 a = 14 ∨ T.1 a = 15 ∨ T.1 a = 16 ∨ T.1 a = 17 by omega) with hT | hT | hT | hT | hT | hT | hT
  · exact W.alen hx hb (h_cI hw hT (by decide) (by decide)) (h_ty11 hX _ _) (by rw [arrV_size]) rfl rfl hdg hk
  · exact W.alen hx hb (h_cI hw hT (by decide) (by decide)) (h_ty12 hX _ _) (by rw [arrV_size]) rfl rfl hdg hk
  · exact W.alen hx hb (h_cI hw hT (by decide) (by decide)) (h_ty13 hX _ _) (by rw [arrV_size]) rfl rfl hdg hk
  · exact W.alen hx hb (h_cL hw hT) (h_ty14 hX _ _) (by rw [arrV_size]) rfl rfl hdg hk
  · exact W.alen hx hb (h_cR hw hT (by decide) (by decide)) (h_ty15 hX _ _) (by rw [arrV_size]) rfl rfl hdg hk
  · exact W.alen hx hb (h_cR hw hT (by decide) (by decide)) (h_ty16 hX _ _) (by rw [arrV_size]) rfl rfl hdg hk
  · exact W.alen hx hb (h_cR hw hT (by decide) (by decide)) (h_ty17 hX _ _) (by rw [arrV_size]) rfl rfl hdg hk
end HA
