/-! BOTH READERS SIDE BY SIDE: at a, with fault F (0: none) -/
def jR (τ υ : hM) (w : Nat) (t : Nat → Nat) (a F : Nat) : Prop := ∃ k p, cR τ w t a k F p ∧ υ.1 0 14 = p ∧ (F = 0 → dR υ w t a)
def Fr1 (lo hi : Nat) (τ τ' : hM) : Prop := τ'.2.2 = τ.2.2 ∧ ∀ x, x ≠ 1 → (x < lo ∨ hi < x) → τ'.1 x = τ.1 x
def Fr2 (r1 r2 : Nat) (υ υ' : hM) : Prop := υ'.2.2 = υ.2.2 ∧ (∀ x, x ≠ 0 → x ≠ r1 → x ≠ r2 → υ'.1 x = υ.1 x) ∧ ∀ j, (j < 14 ∨ 23 < j) → υ'.1 0 j = υ.1 0 j
theorem Fr1.trans {lo hi : Nat} {τ τ' τ'' : hM} (h : Fr1 lo hi τ τ') (g : Fr1 lo hi τ' τ'') : Fr1 lo hi τ τ'' := ⟨g.1.trans h.1, fun x hx hy => (g.2 x hx hy).trans (h.2 x hx hy)⟩
theorem Fr2.trans {lo hi : Nat} {τ τ' τ'' : hM} (h : Fr2 lo hi τ τ') (g : Fr2 lo hi τ' τ'') : Fr2 lo hi τ τ'' := ⟨g.1.trans h.1, fun x hx hy hz => (g.2.1 x hx hy hz).trans (h.2.1 x hx hy hz), fun j hj => (g.2.2 j hj).trans (h.2.2 j hj)⟩
theorem Fr1.rfl {lo hi : Nat} {τ : hM} : Fr1 lo hi τ τ := ⟨Eq.refl _, fun _ _ _ => Eq.refl _⟩
theorem Fr2.rfl {lo hi : Nat} {τ : hM} : Fr2 lo hi τ τ := ⟨Eq.refl _, fun _ _ _ _ => Eq.refl _, fun _ _ => Eq.refl _⟩
theorem F1.fr {lo hi : Nat} {τ τ' : hM} (h : F1 τ τ') : Fr1 lo hi τ τ' := ⟨h.1, fun x hx _ => h.2 x hx⟩
theorem F2.fr {r1 r2 : Nat} {τ τ' : hM} (h : F2 τ τ') : Fr2 r1 r2 τ τ' := ⟨h.1, fun x hx _ _ => h.2.1 x hx, fun j hj => h.2.2 j (by omega)⟩
theorem Fr1.w {lo hi x k : Nat} {τ : hM} {v : Int32} (h : lo ≤ x ∧ x ≤ hi) : Fr1 lo hi τ (wI τ x k v) := ⟨Eq.refl _, fun y _ hy => wIn (by omega)⟩
theorem Fr2.w {r1 r2 x k : Nat} {τ : hM} {v : Int32} (h : x = r1 ∨ x = r2) : Fr2 r1 r2 τ (wI τ x k v) ∨ x = 0 := by
  by_cases e : x = 0
  · exact Or.inr e
  · exact Or.inl ⟨Eq.refl _, fun y _ h1 h2 => wIn (by omega), fun j _ => by rw [wIn (fun q => e q.symm)]⟩
theorem Fr2.w0 {r1 r2 k : Nat} {τ : hM} {v : Int32} (h : 14 ≤ k ∧ k ≤ 23) : Fr2 r1 r2 τ (wI τ 0 k v) := ⟨Eq.refl _, fun y hy _ _ => wIn hy, fun j hj => wIk (by omega)⟩
theorem Fr2.wr {r1 r2 x k : Nat} {τ : hM} {v : Int32} (h : x = r1 ∨ x = r2) (h0 : x ≠ 0) : Fr2 r1 r2 τ (wI τ x k v) := ⟨Eq.refl _, fun y _ h1 h2 => wIn (by omega), fun j _ => by rw [wIn (fun q => h0 q.symm)]⟩
section JOINT
variable {τ υ : hM} {w : Nat} {t : Nat → Nat} {a F : Nat} {lo hi : Int32}
theorem jR.o1 {x j : Nat} {v : Int32} (h : jR τ υ w t a F) (hx : x ≠ 1) (hx2 : x ≠ 2) : jR (wI τ x j v) υ w t a F := by
  obtain ⟨k, p, h1, h2, h3⟩ := h
  exact ⟨k, p, h1.oth hx hx2, h2, h3⟩
theorem jR.o2 {x j : Nat} {v : Int32} (h : jR τ υ w t a F) (hx : x ≠ 8) (hx2 : ¬ (x = 0 ∧ (j = 13 ∨ j = 14 ∨ j = 15))) : jR τ (wI υ x j v) w t a F := by
  obtain ⟨k, p, h1, h2, h3⟩ := h
  exact ⟨k, p, h1, by rw [wIk (by omega)]; exact h2, fun q => (h3 q).oth hx (by omega)⟩
theorem jR.lt5 (h : jR τ υ w t a F) : F < 5 := by
  obtain ⟨k, p, h1, h2, h3⟩ := h
  exact h1.2.1.2.2
theorem num_both (hlo : ¬ lo ≤ -1) (h : jR τ υ w t a 0) : ∃ (v : Int32) (τ' υ' : hM) (F a' : Nat), fX6_readNumber kT1 1 lo hi τ = some (v, τ') ∧ fX9_takeNumber kT2 0 lo hi υ = some (nI F, υ') ∧ F1 τ τ' ∧ F2 υ υ' ∧ jR τ' υ' w t a' F ∧ a ≤ a' ∧ (F = 0 → lo ≤ v ∧ v ≤ hi ∧ υ'.1 0 18 = v ∧ τ'.1 1 3 = υ'.1 0 19) := by
  obtain ⟨k, p, h1, h2, h3⟩ := h
  obtain ⟨v, τ', a1, a2, a3⟩ := ev_num1 (hi := hi) hlo h1
  obtain ⟨F, υ', b1, b2, b3⟩ := ev_num2 (lo := lo) (hi := hi) (h3 rfl)
  have hle := sk_in (t := t) h1.2.1.1
  have hle2 := rn_in (t := t) (lo := 48) (hi := 57) hle.2
  rcases a3 with ⟨q1, q2, q3⟩ | ⟨q1, q2, q3, q4⟩ | ⟨q1, q2, q3, q4⟩
  · rcases b3 with ⟨z1, z2, z3⟩ | ⟨z1, -⟩ | ⟨z1, -⟩
    · subst z2
      exact ⟨v, τ', υ', 1, _, a1, b1, a2, b2, ⟨_, _, q3, z3, fun q => absurd q (by decide)⟩, hle.1, fun q => absurd q (by decide)⟩
    · omega
    · omega
  · rcases b3 with ⟨z1, -⟩ | ⟨z1, z2, z3, z4, z5, z6, z7⟩ | ⟨z1, z2, -⟩
    · omega
    · subst z3
      refine ⟨v, τ', υ', 0, _, a1, b1, a2, b2, ⟨_, _, q4, z5.trans h2, fun _ => z4⟩, by omega, fun _ => ⟨by rw [q3]; exact q2.2.1, by rw [q3]; exact q2.2.2, by rw [z6, q3], by rw [z7]; exact q4.2.2.2.1⟩⟩
    · exact absurd q2 z2
  · rcases b3 with ⟨z1, -⟩ | ⟨z1, z2, -⟩ | ⟨z1, z2, z3, z4⟩
    · omega
    · exact absurd z2 q2
    · subst z3
      exact ⟨v, τ', υ', 2, _, a1, b1, a2, b2, ⟨_, _, q4, z4, fun q => absurd q (by decide)⟩, by omega, fun q => absurd q (by decide)⟩
theorem stop_both (h : jR τ υ w t a 0) : ∃ (τ' υ' : hM) (F a' : Nat), fX6_readSign kT1 1 59 τ = some τ' ∧ fX9_takeStop kT2 0 υ = some (nI F, υ') ∧ F1 τ τ' ∧ F2 υ υ' ∧ jR τ' υ' w t a' F ∧ (F = 0 → a < a') := by
  obtain ⟨k, p, h1, h2, h3⟩ := h
  obtain ⟨τ', a1, a2, -, a3⟩ := ev_readSign (m := 59) (fun v hv => (sb_in v hv).2.2.2.1) h1
  obtain ⟨υ1, b1, b2, b3, b4, -⟩ := ev_here (h3 rfl)
  have hle := sk_in (t := t) h1.2.1.1
  have a3 := a3 rfl
  have e15 := b3.2.2
  unfold fX9_takeStop
  rw [vC2, b1, ob]
  have cd : (if sk t w a < w then nI (t (sk t w a)) else (-1 : Int32)) = 59 ↔ (sk t w a < w ∧ t (sk t w a) = 59) := by
    by_cases q : sk t w a < w
    · rw [if_pos q]
      have bb := (nb_in (t (sk t w a)) ((h3 rfl).1.2.2.2 _ q).2).2.2.2.1
      exact ⟨fun z => ⟨q, of_decide_eq_true (bb.symm.trans (decide_eq_true z))⟩, fun z => of_decide_eq_true (bb.trans (decide_eq_true z.2))⟩
    · rw [if_neg q]
      exact ⟨fun z => absurd z (by decide), fun z => absurd z.1 q⟩
  by_cases e : sk t w a < w ∧ t (sk t w a) = 59
  · rw [if_pos e] at a3
    rw [if_pos (cd.mpr e), gI2, ob, e15, pI2, ob, nI_1]
    exact ⟨τ', _, 0, _, a1, by rw [nI_0], a2, b2.trans (F2.w (by omega)), ⟨_, _, a3, by rw [wIk (by decide), b4 14 (by decide)]; exact h2, fun _ => b3.at (by omega)⟩, fun _ => by omega⟩
  · rw [if_neg e] at a3
    rw [if_neg (fun z => e (cd.mp z)), gI2, ob, e15, vC2, ev_fails, ob]
    exact ⟨τ', _, 1, _, a1, rfl, a2, b2.trans (F2.w (by omega)), ⟨_, _, a3, wIe, fun q => absurd q (by decide)⟩, fun q => absurd q (by decide)⟩
theorem stop_F (hF : F ≠ 0) (h : jR τ υ w t a F) : ∃ τ', fX6_readSign kT1 1 59 τ = some τ' ∧ F1 τ τ' ∧ jR τ' υ w t a F := by
  obtain ⟨k, p, h1, h2, h3⟩ := h
  obtain ⟨τ', a1, a2, a3, -⟩ := ev_readSign (m := 59) (fun v hv => (sb_in v hv).2.2.2.1) h1
  exact ⟨τ', a1, a2, k, p, a3 hF, h2, h3⟩
theorem num_F (hF : F ≠ 0) (h : jR τ υ w t a F) : fX6_readNumber kT1 1 lo hi τ = some (lo, τ) := by
  obtain ⟨k, p, h1, h2, h3⟩ := h
  exact ev_numF hF h1
theorem blame_F {m : Nat} (hm : m < 5) (hF : F ≠ 0) (h : jR τ υ w t a F) : ∃ τ', fX6_blame kT1 1 (nI m) τ = some τ' ∧ F1 τ τ' ∧ jR τ' υ w t a F := by
  obtain ⟨k, p, h1, h2, h3⟩ := h
  obtain ⟨τ', a1, a2, a3⟩ := ev_blame hm h1
  rw [if_neg hF, if_neg hF] at a3
  exact ⟨τ', a1, a2, k, p, a3, h2, h3⟩
/-- a word at A (no blank there), to E -/
theorem word_both {i A : Nat} {k : Nat} {p : Int32} (hi : i < 5) (hA : sk t w A = A) (h1 : cR τ w t A k 0 p) (h2 : υ.1 0 14 = p) (h3 : dR υ w t A) : ∃ (τ' υ' : hM) (E : Nat), fX6_readWord kT1 1 i τ = some (wix (tkl t A E) (wds i) 0, τ') ∧ fX9_readWord kT2 0 υ = some υ' ∧ F1 τ τ' ∧ F2 υ υ' ∧ dR υ' w t A ∧ υ'.1 0 14 = p ∧ υ'.1 0 17 = nI E ∧ υ'.2.1 0 16 = lN (cdl (tkl t A E)) ∧ A ≤ E ∧ E ≤ w ∧ (∀ j, A ≤ j → j < E → 97 ≤ t j ∧ t j ≤ 122) ∧ (wix (tkl t A E) (wds i) 0 = -1 → cR τ' w t E A 1 (nI A)) ∧ (wix (tkl t A E) (wds i) 0 ≠ -1 → cR τ' w t E A 0 p) := by
  obtain ⟨τ', a1, a2, a3, a4⟩ := ev_readWord0 hi h1
  obtain ⟨υ', b1, b2, b3, b4, b5, b6⟩ := ev_word h3
  rw [hA] at a1 a3 a4 b3 b5 b6
  have hin := rn_in (t := t) (lo := 97) (hi := 122) h1.2.1.1
  exact ⟨τ', υ', rn t w 97 122 A, a1, b1, a2, b2, b3, b4.trans h2, b5, b6, hin.1, hin.2, fun j j1 j2 => rn_letter j1 j2, a3, a4⟩
theorem tkl_nil {A : Nat} : tkl t A A = [] := by unfold tkl; rw [Nat.sub_self]; rfl
end JOINT
