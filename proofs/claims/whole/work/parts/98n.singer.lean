/-! SINGERS -/
/-- what a number read into row r at idx leaves -/
def Fi (r idx : Nat) (υ υ' : hM) : Prop := υ'.2.2 = υ.2.2 ∧ (∀ x, x ≠ 0 → x ≠ r → υ'.1 x = υ.1 x) ∧ (∀ j, j ≠ idx → υ'.1 r j = υ.1 r j) ∧ ∀ j, (j < 14 ∨ 19 < j) → υ'.1 0 j = υ.1 0 j
section INTO
variable {τ υ : hM} {w : Nat} {t : Nat → Nat} {a F : Nat} {lo hi i : Int32}
theorem into_any {r ri idx L : Nat} (hlo : ¬ lo ≤ -1) (h : jR τ υ w t a F) (hri : υ.2.2 0 ri = some r) (kr : kd kT2 r 11) (lr : kl kT2 r L) (hidx : idx < L) (hL : L < 2 ^ 31) (hr0 : r ≠ 0) (hr8 : r ≠ 8) (hi' : i = nI idx) : ∃ (v : Int32) (τ' υ' : hM) (F' a' : Nat), fX6_readNumber kT1 1 lo hi τ = some (v, τ') ∧ (F = 0 → fX9_into kT2 0 r i lo hi υ = some (nI F', υ')) ∧ (∀ J : Int32 → hM → Option (Int32 × hM), lt J (fun K => if nI F ≤ 0 then ((gtr kT2 υ 0 9 ri).bind fun x => (vc kT2 0 9 (fX9_into kT2 0 x i lo hi υ)).bind fun q => K q.1 q.2) else K (nI F) υ) = J (nI F') υ') ∧ F1 τ τ' ∧ Fi r idx υ υ' ∧ jR τ' υ' w t a' F' ∧ (F' = 0 → F = 0 ∧ a ≤ a' ∧ υ'.1 r idx = v ∧ lo ≤ v ∧ v ≤ hi ∧ υ'.1 0 18 = v ∧ τ'.1 1 3 = υ'.1 0 19) ∧ (F ≠ 0 → F' = F ∧ υ' = υ) := by
  have hF5 := h.lt5
  by_cases hF : F = 0
  · subst hF
    obtain ⟨v, τ', υ', F', a', e1, e2, e3, e4, e5, e6, e7⟩ := num_both (lo := lo) (hi := hi) hlo h
    have e0 : fX9_into kT2 0 r i lo hi υ = some (nI F', wI υ' r idx (υ'.1 0 18)) := by
      unfold fX9_into
      rw [vC2, e2, ob, gI2, ob, hi', sA L kr lr hidx hL, ob]
    refine ⟨v, τ', wI υ' r idx (υ'.1 0 18), F', a', e1, fun _ => e0, fun J => ?_, e3, ⟨e4.1, fun x h0 hr => (wIn hr).trans (e4.2.1 x h0), fun j hj => by rw [wIk (fun q => hj q.2), e4.2.1 r hr0], fun j hj => by rw [wIn (fun q => hr0 q.symm)]; exact e4.2.2 j hj⟩, e5.o2 hr8 (by omega), fun q => ?_, fun q => absurd rfl q⟩
    · simp only [iflt]
      rw [if_pos (show nI 0 ≤ 0 by decide), gR2, hri, ob, vC2, e0, ob]
    · obtain ⟨y1, y2, y3, y4⟩ := e7 q
      exact ⟨rfl, e6, by rw [wIe]; exact y3, y1, y2, by rw [wIn (fun q => hr0 q.symm)]; exact y3, by rw [wIn (fun q => hr0 q.symm)]; exact y4⟩
  · refine ⟨lo, τ, υ, F, a, num_F hF h, fun q => absurd q hF, fun J => ?_, F1.rfl, ⟨rfl, fun _ _ _ => rfl, fun _ _ => rfl, fun _ _ => rfl⟩, h, fun q => absurd q hF, fun _ => ⟨rfl, rfl⟩⟩
    simp only [iflt]
    rw [if_neg (nI_nle (by omega) (by omega))]
theorem clash_any {v5 v6 : Int32} {idx L r : Nat} (h : jR τ υ w t a F) (hri : υ.2.2 0 24 = some r) (kr : kd kT2 r 11) (lr : kl kT2 r L) (hidx : idx < L) (hL : L < 2 ^ 31) (hi' : i = nI idx) (h0 : F = 0 → υ.1 r idx = v5 ∧ υ.1 0 18 = v6 ∧ τ.1 1 3 = υ.1 0 19) : ∃ (τ' υ' : hM) (F' : Nat), (∀ J : hM → Option hM, lt J (fun K => if v5 ≤ v6 then K τ else ((vc kT1 1 6 (fX6_blame kT1 1 4 τ)).bind fun q => K q)) = J τ') ∧ (∀ J : Int32 → hM → Option (Int32 × hM), lt J (fun K => lt (fun (u46 : hM) => K (nI F) u46) fun K2 => if nI F = 0 then ((gti kT2 υ 0 9 18).bind fun x47 => (gtr kT2 υ 0 9 24).bind fun a48 => (ald 11 kT2 υ a48 i).bind fun x49 => if x49 ≤ x47 then (K2 υ) else ((gti kT2 υ 0 9 19).bind fun x50 => (vc kT2 0 9 (fX9_fails kT2 0 (4 : Int32) x50 υ)).bind fun q51 => K q51.1 q51.2)) else (K2 υ)) = J (nI F') υ') ∧ F1 τ τ' ∧ F2 υ υ' ∧ jR τ' υ' w t a F' ∧ (F' = 0 → F = 0 ∧ v5 ≤ v6) ∧ (F ≠ 0 → F' = F ∧ υ' = υ) := by
  have hF5 := h.lt5
  by_cases hF : F = 0
  · subst hF
    obtain ⟨z1, z2, z3⟩ := h0 rfl
    have ref : ∀ (P : Prop) [Decidable P] (x y : Option (Int32 × hM)), True := fun _ _ _ _ => trivial
    by_cases e : v5 ≤ v6
    · refine ⟨τ, υ, 0, fun J => ?_, fun J => ?_, F1.rfl, F2.rfl, h, fun _ => ⟨rfl, e⟩, fun q => absurd rfl q⟩
      · simp only [iflt]
        rw [if_pos e]
      · simp only [iflt]
        rw [if_pos nI_0, gI2, ob, z2, gR2, hri, ob, hi', lA L kr lr hidx hL, ob, z1, if_pos e]
    · obtain ⟨k, p, h1, h2, h3⟩ := id h
      obtain ⟨τ', c1, c2, c3⟩ := ev_blame (m := 4) (by decide) h1
      rw [if_pos rfl, if_pos rfl] at c3
      have z3' : υ.1 0 19 = nI k := by rw [← z3]; exact h1.2.2.2.1
      refine ⟨τ', wI υ 0 14 (nI k), 4, fun J => ?_, fun J => ?_, c2, F2.w (by omega), ⟨_, _, c3, wIe, fun q => absurd q (by decide)⟩, fun q => absurd q (by decide), fun q => absurd rfl q⟩
      · simp only [iflt]
        rw [if_neg e, vC1 1 6, show fX6_blame kT1 1 4 τ = some τ' from c1, ob]
      · simp only [iflt]
        rw [if_pos nI_0, gI2, ob, z2, gR2, hri, ob, hi', lA L kr lr hidx hL, ob, z1, if_neg e, gI2, ob, z3', vC2, ev_fails, ob]
        rfl
  · obtain ⟨τ', c1, c2, c3⟩ := blame_F (m := 4) (by decide) hF h
    by_cases e : v5 ≤ v6
    · refine ⟨τ, υ, F, fun J => ?_, fun J => ?_, F1.rfl, F2.rfl, h, fun q => absurd q hF, fun _ => ⟨rfl, rfl⟩⟩
      · simp only [iflt]
        rw [if_pos e]
      · simp only [iflt]
        rw [if_neg (nI_ne0 (by omega) (by omega))]
    · refine ⟨τ', υ, F, fun J => ?_, fun J => ?_, c2, F2.rfl, c3, fun q => absurd q hF, fun _ => ⟨rfl, rfl⟩⟩
      · simp only [iflt]
        rw [if_neg e, vC1 1 6, show fX6_blame kT1 1 4 τ = some τ' from c1, ob]
      · simp only [iflt]
        rw [if_neg (nI_ne0 (by omega) (by omega))]
end INTO
