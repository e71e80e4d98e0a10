/-! WORDS: the class compares signs -/
def tkl (t : Nat → Nat) (a e : Nat) : List Nat := (List.range (e - a)).map (fun j => t (a + j))
def wds : Nat → List (List Nat)
  | 0 => [[110, 111, 116, 101], [98, 114, 101, 97, 116, 104]]
  | 1 => [[115, 105, 110, 103, 101, 114]]
  | 2 => [[112, 108, 97, 105, 110], [116, 114, 117, 101], [100, 114, 105, 102, 116, 105, 110, 103], [110, 97, 114, 114, 111, 119], [103, 114, 111, 119, 108, 105, 110, 103], [115, 104, 111, 114, 116], [100, 101, 97, 102], [104, 117, 115, 104, 101, 100]]
  | 3 => [[116, 97, 115, 107]]
  | _ => [[101, 97, 114], [118, 111, 105, 99, 101], [109, 101, 109, 111, 114, 121], [114, 97, 110, 103, 101]]
def wix (l : List Nat) : List (List Nat) → Nat → Int32
  | [], _ => -1
  | u :: us, n => if l = u then nI n else wix l us (n + 1)
def wch (i j : Nat) : Int32 := (h_sb.getD i []).getD j 0
def okW (i : Nat) : Nat → List (List Nat) → Bool
  | pre, [] => decide (pre = h_sl.getD i 0)
  | pre, u :: us => (decide (pre + u.length < h_sl.getD i 0) && (List.range u.length).all (fun j => decide (wch i (pre + j) = nI (u.getD j 0) ∧ u.getD j 0 < 128 ∧ ¬ wch i (pre + j) = 32))) && (decide (wch i (pre + u.length) = 32) && okW i (pre + u.length + 1) us)
theorem okW_v : ∀ i, i < 5 → okW i 0 (wds i) = true ∧ h_sl.getD i 0 ≤ 54 := by decide +kernel
theorem sb_inj : ∀ u, u < 128 → ∀ v, v < 256 → (decide (nI u = sb v) = decide (u = v)) := by decide +kernel
theorem al_iff (P : Nat → Bool) : ∀ d k, al P k d = true ↔ ∀ j, k ≤ j → j < k + d → P j = true
  | 0, k => ⟨fun _ j h1 h2 => absurd h2 (by omega), fun _ => rfl⟩
  | d + 1, k => by
    rw [al, Bool.and_eq_true, al_iff P d (k + 1)]
    constructor
    · intro ⟨h1, h2⟩ j h3 h4
      by_cases e : j = k
      · rw [e]; exact h1
      · exact h2 j (by omega) (by omega)
    · intro h
      exact ⟨h k (Nat.le_refl k) (by omega), fun j h1 h2 => h j (by omega) (by omega)⟩
theorem sat_v {i k : Nat} (hi : i < 5) (hk : k < h_sl.getD i 0) (h54 : h_sl.getD i 0 ≤ 54) : sat i (nI k) = some (wch i k) := by
  unfold sat
  rw [if_pos ⟨hi, nI_in hk (by omega)⟩, nI_clamp (by omega)]
  rfl
section WORDS
variable {τ : hM} {w : Nat} {t : Nat → Nat} {a k f i : Nat} {p : Int32}
theorem tok_L {fr to : Nat} (hi : i < 5) (h54 : h_sl.getD i 0 ≤ 54) (h : cR τ w t a k f p) (hto : to ≤ h_sl.getD i 0) (hlen : k + (to - fr) ≤ w) : ∀ (d j fuel : Nat), j + d = to → fr ≤ j → d < fuel → fX6_isToken_L20 kT1 1 i (nI fr) (nI to) (fun u8 => rtz (1 : Int32) u8) fuel (nI j) τ = some (if al (fun j => decide (wch i j = sb (t (k + j - fr)))) j d = true then 1 else 0, τ) := by
  obtain ⟨⟨h1, h2, h3, h4⟩, ⟨h5, h6, h7⟩, h8, h9, h10, h11⟩ := id h
  intro d
  induction d with
  | zero =>
    intro j fuel hj hfr hf
    obtain ⟨g, rfl⟩ : ∃ g, fuel = g + 1 := ⟨fuel - 1, by omega⟩
    rw [fX6_isToken_L20, if_pos (nI_le (by omega) (by omega))]
    rfl
  | succ d ih =>
    intro j fuel hj hfr hf
    obtain ⟨g, rfl⟩ : ∃ g, fuel = g + 1 := ⟨fuel - 1, by omega⟩
    rw [fX6_isToken_L20, if_neg (nI_ge (by omega) (by omega)), sat_v hi (by omega) h54, ob, gR1 1 6, h1, ob, gI1 1 6, ob, h9, nI_add, pk_sub (by omega), lB1 (k := k + j - fr) (by omega), ob, (h4 (k + j - fr) (by omega)).1, al]
    by_cases e : wch i j = sb (t (k + j - fr))
    · rw [if_pos e, decide_eq_true e, Bool.true_and]
      simp only [iflt, nI_1]
      exact ih (j + 1) g (by omega) (by omega) (by omega)
    · rw [if_neg e, decide_eq_false e, Bool.false_and]
      rfl
theorem tkl_len {e : Nat} : (tkl t k e).length = e - k := by unfold tkl; rw [List.length_map, List.length_range]
theorem tkl_get {e j : Nat} (h : j < (tkl t k e).length) : (tkl t k e)[j] = t (k + j) := by simp [tkl]
theorem lgetD {u : List Nat} {j : Nat} (h : j < u.length) : u.getD j 0 = u[j] := by
  rw [List.getD_eq_getElem?_getD, List.getElem?_eq_getElem h]
  rfl
theorem ev_isToken {fr : Nat} {u : List Nat} (hi : i < 5) (h54 : h_sl.getD i 0 ≤ 54) (h : cR τ w t a k f p) (hka : k ≤ a) (hto : fr + u.length ≤ h_sl.getD i 0) (hu : ∀ j, j < u.length → wch i (fr + j) = nI (u.getD j 0) ∧ u.getD j 0 < 128) : fX6_isToken kT1 1 i (nI fr) (nI (fr + u.length)) τ = some (if tkl t k a = u then 1 else 0, τ) := by
  obtain ⟨⟨h1, h2, h3, h4⟩, ⟨h5, h6, h7⟩, h8, h9, h10, h11⟩ := id h
  unfold fX6_isToken
  rw [gI1 1 6, ob, gI1 1 6, ob, h8, h9, pk_sub (by omega), pk_sub hka]
  by_cases e : u.length = a - k
  · rw [if_pos (by rw [show fr + u.length - fr = a - k by omega]), tok_L hi h54 h hto (by omega) u.length fr 6000 (by omega) (Nat.le_refl _) (by omega)]
    have q : al (fun j => decide (wch i j = sb (t (k + j - fr)))) fr u.length = true ↔ tkl t k a = u := by
      rw [al_iff]
      constructor
      · intro z
        refine List.ext_getElem (by rw [tkl_len, e]) (fun j g1 g2 => ?_)
        obtain ⟨y1, y2⟩ := hu j g2
        have zz := of_decide_eq_true (z (fr + j) (by omega) (by omega))
        rw [y1, show k + (fr + j) - fr = k + j by omega] at zz
        have r := of_decide_eq_true ((sb_inj _ y2 (t (k + j)) (h4 (k + j) (by omega)).2).symm.trans (decide_eq_true zz))
        rw [tkl_get, ← r, lgetD g2]
      · intro z j g1 g2
        obtain ⟨m, rfl⟩ : ∃ m, j = fr + m := ⟨j - fr, by omega⟩
        obtain ⟨y1, y2⟩ := hu m (by omega)
        have r : u.getD m 0 = t (k + m) := by
          have g3 : m < (tkl t k a).length := by rw [tkl_len]; omega
          rw [← z, lgetD g3, tkl_get]
        refine decide_eq_true ?_
        rw [y1, show k + (fr + m) - fr = k + m by omega]
        exact of_decide_eq_true ((sb_inj _ y2 (t (k + m)) (h4 (k + m) (by omega)).2).trans (decide_eq_true r))
    by_cases z : tkl t k a = u
    · rw [if_pos z, if_pos (q.mpr z)]
    · rw [if_neg z, if_neg (fun y => z (q.mp y))]
  · rw [if_neg (neI (by omega) (by omega) (by omega)), if_neg (fun z => e (by rw [← z, tkl_len]))]
    rfl
theorem scan_L {ex : hM → Option (Int32 × hM)} {v2 v3 : Int32} {to : Nat} (hi : i < 5) (h54 : h_sl.getD i 0 ≤ 54) (hto : to < h_sl.getD i 0) : ∀ (d j fuel : Nat), j + d = to → d < fuel → (∀ m, j ≤ m → m < to → ¬ wch i m = 32) → fX6_numberInList_L7 kT1 1 i ex fuel v2 v3 (nI j) τ = fX6_numberInList_L7 kT1 1 i ex (fuel - d) v2 v3 (nI to) τ := by
  intro d
  induction d with
  | zero =>
    intro j fuel hj hf hc
    rw [show j = to by omega, Nat.sub_zero]
  | succ d ih =>
    intro j fuel hj hf hc
    obtain ⟨g, rfl⟩ : ∃ g, fuel = g + 1 := ⟨fuel - 1, by omega⟩
    rw [show fX6_numberInList_L7 kT1 1 i ex (g + 1) v2 v3 (nI j) τ = fX6_numberInList_L7 kT1 1 i ex g v2 v3 (nI (j + 1)) τ from ?_, ih (j + 1) g (by omega) (by omega) (fun m h1 h2 => hc m (by omega) h2), show g + 1 - (d + 1) = g - d by omega]
    have sl : slen i = some (nI (h_sl.getD i 0)) := if_pos hi
    rw [fX6_numberInList_L7, sl, ob, if_neg (nI_ge (by omega) (by omega)), sat_v hi (by omega) h54, ob]
    simp only [iflt, nI_1]
    rw [if_neg (hc j (Nat.le_refl j) (by omega))]
theorem list_L (hi : i < 5) (h54 : h_sl.getD i 0 ≤ 54) (h : cR τ w t a k f p) (hka : k ≤ a) : ∀ (us : List (List Nat)) (pre n fuel : Nat), okW i pre us = true → h_sl.getD i 0 - pre < fuel → fX6_numberInList_L7 kT1 1 i (fun u10 => some ((-1 : Int32), u10)) fuel (nI n) (nI pre) (nI pre) τ = some (wix (tkl t k a) us n, τ) := by
  have sl : slen i = some (nI (h_sl.getD i 0)) := if_pos hi
  intro us
  induction us with
  | nil =>
    intro pre n fuel hok hf
    obtain ⟨g, rfl⟩ : ∃ g, fuel = g + 1 := ⟨fuel - 1, by omega⟩
    have e : pre = h_sl.getD i 0 := of_decide_eq_true hok
    rw [fX6_numberInList_L7, sl, ob, if_pos (nI_le (by omega) (by omega))]
    rfl
  | cons u us ih =>
    intro pre n fuel hok hf
    rw [okW, Bool.and_eq_true, Bool.and_eq_true, Bool.and_eq_true] at hok
    obtain ⟨⟨k1, k2⟩, k3, k4⟩ := hok
    have e1 := of_decide_eq_true k1
    have e3 := of_decide_eq_true k3
    have e2 : ∀ j, j < u.length → wch i (pre + j) = nI (u.getD j 0) ∧ u.getD j 0 < 128 ∧ ¬ wch i (pre + j) = 32 := fun j hj => of_decide_eq_true (List.all_eq_true.mp k2 j (List.mem_range.mpr hj))
    rw [scan_L hi h54 e1 u.length pre fuel (by omega) (by omega) (fun m h1 h2 => by
      have := (e2 (m - pre) (by omega)).2.2
      rwa [show pre + (m - pre) = m by omega] at this)]
    obtain ⟨g, hg⟩ : ∃ g, fuel - u.length = g + 1 := ⟨fuel - u.length - 1, by omega⟩
    rw [hg, fX6_numberInList_L7, sl, ob, if_neg (nI_ge (by omega) (by omega)), sat_v hi (by omega) h54, ob]
    simp only [iflt, nI_1]
    rw [if_pos e3, vC1 1 6, ev_isToken hi h54 h hka (by omega) (fun j hj => ⟨(e2 j hj).1, (e2 j hj).2.1⟩), ob, wix]
    by_cases z : tkl t k a = u
    · rw [ifz1 z, if_pos z, if_pos z]
    · rw [ifz0 z, if_neg z, if_neg z]
      exact ih (pre + u.length + 1) (n + 1) g k4 (by omega)
theorem ev_list (hi : i < 5) (h : cR τ w t a k f p) (hka : k ≤ a) : fX6_numberInList kT1 1 i τ = some (wix (tkl t k a) (wds i) 0, τ) := by
  obtain ⟨k1, k2⟩ := okW_v i hi
  have L := list_L hi k2 h hka (wds i) 0 0 6000 k1 (by omega)
  rw [nI_0] at L
  exact L
theorem ev_readWord0 (hi : i < 5) (h : cR τ w t a k 0 p) : ∃ τ', fX6_readWord kT1 1 i τ = some (wix (tkl t (sk t w a) (rn t w 97 122 (sk t w a))) (wds i) 0, τ') ∧ F1 τ τ' ∧ (wix (tkl t (sk t w a) (rn t w 97 122 (sk t w a))) (wds i) 0 = -1 → cR τ' w t (rn t w 97 122 (sk t w a)) (sk t w a) 1 (nI (sk t w a))) ∧ (wix (tkl t (sk t w a) (rn t w 97 122 (sk t w a))) (wds i) 0 ≠ -1 → cR τ' w t (rn t w 97 122 (sk t w a)) (sk t w a) 0 p) := by
  obtain ⟨τ1, a1, a2, a3⟩ := ev_find h
  obtain ⟨τ2, b1, b2, b3⟩ := ev_step (lo := 97) (hi := 122) (fun v hv => (sb_in v hv).1) a3 (Nat.le_refl _)
  have hk := (rn_in (t := t) (lo := 97) (hi := 122) a3.2.1.1).1
  have c1 := ev_list hi b3 hk
  unfold fX6_readWord
  rw [vC1 1 6, ev_hasFault h, ob, if_pos (show ((if 0 = 0 then (0 : Int32) else 1), τ).1 = 0 from rfl), vC1 1 6, a1, ob, vC1 1 6, show fX6_stepOver kT1 1 97 122 τ1 = _ from b1, ob, vC1 1 6, c1, ob]
  by_cases e : wix (tkl t (sk t w a) (rn t w 97 122 (sk t w a))) (wds i) 0 = -1
  · obtain ⟨τ3, d1, d2, d3⟩ := ev_blame (m := 1) (by decide) b3
    rw [if_pos rfl, if_pos rfl] at d3
    rw [if_pos e, vC1 1 6, show fX6_blame kT1 1 1 τ2 = some τ3 from d1, ob]
    exact ⟨τ3, rfl, (a2.trans b2).trans d2, fun _ => d3, fun q => absurd e q⟩
  · rw [if_neg e]
    exact ⟨τ2, rfl, a2.trans b2, fun q => absurd q e, fun _ => b3⟩
theorem ev_readWordF (hf : f ≠ 0) (h : cR τ w t a k f p) : fX6_readWord kT1 1 i τ = some (-1, τ) := by
  unfold fX6_readWord
  rw [vC1 1 6, ev_hasFault h, ob, if_neg hf, if_neg (show ¬ ((1 : Int32), τ).1 = 0 from (by decide : ¬ (1 : Int32) = 0))]
end WORDS
