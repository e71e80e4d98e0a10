/-! THE REFERENCE'S WORDS AS NUMBERS -/
theorem cd_plai_ {u : hM} : fX9_code kT2 112 108 97 105 u = some (lN (cdl [112, 108, 97, 105]), u) := congrArg (fun x => some (x, u)) (by decide +kernel)
theorem cl_plain_ : 27 * lN (cdl [112, 108, 97, 105]) + (110 : Int32).toInt64 - 96 = lN (cdl [112, 108, 97, 105, 110]) := by decide +kernel
theorem cd_true_ {u : hM} : fX9_code kT2 116 114 117 101 u = some (lN (cdl [116, 114, 117, 101]), u) := congrArg (fun x => some (x, u)) (by decide +kernel)
theorem cd_drif_ {u : hM} : fX9_code kT2 100 114 105 102 u = some (lN (cdl [100, 114, 105, 102]), u) := congrArg (fun x => some (x, u)) (by decide +kernel)
theorem cl_drift_ : 27 * lN (cdl [100, 114, 105, 102]) + (116 : Int32).toInt64 - 96 = lN (cdl [100, 114, 105, 102, 116]) := by decide +kernel
theorem cl_drifti_ : 27 * lN (cdl [100, 114, 105, 102, 116]) + (105 : Int32).toInt64 - 96 = lN (cdl [100, 114, 105, 102, 116, 105]) := by decide +kernel
theorem cl_driftin_ : 27 * lN (cdl [100, 114, 105, 102, 116, 105]) + (110 : Int32).toInt64 - 96 = lN (cdl [100, 114, 105, 102, 116, 105, 110]) := by decide +kernel
theorem cl_drifting_ : 27 * lN (cdl [100, 114, 105, 102, 116, 105, 110]) + (103 : Int32).toInt64 - 96 = lN (cdl [100, 114, 105, 102, 116, 105, 110, 103]) := by decide +kernel
theorem cd_narr_ {u : hM} : fX9_code kT2 110 97 114 114 u = some (lN (cdl [110, 97, 114, 114]), u) := congrArg (fun x => some (x, u)) (by decide +kernel)
theorem cl_narro_ : 27 * lN (cdl [110, 97, 114, 114]) + (111 : Int32).toInt64 - 96 = lN (cdl [110, 97, 114, 114, 111]) := by decide +kernel
theorem cl_narrow_ : 27 * lN (cdl [110, 97, 114, 114, 111]) + (119 : Int32).toInt64 - 96 = lN (cdl [110, 97, 114, 114, 111, 119]) := by decide +kernel
theorem cd_grow_ {u : hM} : fX9_code kT2 103 114 111 119 u = some (lN (cdl [103, 114, 111, 119]), u) := congrArg (fun x => some (x, u)) (by decide +kernel)
theorem cl_growl_ : 27 * lN (cdl [103, 114, 111, 119]) + (108 : Int32).toInt64 - 96 = lN (cdl [103, 114, 111, 119, 108]) := by decide +kernel
theorem cl_growli_ : 27 * lN (cdl [103, 114, 111, 119, 108]) + (105 : Int32).toInt64 - 96 = lN (cdl [103, 114, 111, 119, 108, 105]) := by decide +kernel
theorem cl_growlin_ : 27 * lN (cdl [103, 114, 111, 119, 108, 105]) + (110 : Int32).toInt64 - 96 = lN (cdl [103, 114, 111, 119, 108, 105, 110]) := by decide +kernel
theorem cl_growling_ : 27 * lN (cdl [103, 114, 111, 119, 108, 105, 110]) + (103 : Int32).toInt64 - 96 = lN (cdl [103, 114, 111, 119, 108, 105, 110, 103]) := by decide +kernel
theorem cd_shor_ {u : hM} : fX9_code kT2 115 104 111 114 u = some (lN (cdl [115, 104, 111, 114]), u) := congrArg (fun x => some (x, u)) (by decide +kernel)
theorem cl_short_ : 27 * lN (cdl [115, 104, 111, 114]) + (116 : Int32).toInt64 - 96 = lN (cdl [115, 104, 111, 114, 116]) := by decide +kernel
theorem cd_deaf_ {u : hM} : fX9_code kT2 100 101 97 102 u = some (lN (cdl [100, 101, 97, 102]), u) := congrArg (fun x => some (x, u)) (by decide +kernel)
theorem cd_hush_ {u : hM} : fX9_code kT2 104 117 115 104 u = some (lN (cdl [104, 117, 115, 104]), u) := congrArg (fun x => some (x, u)) (by decide +kernel)
theorem cl_hushe_ : 27 * lN (cdl [104, 117, 115, 104]) + (101 : Int32).toInt64 - 96 = lN (cdl [104, 117, 115, 104, 101]) := by decide +kernel
theorem cl_hushed_ : 27 * lN (cdl [104, 117, 115, 104, 101]) + (100 : Int32).toInt64 - 96 = lN (cdl [104, 117, 115, 104, 101, 100]) := by decide +kernel
theorem cd_sing_ {u : hM} : fX9_code kT2 115 105 110 103 u = some (lN (cdl [115, 105, 110, 103]), u) := congrArg (fun x => some (x, u)) (by decide +kernel)
theorem cl_singe_ : 27 * lN (cdl [115, 105, 110, 103]) + (101 : Int32).toInt64 - 96 = lN (cdl [115, 105, 110, 103, 101]) := by decide +kernel
theorem cl_singer_ : 27 * lN (cdl [115, 105, 110, 103, 101]) + (114 : Int32).toInt64 - 96 = lN (cdl [115, 105, 110, 103, 101, 114]) := by decide +kernel
theorem cd_task_ {u : hM} : fX9_code kT2 116 97 115 107 u = some (lN (cdl [116, 97, 115, 107]), u) := congrArg (fun x => some (x, u)) (by decide +kernel)
theorem cd_voic_ {u : hM} : fX9_code kT2 118 111 105 99 u = some (lN (cdl [118, 111, 105, 99]), u) := congrArg (fun x => some (x, u)) (by decide +kernel)
theorem cl_voice_ : 27 * lN (cdl [118, 111, 105, 99]) + (101 : Int32).toInt64 - 96 = lN (cdl [118, 111, 105, 99, 101]) := by decide +kernel
theorem cd_memo_ {u : hM} : fX9_code kT2 109 101 109 111 u = some (lN (cdl [109, 101, 109, 111]), u) := congrArg (fun x => some (x, u)) (by decide +kernel)
theorem cl_memor_ : 27 * lN (cdl [109, 101, 109, 111]) + (114 : Int32).toInt64 - 96 = lN (cdl [109, 101, 109, 111, 114]) := by decide +kernel
theorem cl_memory_ : 27 * lN (cdl [109, 101, 109, 111, 114]) + (121 : Int32).toInt64 - 96 = lN (cdl [109, 101, 109, 111, 114, 121]) := by decide +kernel
theorem cd_rang_ {u : hM} : fX9_code kT2 114 97 110 103 u = some (lN (cdl [114, 97, 110, 103]), u) := congrArg (fun x => some (x, u)) (by decide +kernel)
theorem cl_range_ : 27 * lN (cdl [114, 97, 110, 103]) + (101 : Int32).toInt64 - 96 = lN (cdl [114, 97, 110, 103, 101]) := by decide +kernel
section KIND
variable {υ : hM} {t : Nat → Nat} {A E : Nat}
theorem kind_two (hAE : A ≤ E) (hlet : ∀ j, A ≤ j → j < E → 97 ≤ t j ∧ t j ≤ 122) (d6 : υ.2.1 0 16 = lN (cdl (tkl t A E))) {x4 : Int32} : ((gtl kT2 υ 0 9 16).bind fun x6 => (fX9_code kT2 (103 : Int32) (114 : Int32) (111 : Int32) (119 : Int32) υ).bind fun q7 => (fX9_longer kT2 q7.1 (108 : Int32) q7.2).bind fun q8 => (fX9_longer kT2 q8.1 (105 : Int32) q8.2).bind fun q9 => (fX9_longer kT2 q9.1 (110 : Int32) q9.2).bind fun q10 => (fX9_longer kT2 q10.1 (103 : Int32) q10.2).bind fun q11 => lt (fun (x12 : Int32) (u13 : hM) => if x4 < 0 then (some (x12, u13)) else (some (x4, u13))) fun J259 => if x6 = q11.1 then (J259 (4 : Int32) q11.2) else ((gtl kT2 q11.2 0 9 16).bind fun x14 => (fX9_code kT2 (115 : Int32) (104 : Int32) (111 : Int32) (114 : Int32) q11.2).bind fun q15 => (fX9_longer kT2 q15.1 (116 : Int32) q15.2).bind fun q16 => if x14 = q16.1 then (J259 (5 : Int32) q16.2) else ((gtl kT2 q16.2 0 9 16).bind fun x17 => (fX9_code kT2 (100 : Int32) (101 : Int32) (97 : Int32) (102 : Int32) q16.2).bind fun q18 => if x17 = q18.1 then (J259 (6 : Int32) q18.2) else ((gtl kT2 q18.2 0 9 16).bind fun x19 => (fX9_code kT2 (104 : Int32) (117 : Int32) (115 : Int32) (104 : Int32) q18.2).bind fun q20 => (fX9_longer kT2 q20.1 (101 : Int32) q20.2).bind fun q21 => (fX9_longer kT2 q21.1 (100 : Int32) q21.2).bind fun q22 => if x19 = q22.1 then (J259 (7 : Int32) q22.2) else (J259 (-1 : Int32) q22.2))))) = some (if x4 < 0 then (if tkl t A E = [103, 114, 111, 119, 108, 105, 110, 103] then 4 else if tkl t A E = [115, 104, 111, 114, 116] then 5 else if tkl t A E = [100, 101, 97, 102] then 6 else if tkl t A E = [104, 117, 115, 104, 101, 100] then 7 else -1) else x4, υ) := by
  have is_growling : υ.2.1 0 16 = lN (cdl [103, 114, 111, 119, 108, 105, 110, 103]) ↔ tkl t A E = [103, 114, 111, 119, 108, 105, 110, 103] := word_is hAE hlet d6 rfl (by decide) (by decide +kernel)
  have is_short : υ.2.1 0 16 = lN (cdl [115, 104, 111, 114, 116]) ↔ tkl t A E = [115, 104, 111, 114, 116] := word_is hAE hlet d6 rfl (by decide) (by decide +kernel)
  have is_deaf : υ.2.1 0 16 = lN (cdl [100, 101, 97, 102]) ↔ tkl t A E = [100, 101, 97, 102] := word_is hAE hlet d6 rfl (by decide) (by decide +kernel)
  have is_hushed : υ.2.1 0 16 = lN (cdl [104, 117, 115, 104, 101, 100]) ↔ tkl t A E = [104, 117, 115, 104, 101, 100] := word_is hAE hlet d6 rfl (by decide) (by decide +kernel)
  have fin : ∀ v : Int32, (if x4 < 0 then some (v, υ) else some (x4, υ)) = some (if x4 < 0 then v else x4, υ) := fun v => by split <;> rfl
  simp only [iflt]
  rw [gL2, ob, cd_grow_, ob, ev_longer cl_growl_, ob, ev_longer cl_growli_, ob, ev_longer cl_growlin_, ob, ev_longer cl_growling_, ob]
  by_cases h0 : tkl t A E = [103, 114, 111, 119, 108, 105, 110, 103]
  · rw [if_pos (is_growling.mpr h0), fin, if_pos h0]
  · rw [if_neg (fun q => h0 (is_growling.mp q)), gL2, ob, cd_shor_, ob, ev_longer cl_short_, ob]
    by_cases h1 : tkl t A E = [115, 104, 111, 114, 116]
    · rw [if_pos (is_short.mpr h1), fin, if_neg h0, if_pos h1]
    · rw [if_neg (fun q => h1 (is_short.mp q)), gL2, ob, cd_deaf_, ob]
      by_cases h2 : tkl t A E = [100, 101, 97, 102]
      · rw [if_pos (is_deaf.mpr h2), fin, if_neg h0, if_neg h1, if_pos h2]
      · rw [if_neg (fun q => h2 (is_deaf.mp q)), gL2, ob, cd_hush_, ob, ev_longer cl_hushe_, ob, ev_longer cl_hushed_, ob]
        by_cases h3 : tkl t A E = [104, 117, 115, 104, 101, 100]
        · rw [if_pos (is_hushed.mpr h3), fin, if_neg h0, if_neg h1, if_neg h2, if_pos h3]
        · rw [if_neg (fun q => h3 (is_hushed.mp q)), fin, if_neg h0, if_neg h1, if_neg h2, if_neg h3]
theorem kind_one (hAE : A ≤ E) (hlet : ∀ j, A ≤ j → j < E → 97 ≤ t j ∧ t j ≤ 122) (d6 : υ.2.1 0 16 = lN (cdl (tkl t A E))) (J : Int32 → hM → Option (Int32 × hM)) : lt J (fun K => if υ.2.1 0 16 = lN (cdl [112, 108, 97, 105, 110]) then (K (0 : Int32) υ) else ((gtl kT2 υ 0 9 16).bind fun x23 => (fX9_code kT2 (116 : Int32) (114 : Int32) (117 : Int32) (101 : Int32) υ).bind fun q24 => if x23 = q24.1 then (K (1 : Int32) q24.2) else ((gtl kT2 q24.2 0 9 16).bind fun x25 => (fX9_code kT2 (100 : Int32) (114 : Int32) (105 : Int32) (102 : Int32) q24.2).bind fun q26 => (fX9_longer kT2 q26.1 (116 : Int32) q26.2).bind fun q27 => (fX9_longer kT2 q27.1 (105 : Int32) q27.2).bind fun q28 => (fX9_longer kT2 q28.1 (110 : Int32) q28.2).bind fun q29 => (fX9_longer kT2 q29.1 (103 : Int32) q29.2).bind fun q30 => if x25 = q30.1 then (K (2 : Int32) q30.2) else ((gtl kT2 q30.2 0 9 16).bind fun x31 => (fX9_code kT2 (110 : Int32) (97 : Int32) (114 : Int32) (114 : Int32) q30.2).bind fun q32 => (fX9_longer kT2 q32.1 (111 : Int32) q32.2).bind fun q33 => (fX9_longer kT2 q33.1 (119 : Int32) q33.2).bind fun q34 => if x31 = q34.1 then (K (3 : Int32) q34.2) else (K (-1 : Int32) q34.2))))) = J (if tkl t A E = [112, 108, 97, 105, 110] then 0 else if tkl t A E = [116, 114, 117, 101] then 1 else if tkl t A E = [100, 114, 105, 102, 116, 105, 110, 103] then 2 else if tkl t A E = [110, 97, 114, 114, 111, 119] then 3 else -1) υ := by
  have is_plain : υ.2.1 0 16 = lN (cdl [112, 108, 97, 105, 110]) ↔ tkl t A E = [112, 108, 97, 105, 110] := word_is hAE hlet d6 rfl (by decide) (by decide +kernel)
  have is_true : υ.2.1 0 16 = lN (cdl [116, 114, 117, 101]) ↔ tkl t A E = [116, 114, 117, 101] := word_is hAE hlet d6 rfl (by decide) (by decide +kernel)
  have is_drifting : υ.2.1 0 16 = lN (cdl [100, 114, 105, 102, 116, 105, 110, 103]) ↔ tkl t A E = [100, 114, 105, 102, 116, 105, 110, 103] := word_is hAE hlet d6 rfl (by decide) (by decide +kernel)
  have is_narrow : υ.2.1 0 16 = lN (cdl [110, 97, 114, 114, 111, 119]) ↔ tkl t A E = [110, 97, 114, 114, 111, 119] := word_is hAE hlet d6 rfl (by decide) (by decide +kernel)
  simp only [iflt]
  by_cases h0 : tkl t A E = [112, 108, 97, 105, 110]
  · rw [if_pos (is_plain.mpr h0), if_pos h0]
  · rw [if_neg (fun q => h0 (is_plain.mp q)), gL2, ob, cd_true_, ob]
    by_cases h1 : tkl t A E = [116, 114, 117, 101]
    · rw [if_pos (is_true.mpr h1), if_neg h0, if_pos h1]
    · rw [if_neg (fun q => h1 (is_true.mp q)), gL2, ob, cd_drif_, ob, ev_longer cl_drift_, ob, ev_longer cl_drifti_, ob, ev_longer cl_driftin_, ob, ev_longer cl_drifting_, ob]
      by_cases h2 : tkl t A E = [100, 114, 105, 102, 116, 105, 110, 103]
      · rw [if_pos (is_drifting.mpr h2), if_neg h0, if_neg h1, if_pos h2]
      · rw [if_neg (fun q => h2 (is_drifting.mp q)), gL2, ob, cd_narr_, ob, ev_longer cl_narro_, ob, ev_longer cl_narrow_, ob]
        by_cases h3 : tkl t A E = [110, 97, 114, 114, 111, 119]
        · rw [if_pos (is_narrow.mpr h3), if_neg h0, if_neg h1, if_neg h2, if_pos h3]
        · rw [if_neg (fun q => h3 (is_narrow.mp q)), if_neg h0, if_neg h1, if_neg h2, if_neg h3]
theorem ev_kindOf (hAE : A ≤ E) (hlet : ∀ j, A ≤ j → j < E → 97 ≤ t j ∧ t j ≤ 122) (d6 : υ.2.1 0 16 = lN (cdl (tkl t A E))) : fX9_kindOf kT2 0 υ = some (wix (tkl t A E) (wds 2) 0, υ) := by
  unfold fX9_kindOf
  rw [gL2, ob, cd_plai_, ob, ev_longer cl_plain_, ob, kind_one hAE hlet d6, kind_two hAE hlet d6]
  show _ = some (if tkl t A E = [112, 108, 97, 105, 110] then nI 0 else if tkl t A E = [116, 114, 117, 101] then nI 1 else if tkl t A E = [100, 114, 105, 102, 116, 105, 110, 103] then nI 2 else if tkl t A E = [110, 97, 114, 114, 111, 119] then nI 3 else if tkl t A E = [103, 114, 111, 119, 108, 105, 110, 103] then nI 4 else if tkl t A E = [115, 104, 111, 114, 116] then nI 5 else if tkl t A E = [100, 101, 97, 102] then nI 6 else if tkl t A E = [104, 117, 115, 104, 101, 100] then nI 7 else -1, υ)
  by_cases h0 : tkl t A E = [112, 108, 97, 105, 110]
  · simp only [h0]; rfl
  · simp only [if_neg h0]
    by_cases h1 : tkl t A E = [116, 114, 117, 101]
    · simp only [h1]; rfl
    · simp only [if_neg h1]
      by_cases h2 : tkl t A E = [100, 114, 105, 102, 116, 105, 110, 103]
      · simp only [h2]; rfl
      · simp only [if_neg h2]
        by_cases h3 : tkl t A E = [110, 97, 114, 114, 111, 119]
        · simp only [h3]; rfl
        · simp only [if_neg h3]
          rw [if_pos (show (-1 : Int32) < 0 by decide)]
          rfl
end KIND
