theorem loX6_3 : Cond.methodLink RX6 3 objectInit ∈ h_tbl := h_tb 102 (by decide +kernel)
theorem loX1_3 : Cond.methodLink RX1 3 objectInit ∈ h_tbl := h_tb 131 (by decide +kernel)
theorem loX7_3 : Cond.methodLink RX7 3 objectInit ∈ h_tbl := h_tb 152 (by decide +kernel)
theorem loX3_3 : Cond.methodLink RX3 3 objectInit ∈ h_tbl := h_tb 186 (by decide +kernel)
theorem cqX8_84 : Cond.classLink RX8 84 RX3 ∈ h_tbl := h_tb 180 (by decide +kernel)
theorem clX8_84 : Cond.classLink RX8 84 (h_C 3) ∈ h_tbl := h_tb 180 (by decide +kernel)
theorem ib3 : Cond.instantiable (h_C 3) (h_N 3) ∈ h_tbl := h_tb 182 (by decide +kernel)
theorem it3 : Cond.initialized (h_C 3) ∈ h_tbl := h_tb 75 (by decide +kernel)
theorem myX3_init : h_MY yX3_init cX3_init 1 none 0 := ⟨h_tb 185 (by decide +kernel), h_tb 75 (by decide +kernel), by decide +kernel⟩
theorem iiX3_init : Cond.instanceMethod yX3_init ∈ h_tbl := h_tb 184 (by decide +kernel)
theorem nkX8_86 : Cond.methodLinkNest RX8 86 yX3_init RX8 ∈ h_nest := List.mem_filter.mpr ⟨List.mem_of_getElem? (i := 183) (by decide +kernel), rfl⟩
theorem loX4_3 : Cond.methodLink RX4 3 objectInit ∈ h_tbl := h_tb 231 (by decide +kernel)
theorem loX5_3 : Cond.methodLink RX5 3 objectInit ∈ h_tbl := h_tb 225 (by decide +kernel)
theorem clX5_9 : Cond.classLink RX5 9 (h_C 4) ∈ h_tbl := h_tb 226 (by decide +kernel)
theorem ib4 : Cond.instantiable (h_C 4) (h_N 4) ∈ h_tbl := h_tb 227 (by decide +kernel)
theorem it4 : Cond.initialized (h_C 4) ∈ h_tbl := h_tb 77 (by decide +kernel)
theorem myX4_init : h_MY yX4_init cX4_init 1 none 0 := ⟨h_tb 230 (by decide +kernel), h_tb 77 (by decide +kernel), by decide +kernel⟩
theorem iiX4_init : Cond.instanceMethod yX4_init ∈ h_tbl := h_tb 229 (by decide +kernel)
theorem nkX5_11 : Cond.methodLinkNest RX5 11 yX4_init RX8 ∈ h_nest := List.mem_filter.mpr ⟨List.mem_of_getElem? (i := 228) (by decide +kernel), rfl⟩
theorem myX8_newSingers : h_MY yX8_newSingers cX8_newSingers 2 (some (.array (.object "SungSteps$Singer"))) 0 := ⟨h_tb 179 (by decide +kernel), h_tb 71 (by decide +kernel), by decide +kernel⟩
theorem msX8_newSingers : Cond.static yX8_newSingers ∈ h_tbl := h_tb 178 (by decide +kernel)
theorem nkX5_22 : Cond.methodLinkNest RX5 22 yX8_newSingers RX8 ∈ h_nest := List.mem_filter.mpr ⟨List.mem_of_getElem? (i := 245) (by decide +kernel), rfl⟩
theorem flX5_43 : h_FL RX5 43 5 7 := ⟨by decide, h_tb 263 (by decide +kernel)⟩
theorem lkX5_47 : Cond.methodLink RX5 47 yJ7_fill_53178 ∈ h_tbl := h_tb 246 (by decide +kernel)
theorem loX2_3 : Cond.methodLink RX2 3 objectInit ∈ h_tbl := h_tb 288 (by decide +kernel)
theorem cmX2_9 : Cond.classLink RX2 9 "[[J" ∈ h_tbl := h_tb 289 (by decide +kernel)
theorem loX0_3 : Cond.methodLink RX0 3 objectInit ∈ h_tbl := h_tb 311 (by decide +kernel)
theorem loX8_1 : Cond.methodLink RX8 1 objectInit ∈ h_tbl := h_tb 94 (by decide +kernel)
theorem clX8_7 : Cond.classLink RX8 7 (h_C 6) ∈ h_tbl := h_tb 97 (by decide +kernel)
theorem ib6 : Cond.instantiable (h_C 6) (h_N 6) ∈ h_tbl := h_tb 98 (by decide +kernel)
theorem it6 : Cond.initialized (h_C 6) ∈ h_tbl := h_tb 72 (by decide +kernel)
theorem myX6_init : h_MY yX6_init cX6_init 1 none 0 := ⟨h_tb 101 (by decide +kernel), h_tb 72 (by decide +kernel), by decide +kernel⟩
theorem iiX6_init : Cond.instanceMethod yX6_init ∈ h_tbl := h_tb 100 (by decide +kernel)
theorem nkX8_9 : Cond.methodLinkNest RX8 9 yX6_init RX8 ∈ h_nest := List.mem_filter.mpr ⟨List.mem_of_getElem? (i := 99) (by decide +kernel), rfl⟩
theorem clX8_16 : Cond.classLink RX8 16 (h_C 1) ∈ h_tbl := h_tb 126 (by decide +kernel)
theorem ib1 : Cond.instantiable (h_C 1) (h_N 1) ∈ h_tbl := h_tb 127 (by decide +kernel)
theorem it1 : Cond.initialized (h_C 1) ∈ h_tbl := h_tb 73 (by decide +kernel)
theorem myX1_init : h_MY yX1_init cX1_init 1 none 0 := ⟨h_tb 130 (by decide +kernel), h_tb 73 (by decide +kernel), by decide +kernel⟩
theorem iiX1_init : Cond.instanceMethod yX1_init ∈ h_tbl := h_tb 129 (by decide +kernel)
theorem nkX8_18 : Cond.methodLinkNest RX8 18 yX1_init RX8 ∈ h_nest := List.mem_filter.mpr ⟨List.mem_of_getElem? (i := 128) (by decide +kernel), rfl⟩
theorem clX8_26 : Cond.classLink RX8 26 (h_C 7) ∈ h_tbl := h_tb 147 (by decide +kernel)
theorem ib7 : Cond.instantiable (h_C 7) (h_N 7) ∈ h_tbl := h_tb 148 (by decide +kernel)
theorem it7 : Cond.initialized (h_C 7) ∈ h_tbl := h_tb 74 (by decide +kernel)
theorem myX7_init : h_MY yX7_init cX7_init 1 none 0 := ⟨h_tb 151 (by decide +kernel), h_tb 74 (by decide +kernel), by decide +kernel⟩
theorem iiX7_init : Cond.instanceMethod yX7_init ∈ h_tbl := h_tb 150 (by decide +kernel)
theorem nkX8_28 : Cond.methodLinkNest RX8 28 yX7_init RX8 ∈ h_nest := List.mem_filter.mpr ⟨List.mem_of_getElem? (i := 149) (by decide +kernel), rfl⟩
theorem lkX8_36 : Cond.methodLink RX8 36 yX8_newSingers ∈ h_tbl := h_tb 177 (by decide +kernel)
theorem clX8_44 : Cond.classLink RX8 44 (h_C 5) ∈ h_tbl := h_tb 220 (by decide +kernel)
theorem ib5 : Cond.instantiable (h_C 5) (h_N 5) ∈ h_tbl := h_tb 221 (by decide +kernel)
theorem it5 : Cond.initialized (h_C 5) ∈ h_tbl := h_tb 76 (by decide +kernel)
theorem myX5_init : h_MY yX5_init cX5_init 1 none 0 := ⟨h_tb 224 (by decide +kernel), h_tb 76 (by decide +kernel), by decide +kernel⟩
theorem iiX5_init : Cond.instanceMethod yX5_init ∈ h_tbl := h_tb 223 (by decide +kernel)
theorem lkX8_46 : Cond.methodLink RX8 46 yX5_init ∈ h_tbl := h_tb 222 (by decide +kernel)
theorem cqX8_44 : Cond.classLink RX8 44 RX5 ∈ h_tbl := h_tb 220 (by decide +kernel)
theorem clX8_55 : Cond.classLink RX8 55 (h_C 2) ∈ h_tbl := h_tb 283 (by decide +kernel)
theorem ib2 : Cond.instantiable (h_C 2) (h_N 2) ∈ h_tbl := h_tb 284 (by decide +kernel)
theorem it2 : Cond.initialized (h_C 2) ∈ h_tbl := h_tb 79 (by decide +kernel)
theorem myX2_init : h_MY yX2_init cX2_init 1 none 0 := ⟨h_tb 287 (by decide +kernel), h_tb 79 (by decide +kernel), by decide +kernel⟩
theorem iiX2_init : Cond.instanceMethod yX2_init ∈ h_tbl := h_tb 286 (by decide +kernel)
theorem nkX8_57 : Cond.methodLinkNest RX8 57 yX2_init RX8 ∈ h_nest := List.mem_filter.mpr ⟨List.mem_of_getElem? (i := 285) (by decide +kernel), rfl⟩
theorem clX8_62 : Cond.classLink RX8 62 (h_C 0) ∈ h_tbl := h_tb 306 (by decide +kernel)
theorem ib0 : Cond.instantiable (h_C 0) (h_N 0) ∈ h_tbl := h_tb 307 (by decide +kernel)
theorem it0 : Cond.initialized (h_C 0) ∈ h_tbl := h_tb 80 (by decide +kernel)
theorem myX0_init : h_MY yX0_init cX0_init 1 none 0 := ⟨h_tb 310 (by decide +kernel), h_tb 80 (by decide +kernel), by decide +kernel⟩
theorem iiX0_init : Cond.instanceMethod yX0_init ∈ h_tbl := h_tb 309 (by decide +kernel)
theorem nkX8_64 : Cond.methodLinkNest RX8 64 yX0_init RX8 ∈ h_nest := List.mem_filter.mpr ⟨List.mem_of_getElem? (i := 308) (by decide +kernel), rfl⟩
theorem clX8_77 : Cond.classLink RX8 77 (h_C 4) ∈ h_tbl := h_tb 331 (by decide +kernel)
theorem nkX8_79 : Cond.methodLinkNest RX8 79 yX4_init RX8 ∈ h_nest := List.mem_filter.mpr ⟨List.mem_of_getElem? (i := 332) (by decide +kernel), rfl⟩
theorem loX9_1 : Cond.methodLink RX9 1 objectInit ∈ h_tbl := h_tb 967 (by decide +kernel)
