theorem aw_byte : Cond.arrayClass .byte ∈ WT := wt_mem 226 (by decide +kernel) rfl
theorem aw_long : Cond.arrayClass .long ∈ WT := wt_mem 227 (by decide +kernel) rfl
theorem aw_int : Cond.arrayClass .int ∈ WT := wt_mem 261 (by decide +kernel) rfl
theorem aw_boolean : Cond.arrayClass .boolean ∈ WT := wt_mem 581 (by decide +kernel) rfl
theorem ml3_3 : Cond.methodLink RX3 3 Lib.objectInit ∈ WT := wt_mem 245 (by decide +kernel) rfl
theorem ml6_3 : Cond.methodLink RX6 3 Lib.objectInit ∈ WT := wt_mem 239 (by decide +kernel) rfl
theorem fl6_19 : Cond.fieldLink RX6 19 RX6 (TX6 3).2.1 (TX6 3).2.2.1 ∈ WT := wt_mem 275 (by decide +kernel) rfl
theorem fl6_31 : Cond.fieldLink RX6 31 RX6 (TX6 8).2.1 (TX6 8).2.2.1 ∈ WT := wt_mem 296 (by decide +kernel) rfl
theorem fl6_34 : Cond.fieldLink RX6 34 RX6 (TX6 9).2.1 (TX6 9).2.2.1 ∈ WT := wt_mem 301 (by decide +kernel) rfl
theorem fl6_43 : Cond.fieldLink RX6 43 RX6 (TX6 13).2.1 (TX6 13).2.2.1 ∈ WT := wt_mem 319 (by decide +kernel) rfl
theorem kl6_50 : Cond.classLink RX6 50 RX3 ∈ WT := wt_mem 240 (by decide +kernel) rfl
theorem ki3 : Cond.instantiable RX3 4 ∈ WT ∧ Cond.initialized RX3 ∈ WT := ⟨wt_mem 241 (by decide +kernel) rfl, wt_mem 114 (by decide +kernel) rfl⟩
theorem df3 : ∀ j, j < 4 → defaultValue (tyX3 j) = vp_V [.null, .null, .int 0, .int 0] j := by decide +kernel
theorem mn6_52 : Cond.methodLinkNest RX6 52 yX3_init RX11 ∈ nestW := nw_mem 137 (by decide +kernel) rfl
theorem okX3_init : mOK yX3_init cX3_init 1 none 0 := ⟨wt_mem 114 (by decide +kernel) rfl, wt_mem 244 (by decide +kernel) rfl, by decide +kernel, by decide +kernel, by decide +kernel⟩
theorem imX3_init : Cond.instanceMethod yX3_init ∈ WT := wt_mem 243 (by decide +kernel) rfl
theorem ml8_3 : Cond.methodLink RX8 3 Lib.objectInit ∈ WT := wt_mem 409 (by decide +kernel) rfl
theorem ml2_3 : Cond.methodLink RX2 3 Lib.objectInit ∈ WT := wt_mem 456 (by decide +kernel) rfl
theorem ml0_3 : Cond.methodLink RX0 3 Lib.objectInit ∈ WT := wt_mem 500 (by decide +kernel) rfl
theorem ml1_7 : Cond.methodLink RX1 7 Lib.objectInit ∈ WT := wt_mem 521 (by decide +kernel) rfl
theorem ml5_3 : Cond.methodLink RX5 3 Lib.objectInit ∈ WT := wt_mem 549 (by decide +kernel) rfl
theorem ml7_3 : Cond.methodLink RX7 3 Lib.objectInit ∈ WT := wt_mem 233 (by decide +kernel) rfl
theorem kl7_9 : Cond.classLink RX7 9 RX6 ∈ WT := wt_mem 234 (by decide +kernel) rfl
theorem ki6 : Cond.instantiable RX6 19 ∈ WT ∧ Cond.initialized RX6 ∈ WT := ⟨wt_mem 235 (by decide +kernel) rfl, wt_mem 113 (by decide +kernel) rfl⟩
theorem df6 : ∀ j, j < 19 → defaultValue (tyX6 j) = vp_V [.int 0, .null, .null, .null, .null, .int 0, .null, .null, .null, .null, .int 0, .null, .null, .null, .int 0, .null, .null, .null, .int 0] j := by decide +kernel
theorem mn7_11 : Cond.methodLinkNest RX7 11 yX6_init RX11 ∈ nestW := nw_mem 131 (by decide +kernel) rfl
theorem okX6_init : mOK yX6_init cX6_init 1 none 0 := ⟨wt_mem 113 (by decide +kernel) rfl, wt_mem 238 (by decide +kernel) rfl, by decide +kernel, by decide +kernel, by decide +kernel⟩
theorem imX6_init : Cond.instanceMethod yX6_init ∈ WT := wt_mem 237 (by decide +kernel) rfl
theorem ml9_5 : Cond.methodLink RX9 5 Lib.objectInit ∈ WT := wt_mem 403 (by decide +kernel) rfl
theorem kl9_11 : Cond.classLink RX9 11 RX8 ∈ WT := wt_mem 404 (by decide +kernel) rfl
theorem ki8 : Cond.instantiable RX8 7 ∈ WT ∧ Cond.initialized RX8 ∈ WT := ⟨wt_mem 405 (by decide +kernel) rfl, wt_mem 116 (by decide +kernel) rfl⟩
theorem df8 : ∀ j, j < 7 → defaultValue (tyX8 j) = vp_V [.null, .null, .null, .null, .int 0, .int 0, .int 0] j := by decide +kernel
theorem mn9_13 : Cond.methodLinkNest RX9 13 yX8_init RX11 ∈ nestW := nw_mem 301 (by decide +kernel) rfl
theorem okX8_init : mOK yX8_init cX8_init 1 none 0 := ⟨wt_mem 116 (by decide +kernel) rfl, wt_mem 408 (by decide +kernel) rfl, by decide +kernel, by decide +kernel, by decide +kernel⟩
theorem imX8_init : Cond.instanceMethod yX8_init ∈ WT := wt_mem 407 (by decide +kernel) rfl
theorem kl9_18 : Cond.classLink RX9 18 RX6 ∈ WT := wt_mem 449 (by decide +kernel) rfl
theorem mn9_20 : Cond.methodLinkNest RX9 20 yX6_init RX11 ∈ nestW := nw_mem 345 (by decide +kernel) rfl
theorem kl9_25 : Cond.classLink RX9 25 RX2 ∈ WT := wt_mem 451 (by decide +kernel) rfl
theorem ki2 : Cond.instantiable RX2 4 ∈ WT ∧ Cond.initialized RX2 ∈ WT := ⟨wt_mem 452 (by decide +kernel) rfl, wt_mem 117 (by decide +kernel) rfl⟩
theorem df2 : ∀ j, j < 4 → defaultValue (tyX2 j) = vp_V [.int 0, .int 0, .int 0, .null] j := by decide +kernel
theorem mn9_27 : Cond.methodLinkNest RX9 27 yX2_init RX11 ∈ nestW := nw_mem 348 (by decide +kernel) rfl
theorem okX2_init : mOK yX2_init cX2_init 1 none 0 := ⟨wt_mem 117 (by decide +kernel) rfl, wt_mem 455 (by decide +kernel) rfl, by decide +kernel, by decide +kernel, by decide +kernel⟩
theorem imX2_init : Cond.instanceMethod yX2_init ∈ WT := wt_mem 454 (by decide +kernel) rfl
theorem ml12_1 : Cond.methodLink RX12 1 Lib.objectInit ∈ WT := wt_mem 1332 (by decide +kernel) rfl
