theorem oiI : Cond.instanceMethod Lib.objectInit ∈ lw_g := lw_gm 133 (by decide +kernel) (by decide +kernel)
theorem oiC : Cond.code Lib.objectInit ⟨#[0xb1]⟩ 1 none ∈ lw_g := lw_gm 134 (by decide +kernel) (by decide +kernel)
theorem kOX10_3 : Cond.methodLink RX10 3 Lib.objectInit ∈ lw_g := lw_gm 132 (by decide +kernel) (by decide +kernel)
theorem kOX6_3 : Cond.methodLink RX6 3 Lib.objectInit ∈ lw_g := lw_gm 140 (by decide +kernel) (by decide +kernel)
theorem kOX0_3 : Cond.methodLink RX0 3 Lib.objectInit ∈ lw_g := lw_gm 156 (by decide +kernel) (by decide +kernel)
theorem kOX5_3 : Cond.methodLink RX5 3 Lib.objectInit ∈ lw_g := lw_gm 162 (by decide +kernel) (by decide +kernel)
theorem kOX3_3 : Cond.methodLink RX3 3 Lib.objectInit ∈ lw_g := lw_gm 278 (by decide +kernel) (by decide +kernel)
theorem kOX7_3 : Cond.methodLink RX7 3 Lib.objectInit ∈ lw_g := lw_gm 284 (by decide +kernel) (by decide +kernel)
theorem kOX2_3 : Cond.methodLink RX2 3 Lib.objectInit ∈ lw_g := lw_gm 411 (by decide +kernel) (by decide +kernel)
theorem kOX1_3 : Cond.methodLink RX1 3 Lib.objectInit ∈ lw_g := lw_gm 441 (by decide +kernel) (by decide +kernel)
theorem kOX4_3 : Cond.methodLink RX4 3 Lib.objectInit ∈ lw_g := lw_gm 492 (by decide +kernel) (by decide +kernel)
theorem kOX9_3 : Cond.methodLink RX9 3 Lib.objectInit ∈ lw_g := lw_gm 498 (by decide +kernel) (by decide +kernel)
theorem kOX8_3 : Cond.methodLink RX8 3 Lib.objectInit ∈ lw_g := lw_gm 599 (by decide +kernel) (by decide +kernel)
theorem kOX11_1 : Cond.methodLink RX11 1 Lib.objectInit ∈ lw_g := lw_gm 1201 (by decide +kernel) (by decide +kernel)
theorem clL_7 : Cond.classLink RL 7 RX10 ∈ lw_g := lw_gm 127 (by decide +kernel) (by decide +kernel)
theorem clX10_9 : Cond.classLink RX10 9 RX6 ∈ lw_g := lw_gm 135 (by decide +kernel) (by decide +kernel)
theorem clX10_16 : Cond.classLink RX10 16 RX0 ∈ lw_g := lw_gm 151 (by decide +kernel) (by decide +kernel)
theorem clX0_9 : Cond.classLink RX0 9 RX5 ∈ lw_g := lw_gm 157 (by decide +kernel) (by decide +kernel)
theorem clX5_19 : Cond.classLink RX5 19 "[[I" ∈ lw_g := lw_gm 163 (by decide +kernel) (by decide +kernel)
theorem clX0_42 : Cond.classLink RX0 42 "[[I" ∈ lw_g := lw_gm 193 (by decide +kernel) (by decide +kernel)
theorem clX10_26 : Cond.classLink RX10 26 RX3 ∈ lw_g := lw_gm 273 (by decide +kernel) (by decide +kernel)
theorem clX3_15 : Cond.classLink RX3 15 RX7 ∈ lw_g := lw_gm 279 (by decide +kernel) (by decide +kernel)
theorem clX10_35 : Cond.classLink RX10 35 RX2 ∈ lw_g := lw_gm 406 (by decide +kernel) (by decide +kernel)
theorem clX2_18 : Cond.classLink RX2 18 "[[I" ∈ lw_g := lw_gm 412 (by decide +kernel) (by decide +kernel)
theorem clX10_42 : Cond.classLink RX10 42 RX1 ∈ lw_g := lw_gm 436 (by decide +kernel) (by decide +kernel)
theorem clX10_49 : Cond.classLink RX10 49 RX4 ∈ lw_g := lw_gm 487 (by decide +kernel) (by decide +kernel)
theorem clX4_19 : Cond.classLink RX4 19 RX9 ∈ lw_g := lw_gm 493 (by decide +kernel) (by decide +kernel)
theorem clX9_15 : Cond.classLink RX9 15 "[[I" ∈ lw_g := lw_gm 499 (by decide +kernel) (by decide +kernel)
theorem clX10_58 : Cond.classLink RX10 58 RX8 ∈ lw_g := lw_gm 594 (by decide +kernel) (by decide +kernel)
theorem clL_10 : Cond.classLink RL 10 RX11 ∈ lw_g := lw_gm 1196 (by decide +kernel) (by decide +kernel)
theorem inX10 : Cond.instantiable RX10 13 ∈ lw_g := lw_gm 128 (by decide +kernel) (by decide +kernel)
theorem iniX10 : Cond.initialized RX10 ∈ lw_g := lw_gm 107 (by decide +kernel) (by decide +kernel)
theorem inX6 : Cond.instantiable RX6 2 ∈ lw_g := lw_gm 136 (by decide +kernel) (by decide +kernel)
theorem iniX6 : Cond.initialized RX6 ∈ lw_g := lw_gm 108 (by decide +kernel) (by decide +kernel)
theorem inX0 : Cond.instantiable RX0 14 ∈ lw_g := lw_gm 152 (by decide +kernel) (by decide +kernel)
theorem iniX0 : Cond.initialized RX0 ∈ lw_g := lw_gm 109 (by decide +kernel) (by decide +kernel)
theorem inX5 : Cond.instantiable RX5 4 ∈ lw_g := lw_gm 158 (by decide +kernel) (by decide +kernel)
theorem iniX5 : Cond.initialized RX5 ∈ lw_g := lw_gm 110 (by decide +kernel) (by decide +kernel)
theorem inX3 : Cond.instantiable RX3 9 ∈ lw_g := lw_gm 274 (by decide +kernel) (by decide +kernel)
theorem iniX3 : Cond.initialized RX3 ∈ lw_g := lw_gm 111 (by decide +kernel) (by decide +kernel)
theorem inX7 : Cond.instantiable RX7 6 ∈ lw_g := lw_gm 280 (by decide +kernel) (by decide +kernel)
theorem iniX7 : Cond.initialized RX7 ∈ lw_g := lw_gm 112 (by decide +kernel) (by decide +kernel)
theorem inX2 : Cond.instantiable RX2 5 ∈ lw_g := lw_gm 407 (by decide +kernel) (by decide +kernel)
theorem iniX2 : Cond.initialized RX2 ∈ lw_g := lw_gm 117 (by decide +kernel) (by decide +kernel)
theorem inX1 : Cond.instantiable RX1 13 ∈ lw_g := lw_gm 437 (by decide +kernel) (by decide +kernel)
theorem iniX1 : Cond.initialized RX1 ∈ lw_g := lw_gm 118 (by decide +kernel) (by decide +kernel)
theorem inX4 : Cond.instantiable RX4 18 ∈ lw_g := lw_gm 488 (by decide +kernel) (by decide +kernel)
theorem iniX4 : Cond.initialized RX4 ∈ lw_g := lw_gm 119 (by decide +kernel) (by decide +kernel)
theorem inX9 : Cond.instantiable RX9 10 ∈ lw_g := lw_gm 494 (by decide +kernel) (by decide +kernel)
theorem iniX9 : Cond.initialized RX9 ∈ lw_g := lw_gm 120 (by decide +kernel) (by decide +kernel)
theorem inX8 : Cond.instantiable RX8 5 ∈ lw_g := lw_gm 595 (by decide +kernel) (by decide +kernel)
theorem iniX8 : Cond.initialized RX8 ∈ lw_g := lw_gm 121 (by decide +kernel) (by decide +kernel)
theorem inX11 : Cond.instantiable RX11 87 ∈ lw_g := lw_gm 1197 (by decide +kernel) (by decide +kernel)
theorem iniX11 : Cond.initialized RX11 ∈ lw_g := lw_gm 123 (by decide +kernel) (by decide +kernel)
theorem arr12 : Cond.arrayClass .byte ∈ lw_g := lw_gm 150 (by decide +kernel) (by decide +kernel)
theorem arr13 : Cond.arrayClass .int ∈ lw_g := lw_gm 192 (by decide +kernel) (by decide +kernel)
theorem arr14 : Cond.arrayClass .long ∈ lw_g := lw_gm 191 (by decide +kernel) (by decide +kernel)
theorem arr15 : Cond.arrayClass .boolean ∈ lw_g := lw_gm 1465 (by decide +kernel) (by decide +kernel)
theorem dfX0 : ∀ j, j < 14 → defaultValue (tyX0 j) = (if tg 0 j = 0 then .int 0 else if tg 0 j = 1 then .long 0 else .null) := by
  intro j hj
  exact match j, hj with
  | 0, _ => rfl
  | 1, _ => rfl
  | 2, _ => rfl
  | 3, _ => rfl
  | 4, _ => rfl
  | 5, _ => rfl
  | 6, _ => rfl
  | 7, _ => rfl
  | 8, _ => rfl
  | 9, _ => rfl
  | 10, _ => rfl
  | 11, _ => rfl
  | 12, _ => rfl
  | 13, _ => rfl
  | j + 14, hj => absurd hj (by omega)
theorem ffX0_0 : Ff RX0 0 0 (.object "DyeLamps$Shelf") := ⟨(RX0, TX0, 14), tyX0, rfl, tyX0_ok, nmX0, rfl, tyX0_ok 0 (by decide), rfl⟩
theorem ffX0_1 : Ff RX0 0 1 (.object "DyeLamps$Shelf") := ⟨(RX0, TX0, 14), tyX0, rfl, tyX0_ok, nmX0, rfl, tyX0_ok 1 (by decide), rfl⟩
theorem ffX0_2 : Ff RX0 0 2 (.object "DyeLamps$Shelf") := ⟨(RX0, TX0, 14), tyX0, rfl, tyX0_ok, nmX0, rfl, tyX0_ok 2 (by decide), rfl⟩
theorem ffX0_3 : Ff RX0 0 3 (.object "DyeLamps$Shelf") := ⟨(RX0, TX0, 14), tyX0, rfl, tyX0_ok, nmX0, rfl, tyX0_ok 3 (by decide), rfl⟩
theorem ffX0_4 : Ff RX0 0 4 (.object "DyeLamps$Shelf") := ⟨(RX0, TX0, 14), tyX0, rfl, tyX0_ok, nmX0, rfl, tyX0_ok 4 (by decide), rfl⟩
theorem ffX0_5 : Ff RX0 0 5 (.array .int) := ⟨(RX0, TX0, 14), tyX0, rfl, tyX0_ok, nmX0, rfl, tyX0_ok 5 (by decide), rfl⟩
theorem ffX0_6 : Ff RX0 0 6 (.array .int) := ⟨(RX0, TX0, 14), tyX0, rfl, tyX0_ok, nmX0, rfl, tyX0_ok 6 (by decide), rfl⟩
theorem ffX0_7 : Ff RX0 0 7 (.array .int) := ⟨(RX0, TX0, 14), tyX0, rfl, tyX0_ok, nmX0, rfl, tyX0_ok 7 (by decide), rfl⟩
theorem ffX0_8 : Ff RX0 0 8 (.array (.array .int)) := ⟨(RX0, TX0, 14), tyX0, rfl, tyX0_ok, nmX0, rfl, tyX0_ok 8 (by decide), rfl⟩
theorem dfX1 : ∀ j, j < 13 → defaultValue (tyX1 j) = (if tg 1 j = 0 then .int 0 else if tg 1 j = 1 then .long 0 else .null) := by
  intro j hj
  exact match j, hj with
  | 0, _ => rfl
  | 1, _ => rfl
  | 2, _ => rfl
  | 3, _ => rfl
  | 4, _ => rfl
  | 5, _ => rfl
  | 6, _ => rfl
  | 7, _ => rfl
  | 8, _ => rfl
  | 9, _ => rfl
  | 10, _ => rfl
  | 11, _ => rfl
  | 12, _ => rfl
  | j + 13, hj => absurd hj (by omega)
theorem ffX1_0 : Ff RX1 1 0 (.array .int) := ⟨(RX1, TX1, 13), tyX1, rfl, tyX1_ok, nmX1, rfl, tyX1_ok 0 (by decide), rfl⟩
theorem ffX1_1 : Ff RX1 1 1 (.array .int) := ⟨(RX1, TX1, 13), tyX1, rfl, tyX1_ok, nmX1, rfl, tyX1_ok 1 (by decide), rfl⟩
theorem ffX1_2 : Ff RX1 1 2 (.array .int) := ⟨(RX1, TX1, 13), tyX1, rfl, tyX1_ok, nmX1, rfl, tyX1_ok 2 (by decide), rfl⟩
theorem ffX1_3 : Ff RX1 1 3 (.array .int) := ⟨(RX1, TX1, 13), tyX1, rfl, tyX1_ok, nmX1, rfl, tyX1_ok 3 (by decide), rfl⟩
theorem ffX1_4 : Ff RX1 1 4 (.array .int) := ⟨(RX1, TX1, 13), tyX1, rfl, tyX1_ok, nmX1, rfl, tyX1_ok 4 (by decide), rfl⟩
theorem ffX1_5 : Ff RX1 1 5 (.array .int) := ⟨(RX1, TX1, 13), tyX1, rfl, tyX1_ok, nmX1, rfl, tyX1_ok 5 (by decide), rfl⟩
theorem ffX1_6 : Ff RX1 1 6 (.array .long) := ⟨(RX1, TX1, 13), tyX1, rfl, tyX1_ok, nmX1, rfl, tyX1_ok 6 (by decide), rfl⟩
theorem ffX1_7 : Ff RX1 1 7 (.array .int) := ⟨(RX1, TX1, 13), tyX1, rfl, tyX1_ok, nmX1, rfl, tyX1_ok 7 (by decide), rfl⟩
theorem dfX2 : ∀ j, j < 5 → defaultValue (tyX2 j) = (if tg 2 j = 0 then .int 0 else if tg 2 j = 1 then .long 0 else .null) := by
  intro j hj
  exact match j, hj with
  | 0, _ => rfl
  | 1, _ => rfl
  | 2, _ => rfl
  | 3, _ => rfl
  | 4, _ => rfl
  | j + 5, hj => absurd hj (by omega)
theorem ffX2_0 : Ff RX2 2 0 (.array .int) := ⟨(RX2, TX2, 5), tyX2, rfl, tyX2_ok, nmX2, rfl, tyX2_ok 0 (by decide), rfl⟩
theorem ffX2_1 : Ff RX2 2 1 (.array .int) := ⟨(RX2, TX2, 5), tyX2, rfl, tyX2_ok, nmX2, rfl, tyX2_ok 1 (by decide), rfl⟩
theorem ffX2_2 : Ff RX2 2 2 (.array (.array .int)) := ⟨(RX2, TX2, 5), tyX2, rfl, tyX2_ok, nmX2, rfl, tyX2_ok 2 (by decide), rfl⟩
theorem ffX2_3 : Ff RX2 2 3 (.array .int) := ⟨(RX2, TX2, 5), tyX2, rfl, tyX2_ok, nmX2, rfl, tyX2_ok 3 (by decide), rfl⟩
theorem dfX3 : ∀ j, j < 9 → defaultValue (tyX3 j) = (if tg 3 j = 0 then .int 0 else if tg 3 j = 1 then .long 0 else .null) := by
  intro j hj
  exact match j, hj with
  | 0, _ => rfl
  | 1, _ => rfl
  | 2, _ => rfl
  | 3, _ => rfl
  | 4, _ => rfl
  | 5, _ => rfl
  | 6, _ => rfl
  | 7, _ => rfl
  | 8, _ => rfl
  | j + 9, hj => absurd hj (by omega)
theorem ffX3_0 : Ff RX3 3 0 (.object "DyeLamps$Tokens") := ⟨(RX3, TX3, 9), tyX3, rfl, tyX3_ok, nmX3, rfl, tyX3_ok 0 (by decide), rfl⟩
theorem dfX4 : ∀ j, j < 18 → defaultValue (tyX4 j) = (if tg 4 j = 0 then .int 0 else if tg 4 j = 1 then .long 0 else .null) := by
  intro j hj
  exact match j, hj with
  | 0, _ => rfl
  | 1, _ => rfl
  | 2, _ => rfl
  | 3, _ => rfl
  | 4, _ => rfl
  | 5, _ => rfl
  | 6, _ => rfl
  | 7, _ => rfl
  | 8, _ => rfl
  | 9, _ => rfl
  | 10, _ => rfl
  | 11, _ => rfl
  | 12, _ => rfl
  | 13, _ => rfl
  | 14, _ => rfl
  | 15, _ => rfl
  | 16, _ => rfl
  | 17, _ => rfl
  | j + 18, hj => absurd hj (by omega)
theorem ffX4_1 : Ff RX4 4 1 (.object "DyeLamps$Olds") := ⟨(RX4, TX4, 18), tyX4, rfl, tyX4_ok, nmX4, rfl, tyX4_ok 1 (by decide), rfl⟩
theorem ffX4_2 : Ff RX4 4 2 (.object "DyeLamps$Walk") := ⟨(RX4, TX4, 18), tyX4, rfl, tyX4_ok, nmX4, rfl, tyX4_ok 2 (by decide), rfl⟩
theorem ffX4_9 : Ff RX4 4 9 (.array .long) := ⟨(RX4, TX4, 18), tyX4, rfl, tyX4_ok, nmX4, rfl, tyX4_ok 9 (by decide), rfl⟩
theorem ffX4_10 : Ff RX4 4 10 (.array .long) := ⟨(RX4, TX4, 18), tyX4, rfl, tyX4_ok, nmX4, rfl, tyX4_ok 10 (by decide), rfl⟩
theorem ffX4_11 : Ff RX4 4 11 (.array .long) := ⟨(RX4, TX4, 18), tyX4, rfl, tyX4_ok, nmX4, rfl, tyX4_ok 11 (by decide), rfl⟩
theorem ffX4_16 : Ff RX4 4 16 (.array .int) := ⟨(RX4, TX4, 18), tyX4, rfl, tyX4_ok, nmX4, rfl, tyX4_ok 16 (by decide), rfl⟩
theorem dfX5 : ∀ j, j < 4 → defaultValue (tyX5 j) = (if tg 5 j = 0 then .int 0 else if tg 5 j = 1 then .long 0 else .null) := by
  intro j hj
  exact match j, hj with
  | 0, _ => rfl
  | 1, _ => rfl
  | 2, _ => rfl
  | 3, _ => rfl
  | j + 4, hj => absurd hj (by omega)
theorem ffX5_0 : Ff RX5 5 0 (.int) := ⟨(RX5, TX5, 4), tyX5, rfl, tyX5_ok, nmX5, rfl, tyX5_ok 0 (by decide), rfl⟩
theorem ffX5_1 : Ff RX5 5 1 (.array .long) := ⟨(RX5, TX5, 4), tyX5, rfl, tyX5_ok, nmX5, rfl, tyX5_ok 1 (by decide), rfl⟩
theorem ffX5_2 : Ff RX5 5 2 (.array (.array .int)) := ⟨(RX5, TX5, 4), tyX5, rfl, tyX5_ok, nmX5, rfl, tyX5_ok 2 (by decide), rfl⟩
theorem dfX6 : ∀ j, j < 2 → defaultValue (tyX6 j) = (if tg 6 j = 0 then .int 0 else if tg 6 j = 1 then .long 0 else .null) := by
  intro j hj
  exact match j, hj with
  | 0, _ => rfl
  | 1, _ => rfl
  | j + 2, hj => absurd hj (by omega)
theorem ffX6_0 : Ff RX6 6 0 (.array .byte) := ⟨(RX6, TX6, 2), tyX6, rfl, tyX6_ok, nmX6, rfl, tyX6_ok 0 (by decide), rfl⟩
theorem dfX7 : ∀ j, j < 6 → defaultValue (tyX7 j) = (if tg 7 j = 0 then .int 0 else if tg 7 j = 1 then .long 0 else .null) := by
  intro j hj
  exact match j, hj with
  | 0, _ => rfl
  | 1, _ => rfl
  | 2, _ => rfl
  | 3, _ => rfl
  | 4, _ => rfl
  | 5, _ => rfl
  | j + 6, hj => absurd hj (by omega)
theorem ffX7_0 : Ff RX7 7 0 (.array .long) := ⟨(RX7, TX7, 6), tyX7, rfl, tyX7_ok, nmX7, rfl, tyX7_ok 0 (by decide), rfl⟩
theorem ffX7_1 : Ff RX7 7 1 (.array .int) := ⟨(RX7, TX7, 6), tyX7, rfl, tyX7_ok, nmX7, rfl, tyX7_ok 1 (by decide), rfl⟩
theorem ffX7_2 : Ff RX7 7 2 (.array .int) := ⟨(RX7, TX7, 6), tyX7, rfl, tyX7_ok, nmX7, rfl, tyX7_ok 2 (by decide), rfl⟩
theorem ffX7_3 : Ff RX7 7 3 (.array .long) := ⟨(RX7, TX7, 6), tyX7, rfl, tyX7_ok, nmX7, rfl, tyX7_ok 3 (by decide), rfl⟩
theorem dfX8 : ∀ j, j < 5 → defaultValue (tyX8 j) = (if tg 8 j = 0 then .int 0 else if tg 8 j = 1 then .long 0 else .null) := by
  intro j hj
  exact match j, hj with
  | 0, _ => rfl
  | 1, _ => rfl
  | 2, _ => rfl
  | 3, _ => rfl
  | 4, _ => rfl
  | j + 5, hj => absurd hj (by omega)
theorem ffX8_0 : Ff RX8 8 0 (.array .int) := ⟨(RX8, TX8, 5), tyX8, rfl, tyX8_ok, nmX8, rfl, tyX8_ok 0 (by decide), rfl⟩
theorem dfX9 : ∀ j, j < 10 → defaultValue (tyX9 j) = (if tg 9 j = 0 then .int 0 else if tg 9 j = 1 then .long 0 else .null) := by
  intro j hj
  exact match j, hj with
  | 0, _ => rfl
  | 1, _ => rfl
  | 2, _ => rfl
  | 3, _ => rfl
  | 4, _ => rfl
  | 5, _ => rfl
  | 6, _ => rfl
  | 7, _ => rfl
  | 8, _ => rfl
  | 9, _ => rfl
  | j + 10, hj => absurd hj (by omega)
theorem ffX9_0 : Ff RX9 9 0 (.array (.array .int)) := ⟨(RX9, TX9, 10), tyX9, rfl, tyX9_ok, nmX9, rfl, tyX9_ok 0 (by decide), rfl⟩
theorem ffX9_1 : Ff RX9 9 1 (.array .int) := ⟨(RX9, TX9, 10), tyX9, rfl, tyX9_ok, nmX9, rfl, tyX9_ok 1 (by decide), rfl⟩
theorem ffX9_7 : Ff RX9 9 7 (.array .int) := ⟨(RX9, TX9, 10), tyX9, rfl, tyX9_ok, nmX9, rfl, tyX9_ok 7 (by decide), rfl⟩
theorem dfX10 : ∀ j, j < 13 → defaultValue (tyX10 j) = (if tg 10 j = 0 then .int 0 else if tg 10 j = 1 then .long 0 else .null) := by
  intro j hj
  exact match j, hj with
  | 0, _ => rfl
  | 1, _ => rfl
  | 2, _ => rfl
  | 3, _ => rfl
  | 4, _ => rfl
  | 5, _ => rfl
  | 6, _ => rfl
  | 7, _ => rfl
  | 8, _ => rfl
  | 9, _ => rfl
  | 10, _ => rfl
  | 11, _ => rfl
  | 12, _ => rfl
  | j + 13, hj => absurd hj (by omega)
theorem ffX10_0 : Ff RX10 10 0 (.object "DyeLamps$Tape") := ⟨(RX10, TX10, 13), tyX10, rfl, tyX10_ok, nmX10, rfl, tyX10_ok 0 (by decide), rfl⟩
theorem ffX10_1 : Ff RX10 10 1 (.object "DyeLamps$Parser") := ⟨(RX10, TX10, 13), tyX10, rfl, tyX10_ok, nmX10, rfl, tyX10_ok 1 (by decide), rfl⟩
theorem ffX10_4 : Ff RX10 10 4 (.object "DyeLamps$Olds") := ⟨(RX10, TX10, 13), tyX10, rfl, tyX10_ok, nmX10, rfl, tyX10_ok 4 (by decide), rfl⟩
theorem ffX10_5 : Ff RX10 10 5 (.object "DyeLamps$Looks") := ⟨(RX10, TX10, 13), tyX10, rfl, tyX10_ok, nmX10, rfl, tyX10_ok 5 (by decide), rfl⟩
theorem ffX10_6 : Ff RX10 10 6 (.object "DyeLamps$Search") := ⟨(RX10, TX10, 13), tyX10, rfl, tyX10_ok, nmX10, rfl, tyX10_ok 6 (by decide), rfl⟩
theorem ffX10_7 : Ff RX10 10 7 (.object "DyeLamps$Vat") := ⟨(RX10, TX10, 13), tyX10, rfl, tyX10_ok, nmX10, rfl, tyX10_ok 7 (by decide), rfl⟩
theorem ffX10_8 : Ff RX10 10 8 (.array (.object "DyeLamps$Vat")) := ⟨(RX10, TX10, 13), tyX10, rfl, tyX10_ok, nmX10, rfl, tyX10_ok 8 (by decide), rfl⟩
theorem ffX10_9 : Ff RX10 10 9 (.array .int) := ⟨(RX10, TX10, 13), tyX10, rfl, tyX10_ok, nmX10, rfl, tyX10_ok 9 (by decide), rfl⟩
theorem ffX10_10 : Ff RX10 10 10 (.array .int) := ⟨(RX10, TX10, 13), tyX10, rfl, tyX10_ok, nmX10, rfl, tyX10_ok 10 (by decide), rfl⟩
theorem dfX11 : ∀ j, j < 87 → defaultValue (tyX11 j) = (if tg 11 j = 0 then .int 0 else if tg 11 j = 1 then .long 0 else .null) := by
  intro j hj
  exact match j, hj with
  | 0, _ => rfl
  | 1, _ => rfl
  | 2, _ => rfl
  | 3, _ => rfl
  | 4, _ => rfl
  | 5, _ => rfl
  | 6, _ => rfl
  | 7, _ => rfl
  | 8, _ => rfl
  | 9, _ => rfl
  | 10, _ => rfl
  | 11, _ => rfl
  | 12, _ => rfl
  | 13, _ => rfl
  | 14, _ => rfl
  | 15, _ => rfl
  | 16, _ => rfl
  | 17, _ => rfl
  | 18, _ => rfl
  | 19, _ => rfl
  | 20, _ => rfl
  | 21, _ => rfl
  | 22, _ => rfl
  | 23, _ => rfl
  | 24, _ => rfl
  | 25, _ => rfl
  | 26, _ => rfl
  | 27, _ => rfl
  | 28, _ => rfl
  | 29, _ => rfl
  | 30, _ => rfl
  | 31, _ => rfl
  | 32, _ => rfl
  | 33, _ => rfl
  | 34, _ => rfl
  | 35, _ => rfl
  | 36, _ => rfl
  | 37, _ => rfl
  | 38, _ => rfl
  | 39, _ => rfl
  | 40, _ => rfl
  | 41, _ => rfl
  | 42, _ => rfl
  | 43, _ => rfl
  | 44, _ => rfl
  | 45, _ => rfl
  | 46, _ => rfl
  | 47, _ => rfl
  | 48, _ => rfl
  | 49, _ => rfl
  | 50, _ => rfl
  | 51, _ => rfl
  | 52, _ => rfl
  | 53, _ => rfl
  | 54, _ => rfl
  | 55, _ => rfl
  | 56, _ => rfl
  | 57, _ => rfl
  | 58, _ => rfl
  | 59, _ => rfl
  | 60, _ => rfl
  | 61, _ => rfl
  | 62, _ => rfl
  | 63, _ => rfl
  | 64, _ => rfl
  | 65, _ => rfl
  | 66, _ => rfl
  | 67, _ => rfl
  | 68, _ => rfl
  | 69, _ => rfl
  | 70, _ => rfl
  | 71, _ => rfl
  | 72, _ => rfl
  | 73, _ => rfl
  | 74, _ => rfl
  | 75, _ => rfl
  | 76, _ => rfl
  | 77, _ => rfl
  | 78, _ => rfl
  | 79, _ => rfl
  | 80, _ => rfl
  | 81, _ => rfl
  | 82, _ => rfl
  | 83, _ => rfl
  | 84, _ => rfl
  | 85, _ => rfl
  | 86, _ => rfl
  | j + 87, hj => absurd hj (by omega)
theorem ffX11_0 : Ff RX11 11 0 (.array .int) := ⟨(RX11, TX11, 87), tyX11, rfl, tyX11_ok, nmX11, rfl, tyX11_ok 0 (by decide), rfl⟩
theorem ffX11_10 : Ff RX11 11 10 (.array .long) := ⟨(RX11, TX11, 87), tyX11, rfl, tyX11_ok, nmX11, rfl, tyX11_ok 10 (by decide), rfl⟩
theorem ffX11_11 : Ff RX11 11 11 (.array .int) := ⟨(RX11, TX11, 87), tyX11, rfl, tyX11_ok, nmX11, rfl, tyX11_ok 11 (by decide), rfl⟩
theorem ffX11_12 : Ff RX11 11 12 (.array .int) := ⟨(RX11, TX11, 87), tyX11, rfl, tyX11_ok, nmX11, rfl, tyX11_ok 12 (by decide), rfl⟩
theorem ffX11_13 : Ff RX11 11 13 (.array .int) := ⟨(RX11, TX11, 87), tyX11, rfl, tyX11_ok, nmX11, rfl, tyX11_ok 13 (by decide), rfl⟩
theorem ffX11_14 : Ff RX11 11 14 (.array .int) := ⟨(RX11, TX11, 87), tyX11, rfl, tyX11_ok, nmX11, rfl, tyX11_ok 14 (by decide), rfl⟩
theorem ffX11_15 : Ff RX11 11 15 (.array .int) := ⟨(RX11, TX11, 87), tyX11, rfl, tyX11_ok, nmX11, rfl, tyX11_ok 15 (by decide), rfl⟩
theorem ffX11_16 : Ff RX11 11 16 (.array .int) := ⟨(RX11, TX11, 87), tyX11, rfl, tyX11_ok, nmX11, rfl, tyX11_ok 16 (by decide), rfl⟩
theorem ffX11_17 : Ff RX11 11 17 (.array .int) := ⟨(RX11, TX11, 87), tyX11, rfl, tyX11_ok, nmX11, rfl, tyX11_ok 17 (by decide), rfl⟩
theorem ffX11_18 : Ff RX11 11 18 (.array .int) := ⟨(RX11, TX11, 87), tyX11, rfl, tyX11_ok, nmX11, rfl, tyX11_ok 18 (by decide), rfl⟩
theorem ffX11_19 : Ff RX11 11 19 (.array .int) := ⟨(RX11, TX11, 87), tyX11, rfl, tyX11_ok, nmX11, rfl, tyX11_ok 19 (by decide), rfl⟩
theorem ffX11_20 : Ff RX11 11 20 (.array .int) := ⟨(RX11, TX11, 87), tyX11, rfl, tyX11_ok, nmX11, rfl, tyX11_ok 20 (by decide), rfl⟩
theorem ffX11_21 : Ff RX11 11 21 (.array .int) := ⟨(RX11, TX11, 87), tyX11, rfl, tyX11_ok, nmX11, rfl, tyX11_ok 21 (by decide), rfl⟩
theorem ffX11_22 : Ff RX11 11 22 (.array .int) := ⟨(RX11, TX11, 87), tyX11, rfl, tyX11_ok, nmX11, rfl, tyX11_ok 22 (by decide), rfl⟩
theorem ffX11_23 : Ff RX11 11 23 (.array .int) := ⟨(RX11, TX11, 87), tyX11, rfl, tyX11_ok, nmX11, rfl, tyX11_ok 23 (by decide), rfl⟩
theorem ffX11_24 : Ff RX11 11 24 (.array .int) := ⟨(RX11, TX11, 87), tyX11, rfl, tyX11_ok, nmX11, rfl, tyX11_ok 24 (by decide), rfl⟩
theorem ffX11_25 : Ff RX11 11 25 (.array .int) := ⟨(RX11, TX11, 87), tyX11, rfl, tyX11_ok, nmX11, rfl, tyX11_ok 25 (by decide), rfl⟩
theorem ffX11_26 : Ff RX11 11 26 (.array .int) := ⟨(RX11, TX11, 87), tyX11, rfl, tyX11_ok, nmX11, rfl, tyX11_ok 26 (by decide), rfl⟩
theorem ffX11_27 : Ff RX11 11 27 (.array .int) := ⟨(RX11, TX11, 87), tyX11, rfl, tyX11_ok, nmX11, rfl, tyX11_ok 27 (by decide), rfl⟩
theorem ffX11_28 : Ff RX11 11 28 (.array .int) := ⟨(RX11, TX11, 87), tyX11, rfl, tyX11_ok, nmX11, rfl, tyX11_ok 28 (by decide), rfl⟩
theorem ffX11_43 : Ff RX11 11 43 (.array .int) := ⟨(RX11, TX11, 87), tyX11, rfl, tyX11_ok, nmX11, rfl, tyX11_ok 43 (by decide), rfl⟩
theorem ffX11_44 : Ff RX11 11 44 (.array .int) := ⟨(RX11, TX11, 87), tyX11, rfl, tyX11_ok, nmX11, rfl, tyX11_ok 44 (by decide), rfl⟩
theorem ffX11_45 : Ff RX11 11 45 (.array .long) := ⟨(RX11, TX11, 87), tyX11, rfl, tyX11_ok, nmX11, rfl, tyX11_ok 45 (by decide), rfl⟩
theorem ffX11_51 : Ff RX11 11 51 (.array .int) := ⟨(RX11, TX11, 87), tyX11, rfl, tyX11_ok, nmX11, rfl, tyX11_ok 51 (by decide), rfl⟩
theorem ffX11_55 : Ff RX11 11 55 (.array .long) := ⟨(RX11, TX11, 87), tyX11, rfl, tyX11_ok, nmX11, rfl, tyX11_ok 55 (by decide), rfl⟩
theorem ffX11_56 : Ff RX11 11 56 (.array .int) := ⟨(RX11, TX11, 87), tyX11, rfl, tyX11_ok, nmX11, rfl, tyX11_ok 56 (by decide), rfl⟩
theorem ffX11_57 : Ff RX11 11 57 (.array .int) := ⟨(RX11, TX11, 87), tyX11, rfl, tyX11_ok, nmX11, rfl, tyX11_ok 57 (by decide), rfl⟩
theorem ffX11_60 : Ff RX11 11 60 (.array .long) := ⟨(RX11, TX11, 87), tyX11, rfl, tyX11_ok, nmX11, rfl, tyX11_ok 60 (by decide), rfl⟩
theorem ffX11_61 : Ff RX11 11 61 (.array .int) := ⟨(RX11, TX11, 87), tyX11, rfl, tyX11_ok, nmX11, rfl, tyX11_ok 61 (by decide), rfl⟩
theorem ffX11_62 : Ff RX11 11 62 (.array .int) := ⟨(RX11, TX11, 87), tyX11, rfl, tyX11_ok, nmX11, rfl, tyX11_ok 62 (by decide), rfl⟩
theorem ffX11_64 : Ff RX11 11 64 (.array .int) := ⟨(RX11, TX11, 87), tyX11, rfl, tyX11_ok, nmX11, rfl, tyX11_ok 64 (by decide), rfl⟩
theorem ffX11_68 : Ff RX11 11 68 (.array .int) := ⟨(RX11, TX11, 87), tyX11, rfl, tyX11_ok, nmX11, rfl, tyX11_ok 68 (by decide), rfl⟩
theorem ffX11_69 : Ff RX11 11 69 (.array .int) := ⟨(RX11, TX11, 87), tyX11, rfl, tyX11_ok, nmX11, rfl, tyX11_ok 69 (by decide), rfl⟩
theorem ffX11_71 : Ff RX11 11 71 (.array .int) := ⟨(RX11, TX11, 87), tyX11, rfl, tyX11_ok, nmX11, rfl, tyX11_ok 71 (by decide), rfl⟩
theorem ffX11_72 : Ff RX11 11 72 (.array .int) := ⟨(RX11, TX11, 87), tyX11, rfl, tyX11_ok, nmX11, rfl, tyX11_ok 72 (by decide), rfl⟩
theorem ffX11_73 : Ff RX11 11 73 (.array .int) := ⟨(RX11, TX11, 87), tyX11, rfl, tyX11_ok, nmX11, rfl, tyX11_ok 73 (by decide), rfl⟩
theorem ffX11_74 : Ff RX11 11 74 (.array .int) := ⟨(RX11, TX11, 87), tyX11, rfl, tyX11_ok, nmX11, rfl, tyX11_ok 74 (by decide), rfl⟩
theorem ffX11_75 : Ff RX11 11 75 (.array .int) := ⟨(RX11, TX11, 87), tyX11, rfl, tyX11_ok, nmX11, rfl, tyX11_ok 75 (by decide), rfl⟩
theorem ffX11_76 : Ff RX11 11 76 (.array .int) := ⟨(RX11, TX11, 87), tyX11, rfl, tyX11_ok, nmX11, rfl, tyX11_ok 76 (by decide), rfl⟩
theorem ffX11_79 : Ff RX11 11 79 (.array .int) := ⟨(RX11, TX11, 87), tyX11, rfl, tyX11_ok, nmX11, rfl, tyX11_ok 79 (by decide), rfl⟩
theorem ffX11_80 : Ff RX11 11 80 (.array .long) := ⟨(RX11, TX11, 87), tyX11, rfl, tyX11_ok, nmX11, rfl, tyX11_ok 80 (by decide), rfl⟩
theorem ffX11_82 : Ff RX11 11 82 (.array .boolean) := ⟨(RX11, TX11, 87), tyX11, rfl, tyX11_ok, nmX11, rfl, tyX11_ok 82 (by decide), rfl⟩
theorem ffX11_83 : Ff RX11 11 83 (.array .int) := ⟨(RX11, TX11, 87), tyX11, rfl, tyX11_ok, nmX11, rfl, tyX11_ok 83 (by decide), rfl⟩
theorem ffX11_84 : Ff RX11 11 84 (.array .int) := ⟨(RX11, TX11, 87), tyX11, rfl, tyX11_ok, nmX11, rfl, tyX11_ok 84 (by decide), rfl⟩
theorem ffX11_85 : Ff RX11 11 85 (.array .int) := ⟨(RX11, TX11, 87), tyX11, rfl, tyX11_ok, nmX11, rfl, tyX11_ok 85 (by decide), rfl⟩
theorem ffX11_86 : Ff RX11 11 86 (.array .int) := ⟨(RX11, TX11, 87), tyX11, rfl, tyX11_ok, nmX11, rfl, tyX11_ok 86 (by decide), rfl⟩
def rowsB (sd : Sd) (n k : Nat) : Bool := (List.range n).all (fun i => sd.2.1 (sd.1 + 1 + i) == 13 && sd.2.2.1 (sd.1 + 1 + i) == k)
theorem rows_of {sd : Sd} {n k : Nat} (h : rowsB sd n k = true) : ∀ i, i < n → sd.2.1 (sd.1 + 1 + i) = 13 ∧ sd.2.2.1 (sd.1 + 1 + i) = k := fun i hi => by
  have := List.all_eq_true.mp h i (List.mem_range.mpr hi)
  simpa using this
abbrev okN (sd : Sd) (a c : Nat) : Prop := a < sd.1 ∧ sd.2.1 a = c ∧ sd.1 ≤ 999999
def bdn {ρ : Type} (x : Option (Sd × St)) (k : Sd → St → Option ρ) : Option ρ := match x with
  | none => none
  | some q => k q.1 q.2
theorem bdn_some {ρ : Type} {x : Option (Sd × St)} {k : Sd → St → Option ρ} {r : ρ} (h : bdn x k = some r) : ∃ sd S, x = some (sd, S) ∧ k sd S = some r := by
  unfold bdn at h
  split at h
  · cases h
  · rename_i q
    exact ⟨q.1, q.2, rfl, h⟩
theorem wn_cs {G : Gx} {sd : Sd} {B cn sn cn2 sn2 : Nat} {R : Room} {nL : Nat} {Q : State → Prop} {S : St} {pc : Nat} {lv : List (Nat × Value)} {st : List Value} (h1 : cn = cn2) (h2 : sn = sn2) (k : Wn G sd B R nL Q cn2 sn2 S pc lv st) : Wn G sd B R nL Q cn sn S pc lv st := by
  subst h1
  subst h2
  exact k
