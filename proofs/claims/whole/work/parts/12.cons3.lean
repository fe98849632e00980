theorem mc_X2_27 : MCW RX2 27 i_J7_fill_53178 2 := ⟨tb_at 71 (by decide +kernel) rfl, tb_at 41 (by decide +kernel) rfl, tb_at 69 (by decide +kernel) rfl, by decide +kernel, by decide +kernel, by decide +kernel⟩
theorem mm_X7_15 : Cond.methodLink RX7 15 Lib.Math.max.name ∈ tw_tbl ∧ Cond.static Lib.Math.max.name ∈ tw_tbl ∧ Cond.initialized "java/lang/Math" ∈ tw_tbl ∧ Cond.code Lib.Math.max.name Lib.Math.max.code 2 (some .int) ∈ tw_tbl := ⟨tb_at 138 (by decide +kernel) rfl, tb_at 139 (by decide +kernel) rfl, tb_at 46 (by decide +kernel) rfl, tb_at 140 (by decide +kernel) rfl⟩
abbrev nests : NS := [("SoundWords", 18, yX5_init, "SoundWords"), ("SoundWords", 25, yX6_init, "SoundWords"), ("SoundWords$Reading", 25, yX8_init, "SoundWords"), ("SoundWords", 41, yX3_init, "SoundWords"), ("SoundWords", 48, yX1_init, "SoundWords"), ("SoundWords", 55, yX4_init, "SoundWords"), ("SoundWords", 62, yX9_init, "SoundWords"), ("SoundWords$Spotter", 11, yX8_init, "SoundWords"), ("SoundWords", 69, yX0_init, "SoundWords")]
theorem oi_X10_1 : Cond.methodLink RX10 1 objectInit ∈ tw_tbl ∧ Cond.instanceMethod objectInit ∈ tw_tbl ∧ Cond.code objectInit ⟨#[0xb1]⟩ 1 none ∈ tw_tbl := ⟨tb_at 58 (by decide +kernel) rfl, tb_at 59 (by decide +kernel) rfl, tb_at 60 (by decide +kernel) rfl⟩
theorem nc_X10_7 : NC RX10 7 2 [none, none, some (.inl 0), some (.inl 0)] 4 := ⟨RX2, TX2, tyX2, rfl, in_X2, tyX2_ok, tb_at 61 (by decide +kernel) rfl, tb_at 62 (by decide +kernel) rfl, tb_at 40 (by decide +kernel) rfl, fun b j hj => by
  have h : j = 0 ∨ j = 1 ∨ j = 2 ∨ j = 3 := by omega
  rcases h with rfl|rfl|rfl|rfl <;> rfl⟩
theorem oi_X2_3 : Cond.methodLink RX2 3 objectInit ∈ tw_tbl ∧ Cond.instanceMethod objectInit ∈ tw_tbl ∧ Cond.code objectInit ⟨#[0xb1]⟩ 1 none ∈ tw_tbl := ⟨tb_at 66 (by decide +kernel) rfl, tb_at 59 (by decide +kernel) rfl, tb_at 60 (by decide +kernel) rfl⟩
theorem w_ac : Cond.arrayClass .int ∈ tw_tbl := tb_at 85 (by decide +kernel) rfl
theorem pf_X2_9 : PF RX2 9 2 0 (.array .int) true := ⟨RX2, TX2, 4, tyX2, rfl, by decide, in_X2, tb_at 72 (by decide +kernel) rfl, rfl, tyX2_ok, nmX2, rfl, by decide +kernel, fun _ => rfl⟩
theorem mn_X2_15 : Cond.arrayClass .int ∈ tw_tbl ∧ Cond.classLink RX2 15 ("[" ++ (FieldType.array .int).toString) ∈ tw_tbl := ⟨w_ac, tb_at 67 (by decide +kernel) rfl⟩
theorem pf_X2_17 : PF RX2 17 2 1 (.array (.array .int)) true := ⟨RX2, TX2, 4, tyX2, rfl, by decide, in_X2, tb_at 73 (by decide +kernel) rfl, rfl, tyX2_ok, nmX2, rfl, by decide +kernel, fun _ => rfl⟩
theorem pf_X2_20 : PF RX2 20 2 2 .int false := ⟨RX2, TX2, 4, tyX2, rfl, by decide, in_X2, tb_at 74 (by decide +kernel) rfl, rfl, tyX2_ok, nmX2, rfl, by decide +kernel, fun _ => rfl⟩
theorem pf_X2_24 : PF RX2 24 2 3 .int false := ⟨RX2, TX2, 4, tyX2, rfl, by decide, in_X2, tb_at 75 (by decide +kernel) rfl, rfl, tyX2_ok, nmX2, rfl, by decide +kernel, fun _ => rfl⟩
abbrev i_X2_init : TMI := (yX2_init, cX2_init, 2, none)
theorem iv_X2_init : Cond.instanceMethod i_X2_init.1 ∈ tw_tbl := tb_at 64 (by decide +kernel) rfl
theorem iw_X2_init : Cond.code i_X2_init.1 i_X2_init.2.1 i_X2_init.2.2.1 i_X2_init.2.2.2 ∈ tw_tbl ∧ Cond.initialized i_X2_init.1.cls ∈ tw_tbl ∧ (i_X2_init.1.cls ≠ "java/lang/invoke/MethodHandle" ∧ i_X2_init.1.cls ≠ "java/lang/invoke/VarHandle" ∧ (parseMethodDescriptor i_X2_init.1.desc).map (fun d => d.parameters.length) = some 0) := ⟨tb_at 65 (by decide +kernel) rfl, tb_at 40 (by decide +kernel) rfl, by decide +kernel, by decide +kernel, by decide +kernel⟩
theorem pf_X10_10 : PF RX10 10 10 0 (.object "SoundWords$Heard") true := ⟨RX10, TX10, 9, tyX10, rfl, by decide, in_X10, tb_at 266 (by decide +kernel) rfl, rfl, tyX10_ok, nmX10, rfl, by decide +kernel, fun _ => rfl⟩
theorem nc_X10_16 : NC RX10 16 5 [none, none, none, none, some (.inl 0)] 5 := ⟨RX5, TX5, tyX5, rfl, in_X5, tyX5_ok, tb_at 86 (by decide +kernel) rfl, tb_at 87 (by decide +kernel) rfl, tb_at 42 (by decide +kernel) rfl, fun b j hj => by
  have h : j = 0 ∨ j = 1 ∨ j = 2 ∨ j = 3 ∨ j = 4 := by omega
  rcases h with rfl|rfl|rfl|rfl|rfl <;> rfl⟩
theorem oi_X5_3 : Cond.methodLink RX5 3 objectInit ∈ tw_tbl ∧ Cond.instanceMethod objectInit ∈ tw_tbl ∧ Cond.code objectInit ⟨#[0xb1]⟩ 1 none ∈ tw_tbl := ⟨tb_at 91 (by decide +kernel) rfl, tb_at 59 (by decide +kernel) rfl, tb_at 60 (by decide +kernel) rfl⟩
theorem mn_X5_9 : Cond.arrayClass .int ∈ tw_tbl ∧ Cond.classLink RX5 9 ("[" ++ (FieldType.array .int).toString) ∈ tw_tbl := ⟨w_ac, tb_at 92 (by decide +kernel) rfl⟩
theorem pf_X5_11 : PF RX5 11 5 0 (.array (.array .int)) true := ⟨RX5, TX5, 5, tyX5, rfl, by decide, in_X5, tb_at 93 (by decide +kernel) rfl, rfl, tyX5_ok, nmX5, rfl, by decide +kernel, fun _ => rfl⟩
theorem pf_X5_16 : PF RX5 16 5 1 (.array .int) true := ⟨RX5, TX5, 5, tyX5, rfl, by decide, in_X5, tb_at 94 (by decide +kernel) rfl, rfl, tyX5_ok, nmX5, rfl, by decide +kernel, fun _ => rfl⟩
theorem pf_X5_20 : PF RX5 20 5 2 (.array .int) true := ⟨RX5, TX5, 5, tyX5, rfl, by decide, in_X5, tb_at 95 (by decide +kernel) rfl, rfl, tyX5_ok, nmX5, rfl, by decide +kernel, fun _ => rfl⟩
theorem pf_X5_23 : PF RX5 23 5 3 (.array (.array .int)) true := ⟨RX5, TX5, 5, tyX5, rfl, by decide, in_X5, tb_at 96 (by decide +kernel) rfl, rfl, tyX5_ok, nmX5, rfl, by decide +kernel, fun _ => rfl⟩
theorem pf_X5_26 : PF RX5 26 5 4 .int false := ⟨RX5, TX5, 5, tyX5, rfl, by decide, in_X5, tb_at 97 (by decide +kernel) rfl, rfl, tyX5_ok, nmX5, rfl, by decide +kernel, fun _ => rfl⟩
abbrev i_X5_init : TMI := (yX5_init, cX5_init, 1, none)
theorem iv_X5_init : Cond.instanceMethod i_X5_init.1 ∈ tw_tbl := tb_at 89 (by decide +kernel) rfl
theorem iw_X5_init : Cond.code i_X5_init.1 i_X5_init.2.1 i_X5_init.2.2.1 i_X5_init.2.2.2 ∈ tw_tbl ∧ Cond.initialized i_X5_init.1.cls ∈ tw_tbl ∧ (i_X5_init.1.cls ≠ "java/lang/invoke/MethodHandle" ∧ i_X5_init.1.cls ≠ "java/lang/invoke/VarHandle" ∧ (parseMethodDescriptor i_X5_init.1.desc).map (fun d => d.parameters.length) = some 0) := ⟨tb_at 90 (by decide +kernel) rfl, tb_at 42 (by decide +kernel) rfl, by decide +kernel, by decide +kernel, by decide +kernel⟩
theorem pf_X10_19 : PF RX10 19 10 1 (.object "SoundWords$Lexicon") true := ⟨RX10, TX10, 9, tyX10, rfl, by decide, in_X10, tb_at 267 (by decide +kernel) rfl, rfl, tyX10_ok, nmX10, rfl, by decide +kernel, fun _ => rfl⟩
theorem nc_X10_23 : NC RX10 23 6 [none, none, none, none, none, some (.inl 0), some (.inl 0)] 7 := ⟨RX6, TX6, tyX6, rfl, in_X6, tyX6_ok, tb_at 109 (by decide +kernel) rfl, tb_at 110 (by decide +kernel) rfl, tb_at 43 (by decide +kernel) rfl, fun b j hj => by
  have h : j = 0 ∨ j = 1 ∨ j = 2 ∨ j = 3 ∨ j = 4 ∨ j = 5 ∨ j = 6 := by omega
  rcases h with rfl|rfl|rfl|rfl|rfl|rfl|rfl <;> rfl⟩
theorem oi_X6_3 : Cond.methodLink RX6 3 objectInit ∈ tw_tbl ∧ Cond.instanceMethod objectInit ∈ tw_tbl ∧ Cond.code objectInit ⟨#[0xb1]⟩ 1 none ∈ tw_tbl := ⟨tb_at 114 (by decide +kernel) rfl, tb_at 59 (by decide +kernel) rfl, tb_at 60 (by decide +kernel) rfl⟩
theorem mn_X6_9 : Cond.arrayClass .int ∈ tw_tbl ∧ Cond.classLink RX6 9 ("[" ++ (FieldType.array .int).toString) ∈ tw_tbl := ⟨w_ac, tb_at 115 (by decide +kernel) rfl⟩
theorem pf_X6_11 : PF RX6 11 6 0 (.array (.array .int)) true := ⟨RX6, TX6, 7, tyX6, rfl, by decide, in_X6, tb_at 149 (by decide +kernel) rfl, rfl, tyX6_ok, nmX6, rfl, by decide +kernel, fun _ => rfl⟩
theorem pf_X6_16 : PF RX6 16 6 1 (.array (.array .int)) true := ⟨RX6, TX6, 7, tyX6, rfl, by decide, in_X6, tb_at 150 (by decide +kernel) rfl, rfl, tyX6_ok, nmX6, rfl, by decide +kernel, fun _ => rfl⟩
theorem pf_X6_19 : PF RX6 19 6 2 (.array .int) true := ⟨RX6, TX6, 7, tyX6, rfl, by decide, in_X6, tb_at 151 (by decide +kernel) rfl, rfl, tyX6_ok, nmX6, rfl, by decide +kernel, fun _ => rfl⟩
theorem nc_X6_23 : NC RX6 23 8 [none, none, none] 3 := ⟨RX8, TX8, tyX8, rfl, in_X8, tyX8_ok, tb_at 116 (by decide +kernel) rfl, tb_at 117 (by decide +kernel) rfl, tb_at 44 (by decide +kernel) rfl, fun b j hj => by
  have h : j = 0 ∨ j = 1 ∨ j = 2 := by omega
  rcases h with rfl|rfl|rfl <;> rfl⟩
theorem oi_X8_3 : Cond.methodLink RX8 3 objectInit ∈ tw_tbl ∧ Cond.instanceMethod objectInit ∈ tw_tbl ∧ Cond.code objectInit ⟨#[0xb1]⟩ 1 none ∈ tw_tbl := ⟨tb_at 121 (by decide +kernel) rfl, tb_at 59 (by decide +kernel) rfl, tb_at 60 (by decide +kernel) rfl⟩
theorem pf_X8_9 : PF RX8 9 8 0 (.array .int) true := ⟨RX8, TX8, 3, tyX8, rfl, by decide, in_X8, tb_at 122 (by decide +kernel) rfl, rfl, tyX8_ok, nmX8, rfl, by decide +kernel, fun _ => rfl⟩
theorem pf_X8_15 : PF RX8 15 8 1 (.array .int) true := ⟨RX8, TX8, 3, tyX8, rfl, by decide, in_X8, tb_at 123 (by decide +kernel) rfl, rfl, tyX8_ok, nmX8, rfl, by decide +kernel, fun _ => rfl⟩
theorem pf_X8_18 : PF RX8 18 8 2 (.array .int) true := ⟨RX8, TX8, 3, tyX8, rfl, by decide, in_X8, tb_at 124 (by decide +kernel) rfl, rfl, tyX8_ok, nmX8, rfl, by decide +kernel, fun _ => rfl⟩
abbrev i_X8_init : TMI := (yX8_init, cX8_init, 1, none)
theorem iv_X8_init : Cond.instanceMethod i_X8_init.1 ∈ tw_tbl := tb_at 119 (by decide +kernel) rfl
theorem iw_X8_init : Cond.code i_X8_init.1 i_X8_init.2.1 i_X8_init.2.2.1 i_X8_init.2.2.2 ∈ tw_tbl ∧ Cond.initialized i_X8_init.1.cls ∈ tw_tbl ∧ (i_X8_init.1.cls ≠ "java/lang/invoke/MethodHandle" ∧ i_X8_init.1.cls ≠ "java/lang/invoke/VarHandle" ∧ (parseMethodDescriptor i_X8_init.1.desc).map (fun d => d.parameters.length) = some 0) := ⟨tb_at 120 (by decide +kernel) rfl, tb_at 44 (by decide +kernel) rfl, by decide +kernel, by decide +kernel, by decide +kernel⟩
theorem pf_X6_26 : PF RX6 26 6 3 (.object "SoundWords$Saying") true := ⟨RX6, TX6, 7, tyX6, rfl, by decide, in_X6, tb_at 152 (by decide +kernel) rfl, rfl, tyX6_ok, nmX6, rfl, by decide +kernel, fun _ => rfl⟩
theorem nc_X6_30 : NC RX6 30 7 [none, some (.inl 0)] 2 := ⟨RX7, TX7, tyX7, rfl, in_X7, tyX7_ok, tb_at 132 (by decide +kernel) rfl, tb_at 133 (by decide +kernel) rfl, tb_at 45 (by decide +kernel) rfl, fun b j hj => by
  have h : j = 0 ∨ j = 1 := by omega
  rcases h with rfl|rfl <;> rfl⟩
theorem oi_X7_3 : Cond.methodLink RX7 3 objectInit ∈ tw_tbl ∧ Cond.instanceMethod objectInit ∈ tw_tbl ∧ Cond.code objectInit ⟨#[0xb1]⟩ 1 none ∈ tw_tbl := ⟨tb_at 137 (by decide +kernel) rfl, tb_at 59 (by decide +kernel) rfl, tb_at 60 (by decide +kernel) rfl⟩
theorem pf_X7_9 : PF RX7 9 7 1 .int false := ⟨RX7, TX7, 2, tyX7, rfl, by decide, in_X7, tb_at 142 (by decide +kernel) rfl, rfl, tyX7_ok, nmX7, rfl, by decide +kernel, fun _ => rfl⟩
theorem pf_X7_21 : PF RX7 21 7 0 (.array .int) true := ⟨RX7, TX7, 2, tyX7, rfl, by decide, in_X7, tb_at 141 (by decide +kernel) rfl, rfl, tyX7_ok, nmX7, rfl, by decide +kernel, fun _ => rfl⟩
abbrev i_X7_init : TMI := (yX7_init, cX7_init, 2, none)
theorem iv_X7_init : Cond.instanceMethod i_X7_init.1 ∈ tw_tbl := tb_at 135 (by decide +kernel) rfl
theorem iw_X7_init : Cond.code i_X7_init.1 i_X7_init.2.1 i_X7_init.2.2.1 i_X7_init.2.2.2 ∈ tw_tbl ∧ Cond.initialized i_X7_init.1.cls ∈ tw_tbl ∧ (i_X7_init.1.cls ≠ "java/lang/invoke/MethodHandle" ∧ i_X7_init.1.cls ≠ "java/lang/invoke/VarHandle" ∧ (parseMethodDescriptor i_X7_init.1.desc).map (fun d => d.parameters.length) = some 1) := ⟨tb_at 136 (by decide +kernel) rfl, tb_at 45 (by decide +kernel) rfl, by decide +kernel, by decide +kernel, by decide +kernel⟩
theorem pf_X6_35 : PF RX6 35 6 4 (.object "SoundWords$Row") true := ⟨RX6, TX6, 7, tyX6, rfl, by decide, in_X6, tb_at 153 (by decide +kernel) rfl, rfl, tyX6_ok, nmX6, rfl, by decide +kernel, fun _ => rfl⟩
theorem pf_X6_40 : PF RX6 40 6 5 .int false := ⟨RX6, TX6, 7, tyX6, rfl, by decide, in_X6, tb_at 154 (by decide +kernel) rfl, rfl, tyX6_ok, nmX6, rfl, by decide +kernel, fun _ => rfl⟩
theorem pf_X6_44 : PF RX6 44 6 6 .boolean false := ⟨RX6, TX6, 7, tyX6, rfl, by decide, in_X6, tb_at 155 (by decide +kernel) rfl, rfl, tyX6_ok, nmX6, rfl, by decide +kernel, fun _ => rfl⟩
abbrev i_X6_init : TMI := (yX6_init, cX6_init, 1, none)
theorem iv_X6_init : Cond.instanceMethod i_X6_init.1 ∈ tw_tbl := tb_at 112 (by decide +kernel) rfl
theorem iw_X6_init : Cond.code i_X6_init.1 i_X6_init.2.1 i_X6_init.2.2.1 i_X6_init.2.2.2 ∈ tw_tbl ∧ Cond.initialized i_X6_init.1.cls ∈ tw_tbl ∧ (i_X6_init.1.cls ≠ "java/lang/invoke/MethodHandle" ∧ i_X6_init.1.cls ≠ "java/lang/invoke/VarHandle" ∧ (parseMethodDescriptor i_X6_init.1.desc).map (fun d => d.parameters.length) = some 0) := ⟨tb_at 113 (by decide +kernel) rfl, tb_at 43 (by decide +kernel) rfl, by decide +kernel, by decide +kernel, by decide +kernel⟩
theorem pf_X10_26 : PF RX10 26 10 2 (.object "SoundWords$Reading") true := ⟨RX10, TX10, 9, tyX10, rfl, by decide, in_X10, tb_at 268 (by decide +kernel) rfl, rfl, tyX10_ok, nmX10, rfl, by decide +kernel, fun _ => rfl⟩
theorem nc_X10_30 : NC RX10 30 7 [none, some (.inl 0)] 2 := ⟨RX7, TX7, tyX7, rfl, in_X7, tyX7_ok, tb_at 171 (by decide +kernel) rfl, tb_at 133 (by decide +kernel) rfl, tb_at 45 (by decide +kernel) rfl, fun b j hj => by
  have h : j = 0 ∨ j = 1 := by omega
  rcases h with rfl|rfl <;> rfl⟩
theorem pf_X10_35 : PF RX10 35 10 3 (.object "SoundWords$Row") true := ⟨RX10, TX10, 9, tyX10, rfl, by decide, in_X10, tb_at 269 (by decide +kernel) rfl, rfl, tyX10_ok, nmX10, rfl, by decide +kernel, fun _ => rfl⟩
theorem nc_X10_39 : NC RX10 39 3 [none, none, none, none, some (.inl 0), some (.inl 0)] 6 := ⟨RX3, TX3, tyX3, rfl, in_X3, tyX3_ok, tb_at 173 (by decide +kernel) rfl, tb_at 174 (by decide +kernel) rfl, tb_at 47 (by decide +kernel) rfl, fun b j hj => by
  have h : j = 0 ∨ j = 1 ∨ j = 2 ∨ j = 3 ∨ j = 4 ∨ j = 5 := by omega
  rcases h with rfl|rfl|rfl|rfl|rfl|rfl <;> rfl⟩
theorem oi_X3_5 : Cond.methodLink RX3 5 objectInit ∈ tw_tbl ∧ Cond.instanceMethod objectInit ∈ tw_tbl ∧ Cond.code objectInit ⟨#[0xb1]⟩ 1 none ∈ tw_tbl := ⟨tb_at 178 (by decide +kernel) rfl, tb_at 59 (by decide +kernel) rfl, tb_at 60 (by decide +kernel) rfl⟩
theorem pf_X3_11 : PF RX3 11 3 0 (.array .int) true := ⟨RX3, TX3, 6, tyX3, rfl, by decide, in_X3, tb_at 180 (by decide +kernel) rfl, rfl, tyX3_ok, nmX3, rfl, by decide +kernel, fun _ => rfl⟩
theorem pf_X3_15 : PF RX3 15 3 1 (.array .int) true := ⟨RX3, TX3, 6, tyX3, rfl, by decide, in_X3, tb_at 181 (by decide +kernel) rfl, rfl, tyX3_ok, nmX3, rfl, by decide +kernel, fun _ => rfl⟩
theorem mn_X3_18 : Cond.arrayClass .int ∈ tw_tbl ∧ Cond.classLink RX3 18 ("[" ++ (FieldType.array .int).toString) ∈ tw_tbl := ⟨w_ac, tb_at 179 (by decide +kernel) rfl⟩
theorem pf_X3_20 : PF RX3 20 3 2 (.array (.array .int)) true := ⟨RX3, TX3, 6, tyX3, rfl, by decide, in_X3, tb_at 182 (by decide +kernel) rfl, rfl, tyX3_ok, nmX3, rfl, by decide +kernel, fun _ => rfl⟩
theorem pf_X3_23 : PF RX3 23 3 3 (.array .int) true := ⟨RX3, TX3, 6, tyX3, rfl, by decide, in_X3, tb_at 183 (by decide +kernel) rfl, rfl, tyX3_ok, nmX3, rfl, by decide +kernel, fun _ => rfl⟩
theorem pf_X3_26 : PF RX3 26 3 4 .int false := ⟨RX3, TX3, 6, tyX3, rfl, by decide, in_X3, tb_at 184 (by decide +kernel) rfl, rfl, tyX3_ok, nmX3, rfl, by decide +kernel, fun _ => rfl⟩
theorem pf_X3_30 : PF RX3 30 3 5 .boolean false := ⟨RX3, TX3, 6, tyX3, rfl, by decide, in_X3, tb_at 185 (by decide +kernel) rfl, rfl, tyX3_ok, nmX3, rfl, by decide +kernel, fun _ => rfl⟩
abbrev i_X3_init : TMI := (yX3_init, cX3_init, 1, none)
theorem iv_X3_init : Cond.instanceMethod i_X3_init.1 ∈ tw_tbl := tb_at 176 (by decide +kernel) rfl
theorem iw_X3_init : Cond.code i_X3_init.1 i_X3_init.2.1 i_X3_init.2.2.1 i_X3_init.2.2.2 ∈ tw_tbl ∧ Cond.initialized i_X3_init.1.cls ∈ tw_tbl ∧ (i_X3_init.1.cls ≠ "java/lang/invoke/MethodHandle" ∧ i_X3_init.1.cls ≠ "java/lang/invoke/VarHandle" ∧ (parseMethodDescriptor i_X3_init.1.desc).map (fun d => d.parameters.length) = some 0) := ⟨tb_at 177 (by decide +kernel) rfl, tb_at 47 (by decide +kernel) rfl, by decide +kernel, by decide +kernel, by decide +kernel⟩
theorem pf_X10_42 : PF RX10 42 10 4 (.object "SoundWords$Laying") true := ⟨RX10, TX10, 9, tyX10, rfl, by decide, in_X10, tb_at 270 (by decide +kernel) rfl, rfl, tyX10_ok, nmX10, rfl, by decide +kernel, fun _ => rfl⟩
theorem nc_X10_46 : NC RX10 46 1 [none] 1 := ⟨RX1, TX1, tyX1, rfl, in_X1, tyX1_ok, tb_at 199 (by decide +kernel) rfl, tb_at 200 (by decide +kernel) rfl, tb_at 48 (by decide +kernel) rfl, fun b j hj => by
  have h : j = 0 := by omega
  rcases h with rfl <;> rfl⟩
theorem oi_X1_3 : Cond.methodLink RX1 3 objectInit ∈ tw_tbl ∧ Cond.instanceMethod objectInit ∈ tw_tbl ∧ Cond.code objectInit ⟨#[0xb1]⟩ 1 none ∈ tw_tbl := ⟨tb_at 204 (by decide +kernel) rfl, tb_at 59 (by decide +kernel) rfl, tb_at 60 (by decide +kernel) rfl⟩
theorem pf_X1_9 : PF RX1 9 1 0 (.array .int) true := ⟨RX1, TX1, 1, tyX1, rfl, by decide, in_X1, tb_at 205 (by decide +kernel) rfl, rfl, tyX1_ok, nmX1, rfl, by decide +kernel, fun _ => rfl⟩
abbrev i_X1_init : TMI := (yX1_init, cX1_init, 1, none)
theorem iv_X1_init : Cond.instanceMethod i_X1_init.1 ∈ tw_tbl := tb_at 202 (by decide +kernel) rfl
theorem iw_X1_init : Cond.code i_X1_init.1 i_X1_init.2.1 i_X1_init.2.2.1 i_X1_init.2.2.2 ∈ tw_tbl ∧ Cond.initialized i_X1_init.1.cls ∈ tw_tbl ∧ (i_X1_init.1.cls ≠ "java/lang/invoke/MethodHandle" ∧ i_X1_init.1.cls ≠ "java/lang/invoke/VarHandle" ∧ (parseMethodDescriptor i_X1_init.1.desc).map (fun d => d.parameters.length) = some 0) := ⟨tb_at 203 (by decide +kernel) rfl, tb_at 48 (by decide +kernel) rfl, by decide +kernel, by decide +kernel, by decide +kernel⟩
theorem pf_X10_49 : PF RX10 49 10 5 (.object "SoundWords$Edits") true := ⟨RX10, TX10, 9, tyX10, rfl, by decide, in_X10, tb_at 271 (by decide +kernel) rfl, rfl, tyX10_ok, nmX10, rfl, by decide +kernel, fun _ => rfl⟩
theorem nc_X10_53 : NC RX10 53 4 [none, none, some (.inl 0), some (.inl 0)] 4 := ⟨RX4, TX4, tyX4, rfl, in_X4, tyX4_ok, tb_at 209 (by decide +kernel) rfl, tb_at 210 (by decide +kernel) rfl, tb_at 49 (by decide +kernel) rfl, fun b j hj => by
  have h : j = 0 ∨ j = 1 ∨ j = 2 ∨ j = 3 := by omega
  rcases h with rfl|rfl|rfl|rfl <;> rfl⟩
theorem oi_X4_3 : Cond.methodLink RX4 3 objectInit ∈ tw_tbl ∧ Cond.instanceMethod objectInit ∈ tw_tbl ∧ Cond.code objectInit ⟨#[0xb1]⟩ 1 none ∈ tw_tbl := ⟨tb_at 214 (by decide +kernel) rfl, tb_at 59 (by decide +kernel) rfl, tb_at 60 (by decide +kernel) rfl⟩
theorem mn_X4_9 : Cond.arrayClass .int ∈ tw_tbl ∧ Cond.classLink RX4 9 ("[" ++ (FieldType.array .int).toString) ∈ tw_tbl := ⟨w_ac, tb_at 215 (by decide +kernel) rfl⟩
theorem pf_X4_11 : PF RX4 11 4 0 (.array (.array .int)) true := ⟨RX4, TX4, 4, tyX4, rfl, by decide, in_X4, tb_at 216 (by decide +kernel) rfl, rfl, tyX4_ok, nmX4, rfl, by decide +kernel, fun _ => rfl⟩
theorem pf_X4_16 : PF RX4 16 4 1 (.array (.array .int)) true := ⟨RX4, TX4, 4, tyX4, rfl, by decide, in_X4, tb_at 217 (by decide +kernel) rfl, rfl, tyX4_ok, nmX4, rfl, by decide +kernel, fun _ => rfl⟩
theorem pf_X4_19 : PF RX4 19 4 2 .int false := ⟨RX4, TX4, 4, tyX4, rfl, by decide, in_X4, tb_at 218 (by decide +kernel) rfl, rfl, tyX4_ok, nmX4, rfl, by decide +kernel, fun _ => rfl⟩
theorem pf_X4_23 : PF RX4 23 4 3 .int false := ⟨RX4, TX4, 4, tyX4, rfl, by decide, in_X4, tb_at 219 (by decide +kernel) rfl, rfl, tyX4_ok, nmX4, rfl, by decide +kernel, fun _ => rfl⟩
abbrev i_X4_init : TMI := (yX4_init, cX4_init, 1, none)
theorem iv_X4_init : Cond.instanceMethod i_X4_init.1 ∈ tw_tbl := tb_at 212 (by decide +kernel) rfl
theorem iw_X4_init : Cond.code i_X4_init.1 i_X4_init.2.1 i_X4_init.2.2.1 i_X4_init.2.2.2 ∈ tw_tbl ∧ Cond.initialized i_X4_init.1.cls ∈ tw_tbl ∧ (i_X4_init.1.cls ≠ "java/lang/invoke/MethodHandle" ∧ i_X4_init.1.cls ≠ "java/lang/invoke/VarHandle" ∧ (parseMethodDescriptor i_X4_init.1.desc).map (fun d => d.parameters.length) = some 0) := ⟨tb_at 213 (by decide +kernel) rfl, tb_at 49 (by decide +kernel) rfl, by decide +kernel, by decide +kernel, by decide +kernel⟩
theorem pf_X10_56 : PF RX10 56 10 6 (.object "SoundWords$Lessons") true := ⟨RX10, TX10, 9, tyX10, rfl, by decide, in_X10, tb_at 272 (by decide +kernel) rfl, rfl, tyX10_ok, nmX10, rfl, by decide +kernel, fun _ => rfl⟩
theorem nc_X10_60 : NC RX10 60 9 [none, some (.inl 0), some (.inl 0), some (.inl 0)] 4 := ⟨RX9, TX9, tyX9, rfl, in_X9, tyX9_ok, tb_at 229 (by decide +kernel) rfl, tb_at 230 (by decide +kernel) rfl, tb_at 50 (by decide +kernel) rfl, fun b j hj => by
  have h : j = 0 ∨ j = 1 ∨ j = 2 ∨ j = 3 := by omega
  rcases h with rfl|rfl|rfl|rfl <;> rfl⟩
theorem oi_X9_3 : Cond.methodLink RX9 3 objectInit ∈ tw_tbl ∧ Cond.instanceMethod objectInit ∈ tw_tbl ∧ Cond.code objectInit ⟨#[0xb1]⟩ 1 none ∈ tw_tbl := ⟨tb_at 234 (by decide +kernel) rfl, tb_at 59 (by decide +kernel) rfl, tb_at 60 (by decide +kernel) rfl⟩
theorem nc_X9_9 : NC RX9 9 8 [none, none, none] 3 := ⟨RX8, TX8, tyX8, rfl, in_X8, tyX8_ok, tb_at 235 (by decide +kernel) rfl, tb_at 117 (by decide +kernel) rfl, tb_at 44 (by decide +kernel) rfl, fun b j hj => by
  have h : j = 0 ∨ j = 1 ∨ j = 2 := by omega
  rcases h with rfl|rfl|rfl <;> rfl⟩
theorem pf_X9_12 : PF RX9 12 9 0 (.object "SoundWords$Saying") true := ⟨RX9, TX9, 4, tyX9, rfl, by decide, in_X9, tb_at 237 (by decide +kernel) rfl, rfl, tyX9_ok, nmX9, rfl, by decide +kernel, fun _ => rfl⟩
theorem pf_X9_18 : PF RX9 18 9 1 .int false := ⟨RX9, TX9, 4, tyX9, rfl, by decide, in_X9, tb_at 238 (by decide +kernel) rfl, rfl, tyX9_ok, nmX9, rfl, by decide +kernel, fun _ => rfl⟩
theorem pf_X9_22 : PF RX9 22 9 2 .int false := ⟨RX9, TX9, 4, tyX9, rfl, by decide, in_X9, tb_at 239 (by decide +kernel) rfl, rfl, tyX9_ok, nmX9, rfl, by decide +kernel, fun _ => rfl⟩
theorem pf_X9_25 : PF RX9 25 9 3 .int false := ⟨RX9, TX9, 4, tyX9, rfl, by decide, in_X9, tb_at 240 (by decide +kernel) rfl, rfl, tyX9_ok, nmX9, rfl, by decide +kernel, fun _ => rfl⟩
abbrev i_X9_init : TMI := (yX9_init, cX9_init, 1, none)
theorem iv_X9_init : Cond.instanceMethod i_X9_init.1 ∈ tw_tbl := tb_at 232 (by decide +kernel) rfl
theorem iw_X9_init : Cond.code i_X9_init.1 i_X9_init.2.1 i_X9_init.2.2.1 i_X9_init.2.2.2 ∈ tw_tbl ∧ Cond.initialized i_X9_init.1.cls ∈ tw_tbl ∧ (i_X9_init.1.cls ≠ "java/lang/invoke/MethodHandle" ∧ i_X9_init.1.cls ≠ "java/lang/invoke/VarHandle" ∧ (parseMethodDescriptor i_X9_init.1.desc).map (fun d => d.parameters.length) = some 0) := ⟨tb_at 233 (by decide +kernel) rfl, tb_at 50 (by decide +kernel) rfl, by decide +kernel, by decide +kernel, by decide +kernel⟩
theorem pf_X10_63 : PF RX10 63 10 7 (.object "SoundWords$Spotter") true := ⟨RX10, TX10, 9, tyX10, rfl, by decide, in_X10, tb_at 273 (by decide +kernel) rfl, rfl, tyX10_ok, nmX10, rfl, by decide +kernel, fun _ => rfl⟩
theorem nc_X10_67 : NC RX10 67 0 [some (.inl 0), some (.inl 0), some (.inl 0)] 3 := ⟨RX0, TX0, tyX0, rfl, in_X0, tyX0_ok, tb_at 250 (by decide +kernel) rfl, tb_at 251 (by decide +kernel) rfl, tb_at 51 (by decide +kernel) rfl, fun b j hj => by
  have h : j = 0 ∨ j = 1 ∨ j = 2 := by omega
  rcases h with rfl|rfl|rfl <;> rfl⟩
theorem oi_X0_3 : Cond.methodLink RX0 3 objectInit ∈ tw_tbl ∧ Cond.instanceMethod objectInit ∈ tw_tbl ∧ Cond.code objectInit ⟨#[0xb1]⟩ 1 none ∈ tw_tbl := ⟨tb_at 255 (by decide +kernel) rfl, tb_at 59 (by decide +kernel) rfl, tb_at 60 (by decide +kernel) rfl⟩
theorem pf_X0_9 : PF RX0 9 0 0 .int false := ⟨RX0, TX0, 3, tyX0, rfl, by decide, in_X0, tb_at 256 (by decide +kernel) rfl, rfl, tyX0_ok, nmX0, rfl, by decide +kernel, fun _ => rfl⟩
theorem pf_X0_15 : PF RX0 15 0 1 .int false := ⟨RX0, TX0, 3, tyX0, rfl, by decide, in_X0, tb_at 257 (by decide +kernel) rfl, rfl, tyX0_ok, nmX0, rfl, by decide +kernel, fun _ => rfl⟩
theorem pf_X0_18 : PF RX0 18 0 2 .int false := ⟨RX0, TX0, 3, tyX0, rfl, by decide, in_X0, tb_at 258 (by decide +kernel) rfl, rfl, tyX0_ok, nmX0, rfl, by decide +kernel, fun _ => rfl⟩
abbrev i_X0_init : TMI := (yX0_init, cX0_init, 1, none)
theorem iv_X0_init : Cond.instanceMethod i_X0_init.1 ∈ tw_tbl := tb_at 253 (by decide +kernel) rfl
theorem iw_X0_init : Cond.code i_X0_init.1 i_X0_init.2.1 i_X0_init.2.2.1 i_X0_init.2.2.2 ∈ tw_tbl ∧ Cond.initialized i_X0_init.1.cls ∈ tw_tbl ∧ (i_X0_init.1.cls ≠ "java/lang/invoke/MethodHandle" ∧ i_X0_init.1.cls ≠ "java/lang/invoke/VarHandle" ∧ (parseMethodDescriptor i_X0_init.1.desc).map (fun d => d.parameters.length) = some 0) := ⟨tb_at 254 (by decide +kernel) rfl, tb_at 51 (by decide +kernel) rfl, by decide +kernel, by decide +kernel, by decide +kernel⟩
theorem pf_X10_70 : PF RX10 70 10 8 (.object "SoundWords$Ears") true := ⟨RX10, TX10, 9, tyX10, rfl, by decide, in_X10, tb_at 274 (by decide +kernel) rfl, rfl, tyX10_ok, nmX10, rfl, by decide +kernel, fun _ => rfl⟩
theorem oi_X11_1 : Cond.methodLink RX11 1 objectInit ∈ tw_tbl ∧ Cond.instanceMethod objectInit ∈ tw_tbl ∧ Cond.code objectInit ⟨#[0xb1]⟩ 1 none ∈ tw_tbl := ⟨tb_at 744 (by decide +kernel) rfl, tb_at 59 (by decide +kernel) rfl, tb_at 60 (by decide +kernel) rfl⟩
theorem pf_X11_7 : PF RX11 7 11 1 (.array .int) true := ⟨RX11, TX11, 32, tyX11, rfl, by decide, in_X11, tb_at 746 (by decide +kernel) rfl, rfl, tyX11_ok, nmX11, rfl, by decide +kernel, fun _ => rfl⟩
theorem pf_X11_13 : PF RX11 13 11 2 (.array .int) true := ⟨RX11, TX11, 32, tyX11, rfl, by decide, in_X11, tb_at 747 (by decide +kernel) rfl, rfl, tyX11_ok, nmX11, rfl, by decide +kernel, fun _ => rfl⟩
theorem pf_X11_16 : PF RX11 16 11 3 .int false := ⟨RX11, TX11, 32, tyX11, rfl, by decide, in_X11, tb_at 748 (by decide +kernel) rfl, rfl, tyX11_ok, nmX11, rfl, by decide +kernel, fun _ => rfl⟩
theorem pf_X11_20 : PF RX11 20 11 5 (.array .int) true := ⟨RX11, TX11, 32, tyX11, rfl, by decide, in_X11, tb_at 750 (by decide +kernel) rfl, rfl, tyX11_ok, nmX11, rfl, by decide +kernel, fun _ => rfl⟩
theorem pf_X11_23 : PF RX11 23 11 6 (.array .int) true := ⟨RX11, TX11, 32, tyX11, rfl, by decide, in_X11, tb_at 751 (by decide +kernel) rfl, rfl, tyX11_ok, nmX11, rfl, by decide +kernel, fun _ => rfl⟩
theorem pf_X11_26 : PF RX11 26 11 7 (.array .int) true := ⟨RX11, TX11, 32, tyX11, rfl, by decide, in_X11, tb_at 752 (by decide +kernel) rfl, rfl, tyX11_ok, nmX11, rfl, by decide +kernel, fun _ => rfl⟩
theorem pf_X11_29 : PF RX11 29 11 8 (.array .int) true := ⟨RX11, TX11, 32, tyX11, rfl, by decide, in_X11, tb_at 753 (by decide +kernel) rfl, rfl, tyX11_ok, nmX11, rfl, by decide +kernel, fun _ => rfl⟩
theorem pf_X11_32 : PF RX11 32 11 10 (.array .int) true := ⟨RX11, TX11, 32, tyX11, rfl, by decide, in_X11, tb_at 755 (by decide +kernel) rfl, rfl, tyX11_ok, nmX11, rfl, by decide +kernel, fun _ => rfl⟩
theorem pf_X11_35 : PF RX11 35 11 12 (.array .int) true := ⟨RX11, TX11, 32, tyX11, rfl, by decide, in_X11, tb_at 757 (by decide +kernel) rfl, rfl, tyX11_ok, nmX11, rfl, by decide +kernel, fun _ => rfl⟩
theorem pf_X11_38 : PF RX11 38 11 13 (.array .int) true := ⟨RX11, TX11, 32, tyX11, rfl, by decide, in_X11, tb_at 758 (by decide +kernel) rfl, rfl, tyX11_ok, nmX11, rfl, by decide +kernel, fun _ => rfl⟩
theorem pf_X11_41 : PF RX11 41 11 14 (.array .int) true := ⟨RX11, TX11, 32, tyX11, rfl, by decide, in_X11, tb_at 759 (by decide +kernel) rfl, rfl, tyX11_ok, nmX11, rfl, by decide +kernel, fun _ => rfl⟩
theorem pf_X11_44 : PF RX11 44 11 15 (.array .int) true := ⟨RX11, TX11, 32, tyX11, rfl, by decide, in_X11, tb_at 760 (by decide +kernel) rfl, rfl, tyX11_ok, nmX11, rfl, by decide +kernel, fun _ => rfl⟩
theorem pf_X11_47 : PF RX11 47 11 17 (.array .int) true := ⟨RX11, TX11, 32, tyX11, rfl, by decide, in_X11, tb_at 762 (by decide +kernel) rfl, rfl, tyX11_ok, nmX11, rfl, by decide +kernel, fun _ => rfl⟩
theorem pf_X11_50 : PF RX11 50 11 18 (.array .int) true := ⟨RX11, TX11, 32, tyX11, rfl, by decide, in_X11, tb_at 763 (by decide +kernel) rfl, rfl, tyX11_ok, nmX11, rfl, by decide +kernel, fun _ => rfl⟩
theorem pf_X11_53 : PF RX11 53 11 19 .int false := ⟨RX11, TX11, 32, tyX11, rfl, by decide, in_X11, tb_at 764 (by decide +kernel) rfl, rfl, tyX11_ok, nmX11, rfl, by decide +kernel, fun _ => rfl⟩
theorem pf_X11_56 : PF RX11 56 11 20 .int false := ⟨RX11, TX11, 32, tyX11, rfl, by decide, in_X11, tb_at 765 (by decide +kernel) rfl, rfl, tyX11_ok, nmX11, rfl, by decide +kernel, fun _ => rfl⟩
theorem pf_X11_59 : PF RX11 59 11 21 .int false := ⟨RX11, TX11, 32, tyX11, rfl, by decide, in_X11, tb_at 766 (by decide +kernel) rfl, rfl, tyX11_ok, nmX11, rfl, by decide +kernel, fun _ => rfl⟩
theorem pf_X11_62 : PF RX11 62 11 22 (.array .int) true := ⟨RX11, TX11, 32, tyX11, rfl, by decide, in_X11, tb_at 767 (by decide +kernel) rfl, rfl, tyX11_ok, nmX11, rfl, by decide +kernel, fun _ => rfl⟩
theorem pf_X11_65 : PF RX11 65 11 23 (.array .int) true := ⟨RX11, TX11, 32, tyX11, rfl, by decide, in_X11, tb_at 768 (by decide +kernel) rfl, rfl, tyX11_ok, nmX11, rfl, by decide +kernel, fun _ => rfl⟩
theorem pf_X11_68 : PF RX11 68 11 24 (.array .int) true := ⟨RX11, TX11, 32, tyX11, rfl, by decide, in_X11, tb_at 769 (by decide +kernel) rfl, rfl, tyX11_ok, nmX11, rfl, by decide +kernel, fun _ => rfl⟩
theorem pf_X11_71 : PF RX11 71 11 25 (.array .int) true := ⟨RX11, TX11, 32, tyX11, rfl, by decide, in_X11, tb_at 770 (by decide +kernel) rfl, rfl, tyX11_ok, nmX11, rfl, by decide +kernel, fun _ => rfl⟩
theorem pf_X11_74 : PF RX11 74 11 27 (.array .int) true := ⟨RX11, TX11, 32, tyX11, rfl, by decide, in_X11, tb_at 772 (by decide +kernel) rfl, rfl, tyX11_ok, nmX11, rfl, by decide +kernel, fun _ => rfl⟩
theorem pf_X11_77 : PF RX11 77 11 28 (.array .int) true := ⟨RX11, TX11, 32, tyX11, rfl, by decide, in_X11, tb_at 773 (by decide +kernel) rfl, rfl, tyX11_ok, nmX11, rfl, by decide +kernel, fun _ => rfl⟩
theorem pf_X11_80 : PF RX11 80 11 29 (.array .int) true := ⟨RX11, TX11, 32, tyX11, rfl, by decide, in_X11, tb_at 774 (by decide +kernel) rfl, rfl, tyX11_ok, nmX11, rfl, by decide +kernel, fun _ => rfl⟩
theorem pf_X11_83 : PF RX11 83 11 30 (.array .int) true := ⟨RX11, TX11, 32, tyX11, rfl, by decide, in_X11, tb_at 775 (by decide +kernel) rfl, rfl, tyX11_ok, nmX11, rfl, by decide +kernel, fun _ => rfl⟩
theorem pf_X11_86 : PF RX11 86 11 31 (.array .int) true := ⟨RX11, TX11, 32, tyX11, rfl, by decide, in_X11, tb_at 776 (by decide +kernel) rfl, rfl, tyX11_ok, nmX11, rfl, by decide +kernel, fun _ => rfl⟩
abbrev i_X10_init : TMI := (yX10_init, cX10_init, 1, none)
theorem iv_X10_init : Cond.instanceMethod i_X10_init.1 ∈ tw_tbl := tb_at 56 (by decide +kernel) rfl
theorem iw_X10_init : Cond.code i_X10_init.1 i_X10_init.2.1 i_X10_init.2.2.1 i_X10_init.2.2.2 ∈ tw_tbl ∧ Cond.initialized i_X10_init.1.cls ∈ tw_tbl ∧ (i_X10_init.1.cls ≠ "java/lang/invoke/MethodHandle" ∧ i_X10_init.1.cls ≠ "java/lang/invoke/VarHandle" ∧ (parseMethodDescriptor i_X10_init.1.desc).map (fun d => d.parameters.length) = some 0) := ⟨tb_at 57 (by decide +kernel) rfl, tb_at 39 (by decide +kernel) rfl, by decide +kernel, by decide +kernel, by decide +kernel⟩
abbrev i_X11_init : TMI := (yX11_init, cX11_init, 2, none)
theorem iv_X11_init : Cond.instanceMethod i_X11_init.1 ∈ tw_tbl := tb_at 742 (by decide +kernel) rfl
theorem iw_X11_init : Cond.code i_X11_init.1 i_X11_init.2.1 i_X11_init.2.2.1 i_X11_init.2.2.2 ∈ tw_tbl ∧ Cond.initialized i_X11_init.1.cls ∈ tw_tbl ∧ (i_X11_init.1.cls ≠ "java/lang/invoke/MethodHandle" ∧ i_X11_init.1.cls ≠ "java/lang/invoke/VarHandle" ∧ (parseMethodDescriptor i_X11_init.1.desc).map (fun d => d.parameters.length) = some 0) := ⟨tb_at 743 (by decide +kernel) rfl, tb_at 52 (by decide +kernel) rfl, by decide +kernel, by decide +kernel, by decide +kernel⟩
theorem set_same {α : Type} {l : List α} {a : Nat} {x : α} (h : l[a]? = some x) : l.set a x = l := by
  apply List.ext_getElem?
  intro i
  by_cases hi : i = a
  · subst hi
    rw [List.getElem?_set_self (List.getElem?_eq_some_iff.mp h).1, h]
  · rw [List.getElem?_set_ne (Ne.symm hi)]
theorem upd_fill {f : Nat → Int32} {v : Int32} {k : Nat} : upd (fun q => if q < k then v else f q) k v = fun q => if q < k + 1 then v else f q := by
  funext q
  unfold upd
  by_cases h : q = k
  · simp [h]
  · by_cases h2 : q < k
    · simp [h, h2, Nat.lt_succ_of_lt h2]
    · simp [h, h2, show ¬ q < k + 1 by omega]
theorem fill0 {f : Nat → Int32} {v : Int32} : (fun q => if q < 0 then v else f q) = f := by
  funext q
  simp
set_option maxRecDepth 100000 in
theorem C_fill {n a : Nat} {f : Nat → Int32} {v : Int32} {cs : List CC} (l : Launch) (ns : NS) (h : cs[a]? = some (.inr (.inl (n, f)))) (hn : n < 2 ^ 31) : CMet l i_J7_fill_53178 0 0 0 0 ns [.inr a, .inl v] cs (cs.set a (.inr (.inl (n, fun k => if k < n then v else f k)))) := by
  refine cw_met (by decide) (Nat.le_of_ble_eq_true rfl) rfl (fun κ hl hC hT _ => ?_)
  subst hl
  have hl := (List.getElem?_eq_some_iff.mp h).1
  have key : ∀ j k, j + k = n → WC κ 5 [some (.inr a), some (.inl v), some (.inl (nI k)), some (.inl (nI n))] [] (cs.set a (.inr (.inl (n, fun q => if q < k then v else f q)))) 0 0 := by
    intro j
    induction j with
    | zero =>
      intro k hk
      have hk : k = n := by omega
      subst hk
      refine tc_iload_n hC dJ7_fill_53178_5 rfl rfl ?_
      refine tc_iload_n hC dJ7_fill_53178_6 rfl rfl ?_
      refine tc_ge hC dJ7_fill_53178_7 (tgt := 20) rfl (fun _ => ?_) (fun h => absurd (nI_le (Nat.le_refl k) hn) h)
      exact tc_ret hC hT dJ7_fill_53178_20 ⟨Nat.le_refl _, Nat.le_refl _⟩
    | succ j ih =>
      intro k hk
      have hkn : k < n := by omega
      refine tc_iload_n hC dJ7_fill_53178_5 rfl rfl ?_
      refine tc_iload_n hC dJ7_fill_53178_6 rfl rfl ?_
      refine tc_ge hC dJ7_fill_53178_7 (tgt := 20) rfl (fun h => absurd h (nI_ge hkn hn)) (fun _ => ?_)
      refine tc_aload_n hC dJ7_fill_53178_10 rfl rfl ?_
      refine tc_iload_n hC dJ7_fill_53178_11 rfl rfl ?_
      refine tc_iload_n hC dJ7_fill_53178_12 rfl rfl ?_
      refine tc_iast hC dJ7_fill_53178_13 (List.getElem?_set_self hl) (vp_in_nI hkn hn) ?_
      rw [List.set_set, nI_clamp (by omega), upd_fill]
      refine tc_iinc (v := nI (k + 1)) (loc2 := [some (.inr a), some (.inl v), some (.inl (nI (k + 1))), some (.inl (nI n))]) hC dJ7_fill_53178_14 rfl (nI_succ k).symm (by decide) rfl ?_
      refine tc_goto hC dJ7_fill_53178_17 (tgt := 5) rfl ?_
      exact ih (k + 1) (by omega)
  show WC κ 0 [some (.inr a), some (.inl v), none, none] [] cs 0 0
  refine tc_const (v := 0) hC dJ7_fill_53178_0 (Or.inl ⟨_, rfl, rfl, by decide⟩) ?_
  refine tc_istore_n (loc2 := [some (.inr a), some (.inl v), some (.inl 0), none]) hC dJ7_fill_53178_1 rfl (by decide) rfl ?_
  refine tc_aload_n hC dJ7_fill_53178_2 rfl rfl ?_
  refine tc_alen (v := nI n) hC dJ7_fill_53178_3 h rfl ?_
  refine tc_istore_n (loc2 := [some (.inr a), some (.inl v), some (.inl 0), some (.inl (nI n))]) hC dJ7_fill_53178_4 rfl (by decide) rfl ?_
  have := key n 0 (by omega)
  rw [fill0, set_same h] at this
  exact this
set_option maxRecDepth 100000 in
theorem CI_loop {κ : CX} {fr lo mc ms cells slots : Nat} {ns : NS} {cs : List CC} {fs : List CV} {f : Nat → Int32} (hC : CT κ RX11 cX11_init 2 fr lo mc ms ns) (h1 : cs[187]? = some (.inl (11, fs))) (h2 : fs[2]? = some (some (.inr 189))) (h3 : cs[189]? = some (.inr (.inl (48, f)))) (hf : f = fun _ => 0) (kk : WC κ 225 [some (.inr 187), some (.inl (nI 48))] [] (cs.set 189 (.inr (.inl (48, fun q => if q < 48 then 25 else 0)))) cells slots) : WC κ 205 [some (.inr 187), some (.inl 0)] [] cs cells slots := by
  subst hf
  have hl := (List.getElem?_eq_some_iff.mp h3).1
  have key : ∀ j k, j + k = 48 → WC κ 205 [some (.inr 187), some (.inl (nI k))] [] (cs.set 189 (.inr (.inl (48, fun q => if q < k then 25 else 0)))) cells slots := by
    intro j
    induction j with
    | zero =>
      intro k hk
      have hk : k = 48 := by omega
      subst hk
      refine tc_iload_n hC dX11_init_205 rfl rfl ?_
      refine tc_const (v := 48) hC dX11_init_206 (Or.inr (Or.inl ⟨_, rfl, rfl, by decide⟩)) ?_
      refine tc_ge hC dX11_init_208 (tgt := 225) rfl (fun _ => ?_) (fun h => absurd (by decide) h)
      exact kk
    | succ j ih =>
      intro k hk
      have hkn : k < 48 := by omega
      refine tc_iload_n hC dX11_init_205 rfl rfl ?_
      refine tc_const (v := nI 48) hC dX11_init_206 (Or.inr (Or.inl ⟨_, rfl, rfl, by decide⟩)) ?_
      refine tc_ge hC dX11_init_208 (tgt := 225) rfl (fun h => absurd h (nI_ge hkn (by omega))) (fun _ => ?_)
      refine tc_aload_n hC dX11_init_211 rfl rfl ?_
      refine tc_getr hC dX11_init_212 gf_X11_13 (by rw [List.getElem?_set_ne (by decide)]; exact h1) h2 ?_
      refine tc_iload_n hC dX11_init_215 rfl rfl ?_
      refine tc_const (v := 25) hC dX11_init_216 (Or.inr (Or.inl ⟨_, rfl, rfl, by decide⟩)) ?_
      refine tc_iast hC dX11_init_218 (List.getElem?_set_self hl) (vp_in_nI hkn (by omega)) ?_
      rw [List.set_set, nI_clamp (by omega), upd_fill (f := fun _ => 0)]
      refine tc_iinc (v := nI (k + 1)) (loc2 := [some (.inr 187), some (.inl (nI (k + 1)))]) hC dX11_init_219 rfl (nI_succ k).symm (by decide) rfl ?_
      refine tc_goto hC dX11_init_222 (tgt := 205) rfl ?_
      exact ih (k + 1) (by omega)
  have := key 48 0 (by omega)
  rw [fill0 (f := fun _ => 0), set_same h3] at this
  exact this
def csP_1 : List CC := (([] : List CC) ++ ([.inl (10, [none, none, none, none, none, none, none, none, none])] : List CC))
def csP_2 : List CC := (csP_1 ++ ([.inl (2, [none, none, some (.inl 0), some (.inl 0)])] : List CC))
def csQ_2 : List CC := ((((((((((((csP_2 ++ ([.inr (.inl (40, fun _ => 0))] : List CC)).set 1 (.inl (2, [some (.inr 2), none, some (.inl 0), some (.inl 0)]))) ++ ((.inr (.inr (6, 4)) :: List.replicate 6 (.inr (.inl (8, fun _ => 0)))) : List CC)).set 1 (.inl (2, [some (.inr 2), some (.inr 3), some (.inl 0), some (.inl 0)]))).set 1 (.inl (2, [some (.inr 2), some (.inr 3), some (.inl 0), some (.inl 0)]))).set 1 (.inl (2, [some (.inr 2), some (.inr 3), some (.inl 0), some (.inl 1)]))).set 4 (.inr (.inl (8, fun k => if k < 8 then 25 else 0)))).set 5 (.inr (.inl (8, fun k => if k < 8 then 25 else 0)))).set 6 (.inr (.inl (8, fun k => if k < 8 then 25 else 0)))).set 7 (.inr (.inl (8, fun k => if k < 8 then 25 else 0)))).set 8 (.inr (.inl (8, fun k => if k < 8 then 25 else 0)))).set 9 (.inr (.inl (8, fun k => if k < 8 then 25 else 0))))
set_option maxRecDepth 100000 in
set_option maxHeartbeats 4000000 in
theorem CI_2 (l : Launch) : CMet l i_X2_init 1 23 8 94 nests [.inr 1] csP_2 csQ_2 := by
  refine cw_met (by decide) (Nat.le_of_ble_eq_true rfl) rfl (fun κ hl hC hT hI => ?_)
  replace hI := hI rfl
  subst hl
  show WC κ 0 [some (.inr 1), none] [] csP_2 0 0
  refine tc_aload_n hC dX2_init_0 rfl rfl ?_
  refine tc_objInit hC dX2_init_1 oi_X2_3 ⟨Nat.le_of_ble_eq_true rfl, Nat.le_of_ble_eq_true rfl⟩ ?_
  refine tc_aload_n hC dX2_init_4 rfl rfl ?_
  refine tc_const (v := 40) hC dX2_init_5 (Or.inr (Or.inl ⟨_, rfl, rfl, by decide⟩)) ?_
  refine tc_newa (N := 40) (n := 2) hC dX2_init_7 w_ac ⟨by decide, by decide, by decide⟩ ⟨Nat.le_of_ble_eq_true rfl, Nat.le_of_ble_eq_true rfl⟩ rfl ?_
  refine tc_put (fs := [none, none, some (.inl 0), some (.inl 0)]) (fs2 := [some (.inr 2), none, some (.inl 0), some (.inl 0)]) hC hI dX2_init_9 pf_X2_9 rfl (by decide) (fun _ => ⟨rfl, rfl⟩) rfl ?_
  refine tc_aload_n hC dX2_init_12 rfl rfl ?_
  refine tc_const (v := 6) hC dX2_init_13 (Or.inr (Or.inl ⟨_, rfl, rfl, by decide⟩)) ?_
  refine tc_const (v := 8) hC dX2_init_15 (Or.inr (Or.inl ⟨_, rfl, rfl, by decide⟩)) ?_
  refine tc_mna (N := 6) (K := 8) (n := 3) hC dX2_init_17 mn_X2_15 ⟨by decide, by decide, by decide, by decide, by decide, by decide⟩ ⟨Nat.le_of_ble_eq_true rfl, Nat.le_of_ble_eq_true rfl⟩ rfl ?_
  refine tc_put (fs := [some (.inr 2), none, some (.inl 0), some (.inl 0)]) (fs2 := [some (.inr 2), some (.inr 3), some (.inl 0), some (.inl 0)]) hC hI dX2_init_21 pf_X2_17 rfl (by decide) (fun _ => ⟨rfl, rfl⟩) rfl ?_
  refine tc_aload_n hC dX2_init_24 rfl rfl ?_
  refine tc_const (v := 0) hC dX2_init_25 (Or.inl ⟨_, rfl, rfl, by decide⟩) ?_
  refine tc_put (fs := [some (.inr 2), some (.inr 3), some (.inl 0), some (.inl 0)]) (fs2 := [some (.inr 2), some (.inr 3), some (.inl 0), some (.inl 0)]) hC hI dX2_init_26 pf_X2_20 rfl (by decide) (fun _ => ⟨rfl, rfl⟩) rfl ?_
  refine tc_aload_n hC dX2_init_29 rfl rfl ?_
  refine tc_const (v := 1) hC dX2_init_30 (Or.inl ⟨_, rfl, rfl, by decide⟩) ?_
  refine tc_put (fs := [some (.inr 2), some (.inr 3), some (.inl 0), some (.inl 0)]) (fs2 := [some (.inr 2), some (.inr 3), some (.inl 0), some (.inl 1)]) hC hI dX2_init_31 pf_X2_24 rfl (by decide) (fun _ => ⟨rfl, rfl⟩) rfl ?_
  refine tc_const (v := 0) hC dX2_init_34 (Or.inl ⟨_, rfl, rfl, by decide⟩) ?_
  refine tc_istore_n (loc2 := [some (.inr 1), some (.inl 0)]) hC dX2_init_35 rfl (by decide) rfl ?_
  refine tc_iload_n hC dX2_init_36 rfl rfl ?_
  refine tc_const (v := 6) hC dX2_init_37 (Or.inr (Or.inl ⟨_, rfl, rfl, by decide⟩)) ?_
  refine tc_ge hC dX2_init_39 (tgt := 59) rfl (fun h => absurd h (by decide)) (fun _ => ?_)
  refine tc_aload_n hC dX2_init_42 rfl rfl ?_
  refine tc_getr hC dX2_init_43 gf_X2_17 rfl rfl ?_
  refine tc_iload_n hC dX2_init_46 rfl rfl ?_
  refine tc_aald (v := 4) hC dX2_init_47 rfl (by unfold vp_in; decide) (by decide) ?_
  refine tc_const (v := 25) hC dX2_init_48 (Or.inr (Or.inl ⟨_, rfl, rfl, by decide⟩)) ?_
  refine tc_static (As := [.inr 4, .inl 25]) (fr2 := 0) (lo2 := 0) hC dX2_init_50 mc_X2_27 mst_J7_fill_53178 ⟨Nat.le_of_ble_eq_true rfl, Nat.le_of_ble_eq_true rfl, Nat.le_of_ble_eq_true rfl⟩ ⟨Nat.le_of_ble_eq_true rfl, Nat.le_of_ble_eq_true rfl⟩ rfl (C_fill (n := 8) (f := fun _ => 0) _ _ rfl (by decide)) ?_
  refine tc_iinc (v := 1) (loc2 := [some (.inr 1), some (.inl 1)]) hC dX2_init_53 rfl (by decide) (by decide) rfl ?_
  refine tc_goto hC dX2_init_56 (tgt := 36) rfl ?_
  refine tc_iload_n hC dX2_init_36 rfl rfl ?_
  refine tc_const (v := 6) hC dX2_init_37 (Or.inr (Or.inl ⟨_, rfl, rfl, by decide⟩)) ?_
  refine tc_ge hC dX2_init_39 (tgt := 59) rfl (fun h => absurd h (by decide)) (fun _ => ?_)
  refine tc_aload_n hC dX2_init_42 rfl rfl ?_
  refine tc_getr hC dX2_init_43 gf_X2_17 rfl rfl ?_
  refine tc_iload_n hC dX2_init_46 rfl rfl ?_
  refine tc_aald (v := 5) hC dX2_init_47 rfl (by unfold vp_in; decide) (by decide) ?_
  refine tc_const (v := 25) hC dX2_init_48 (Or.inr (Or.inl ⟨_, rfl, rfl, by decide⟩)) ?_
  refine tc_static (As := [.inr 5, .inl 25]) (fr2 := 0) (lo2 := 0) hC dX2_init_50 mc_X2_27 mst_J7_fill_53178 ⟨Nat.le_of_ble_eq_true rfl, Nat.le_of_ble_eq_true rfl, Nat.le_of_ble_eq_true rfl⟩ ⟨Nat.le_of_ble_eq_true rfl, Nat.le_of_ble_eq_true rfl⟩ rfl (C_fill (n := 8) (f := fun _ => 0) _ _ rfl (by decide)) ?_
  refine tc_iinc (v := 2) (loc2 := [some (.inr 1), some (.inl 2)]) hC dX2_init_53 rfl (by decide) (by decide) rfl ?_
  refine tc_goto hC dX2_init_56 (tgt := 36) rfl ?_
  refine tc_iload_n hC dX2_init_36 rfl rfl ?_
  refine tc_const (v := 6) hC dX2_init_37 (Or.inr (Or.inl ⟨_, rfl, rfl, by decide⟩)) ?_
  refine tc_ge hC dX2_init_39 (tgt := 59) rfl (fun h => absurd h (by decide)) (fun _ => ?_)
  refine tc_aload_n hC dX2_init_42 rfl rfl ?_
  refine tc_getr hC dX2_init_43 gf_X2_17 rfl rfl ?_
  refine tc_iload_n hC dX2_init_46 rfl rfl ?_
  refine tc_aald (v := 6) hC dX2_init_47 rfl (by unfold vp_in; decide) (by decide) ?_
  refine tc_const (v := 25) hC dX2_init_48 (Or.inr (Or.inl ⟨_, rfl, rfl, by decide⟩)) ?_
  refine tc_static (As := [.inr 6, .inl 25]) (fr2 := 0) (lo2 := 0) hC dX2_init_50 mc_X2_27 mst_J7_fill_53178 ⟨Nat.le_of_ble_eq_true rfl, Nat.le_of_ble_eq_true rfl, Nat.le_of_ble_eq_true rfl⟩ ⟨Nat.le_of_ble_eq_true rfl, Nat.le_of_ble_eq_true rfl⟩ rfl (C_fill (n := 8) (f := fun _ => 0) _ _ rfl (by decide)) ?_
  refine tc_iinc (v := 3) (loc2 := [some (.inr 1), some (.inl 3)]) hC dX2_init_53 rfl (by decide) (by decide) rfl ?_
  refine tc_goto hC dX2_init_56 (tgt := 36) rfl ?_
  refine tc_iload_n hC dX2_init_36 rfl rfl ?_
  refine tc_const (v := 6) hC dX2_init_37 (Or.inr (Or.inl ⟨_, rfl, rfl, by decide⟩)) ?_
  refine tc_ge hC dX2_init_39 (tgt := 59) rfl (fun h => absurd h (by decide)) (fun _ => ?_)
  refine tc_aload_n hC dX2_init_42 rfl rfl ?_
  refine tc_getr hC dX2_init_43 gf_X2_17 rfl rfl ?_
  refine tc_iload_n hC dX2_init_46 rfl rfl ?_
  refine tc_aald (v := 7) hC dX2_init_47 rfl (by unfold vp_in; decide) (by decide) ?_
  refine tc_const (v := 25) hC dX2_init_48 (Or.inr (Or.inl ⟨_, rfl, rfl, by decide⟩)) ?_
  refine tc_static (As := [.inr 7, .inl 25]) (fr2 := 0) (lo2 := 0) hC dX2_init_50 mc_X2_27 mst_J7_fill_53178 ⟨Nat.le_of_ble_eq_true rfl, Nat.le_of_ble_eq_true rfl, Nat.le_of_ble_eq_true rfl⟩ ⟨Nat.le_of_ble_eq_true rfl, Nat.le_of_ble_eq_true rfl⟩ rfl (C_fill (n := 8) (f := fun _ => 0) _ _ rfl (by decide)) ?_
  refine tc_iinc (v := 4) (loc2 := [some (.inr 1), some (.inl 4)]) hC dX2_init_53 rfl (by decide) (by decide) rfl ?_
  refine tc_goto hC dX2_init_56 (tgt := 36) rfl ?_
  refine tc_iload_n hC dX2_init_36 rfl rfl ?_
  refine tc_const (v := 6) hC dX2_init_37 (Or.inr (Or.inl ⟨_, rfl, rfl, by decide⟩)) ?_
  refine tc_ge hC dX2_init_39 (tgt := 59) rfl (fun h => absurd h (by decide)) (fun _ => ?_)
  refine tc_aload_n hC dX2_init_42 rfl rfl ?_
  refine tc_getr hC dX2_init_43 gf_X2_17 rfl rfl ?_
  refine tc_iload_n hC dX2_init_46 rfl rfl ?_
  refine tc_aald (v := 8) hC dX2_init_47 rfl (by unfold vp_in; decide) (by decide) ?_
  refine tc_const (v := 25) hC dX2_init_48 (Or.inr (Or.inl ⟨_, rfl, rfl, by decide⟩)) ?_
  refine tc_static (As := [.inr 8, .inl 25]) (fr2 := 0) (lo2 := 0) hC dX2_init_50 mc_X2_27 mst_J7_fill_53178 ⟨Nat.le_of_ble_eq_true rfl, Nat.le_of_ble_eq_true rfl, Nat.le_of_ble_eq_true rfl⟩ ⟨Nat.le_of_ble_eq_true rfl, Nat.le_of_ble_eq_true rfl⟩ rfl (C_fill (n := 8) (f := fun _ => 0) _ _ rfl (by decide)) ?_
  refine tc_iinc (v := 5) (loc2 := [some (.inr 1), some (.inl 5)]) hC dX2_init_53 rfl (by decide) (by decide) rfl ?_
  refine tc_goto hC dX2_init_56 (tgt := 36) rfl ?_
  refine tc_iload_n hC dX2_init_36 rfl rfl ?_
  refine tc_const (v := 6) hC dX2_init_37 (Or.inr (Or.inl ⟨_, rfl, rfl, by decide⟩)) ?_
  refine tc_ge hC dX2_init_39 (tgt := 59) rfl (fun h => absurd h (by decide)) (fun _ => ?_)
  refine tc_aload_n hC dX2_init_42 rfl rfl ?_
  refine tc_getr hC dX2_init_43 gf_X2_17 rfl rfl ?_
  refine tc_iload_n hC dX2_init_46 rfl rfl ?_
  refine tc_aald (v := 9) hC dX2_init_47 rfl (by unfold vp_in; decide) (by decide) ?_
  refine tc_const (v := 25) hC dX2_init_48 (Or.inr (Or.inl ⟨_, rfl, rfl, by decide⟩)) ?_
  refine tc_static (As := [.inr 9, .inl 25]) (fr2 := 0) (lo2 := 0) hC dX2_init_50 mc_X2_27 mst_J7_fill_53178 ⟨Nat.le_of_ble_eq_true rfl, Nat.le_of_ble_eq_true rfl, Nat.le_of_ble_eq_true rfl⟩ ⟨Nat.le_of_ble_eq_true rfl, Nat.le_of_ble_eq_true rfl⟩ rfl (C_fill (n := 8) (f := fun _ => 0) _ _ rfl (by decide)) ?_
  refine tc_iinc (v := 6) (loc2 := [some (.inr 1), some (.inl 6)]) hC dX2_init_53 rfl (by decide) (by decide) rfl ?_
  refine tc_goto hC dX2_init_56 (tgt := 36) rfl ?_
  refine tc_iload_n hC dX2_init_36 rfl rfl ?_
  refine tc_const (v := 6) hC dX2_init_37 (Or.inr (Or.inl ⟨_, rfl, rfl, by decide⟩)) ?_
  refine tc_ge hC dX2_init_39 (tgt := 59) rfl (fun _ => ?_) (fun h => absurd (by decide) h)
  exact tc_ret hC hT dX2_init_59 ⟨Nat.le_of_ble_eq_true rfl, Nat.le_of_ble_eq_true rfl⟩
def csP_3 : List CC := ((csQ_2.set 0 (.inl (10, [some (.inr 1), none, none, none, none, none, none, none, none]))) ++ ([.inl (5, [none, none, none, none, some (.inl 0)])] : List CC))
def csQ_3 : List CC := (((((((((csP_3 ++ ((.inr (.inr (16, 12)) :: List.replicate 16 (.inr (.inl (4, fun _ => 0)))) : List CC)).set 10 (.inl (5, [some (.inr 11), none, none, none, some (.inl 0)]))) ++ ([.inr (.inl (16, fun _ => 0))] : List CC)).set 10 (.inl (5, [some (.inr 11), some (.inr 28), none, none, some (.inl 0)]))) ++ ([.inr (.inl (8, fun _ => 0))] : List CC)).set 10 (.inl (5, [some (.inr 11), some (.inr 28), some (.inr 29), none, some (.inl 0)]))) ++ ((.inr (.inr (9, 31)) :: List.replicate 9 (.inr (.inl (9, fun _ => 0)))) : List CC)).set 10 (.inl (5, [some (.inr 11), some (.inr 28), some (.inr 29), some (.inr 30), some (.inl 0)]))).set 10 (.inl (5, [some (.inr 11), some (.inr 28), some (.inr 29), some (.inr 30), some (.inl 0)])))
set_option maxRecDepth 100000 in
set_option maxHeartbeats 4000000 in
theorem CI_3 (l : Launch) : CMet l i_X5_init 1 20 29 194 nests [.inr 10] csP_3 csQ_3 := by
  refine cw_met (by decide) (Nat.le_of_ble_eq_true rfl) rfl (fun κ hl hC hT hI => ?_)
  replace hI := hI rfl
  subst hl
  show WC κ 0 [some (.inr 10)] [] csP_3 0 0
  refine tc_aload_n hC dX5_init_0 rfl rfl ?_
  refine tc_objInit hC dX5_init_1 oi_X5_3 ⟨Nat.le_of_ble_eq_true rfl, Nat.le_of_ble_eq_true rfl⟩ ?_
  refine tc_aload_n hC dX5_init_4 rfl rfl ?_
  refine tc_const (v := 16) hC dX5_init_5 (Or.inr (Or.inl ⟨_, rfl, rfl, by decide⟩)) ?_
  refine tc_const (v := 4) hC dX5_init_7 (Or.inl ⟨_, rfl, rfl, by decide⟩) ?_
  refine tc_mna (N := 16) (K := 4) (n := 11) hC dX5_init_8 mn_X5_9 ⟨by decide, by decide, by decide, by decide, by decide, by decide⟩ ⟨Nat.le_of_ble_eq_true rfl, Nat.le_of_ble_eq_true rfl⟩ rfl ?_
  refine tc_put (fs := [none, none, none, none, some (.inl 0)]) (fs2 := [some (.inr 11), none, none, none, some (.inl 0)]) hC hI dX5_init_12 pf_X5_11 rfl (by decide) (fun _ => ⟨rfl, rfl⟩) rfl ?_
  refine tc_aload_n hC dX5_init_15 rfl rfl ?_
  refine tc_const (v := 16) hC dX5_init_16 (Or.inr (Or.inl ⟨_, rfl, rfl, by decide⟩)) ?_
  refine tc_newa (N := 16) (n := 28) hC dX5_init_18 w_ac ⟨by decide, by decide, by decide⟩ ⟨Nat.le_of_ble_eq_true rfl, Nat.le_of_ble_eq_true rfl⟩ rfl ?_
  refine tc_put (fs := [some (.inr 11), none, none, none, some (.inl 0)]) (fs2 := [some (.inr 11), some (.inr 28), none, none, some (.inl 0)]) hC hI dX5_init_20 pf_X5_16 rfl (by decide) (fun _ => ⟨rfl, rfl⟩) rfl ?_
  refine tc_aload_n hC dX5_init_23 rfl rfl ?_
  refine tc_const (v := 8) hC dX5_init_24 (Or.inr (Or.inl ⟨_, rfl, rfl, by decide⟩)) ?_
  refine tc_newa (N := 8) (n := 29) hC dX5_init_26 w_ac ⟨by decide, by decide, by decide⟩ ⟨Nat.le_of_ble_eq_true rfl, Nat.le_of_ble_eq_true rfl⟩ rfl ?_
  refine tc_put (fs := [some (.inr 11), some (.inr 28), none, none, some (.inl 0)]) (fs2 := [some (.inr 11), some (.inr 28), some (.inr 29), none, some (.inl 0)]) hC hI dX5_init_28 pf_X5_20 rfl (by decide) (fun _ => ⟨rfl, rfl⟩) rfl ?_
  refine tc_aload_n hC dX5_init_31 rfl rfl ?_
  refine tc_const (v := 9) hC dX5_init_32 (Or.inr (Or.inl ⟨_, rfl, rfl, by decide⟩)) ?_
  refine tc_const (v := 9) hC dX5_init_34 (Or.inr (Or.inl ⟨_, rfl, rfl, by decide⟩)) ?_
  refine tc_mna (N := 9) (K := 9) (n := 30) hC dX5_init_36 mn_X5_9 ⟨by decide, by decide, by decide, by decide, by decide, by decide⟩ ⟨Nat.le_of_ble_eq_true rfl, Nat.le_of_ble_eq_true rfl⟩ rfl ?_
  refine tc_put (fs := [some (.inr 11), some (.inr 28), some (.inr 29), none, some (.inl 0)]) (fs2 := [some (.inr 11), some (.inr 28), some (.inr 29), some (.inr 30), some (.inl 0)]) hC hI dX5_init_40 pf_X5_23 rfl (by decide) (fun _ => ⟨rfl, rfl⟩) rfl ?_
  refine tc_aload_n hC dX5_init_43 rfl rfl ?_
  refine tc_const (v := 0) hC dX5_init_44 (Or.inl ⟨_, rfl, rfl, by decide⟩) ?_
  refine tc_put (fs := [some (.inr 11), some (.inr 28), some (.inr 29), some (.inr 30), some (.inl 0)]) (fs2 := [some (.inr 11), some (.inr 28), some (.inr 29), some (.inr 30), some (.inl 0)]) hC hI dX5_init_45 pf_X5_26 rfl (by decide) (fun _ => ⟨rfl, rfl⟩) rfl ?_
  exact tc_ret hC hT dX5_init_48 ⟨Nat.le_of_ble_eq_true rfl, Nat.le_of_ble_eq_true rfl⟩
def csP_4 : List CC := ((csQ_3.set 0 (.inl (10, [some (.inr 1), some (.inr 10), none, none, none, none, none, none, none]))) ++ ([.inl (6, [none, none, none, none, none, some (.inl 0), some (.inl 0)])] : List CC))
def csP_5 : List CC := (((((((csP_4 ++ ((.inr (.inr (40, 42)) :: List.replicate 40 (.inr (.inl (8, fun _ => 0)))) : List CC)).set 40 (.inl (6, [some (.inr 41), none, none, none, none, some (.inl 0), some (.inl 0)]))) ++ ((.inr (.inr (16, 83)) :: List.replicate 16 (.inr (.inl (4, fun _ => 0)))) : List CC)).set 40 (.inl (6, [some (.inr 41), some (.inr 82), none, none, none, some (.inl 0), some (.inl 0)]))) ++ ([.inr (.inl (41, fun _ => 0))] : List CC)).set 40 (.inl (6, [some (.inr 41), some (.inr 82), some (.inr 99), none, none, some (.inl 0), some (.inl 0)]))) ++ ([.inl (8, [none, none, none])] : List CC))
def csQ_5 : List CC := ((((((csP_5 ++ ([.inr (.inl (41, fun _ => 0))] : List CC)).set 100 (.inl (8, [some (.inr 101), none, none]))) ++ ([.inr (.inl (41, fun _ => 0))] : List CC)).set 100 (.inl (8, [some (.inr 101), some (.inr 102), none]))) ++ ([.inr (.inl (4, fun _ => 0))] : List CC)).set 100 (.inl (8, [some (.inr 101), some (.inr 102), some (.inr 103)])))
set_option maxRecDepth 100000 in
set_option maxHeartbeats 4000000 in
theorem CI_5 (l : Launch) : CMet l i_X8_init 1 20 3 86 nests [.inr 100] csP_5 csQ_5 := by
  refine cw_met (by decide) (Nat.le_of_ble_eq_true rfl) rfl (fun κ hl hC hT hI => ?_)
  replace hI := hI rfl
  subst hl
  show WC κ 0 [some (.inr 100)] [] csP_5 0 0
  refine tc_aload_n hC dX8_init_0 rfl rfl ?_
  refine tc_objInit hC dX8_init_1 oi_X8_3 ⟨Nat.le_of_ble_eq_true rfl, Nat.le_of_ble_eq_true rfl⟩ ?_
  refine tc_aload_n hC dX8_init_4 rfl rfl ?_
  refine tc_const (v := 41) hC dX8_init_5 (Or.inr (Or.inl ⟨_, rfl, rfl, by decide⟩)) ?_
  refine tc_newa (N := 41) (n := 101) hC dX8_init_7 w_ac ⟨by decide, by decide, by decide⟩ ⟨Nat.le_of_ble_eq_true rfl, Nat.le_of_ble_eq_true rfl⟩ rfl ?_
  refine tc_put (fs := [none, none, none]) (fs2 := [some (.inr 101), none, none]) hC hI dX8_init_9 pf_X8_9 rfl (by decide) (fun _ => ⟨rfl, rfl⟩) rfl ?_
  refine tc_aload_n hC dX8_init_12 rfl rfl ?_
  refine tc_const (v := 41) hC dX8_init_13 (Or.inr (Or.inl ⟨_, rfl, rfl, by decide⟩)) ?_
  refine tc_newa (N := 41) (n := 102) hC dX8_init_15 w_ac ⟨by decide, by decide, by decide⟩ ⟨Nat.le_of_ble_eq_true rfl, Nat.le_of_ble_eq_true rfl⟩ rfl ?_
  refine tc_put (fs := [some (.inr 101), none, none]) (fs2 := [some (.inr 101), some (.inr 102), none]) hC hI dX8_init_17 pf_X8_15 rfl (by decide) (fun _ => ⟨rfl, rfl⟩) rfl ?_
  refine tc_aload_n hC dX8_init_20 rfl rfl ?_
  refine tc_const (v := 4) hC dX8_init_21 (Or.inl ⟨_, rfl, rfl, by decide⟩) ?_
  refine tc_newa (N := 4) (n := 103) hC dX8_init_22 w_ac ⟨by decide, by decide, by decide⟩ ⟨Nat.le_of_ble_eq_true rfl, Nat.le_of_ble_eq_true rfl⟩ rfl ?_
  refine tc_put (fs := [some (.inr 101), some (.inr 102), none]) (fs2 := [some (.inr 101), some (.inr 102), some (.inr 103)]) hC hI dX8_init_24 pf_X8_18 rfl (by decide) (fun _ => ⟨rfl, rfl⟩) rfl ?_
  exact tc_ret hC hT dX8_init_27 ⟨Nat.le_of_ble_eq_true rfl, Nat.le_of_ble_eq_true rfl⟩
def csP_6 : List CC := ((csQ_5.set 40 (.inl (6, [some (.inr 41), some (.inr 82), some (.inr 99), some (.inr 100), none, some (.inl 0), some (.inl 0)]))) ++ ([.inl (7, [none, some (.inl 0)])] : List CC))
def csQ_6 : List CC := (((csP_6.set 104 (.inl (7, [none, some (.inl 0)]))) ++ ([.inr (.inl (40, fun _ => 0))] : List CC)).set 104 (.inl (7, [some (.inr 105), some (.inl 0)])))
set_option maxRecDepth 100000 in
set_option maxHeartbeats 4000000 in
theorem CI_6 (l : Launch) : CMet l i_X7_init 1 21 1 40 nests [.inr 104, .inl 40] csP_6 csQ_6 := by
  refine cw_met (by decide) (Nat.le_of_ble_eq_true rfl) rfl (fun κ hl hC hT hI => ?_)
  replace hI := hI rfl
  subst hl
  show WC κ 0 [some (.inr 104), some (.inl 40)] [] csP_6 0 0
  refine tc_aload_n hC dX7_init_0 rfl rfl ?_
  refine tc_objInit hC dX7_init_1 oi_X7_3 ⟨Nat.le_of_ble_eq_true rfl, Nat.le_of_ble_eq_true rfl⟩ ?_
  refine tc_aload_n hC dX7_init_4 rfl rfl ?_
  refine tc_const (v := 0) hC dX7_init_5 (Or.inl ⟨_, rfl, rfl, by decide⟩) ?_
  refine tc_put (fs := [none, some (.inl 0)]) (fs2 := [none, some (.inl 0)]) hC hI dX7_init_6 pf_X7_9 rfl (by decide) (fun _ => ⟨rfl, rfl⟩) rfl ?_
  refine tc_aload_n hC dX7_init_9 rfl rfl ?_
  refine tc_iload_n hC dX7_init_10 rfl rfl ?_
  refine tc_const (v := 0) hC dX7_init_11 (Or.inl ⟨_, rfl, rfl, by decide⟩) ?_
  refine tc_max (v := 40) hC dX7_init_12 mm_X7_15 ⟨Nat.le_of_ble_eq_true rfl, Nat.le_of_ble_eq_true rfl⟩ ⟨Nat.le_of_ble_eq_true rfl, Nat.le_of_ble_eq_true rfl⟩ (by decide) ?_
  refine tc_newa (N := 40) (n := 105) hC dX7_init_15 w_ac ⟨by decide, by decide, by decide⟩ ⟨Nat.le_of_ble_eq_true rfl, Nat.le_of_ble_eq_true rfl⟩ rfl ?_
  refine tc_put (fs := [none, some (.inl 0)]) (fs2 := [some (.inr 105), some (.inl 0)]) hC hI dX7_init_17 pf_X7_21 rfl (by decide) (fun _ => ⟨rfl, rfl⟩) rfl ?_
  exact tc_ret hC hT dX7_init_20 ⟨Nat.le_of_ble_eq_true rfl, Nat.le_of_ble_eq_true rfl⟩
def csQ_4 : List CC := (((csQ_6.set 40 (.inl (6, [some (.inr 41), some (.inr 82), some (.inr 99), some (.inr 100), some (.inr 104), some (.inl 0), some (.inl 0)]))).set 40 (.inl (6, [some (.inr 41), some (.inr 82), some (.inr 99), some (.inr 100), some (.inr 104), some (.inl 1000000), some (.inl 0)]))).set 40 (.inl (6, [some (.inr 41), some (.inr 82), some (.inr 99), some (.inr 100), some (.inr 104), some (.inl 1000000), some (.inl 0)])))
set_option maxRecDepth 100000 in
set_option maxHeartbeats 4000000 in
theorem CI_4 (l : Launch) : CMet l i_X6_init 2 42 65 612 nests [.inr 40] csP_4 csQ_4 := by
  refine cw_met (by decide) (Nat.le_of_ble_eq_true rfl) rfl (fun κ hl hC hT hI => ?_)
  replace hI := hI rfl
  subst hl
  show WC κ 0 [some (.inr 40)] [] csP_4 0 0
  refine tc_aload_n hC dX6_init_0 rfl rfl ?_
  refine tc_objInit hC dX6_init_1 oi_X6_3 ⟨Nat.le_of_ble_eq_true rfl, Nat.le_of_ble_eq_true rfl⟩ ?_
  refine tc_aload_n hC dX6_init_4 rfl rfl ?_
  refine tc_const (v := 40) hC dX6_init_5 (Or.inr (Or.inl ⟨_, rfl, rfl, by decide⟩)) ?_
  refine tc_const (v := 8) hC dX6_init_7 (Or.inr (Or.inl ⟨_, rfl, rfl, by decide⟩)) ?_
  refine tc_mna (N := 40) (K := 8) (n := 41) hC dX6_init_9 mn_X6_9 ⟨by decide, by decide, by decide, by decide, by decide, by decide⟩ ⟨Nat.le_of_ble_eq_true rfl, Nat.le_of_ble_eq_true rfl⟩ rfl ?_
  refine tc_put (fs := [none, none, none, none, none, some (.inl 0), some (.inl 0)]) (fs2 := [some (.inr 41), none, none, none, none, some (.inl 0), some (.inl 0)]) hC hI dX6_init_13 pf_X6_11 rfl (by decide) (fun _ => ⟨rfl, rfl⟩) rfl ?_
  refine tc_aload_n hC dX6_init_16 rfl rfl ?_
  refine tc_const (v := 16) hC dX6_init_17 (Or.inr (Or.inl ⟨_, rfl, rfl, by decide⟩)) ?_
  refine tc_const (v := 4) hC dX6_init_19 (Or.inl ⟨_, rfl, rfl, by decide⟩) ?_
  refine tc_mna (N := 16) (K := 4) (n := 82) hC dX6_init_20 mn_X6_9 ⟨by decide, by decide, by decide, by decide, by decide, by decide⟩ ⟨Nat.le_of_ble_eq_true rfl, Nat.le_of_ble_eq_true rfl⟩ rfl ?_
  refine tc_put (fs := [some (.inr 41), none, none, none, none, some (.inl 0), some (.inl 0)]) (fs2 := [some (.inr 41), some (.inr 82), none, none, none, some (.inl 0), some (.inl 0)]) hC hI dX6_init_24 pf_X6_16 rfl (by decide) (fun _ => ⟨rfl, rfl⟩) rfl ?_
  refine tc_aload_n hC dX6_init_27 rfl rfl ?_
  refine tc_const (v := 41) hC dX6_init_28 (Or.inr (Or.inl ⟨_, rfl, rfl, by decide⟩)) ?_
  refine tc_newa (N := 41) (n := 99) hC dX6_init_30 w_ac ⟨by decide, by decide, by decide⟩ ⟨Nat.le_of_ble_eq_true rfl, Nat.le_of_ble_eq_true rfl⟩ rfl ?_
  refine tc_put (fs := [some (.inr 41), some (.inr 82), none, none, none, some (.inl 0), some (.inl 0)]) (fs2 := [some (.inr 41), some (.inr 82), some (.inr 99), none, none, some (.inl 0), some (.inl 0)]) hC hI dX6_init_32 pf_X6_19 rfl (by decide) (fun _ => ⟨rfl, rfl⟩) rfl ?_
  refine tc_aload_n hC dX6_init_35 rfl rfl ?_
  refine tc_new (n := 100) hC dX6_init_36 nc_X6_23 ⟨Nat.le_of_ble_eq_true rfl, Nat.le_of_ble_eq_true rfl⟩ rfl ?_
  refine tc_dup hC dX6_init_39 ?_
  refine tc_init (As := []) (fr2 := 1) (lo2 := 20) (mc2 := 3) (ms2 := 86) hC dX6_init_40 ⟨rfl, rfl⟩ iw_X8_init iv_X8_init (Or.inr ⟨_, List.mem_of_getElem? (i := 2) rfl⟩) ⟨Nat.le_of_ble_eq_true rfl, Nat.le_of_ble_eq_true rfl, Nat.le_of_ble_eq_true rfl⟩ ⟨Nat.le_of_ble_eq_true rfl, Nat.le_of_ble_eq_true rfl⟩ rfl (CI_5 _) ?_
  refine tc_put (fs := [some (.inr 41), some (.inr 82), some (.inr 99), none, none, some (.inl 0), some (.inl 0)]) (fs2 := [some (.inr 41), some (.inr 82), some (.inr 99), some (.inr 100), none, some (.inl 0), some (.inl 0)]) hC hI dX6_init_43 pf_X6_26 rfl (by decide) (fun _ => ⟨rfl, rfl⟩) rfl ?_
  refine tc_aload_n hC dX6_init_46 rfl rfl ?_
  refine tc_new (n := 104) hC dX6_init_47 nc_X6_30 ⟨Nat.le_of_ble_eq_true rfl, Nat.le_of_ble_eq_true rfl⟩ rfl ?_
  refine tc_dup hC dX6_init_50 ?_
  refine tc_const (v := 40) hC dX6_init_51 (Or.inr (Or.inl ⟨_, rfl, rfl, by decide⟩)) ?_
  refine tc_init (As := [.inl 40]) (fr2 := 1) (lo2 := 21) (mc2 := 1) (ms2 := 40) hC dX6_init_53 ⟨rfl, rfl⟩ iw_X7_init iv_X7_init (Or.inl (tb_at 134 (by decide +kernel) rfl)) ⟨Nat.le_of_ble_eq_true rfl, Nat.le_of_ble_eq_true rfl, Nat.le_of_ble_eq_true rfl⟩ ⟨Nat.le_of_ble_eq_true rfl, Nat.le_of_ble_eq_true rfl⟩ rfl (CI_6 _) ?_
  refine tc_put (fs := [some (.inr 41), some (.inr 82), some (.inr 99), some (.inr 100), none, some (.inl 0), some (.inl 0)]) (fs2 := [some (.inr 41), some (.inr 82), some (.inr 99), some (.inr 100), some (.inr 104), some (.inl 0), some (.inl 0)]) hC hI dX6_init_56 pf_X6_35 rfl (by decide) (fun _ => ⟨rfl, rfl⟩) rfl ?_
  refine tc_aload_n hC dX6_init_59 rfl rfl ?_
  refine tc_ldc hC dX6_init_60 lc_X6_39 ?_
  refine tc_put (fs := [some (.inr 41), some (.inr 82), some (.inr 99), some (.inr 100), some (.inr 104), some (.inl 0), some (.inl 0)]) (fs2 := [some (.inr 41), some (.inr 82), some (.inr 99), some (.inr 100), some (.inr 104), some (.inl 1000000), some (.inl 0)]) hC hI dX6_init_62 pf_X6_40 rfl (by decide) (fun _ => ⟨rfl, rfl⟩) rfl ?_
  refine tc_aload_n hC dX6_init_65 rfl rfl ?_
  refine tc_const (v := 0) hC dX6_init_66 (Or.inl ⟨_, rfl, rfl, by decide⟩) ?_
  refine tc_put (fs := [some (.inr 41), some (.inr 82), some (.inr 99), some (.inr 100), some (.inr 104), some (.inl 1000000), some (.inl 0)]) (fs2 := [some (.inr 41), some (.inr 82), some (.inr 99), some (.inr 100), some (.inr 104), some (.inl 1000000), some (.inl 0)]) hC hI dX6_init_67 pf_X6_44 rfl (by decide) (fun _ => ⟨rfl, rfl⟩) rfl ?_
  exact tc_ret hC hT dX6_init_70 ⟨Nat.le_of_ble_eq_true rfl, Nat.le_of_ble_eq_true rfl⟩
def csP_7 : List CC := ((csQ_4.set 0 (.inl (10, [some (.inr 1), some (.inr 10), some (.inr 40), none, none, none, none, none, none]))) ++ ([.inl (7, [none, some (.inl 0)])] : List CC))
def csQ_7 : List CC := (((csP_7.set 106 (.inl (7, [none, some (.inl 0)]))) ++ ([.inr (.inl (12, fun _ => 0))] : List CC)).set 106 (.inl (7, [some (.inr 107), some (.inl 0)])))
set_option maxRecDepth 100000 in
set_option maxHeartbeats 4000000 in
theorem CI_7 (l : Launch) : CMet l i_X7_init 1 21 1 12 nests [.inr 106, .inl 12] csP_7 csQ_7 := by
  refine cw_met (by decide) (Nat.le_of_ble_eq_true rfl) rfl (fun κ hl hC hT hI => ?_)
  replace hI := hI rfl
  subst hl
  show WC κ 0 [some (.inr 106), some (.inl 12)] [] csP_7 0 0
  refine tc_aload_n hC dX7_init_0 rfl rfl ?_
  refine tc_objInit hC dX7_init_1 oi_X7_3 ⟨Nat.le_of_ble_eq_true rfl, Nat.le_of_ble_eq_true rfl⟩ ?_
  refine tc_aload_n hC dX7_init_4 rfl rfl ?_
  refine tc_const (v := 0) hC dX7_init_5 (Or.inl ⟨_, rfl, rfl, by decide⟩) ?_
  refine tc_put (fs := [none, some (.inl 0)]) (fs2 := [none, some (.inl 0)]) hC hI dX7_init_6 pf_X7_9 rfl (by decide) (fun _ => ⟨rfl, rfl⟩) rfl ?_
  refine tc_aload_n hC dX7_init_9 rfl rfl ?_
  refine tc_iload_n hC dX7_init_10 rfl rfl ?_
  refine tc_const (v := 0) hC dX7_init_11 (Or.inl ⟨_, rfl, rfl, by decide⟩) ?_
  refine tc_max (v := 12) hC dX7_init_12 mm_X7_15 ⟨Nat.le_of_ble_eq_true rfl, Nat.le_of_ble_eq_true rfl⟩ ⟨Nat.le_of_ble_eq_true rfl, Nat.le_of_ble_eq_true rfl⟩ (by decide) ?_
  refine tc_newa (N := 12) (n := 107) hC dX7_init_15 w_ac ⟨by decide, by decide, by decide⟩ ⟨Nat.le_of_ble_eq_true rfl, Nat.le_of_ble_eq_true rfl⟩ rfl ?_
  refine tc_put (fs := [none, some (.inl 0)]) (fs2 := [some (.inr 107), some (.inl 0)]) hC hI dX7_init_17 pf_X7_21 rfl (by decide) (fun _ => ⟨rfl, rfl⟩) rfl ?_
  exact tc_ret hC hT dX7_init_20 ⟨Nat.le_of_ble_eq_true rfl, Nat.le_of_ble_eq_true rfl⟩
def csP_8 : List CC := ((csQ_7.set 0 (.inl (10, [some (.inr 1), some (.inr 10), some (.inr 40), some (.inr 106), none, none, none, none, none]))) ++ ([.inl (3, [none, none, none, none, some (.inl 0), some (.inl 0)])] : List CC))
def csQ_8 : List CC := ((((((((((csP_8 ++ ([.inr (.inl (96, fun _ => 0))] : List CC)).set 108 (.inl (3, [some (.inr 109), none, none, none, some (.inl 0), some (.inl 0)]))) ++ ([.inr (.inl (12, fun _ => 0))] : List CC)).set 108 (.inl (3, [some (.inr 109), some (.inr 110), none, none, some (.inl 0), some (.inl 0)]))) ++ ((.inr (.inr (41, 112)) :: List.replicate 41 (.inr (.inl (96, fun _ => 0)))) : List CC)).set 108 (.inl (3, [some (.inr 109), some (.inr 110), some (.inr 111), none, some (.inl 0), some (.inl 0)]))) ++ ([.inr (.inl (40, fun _ => 0))] : List CC)).set 108 (.inl (3, [some (.inr 109), some (.inr 110), some (.inr 111), some (.inr 153), some (.inl 0), some (.inl 0)]))).set 108 (.inl (3, [some (.inr 109), some (.inr 110), some (.inr 111), some (.inr 153), some (.inl 0), some (.inl 0)]))).set 108 (.inl (3, [some (.inr 109), some (.inr 110), some (.inr 111), some (.inr 153), some (.inl 0), some (.inl 0)])))
set_option maxRecDepth 100000 in
set_option maxHeartbeats 4000000 in
theorem CI_8 (l : Launch) : CMet l i_X3_init 1 20 45 4125 nests [.inr 108] csP_8 csQ_8 := by
  refine cw_met (by decide) (Nat.le_of_ble_eq_true rfl) rfl (fun κ hl hC hT hI => ?_)
  replace hI := hI rfl
  subst hl
  show WC κ 0 [some (.inr 108)] [] csP_8 0 0
  refine tc_aload_n hC dX3_init_0 rfl rfl ?_
  refine tc_objInit hC dX3_init_1 oi_X3_5 ⟨Nat.le_of_ble_eq_true rfl, Nat.le_of_ble_eq_true rfl⟩ ?_
  refine tc_aload_n hC dX3_init_4 rfl rfl ?_
  refine tc_const (v := 96) hC dX3_init_5 (Or.inr (Or.inl ⟨_, rfl, rfl, by decide⟩)) ?_
  refine tc_newa (N := 96) (n := 109) hC dX3_init_7 w_ac ⟨by decide, by decide, by decide⟩ ⟨Nat.le_of_ble_eq_true rfl, Nat.le_of_ble_eq_true rfl⟩ rfl ?_
  refine tc_put (fs := [none, none, none, none, some (.inl 0), some (.inl 0)]) (fs2 := [some (.inr 109), none, none, none, some (.inl 0), some (.inl 0)]) hC hI dX3_init_9 pf_X3_11 rfl (by decide) (fun _ => ⟨rfl, rfl⟩) rfl ?_
  refine tc_aload_n hC dX3_init_12 rfl rfl ?_
  refine tc_const (v := 12) hC dX3_init_13 (Or.inr (Or.inl ⟨_, rfl, rfl, by decide⟩)) ?_
  refine tc_newa (N := 12) (n := 110) hC dX3_init_15 w_ac ⟨by decide, by decide, by decide⟩ ⟨Nat.le_of_ble_eq_true rfl, Nat.le_of_ble_eq_true rfl⟩ rfl ?_
  refine tc_put (fs := [some (.inr 109), none, none, none, some (.inl 0), some (.inl 0)]) (fs2 := [some (.inr 109), some (.inr 110), none, none, some (.inl 0), some (.inl 0)]) hC hI dX3_init_17 pf_X3_15 rfl (by decide) (fun _ => ⟨rfl, rfl⟩) rfl ?_
  refine tc_aload_n hC dX3_init_20 rfl rfl ?_
  refine tc_const (v := 41) hC dX3_init_21 (Or.inr (Or.inl ⟨_, rfl, rfl, by decide⟩)) ?_
  refine tc_const (v := 96) hC dX3_init_23 (Or.inr (Or.inl ⟨_, rfl, rfl, by decide⟩)) ?_
  refine tc_mna (N := 41) (K := 96) (n := 111) hC dX3_init_25 mn_X3_18 ⟨by decide, by decide, by decide, by decide, by decide, by decide⟩ ⟨Nat.le_of_ble_eq_true rfl, Nat.le_of_ble_eq_true rfl⟩ rfl ?_
  refine tc_put (fs := [some (.inr 109), some (.inr 110), none, none, some (.inl 0), some (.inl 0)]) (fs2 := [some (.inr 109), some (.inr 110), some (.inr 111), none, some (.inl 0), some (.inl 0)]) hC hI dX3_init_29 pf_X3_20 rfl (by decide) (fun _ => ⟨rfl, rfl⟩) rfl ?_
  refine tc_aload_n hC dX3_init_32 rfl rfl ?_
  refine tc_const (v := 40) hC dX3_init_33 (Or.inr (Or.inl ⟨_, rfl, rfl, by decide⟩)) ?_
  refine tc_newa (N := 40) (n := 153) hC dX3_init_35 w_ac ⟨by decide, by decide, by decide⟩ ⟨Nat.le_of_ble_eq_true rfl, Nat.le_of_ble_eq_true rfl⟩ rfl ?_
  refine tc_put (fs := [some (.inr 109), some (.inr 110), some (.inr 111), none, some (.inl 0), some (.inl 0)]) (fs2 := [some (.inr 109), some (.inr 110), some (.inr 111), some (.inr 153), some (.inl 0), some (.inl 0)]) hC hI dX3_init_37 pf_X3_23 rfl (by decide) (fun _ => ⟨rfl, rfl⟩) rfl ?_
  refine tc_aload_n hC dX3_init_40 rfl rfl ?_
  refine tc_const (v := 0) hC dX3_init_41 (Or.inl ⟨_, rfl, rfl, by decide⟩) ?_
  refine tc_put (fs := [some (.inr 109), some (.inr 110), some (.inr 111), some (.inr 153), some (.inl 0), some (.inl 0)]) (fs2 := [some (.inr 109), some (.inr 110), some (.inr 111), some (.inr 153), some (.inl 0), some (.inl 0)]) hC hI dX3_init_42 pf_X3_26 rfl (by decide) (fun _ => ⟨rfl, rfl⟩) rfl ?_
  refine tc_aload_n hC dX3_init_45 rfl rfl ?_
  refine tc_const (v := 0) hC dX3_init_46 (Or.inl ⟨_, rfl, rfl, by decide⟩) ?_
  refine tc_put (fs := [some (.inr 109), some (.inr 110), some (.inr 111), some (.inr 153), some (.inl 0), some (.inl 0)]) (fs2 := [some (.inr 109), some (.inr 110), some (.inr 111), some (.inr 153), some (.inl 0), some (.inl 0)]) hC hI dX3_init_47 pf_X3_30 rfl (by decide) (fun _ => ⟨rfl, rfl⟩) rfl ?_
  exact tc_ret hC hT dX3_init_50 ⟨Nat.le_of_ble_eq_true rfl, Nat.le_of_ble_eq_true rfl⟩
def csP_9 : List CC := ((csQ_8.set 0 (.inl (10, [some (.inr 1), some (.inr 10), some (.inr 40), some (.inr 106), some (.inr 108), none, none, none, none]))) ++ ([.inl (1, [none])] : List CC))
def csQ_9 : List CC := ((csP_9 ++ ([.inr (.inl (41, fun _ => 0))] : List CC)).set 154 (.inl (1, [some (.inr 155)])))
set_option maxRecDepth 100000 in
set_option maxHeartbeats 4000000 in
theorem CI_9 (l : Launch) : CMet l i_X1_init 1 20 1 41 nests [.inr 154] csP_9 csQ_9 := by
  refine cw_met (by decide) (Nat.le_of_ble_eq_true rfl) rfl (fun κ hl hC hT hI => ?_)
  replace hI := hI rfl
  subst hl
  show WC κ 0 [some (.inr 154)] [] csP_9 0 0
  refine tc_aload_n hC dX1_init_0 rfl rfl ?_
  refine tc_objInit hC dX1_init_1 oi_X1_3 ⟨Nat.le_of_ble_eq_true rfl, Nat.le_of_ble_eq_true rfl⟩ ?_
  refine tc_aload_n hC dX1_init_4 rfl rfl ?_
  refine tc_const (v := 41) hC dX1_init_5 (Or.inr (Or.inl ⟨_, rfl, rfl, by decide⟩)) ?_
  refine tc_newa (N := 41) (n := 155) hC dX1_init_7 w_ac ⟨by decide, by decide, by decide⟩ ⟨Nat.le_of_ble_eq_true rfl, Nat.le_of_ble_eq_true rfl⟩ rfl ?_
  refine tc_put (fs := [none]) (fs2 := [some (.inr 155)]) hC hI dX1_init_9 pf_X1_9 rfl (by decide) (fun _ => ⟨rfl, rfl⟩) rfl ?_
  exact tc_ret hC hT dX1_init_12 ⟨Nat.le_of_ble_eq_true rfl, Nat.le_of_ble_eq_true rfl⟩
def csP_10 : List CC := ((csQ_9.set 0 (.inl (10, [some (.inr 1), some (.inr 10), some (.inr 40), some (.inr 106), some (.inr 108), some (.inr 154), none, none, none]))) ++ ([.inl (4, [none, none, some (.inl 0), some (.inl 0)])] : List CC))
def csQ_10 : List CC := ((((((csP_10 ++ ((.inr (.inr (6, 158)) :: List.replicate 6 (.inr (.inl (8, fun _ => 0)))) : List CC)).set 156 (.inl (4, [some (.inr 157), none, some (.inl 0), some (.inl 0)]))) ++ ((.inr (.inr (16, 165)) :: List.replicate 16 (.inr (.inl (48, fun _ => 0)))) : List CC)).set 156 (.inl (4, [some (.inr 157), some (.inr 164), some (.inl 0), some (.inl 0)]))).set 156 (.inl (4, [some (.inr 157), some (.inr 164), some (.inl 0), some (.inl 0)]))).set 156 (.inl (4, [some (.inr 157), some (.inr 164), some (.inl 0), some (.inl 0)])))
set_option maxRecDepth 100000 in
set_option maxHeartbeats 4000000 in
theorem CI_10 (l : Launch) : CMet l i_X4_init 1 20 24 838 nests [.inr 156] csP_10 csQ_10 := by
  refine cw_met (by decide) (Nat.le_of_ble_eq_true rfl) rfl (fun κ hl hC hT hI => ?_)
  replace hI := hI rfl
  subst hl
  show WC κ 0 [some (.inr 156)] [] csP_10 0 0
  refine tc_aload_n hC dX4_init_0 rfl rfl ?_
  refine tc_objInit hC dX4_init_1 oi_X4_3 ⟨Nat.le_of_ble_eq_true rfl, Nat.le_of_ble_eq_true rfl⟩ ?_
  refine tc_aload_n hC dX4_init_4 rfl rfl ?_
  refine tc_const (v := 6) hC dX4_init_5 (Or.inr (Or.inl ⟨_, rfl, rfl, by decide⟩)) ?_
  refine tc_const (v := 8) hC dX4_init_7 (Or.inr (Or.inl ⟨_, rfl, rfl, by decide⟩)) ?_
  refine tc_mna (N := 6) (K := 8) (n := 157) hC dX4_init_9 mn_X4_9 ⟨by decide, by decide, by decide, by decide, by decide, by decide⟩ ⟨Nat.le_of_ble_eq_true rfl, Nat.le_of_ble_eq_true rfl⟩ rfl ?_
  refine tc_put (fs := [none, none, some (.inl 0), some (.inl 0)]) (fs2 := [some (.inr 157), none, some (.inl 0), some (.inl 0)]) hC hI dX4_init_13 pf_X4_11 rfl (by decide) (fun _ => ⟨rfl, rfl⟩) rfl ?_
  refine tc_aload_n hC dX4_init_16 rfl rfl ?_
  refine tc_const (v := 16) hC dX4_init_17 (Or.inr (Or.inl ⟨_, rfl, rfl, by decide⟩)) ?_
  refine tc_const (v := 48) hC dX4_init_19 (Or.inr (Or.inl ⟨_, rfl, rfl, by decide⟩)) ?_
  refine tc_mna (N := 16) (K := 48) (n := 164) hC dX4_init_21 mn_X4_9 ⟨by decide, by decide, by decide, by decide, by decide, by decide⟩ ⟨Nat.le_of_ble_eq_true rfl, Nat.le_of_ble_eq_true rfl⟩ rfl ?_
  refine tc_put (fs := [some (.inr 157), none, some (.inl 0), some (.inl 0)]) (fs2 := [some (.inr 157), some (.inr 164), some (.inl 0), some (.inl 0)]) hC hI dX4_init_25 pf_X4_16 rfl (by decide) (fun _ => ⟨rfl, rfl⟩) rfl ?_
  refine tc_aload_n hC dX4_init_28 rfl rfl ?_
  refine tc_const (v := 0) hC dX4_init_29 (Or.inl ⟨_, rfl, rfl, by decide⟩) ?_
  refine tc_put (fs := [some (.inr 157), some (.inr 164), some (.inl 0), some (.inl 0)]) (fs2 := [some (.inr 157), some (.inr 164), some (.inl 0), some (.inl 0)]) hC hI dX4_init_30 pf_X4_19 rfl (by decide) (fun _ => ⟨rfl, rfl⟩) rfl ?_
  refine tc_aload_n hC dX4_init_33 rfl rfl ?_
  refine tc_const (v := 0) hC dX4_init_34 (Or.inl ⟨_, rfl, rfl, by decide⟩) ?_
  refine tc_put (fs := [some (.inr 157), some (.inr 164), some (.inl 0), some (.inl 0)]) (fs2 := [some (.inr 157), some (.inr 164), some (.inl 0), some (.inl 0)]) hC hI dX4_init_35 pf_X4_23 rfl (by decide) (fun _ => ⟨rfl, rfl⟩) rfl ?_
  exact tc_ret hC hT dX4_init_38 ⟨Nat.le_of_ble_eq_true rfl, Nat.le_of_ble_eq_true rfl⟩
def csP_11 : List CC := ((csQ_10.set 0 (.inl (10, [some (.inr 1), some (.inr 10), some (.inr 40), some (.inr 106), some (.inr 108), some (.inr 154), some (.inr 156), none, none]))) ++ ([.inl (9, [none, some (.inl 0), some (.inl 0), some (.inl 0)])] : List CC))
def csP_12 : List CC := (csP_11 ++ ([.inl (8, [none, none, none])] : List CC))
def csQ_12 : List CC := ((((((csP_12 ++ ([.inr (.inl (41, fun _ => 0))] : List CC)).set 182 (.inl (8, [some (.inr 183), none, none]))) ++ ([.inr (.inl (41, fun _ => 0))] : List CC)).set 182 (.inl (8, [some (.inr 183), some (.inr 184), none]))) ++ ([.inr (.inl (4, fun _ => 0))] : List CC)).set 182 (.inl (8, [some (.inr 183), some (.inr 184), some (.inr 185)])))
set_option maxRecDepth 100000 in
set_option maxHeartbeats 4000000 in
theorem CI_12 (l : Launch) : CMet l i_X8_init 1 20 3 86 nests [.inr 182] csP_12 csQ_12 := by
  refine cw_met (by decide) (Nat.le_of_ble_eq_true rfl) rfl (fun κ hl hC hT hI => ?_)
  replace hI := hI rfl
  subst hl
  show WC κ 0 [some (.inr 182)] [] csP_12 0 0
  refine tc_aload_n hC dX8_init_0 rfl rfl ?_
  refine tc_objInit hC dX8_init_1 oi_X8_3 ⟨Nat.le_of_ble_eq_true rfl, Nat.le_of_ble_eq_true rfl⟩ ?_
  refine tc_aload_n hC dX8_init_4 rfl rfl ?_
  refine tc_const (v := 41) hC dX8_init_5 (Or.inr (Or.inl ⟨_, rfl, rfl, by decide⟩)) ?_
  refine tc_newa (N := 41) (n := 183) hC dX8_init_7 w_ac ⟨by decide, by decide, by decide⟩ ⟨Nat.le_of_ble_eq_true rfl, Nat.le_of_ble_eq_true rfl⟩ rfl ?_
  refine tc_put (fs := [none, none, none]) (fs2 := [some (.inr 183), none, none]) hC hI dX8_init_9 pf_X8_9 rfl (by decide) (fun _ => ⟨rfl, rfl⟩) rfl ?_
  refine tc_aload_n hC dX8_init_12 rfl rfl ?_
  refine tc_const (v := 41) hC dX8_init_13 (Or.inr (Or.inl ⟨_, rfl, rfl, by decide⟩)) ?_
  refine tc_newa (N := 41) (n := 184) hC dX8_init_15 w_ac ⟨by decide, by decide, by decide⟩ ⟨Nat.le_of_ble_eq_true rfl, Nat.le_of_ble_eq_true rfl⟩ rfl ?_
  refine tc_put (fs := [some (.inr 183), none, none]) (fs2 := [some (.inr 183), some (.inr 184), none]) hC hI dX8_init_17 pf_X8_15 rfl (by decide) (fun _ => ⟨rfl, rfl⟩) rfl ?_
  refine tc_aload_n hC dX8_init_20 rfl rfl ?_
  refine tc_const (v := 4) hC dX8_init_21 (Or.inl ⟨_, rfl, rfl, by decide⟩) ?_
  refine tc_newa (N := 4) (n := 185) hC dX8_init_22 w_ac ⟨by decide, by decide, by decide⟩ ⟨Nat.le_of_ble_eq_true rfl, Nat.le_of_ble_eq_true rfl⟩ rfl ?_
  refine tc_put (fs := [some (.inr 183), some (.inr 184), none]) (fs2 := [some (.inr 183), some (.inr 184), some (.inr 185)]) hC hI dX8_init_24 pf_X8_18 rfl (by decide) (fun _ => ⟨rfl, rfl⟩) rfl ?_
  exact tc_ret hC hT dX8_init_27 ⟨Nat.le_of_ble_eq_true rfl, Nat.le_of_ble_eq_true rfl⟩
def csQ_11 : List CC := ((((csQ_12.set 181 (.inl (9, [some (.inr 182), some (.inl 0), some (.inl 0), some (.inl 0)]))).set 181 (.inl (9, [some (.inr 182), some (.inl 0), some (.inl 0), some (.inl 0)]))).set 181 (.inl (9, [some (.inr 182), some (.inl 0), some (.inl 0), some (.inl 0)]))).set 181 (.inl (9, [some (.inr 182), some (.inl 0), some (.inl 0), some (.inl 0)])))
set_option maxRecDepth 100000 in
set_option maxHeartbeats 4000000 in
theorem CI_11 (l : Launch) : CMet l i_X9_init 2 40 4 89 nests [.inr 181] csP_11 csQ_11 := by
  refine cw_met (by decide) (Nat.le_of_ble_eq_true rfl) rfl (fun κ hl hC hT hI => ?_)
  replace hI := hI rfl
  subst hl
  show WC κ 0 [some (.inr 181)] [] csP_11 0 0
  refine tc_aload_n hC dX9_init_0 rfl rfl ?_
  refine tc_objInit hC dX9_init_1 oi_X9_3 ⟨Nat.le_of_ble_eq_true rfl, Nat.le_of_ble_eq_true rfl⟩ ?_
  refine tc_aload_n hC dX9_init_4 rfl rfl ?_
  refine tc_new (n := 182) hC dX9_init_5 nc_X9_9 ⟨Nat.le_of_ble_eq_true rfl, Nat.le_of_ble_eq_true rfl⟩ rfl ?_
  refine tc_dup hC dX9_init_8 ?_
  refine tc_init (As := []) (fr2 := 1) (lo2 := 20) (mc2 := 3) (ms2 := 86) hC dX9_init_9 ⟨rfl, rfl⟩ iw_X8_init iv_X8_init (Or.inr ⟨_, List.mem_of_getElem? (i := 7) rfl⟩) ⟨Nat.le_of_ble_eq_true rfl, Nat.le_of_ble_eq_true rfl, Nat.le_of_ble_eq_true rfl⟩ ⟨Nat.le_of_ble_eq_true rfl, Nat.le_of_ble_eq_true rfl⟩ rfl (CI_12 _) ?_
  refine tc_put (fs := [none, some (.inl 0), some (.inl 0), some (.inl 0)]) (fs2 := [some (.inr 182), some (.inl 0), some (.inl 0), some (.inl 0)]) hC hI dX9_init_12 pf_X9_12 rfl (by decide) (fun _ => ⟨rfl, rfl⟩) rfl ?_
  refine tc_aload_n hC dX9_init_15 rfl rfl ?_
  refine tc_const (v := 0) hC dX9_init_16 (Or.inl ⟨_, rfl, rfl, by decide⟩) ?_
  refine tc_put (fs := [some (.inr 182), some (.inl 0), some (.inl 0), some (.inl 0)]) (fs2 := [some (.inr 182), some (.inl 0), some (.inl 0), some (.inl 0)]) hC hI dX9_init_17 pf_X9_18 rfl (by decide) (fun _ => ⟨rfl, rfl⟩) rfl ?_
  refine tc_aload_n hC dX9_init_20 rfl rfl ?_
  refine tc_const (v := 0) hC dX9_init_21 (Or.inl ⟨_, rfl, rfl, by decide⟩) ?_
  refine tc_put (fs := [some (.inr 182), some (.inl 0), some (.inl 0), some (.inl 0)]) (fs2 := [some (.inr 182), some (.inl 0), some (.inl 0), some (.inl 0)]) hC hI dX9_init_22 pf_X9_22 rfl (by decide) (fun _ => ⟨rfl, rfl⟩) rfl ?_
  refine tc_aload_n hC dX9_init_25 rfl rfl ?_
  refine tc_const (v := 0) hC dX9_init_26 (Or.inl ⟨_, rfl, rfl, by decide⟩) ?_
  refine tc_put (fs := [some (.inr 182), some (.inl 0), some (.inl 0), some (.inl 0)]) (fs2 := [some (.inr 182), some (.inl 0), some (.inl 0), some (.inl 0)]) hC hI dX9_init_27 pf_X9_25 rfl (by decide) (fun _ => ⟨rfl, rfl⟩) rfl ?_
  exact tc_ret hC hT dX9_init_30 ⟨Nat.le_of_ble_eq_true rfl, Nat.le_of_ble_eq_true rfl⟩
def csP_13 : List CC := ((csQ_11.set 0 (.inl (10, [some (.inr 1), some (.inr 10), some (.inr 40), some (.inr 106), some (.inr 108), some (.inr 154), some (.inr 156), some (.inr 181), none]))) ++ ([.inl (0, [some (.inl 0), some (.inl 0), some (.inl 0)])] : List CC))
def csQ_13 : List CC := (((csP_13.set 186 (.inl (0, [some (.inl 1), some (.inl 0), some (.inl 0)]))).set 186 (.inl (0, [some (.inl 1), some (.inl 2), some (.inl 0)]))).set 186 (.inl (0, [some (.inl 1), some (.inl 2), some (.inl 3)])))
set_option maxRecDepth 100000 in
set_option maxHeartbeats 4000000 in
theorem CI_13 (l : Launch) : CMet l i_X0_init 1 20 0 0 nests [.inr 186] csP_13 csQ_13 := by
  refine cw_met (by decide) (Nat.le_of_ble_eq_true rfl) rfl (fun κ hl hC hT hI => ?_)
  replace hI := hI rfl
  subst hl
  show WC κ 0 [some (.inr 186)] [] csP_13 0 0
  refine tc_aload_n hC dX0_init_0 rfl rfl ?_
  refine tc_objInit hC dX0_init_1 oi_X0_3 ⟨Nat.le_of_ble_eq_true rfl, Nat.le_of_ble_eq_true rfl⟩ ?_
  refine tc_aload_n hC dX0_init_4 rfl rfl ?_
  refine tc_const (v := 1) hC dX0_init_5 (Or.inl ⟨_, rfl, rfl, by decide⟩) ?_
  refine tc_put (fs := [some (.inl 0), some (.inl 0), some (.inl 0)]) (fs2 := [some (.inl 1), some (.inl 0), some (.inl 0)]) hC hI dX0_init_6 pf_X0_9 rfl (by decide) (fun _ => ⟨rfl, rfl⟩) rfl ?_
  refine tc_aload_n hC dX0_init_9 rfl rfl ?_
  refine tc_const (v := 2) hC dX0_init_10 (Or.inl ⟨_, rfl, rfl, by decide⟩) ?_
  refine tc_put (fs := [some (.inl 1), some (.inl 0), some (.inl 0)]) (fs2 := [some (.inl 1), some (.inl 2), some (.inl 0)]) hC hI dX0_init_11 pf_X0_15 rfl (by decide) (fun _ => ⟨rfl, rfl⟩) rfl ?_
  refine tc_aload_n hC dX0_init_14 rfl rfl ?_
  refine tc_const (v := 3) hC dX0_init_15 (Or.inl ⟨_, rfl, rfl, by decide⟩) ?_
  refine tc_put (fs := [some (.inl 1), some (.inl 2), some (.inl 0)]) (fs2 := [some (.inl 1), some (.inl 2), some (.inl 3)]) hC hI dX0_init_16 pf_X0_18 rfl (by decide) (fun _ => ⟨rfl, rfl⟩) rfl ?_
  exact tc_ret hC hT dX0_init_19 ⟨Nat.le_of_ble_eq_true rfl, Nat.le_of_ble_eq_true rfl⟩
def csQ_1 : List CC := (csQ_13.set 0 (.inl (10, [some (.inr 1), some (.inr 10), some (.inr 40), some (.inr 106), some (.inr 108), some (.inr 154), some (.inr 156), some (.inr 181), some (.inr 186)])))
set_option maxRecDepth 100000 in
set_option maxHeartbeats 4000000 in
theorem CI_1 (l : Launch) : CMet l i_X10_init 3 62 186 6041 nests [.inr 0] csP_1 csQ_1 := by
  refine cw_met (by decide) (Nat.le_of_ble_eq_true rfl) rfl (fun κ hl hC hT hI => ?_)
  replace hI := hI rfl
  subst hl
  show WC κ 0 [some (.inr 0)] [] csP_1 0 0
  refine tc_aload_n hC dX10_init_0 rfl rfl ?_
  refine tc_objInit hC dX10_init_1 oi_X10_1 ⟨Nat.le_of_ble_eq_true rfl, Nat.le_of_ble_eq_true rfl⟩ ?_
  refine tc_aload_n hC dX10_init_4 rfl rfl ?_
  refine tc_new (n := 1) hC dX10_init_5 nc_X10_7 ⟨Nat.le_of_ble_eq_true rfl, Nat.le_of_ble_eq_true rfl⟩ rfl ?_
  refine tc_dup hC dX10_init_8 ?_
  refine tc_init (As := []) (fr2 := 1) (lo2 := 23) (mc2 := 8) (ms2 := 94) hC dX10_init_9 ⟨rfl, rfl⟩ iw_X2_init iv_X2_init (Or.inl (tb_at 63 (by decide +kernel) rfl)) ⟨Nat.le_of_ble_eq_true rfl, Nat.le_of_ble_eq_true rfl, Nat.le_of_ble_eq_true rfl⟩ ⟨Nat.le_of_ble_eq_true rfl, Nat.le_of_ble_eq_true rfl⟩ rfl (CI_2 _) ?_
  refine tc_put (fs := [none, none, none, none, none, none, none, none, none]) (fs2 := [some (.inr 1), none, none, none, none, none, none, none, none]) hC hI dX10_init_12 pf_X10_10 rfl (by decide) (fun _ => ⟨rfl, rfl⟩) rfl ?_
  refine tc_aload_n hC dX10_init_15 rfl rfl ?_
  refine tc_new (n := 10) hC dX10_init_16 nc_X10_16 ⟨Nat.le_of_ble_eq_true rfl, Nat.le_of_ble_eq_true rfl⟩ rfl ?_
  refine tc_dup hC dX10_init_19 ?_
  refine tc_init (As := []) (fr2 := 1) (lo2 := 20) (mc2 := 29) (ms2 := 194) hC dX10_init_20 ⟨rfl, rfl⟩ iw_X5_init iv_X5_init (Or.inr ⟨_, List.mem_of_getElem? (i := 0) rfl⟩) ⟨Nat.le_of_ble_eq_true rfl, Nat.le_of_ble_eq_true rfl, Nat.le_of_ble_eq_true rfl⟩ ⟨Nat.le_of_ble_eq_true rfl, Nat.le_of_ble_eq_true rfl⟩ rfl (CI_3 _) ?_
  refine tc_put (fs := [some (.inr 1), none, none, none, none, none, none, none, none]) (fs2 := [some (.inr 1), some (.inr 10), none, none, none, none, none, none, none]) hC hI dX10_init_23 pf_X10_19 rfl (by decide) (fun _ => ⟨rfl, rfl⟩) rfl ?_
  refine tc_aload_n hC dX10_init_26 rfl rfl ?_
  refine tc_new (n := 40) hC dX10_init_27 nc_X10_23 ⟨Nat.le_of_ble_eq_true rfl, Nat.le_of_ble_eq_true rfl⟩ rfl ?_
  refine tc_dup hC dX10_init_30 ?_
  refine tc_init (As := []) (fr2 := 2) (lo2 := 42) (mc2 := 65) (ms2 := 612) hC dX10_init_31 ⟨rfl, rfl⟩ iw_X6_init iv_X6_init (Or.inr ⟨_, List.mem_of_getElem? (i := 1) rfl⟩) ⟨Nat.le_of_ble_eq_true rfl, Nat.le_of_ble_eq_true rfl, Nat.le_of_ble_eq_true rfl⟩ ⟨Nat.le_of_ble_eq_true rfl, Nat.le_of_ble_eq_true rfl⟩ rfl (CI_4 _) ?_
  refine tc_put (fs := [some (.inr 1), some (.inr 10), none, none, none, none, none, none, none]) (fs2 := [some (.inr 1), some (.inr 10), some (.inr 40), none, none, none, none, none, none]) hC hI dX10_init_34 pf_X10_26 rfl (by decide) (fun _ => ⟨rfl, rfl⟩) rfl ?_
  refine tc_aload_n hC dX10_init_37 rfl rfl ?_
  refine tc_new (n := 106) hC dX10_init_38 nc_X10_30 ⟨Nat.le_of_ble_eq_true rfl, Nat.le_of_ble_eq_true rfl⟩ rfl ?_
  refine tc_dup hC dX10_init_41 ?_
  refine tc_const (v := 12) hC dX10_init_42 (Or.inr (Or.inl ⟨_, rfl, rfl, by decide⟩)) ?_
  refine tc_init (As := [.inl 12]) (fr2 := 1) (lo2 := 21) (mc2 := 1) (ms2 := 12) hC dX10_init_44 ⟨rfl, rfl⟩ iw_X7_init iv_X7_init (Or.inl (tb_at 172 (by decide +kernel) rfl)) ⟨Nat.le_of_ble_eq_true rfl, Nat.le_of_ble_eq_true rfl, Nat.le_of_ble_eq_true rfl⟩ ⟨Nat.le_of_ble_eq_true rfl, Nat.le_of_ble_eq_true rfl⟩ rfl (CI_7 _) ?_
  refine tc_put (fs := [some (.inr 1), some (.inr 10), some (.inr 40), none, none, none, none, none, none]) (fs2 := [some (.inr 1), some (.inr 10), some (.inr 40), some (.inr 106), none, none, none, none, none]) hC hI dX10_init_47 pf_X10_35 rfl (by decide) (fun _ => ⟨rfl, rfl⟩) rfl ?_
  refine tc_aload_n hC dX10_init_50 rfl rfl ?_
  refine tc_new (n := 108) hC dX10_init_51 nc_X10_39 ⟨Nat.le_of_ble_eq_true rfl, Nat.le_of_ble_eq_true rfl⟩ rfl ?_
  refine tc_dup hC dX10_init_54 ?_
  refine tc_init (As := []) (fr2 := 1) (lo2 := 20) (mc2 := 45) (ms2 := 4125) hC dX10_init_55 ⟨rfl, rfl⟩ iw_X3_init iv_X3_init (Or.inr ⟨_, List.mem_of_getElem? (i := 3) rfl⟩) ⟨Nat.le_of_ble_eq_true rfl, Nat.le_of_ble_eq_true rfl, Nat.le_of_ble_eq_true rfl⟩ ⟨Nat.le_of_ble_eq_true rfl, Nat.le_of_ble_eq_true rfl⟩ rfl (CI_8 _) ?_
  refine tc_put (fs := [some (.inr 1), some (.inr 10), some (.inr 40), some (.inr 106), none, none, none, none, none]) (fs2 := [some (.inr 1), some (.inr 10), some (.inr 40), some (.inr 106), some (.inr 108), none, none, none, none]) hC hI dX10_init_58 pf_X10_42 rfl (by decide) (fun _ => ⟨rfl, rfl⟩) rfl ?_
  refine tc_aload_n hC dX10_init_61 rfl rfl ?_
  refine tc_new (n := 154) hC dX10_init_62 nc_X10_46 ⟨Nat.le_of_ble_eq_true rfl, Nat.le_of_ble_eq_true rfl⟩ rfl ?_
  refine tc_dup hC dX10_init_65 ?_
  refine tc_init (As := []) (fr2 := 1) (lo2 := 20) (mc2 := 1) (ms2 := 41) hC dX10_init_66 ⟨rfl, rfl⟩ iw_X1_init iv_X1_init (Or.inr ⟨_, List.mem_of_getElem? (i := 4) rfl⟩) ⟨Nat.le_of_ble_eq_true rfl, Nat.le_of_ble_eq_true rfl, Nat.le_of_ble_eq_true rfl⟩ ⟨Nat.le_of_ble_eq_true rfl, Nat.le_of_ble_eq_true rfl⟩ rfl (CI_9 _) ?_
  refine tc_put (fs := [some (.inr 1), some (.inr 10), some (.inr 40), some (.inr 106), some (.inr 108), none, none, none, none]) (fs2 := [some (.inr 1), some (.inr 10), some (.inr 40), some (.inr 106), some (.inr 108), some (.inr 154), none, none, none]) hC hI dX10_init_69 pf_X10_49 rfl (by decide) (fun _ => ⟨rfl, rfl⟩) rfl ?_
  refine tc_aload_n hC dX10_init_72 rfl rfl ?_
  refine tc_new (n := 156) hC dX10_init_73 nc_X10_53 ⟨Nat.le_of_ble_eq_true rfl, Nat.le_of_ble_eq_true rfl⟩ rfl ?_
  refine tc_dup hC dX10_init_76 ?_
  refine tc_init (As := []) (fr2 := 1) (lo2 := 20) (mc2 := 24) (ms2 := 838) hC dX10_init_77 ⟨rfl, rfl⟩ iw_X4_init iv_X4_init (Or.inr ⟨_, List.mem_of_getElem? (i := 5) rfl⟩) ⟨Nat.le_of_ble_eq_true rfl, Nat.le_of_ble_eq_true rfl, Nat.le_of_ble_eq_true rfl⟩ ⟨Nat.le_of_ble_eq_true rfl, Nat.le_of_ble_eq_true rfl⟩ rfl (CI_10 _) ?_
  refine tc_put (fs := [some (.inr 1), some (.inr 10), some (.inr 40), some (.inr 106), some (.inr 108), some (.inr 154), none, none, none]) (fs2 := [some (.inr 1), some (.inr 10), some (.inr 40), some (.inr 106), some (.inr 108), some (.inr 154), some (.inr 156), none, none]) hC hI dX10_init_80 pf_X10_56 rfl (by decide) (fun _ => ⟨rfl, rfl⟩) rfl ?_
  refine tc_aload_n hC dX10_init_83 rfl rfl ?_
  refine tc_new (n := 181) hC dX10_init_84 nc_X10_60 ⟨Nat.le_of_ble_eq_true rfl, Nat.le_of_ble_eq_true rfl⟩ rfl ?_
  refine tc_dup hC dX10_init_87 ?_
  refine tc_init (As := []) (fr2 := 2) (lo2 := 40) (mc2 := 4) (ms2 := 89) hC dX10_init_88 ⟨rfl, rfl⟩ iw_X9_init iv_X9_init (Or.inr ⟨_, List.mem_of_getElem? (i := 6) rfl⟩) ⟨Nat.le_of_ble_eq_true rfl, Nat.le_of_ble_eq_true rfl, Nat.le_of_ble_eq_true rfl⟩ ⟨Nat.le_of_ble_eq_true rfl, Nat.le_of_ble_eq_true rfl⟩ rfl (CI_11 _) ?_
  refine tc_put (fs := [some (.inr 1), some (.inr 10), some (.inr 40), some (.inr 106), some (.inr 108), some (.inr 154), some (.inr 156), none, none]) (fs2 := [some (.inr 1), some (.inr 10), some (.inr 40), some (.inr 106), some (.inr 108), some (.inr 154), some (.inr 156), some (.inr 181), none]) hC hI dX10_init_91 pf_X10_63 rfl (by decide) (fun _ => ⟨rfl, rfl⟩) rfl ?_
  refine tc_aload_n hC dX10_init_94 rfl rfl ?_
  refine tc_new (n := 186) hC dX10_init_95 nc_X10_67 ⟨Nat.le_of_ble_eq_true rfl, Nat.le_of_ble_eq_true rfl⟩ rfl ?_
  refine tc_dup hC dX10_init_98 ?_
  refine tc_init (As := []) (fr2 := 1) (lo2 := 20) (mc2 := 0) (ms2 := 0) hC dX10_init_99 ⟨rfl, rfl⟩ iw_X0_init iv_X0_init (Or.inr ⟨_, List.mem_of_getElem? (i := 8) rfl⟩) ⟨Nat.le_of_ble_eq_true rfl, Nat.le_of_ble_eq_true rfl, Nat.le_of_ble_eq_true rfl⟩ ⟨Nat.le_of_ble_eq_true rfl, Nat.le_of_ble_eq_true rfl⟩ rfl (CI_13 _) ?_
  refine tc_put (fs := [some (.inr 1), some (.inr 10), some (.inr 40), some (.inr 106), some (.inr 108), some (.inr 154), some (.inr 156), some (.inr 181), none]) (fs2 := [some (.inr 1), some (.inr 10), some (.inr 40), some (.inr 106), some (.inr 108), some (.inr 154), some (.inr 156), some (.inr 181), some (.inr 186)]) hC hI dX10_init_102 pf_X10_70 rfl (by decide) (fun _ => ⟨rfl, rfl⟩) rfl ?_
  exact tc_ret hC hT dX10_init_105 ⟨Nat.le_of_ble_eq_true rfl, Nat.le_of_ble_eq_true rfl⟩
def csP_14 : List CC := (csQ_1 ++ ([.inl (11, [some (.inl 0), none, none, some (.inl 0), some (.inl 0), none, none, none, none, some (.inl 0), none, some (.inl 0), none, none, none, none, some (.inl 0), none, none, some (.inl 0), some (.inl 0), some (.inl 0), none, none, none, none, some (.inl 0), none, none, none, none, none])] : List CC))
def csQ_14 : List CC := (((((((((((((((((((((((((((((((((((((((((((((((((csP_14 ++ ([.inr (.inl (40, fun _ => 0))] : List CC)).set 187 (.inl (11, [some (.inl 0), some (.inr 188), none, some (.inl 0), some (.inl 0), none, none, none, none, some (.inl 0), none, some (.inl 0), none, none, none, none, some (.inl 0), none, none, some (.inl 0), some (.inl 0), some (.inl 0), none, none, none, none, some (.inl 0), none, none, none, none, none]))) ++ ([.inr (.inl (48, fun _ => 0))] : List CC)).set 187 (.inl (11, [some (.inl 0), some (.inr 188), some (.inr 189), some (.inl 0), some (.inl 0), none, none, none, none, some (.inl 0), none, some (.inl 0), none, none, none, none, some (.inl 0), none, none, some (.inl 0), some (.inl 0), some (.inl 0), none, none, none, none, some (.inl 0), none, none, none, none, none]))).set 187 (.inl (11, [some (.inl 0), some (.inr 188), some (.inr 189), some (.inl 1), some (.inl 0), none, none, none, none, some (.inl 0), none, some (.inl 0), none, none, none, none, some (.inl 0), none, none, some (.inl 0), some (.inl 0), some (.inl 0), none, none, none, none, some (.inl 0), none, none, none, none, none]))) ++ ([.inr (.inl (8, fun _ => 0))] : List CC)).set 187 (.inl (11, [some (.inl 0), some (.inr 188), some (.inr 189), some (.inl 1), some (.inl 0), some (.inr 190), none, none, none, some (.inl 0), none, some (.inl 0), none, none, none, none, some (.inl 0), none, none, some (.inl 0), some (.inl 0), some (.inl 0), none, none, none, none, some (.inl 0), none, none, none, none, none]))) ++ ([.inr (.inl (16, fun _ => 0))] : List CC)).set 187 (.inl (11, [some (.inl 0), some (.inr 188), some (.inr 189), some (.inl 1), some (.inl 0), some (.inr 190), some (.inr 191), none, none, some (.inl 0), none, some (.inl 0), none, none, none, none, some (.inl 0), none, none, some (.inl 0), some (.inl 0), some (.inl 0), none, none, none, none, some (.inl 0), none, none, none, none, none]))) ++ ([.inr (.inl (64, fun _ => 0))] : List CC)).set 187 (.inl (11, [some (.inl 0), some (.inr 188), some (.inr 189), some (.inl 1), some (.inl 0), some (.inr 190), some (.inr 191), some (.inr 192), none, some (.inl 0), none, some (.inl 0), none, none, none, none, some (.inl 0), none, none, some (.inl 0), some (.inl 0), some (.inl 0), none, none, none, none, some (.inl 0), none, none, none, none, none]))) ++ ([.inr (.inl (81, fun _ => 0))] : List CC)).set 187 (.inl (11, [some (.inl 0), some (.inr 188), some (.inr 189), some (.inl 1), some (.inl 0), some (.inr 190), some (.inr 191), some (.inr 192), some (.inr 193), some (.inl 0), none, some (.inl 0), none, none, none, none, some (.inl 0), none, none, some (.inl 0), some (.inl 0), some (.inl 0), none, none, none, none, some (.inl 0), none, none, none, none, none]))) ++ ([.inr (.inl (12, fun _ => 0))] : List CC)).set 187 (.inl (11, [some (.inl 0), some (.inr 188), some (.inr 189), some (.inl 1), some (.inl 0), some (.inr 190), some (.inr 191), some (.inr 192), some (.inr 193), some (.inl 0), some (.inr 194), some (.inl 0), none, none, none, none, some (.inl 0), none, none, some (.inl 0), some (.inl 0), some (.inl 0), none, none, none, none, some (.inl 0), none, none, none, none, none]))) ++ ([.inr (.inl (40, fun _ => 0))] : List CC)).set 187 (.inl (11, [some (.inl 0), some (.inr 188), some (.inr 189), some (.inl 1), some (.inl 0), some (.inr 190), some (.inr 191), some (.inr 192), some (.inr 193), some (.inl 0), some (.inr 194), some (.inl 0), some (.inr 195), none, none, none, some (.inl 0), none, none, some (.inl 0), some (.inl 0), some (.inl 0), none, none, none, none, some (.inl 0), none, none, none, none, none]))) ++ ([.inr (.inl (40, fun _ => 0))] : List CC)).set 187 (.inl (11, [some (.inl 0), some (.inr 188), some (.inr 189), some (.inl 1), some (.inl 0), some (.inr 190), some (.inr 191), some (.inr 192), some (.inr 193), some (.inl 0), some (.inr 194), some (.inl 0), some (.inr 195), some (.inr 196), none, none, some (.inl 0), none, none, some (.inl 0), some (.inl 0), some (.inl 0), none, none, none, none, some (.inl 0), none, none, none, none, none]))) ++ ([.inr (.inl (40, fun _ => 0))] : List CC)).set 187 (.inl (11, [some (.inl 0), some (.inr 188), some (.inr 189), some (.inl 1), some (.inl 0), some (.inr 190), some (.inr 191), some (.inr 192), some (.inr 193), some (.inl 0), some (.inr 194), some (.inl 0), some (.inr 195), some (.inr 196), some (.inr 197), none, some (.inl 0), none, none, some (.inl 0), some (.inl 0), some (.inl 0), none, none, none, none, some (.inl 0), none, none, none, none, none]))) ++ ([.inr (.inl (48, fun _ => 0))] : List CC)).set 187 (.inl (11, [some (.inl 0), some (.inr 188), some (.inr 189), some (.inl 1), some (.inl 0), some (.inr 190), some (.inr 191), some (.inr 192), some (.inr 193), some (.inl 0), some (.inr 194), some (.inl 0), some (.inr 195), some (.inr 196), some (.inr 197), some (.inr 198), some (.inl 0), none, none, some (.inl 0), some (.inl 0), some (.inl 0), none, none, none, none, some (.inl 0), none, none, none, none, none]))) ++ ([.inr (.inl (16, fun _ => 0))] : List CC)).set 187 (.inl (11, [some (.inl 0), some (.inr 188), some (.inr 189), some (.inl 1), some (.inl 0), some (.inr 190), some (.inr 191), some (.inr 192), some (.inr 193), some (.inl 0), some (.inr 194), some (.inl 0), some (.inr 195), some (.inr 196), some (.inr 197), some (.inr 198), some (.inl 0), some (.inr 199), none, some (.inl 0), some (.inl 0), some (.inl 0), none, none, none, none, some (.inl 0), none, none, none, none, none]))) ++ ([.inr (.inl (640, fun _ => 0))] : List CC)).set 187 (.inl (11, [some (.inl 0), some (.inr 188), some (.inr 189), some (.inl 1), some (.inl 0), some (.inr 190), some (.inr 191), some (.inr 192), some (.inr 193), some (.inl 0), some (.inr 194), some (.inl 0), some (.inr 195), some (.inr 196), some (.inr 197), some (.inr 198), some (.inl 0), some (.inr 199), some (.inr 200), some (.inl 0), some (.inl 0), some (.inl 0), none, none, none, none, some (.inl 0), none, none, none, none, none]))).set 187 (.inl (11, [some (.inl 0), some (.inr 188), some (.inr 189), some (.inl 1), some (.inl 0), some (.inr 190), some (.inr 191), some (.inr 192), some (.inr 193), some (.inl 0), some (.inr 194), some (.inl 0), some (.inr 195), some (.inr 196), some (.inr 197), some (.inr 198), some (.inl 0), some (.inr 199), some (.inr 200), some (.inl 1), some (.inl 0), some (.inl 0), none, none, none, none, some (.inl 0), none, none, none, none, none]))).set 187 (.inl (11, [some (.inl 0), some (.inr 188), some (.inr 189), some (.inl 1), some (.inl 0), some (.inr 190), some (.inr 191), some (.inr 192), some (.inr 193), some (.inl 0), some (.inr 194), some (.inl 0), some (.inr 195), some (.inr 196), some (.inr 197), some (.inr 198), some (.inl 0), some (.inr 199), some (.inr 200), some (.inl 1), some (.inl 2), some (.inl 0), none, none, none, none, some (.inl 0), none, none, none, none, none]))).set 187 (.inl (11, [some (.inl 0), some (.inr 188), some (.inr 189), some (.inl 1), some (.inl 0), some (.inr 190), some (.inr 191), some (.inr 192), some (.inr 193), some (.inl 0), some (.inr 194), some (.inl 0), some (.inr 195), some (.inr 196), some (.inr 197), some (.inr 198), some (.inl 0), some (.inr 199), some (.inr 200), some (.inl 1), some (.inl 2), some (.inl 3), none, none, none, none, some (.inl 0), none, none, none, none, none]))) ++ ([.inr (.inl (13448, fun _ => 0))] : List CC)).set 187 (.inl (11, [some (.inl 0), some (.inr 188), some (.inr 189), some (.inl 1), some (.inl 0), some (.inr 190), some (.inr 191), some (.inr 192), some (.inr 193), some (.inl 0), some (.inr 194), some (.inl 0), some (.inr 195), some (.inr 196), some (.inr 197), some (.inr 198), some (.inl 0), some (.inr 199), some (.inr 200), some (.inl 1), some (.inl 2), some (.inl 3), some (.inr 201), none, none, none, some (.inl 0), none, none, none, none, none]))) ++ ([.inr (.inl (5, fun _ => 0))] : List CC)).set 187 (.inl (11, [some (.inl 0), some (.inr 188), some (.inr 189), some (.inl 1), some (.inl 0), some (.inr 190), some (.inr 191), some (.inr 192), some (.inr 193), some (.inl 0), some (.inr 194), some (.inl 0), some (.inr 195), some (.inr 196), some (.inr 197), some (.inr 198), some (.inl 0), some (.inr 199), some (.inr 200), some (.inl 1), some (.inl 2), some (.inl 3), some (.inr 201), some (.inr 202), none, none, some (.inl 0), none, none, none, none, none]))) ++ ([.inr (.inl (5, fun _ => 0))] : List CC)).set 187 (.inl (11, [some (.inl 0), some (.inr 188), some (.inr 189), some (.inl 1), some (.inl 0), some (.inr 190), some (.inr 191), some (.inr 192), some (.inr 193), some (.inl 0), some (.inr 194), some (.inl 0), some (.inr 195), some (.inr 196), some (.inr 197), some (.inr 198), some (.inl 0), some (.inr 199), some (.inr 200), some (.inl 1), some (.inl 2), some (.inl 3), some (.inr 201), some (.inr 202), some (.inr 203), none, some (.inl 0), none, none, none, none, none]))) ++ ([.inr (.inl (369, fun _ => 0))] : List CC)).set 187 (.inl (11, [some (.inl 0), some (.inr 188), some (.inr 189), some (.inl 1), some (.inl 0), some (.inr 190), some (.inr 191), some (.inr 192), some (.inr 193), some (.inl 0), some (.inr 194), some (.inl 0), some (.inr 195), some (.inr 196), some (.inr 197), some (.inr 198), some (.inl 0), some (.inr 199), some (.inr 200), some (.inl 1), some (.inl 2), some (.inl 3), some (.inr 201), some (.inr 202), some (.inr 203), some (.inr 204), some (.inl 0), none, none, none, none, none]))) ++ ([.inr (.inl (40, fun _ => 0))] : List CC)).set 187 (.inl (11, [some (.inl 0), some (.inr 188), some (.inr 189), some (.inl 1), some (.inl 0), some (.inr 190), some (.inr 191), some (.inr 192), some (.inr 193), some (.inl 0), some (.inr 194), some (.inl 0), some (.inr 195), some (.inr 196), some (.inr 197), some (.inr 198), some (.inl 0), some (.inr 199), some (.inr 200), some (.inl 1), some (.inl 2), some (.inl 3), some (.inr 201), some (.inr 202), some (.inr 203), some (.inr 204), some (.inl 0), some (.inr 205), none, none, none, none]))) ++ ([.inr (.inl (41, fun _ => 0))] : List CC)).set 187 (.inl (11, [some (.inl 0), some (.inr 188), some (.inr 189), some (.inl 1), some (.inl 0), some (.inr 190), some (.inr 191), some (.inr 192), some (.inr 193), some (.inl 0), some (.inr 194), some (.inl 0), some (.inr 195), some (.inr 196), some (.inr 197), some (.inr 198), some (.inl 0), some (.inr 199), some (.inr 200), some (.inl 1), some (.inl 2), some (.inl 3), some (.inr 201), some (.inr 202), some (.inr 203), some (.inr 204), some (.inl 0), some (.inr 205), some (.inr 206), none, none, none]))) ++ ([.inr (.inl (41, fun _ => 0))] : List CC)).set 187 (.inl (11, [some (.inl 0), some (.inr 188), some (.inr 189), some (.inl 1), some (.inl 0), some (.inr 190), some (.inr 191), some (.inr 192), some (.inr 193), some (.inl 0), some (.inr 194), some (.inl 0), some (.inr 195), some (.inr 196), some (.inr 197), some (.inr 198), some (.inl 0), some (.inr 199), some (.inr 200), some (.inl 1), some (.inl 2), some (.inl 3), some (.inr 201), some (.inr 202), some (.inr 203), some (.inr 204), some (.inl 0), some (.inr 205), some (.inr 206), some (.inr 207), none, none]))) ++ ([.inr (.inl (3936, fun _ => 0))] : List CC)).set 187 (.inl (11, [some (.inl 0), some (.inr 188), some (.inr 189), some (.inl 1), some (.inl 0), some (.inr 190), some (.inr 191), some (.inr 192), some (.inr 193), some (.inl 0), some (.inr 194), some (.inl 0), some (.inr 195), some (.inr 196), some (.inr 197), some (.inr 198), some (.inl 0), some (.inr 199), some (.inr 200), some (.inl 1), some (.inl 2), some (.inl 3), some (.inr 201), some (.inr 202), some (.inr 203), some (.inr 204), some (.inl 0), some (.inr 205), some (.inr 206), some (.inr 207), some (.inr 208), none]))) ++ ([.inr (.inl (533, fun _ => 0))] : List CC)).set 187 (.inl (11, [some (.inl 0), some (.inr 188), some (.inr 189), some (.inl 1), some (.inl 0), some (.inr 190), some (.inr 191), some (.inr 192), some (.inr 193), some (.inl 0), some (.inr 194), some (.inl 0), some (.inr 195), some (.inr 196), some (.inr 197), some (.inr 198), some (.inl 0), some (.inr 199), some (.inr 200), some (.inl 1), some (.inl 2), some (.inl 3), some (.inr 201), some (.inr 202), some (.inr 203), some (.inr 204), some (.inl 0), some (.inr 205), some (.inr 206), some (.inr 207), some (.inr 208), some (.inr 209)]))).set 189 (.inr (.inl (48, fun q => if q < 48 then 25 else 0))))
set_option maxRecDepth 100000 in
set_option maxHeartbeats 4000000 in
theorem CI_14 (l : Launch) : CMet l i_X11_init 1 20 22 19511 nests [.inr 187] csP_14 csQ_14 := by
  refine cw_met (by decide) (Nat.le_of_ble_eq_true rfl) rfl (fun κ hl hC hT hI => ?_)
  replace hI := hI rfl
  subst hl
  show WC κ 0 [some (.inr 187), none] [] csP_14 0 0
  refine tc_aload_n hC dX11_init_0 rfl rfl ?_
  refine tc_objInit hC dX11_init_1 oi_X11_1 ⟨Nat.le_of_ble_eq_true rfl, Nat.le_of_ble_eq_true rfl⟩ ?_
  refine tc_aload_n hC dX11_init_4 rfl rfl ?_
  refine tc_const (v := 40) hC dX11_init_5 (Or.inr (Or.inl ⟨_, rfl, rfl, by decide⟩)) ?_
  refine tc_newa (N := 40) (n := 188) hC dX11_init_7 w_ac ⟨by decide, by decide, by decide⟩ ⟨Nat.le_of_ble_eq_true rfl, Nat.le_of_ble_eq_true rfl⟩ rfl ?_
  refine tc_put (fs := [some (.inl 0), none, none, some (.inl 0), some (.inl 0), none, none, none, none, some (.inl 0), none, some (.inl 0), none, none, none, none, some (.inl 0), none, none, some (.inl 0), some (.inl 0), some (.inl 0), none, none, none, none, some (.inl 0), none, none, none, none, none]) (fs2 := [some (.inl 0), some (.inr 188), none, some (.inl 0), some (.inl 0), none, none, none, none, some (.inl 0), none, some (.inl 0), none, none, none, none, some (.inl 0), none, none, some (.inl 0), some (.inl 0), some (.inl 0), none, none, none, none, some (.inl 0), none, none, none, none, none]) hC hI dX11_init_9 pf_X11_7 rfl (by decide) (fun _ => ⟨rfl, rfl⟩) rfl ?_
  refine tc_aload_n hC dX11_init_12 rfl rfl ?_
  refine tc_const (v := 48) hC dX11_init_13 (Or.inr (Or.inl ⟨_, rfl, rfl, by decide⟩)) ?_
  refine tc_newa (N := 48) (n := 189) hC dX11_init_15 w_ac ⟨by decide, by decide, by decide⟩ ⟨Nat.le_of_ble_eq_true rfl, Nat.le_of_ble_eq_true rfl⟩ rfl ?_
  refine tc_put (fs := [some (.inl 0), some (.inr 188), none, some (.inl 0), some (.inl 0), none, none, none, none, some (.inl 0), none, some (.inl 0), none, none, none, none, some (.inl 0), none, none, some (.inl 0), some (.inl 0), some (.inl 0), none, none, none, none, some (.inl 0), none, none, none, none, none]) (fs2 := [some (.inl 0), some (.inr 188), some (.inr 189), some (.inl 0), some (.inl 0), none, none, none, none, some (.inl 0), none, some (.inl 0), none, none, none, none, some (.inl 0), none, none, some (.inl 0), some (.inl 0), some (.inl 0), none, none, none, none, some (.inl 0), none, none, none, none, none]) hC hI dX11_init_17 pf_X11_13 rfl (by decide) (fun _ => ⟨rfl, rfl⟩) rfl ?_
  refine tc_aload_n hC dX11_init_20 rfl rfl ?_
  refine tc_const (v := 1) hC dX11_init_21 (Or.inl ⟨_, rfl, rfl, by decide⟩) ?_
  refine tc_put (fs := [some (.inl 0), some (.inr 188), some (.inr 189), some (.inl 0), some (.inl 0), none, none, none, none, some (.inl 0), none, some (.inl 0), none, none, none, none, some (.inl 0), none, none, some (.inl 0), some (.inl 0), some (.inl 0), none, none, none, none, some (.inl 0), none, none, none, none, none]) (fs2 := [some (.inl 0), some (.inr 188), some (.inr 189), some (.inl 1), some (.inl 0), none, none, none, none, some (.inl 0), none, some (.inl 0), none, none, none, none, some (.inl 0), none, none, some (.inl 0), some (.inl 0), some (.inl 0), none, none, none, none, some (.inl 0), none, none, none, none, none]) hC hI dX11_init_22 pf_X11_16 rfl (by decide) (fun _ => ⟨rfl, rfl⟩) rfl ?_
  refine tc_aload_n hC dX11_init_25 rfl rfl ?_
  refine tc_const (v := 8) hC dX11_init_26 (Or.inr (Or.inl ⟨_, rfl, rfl, by decide⟩)) ?_
  refine tc_newa (N := 8) (n := 190) hC dX11_init_28 w_ac ⟨by decide, by decide, by decide⟩ ⟨Nat.le_of_ble_eq_true rfl, Nat.le_of_ble_eq_true rfl⟩ rfl ?_
  refine tc_put (fs := [some (.inl 0), some (.inr 188), some (.inr 189), some (.inl 1), some (.inl 0), none, none, none, none, some (.inl 0), none, some (.inl 0), none, none, none, none, some (.inl 0), none, none, some (.inl 0), some (.inl 0), some (.inl 0), none, none, none, none, some (.inl 0), none, none, none, none, none]) (fs2 := [some (.inl 0), some (.inr 188), some (.inr 189), some (.inl 1), some (.inl 0), some (.inr 190), none, none, none, some (.inl 0), none, some (.inl 0), none, none, none, none, some (.inl 0), none, none, some (.inl 0), some (.inl 0), some (.inl 0), none, none, none, none, some (.inl 0), none, none, none, none, none]) hC hI dX11_init_30 pf_X11_20 rfl (by decide) (fun _ => ⟨rfl, rfl⟩) rfl ?_
  refine tc_aload_n hC dX11_init_33 rfl rfl ?_
  refine tc_const (v := 16) hC dX11_init_34 (Or.inr (Or.inl ⟨_, rfl, rfl, by decide⟩)) ?_
  refine tc_newa (N := 16) (n := 191) hC dX11_init_36 w_ac ⟨by decide, by decide, by decide⟩ ⟨Nat.le_of_ble_eq_true rfl, Nat.le_of_ble_eq_true rfl⟩ rfl ?_
  refine tc_put (fs := [some (.inl 0), some (.inr 188), some (.inr 189), some (.inl 1), some (.inl 0), some (.inr 190), none, none, none, some (.inl 0), none, some (.inl 0), none, none, none, none, some (.inl 0), none, none, some (.inl 0), some (.inl 0), some (.inl 0), none, none, none, none, some (.inl 0), none, none, none, none, none]) (fs2 := [some (.inl 0), some (.inr 188), some (.inr 189), some (.inl 1), some (.inl 0), some (.inr 190), some (.inr 191), none, none, some (.inl 0), none, some (.inl 0), none, none, none, none, some (.inl 0), none, none, some (.inl 0), some (.inl 0), some (.inl 0), none, none, none, none, some (.inl 0), none, none, none, none, none]) hC hI dX11_init_38 pf_X11_23 rfl (by decide) (fun _ => ⟨rfl, rfl⟩) rfl ?_
  refine tc_aload_n hC dX11_init_41 rfl rfl ?_
  refine tc_const (v := 64) hC dX11_init_42 (Or.inr (Or.inl ⟨_, rfl, rfl, by decide⟩)) ?_
  refine tc_newa (N := 64) (n := 192) hC dX11_init_44 w_ac ⟨by decide, by decide, by decide⟩ ⟨Nat.le_of_ble_eq_true rfl, Nat.le_of_ble_eq_true rfl⟩ rfl ?_
  refine tc_put (fs := [some (.inl 0), some (.inr 188), some (.inr 189), some (.inl 1), some (.inl 0), some (.inr 190), some (.inr 191), none, none, some (.inl 0), none, some (.inl 0), none, none, none, none, some (.inl 0), none, none, some (.inl 0), some (.inl 0), some (.inl 0), none, none, none, none, some (.inl 0), none, none, none, none, none]) (fs2 := [some (.inl 0), some (.inr 188), some (.inr 189), some (.inl 1), some (.inl 0), some (.inr 190), some (.inr 191), some (.inr 192), none, some (.inl 0), none, some (.inl 0), none, none, none, none, some (.inl 0), none, none, some (.inl 0), some (.inl 0), some (.inl 0), none, none, none, none, some (.inl 0), none, none, none, none, none]) hC hI dX11_init_46 pf_X11_26 rfl (by decide) (fun _ => ⟨rfl, rfl⟩) rfl ?_
  refine tc_aload_n hC dX11_init_49 rfl rfl ?_
  refine tc_const (v := 81) hC dX11_init_50 (Or.inr (Or.inl ⟨_, rfl, rfl, by decide⟩)) ?_
  refine tc_newa (N := 81) (n := 193) hC dX11_init_52 w_ac ⟨by decide, by decide, by decide⟩ ⟨Nat.le_of_ble_eq_true rfl, Nat.le_of_ble_eq_true rfl⟩ rfl ?_
  refine tc_put (fs := [some (.inl 0), some (.inr 188), some (.inr 189), some (.inl 1), some (.inl 0), some (.inr 190), some (.inr 191), some (.inr 192), none, some (.inl 0), none, some (.inl 0), none, none, none, none, some (.inl 0), none, none, some (.inl 0), some (.inl 0), some (.inl 0), none, none, none, none, some (.inl 0), none, none, none, none, none]) (fs2 := [some (.inl 0), some (.inr 188), some (.inr 189), some (.inl 1), some (.inl 0), some (.inr 190), some (.inr 191), some (.inr 192), some (.inr 193), some (.inl 0), none, some (.inl 0), none, none, none, none, some (.inl 0), none, none, some (.inl 0), some (.inl 0), some (.inl 0), none, none, none, none, some (.inl 0), none, none, none, none, none]) hC hI dX11_init_54 pf_X11_29 rfl (by decide) (fun _ => ⟨rfl, rfl⟩) rfl ?_
  refine tc_aload_n hC dX11_init_57 rfl rfl ?_
  refine tc_const (v := 12) hC dX11_init_58 (Or.inr (Or.inl ⟨_, rfl, rfl, by decide⟩)) ?_
  refine tc_newa (N := 12) (n := 194) hC dX11_init_60 w_ac ⟨by decide, by decide, by decide⟩ ⟨Nat.le_of_ble_eq_true rfl, Nat.le_of_ble_eq_true rfl⟩ rfl ?_
  refine tc_put (fs := [some (.inl 0), some (.inr 188), some (.inr 189), some (.inl 1), some (.inl 0), some (.inr 190), some (.inr 191), some (.inr 192), some (.inr 193), some (.inl 0), none, some (.inl 0), none, none, none, none, some (.inl 0), none, none, some (.inl 0), some (.inl 0), some (.inl 0), none, none, none, none, some (.inl 0), none, none, none, none, none]) (fs2 := [some (.inl 0), some (.inr 188), some (.inr 189), some (.inl 1), some (.inl 0), some (.inr 190), some (.inr 191), some (.inr 192), some (.inr 193), some (.inl 0), some (.inr 194), some (.inl 0), none, none, none, none, some (.inl 0), none, none, some (.inl 0), some (.inl 0), some (.inl 0), none, none, none, none, some (.inl 0), none, none, none, none, none]) hC hI dX11_init_62 pf_X11_32 rfl (by decide) (fun _ => ⟨rfl, rfl⟩) rfl ?_
  refine tc_aload_n hC dX11_init_65 rfl rfl ?_
  refine tc_const (v := 40) hC dX11_init_66 (Or.inr (Or.inl ⟨_, rfl, rfl, by decide⟩)) ?_
  refine tc_newa (N := 40) (n := 195) hC dX11_init_68 w_ac ⟨by decide, by decide, by decide⟩ ⟨Nat.le_of_ble_eq_true rfl, Nat.le_of_ble_eq_true rfl⟩ rfl ?_
  refine tc_put (fs := [some (.inl 0), some (.inr 188), some (.inr 189), some (.inl 1), some (.inl 0), some (.inr 190), some (.inr 191), some (.inr 192), some (.inr 193), some (.inl 0), some (.inr 194), some (.inl 0), none, none, none, none, some (.inl 0), none, none, some (.inl 0), some (.inl 0), some (.inl 0), none, none, none, none, some (.inl 0), none, none, none, none, none]) (fs2 := [some (.inl 0), some (.inr 188), some (.inr 189), some (.inl 1), some (.inl 0), some (.inr 190), some (.inr 191), some (.inr 192), some (.inr 193), some (.inl 0), some (.inr 194), some (.inl 0), some (.inr 195), none, none, none, some (.inl 0), none, none, some (.inl 0), some (.inl 0), some (.inl 0), none, none, none, none, some (.inl 0), none, none, none, none, none]) hC hI dX11_init_70 pf_X11_35 rfl (by decide) (fun _ => ⟨rfl, rfl⟩) rfl ?_
  refine tc_aload_n hC dX11_init_73 rfl rfl ?_
  refine tc_const (v := 40) hC dX11_init_74 (Or.inr (Or.inl ⟨_, rfl, rfl, by decide⟩)) ?_
  refine tc_newa (N := 40) (n := 196) hC dX11_init_76 w_ac ⟨by decide, by decide, by decide⟩ ⟨Nat.le_of_ble_eq_true rfl, Nat.le_of_ble_eq_true rfl⟩ rfl ?_
  refine tc_put (fs := [some (.inl 0), some (.inr 188), some (.inr 189), some (.inl 1), some (.inl 0), some (.inr 190), some (.inr 191), some (.inr 192), some (.inr 193), some (.inl 0), some (.inr 194), some (.inl 0), some (.inr 195), none, none, none, some (.inl 0), none, none, some (.inl 0), some (.inl 0), some (.inl 0), none, none, none, none, some (.inl 0), none, none, none, none, none]) (fs2 := [some (.inl 0), some (.inr 188), some (.inr 189), some (.inl 1), some (.inl 0), some (.inr 190), some (.inr 191), some (.inr 192), some (.inr 193), some (.inl 0), some (.inr 194), some (.inl 0), some (.inr 195), some (.inr 196), none, none, some (.inl 0), none, none, some (.inl 0), some (.inl 0), some (.inl 0), none, none, none, none, some (.inl 0), none, none, none, none, none]) hC hI dX11_init_78 pf_X11_38 rfl (by decide) (fun _ => ⟨rfl, rfl⟩) rfl ?_
  refine tc_aload_n hC dX11_init_81 rfl rfl ?_
  refine tc_const (v := 40) hC dX11_init_82 (Or.inr (Or.inl ⟨_, rfl, rfl, by decide⟩)) ?_
  refine tc_newa (N := 40) (n := 197) hC dX11_init_84 w_ac ⟨by decide, by decide, by decide⟩ ⟨Nat.le_of_ble_eq_true rfl, Nat.le_of_ble_eq_true rfl⟩ rfl ?_
  refine tc_put (fs := [some (.inl 0), some (.inr 188), some (.inr 189), some (.inl 1), some (.inl 0), some (.inr 190), some (.inr 191), some (.inr 192), some (.inr 193), some (.inl 0), some (.inr 194), some (.inl 0), some (.inr 195), some (.inr 196), none, none, some (.inl 0), none, none, some (.inl 0), some (.inl 0), some (.inl 0), none, none, none, none, some (.inl 0), none, none, none, none, none]) (fs2 := [some (.inl 0), some (.inr 188), some (.inr 189), some (.inl 1), some (.inl 0), some (.inr 190), some (.inr 191), some (.inr 192), some (.inr 193), some (.inl 0), some (.inr 194), some (.inl 0), some (.inr 195), some (.inr 196), some (.inr 197), none, some (.inl 0), none, none, some (.inl 0), some (.inl 0), some (.inl 0), none, none, none, none, some (.inl 0), none, none, none, none, none]) hC hI dX11_init_86 pf_X11_41 rfl (by decide) (fun _ => ⟨rfl, rfl⟩) rfl ?_
  refine tc_aload_n hC dX11_init_89 rfl rfl ?_
  refine tc_const (v := 48) hC dX11_init_90 (Or.inr (Or.inl ⟨_, rfl, rfl, by decide⟩)) ?_
  refine tc_newa (N := 48) (n := 198) hC dX11_init_92 w_ac ⟨by decide, by decide, by decide⟩ ⟨Nat.le_of_ble_eq_true rfl, Nat.le_of_ble_eq_true rfl⟩ rfl ?_
  refine tc_put (fs := [some (.inl 0), some (.inr 188), some (.inr 189), some (.inl 1), some (.inl 0), some (.inr 190), some (.inr 191), some (.inr 192), some (.inr 193), some (.inl 0), some (.inr 194), some (.inl 0), some (.inr 195), some (.inr 196), some (.inr 197), none, some (.inl 0), none, none, some (.inl 0), some (.inl 0), some (.inl 0), none, none, none, none, some (.inl 0), none, none, none, none, none]) (fs2 := [some (.inl 0), some (.inr 188), some (.inr 189), some (.inl 1), some (.inl 0), some (.inr 190), some (.inr 191), some (.inr 192), some (.inr 193), some (.inl 0), some (.inr 194), some (.inl 0), some (.inr 195), some (.inr 196), some (.inr 197), some (.inr 198), some (.inl 0), none, none, some (.inl 0), some (.inl 0), some (.inl 0), none, none, none, none, some (.inl 0), none, none, none, none, none]) hC hI dX11_init_94 pf_X11_44 rfl (by decide) (fun _ => ⟨rfl, rfl⟩) rfl ?_
  refine tc_aload_n hC dX11_init_97 rfl rfl ?_
  refine tc_const (v := 16) hC dX11_init_98 (Or.inr (Or.inl ⟨_, rfl, rfl, by decide⟩)) ?_
  refine tc_newa (N := 16) (n := 199) hC dX11_init_100 w_ac ⟨by decide, by decide, by decide⟩ ⟨Nat.le_of_ble_eq_true rfl, Nat.le_of_ble_eq_true rfl⟩ rfl ?_
  refine tc_put (fs := [some (.inl 0), some (.inr 188), some (.inr 189), some (.inl 1), some (.inl 0), some (.inr 190), some (.inr 191), some (.inr 192), some (.inr 193), some (.inl 0), some (.inr 194), some (.inl 0), some (.inr 195), some (.inr 196), some (.inr 197), some (.inr 198), some (.inl 0), none, none, some (.inl 0), some (.inl 0), some (.inl 0), none, none, none, none, some (.inl 0), none, none, none, none, none]) (fs2 := [some (.inl 0), some (.inr 188), some (.inr 189), some (.inl 1), some (.inl 0), some (.inr 190), some (.inr 191), some (.inr 192), some (.inr 193), some (.inl 0), some (.inr 194), some (.inl 0), some (.inr 195), some (.inr 196), some (.inr 197), some (.inr 198), some (.inl 0), some (.inr 199), none, some (.inl 0), some (.inl 0), some (.inl 0), none, none, none, none, some (.inl 0), none, none, none, none, none]) hC hI dX11_init_102 pf_X11_47 rfl (by decide) (fun _ => ⟨rfl, rfl⟩) rfl ?_
  refine tc_aload_n hC dX11_init_105 rfl rfl ?_
  refine tc_const (v := 640) hC dX11_init_106 (Or.inr (Or.inr ⟨_, rfl, rfl, by decide⟩)) ?_
  refine tc_newa (N := 640) (n := 200) hC dX11_init_109 w_ac ⟨by decide, by decide, by decide⟩ ⟨Nat.le_of_ble_eq_true rfl, Nat.le_of_ble_eq_true rfl⟩ rfl ?_
  refine tc_put (fs := [some (.inl 0), some (.inr 188), some (.inr 189), some (.inl 1), some (.inl 0), some (.inr 190), some (.inr 191), some (.inr 192), some (.inr 193), some (.inl 0), some (.inr 194), some (.inl 0), some (.inr 195), some (.inr 196), some (.inr 197), some (.inr 198), some (.inl 0), some (.inr 199), none, some (.inl 0), some (.inl 0), some (.inl 0), none, none, none, none, some (.inl 0), none, none, none, none, none]) (fs2 := [some (.inl 0), some (.inr 188), some (.inr 189), some (.inl 1), some (.inl 0), some (.inr 190), some (.inr 191), some (.inr 192), some (.inr 193), some (.inl 0), some (.inr 194), some (.inl 0), some (.inr 195), some (.inr 196), some (.inr 197), some (.inr 198), some (.inl 0), some (.inr 199), some (.inr 200), some (.inl 0), some (.inl 0), some (.inl 0), none, none, none, none, some (.inl 0), none, none, none, none, none]) hC hI dX11_init_111 pf_X11_50 rfl (by decide) (fun _ => ⟨rfl, rfl⟩) rfl ?_
  refine tc_aload_n hC dX11_init_114 rfl rfl ?_
  refine tc_const (v := 1) hC dX11_init_115 (Or.inl ⟨_, rfl, rfl, by decide⟩) ?_
  refine tc_put (fs := [some (.inl 0), some (.inr 188), some (.inr 189), some (.inl 1), some (.inl 0), some (.inr 190), some (.inr 191), some (.inr 192), some (.inr 193), some (.inl 0), some (.inr 194), some (.inl 0), some (.inr 195), some (.inr 196), some (.inr 197), some (.inr 198), some (.inl 0), some (.inr 199), some (.inr 200), some (.inl 0), some (.inl 0), some (.inl 0), none, none, none, none, some (.inl 0), none, none, none, none, none]) (fs2 := [some (.inl 0), some (.inr 188), some (.inr 189), some (.inl 1), some (.inl 0), some (.inr 190), some (.inr 191), some (.inr 192), some (.inr 193), some (.inl 0), some (.inr 194), some (.inl 0), some (.inr 195), some (.inr 196), some (.inr 197), some (.inr 198), some (.inl 0), some (.inr 199), some (.inr 200), some (.inl 1), some (.inl 0), some (.inl 0), none, none, none, none, some (.inl 0), none, none, none, none, none]) hC hI dX11_init_116 pf_X11_53 rfl (by decide) (fun _ => ⟨rfl, rfl⟩) rfl ?_
  refine tc_aload_n hC dX11_init_119 rfl rfl ?_
  refine tc_const (v := 2) hC dX11_init_120 (Or.inl ⟨_, rfl, rfl, by decide⟩) ?_
  refine tc_put (fs := [some (.inl 0), some (.inr 188), some (.inr 189), some (.inl 1), some (.inl 0), some (.inr 190), some (.inr 191), some (.inr 192), some (.inr 193), some (.inl 0), some (.inr 194), some (.inl 0), some (.inr 195), some (.inr 196), some (.inr 197), some (.inr 198), some (.inl 0), some (.inr 199), some (.inr 200), some (.inl 1), some (.inl 0), some (.inl 0), none, none, none, none, some (.inl 0), none, none, none, none, none]) (fs2 := [some (.inl 0), some (.inr 188), some (.inr 189), some (.inl 1), some (.inl 0), some (.inr 190), some (.inr 191), some (.inr 192), some (.inr 193), some (.inl 0), some (.inr 194), some (.inl 0), some (.inr 195), some (.inr 196), some (.inr 197), some (.inr 198), some (.inl 0), some (.inr 199), some (.inr 200), some (.inl 1), some (.inl 2), some (.inl 0), none, none, none, none, some (.inl 0), none, none, none, none, none]) hC hI dX11_init_121 pf_X11_56 rfl (by decide) (fun _ => ⟨rfl, rfl⟩) rfl ?_
  refine tc_aload_n hC dX11_init_124 rfl rfl ?_
  refine tc_const (v := 3) hC dX11_init_125 (Or.inl ⟨_, rfl, rfl, by decide⟩) ?_
  refine tc_put (fs := [some (.inl 0), some (.inr 188), some (.inr 189), some (.inl 1), some (.inl 0), some (.inr 190), some (.inr 191), some (.inr 192), some (.inr 193), some (.inl 0), some (.inr 194), some (.inl 0), some (.inr 195), some (.inr 196), some (.inr 197), some (.inr 198), some (.inl 0), some (.inr 199), some (.inr 200), some (.inl 1), some (.inl 2), some (.inl 0), none, none, none, none, some (.inl 0), none, none, none, none, none]) (fs2 := [some (.inl 0), some (.inr 188), some (.inr 189), some (.inl 1), some (.inl 0), some (.inr 190), some (.inr 191), some (.inr 192), some (.inr 193), some (.inl 0), some (.inr 194), some (.inl 0), some (.inr 195), some (.inr 196), some (.inr 197), some (.inr 198), some (.inl 0), some (.inr 199), some (.inr 200), some (.inl 1), some (.inl 2), some (.inl 3), none, none, none, none, some (.inl 0), none, none, none, none, none]) hC hI dX11_init_126 pf_X11_59 rfl (by decide) (fun _ => ⟨rfl, rfl⟩) rfl ?_
  refine tc_aload_n hC dX11_init_129 rfl rfl ?_
  refine tc_const (v := 13448) hC dX11_init_130 (Or.inr (Or.inr ⟨_, rfl, rfl, by decide⟩)) ?_
  refine tc_newa (N := 13448) (n := 201) hC dX11_init_133 w_ac ⟨by decide, by decide, by decide⟩ ⟨Nat.le_of_ble_eq_true rfl, Nat.le_of_ble_eq_true rfl⟩ rfl ?_
  refine tc_put (fs := [some (.inl 0), some (.inr 188), some (.inr 189), some (.inl 1), some (.inl 0), some (.inr 190), some (.inr 191), some (.inr 192), some (.inr 193), some (.inl 0), some (.inr 194), some (.inl 0), some (.inr 195), some (.inr 196), some (.inr 197), some (.inr 198), some (.inl 0), some (.inr 199), some (.inr 200), some (.inl 1), some (.inl 2), some (.inl 3), none, none, none, none, some (.inl 0), none, none, none, none, none]) (fs2 := [some (.inl 0), some (.inr 188), some (.inr 189), some (.inl 1), some (.inl 0), some (.inr 190), some (.inr 191), some (.inr 192), some (.inr 193), some (.inl 0), some (.inr 194), some (.inl 0), some (.inr 195), some (.inr 196), some (.inr 197), some (.inr 198), some (.inl 0), some (.inr 199), some (.inr 200), some (.inl 1), some (.inl 2), some (.inl 3), some (.inr 201), none, none, none, some (.inl 0), none, none, none, none, none]) hC hI dX11_init_135 pf_X11_62 rfl (by decide) (fun _ => ⟨rfl, rfl⟩) rfl ?_
  refine tc_aload_n hC dX11_init_138 rfl rfl ?_
  refine tc_const (v := 5) hC dX11_init_139 (Or.inl ⟨_, rfl, rfl, by decide⟩) ?_
  refine tc_newa (N := 5) (n := 202) hC dX11_init_140 w_ac ⟨by decide, by decide, by decide⟩ ⟨Nat.le_of_ble_eq_true rfl, Nat.le_of_ble_eq_true rfl⟩ rfl ?_
  refine tc_put (fs := [some (.inl 0), some (.inr 188), some (.inr 189), some (.inl 1), some (.inl 0), some (.inr 190), some (.inr 191), some (.inr 192), some (.inr 193), some (.inl 0), some (.inr 194), some (.inl 0), some (.inr 195), some (.inr 196), some (.inr 197), some (.inr 198), some (.inl 0), some (.inr 199), some (.inr 200), some (.inl 1), some (.inl 2), some (.inl 3), some (.inr 201), none, none, none, some (.inl 0), none, none, none, none, none]) (fs2 := [some (.inl 0), some (.inr 188), some (.inr 189), some (.inl 1), some (.inl 0), some (.inr 190), some (.inr 191), some (.inr 192), some (.inr 193), some (.inl 0), some (.inr 194), some (.inl 0), some (.inr 195), some (.inr 196), some (.inr 197), some (.inr 198), some (.inl 0), some (.inr 199), some (.inr 200), some (.inl 1), some (.inl 2), some (.inl 3), some (.inr 201), some (.inr 202), none, none, some (.inl 0), none, none, none, none, none]) hC hI dX11_init_142 pf_X11_65 rfl (by decide) (fun _ => ⟨rfl, rfl⟩) rfl ?_
  refine tc_aload_n hC dX11_init_145 rfl rfl ?_
  refine tc_const (v := 5) hC dX11_init_146 (Or.inl ⟨_, rfl, rfl, by decide⟩) ?_
  refine tc_newa (N := 5) (n := 203) hC dX11_init_147 w_ac ⟨by decide, by decide, by decide⟩ ⟨Nat.le_of_ble_eq_true rfl, Nat.le_of_ble_eq_true rfl⟩ rfl ?_
  refine tc_put (fs := [some (.inl 0), some (.inr 188), some (.inr 189), some (.inl 1), some (.inl 0), some (.inr 190), some (.inr 191), some (.inr 192), some (.inr 193), some (.inl 0), some (.inr 194), some (.inl 0), some (.inr 195), some (.inr 196), some (.inr 197), some (.inr 198), some (.inl 0), some (.inr 199), some (.inr 200), some (.inl 1), some (.inl 2), some (.inl 3), some (.inr 201), some (.inr 202), none, none, some (.inl 0), none, none, none, none, none]) (fs2 := [some (.inl 0), some (.inr 188), some (.inr 189), some (.inl 1), some (.inl 0), some (.inr 190), some (.inr 191), some (.inr 192), some (.inr 193), some (.inl 0), some (.inr 194), some (.inl 0), some (.inr 195), some (.inr 196), some (.inr 197), some (.inr 198), some (.inl 0), some (.inr 199), some (.inr 200), some (.inl 1), some (.inl 2), some (.inl 3), some (.inr 201), some (.inr 202), some (.inr 203), none, some (.inl 0), none, none, none, none, none]) hC hI dX11_init_149 pf_X11_68 rfl (by decide) (fun _ => ⟨rfl, rfl⟩) rfl ?_
  refine tc_aload_n hC dX11_init_152 rfl rfl ?_
  refine tc_const (v := 369) hC dX11_init_153 (Or.inr (Or.inr ⟨_, rfl, rfl, by decide⟩)) ?_
  refine tc_newa (N := 369) (n := 204) hC dX11_init_156 w_ac ⟨by decide, by decide, by decide⟩ ⟨Nat.le_of_ble_eq_true rfl, Nat.le_of_ble_eq_true rfl⟩ rfl ?_
  refine tc_put (fs := [some (.inl 0), some (.inr 188), some (.inr 189), some (.inl 1), some (.inl 0), some (.inr 190), some (.inr 191), some (.inr 192), some (.inr 193), some (.inl 0), some (.inr 194), some (.inl 0), some (.inr 195), some (.inr 196), some (.inr 197), some (.inr 198), some (.inl 0), some (.inr 199), some (.inr 200), some (.inl 1), some (.inl 2), some (.inl 3), some (.inr 201), some (.inr 202), some (.inr 203), none, some (.inl 0), none, none, none, none, none]) (fs2 := [some (.inl 0), some (.inr 188), some (.inr 189), some (.inl 1), some (.inl 0), some (.inr 190), some (.inr 191), some (.inr 192), some (.inr 193), some (.inl 0), some (.inr 194), some (.inl 0), some (.inr 195), some (.inr 196), some (.inr 197), some (.inr 198), some (.inl 0), some (.inr 199), some (.inr 200), some (.inl 1), some (.inl 2), some (.inl 3), some (.inr 201), some (.inr 202), some (.inr 203), some (.inr 204), some (.inl 0), none, none, none, none, none]) hC hI dX11_init_158 pf_X11_71 rfl (by decide) (fun _ => ⟨rfl, rfl⟩) rfl ?_
  refine tc_aload_n hC dX11_init_161 rfl rfl ?_
  refine tc_const (v := 40) hC dX11_init_162 (Or.inr (Or.inl ⟨_, rfl, rfl, by decide⟩)) ?_
  refine tc_newa (N := 40) (n := 205) hC dX11_init_164 w_ac ⟨by decide, by decide, by decide⟩ ⟨Nat.le_of_ble_eq_true rfl, Nat.le_of_ble_eq_true rfl⟩ rfl ?_
  refine tc_put (fs := [some (.inl 0), some (.inr 188), some (.inr 189), some (.inl 1), some (.inl 0), some (.inr 190), some (.inr 191), some (.inr 192), some (.inr 193), some (.inl 0), some (.inr 194), some (.inl 0), some (.inr 195), some (.inr 196), some (.inr 197), some (.inr 198), some (.inl 0), some (.inr 199), some (.inr 200), some (.inl 1), some (.inl 2), some (.inl 3), some (.inr 201), some (.inr 202), some (.inr 203), some (.inr 204), some (.inl 0), none, none, none, none, none]) (fs2 := [some (.inl 0), some (.inr 188), some (.inr 189), some (.inl 1), some (.inl 0), some (.inr 190), some (.inr 191), some (.inr 192), some (.inr 193), some (.inl 0), some (.inr 194), some (.inl 0), some (.inr 195), some (.inr 196), some (.inr 197), some (.inr 198), some (.inl 0), some (.inr 199), some (.inr 200), some (.inl 1), some (.inl 2), some (.inl 3), some (.inr 201), some (.inr 202), some (.inr 203), some (.inr 204), some (.inl 0), some (.inr 205), none, none, none, none]) hC hI dX11_init_166 pf_X11_74 rfl (by decide) (fun _ => ⟨rfl, rfl⟩) rfl ?_
  refine tc_aload_n hC dX11_init_169 rfl rfl ?_
  refine tc_const (v := 41) hC dX11_init_170 (Or.inr (Or.inl ⟨_, rfl, rfl, by decide⟩)) ?_
  refine tc_newa (N := 41) (n := 206) hC dX11_init_172 w_ac ⟨by decide, by decide, by decide⟩ ⟨Nat.le_of_ble_eq_true rfl, Nat.le_of_ble_eq_true rfl⟩ rfl ?_
  refine tc_put (fs := [some (.inl 0), some (.inr 188), some (.inr 189), some (.inl 1), some (.inl 0), some (.inr 190), some (.inr 191), some (.inr 192), some (.inr 193), some (.inl 0), some (.inr 194), some (.inl 0), some (.inr 195), some (.inr 196), some (.inr 197), some (.inr 198), some (.inl 0), some (.inr 199), some (.inr 200), some (.inl 1), some (.inl 2), some (.inl 3), some (.inr 201), some (.inr 202), some (.inr 203), some (.inr 204), some (.inl 0), some (.inr 205), none, none, none, none]) (fs2 := [some (.inl 0), some (.inr 188), some (.inr 189), some (.inl 1), some (.inl 0), some (.inr 190), some (.inr 191), some (.inr 192), some (.inr 193), some (.inl 0), some (.inr 194), some (.inl 0), some (.inr 195), some (.inr 196), some (.inr 197), some (.inr 198), some (.inl 0), some (.inr 199), some (.inr 200), some (.inl 1), some (.inl 2), some (.inl 3), some (.inr 201), some (.inr 202), some (.inr 203), some (.inr 204), some (.inl 0), some (.inr 205), some (.inr 206), none, none, none]) hC hI dX11_init_174 pf_X11_77 rfl (by decide) (fun _ => ⟨rfl, rfl⟩) rfl ?_
  refine tc_aload_n hC dX11_init_177 rfl rfl ?_
  refine tc_const (v := 41) hC dX11_init_178 (Or.inr (Or.inl ⟨_, rfl, rfl, by decide⟩)) ?_
  refine tc_newa (N := 41) (n := 207) hC dX11_init_180 w_ac ⟨by decide, by decide, by decide⟩ ⟨Nat.le_of_ble_eq_true rfl, Nat.le_of_ble_eq_true rfl⟩ rfl ?_
  refine tc_put (fs := [some (.inl 0), some (.inr 188), some (.inr 189), some (.inl 1), some (.inl 0), some (.inr 190), some (.inr 191), some (.inr 192), some (.inr 193), some (.inl 0), some (.inr 194), some (.inl 0), some (.inr 195), some (.inr 196), some (.inr 197), some (.inr 198), some (.inl 0), some (.inr 199), some (.inr 200), some (.inl 1), some (.inl 2), some (.inl 3), some (.inr 201), some (.inr 202), some (.inr 203), some (.inr 204), some (.inl 0), some (.inr 205), some (.inr 206), none, none, none]) (fs2 := [some (.inl 0), some (.inr 188), some (.inr 189), some (.inl 1), some (.inl 0), some (.inr 190), some (.inr 191), some (.inr 192), some (.inr 193), some (.inl 0), some (.inr 194), some (.inl 0), some (.inr 195), some (.inr 196), some (.inr 197), some (.inr 198), some (.inl 0), some (.inr 199), some (.inr 200), some (.inl 1), some (.inl 2), some (.inl 3), some (.inr 201), some (.inr 202), some (.inr 203), some (.inr 204), some (.inl 0), some (.inr 205), some (.inr 206), some (.inr 207), none, none]) hC hI dX11_init_182 pf_X11_80 rfl (by decide) (fun _ => ⟨rfl, rfl⟩) rfl ?_
  refine tc_aload_n hC dX11_init_185 rfl rfl ?_
  refine tc_const (v := 3936) hC dX11_init_186 (Or.inr (Or.inr ⟨_, rfl, rfl, by decide⟩)) ?_
  refine tc_newa (N := 3936) (n := 208) hC dX11_init_189 w_ac ⟨by decide, by decide, by decide⟩ ⟨Nat.le_of_ble_eq_true rfl, Nat.le_of_ble_eq_true rfl⟩ rfl ?_
  refine tc_put (fs := [some (.inl 0), some (.inr 188), some (.inr 189), some (.inl 1), some (.inl 0), some (.inr 190), some (.inr 191), some (.inr 192), some (.inr 193), some (.inl 0), some (.inr 194), some (.inl 0), some (.inr 195), some (.inr 196), some (.inr 197), some (.inr 198), some (.inl 0), some (.inr 199), some (.inr 200), some (.inl 1), some (.inl 2), some (.inl 3), some (.inr 201), some (.inr 202), some (.inr 203), some (.inr 204), some (.inl 0), some (.inr 205), some (.inr 206), some (.inr 207), none, none]) (fs2 := [some (.inl 0), some (.inr 188), some (.inr 189), some (.inl 1), some (.inl 0), some (.inr 190), some (.inr 191), some (.inr 192), some (.inr 193), some (.inl 0), some (.inr 194), some (.inl 0), some (.inr 195), some (.inr 196), some (.inr 197), some (.inr 198), some (.inl 0), some (.inr 199), some (.inr 200), some (.inl 1), some (.inl 2), some (.inl 3), some (.inr 201), some (.inr 202), some (.inr 203), some (.inr 204), some (.inl 0), some (.inr 205), some (.inr 206), some (.inr 207), some (.inr 208), none]) hC hI dX11_init_191 pf_X11_83 rfl (by decide) (fun _ => ⟨rfl, rfl⟩) rfl ?_
  refine tc_aload_n hC dX11_init_194 rfl rfl ?_
  refine tc_const (v := 533) hC dX11_init_195 (Or.inr (Or.inr ⟨_, rfl, rfl, by decide⟩)) ?_
  refine tc_newa (N := 533) (n := 209) hC dX11_init_198 w_ac ⟨by decide, by decide, by decide⟩ ⟨Nat.le_of_ble_eq_true rfl, Nat.le_of_ble_eq_true rfl⟩ rfl ?_
  refine tc_put (fs := [some (.inl 0), some (.inr 188), some (.inr 189), some (.inl 1), some (.inl 0), some (.inr 190), some (.inr 191), some (.inr 192), some (.inr 193), some (.inl 0), some (.inr 194), some (.inl 0), some (.inr 195), some (.inr 196), some (.inr 197), some (.inr 198), some (.inl 0), some (.inr 199), some (.inr 200), some (.inl 1), some (.inl 2), some (.inl 3), some (.inr 201), some (.inr 202), some (.inr 203), some (.inr 204), some (.inl 0), some (.inr 205), some (.inr 206), some (.inr 207), some (.inr 208), none]) (fs2 := [some (.inl 0), some (.inr 188), some (.inr 189), some (.inl 1), some (.inl 0), some (.inr 190), some (.inr 191), some (.inr 192), some (.inr 193), some (.inl 0), some (.inr 194), some (.inl 0), some (.inr 195), some (.inr 196), some (.inr 197), some (.inr 198), some (.inl 0), some (.inr 199), some (.inr 200), some (.inl 1), some (.inl 2), some (.inl 3), some (.inr 201), some (.inr 202), some (.inr 203), some (.inr 204), some (.inl 0), some (.inr 205), some (.inr 206), some (.inr 207), some (.inr 208), some (.inr 209)]) hC hI dX11_init_200 pf_X11_86 rfl (by decide) (fun _ => ⟨rfl, rfl⟩) rfl ?_
  refine tc_const (v := 0) hC dX11_init_203 (Or.inl ⟨_, rfl, rfl, by decide⟩) ?_
  refine tc_istore_n (loc2 := [some (.inr 187), some (.inl 0)]) hC dX11_init_204 rfl (by decide) rfl ?_
  refine CI_loop (cs := ((((((((((((((((((((((((((((((((((((((((((((((((csP_14 ++ ([.inr (.inl (40, fun _ => 0))] : List CC)).set 187 (.inl (11, [some (.inl 0), some (.inr 188), none, some (.inl 0), some (.inl 0), none, none, none, none, some (.inl 0), none, some (.inl 0), none, none, none, none, some (.inl 0), none, none, some (.inl 0), some (.inl 0), some (.inl 0), none, none, none, none, some (.inl 0), none, none, none, none, none]))) ++ ([.inr (.inl (48, fun _ => 0))] : List CC)).set 187 (.inl (11, [some (.inl 0), some (.inr 188), some (.inr 189), some (.inl 0), some (.inl 0), none, none, none, none, some (.inl 0), none, some (.inl 0), none, none, none, none, some (.inl 0), none, none, some (.inl 0), some (.inl 0), some (.inl 0), none, none, none, none, some (.inl 0), none, none, none, none, none]))).set 187 (.inl (11, [some (.inl 0), some (.inr 188), some (.inr 189), some (.inl 1), some (.inl 0), none, none, none, none, some (.inl 0), none, some (.inl 0), none, none, none, none, some (.inl 0), none, none, some (.inl 0), some (.inl 0), some (.inl 0), none, none, none, none, some (.inl 0), none, none, none, none, none]))) ++ ([.inr (.inl (8, fun _ => 0))] : List CC)).set 187 (.inl (11, [some (.inl 0), some (.inr 188), some (.inr 189), some (.inl 1), some (.inl 0), some (.inr 190), none, none, none, some (.inl 0), none, some (.inl 0), none, none, none, none, some (.inl 0), none, none, some (.inl 0), some (.inl 0), some (.inl 0), none, none, none, none, some (.inl 0), none, none, none, none, none]))) ++ ([.inr (.inl (16, fun _ => 0))] : List CC)).set 187 (.inl (11, [some (.inl 0), some (.inr 188), some (.inr 189), some (.inl 1), some (.inl 0), some (.inr 190), some (.inr 191), none, none, some (.inl 0), none, some (.inl 0), none, none, none, none, some (.inl 0), none, none, some (.inl 0), some (.inl 0), some (.inl 0), none, none, none, none, some (.inl 0), none, none, none, none, none]))) ++ ([.inr (.inl (64, fun _ => 0))] : List CC)).set 187 (.inl (11, [some (.inl 0), some (.inr 188), some (.inr 189), some (.inl 1), some (.inl 0), some (.inr 190), some (.inr 191), some (.inr 192), none, some (.inl 0), none, some (.inl 0), none, none, none, none, some (.inl 0), none, none, some (.inl 0), some (.inl 0), some (.inl 0), none, none, none, none, some (.inl 0), none, none, none, none, none]))) ++ ([.inr (.inl (81, fun _ => 0))] : List CC)).set 187 (.inl (11, [some (.inl 0), some (.inr 188), some (.inr 189), some (.inl 1), some (.inl 0), some (.inr 190), some (.inr 191), some (.inr 192), some (.inr 193), some (.inl 0), none, some (.inl 0), none, none, none, none, some (.inl 0), none, none, some (.inl 0), some (.inl 0), some (.inl 0), none, none, none, none, some (.inl 0), none, none, none, none, none]))) ++ ([.inr (.inl (12, fun _ => 0))] : List CC)).set 187 (.inl (11, [some (.inl 0), some (.inr 188), some (.inr 189), some (.inl 1), some (.inl 0), some (.inr 190), some (.inr 191), some (.inr 192), some (.inr 193), some (.inl 0), some (.inr 194), some (.inl 0), none, none, none, none, some (.inl 0), none, none, some (.inl 0), some (.inl 0), some (.inl 0), none, none, none, none, some (.inl 0), none, none, none, none, none]))) ++ ([.inr (.inl (40, fun _ => 0))] : List CC)).set 187 (.inl (11, [some (.inl 0), some (.inr 188), some (.inr 189), some (.inl 1), some (.inl 0), some (.inr 190), some (.inr 191), some (.inr 192), some (.inr 193), some (.inl 0), some (.inr 194), some (.inl 0), some (.inr 195), none, none, none, some (.inl 0), none, none, some (.inl 0), some (.inl 0), some (.inl 0), none, none, none, none, some (.inl 0), none, none, none, none, none]))) ++ ([.inr (.inl (40, fun _ => 0))] : List CC)).set 187 (.inl (11, [some (.inl 0), some (.inr 188), some (.inr 189), some (.inl 1), some (.inl 0), some (.inr 190), some (.inr 191), some (.inr 192), some (.inr 193), some (.inl 0), some (.inr 194), some (.inl 0), some (.inr 195), some (.inr 196), none, none, some (.inl 0), none, none, some (.inl 0), some (.inl 0), some (.inl 0), none, none, none, none, some (.inl 0), none, none, none, none, none]))) ++ ([.inr (.inl (40, fun _ => 0))] : List CC)).set 187 (.inl (11, [some (.inl 0), some (.inr 188), some (.inr 189), some (.inl 1), some (.inl 0), some (.inr 190), some (.inr 191), some (.inr 192), some (.inr 193), some (.inl 0), some (.inr 194), some (.inl 0), some (.inr 195), some (.inr 196), some (.inr 197), none, some (.inl 0), none, none, some (.inl 0), some (.inl 0), some (.inl 0), none, none, none, none, some (.inl 0), none, none, none, none, none]))) ++ ([.inr (.inl (48, fun _ => 0))] : List CC)).set 187 (.inl (11, [some (.inl 0), some (.inr 188), some (.inr 189), some (.inl 1), some (.inl 0), some (.inr 190), some (.inr 191), some (.inr 192), some (.inr 193), some (.inl 0), some (.inr 194), some (.inl 0), some (.inr 195), some (.inr 196), some (.inr 197), some (.inr 198), some (.inl 0), none, none, some (.inl 0), some (.inl 0), some (.inl 0), none, none, none, none, some (.inl 0), none, none, none, none, none]))) ++ ([.inr (.inl (16, fun _ => 0))] : List CC)).set 187 (.inl (11, [some (.inl 0), some (.inr 188), some (.inr 189), some (.inl 1), some (.inl 0), some (.inr 190), some (.inr 191), some (.inr 192), some (.inr 193), some (.inl 0), some (.inr 194), some (.inl 0), some (.inr 195), some (.inr 196), some (.inr 197), some (.inr 198), some (.inl 0), some (.inr 199), none, some (.inl 0), some (.inl 0), some (.inl 0), none, none, none, none, some (.inl 0), none, none, none, none, none]))) ++ ([.inr (.inl (640, fun _ => 0))] : List CC)).set 187 (.inl (11, [some (.inl 0), some (.inr 188), some (.inr 189), some (.inl 1), some (.inl 0), some (.inr 190), some (.inr 191), some (.inr 192), some (.inr 193), some (.inl 0), some (.inr 194), some (.inl 0), some (.inr 195), some (.inr 196), some (.inr 197), some (.inr 198), some (.inl 0), some (.inr 199), some (.inr 200), some (.inl 0), some (.inl 0), some (.inl 0), none, none, none, none, some (.inl 0), none, none, none, none, none]))).set 187 (.inl (11, [some (.inl 0), some (.inr 188), some (.inr 189), some (.inl 1), some (.inl 0), some (.inr 190), some (.inr 191), some (.inr 192), some (.inr 193), some (.inl 0), some (.inr 194), some (.inl 0), some (.inr 195), some (.inr 196), some (.inr 197), some (.inr 198), some (.inl 0), some (.inr 199), some (.inr 200), some (.inl 1), some (.inl 0), some (.inl 0), none, none, none, none, some (.inl 0), none, none, none, none, none]))).set 187 (.inl (11, [some (.inl 0), some (.inr 188), some (.inr 189), some (.inl 1), some (.inl 0), some (.inr 190), some (.inr 191), some (.inr 192), some (.inr 193), some (.inl 0), some (.inr 194), some (.inl 0), some (.inr 195), some (.inr 196), some (.inr 197), some (.inr 198), some (.inl 0), some (.inr 199), some (.inr 200), some (.inl 1), some (.inl 2), some (.inl 0), none, none, none, none, some (.inl 0), none, none, none, none, none]))).set 187 (.inl (11, [some (.inl 0), some (.inr 188), some (.inr 189), some (.inl 1), some (.inl 0), some (.inr 190), some (.inr 191), some (.inr 192), some (.inr 193), some (.inl 0), some (.inr 194), some (.inl 0), some (.inr 195), some (.inr 196), some (.inr 197), some (.inr 198), some (.inl 0), some (.inr 199), some (.inr 200), some (.inl 1), some (.inl 2), some (.inl 3), none, none, none, none, some (.inl 0), none, none, none, none, none]))) ++ ([.inr (.inl (13448, fun _ => 0))] : List CC)).set 187 (.inl (11, [some (.inl 0), some (.inr 188), some (.inr 189), some (.inl 1), some (.inl 0), some (.inr 190), some (.inr 191), some (.inr 192), some (.inr 193), some (.inl 0), some (.inr 194), some (.inl 0), some (.inr 195), some (.inr 196), some (.inr 197), some (.inr 198), some (.inl 0), some (.inr 199), some (.inr 200), some (.inl 1), some (.inl 2), some (.inl 3), some (.inr 201), none, none, none, some (.inl 0), none, none, none, none, none]))) ++ ([.inr (.inl (5, fun _ => 0))] : List CC)).set 187 (.inl (11, [some (.inl 0), some (.inr 188), some (.inr 189), some (.inl 1), some (.inl 0), some (.inr 190), some (.inr 191), some (.inr 192), some (.inr 193), some (.inl 0), some (.inr 194), some (.inl 0), some (.inr 195), some (.inr 196), some (.inr 197), some (.inr 198), some (.inl 0), some (.inr 199), some (.inr 200), some (.inl 1), some (.inl 2), some (.inl 3), some (.inr 201), some (.inr 202), none, none, some (.inl 0), none, none, none, none, none]))) ++ ([.inr (.inl (5, fun _ => 0))] : List CC)).set 187 (.inl (11, [some (.inl 0), some (.inr 188), some (.inr 189), some (.inl 1), some (.inl 0), some (.inr 190), some (.inr 191), some (.inr 192), some (.inr 193), some (.inl 0), some (.inr 194), some (.inl 0), some (.inr 195), some (.inr 196), some (.inr 197), some (.inr 198), some (.inl 0), some (.inr 199), some (.inr 200), some (.inl 1), some (.inl 2), some (.inl 3), some (.inr 201), some (.inr 202), some (.inr 203), none, some (.inl 0), none, none, none, none, none]))) ++ ([.inr (.inl (369, fun _ => 0))] : List CC)).set 187 (.inl (11, [some (.inl 0), some (.inr 188), some (.inr 189), some (.inl 1), some (.inl 0), some (.inr 190), some (.inr 191), some (.inr 192), some (.inr 193), some (.inl 0), some (.inr 194), some (.inl 0), some (.inr 195), some (.inr 196), some (.inr 197), some (.inr 198), some (.inl 0), some (.inr 199), some (.inr 200), some (.inl 1), some (.inl 2), some (.inl 3), some (.inr 201), some (.inr 202), some (.inr 203), some (.inr 204), some (.inl 0), none, none, none, none, none]))) ++ ([.inr (.inl (40, fun _ => 0))] : List CC)).set 187 (.inl (11, [some (.inl 0), some (.inr 188), some (.inr 189), some (.inl 1), some (.inl 0), some (.inr 190), some (.inr 191), some (.inr 192), some (.inr 193), some (.inl 0), some (.inr 194), some (.inl 0), some (.inr 195), some (.inr 196), some (.inr 197), some (.inr 198), some (.inl 0), some (.inr 199), some (.inr 200), some (.inl 1), some (.inl 2), some (.inl 3), some (.inr 201), some (.inr 202), some (.inr 203), some (.inr 204), some (.inl 0), some (.inr 205), none, none, none, none]))) ++ ([.inr (.inl (41, fun _ => 0))] : List CC)).set 187 (.inl (11, [some (.inl 0), some (.inr 188), some (.inr 189), some (.inl 1), some (.inl 0), some (.inr 190), some (.inr 191), some (.inr 192), some (.inr 193), some (.inl 0), some (.inr 194), some (.inl 0), some (.inr 195), some (.inr 196), some (.inr 197), some (.inr 198), some (.inl 0), some (.inr 199), some (.inr 200), some (.inl 1), some (.inl 2), some (.inl 3), some (.inr 201), some (.inr 202), some (.inr 203), some (.inr 204), some (.inl 0), some (.inr 205), some (.inr 206), none, none, none]))) ++ ([.inr (.inl (41, fun _ => 0))] : List CC)).set 187 (.inl (11, [some (.inl 0), some (.inr 188), some (.inr 189), some (.inl 1), some (.inl 0), some (.inr 190), some (.inr 191), some (.inr 192), some (.inr 193), some (.inl 0), some (.inr 194), some (.inl 0), some (.inr 195), some (.inr 196), some (.inr 197), some (.inr 198), some (.inl 0), some (.inr 199), some (.inr 200), some (.inl 1), some (.inl 2), some (.inl 3), some (.inr 201), some (.inr 202), some (.inr 203), some (.inr 204), some (.inl 0), some (.inr 205), some (.inr 206), some (.inr 207), none, none]))) ++ ([.inr (.inl (3936, fun _ => 0))] : List CC)).set 187 (.inl (11, [some (.inl 0), some (.inr 188), some (.inr 189), some (.inl 1), some (.inl 0), some (.inr 190), some (.inr 191), some (.inr 192), some (.inr 193), some (.inl 0), some (.inr 194), some (.inl 0), some (.inr 195), some (.inr 196), some (.inr 197), some (.inr 198), some (.inl 0), some (.inr 199), some (.inr 200), some (.inl 1), some (.inl 2), some (.inl 3), some (.inr 201), some (.inr 202), some (.inr 203), some (.inr 204), some (.inl 0), some (.inr 205), some (.inr 206), some (.inr 207), some (.inr 208), none]))) ++ ([.inr (.inl (533, fun _ => 0))] : List CC)).set 187 (.inl (11, [some (.inl 0), some (.inr 188), some (.inr 189), some (.inl 1), some (.inl 0), some (.inr 190), some (.inr 191), some (.inr 192), some (.inr 193), some (.inl 0), some (.inr 194), some (.inl 0), some (.inr 195), some (.inr 196), some (.inr 197), some (.inr 198), some (.inl 0), some (.inr 199), some (.inr 200), some (.inl 1), some (.inl 2), some (.inl 3), some (.inr 201), some (.inr 202), some (.inr 203), some (.inr 204), some (.inl 0), some (.inr 205), some (.inr 206), some (.inr 207), some (.inr 208), some (.inr 209)])))) hC rfl rfl rfl rfl ?_
  exact tc_ret hC hT dX11_init_225 ⟨Nat.le_of_ble_eq_true rfl, Nat.le_of_ble_eq_true rfl⟩
