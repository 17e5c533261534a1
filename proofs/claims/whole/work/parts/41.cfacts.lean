theorem zq_X12_word : Cond.initialized kX12_word.1.cls ∈ zT ∧ Cond.code kX12_word.1 kX12_word.2.1 kX12_word.2.2.1 kX12_word.2.2.2 ∈ zT := ⟨zT_of 17 (by decide +kernel) (by decide +kernel), zT_of 1045 (by decide +kernel) (by decide +kernel)⟩
abbrev kX11_init : zM := (yX11_init, cX11_init, 1, none)
theorem zo_1 : Cond.instanceMethod objectInit ∈ zT := zT_of 26 (by decide +kernel) (by decide +kernel)
theorem zo_2 : Cond.code objectInit ⟨#[0xb1]⟩ 1 none ∈ zT := zT_of 27 (by decide +kernel) (by decide +kernel)
theorem zo_X11_3 : Cond.methodLink RX11 3 objectInit ∈ zT := zT_of 25 (by decide +kernel) (by decide +kernel)
theorem zar_byte : Cond.arrayClass .byte ∈ zT := zT_of 109 (by decide +kernel) (by decide +kernel)
theorem zt_X11_0 : zFty 11 0 (.array .byte) true := by
  intro C T N h
  have h2 : (C, T, N) = (RX11, TX11, 14) := (Option.some.inj h).symm
  cases h2
  exact ⟨rfl, by decide +kernel, ⟨tyX11, tyX11_ok⟩, nmX11⟩
theorem zn_X11_17 : Cond.classLink RX11 17 RX10 ∈ zT ∧ Cond.instantiable RX10 7 ∈ zT ∧ Cond.initialized RX10 ∈ zT := ⟨zT_of 28 (by decide +kernel) (by decide +kernel), zT_of 29 (by decide +kernel) (by decide +kernel), zT_of 2 (by decide +kernel) (by decide +kernel)⟩
theorem zb_X10 : ∀ j, j < 7 → defaultValue (tyX10 j) = vp_V [.null, .null, .null, .null, .int 0, .int 0, .int 0] j := by decide +kernel
abbrev kX10_init : zM := (yX10_init, cX10_init, 5, none)
theorem zo_X10_3 : Cond.methodLink RX10 3 objectInit ∈ zT := zT_of 33 (by decide +kernel) (by decide +kernel)
theorem zar_long : Cond.arrayClass .long ∈ zT := zT_of 110 (by decide +kernel) (by decide +kernel)
theorem zt_X10_0 : zFty 10 0 (.array .long) true := by
  intro C T N h
  have h2 : (C, T, N) = (RX10, TX10, 7) := (Option.some.inj h).symm
  cases h2
  exact ⟨rfl, by decide +kernel, ⟨tyX10, tyX10_ok⟩, nmX10⟩
theorem zt_X10_1 : zFty 10 1 (.array .byte) true := by
  intro C T N h
  have h2 : (C, T, N) = (RX10, TX10, 7) := (Option.some.inj h).symm
  cases h2
  exact ⟨rfl, by decide +kernel, ⟨tyX10, tyX10_ok⟩, nmX10⟩
theorem zar_int : Cond.arrayClass .int ∈ zT := zT_of 111 (by decide +kernel) (by decide +kernel)
theorem zt_X10_2 : zFty 10 2 (.array .int) true := by
  intro C T N h
  have h2 : (C, T, N) = (RX10, TX10, 7) := (Option.some.inj h).symm
  cases h2
  exact ⟨rfl, by decide +kernel, ⟨tyX10, tyX10_ok⟩, nmX10⟩
theorem zt_X10_3 : zFty 10 3 (.array .long) true := by
  intro C T N h
  have h2 : (C, T, N) = (RX10, TX10, 7) := (Option.some.inj h).symm
  cases h2
  exact ⟨rfl, by decide +kernel, ⟨tyX10, tyX10_ok⟩, nmX10⟩
theorem zq_X10_init : Cond.initialized kX10_init.1.cls ∈ zT ∧ Cond.code kX10_init.1 kX10_init.2.1 kX10_init.2.2.1 kX10_init.2.2.2 ∈ zT := ⟨zT_of 2 (by decide +kernel) (by decide +kernel), zT_of 32 (by decide +kernel) (by decide +kernel)⟩
theorem zci_X11_19 : zCI RX11 19 kX10_init 0 := ⟨⟨zT_of 30 (by decide +kernel) (by decide +kernel), zq_X10_init.1, zq_X10_init.2, ⟨by decide +kernel, by decide +kernel, by decide +kernel⟩, by decide⟩, zT_of 31 (by decide +kernel) (by decide +kernel), rfl, rfl⟩
theorem zt_X11_2 : zFty 11 2 (.object "SilverBall$Text") true := by
  intro C T N h
  have h2 : (C, T, N) = (RX11, TX11, 14) := (Option.some.inj h).symm
  cases h2
  exact ⟨rfl, by decide +kernel, ⟨tyX11, tyX11_ok⟩, nmX11⟩
theorem zn_X11_24 : Cond.classLink RX11 24 RX2 ∈ zT ∧ Cond.instantiable RX2 3 ∈ zT ∧ Cond.initialized RX2 ∈ zT := ⟨zT_of 112 (by decide +kernel) (by decide +kernel), zT_of 113 (by decide +kernel) (by decide +kernel), zT_of 7 (by decide +kernel) (by decide +kernel)⟩
theorem zb_X2 : ∀ j, j < 3 → defaultValue (tyX2 j) = vp_V [.null, .int 0, .null] j := by decide +kernel
abbrev kX2_init : zM := (yX2_init, cX2_init, 2, none)
theorem zo_X2_3 : Cond.methodLink RX2 3 objectInit ∈ zT := zT_of 117 (by decide +kernel) (by decide +kernel)
theorem zt_X2_2 : zFty 2 2 (.array .int) true := by
  intro C T N h
  have h2 : (C, T, N) = (RX2, TX2, 3) := (Option.some.inj h).symm
  cases h2
  exact ⟨rfl, by decide +kernel, ⟨tyX2, tyX2_ok⟩, nmX2⟩
theorem zt_X2_0 : zFty 2 0 (.object "SilverBall$Text") true := by
  intro C T N h
  have h2 : (C, T, N) = (RX2, TX2, 3) := (Option.some.inj h).symm
  cases h2
  exact ⟨rfl, by decide +kernel, ⟨tyX2, tyX2_ok⟩, nmX2⟩
theorem zq_X2_init : Cond.initialized kX2_init.1.cls ∈ zT ∧ Cond.code kX2_init.1 kX2_init.2.1 kX2_init.2.2.1 kX2_init.2.2.2 ∈ zT := ⟨zT_of 7 (by decide +kernel) (by decide +kernel), zT_of 116 (by decide +kernel) (by decide +kernel)⟩
theorem zci_X11_26 : zCI RX11 26 kX2_init 1 := ⟨⟨zT_of 114 (by decide +kernel) (by decide +kernel), zq_X2_init.1, zq_X2_init.2, ⟨by decide +kernel, by decide +kernel, by decide +kernel⟩, by decide⟩, zT_of 115 (by decide +kernel) (by decide +kernel), rfl, rfl⟩
theorem zt_X11_3 : zFty 11 3 (.object "SilverBall$Grammar") true := by
  intro C T N h
  have h2 : (C, T, N) = (RX11, TX11, 14) := (Option.some.inj h).symm
  cases h2
  exact ⟨rfl, by decide +kernel, ⟨tyX11, tyX11_ok⟩, nmX11⟩
theorem zn_X11_33 : Cond.classLink RX11 33 RX5 ∈ zT ∧ Cond.instantiable RX5 7 ∈ zT ∧ Cond.initialized RX5 ∈ zT := ⟨zT_of 128 (by decide +kernel) (by decide +kernel), zT_of 129 (by decide +kernel) (by decide +kernel), zT_of 8 (by decide +kernel) (by decide +kernel)⟩
theorem zb_X5 : ∀ j, j < 7 → defaultValue (tyX5 j) = vp_V [.null, .null, .null, .null, .int 0, .null, .null] j := by decide +kernel
abbrev kX5_init : zM := (yX5_init, cX5_init, 2, none)
theorem zo_X5_3 : Cond.methodLink RX5 3 objectInit ∈ zT := zT_of 133 (by decide +kernel) (by decide +kernel)
theorem zt_X5_1 : zFty 5 1 (.array .long) true := by
  intro C T N h
  have h2 : (C, T, N) = (RX5, TX5, 7) := (Option.some.inj h).symm
  cases h2
  exact ⟨rfl, by decide +kernel, ⟨tyX5, tyX5_ok⟩, nmX5⟩
theorem zt_X5_2 : zFty 5 2 (.array .int) true := by
  intro C T N h
  have h2 : (C, T, N) = (RX5, TX5, 7) := (Option.some.inj h).symm
  cases h2
  exact ⟨rfl, by decide +kernel, ⟨tyX5, tyX5_ok⟩, nmX5⟩
theorem zt_X5_3 : zFty 5 3 (.array .int) true := by
  intro C T N h
  have h2 : (C, T, N) = (RX5, TX5, 7) := (Option.some.inj h).symm
  cases h2
  exact ⟨rfl, by decide +kernel, ⟨tyX5, tyX5_ok⟩, nmX5⟩
theorem zt_X5_5 : zFty 5 5 (.array .int) true := by
  intro C T N h
  have h2 : (C, T, N) = (RX5, TX5, 7) := (Option.some.inj h).symm
  cases h2
  exact ⟨rfl, by decide +kernel, ⟨tyX5, tyX5_ok⟩, nmX5⟩
theorem zt_X5_6 : zFty 5 6 (.array .long) true := by
  intro C T N h
  have h2 : (C, T, N) = (RX5, TX5, 7) := (Option.some.inj h).symm
  cases h2
  exact ⟨rfl, by decide +kernel, ⟨tyX5, tyX5_ok⟩, nmX5⟩
theorem zt_X5_0 : zFty 5 0 (.object "SilverBall$Text") true := by
  intro C T N h
  have h2 : (C, T, N) = (RX5, TX5, 7) := (Option.some.inj h).symm
  cases h2
  exact ⟨rfl, by decide +kernel, ⟨tyX5, tyX5_ok⟩, nmX5⟩
theorem zq_X5_init : Cond.initialized kX5_init.1.cls ∈ zT ∧ Cond.code kX5_init.1 kX5_init.2.1 kX5_init.2.2.1 kX5_init.2.2.2 ∈ zT := ⟨zT_of 8 (by decide +kernel) (by decide +kernel), zT_of 132 (by decide +kernel) (by decide +kernel)⟩
theorem zci_X11_35 : zCI RX11 35 kX5_init 1 := ⟨⟨zT_of 130 (by decide +kernel) (by decide +kernel), zq_X5_init.1, zq_X5_init.2, ⟨by decide +kernel, by decide +kernel, by decide +kernel⟩, by decide⟩, zT_of 131 (by decide +kernel) (by decide +kernel), rfl, rfl⟩
theorem zt_X11_4 : zFty 11 4 (.object "SilverBall$Names") true := by
  intro C T N h
  have h2 : (C, T, N) = (RX11, TX11, 14) := (Option.some.inj h).symm
  cases h2
  exact ⟨rfl, by decide +kernel, ⟨tyX11, tyX11_ok⟩, nmX11⟩
theorem zn_X11_43 : Cond.classLink RX11 43 RX9 ∈ zT ∧ Cond.instantiable RX9 13 ∈ zT ∧ Cond.initialized RX9 ∈ zT := ⟨zT_of 156 (by decide +kernel) (by decide +kernel), zT_of 157 (by decide +kernel) (by decide +kernel), zT_of 9 (by decide +kernel) (by decide +kernel)⟩
theorem zb_X9 : ∀ j, j < 13 → defaultValue (tyX9 j) = vp_V [.null, .null, .null, .null, .null, .null, .null, .null, .null, .null, .null, .null, .null] j := by decide +kernel
abbrev kX9_init : zM := (yX9_init, cX9_init, 1, none)
theorem zo_X9_3 : Cond.methodLink RX9 3 objectInit ∈ zT := zT_of 161 (by decide +kernel) (by decide +kernel)
theorem zt_X9_0 : zFty 9 0 (.array .int) true := by
  intro C T N h
  have h2 : (C, T, N) = (RX9, TX9, 13) := (Option.some.inj h).symm
  cases h2
  exact ⟨rfl, by decide +kernel, ⟨tyX9, tyX9_ok⟩, nmX9⟩
theorem zt_X9_1 : zFty 9 1 (.array .int) true := by
  intro C T N h
  have h2 : (C, T, N) = (RX9, TX9, 13) := (Option.some.inj h).symm
  cases h2
  exact ⟨rfl, by decide +kernel, ⟨tyX9, tyX9_ok⟩, nmX9⟩
theorem zt_X9_2 : zFty 9 2 (.array .int) true := by
  intro C T N h
  have h2 : (C, T, N) = (RX9, TX9, 13) := (Option.some.inj h).symm
  cases h2
  exact ⟨rfl, by decide +kernel, ⟨tyX9, tyX9_ok⟩, nmX9⟩
theorem zt_X9_3 : zFty 9 3 (.array .int) true := by
  intro C T N h
  have h2 : (C, T, N) = (RX9, TX9, 13) := (Option.some.inj h).symm
  cases h2
  exact ⟨rfl, by decide +kernel, ⟨tyX9, tyX9_ok⟩, nmX9⟩
theorem zt_X9_4 : zFty 9 4 (.array .int) true := by
  intro C T N h
  have h2 : (C, T, N) = (RX9, TX9, 13) := (Option.some.inj h).symm
  cases h2
  exact ⟨rfl, by decide +kernel, ⟨tyX9, tyX9_ok⟩, nmX9⟩
theorem zt_X9_5 : zFty 9 5 (.array .int) true := by
  intro C T N h
  have h2 : (C, T, N) = (RX9, TX9, 13) := (Option.some.inj h).symm
  cases h2
  exact ⟨rfl, by decide +kernel, ⟨tyX9, tyX9_ok⟩, nmX9⟩
theorem zt_X9_6 : zFty 9 6 (.array .int) true := by
  intro C T N h
  have h2 : (C, T, N) = (RX9, TX9, 13) := (Option.some.inj h).symm
  cases h2
  exact ⟨rfl, by decide +kernel, ⟨tyX9, tyX9_ok⟩, nmX9⟩
theorem zt_X9_7 : zFty 9 7 (.array .int) true := by
  intro C T N h
  have h2 : (C, T, N) = (RX9, TX9, 13) := (Option.some.inj h).symm
  cases h2
  exact ⟨rfl, by decide +kernel, ⟨tyX9, tyX9_ok⟩, nmX9⟩
theorem zt_X9_8 : zFty 9 8 (.array .int) true := by
  intro C T N h
  have h2 : (C, T, N) = (RX9, TX9, 13) := (Option.some.inj h).symm
  cases h2
  exact ⟨rfl, by decide +kernel, ⟨tyX9, tyX9_ok⟩, nmX9⟩
theorem zt_X9_9 : zFty 9 9 (.array .int) true := by
  intro C T N h
  have h2 : (C, T, N) = (RX9, TX9, 13) := (Option.some.inj h).symm
  cases h2
  exact ⟨rfl, by decide +kernel, ⟨tyX9, tyX9_ok⟩, nmX9⟩
theorem zt_X9_10 : zFty 9 10 (.array .int) true := by
  intro C T N h
  have h2 : (C, T, N) = (RX9, TX9, 13) := (Option.some.inj h).symm
  cases h2
  exact ⟨rfl, by decide +kernel, ⟨tyX9, tyX9_ok⟩, nmX9⟩
theorem zt_X9_11 : zFty 9 11 (.array .int) true := by
  intro C T N h
  have h2 : (C, T, N) = (RX9, TX9, 13) := (Option.some.inj h).symm
  cases h2
  exact ⟨rfl, by decide +kernel, ⟨tyX9, tyX9_ok⟩, nmX9⟩
theorem zn_X9_48 : Cond.classLink RX9 48 RX6 ∈ zT ∧ Cond.instantiable RX6 12 ∈ zT ∧ Cond.initialized RX6 ∈ zT := ⟨zT_of 162 (by decide +kernel) (by decide +kernel), zT_of 163 (by decide +kernel) (by decide +kernel), zT_of 10 (by decide +kernel) (by decide +kernel)⟩
theorem zb_X6 : ∀ j, j < 12 → defaultValue (tyX6 j) = vp_V [.null, .null, .int 0, .int 0, .null, .null, .null, .null, .null, .null, .null, .int 0] j := by decide +kernel
abbrev kX6_init : zM := (yX6_init, cX6_init, 1, none)
theorem zo_X6_3 : Cond.methodLink RX6 3 objectInit ∈ zT := zT_of 167 (by decide +kernel) (by decide +kernel)
theorem zt_X6_0 : zFty 6 0 (.array .byte) true := by
  intro C T N h
  have h2 : (C, T, N) = (RX6, TX6, 12) := (Option.some.inj h).symm
  cases h2
  exact ⟨rfl, by decide +kernel, ⟨tyX6, tyX6_ok⟩, nmX6⟩
theorem zt_X6_1 : zFty 6 1 (.array .int) true := by
  intro C T N h
  have h2 : (C, T, N) = (RX6, TX6, 12) := (Option.some.inj h).symm
  cases h2
  exact ⟨rfl, by decide +kernel, ⟨tyX6, tyX6_ok⟩, nmX6⟩
theorem zt_X6_4 : zFty 6 4 (.array .int) true := by
  intro C T N h
  have h2 : (C, T, N) = (RX6, TX6, 12) := (Option.some.inj h).symm
  cases h2
  exact ⟨rfl, by decide +kernel, ⟨tyX6, tyX6_ok⟩, nmX6⟩
theorem zt_X6_5 : zFty 6 5 (.array .int) true := by
  intro C T N h
  have h2 : (C, T, N) = (RX6, TX6, 12) := (Option.some.inj h).symm
  cases h2
  exact ⟨rfl, by decide +kernel, ⟨tyX6, tyX6_ok⟩, nmX6⟩
theorem zt_X6_6 : zFty 6 6 (.array .int) true := by
  intro C T N h
  have h2 : (C, T, N) = (RX6, TX6, 12) := (Option.some.inj h).symm
  cases h2
  exact ⟨rfl, by decide +kernel, ⟨tyX6, tyX6_ok⟩, nmX6⟩
theorem zt_X6_7 : zFty 6 7 (.array .int) true := by
  intro C T N h
  have h2 : (C, T, N) = (RX6, TX6, 12) := (Option.some.inj h).symm
  cases h2
  exact ⟨rfl, by decide +kernel, ⟨tyX6, tyX6_ok⟩, nmX6⟩
theorem zar_boolean : Cond.arrayClass .boolean ∈ zT := zT_of 207 (by decide +kernel) (by decide +kernel)
theorem zt_X6_8 : zFty 6 8 (.array .boolean) true := by
  intro C T N h
  have h2 : (C, T, N) = (RX6, TX6, 12) := (Option.some.inj h).symm
  cases h2
  exact ⟨rfl, by decide +kernel, ⟨tyX6, tyX6_ok⟩, nmX6⟩
theorem zt_X6_9 : zFty 6 9 (.array .boolean) true := by
  intro C T N h
  have h2 : (C, T, N) = (RX6, TX6, 12) := (Option.some.inj h).symm
  cases h2
  exact ⟨rfl, by decide +kernel, ⟨tyX6, tyX6_ok⟩, nmX6⟩
theorem zt_X6_10 : zFty 6 10 (.array .int) true := by
  intro C T N h
  have h2 : (C, T, N) = (RX6, TX6, 12) := (Option.some.inj h).symm
  cases h2
  exact ⟨rfl, by decide +kernel, ⟨tyX6, tyX6_ok⟩, nmX6⟩
theorem zq_X6_init : Cond.initialized kX6_init.1.cls ∈ zT ∧ Cond.code kX6_init.1 kX6_init.2.1 kX6_init.2.2.1 kX6_init.2.2.2 ∈ zT := ⟨zT_of 10 (by decide +kernel) (by decide +kernel), zT_of 166 (by decide +kernel) (by decide +kernel)⟩
theorem zqi_X6_init : Cond.instanceMethod kX6_init.1 ∈ zT := zT_of 165 (by decide +kernel) (by decide +kernel)
theorem zt_X9_12 : zFty 9 12 (.object "SilverBall$Rules") true := by
  intro C T N h
  have h2 : (C, T, N) = (RX9, TX9, 13) := (Option.some.inj h).symm
  cases h2
  exact ⟨rfl, by decide +kernel, ⟨tyX9, tyX9_ok⟩, nmX9⟩
theorem zq_X9_init : Cond.initialized kX9_init.1.cls ∈ zT ∧ Cond.code kX9_init.1 kX9_init.2.1 kX9_init.2.2.1 kX9_init.2.2.2 ∈ zT := ⟨zT_of 9 (by decide +kernel) (by decide +kernel), zT_of 160 (by decide +kernel) (by decide +kernel)⟩
theorem zqi_X9_init : Cond.instanceMethod kX9_init.1 ∈ zT := zT_of 159 (by decide +kernel) (by decide +kernel)
theorem zt_X11_6 : zFty 11 6 (.object "SilverBall$Table") true := by
  intro C T N h
  have h2 : (C, T, N) = (RX11, TX11, 14) := (Option.some.inj h).symm
  cases h2
  exact ⟨rfl, by decide +kernel, ⟨tyX11, tyX11_ok⟩, nmX11⟩
theorem zn_X11_54 : Cond.classLink RX11 54 RX1 ∈ zT ∧ Cond.instantiable RX1 15 ∈ zT ∧ Cond.initialized RX1 ∈ zT := ⟨zT_of 265 (by decide +kernel) (by decide +kernel), zT_of 266 (by decide +kernel) (by decide +kernel), zT_of 11 (by decide +kernel) (by decide +kernel)⟩
theorem zb_X1 : ∀ j, j < 15 → defaultValue (tyX1 j) = vp_V [.null, .null, .null, .null, .null, .null, .null, .null, .long 0, .int 0, .int 0, .int 0, .int 0, .int 0, .int 0] j := by decide +kernel
abbrev kX1_init : zM := (yX1_init, cX1_init, 3, none)
theorem zo_X1_3 : Cond.methodLink RX1 3 objectInit ∈ zT := zT_of 270 (by decide +kernel) (by decide +kernel)
theorem zt_X1_7 : zFty 1 7 (.array .int) true := by
  intro C T N h
  have h2 : (C, T, N) = (RX1, TX1, 15) := (Option.some.inj h).symm
  cases h2
  exact ⟨rfl, by decide +kernel, ⟨tyX1, tyX1_ok⟩, nmX1⟩
theorem zt_X1_0 : zFty 1 0 (.object "SilverBall$Table") true := by
  intro C T N h
  have h2 : (C, T, N) = (RX1, TX1, 15) := (Option.some.inj h).symm
  cases h2
  exact ⟨rfl, by decide +kernel, ⟨tyX1, tyX1_ok⟩, nmX1⟩
theorem zf_X1_43 : zFld RX1 43 9 12 := ⟨RX9, TX9, 13, rfl, by decide, zin_X9, by decide +kernel, zT_of 235 (by decide +kernel) (by decide +kernel)⟩
theorem zt_X1_1 : zFty 1 1 (.object "SilverBall$Rules") true := by
  intro C T N h
  have h2 : (C, T, N) = (RX1, TX1, 15) := (Option.some.inj h).symm
  cases h2
  exact ⟨rfl, by decide +kernel, ⟨tyX1, tyX1_ok⟩, nmX1⟩
theorem zn_X1_50 : Cond.classLink RX1 50 RX7 ∈ zT ∧ Cond.instantiable RX7 4 ∈ zT ∧ Cond.initialized RX7 ∈ zT := ⟨zT_of 271 (by decide +kernel) (by decide +kernel), zT_of 272 (by decide +kernel) (by decide +kernel), zT_of 12 (by decide +kernel) (by decide +kernel)⟩
theorem zb_X7 : ∀ j, j < 4 → defaultValue (tyX7 j) = vp_V [.null, .null, .null, .int 0] j := by decide +kernel
abbrev kX7_init : zM := (yX7_init, cX7_init, 2, none)
theorem zo_X7_3 : Cond.methodLink RX7 3 objectInit ∈ zT := zT_of 276 (by decide +kernel) (by decide +kernel)
theorem zt_X7_1 : zFty 7 1 (.array .int) true := by
  intro C T N h
  have h2 : (C, T, N) = (RX7, TX7, 4) := (Option.some.inj h).symm
  cases h2
  exact ⟨rfl, by decide +kernel, ⟨tyX7, tyX7_ok⟩, nmX7⟩
theorem zt_X7_2 : zFty 7 2 (.array .int) true := by
  intro C T N h
  have h2 : (C, T, N) = (RX7, TX7, 4) := (Option.some.inj h).symm
  cases h2
  exact ⟨rfl, by decide +kernel, ⟨tyX7, tyX7_ok⟩, nmX7⟩
theorem zt_X7_0 : zFty 7 0 (.object "SilverBall$Rules") true := by
  intro C T N h
  have h2 : (C, T, N) = (RX7, TX7, 4) := (Option.some.inj h).symm
  cases h2
  exact ⟨rfl, by decide +kernel, ⟨tyX7, tyX7_ok⟩, nmX7⟩
theorem zq_X7_init : Cond.initialized kX7_init.1.cls ∈ zT ∧ Cond.code kX7_init.1 kX7_init.2.1 kX7_init.2.2.1 kX7_init.2.2.2 ∈ zT := ⟨zT_of 12 (by decide +kernel) (by decide +kernel), zT_of 275 (by decide +kernel) (by decide +kernel)⟩
theorem zci_X1_52 : zCI RX1 52 kX7_init 1 := ⟨⟨zT_of 273 (by decide +kernel) (by decide +kernel), zq_X7_init.1, zq_X7_init.2, ⟨by decide +kernel, by decide +kernel, by decide +kernel⟩, by decide⟩, zT_of 274 (by decide +kernel) (by decide +kernel), rfl, rfl⟩
theorem zt_X1_2 : zFty 1 2 (.object "SilverBall$Sums") true := by
  intro C T N h
  have h2 : (C, T, N) = (RX1, TX1, 15) := (Option.some.inj h).symm
  cases h2
  exact ⟨rfl, by decide +kernel, ⟨tyX1, tyX1_ok⟩, nmX1⟩
theorem zn_X1_59 : Cond.classLink RX1 59 RX8 ∈ zT ∧ Cond.instantiable RX8 5 ∈ zT ∧ Cond.initialized RX8 ∈ zT := ⟨zT_of 291 (by decide +kernel) (by decide +kernel), zT_of 292 (by decide +kernel) (by decide +kernel), zT_of 13 (by decide +kernel) (by decide +kernel)⟩
theorem zb_X8 : ∀ j, j < 5 → defaultValue (tyX8 j) = vp_V [.null, .null, .null, .null, .null] j := by decide +kernel
abbrev kX8_init : zM := (yX8_init, cX8_init, 2, none)
theorem zo_X8_3 : Cond.methodLink RX8 3 objectInit ∈ zT := zT_of 296 (by decide +kernel) (by decide +kernel)
theorem zt_X8_1 : zFty 8 1 (.array .int) true := by
  intro C T N h
  have h2 : (C, T, N) = (RX8, TX8, 5) := (Option.some.inj h).symm
  cases h2
  exact ⟨rfl, by decide +kernel, ⟨tyX8, tyX8_ok⟩, nmX8⟩
theorem zt_X8_2 : zFty 8 2 (.array .int) true := by
  intro C T N h
  have h2 : (C, T, N) = (RX8, TX8, 5) := (Option.some.inj h).symm
  cases h2
  exact ⟨rfl, by decide +kernel, ⟨tyX8, tyX8_ok⟩, nmX8⟩
theorem zt_X8_3 : zFty 8 3 (.array .int) true := by
  intro C T N h
  have h2 : (C, T, N) = (RX8, TX8, 5) := (Option.some.inj h).symm
  cases h2
  exact ⟨rfl, by decide +kernel, ⟨tyX8, tyX8_ok⟩, nmX8⟩
theorem zt_X8_4 : zFty 8 4 (.array .int) true := by
  intro C T N h
  have h2 : (C, T, N) = (RX8, TX8, 5) := (Option.some.inj h).symm
  cases h2
  exact ⟨rfl, by decide +kernel, ⟨tyX8, tyX8_ok⟩, nmX8⟩
theorem zt_X8_0 : zFty 8 0 (.object "SilverBall$Table") true := by
  intro C T N h
  have h2 : (C, T, N) = (RX8, TX8, 5) := (Option.some.inj h).symm
  cases h2
  exact ⟨rfl, by decide +kernel, ⟨tyX8, tyX8_ok⟩, nmX8⟩
theorem zq_X8_init : Cond.initialized kX8_init.1.cls ∈ zT ∧ Cond.code kX8_init.1 kX8_init.2.1 kX8_init.2.2.1 kX8_init.2.2.2 ∈ zT := ⟨zT_of 13 (by decide +kernel) (by decide +kernel), zT_of 295 (by decide +kernel) (by decide +kernel)⟩
theorem zci_X1_61 : zCI RX1 61 kX8_init 1 := ⟨⟨zT_of 293 (by decide +kernel) (by decide +kernel), zq_X8_init.1, zq_X8_init.2, ⟨by decide +kernel, by decide +kernel, by decide +kernel⟩, by decide⟩, zT_of 294 (by decide +kernel) (by decide +kernel), rfl, rfl⟩
theorem zt_X1_3 : zFty 1 3 (.object "SilverBall$Switches") true := by
  intro C T N h
  have h2 : (C, T, N) = (RX1, TX1, 15) := (Option.some.inj h).symm
  cases h2
  exact ⟨rfl, by decide +kernel, ⟨tyX1, tyX1_ok⟩, nmX1⟩
theorem zn_X1_68 : Cond.classLink RX1 68 RX0 ∈ zT ∧ Cond.instantiable RX0 5 ∈ zT ∧ Cond.initialized RX0 ∈ zT := ⟨zT_of 315 (by decide +kernel) (by decide +kernel), zT_of 316 (by decide +kernel) (by decide +kernel), zT_of 14 (by decide +kernel) (by decide +kernel)⟩
theorem zb_X0 : ∀ j, j < 5 → defaultValue (tyX0 j) = vp_V [.null, .null, .null, .null, .int 0] j := by decide +kernel
abbrev kX0_init : zM := (yX0_init, cX0_init, 2, none)
theorem zo_X0_3 : Cond.methodLink RX0 3 objectInit ∈ zT := zT_of 320 (by decide +kernel) (by decide +kernel)
theorem zt_X0_1 : zFty 0 1 (.array .int) true := by
  intro C T N h
  have h2 : (C, T, N) = (RX0, TX0, 5) := (Option.some.inj h).symm
  cases h2
  exact ⟨rfl, by decide +kernel, ⟨tyX0, tyX0_ok⟩, nmX0⟩
theorem zt_X0_2 : zFty 0 2 (.array .int) true := by
  intro C T N h
  have h2 : (C, T, N) = (RX0, TX0, 5) := (Option.some.inj h).symm
  cases h2
  exact ⟨rfl, by decide +kernel, ⟨tyX0, tyX0_ok⟩, nmX0⟩
theorem zt_X0_3 : zFty 0 3 (.array .int) true := by
  intro C T N h
  have h2 : (C, T, N) = (RX0, TX0, 5) := (Option.some.inj h).symm
  cases h2
  exact ⟨rfl, by decide +kernel, ⟨tyX0, tyX0_ok⟩, nmX0⟩
theorem zt_X0_0 : zFty 0 0 (.object "SilverBall$Table") true := by
  intro C T N h
  have h2 : (C, T, N) = (RX0, TX0, 5) := (Option.some.inj h).symm
  cases h2
  exact ⟨rfl, by decide +kernel, ⟨tyX0, tyX0_ok⟩, nmX0⟩
theorem zq_X0_init : Cond.initialized kX0_init.1.cls ∈ zT ∧ Cond.code kX0_init.1 kX0_init.2.1 kX0_init.2.2.1 kX0_init.2.2.2 ∈ zT := ⟨zT_of 14 (by decide +kernel) (by decide +kernel), zT_of 319 (by decide +kernel) (by decide +kernel)⟩
theorem zci_X1_70 : zCI RX1 70 kX0_init 1 := ⟨⟨zT_of 317 (by decide +kernel) (by decide +kernel), zq_X0_init.1, zq_X0_init.2, ⟨by decide +kernel, by decide +kernel, by decide +kernel⟩, by decide⟩, zT_of 318 (by decide +kernel) (by decide +kernel), rfl, rfl⟩
theorem zt_X1_4 : zFty 1 4 (.object "SilverBall$Coils") true := by
  intro C T N h
  have h2 : (C, T, N) = (RX1, TX1, 15) := (Option.some.inj h).symm
  cases h2
  exact ⟨rfl, by decide +kernel, ⟨tyX1, tyX1_ok⟩, nmX1⟩
theorem zn_X1_75 : Cond.classLink RX1 75 RX3 ∈ zT ∧ Cond.instantiable RX3 9 ∈ zT ∧ Cond.initialized RX3 ∈ zT := ⟨zT_of 339 (by decide +kernel) (by decide +kernel), zT_of 340 (by decide +kernel) (by decide +kernel), zT_of 15 (by decide +kernel) (by decide +kernel)⟩
theorem zb_X3 : ∀ j, j < 9 → defaultValue (tyX3 j) = vp_V [.null, .null, .null, .null, .int 0, .int 0, .int 0, .int 0, .int 0] j := by decide +kernel
abbrev kX3_init : zM := (yX3_init, cX3_init, 3, none)
theorem zo_X3_5 : Cond.methodLink RX3 5 objectInit ∈ zT := zT_of 344 (by decide +kernel) (by decide +kernel)
theorem zt_X3_0 : zFty 3 0 (.object "SilverBall$Table") true := by
  intro C T N h
  have h2 : (C, T, N) = (RX3, TX3, 9) := (Option.some.inj h).symm
  cases h2
  exact ⟨rfl, by decide +kernel, ⟨tyX3, tyX3_ok⟩, nmX3⟩
theorem zt_X3_3 : zFty 3 3 (.array .int) true := by
  intro C T N h
  have h2 : (C, T, N) = (RX3, TX3, 9) := (Option.some.inj h).symm
  cases h2
  exact ⟨rfl, by decide +kernel, ⟨tyX3, tyX3_ok⟩, nmX3⟩
theorem zq_X3_init : Cond.initialized kX3_init.1.cls ∈ zT ∧ Cond.code kX3_init.1 kX3_init.2.1 kX3_init.2.2.1 kX3_init.2.2.2 ∈ zT := ⟨zT_of 15 (by decide +kernel) (by decide +kernel), zT_of 343 (by decide +kernel) (by decide +kernel)⟩
theorem zci_X1_77 : zCI RX1 77 kX3_init 2 := ⟨⟨zT_of 341 (by decide +kernel) (by decide +kernel), zq_X3_init.1, zq_X3_init.2, ⟨by decide +kernel, by decide +kernel, by decide +kernel⟩, by decide⟩, zT_of 342 (by decide +kernel) (by decide +kernel), rfl, rfl⟩
theorem zt_X1_5 : zFty 1 5 (.object "SilverBall$Layouts") true := by
  intro C T N h
  have h2 : (C, T, N) = (RX1, TX1, 15) := (Option.some.inj h).symm
  cases h2
  exact ⟨rfl, by decide +kernel, ⟨tyX1, tyX1_ok⟩, nmX1⟩
theorem zn_X1_84 : Cond.classLink RX1 84 RX4 ∈ zT ∧ Cond.instantiable RX4 7 ∈ zT ∧ Cond.initialized RX4 ∈ zT := ⟨zT_of 377 (by decide +kernel) (by decide +kernel), zT_of 378 (by decide +kernel) (by decide +kernel), zT_of 16 (by decide +kernel) (by decide +kernel)⟩
theorem zb_X4 : ∀ j, j < 7 → defaultValue (tyX4 j) = vp_V [.null, .null, .null, .null, .null, .null, .int 0] j := by decide +kernel
abbrev kX4_init : zM := (yX4_init, cX4_init, 2, none)
theorem zo_X4_3 : Cond.methodLink RX4 3 objectInit ∈ zT := zT_of 382 (by decide +kernel) (by decide +kernel)
theorem zt_X4_1 : zFty 4 1 (.array .boolean) true := by
  intro C T N h
  have h2 : (C, T, N) = (RX4, TX4, 7) := (Option.some.inj h).symm
  cases h2
  exact ⟨rfl, by decide +kernel, ⟨tyX4, tyX4_ok⟩, nmX4⟩
theorem zt_X4_2 : zFty 4 2 (.array .int) true := by
  intro C T N h
  have h2 : (C, T, N) = (RX4, TX4, 7) := (Option.some.inj h).symm
  cases h2
  exact ⟨rfl, by decide +kernel, ⟨tyX4, tyX4_ok⟩, nmX4⟩
theorem zt_X4_3 : zFty 4 3 (.array .int) true := by
  intro C T N h
  have h2 : (C, T, N) = (RX4, TX4, 7) := (Option.some.inj h).symm
  cases h2
  exact ⟨rfl, by decide +kernel, ⟨tyX4, tyX4_ok⟩, nmX4⟩
theorem zt_X4_4 : zFty 4 4 (.array .int) true := by
  intro C T N h
  have h2 : (C, T, N) = (RX4, TX4, 7) := (Option.some.inj h).symm
  cases h2
  exact ⟨rfl, by decide +kernel, ⟨tyX4, tyX4_ok⟩, nmX4⟩
theorem zt_X4_5 : zFty 4 5 (.array .int) true := by
  intro C T N h
  have h2 : (C, T, N) = (RX4, TX4, 7) := (Option.some.inj h).symm
  cases h2
  exact ⟨rfl, by decide +kernel, ⟨tyX4, tyX4_ok⟩, nmX4⟩
theorem zt_X4_0 : zFty 4 0 (.object "SilverBall$Table") true := by
  intro C T N h
  have h2 : (C, T, N) = (RX4, TX4, 7) := (Option.some.inj h).symm
  cases h2
  exact ⟨rfl, by decide +kernel, ⟨tyX4, tyX4_ok⟩, nmX4⟩
theorem zq_X4_init : Cond.initialized kX4_init.1.cls ∈ zT ∧ Cond.code kX4_init.1 kX4_init.2.1 kX4_init.2.2.1 kX4_init.2.2.2 ∈ zT := ⟨zT_of 16 (by decide +kernel) (by decide +kernel), zT_of 381 (by decide +kernel) (by decide +kernel)⟩
theorem zci_X1_86 : zCI RX1 86 kX4_init 1 := ⟨⟨zT_of 379 (by decide +kernel) (by decide +kernel), zq_X4_init.1, zq_X4_init.2, ⟨by decide +kernel, by decide +kernel, by decide +kernel⟩, by decide⟩, zT_of 380 (by decide +kernel) (by decide +kernel), rfl, rfl⟩
theorem zt_X1_6 : zFty 1 6 (.object "SilverBall$Modes") true := by
  intro C T N h
  have h2 : (C, T, N) = (RX1, TX1, 15) := (Option.some.inj h).symm
  cases h2
  exact ⟨rfl, by decide +kernel, ⟨tyX1, tyX1_ok⟩, nmX1⟩
theorem zq_X1_init : Cond.initialized kX1_init.1.cls ∈ zT ∧ Cond.code kX1_init.1 kX1_init.2.1 kX1_init.2.2.1 kX1_init.2.2.2 ∈ zT := ⟨zT_of 11 (by decide +kernel) (by decide +kernel), zT_of 269 (by decide +kernel) (by decide +kernel)⟩
theorem zci_X11_56 : zCI RX11 56 kX1_init 2 := ⟨⟨zT_of 267 (by decide +kernel) (by decide +kernel), zq_X1_init.1, zq_X1_init.2, ⟨by decide +kernel, by decide +kernel, by decide +kernel⟩, by decide⟩, zT_of 268 (by decide +kernel) (by decide +kernel), rfl, rfl⟩
theorem zt_X11_8 : zFty 11 8 (.object "SilverBall$Game") true := by
  intro C T N h
  have h2 : (C, T, N) = (RX11, TX11, 14) := (Option.some.inj h).symm
  cases h2
  exact ⟨rfl, by decide +kernel, ⟨tyX11, tyX11_ok⟩, nmX11⟩
theorem zt_X11_10 : zFty 11 10 (.array .int) true := by
  intro C T N h
  have h2 : (C, T, N) = (RX11, TX11, 14) := (Option.some.inj h).symm
  cases h2
  exact ⟨rfl, by decide +kernel, ⟨tyX11, tyX11_ok⟩, nmX11⟩
theorem zt_X11_11 : zFty 11 11 (.array .int) true := by
  intro C T N h
  have h2 : (C, T, N) = (RX11, TX11, 14) := (Option.some.inj h).symm
  cases h2
  exact ⟨rfl, by decide +kernel, ⟨tyX11, tyX11_ok⟩, nmX11⟩
theorem zt_X11_13 : zFty 11 13 (.object "SilverBall$Game") true := by
  intro C T N h
  have h2 : (C, T, N) = (RX11, TX11, 14) := (Option.some.inj h).symm
  cases h2
  exact ⟨rfl, by decide +kernel, ⟨tyX11, tyX11_ok⟩, nmX11⟩
abbrev kX12_init : zM := (yX12_init, cX12_init, 1, none)
theorem zo_X12_7 : Cond.methodLink RX12 7 objectInit ∈ zT := zT_of 1041 (by decide +kernel) (by decide +kernel)
theorem zt_X12_1 : zFty 12 1 (.array .byte) true := by
  intro C T N h
  have h2 : (C, T, N) = (RX12, TX12, 103) := (Option.some.inj h).symm
  cases h2
  exact ⟨rfl, by decide +kernel, ⟨tyX12, tyX12_ok⟩, nmX12⟩
theorem zt_X12_3 : zFty 12 3 (.array .byte) true := by
  intro C T N h
  have h2 : (C, T, N) = (RX12, TX12, 103) := (Option.some.inj h).symm
  cases h2
  exact ⟨rfl, by decide +kernel, ⟨tyX12, tyX12_ok⟩, nmX12⟩
theorem zt_X12_5 : zFty 12 5 (.array .int) true := by
  intro C T N h
  have h2 : (C, T, N) = (RX12, TX12, 103) := (Option.some.inj h).symm
  cases h2
  exact ⟨rfl, by decide +kernel, ⟨tyX12, tyX12_ok⟩, nmX12⟩
theorem zt_X12_6 : zFty 12 6 (.array .int) true := by
  intro C T N h
  have h2 : (C, T, N) = (RX12, TX12, 103) := (Option.some.inj h).symm
  cases h2
  exact ⟨rfl, by decide +kernel, ⟨tyX12, tyX12_ok⟩, nmX12⟩
theorem zt_X12_7 : zFty 12 7 (.array .int) true := by
  intro C T N h
  have h2 : (C, T, N) = (RX12, TX12, 103) := (Option.some.inj h).symm
  cases h2
  exact ⟨rfl, by decide +kernel, ⟨tyX12, tyX12_ok⟩, nmX12⟩
theorem zt_X12_8 : zFty 12 8 (.array .long) true := by
  intro C T N h
  have h2 : (C, T, N) = (RX12, TX12, 103) := (Option.some.inj h).symm
  cases h2
  exact ⟨rfl, by decide +kernel, ⟨tyX12, tyX12_ok⟩, nmX12⟩
theorem zt_X12_9 : zFty 12 9 (.array .long) true := by
  intro C T N h
  have h2 : (C, T, N) = (RX12, TX12, 103) := (Option.some.inj h).symm
  cases h2
  exact ⟨rfl, by decide +kernel, ⟨tyX12, tyX12_ok⟩, nmX12⟩
theorem zt_X12_21 : zFty 12 21 (.array .int) true := by
  intro C T N h
  have h2 : (C, T, N) = (RX12, TX12, 103) := (Option.some.inj h).symm
  cases h2
  exact ⟨rfl, by decide +kernel, ⟨tyX12, tyX12_ok⟩, nmX12⟩
theorem zt_X12_23 : zFty 12 23 (.array .long) true := by
  intro C T N h
  have h2 : (C, T, N) = (RX12, TX12, 103) := (Option.some.inj h).symm
  cases h2
  exact ⟨rfl, by decide +kernel, ⟨tyX12, tyX12_ok⟩, nmX12⟩
theorem zt_X12_24 : zFty 12 24 (.array .int) true := by
  intro C T N h
  have h2 : (C, T, N) = (RX12, TX12, 103) := (Option.some.inj h).symm
  cases h2
  exact ⟨rfl, by decide +kernel, ⟨tyX12, tyX12_ok⟩, nmX12⟩
theorem zt_X12_25 : zFty 12 25 (.array .int) true := by
  intro C T N h
  have h2 : (C, T, N) = (RX12, TX12, 103) := (Option.some.inj h).symm
  cases h2
  exact ⟨rfl, by decide +kernel, ⟨tyX12, tyX12_ok⟩, nmX12⟩
theorem zt_X12_26 : zFty 12 26 (.array .int) true := by
  intro C T N h
  have h2 : (C, T, N) = (RX12, TX12, 103) := (Option.some.inj h).symm
  cases h2
  exact ⟨rfl, by decide +kernel, ⟨tyX12, tyX12_ok⟩, nmX12⟩
theorem zt_X12_27 : zFty 12 27 (.array .int) true := by
  intro C T N h
  have h2 : (C, T, N) = (RX12, TX12, 103) := (Option.some.inj h).symm
  cases h2
  exact ⟨rfl, by decide +kernel, ⟨tyX12, tyX12_ok⟩, nmX12⟩
theorem zt_X12_28 : zFty 12 28 (.array .int) true := by
  intro C T N h
  have h2 : (C, T, N) = (RX12, TX12, 103) := (Option.some.inj h).symm
  cases h2
  exact ⟨rfl, by decide +kernel, ⟨tyX12, tyX12_ok⟩, nmX12⟩
theorem zt_X12_29 : zFty 12 29 (.array .int) true := by
  intro C T N h
  have h2 : (C, T, N) = (RX12, TX12, 103) := (Option.some.inj h).symm
  cases h2
  exact ⟨rfl, by decide +kernel, ⟨tyX12, tyX12_ok⟩, nmX12⟩
theorem zt_X12_30 : zFty 12 30 (.array .int) true := by
  intro C T N h
  have h2 : (C, T, N) = (RX12, TX12, 103) := (Option.some.inj h).symm
  cases h2
  exact ⟨rfl, by decide +kernel, ⟨tyX12, tyX12_ok⟩, nmX12⟩
theorem zt_X12_31 : zFty 12 31 (.array .int) true := by
  intro C T N h
  have h2 : (C, T, N) = (RX12, TX12, 103) := (Option.some.inj h).symm
  cases h2
  exact ⟨rfl, by decide +kernel, ⟨tyX12, tyX12_ok⟩, nmX12⟩
theorem zt_X12_32 : zFty 12 32 (.array .int) true := by
  intro C T N h
  have h2 : (C, T, N) = (RX12, TX12, 103) := (Option.some.inj h).symm
  cases h2
  exact ⟨rfl, by decide +kernel, ⟨tyX12, tyX12_ok⟩, nmX12⟩
theorem zt_X12_33 : zFty 12 33 (.array .int) true := by
  intro C T N h
  have h2 : (C, T, N) = (RX12, TX12, 103) := (Option.some.inj h).symm
  cases h2
  exact ⟨rfl, by decide +kernel, ⟨tyX12, tyX12_ok⟩, nmX12⟩
theorem zt_X12_34 : zFty 12 34 (.array .int) true := by
  intro C T N h
  have h2 : (C, T, N) = (RX12, TX12, 103) := (Option.some.inj h).symm
  cases h2
  exact ⟨rfl, by decide +kernel, ⟨tyX12, tyX12_ok⟩, nmX12⟩
theorem zt_X12_35 : zFty 12 35 (.array .int) true := by
  intro C T N h
  have h2 : (C, T, N) = (RX12, TX12, 103) := (Option.some.inj h).symm
  cases h2
  exact ⟨rfl, by decide +kernel, ⟨tyX12, tyX12_ok⟩, nmX12⟩
theorem zt_X12_36 : zFty 12 36 (.array .int) true := by
  intro C T N h
  have h2 : (C, T, N) = (RX12, TX12, 103) := (Option.some.inj h).symm
  cases h2
  exact ⟨rfl, by decide +kernel, ⟨tyX12, tyX12_ok⟩, nmX12⟩
theorem zt_X12_37 : zFty 12 37 (.array .int) true := by
  intro C T N h
  have h2 : (C, T, N) = (RX12, TX12, 103) := (Option.some.inj h).symm
  cases h2
  exact ⟨rfl, by decide +kernel, ⟨tyX12, tyX12_ok⟩, nmX12⟩
theorem zt_X12_38 : zFty 12 38 (.array .int) true := by
  intro C T N h
  have h2 : (C, T, N) = (RX12, TX12, 103) := (Option.some.inj h).symm
  cases h2
  exact ⟨rfl, by decide +kernel, ⟨tyX12, tyX12_ok⟩, nmX12⟩
theorem zt_X12_39 : zFty 12 39 (.array .int) true := by
  intro C T N h
  have h2 : (C, T, N) = (RX12, TX12, 103) := (Option.some.inj h).symm
  cases h2
  exact ⟨rfl, by decide +kernel, ⟨tyX12, tyX12_ok⟩, nmX12⟩
theorem zt_X12_40 : zFty 12 40 (.array .int) true := by
  intro C T N h
  have h2 : (C, T, N) = (RX12, TX12, 103) := (Option.some.inj h).symm
  cases h2
  exact ⟨rfl, by decide +kernel, ⟨tyX12, tyX12_ok⟩, nmX12⟩
theorem zt_X12_42 : zFty 12 42 (.array .int) true := by
  intro C T N h
  have h2 : (C, T, N) = (RX12, TX12, 103) := (Option.some.inj h).symm
  cases h2
  exact ⟨rfl, by decide +kernel, ⟨tyX12, tyX12_ok⟩, nmX12⟩
theorem zt_X12_43 : zFty 12 43 (.array .int) true := by
  intro C T N h
  have h2 : (C, T, N) = (RX12, TX12, 103) := (Option.some.inj h).symm
  cases h2
  exact ⟨rfl, by decide +kernel, ⟨tyX12, tyX12_ok⟩, nmX12⟩
theorem zt_X12_44 : zFty 12 44 (.array .int) true := by
  intro C T N h
  have h2 : (C, T, N) = (RX12, TX12, 103) := (Option.some.inj h).symm
  cases h2
  exact ⟨rfl, by decide +kernel, ⟨tyX12, tyX12_ok⟩, nmX12⟩
theorem zt_X12_45 : zFty 12 45 (.array .int) true := by
  intro C T N h
  have h2 : (C, T, N) = (RX12, TX12, 103) := (Option.some.inj h).symm
  cases h2
  exact ⟨rfl, by decide +kernel, ⟨tyX12, tyX12_ok⟩, nmX12⟩
theorem zt_X12_47 : zFty 12 47 (.array .int) true := by
  intro C T N h
  have h2 : (C, T, N) = (RX12, TX12, 103) := (Option.some.inj h).symm
  cases h2
  exact ⟨rfl, by decide +kernel, ⟨tyX12, tyX12_ok⟩, nmX12⟩
theorem zt_X12_48 : zFty 12 48 (.array .int) true := by
  intro C T N h
  have h2 : (C, T, N) = (RX12, TX12, 103) := (Option.some.inj h).symm
  cases h2
  exact ⟨rfl, by decide +kernel, ⟨tyX12, tyX12_ok⟩, nmX12⟩
theorem zt_X12_49 : zFty 12 49 (.array .int) true := by
  intro C T N h
  have h2 : (C, T, N) = (RX12, TX12, 103) := (Option.some.inj h).symm
  cases h2
  exact ⟨rfl, by decide +kernel, ⟨tyX12, tyX12_ok⟩, nmX12⟩
theorem zt_X12_50 : zFty 12 50 (.array .int) true := by
  intro C T N h
  have h2 : (C, T, N) = (RX12, TX12, 103) := (Option.some.inj h).symm
  cases h2
  exact ⟨rfl, by decide +kernel, ⟨tyX12, tyX12_ok⟩, nmX12⟩
theorem zt_X12_52 : zFty 12 52 (.array .int) true := by
  intro C T N h
  have h2 : (C, T, N) = (RX12, TX12, 103) := (Option.some.inj h).symm
  cases h2
  exact ⟨rfl, by decide +kernel, ⟨tyX12, tyX12_ok⟩, nmX12⟩
theorem zt_X12_53 : zFty 12 53 (.array .int) true := by
  intro C T N h
  have h2 : (C, T, N) = (RX12, TX12, 103) := (Option.some.inj h).symm
  cases h2
  exact ⟨rfl, by decide +kernel, ⟨tyX12, tyX12_ok⟩, nmX12⟩
theorem zt_X12_55 : zFty 12 55 (.array .int) true := by
  intro C T N h
  have h2 : (C, T, N) = (RX12, TX12, 103) := (Option.some.inj h).symm
  cases h2
  exact ⟨rfl, by decide +kernel, ⟨tyX12, tyX12_ok⟩, nmX12⟩
theorem zt_X12_56 : zFty 12 56 (.array .int) true := by
  intro C T N h
  have h2 : (C, T, N) = (RX12, TX12, 103) := (Option.some.inj h).symm
  cases h2
  exact ⟨rfl, by decide +kernel, ⟨tyX12, tyX12_ok⟩, nmX12⟩
theorem zt_X12_57 : zFty 12 57 (.array .int) true := by
  intro C T N h
  have h2 : (C, T, N) = (RX12, TX12, 103) := (Option.some.inj h).symm
  cases h2
  exact ⟨rfl, by decide +kernel, ⟨tyX12, tyX12_ok⟩, nmX12⟩
theorem zt_X12_60 : zFty 12 60 (.array .int) true := by
  intro C T N h
  have h2 : (C, T, N) = (RX12, TX12, 103) := (Option.some.inj h).symm
  cases h2
  exact ⟨rfl, by decide +kernel, ⟨tyX12, tyX12_ok⟩, nmX12⟩
theorem zt_X12_62 : zFty 12 62 (.array .int) true := by
  intro C T N h
  have h2 : (C, T, N) = (RX12, TX12, 103) := (Option.some.inj h).symm
  cases h2
  exact ⟨rfl, by decide +kernel, ⟨tyX12, tyX12_ok⟩, nmX12⟩
theorem zk_X12_142 : Cond.constant RX12 142 (65536) ∈ zT := zT_of 1042 (by decide +kernel) (by decide +kernel)
theorem zt_X12_63 : zFty 12 63 (.array .boolean) true := by
  intro C T N h
  have h2 : (C, T, N) = (RX12, TX12, 103) := (Option.some.inj h).symm
  cases h2
  exact ⟨rfl, by decide +kernel, ⟨tyX12, tyX12_ok⟩, nmX12⟩
theorem zt_X12_73 : zFty 12 73 (.array .int) true := by
  intro C T N h
  have h2 : (C, T, N) = (RX12, TX12, 103) := (Option.some.inj h).symm
  cases h2
  exact ⟨rfl, by decide +kernel, ⟨tyX12, tyX12_ok⟩, nmX12⟩
theorem zt_X12_74 : zFty 12 74 (.array .int) true := by
  intro C T N h
  have h2 : (C, T, N) = (RX12, TX12, 103) := (Option.some.inj h).symm
  cases h2
  exact ⟨rfl, by decide +kernel, ⟨tyX12, tyX12_ok⟩, nmX12⟩
theorem zt_X12_75 : zFty 12 75 (.array .int) true := by
  intro C T N h
  have h2 : (C, T, N) = (RX12, TX12, 103) := (Option.some.inj h).symm
  cases h2
  exact ⟨rfl, by decide +kernel, ⟨tyX12, tyX12_ok⟩, nmX12⟩
theorem zt_X12_76 : zFty 12 76 (.array .int) true := by
  intro C T N h
  have h2 : (C, T, N) = (RX12, TX12, 103) := (Option.some.inj h).symm
  cases h2
  exact ⟨rfl, by decide +kernel, ⟨tyX12, tyX12_ok⟩, nmX12⟩
theorem zt_X12_77 : zFty 12 77 (.array .boolean) true := by
  intro C T N h
  have h2 : (C, T, N) = (RX12, TX12, 103) := (Option.some.inj h).symm
  cases h2
  exact ⟨rfl, by decide +kernel, ⟨tyX12, tyX12_ok⟩, nmX12⟩
theorem zt_X12_78 : zFty 12 78 (.array .int) true := by
  intro C T N h
  have h2 : (C, T, N) = (RX12, TX12, 103) := (Option.some.inj h).symm
  cases h2
  exact ⟨rfl, by decide +kernel, ⟨tyX12, tyX12_ok⟩, nmX12⟩
theorem zt_X12_79 : zFty 12 79 (.array .boolean) true := by
  intro C T N h
  have h2 : (C, T, N) = (RX12, TX12, 103) := (Option.some.inj h).symm
  cases h2
  exact ⟨rfl, by decide +kernel, ⟨tyX12, tyX12_ok⟩, nmX12⟩
theorem zt_X12_80 : zFty 12 80 (.array .int) true := by
  intro C T N h
  have h2 : (C, T, N) = (RX12, TX12, 103) := (Option.some.inj h).symm
  cases h2
  exact ⟨rfl, by decide +kernel, ⟨tyX12, tyX12_ok⟩, nmX12⟩
theorem zt_X12_81 : zFty 12 81 (.array .int) true := by
  intro C T N h
  have h2 : (C, T, N) = (RX12, TX12, 103) := (Option.some.inj h).symm
  cases h2
  exact ⟨rfl, by decide +kernel, ⟨tyX12, tyX12_ok⟩, nmX12⟩
theorem zt_X12_82 : zFty 12 82 (.array .int) true := by
  intro C T N h
  have h2 : (C, T, N) = (RX12, TX12, 103) := (Option.some.inj h).symm
  cases h2
  exact ⟨rfl, by decide +kernel, ⟨tyX12, tyX12_ok⟩, nmX12⟩
theorem zt_X12_83 : zFty 12 83 (.array .int) true := by
  intro C T N h
  have h2 : (C, T, N) = (RX12, TX12, 103) := (Option.some.inj h).symm
  cases h2
  exact ⟨rfl, by decide +kernel, ⟨tyX12, tyX12_ok⟩, nmX12⟩
theorem zt_X12_84 : zFty 12 84 (.array .int) true := by
  intro C T N h
  have h2 : (C, T, N) = (RX12, TX12, 103) := (Option.some.inj h).symm
  cases h2
  exact ⟨rfl, by decide +kernel, ⟨tyX12, tyX12_ok⟩, nmX12⟩
theorem zt_X12_86 : zFty 12 86 (.array .int) true := by
  intro C T N h
  have h2 : (C, T, N) = (RX12, TX12, 103) := (Option.some.inj h).symm
  cases h2
  exact ⟨rfl, by decide +kernel, ⟨tyX12, tyX12_ok⟩, nmX12⟩
theorem zt_X12_87 : zFty 12 87 (.array .int) true := by
  intro C T N h
  have h2 : (C, T, N) = (RX12, TX12, 103) := (Option.some.inj h).symm
  cases h2
  exact ⟨rfl, by decide +kernel, ⟨tyX12, tyX12_ok⟩, nmX12⟩
theorem zt_X12_91 : zFty 12 91 (.array .int) true := by
  intro C T N h
  have h2 : (C, T, N) = (RX12, TX12, 103) := (Option.some.inj h).symm
  cases h2
  exact ⟨rfl, by decide +kernel, ⟨tyX12, tyX12_ok⟩, nmX12⟩
theorem zt_X12_92 : zFty 12 92 (.array .int) true := by
  intro C T N h
  have h2 : (C, T, N) = (RX12, TX12, 103) := (Option.some.inj h).symm
  cases h2
  exact ⟨rfl, by decide +kernel, ⟨tyX12, tyX12_ok⟩, nmX12⟩
theorem zt_X12_93 : zFty 12 93 (.array .int) true := by
  intro C T N h
  have h2 : (C, T, N) = (RX12, TX12, 103) := (Option.some.inj h).symm
  cases h2
  exact ⟨rfl, by decide +kernel, ⟨tyX12, tyX12_ok⟩, nmX12⟩
theorem zt_X12_94 : zFty 12 94 (.array .int) true := by
  intro C T N h
  have h2 : (C, T, N) = (RX12, TX12, 103) := (Option.some.inj h).symm
  cases h2
  exact ⟨rfl, by decide +kernel, ⟨tyX12, tyX12_ok⟩, nmX12⟩
theorem zt_X12_95 : zFty 12 95 (.array .int) true := by
  intro C T N h
  have h2 : (C, T, N) = (RX12, TX12, 103) := (Option.some.inj h).symm
  cases h2
  exact ⟨rfl, by decide +kernel, ⟨tyX12, tyX12_ok⟩, nmX12⟩
theorem zt_X12_96 : zFty 12 96 (.array .int) true := by
  intro C T N h
  have h2 : (C, T, N) = (RX12, TX12, 103) := (Option.some.inj h).symm
  cases h2
  exact ⟨rfl, by decide +kernel, ⟨tyX12, tyX12_ok⟩, nmX12⟩
theorem zt_X12_98 : zFty 12 98 (.array .int) true := by
  intro C T N h
  have h2 : (C, T, N) = (RX12, TX12, 103) := (Option.some.inj h).symm
  cases h2
  exact ⟨rfl, by decide +kernel, ⟨tyX12, tyX12_ok⟩, nmX12⟩
theorem zt_X12_100 : zFty 12 100 (.array .boolean) true := by
  intro C T N h
  have h2 : (C, T, N) = (RX12, TX12, 103) := (Option.some.inj h).symm
  cases h2
  exact ⟨rfl, by decide +kernel, ⟨tyX12, tyX12_ok⟩, nmX12⟩
theorem zt_X12_101 : zFty 12 101 (.array .int) true := by
  intro C T N h
  have h2 : (C, T, N) = (RX12, TX12, 103) := (Option.some.inj h).symm
  cases h2
  exact ⟨rfl, by decide +kernel, ⟨tyX12, tyX12_ok⟩, nmX12⟩
theorem zt_X12_102 : zFty 12 102 (.array .boolean) true := by
  intro C T N h
  have h2 : (C, T, N) = (RX12, TX12, 103) := (Option.some.inj h).symm
  cases h2
  exact ⟨rfl, by decide +kernel, ⟨tyX12, tyX12_ok⟩, nmX12⟩
theorem zc_X12_219 : zCS RX12 219 kX12_word 6 := ⟨⟨zT_of 1043 (by decide +kernel) (by decide +kernel), zq_X12_word.1, zq_X12_word.2, ⟨by decide +kernel, by decide +kernel, by decide +kernel⟩, by decide⟩, zT_of 1044 (by decide +kernel) (by decide +kernel)⟩
