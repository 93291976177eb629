/-! words for the constructors -/
theorem kw_oi : Cond.instanceMethod Lib.objectInit ∈ gt ∧ Cond.code Lib.objectInit ⟨#[0xb1]⟩ 1 none ∈ gt := ⟨(gt_1 17 (by decide +kernel) (by decide +kernel)), (gt_1 18 rfl rfl)⟩
theorem oi_X5 : Cond.methodLink RX5 1 Lib.objectInit ∈ gt := (gt_1 16 (by decide +kernel) (by decide +kernel))
theorem oi_X1 : Cond.methodLink RX1 1 Lib.objectInit ∈ gt := (gt_1 24 (by decide +kernel) (by decide +kernel))
theorem oi_X0 : Cond.methodLink RX0 3 Lib.objectInit ∈ gt := (gt_1 65 (by decide +kernel) (by decide +kernel))
theorem oi_X4 : Cond.methodLink RX4 3 Lib.objectInit ∈ gt := (gt_1 85 (by decide +kernel) (by decide +kernel))
theorem oi_X3 : Cond.methodLink RX3 3 Lib.objectInit ∈ gt := (gt_1 106 (by decide +kernel) (by decide +kernel))
theorem oi_X2 : Cond.methodLink RX2 1 Lib.objectInit ∈ gt := (gt_1 122 (by decide +kernel) (by decide +kernel))
theorem oi_X6 : Cond.methodLink RX6 1 Lib.objectInit ∈ gt := (gt_3 57 (by decide +kernel) (by decide +kernel))
theorem kac_I : Cond.arrayClass .int ∈ gt := (gt_1 59 (by decide +kernel) (by decide +kernel))
theorem kac_J : Cond.arrayClass .long ∈ gt := (gt_1 79 (by decide +kernel) (by decide +kernel))
theorem kac_Z : Cond.arrayClass .boolean ∈ gt := (gt_3 131 (by decide +kernel) (by decide +kernel))
theorem kcl_L_7 : Cond.classLink RL 7 RX5 ∈ gt := (gt_1 11 (by decide +kernel) (by decide +kernel))
theorem kcl_X5_7 : Cond.classLink RX5 7 RX1 ∈ gt := (gt_1 19 (by decide +kernel) (by decide +kernel))
theorem kcl_X5_16 : Cond.classLink RX5 16 RX0 ∈ gt := (gt_1 60 (by decide +kernel) (by decide +kernel))
theorem kcl_X5_25 : Cond.classLink RX5 25 RX4 ∈ gt := (gt_1 80 (by decide +kernel) (by decide +kernel))
theorem kcl_X5_32 : Cond.classLink RX5 32 RX3 ∈ gt := (gt_1 101 (by decide +kernel) (by decide +kernel))
theorem kcl_X5_39 : Cond.classLink RX5 39 RX2 ∈ gt := (gt_1 116 (by decide +kernel) (by decide +kernel))
theorem kcl_L_10 : Cond.classLink RL 10 RX6 ∈ gt := (gt_3 52 (by decide +kernel) (by decide +kernel))
theorem kit_X5 : Cond.instantiable RX5 6 ∈ gt := (gt_1 12 (by decide +kernel) (by decide +kernel))
theorem kit_X1 : Cond.instantiable RX1 7 ∈ gt := (gt_1 20 (by decide +kernel) (by decide +kernel))
theorem kit_X0 : Cond.instantiable RX0 4 ∈ gt := (gt_1 61 (by decide +kernel) (by decide +kernel))
theorem kit_X4 : Cond.instantiable RX4 4 ∈ gt := (gt_1 81 (by decide +kernel) (by decide +kernel))
theorem kit_X3 : Cond.instantiable RX3 2 ∈ gt := (gt_1 102 (by decide +kernel) (by decide +kernel))
theorem kit_X2 : Cond.instantiable RX2 3 ∈ gt := (gt_1 118 (by decide +kernel) (by decide +kernel))
theorem kit_X6 : Cond.instantiable RX6 24 ∈ gt := (gt_3 53 (by decide +kernel) (by decide +kernel))
theorem fw_X1_7 : FW RX1 7 1 0 false (tyX1 0) := ⟨RX1, TX1, 7, tyX1, rfl, by decide, (gt_1 25 (by decide +kernel) (by decide +kernel)), inX1, tyX1_ok, nmX1, rfl, tyX1_ok 0 (by decide), rfl⟩
theorem fw_X1_13 : FW RX1 13 1 1 false (tyX1 1) := ⟨RX1, TX1, 7, tyX1, rfl, by decide, (gt_1 29 (by decide +kernel) (by decide +kernel)), inX1, tyX1_ok, nmX1, rfl, tyX1_ok 1 (by decide), rfl⟩
theorem fw_X1_16 : FW RX1 16 1 2 true (tyX1 2) := ⟨RX1, TX1, 7, tyX1, rfl, by decide, (gt_1 31 (by decide +kernel) (by decide +kernel)), inX1, tyX1_ok, nmX1, rfl, tyX1_ok 2 (by decide), rfl⟩
theorem fw_X1_20 : FW RX1 20 1 3 true (tyX1 3) := ⟨RX1, TX1, 7, tyX1, rfl, by decide, (gt_1 32 (by decide +kernel) (by decide +kernel)), inX1, tyX1_ok, nmX1, rfl, tyX1_ok 3 (by decide), rfl⟩
theorem fw_X1_23 : FW RX1 23 1 4 true (tyX1 4) := ⟨RX1, TX1, 7, tyX1, rfl, by decide, (gt_1 35 (by decide +kernel) (by decide +kernel)), inX1, tyX1_ok, nmX1, rfl, tyX1_ok 4 (by decide), rfl⟩
theorem fw_X1_26 : FW RX1 26 1 5 true (tyX1 5) := ⟨RX1, TX1, 7, tyX1, rfl, by decide, (gt_1 38 (by decide +kernel) (by decide +kernel)), inX1, tyX1_ok, nmX1, rfl, tyX1_ok 5 (by decide), rfl⟩
theorem fw_X1_29 : FW RX1 29 1 6 true (tyX1 6) := ⟨RX1, TX1, 7, tyX1, rfl, by decide, (gt_1 41 (by decide +kernel) (by decide +kernel)), inX1, tyX1_ok, nmX1, rfl, tyX1_ok 6 (by decide), rfl⟩
theorem fw_X0_9 : FW RX0 9 0 0 true (tyX0 0) := ⟨RX0, TX0, 4, tyX0, rfl, by decide, (gt_1 66 (by decide +kernel) (by decide +kernel)), inX0, tyX0_ok, nmX0, rfl, tyX0_ok 0 (by decide), rfl⟩
theorem fw_X0_17 : FW RX0 17 0 1 true (tyX0 1) := ⟨RX0, TX0, 4, tyX0, rfl, by decide, (gt_1 67 (by decide +kernel) (by decide +kernel)), inX0, tyX0_ok, nmX0, rfl, tyX0_ok 1 (by decide), rfl⟩
theorem fw_X0_21 : FW RX0 21 0 2 true (tyX0 2) := ⟨RX0, TX0, 4, tyX0, rfl, by decide, (gt_1 68 (by decide +kernel) (by decide +kernel)), inX0, tyX0_ok, nmX0, rfl, tyX0_ok 2 (by decide), rfl⟩
theorem fw_X0_24 : FW RX0 24 0 3 true (tyX0 3) := ⟨RX0, TX0, 4, tyX0, rfl, by decide, (gt_1 69 (by decide +kernel) (by decide +kernel)), inX0, tyX0_ok, nmX0, rfl, tyX0_ok 3 (by decide), rfl⟩
theorem fw_X4_15 : FW RX4 15 4 0 false (tyX4 0) := ⟨RX4, TX4, 4, tyX4, rfl, by decide, (gt_1 86 (by decide +kernel) (by decide +kernel)), inX4, tyX4_ok, nmX4, rfl, tyX4_ok 0 (by decide), rfl⟩
theorem fw_X4_21 : FW RX4 21 4 1 true (tyX4 1) := ⟨RX4, TX4, 4, tyX4, rfl, by decide, (gt_1 88 (by decide +kernel) (by decide +kernel)), inX4, tyX4_ok, nmX4, rfl, tyX4_ok 1 (by decide), rfl⟩
theorem fw_X4_9 : FW RX4 9 4 2 true (tyX4 2) := ⟨RX4, TX4, 4, tyX4, rfl, by decide, (gt_1 90 (by decide +kernel) (by decide +kernel)), inX4, tyX4_ok, nmX4, rfl, tyX4_ok 2 (by decide), rfl⟩
theorem fw_X4_25 : FW RX4 25 4 3 true (tyX4 3) := ⟨RX4, TX4, 4, tyX4, rfl, by decide, (gt_1 91 (by decide +kernel) (by decide +kernel)), inX4, tyX4_ok, nmX4, rfl, tyX4_ok 3 (by decide), rfl⟩
theorem fw_X3_9 : FW RX3 9 3 0 false (tyX3 0) := ⟨RX3, TX3, 2, tyX3, rfl, by decide, (gt_1 107 (by decide +kernel) (by decide +kernel)), inX3, tyX3_ok, nmX3, rfl, tyX3_ok 0 (by decide), rfl⟩
theorem fw_X3_15 : FW RX3 15 3 1 true (tyX3 1) := ⟨RX3, TX3, 2, tyX3, rfl, by decide, (gt_1 109 (by decide +kernel) (by decide +kernel)), inX3, tyX3_ok, nmX3, rfl, tyX3_ok 1 (by decide), rfl⟩
theorem fw_X2_7 : FW RX2 7 2 0 false (tyX2 0) := ⟨RX2, TX2, 3, tyX2, rfl, by decide, (gt_1 123 (by decide +kernel) (by decide +kernel)), inX2, tyX2_ok, nmX2, rfl, tyX2_ok 0 (by decide), rfl⟩
theorem fw_X2_13 : FW RX2 13 2 1 false (tyX2 1) := ⟨RX2, TX2, 3, tyX2, rfl, by decide, (gt_1 125 (by decide +kernel) (by decide +kernel)), inX2, tyX2_ok, nmX2, rfl, tyX2_ok 1 (by decide), rfl⟩
theorem fw_X2_16 : FW RX2 16 2 2 true (tyX2 2) := ⟨RX2, TX2, 3, tyX2, rfl, by decide, (gt_1 127 (by decide +kernel) (by decide +kernel)), inX2, tyX2_ok, nmX2, rfl, tyX2_ok 2 (by decide), rfl⟩
theorem fw_X5_10 : FW RX5 10 5 0 true (tyX5 0) := ⟨RX5, TX5, 6, tyX5, rfl, by decide, (gt_1 136 (by decide +kernel) (by decide +kernel)), inX5, tyX5_ok, nmX5, rfl, tyX5_ok 0 (by decide), rfl⟩
theorem fw_X5_21 : FW RX5 21 5 1 true (tyX5 1) := ⟨RX5, TX5, 6, tyX5, rfl, by decide, (gt_1 137 (by decide +kernel) (by decide +kernel)), inX5, tyX5_ok, nmX5, rfl, tyX5_ok 1 (by decide), rfl⟩
theorem fw_X5_28 : FW RX5 28 5 2 true (tyX5 2) := ⟨RX5, TX5, 6, tyX5, rfl, by decide, (gt_1 138 (by decide +kernel) (by decide +kernel)), inX5, tyX5_ok, nmX5, rfl, tyX5_ok 2 (by decide), rfl⟩
theorem fw_X5_35 : FW RX5 35 5 3 true (tyX5 3) := ⟨RX5, TX5, 6, tyX5, rfl, by decide, (gt_1 139 (by decide +kernel) (by decide +kernel)), inX5, tyX5_ok, nmX5, rfl, tyX5_ok 3 (by decide), rfl⟩
theorem fw_X5_41 : FW RX5 41 5 4 true (tyX5 4) := ⟨RX5, TX5, 6, tyX5, rfl, by decide, (gt_1 140 (by decide +kernel) (by decide +kernel)), inX5, tyX5_ok, nmX5, rfl, tyX5_ok 4 (by decide), rfl⟩
theorem fw_X5_46 : FW RX5 46 5 5 false (tyX5 5) := ⟨RX5, TX5, 6, tyX5, rfl, by decide, (gt_1 141 (by decide +kernel) (by decide +kernel)), inX5, tyX5_ok, nmX5, rfl, tyX5_ok 5 (by decide), rfl⟩
theorem fw_X6_7 : FW RX6 7 6 0 false (tyX6 0) := ⟨RX6, TX6, 24, tyX6, rfl, by decide, (gt_3 58 (by decide +kernel) (by decide +kernel)), inX6, tyX6_ok, nmX6, rfl, tyX6_ok 0 (by decide), rfl⟩
theorem fw_X6_98 : FW RX6 98 6 1 false (tyX6 1) := ⟨RX6, TX6, 24, tyX6, rfl, by decide, (gt_3 59 (by decide +kernel) (by decide +kernel)), inX6, tyX6_ok, nmX6, rfl, tyX6_ok 1 (by decide), rfl⟩
theorem fw_X6_13 : FW RX6 13 6 2 true (tyX6 2) := ⟨RX6, TX6, 24, tyX6, rfl, by decide, (gt_3 60 (by decide +kernel) (by decide +kernel)), inX6, tyX6_ok, nmX6, rfl, tyX6_ok 2 (by decide), rfl⟩
theorem fw_X6_17 : FW RX6 17 6 3 true (tyX6 3) := ⟨RX6, TX6, 24, tyX6, rfl, by decide, (gt_3 61 (by decide +kernel) (by decide +kernel)), inX6, tyX6_ok, nmX6, rfl, tyX6_ok 3 (by decide), rfl⟩
theorem fw_X6_20 : FW RX6 20 6 4 true (tyX6 4) := ⟨RX6, TX6, 24, tyX6, rfl, by decide, (gt_3 62 (by decide +kernel) (by decide +kernel)), inX6, tyX6_ok, nmX6, rfl, tyX6_ok 4 (by decide), rfl⟩
theorem fw_X6_23 : FW RX6 23 6 5 true (tyX6 5) := ⟨RX6, TX6, 24, tyX6, rfl, by decide, (gt_3 63 (by decide +kernel) (by decide +kernel)), inX6, tyX6_ok, nmX6, rfl, tyX6_ok 5 (by decide), rfl⟩
theorem fw_X6_26 : FW RX6 26 6 6 true (tyX6 6) := ⟨RX6, TX6, 24, tyX6, rfl, by decide, (gt_3 64 (by decide +kernel) (by decide +kernel)), inX6, tyX6_ok, nmX6, rfl, tyX6_ok 6 (by decide), rfl⟩
theorem fw_X6_30 : FW RX6 30 6 7 true (tyX6 7) := ⟨RX6, TX6, 24, tyX6, rfl, by decide, (gt_3 65 (by decide +kernel) (by decide +kernel)), inX6, tyX6_ok, nmX6, rfl, tyX6_ok 7 (by decide), rfl⟩
theorem fw_X6_33 : FW RX6 33 6 8 true (tyX6 8) := ⟨RX6, TX6, 24, tyX6, rfl, by decide, (gt_3 66 (by decide +kernel) (by decide +kernel)), inX6, tyX6_ok, nmX6, rfl, tyX6_ok 8 (by decide), rfl⟩
theorem fw_X6_101 : FW RX6 101 6 9 false (tyX6 9) := ⟨RX6, TX6, 24, tyX6, rfl, by decide, (gt_3 67 (by decide +kernel) (by decide +kernel)), inX6, tyX6_ok, nmX6, rfl, tyX6_ok 9 (by decide), rfl⟩
theorem fw_X6_36 : FW RX6 36 6 10 true (tyX6 10) := ⟨RX6, TX6, 24, tyX6, rfl, by decide, (gt_3 68 (by decide +kernel) (by decide +kernel)), inX6, tyX6_ok, nmX6, rfl, tyX6_ok 10 (by decide), rfl⟩
theorem fw_X6_40 : FW RX6 40 6 11 true (tyX6 11) := ⟨RX6, TX6, 24, tyX6, rfl, by decide, (gt_3 69 (by decide +kernel) (by decide +kernel)), inX6, tyX6_ok, nmX6, rfl, tyX6_ok 11 (by decide), rfl⟩
theorem fw_X6_43 : FW RX6 43 6 12 true (tyX6 12) := ⟨RX6, TX6, 24, tyX6, rfl, by decide, (gt_3 70 (by decide +kernel) (by decide +kernel)), inX6, tyX6_ok, nmX6, rfl, tyX6_ok 12 (by decide), rfl⟩
theorem fw_X6_46 : FW RX6 46 6 13 false (tyX6 13) := ⟨RX6, TX6, 24, tyX6, rfl, by decide, (gt_3 71 (by decide +kernel) (by decide +kernel)), inX6, tyX6_ok, nmX6, rfl, tyX6_ok 13 (by decide), rfl⟩
theorem fw_X6_126 : FW RX6 126 6 14 false (tyX6 14) := ⟨RX6, TX6, 24, tyX6, rfl, by decide, (gt_3 72 (by decide +kernel) (by decide +kernel)), inX6, tyX6_ok, nmX6, rfl, tyX6_ok 14 (by decide), rfl⟩
theorem fw_X6_49 : FW RX6 49 6 15 true (tyX6 15) := ⟨RX6, TX6, 24, tyX6, rfl, by decide, (gt_3 73 (by decide +kernel) (by decide +kernel)), inX6, tyX6_ok, nmX6, rfl, tyX6_ok 15 (by decide), rfl⟩
theorem fw_X6_52 : FW RX6 52 6 16 true (tyX6 16) := ⟨RX6, TX6, 24, tyX6, rfl, by decide, (gt_3 74 (by decide +kernel) (by decide +kernel)), inX6, tyX6_ok, nmX6, rfl, tyX6_ok 16 (by decide), rfl⟩
theorem fw_X6_55 : FW RX6 55 6 17 true (tyX6 17) := ⟨RX6, TX6, 24, tyX6, rfl, by decide, (gt_3 75 (by decide +kernel) (by decide +kernel)), inX6, tyX6_ok, nmX6, rfl, tyX6_ok 17 (by decide), rfl⟩
theorem fw_X6_58 : FW RX6 58 6 18 true (tyX6 18) := ⟨RX6, TX6, 24, tyX6, rfl, by decide, (gt_3 76 (by decide +kernel) (by decide +kernel)), inX6, tyX6_ok, nmX6, rfl, tyX6_ok 18 (by decide), rfl⟩
theorem fw_X6_61 : FW RX6 61 6 19 true (tyX6 19) := ⟨RX6, TX6, 24, tyX6, rfl, by decide, (gt_3 77 (by decide +kernel) (by decide +kernel)), inX6, tyX6_ok, nmX6, rfl, tyX6_ok 19 (by decide), rfl⟩
theorem fw_X6_64 : FW RX6 64 6 20 true (tyX6 20) := ⟨RX6, TX6, 24, tyX6, rfl, by decide, (gt_3 78 (by decide +kernel) (by decide +kernel)), inX6, tyX6_ok, nmX6, rfl, tyX6_ok 20 (by decide), rfl⟩
theorem fw_X6_67 : FW RX6 67 6 21 true (tyX6 21) := ⟨RX6, TX6, 24, tyX6, rfl, by decide, (gt_3 79 (by decide +kernel) (by decide +kernel)), inX6, tyX6_ok, nmX6, rfl, tyX6_ok 21 (by decide), rfl⟩
theorem fw_X6_70 : FW RX6 70 6 22 true (tyX6 22) := ⟨RX6, TX6, 24, tyX6, rfl, by decide, (gt_3 80 (by decide +kernel) (by decide +kernel)), inX6, tyX6_ok, nmX6, rfl, tyX6_ok 22 (by decide), rfl⟩
theorem fw_X6_196 : FW RX6 196 6 23 false (tyX6 23) := ⟨RX6, TX6, 24, tyX6, rfl, by decide, (gt_3 81 (by decide +kernel) (by decide +kernel)), inX6, tyX6_ok, nmX6, rfl, tyX6_ok 23 (by decide), rfl⟩
/-- what a call of a constructor needs of the tables -/
def OkI (M' : MD) (np : Nat) : Prop := Cond.code M'.1 M'.2.1 M'.2.2.1 M'.2.2.2 ∈ gt ∧ Cond.instanceMethod M'.1 ∈ gt ∧ Cond.initialized M'.1.cls ∈ gt ∧ (M'.1.cls ≠ "java/lang/invoke/MethodHandle" ∧ M'.1.cls ≠ "java/lang/invoke/VarHandle" ∧ (parseMethodDescriptor M'.1.desc).map (fun d => d.parameters.length) = some np) ∧ M'.2.2.1 ≤ 11 ∧ M'.1.name = "<init>" ∧ M'.2.2.2 = none
theorem ok_X0_init : OkI mX0_init 1 := ⟨(gt_1 64 rfl rfl), (gt_1 63 (by decide +kernel) (by decide +kernel)), kin_X0, ⟨by decide +kernel, by decide +kernel, by decide +kernel⟩, by decide, rfl, rfl⟩
theorem ok_X1_init : OkI mX1_init 0 := ⟨(gt_1 23 rfl rfl), (gt_1 22 (by decide +kernel) (by decide +kernel)), kin_X1, ⟨by decide +kernel, by decide +kernel, by decide +kernel⟩, by decide, rfl, rfl⟩
theorem ok_X2_init : OkI mX2_init 0 := ⟨(gt_1 121 rfl rfl), (gt_1 120 (by decide +kernel) (by decide +kernel)), kin_X2, ⟨by decide +kernel, by decide +kernel, by decide +kernel⟩, by decide, rfl, rfl⟩
theorem ok_X3_init : OkI mX3_init 0 := ⟨(gt_1 105 rfl rfl), (gt_1 104 (by decide +kernel) (by decide +kernel)), kin_X3, ⟨by decide +kernel, by decide +kernel, by decide +kernel⟩, by decide, rfl, rfl⟩
theorem ok_X4_init : OkI mX4_init 1 := ⟨(gt_1 84 rfl rfl), (gt_1 83 (by decide +kernel) (by decide +kernel)), kin_X4, ⟨by decide +kernel, by decide +kernel, by decide +kernel⟩, by decide, rfl, rfl⟩
theorem ok_X5_init : OkI mX5_init 0 := ⟨(gt_1 15 rfl rfl), (gt_1 14 (by decide +kernel) (by decide +kernel)), kin_X5, ⟨by decide +kernel, by decide +kernel, by decide +kernel⟩, by decide, rfl, rfl⟩
theorem ok_X6_init : OkI mX6_init 0 := ⟨(gt_3 56 rfl rfl), (gt_3 55 (by decide +kernel) (by decide +kernel)), kin_X6, ⟨by decide +kernel, by decide +kernel, by decide +kernel⟩, by decide, rfl, rfl⟩
section GDCALL
variable {Γ : GT} {M : MD} {N : NT} {kc ks pc : Nat} {ls : List (Nat × Value)} {st : List Value} {ws : va_W}
theorem gd_objI {idx a : Nat} (hl : Cond.methodLink M.1.cls idx Lib.objectInit ∈ gt) (hR : 1 ≤ N.1.frames ∧ 30 ≤ N.1.locals) (hst : (st.map fun v => v.category).sum ≤ 8) (hd : decode M.2.1 pc = .ok (.invokespecial idx, 3)) (kk : GD Γ M N kc ks (pc + 3) ls st ws) : GD Γ M N kc ks pc ls (.ref a :: st) ws := by
  intro p e s m args below meth c A H locs la C hP hD hS hl9
  have hts := C.1.2.2.2.2.2.1
  refine W.objInit C.1.1 C.1.2.1 C.1.2.2.2.2.1 (hts _ hl) (hts _ kw_oi.1) (hts _ kw_oi.2) rfl (by rw [C.1.2.2.2.1]; exact hl9.1) rfl hd hR.1 (by show 2 * 0 + _ + 12 ≤ _; have := hR.2; omega) ?_
  exact kk p e s m args below meth c A H locs la C hP hD hS hl9
theorem gd_call {M' : MD} {np n' mc ms idx a : Nat} {stk As : List Value} {wc wr : va_W} {Q : va_W → Prop} (hE : ∀ s A, N.2.2.2.2 s A → va_AO RX2 s) (isC isR : List Nat) (hd : decode M.2.1 pc = .ok (.invokespecial idx, 3)) (hl : Cond.methodLink M.1.cls idx M'.1 ∈ gt) (ok : OkI M' np) (hlen : As.length = np) (hR : (n' + 1 ≤ N.1.frames ∧ 30 * (n' + 1) ≤ N.1.locals) ∧ kc + mc ≤ N.1.cells ∧ ks + ms ≤ N.1.slots) (hrest : (st.map fun v => v.category).sum ≤ 8) (hst : stk = As.reverse ++ .ref a :: st) (hc : CtD Γ M' n' mc ms (.ref a :: As) wc Q)
    (hC : isC.map (fun i => ws[i]?) = wc.map some) (hRr : isR.map (fun i => ws[i]?) = wr.map some) (hnC : va_nd isC = true) (hnR : va_nd isR = true) (hdis : ∀ i ∈ isR, i ∉ isC) (kk : ∀ w1, Q w1 → GD Γ M N (kc + mc) (ks + ms) (pc + 3) ls st (wr ++ w1)) : GD Γ M N kc ks pc ls stk ws := by
  subst hst
  intro p e s m args below meth c A H locs la C hP hD hS hl9
  obtain ⟨⟨r1, r2⟩, r3, r4⟩ := hR
  obtain ⟨o1, o2, o4, o5, o6, o7, o8⟩ := ok
  have hts := C.1.2.2.2.2.2.1
  have hK := C.1.2.2.2.2.2.2.2.1
  have hPc := hP.sub isC (fm_map hC)
  have hDc := hD.sub isC hnC hC
  have hFc := va_free hD hS C.1.2.2.2.2.2.2.2.2.1 isC hC
  have cb : CallB N.1 s args M.1.cls idx M'.1 M'.2.1 M'.2.2.1 none (wsM M') (rmC n' mc ms) mc ms np := callB_of (Ts := gt) np hts (wsM_good o1) (by rw [← o8]; rfl) rfl rfl (hts _ o4) (hts _ hl) o5 ⟨by show n' + 1 ≤ _; omega, by show 8 + (M'.2.2.1 + 11) + 30 * n' ≤ _; omega⟩
  refine va_callv (va_runI (As := As) (rest := st) ⟨C.1.1, C.1.2.1, C.1.2.2.2.1, C.1.2.2.2.2.1, hts⟩ (hc H.size) ⟨cb, o7, hts _ o2⟩ ⟨fun a U g mk q => ?_, fun U hU hW => ⟨rfl, by rw [hU], by rw [hU]; exact hPc, va_K.moved hW.alike hK, hDc.weaken (fun _ _ _ _ => trivial), va_AO.moved hW.alike (hE s A C.1.2.2.2.2.2.2.2.2.2)⟩⟩ rfl hlen hl9.1 rfl (lv_room hrest) hd ⟨r3, r4⟩) hS (fun q _ h => hFc q h) hFc (fun u t H1 locs1 ht hvm hw hB hz1 hk1 hS1 => ?_)
  · obtain ⟨z0, z1, zP, zK, zD, zA⟩ := q
    exact ⟨z0, z1, zP, va_K.moved (u := U) (U := U.calling g mk a) (Vm.Alike.refl U.vm) zK, zD, va_AO.moved (u := U) (U := U.calling g mk a) (Vm.Alike.refl U.vm) zA⟩
  · obtain ⟨hP1, hD1⟩ := hB
    rw [ht] at hP1
    obtain ⟨hP2, hD2⟩ := va_join hP hD isC isR hC hRr hnR hdis hk1 hFc hP1 hD1
    exact kk u hw p e s m args below meth c A H1 locs1 la C hP2 hD2 hS1 hl9
end GDCALL
