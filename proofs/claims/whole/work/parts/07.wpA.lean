set_option maxHeartbeats 4000000 in
set_option maxRecDepth 100000 in
theorem ct_X0_buildAsTold {Γ : GT} {Q : St → Prop} (σ : St) 
    (h : ∃ Q1 : St → Prop, CtV Γ mX0_build 1 [rf Γ 7, .int (1 : Int32), .int (1 : Int32), .int (-1 : Int32)] σ Q1 ∧ ∀ (τ3 : St), Q1 τ3 → (Q τ3)) :
    CtV Γ mX0_buildAsTold 2 [rf Γ 7] σ Q := by
  refine ct_of (by decide +kernel) (Nat.le_of_ble_eq_true rfl) ?_
  show G Γ mX0_buildAsTold (NV Γ 2 Q) 0 [(0, rf Γ 7)] [] σ
  refine g_aload_n (pc := 0) dX0_buildAsTold_0 rfl 0 rfl ?_
  refine g_iconst (pc := 1) (1 : Int32) dX0_buildAsTold_1 rfl ?_
  refine g_iconst (pc := 2) (1 : Int32) dX0_buildAsTold_2 rfl ?_
  refine g_iconst (pc := 3) (-1 : Int32) dX0_buildAsTold_3 rfl ?_
  obtain ⟨Q1, hc, h⟩ := h
  refine g_callVV (pc := 4) (M' := mX0_build) (n := 2) (As := [.int (1 : Int32), .int (1 : Int32), .int (-1 : Int32)]) (st := []) dX0_buildAsTold_4 ml_X0_28 ok_X0_build rfl (rmOk_M _ _ _) (by decide) rc_7 (Nat.le_of_ble_eq_true rfl) rfl hc (fun τ3 hq => ?_)
  have h := h τ3 hq
  exact g_vret (pc := 7) rfl dX0_buildAsTold_7 h
set_option maxHeartbeats 4000000 in
set_option maxRecDepth 100000 in
theorem ct_X0_build {Γ : GT} {Q : St → Prop} (σ : St) (x1 : Int32) (x2 : Int32) (x3 : Int32)
    (h : G Γ mX0_build (NV Γ 1 Q) 3 [(0, rf Γ 7), (1, .int x1), (2, .int x2), (3, .int x3), (4, .int (0 : Int32))] [] σ) :
    CtV Γ mX0_build 1 [rf Γ 7, .int x1, .int x2, .int x3] σ Q := by
  refine ct_of (by decide +kernel) (Nat.le_of_ble_eq_true rfl) ?_
  show G Γ mX0_build (NV Γ 1 Q) 0 [(0, rf Γ 7), (1, .int x1), (2, .int x2), (3, .int x3)] [] σ
  refine g_iconst (pc := 0) (0 : Int32) dX0_build_0 rfl ?_
  refine g_istore (pc := 1) [(4, _), (0, _), (1, _), (2, _), (3, _)] dX0_build_1 (Nat.le_of_ble_eq_true rfl) rfl ?_
  refine g_pm [1, 2, 3, 4, 0] rfl ?_
  exact h
set_option maxHeartbeats 4000000 in
set_option maxRecDepth 100000 in
theorem t_X0_build_3 {Γ : GT} {Q : St → Prop} (σ : St) (x1 : Int32) (x2 : Int32) (x3 : Int32) (x4 : Int32)
    (h : (((σ.1 1 0) ≤ x4) → (Q σ)) ∧ ((¬ (σ.1 1 0) ≤ x4) → (vp_in x4 5 ∧ (((¬ x4 = x3) → (G Γ mX0_build (NV Γ 1 Q) 46 [(0, rf Γ 7), (1, .int x1), (2, .int x2), (3, .int x3), (4, .int x4), (5, .int (σ.1 3 x4.toNatClampNeg)), (6, .int (0 : Int32))] [] σ)) ∧ ((x4 = x3) → (∀ v1 : Int32, v1 = (if ((σ.1 3 x4.toNatClampNeg) - (1 : Int32)) < (1 : Int32) then (1 : Int32) else ((σ.1 3 x4.toNatClampNeg) - (1 : Int32))) → G Γ mX0_build (NV Γ 1 Q) 46 [(0, rf Γ 7), (1, .int x1), (2, .int x2), (3, .int x3), (4, .int x4), (5, .int v1), (6, .int (0 : Int32))] [] σ)))))) :
    G Γ mX0_build (NV Γ 1 Q) 3 [(0, rf Γ 7), (1, .int x1), (2, .int x2), (3, .int x3), (4, .int x4)] [] σ := by
  refine g_iload (pc := 3) dX0_build_3 4 rfl ?_
  refine g_aload_n (pc := 5) dX0_build_5 rfl 0 rfl ?_
  refine g_getR (pc := 6) 7 0 0 1 fr_7_0 fl_X0_9 dX0_build_6 ?_
  refine g_getI (pc := 9) 1 1 0 fi_1_0 fl_X0_32 dX0_build_9 ?_
  refine g_icmp_ge (pc := 12) 131 dX0_build_12 (by decide) (fun q => ?_) (fun q => ?_)
  · have h := h.1 q
    exact g_vret (pc := 131) rfl dX0_build_131 h
  · have h := h.2 q
    refine g_aload_n (pc := 15) dX0_build_15 rfl 0 rfl ?_
    refine g_getR (pc := 16) 7 0 0 1 fr_7_0 fl_X0_9 dX0_build_16 ?_
    refine g_getR (pc := 19) 1 1 3 3 fr_1_3 fl_X0_36 dX0_build_19 ?_
    refine g_iload (pc := 22) dX0_build_22 4 rfl ?_
    refine g_iald (pc := 24) 3 5 ar_3 h.1 dX0_build_24 ?_
    have h := h.2
    refine g_istore (pc := 25) [(5, _), (0, _), (1, _), (2, _), (3, _), (4, _)] dX0_build_25 (Nat.le_of_ble_eq_true rfl) rfl ?_
    refine g_iload (pc := 27) dX0_build_27 5 rfl ?_
    refine g_iload_n (pc := 29) dX0_build_29 rfl 4 rfl ?_
    refine g_icmp_ne (pc := 30) 43 dX0_build_30 (by decide) (fun q => ?_) (fun q => ?_)
    · have h := h.1 q
      refine g_iconst (pc := 43) (0 : Int32) dX0_build_43 rfl ?_
      refine g_istore (pc := 44) [(6, _), (5, _), (0, _), (1, _), (2, _), (3, _), (4, _)] dX0_build_44 (Nat.le_of_ble_eq_true rfl) rfl ?_
      refine g_pm [2, 3, 4, 5, 6, 1, 0] rfl ?_
      exact h
    · have h := h.2 q
      refine g_iload (pc := 33) dX0_build_33 0 rfl ?_
      refine g_iconst (pc := 35) (1 : Int32) dX0_build_35 rfl ?_
      refine g_isub (pc := 36) dX0_build_36 ?_
      refine g_iconst (pc := 37) (1 : Int32) dX0_build_37 rfl ?_
      refine g_mmax (pc := 38) (n := 1) ml_X0_39 kw_mmax (rmOk_M _ _ _) (by decide) (Nat.le_of_ble_eq_true rfl) dX0_build_38 ?_
      refine g_topI (fun v1 ev1 => ?_)
      refine g_istore (pc := 41) [(5, _), (0, _), (1, _), (2, _), (3, _), (4, _)] dX0_build_41 (Nat.le_of_ble_eq_true rfl) rfl ?_
      have h := h v1 ev1
      refine g_iconst (pc := 43) (0 : Int32) dX0_build_43 rfl ?_
      refine g_istore (pc := 44) [(6, _), (5, _), (0, _), (1, _), (2, _), (3, _), (4, _)] dX0_build_44 (Nat.le_of_ble_eq_true rfl) rfl ?_
      refine g_pm [2, 3, 4, 5, 6, 1, 0] rfl ?_
      exact h
set_option maxHeartbeats 4000000 in
set_option maxRecDepth 100000 in
theorem t_X0_build_46 {Γ : GT} {Q : St → Prop} (σ : St) (x1 : Int32) (x2 : Int32) (x3 : Int32) (x4 : Int32) (x5 : Int32) (x6 : Int32)
    (h : (((σ.1 1 0) ≤ x6) → (G Γ mX0_build (NV Γ 1 Q) 3 [(0, rf Γ 7), (1, .int x1), (2, .int x2), (3, .int x3), (4, .int (x4 + (1 : Int32)))] [] σ)) ∧ ((¬ (σ.1 1 0) ≤ x6) → (((¬ x4 = x6) → (∃ Q2 : Int32 → St → Prop, CtI Γ mX1_gainOf 0 [rf Γ 1, .int x4, .int x6] σ Q2 ∧ ∀ (r3 : Int32) (τ4 : St), Q2 r3 τ4 → (vp_in ((x4 * (5 : Int32)) + x6) 25 ∧ (G Γ mX0_build (NV Γ 1 Q) 46 [(0, rf Γ 7), (1, .int x1), (2, .int x2), (3, .int x3), (4, .int x4), (5, .int x5), (6, .int (x6 + (1 : Int32)))] [] (sJ τ4 8 ((x4 * (5 : Int32)) + x6).toNatClampNeg (((-x5.toInt64) * x2.toInt64) * r3.toInt64)))))) ∧ ((x4 = x6) → (∃ Q5 : Int32 → St → Prop, CtI Γ mX1_gainOf 0 [rf Γ 1, .int x4, .int x4] σ Q5 ∧ ∀ (r6 : Int32) (τ7 : St), Q5 r6 τ7 → (vp_in ((x4 * (5 : Int32)) + x6) 25 ∧ (G Γ mX0_build (NV Γ 1 Q) 46 [(0, rf Γ 7), (1, .int x1), (2, .int x2), (3, .int x3), (4, .int x4), (5, .int x5), (6, .int (x6 + (1 : Int32)))] [] (sJ τ7 8 ((x4 * (5 : Int32)) + x6).toNatClampNeg (((10 : Int64) * r6.toInt64) * x1.toInt64))))))))) :
    G Γ mX0_build (NV Γ 1 Q) 46 [(0, rf Γ 7), (1, .int x1), (2, .int x2), (3, .int x3), (4, .int x4), (5, .int x5), (6, .int x6)] [] σ := by
  refine g_iload (pc := 46) dX0_build_46 6 rfl ?_
  refine g_aload_n (pc := 48) dX0_build_48 rfl 0 rfl ?_
  refine g_getR (pc := 49) 7 0 0 1 fr_7_0 fl_X0_9 dX0_build_49 ?_
  refine g_getI (pc := 52) 1 1 0 fi_1_0 fl_X0_32 dX0_build_52 ?_
  refine g_icmp_ge (pc := 55) 125 dX0_build_55 (by decide) (fun q => ?_) (fun q => ?_)
  · have h := h.1 q
    refine g_iinc (pc := 125) (1 : Int32) [(4, _), (0, _), (1, _), (2, _), (3, _), (5, _), (6, _)] dX0_build_125 4 rfl rfl (Nat.le_of_ble_eq_true rfl) rfl ?_
    refine g_goto (pc := 128) 3 dX0_build_128 (by decide) ?_
    refine g_pm [1, 2, 3, 4, 0] rfl ?_
    exact h
  · have h := h.2 q
    refine g_aload_n (pc := 58) dX0_build_58 rfl 0 rfl ?_
    refine g_getR (pc := 59) 7 0 1 8 fr_7_1 fl_X0_17 dX0_build_59 ?_
    refine g_iload (pc := 62) dX0_build_62 4 rfl ?_
    refine g_iconst (pc := 64) (5 : Int32) dX0_build_64 rfl ?_
    refine g_imul (pc := 65) dX0_build_65 ?_
    refine g_iload (pc := 66) dX0_build_66 6 rfl ?_
    refine g_iadd (pc := 68) dX0_build_68 ?_
    refine g_iload (pc := 69) dX0_build_69 4 rfl ?_
    refine g_iload (pc := 71) dX0_build_71 6 rfl ?_
    refine g_icmp_ne (pc := 73) 98 dX0_build_73 (by decide) (fun q => ?_) (fun q => ?_)
    · have h := h.1 q
      refine g_iload (pc := 98) dX0_build_98 5 rfl ?_
      refine g_i2l (pc := 100) dX0_build_100 ?_
      refine g_lneg (pc := 101) dX0_build_101 ?_
      refine g_iload_n (pc := 102) dX0_build_102 rfl 2 rfl ?_
      refine g_i2l (pc := 103) dX0_build_103 ?_
      refine g_lmul (pc := 104) dX0_build_104 ?_
      refine g_aload_n (pc := 105) dX0_build_105 rfl 0 rfl ?_
      refine g_getR (pc := 106) 7 0 0 1 fr_7_0 fl_X0_9 dX0_build_106 ?_
      refine g_iload (pc := 109) dX0_build_109 4 rfl ?_
      refine g_iload (pc := 111) dX0_build_111 6 rfl ?_
      obtain ⟨Q2, hc, h⟩ := h
      refine g_callVI (pc := 113) (M' := mX1_gainOf) (n := 1) (As := [.int x4, .int x6]) (st := [.long ((-x5.toInt64) * x2.toInt64), .int ((x4 * (5 : Int32)) + x6), rf Γ 8]) dX0_build_113 ml_X0_47 ok_X1_gainOf rfl (rmOk_M _ _ _) (by decide) rc_1 (Nat.le_of_ble_eq_true rfl) rfl hc (fun r3 τ4 hq => ?_)
      have h := h r3 τ4 hq
      refine g_i2l (pc := 116) dX0_build_116 ?_
      refine g_lmul (pc := 117) dX0_build_117 ?_
      refine g_last (pc := 118) 8 25 ar_8 h.1 dX0_build_118 ?_
      have h := h.2
      refine g_iinc (pc := 119) (1 : Int32) [(6, _), (0, _), (1, _), (2, _), (3, _), (4, _), (5, _)] dX0_build_119 6 rfl rfl (Nat.le_of_ble_eq_true rfl) rfl ?_
      refine g_goto (pc := 122) 46 dX0_build_122 (by decide) ?_
      refine g_pm [1, 2, 3, 4, 5, 6, 0] rfl ?_
      exact h
    · have h := h.2 q
      refine g_ldc2 (pc := 76) (10 : Int64) kl_X0_45 dX0_build_76 ?_
      refine g_aload_n (pc := 79) dX0_build_79 rfl 0 rfl ?_
      refine g_getR (pc := 80) 7 0 0 1 fr_7_0 fl_X0_9 dX0_build_80 ?_
      refine g_iload (pc := 83) dX0_build_83 4 rfl ?_
      refine g_iload (pc := 85) dX0_build_85 4 rfl ?_
      obtain ⟨Q5, hc, h⟩ := h
      refine g_callVI (pc := 87) (M' := mX1_gainOf) (n := 1) (As := [.int x4, .int x4]) (st := [.long (10 : Int64), .int ((x4 * (5 : Int32)) + x6), rf Γ 8]) dX0_build_87 ml_X0_47 ok_X1_gainOf rfl (rmOk_M _ _ _) (by decide) rc_1 (Nat.le_of_ble_eq_true rfl) rfl hc (fun r6 τ7 hq => ?_)
      have h := h r6 τ7 hq
      refine g_i2l (pc := 90) dX0_build_90 ?_
      refine g_lmul (pc := 91) dX0_build_91 ?_
      refine g_iload_n (pc := 92) dX0_build_92 rfl 1 rfl ?_
      refine g_i2l (pc := 93) dX0_build_93 ?_
      refine g_lmul (pc := 94) dX0_build_94 ?_
      refine g_goto (pc := 95) 118 dX0_build_95 (by decide) ?_
      refine g_last (pc := 118) 8 25 ar_8 h.1 dX0_build_118 ?_
      have h := h.2
      refine g_iinc (pc := 119) (1 : Int32) [(6, _), (0, _), (1, _), (2, _), (3, _), (4, _), (5, _)] dX0_build_119 6 rfl rfl (Nat.le_of_ble_eq_true rfl) rfl ?_
      refine g_goto (pc := 122) 46 dX0_build_122 (by decide) ?_
      refine g_pm [1, 2, 3, 4, 5, 6, 0] rfl ?_
      exact h
set_option maxHeartbeats 4000000 in
set_option maxRecDepth 100000 in
theorem ct_X0_replaceColumnByNoise {Γ : GT} {Q : St → Prop} (σ : St) (x1 : Int32)
    (h : G Γ mX0_replaceColumnByNoise (NV Γ 0 Q) 2 [(0, rf Γ 7), (1, .int x1), (2, .int (0 : Int32))] [] σ) :
    CtV Γ mX0_replaceColumnByNoise 0 [rf Γ 7, .int x1] σ Q := by
  refine ct_of (by decide +kernel) (Nat.le_of_ble_eq_true rfl) ?_
  show G Γ mX0_replaceColumnByNoise (NV Γ 0 Q) 0 [(0, rf Γ 7), (1, .int x1)] [] σ
  refine g_iconst (pc := 0) (0 : Int32) dX0_replaceColumnByNoise_0 rfl ?_
  refine g_istore_n (pc := 1) [(2, _), (0, _), (1, _)] dX0_replaceColumnByNoise_1 rfl (Nat.le_of_ble_eq_true rfl) rfl ?_
  refine g_pm [1, 2, 0] rfl ?_
  exact h
set_option maxHeartbeats 4000000 in
set_option maxRecDepth 100000 in
theorem t_X0_replaceColumnByNoise_2 {Γ : GT} {Q : St → Prop} (σ : St) (x1 : Int32) (x2 : Int32)
    (h : (((σ.1 1 0) ≤ x2) → (Q σ)) ∧ ((¬ (σ.1 1 0) ≤ x2) → (vp_in x2 5 ∧ (vp_in x2 5 ∧ (vp_in ((x2 * (5 : Int32)) + x1) 25 ∧ (G Γ mX0_replaceColumnByNoise (NV Γ 0 Q) 2 [(0, rf Γ 7), (1, .int x1), (2, .int (x2 + (1 : Int32)))] [] (sJ σ 8 ((x2 * (5 : Int32)) + x1).toNatClampNeg (((σ.1 3 x2.toNatClampNeg).toInt64) * ((σ.1 4 x2.toNatClampNeg).toInt64))))))))) :
    G Γ mX0_replaceColumnByNoise (NV Γ 0 Q) 2 [(0, rf Γ 7), (1, .int x1), (2, .int x2)] [] σ := by
  refine g_iload_n (pc := 2) dX0_replaceColumnByNoise_2 rfl 2 rfl ?_
  refine g_aload_n (pc := 3) dX0_replaceColumnByNoise_3 rfl 0 rfl ?_
  refine g_getR (pc := 4) 7 0 0 1 fr_7_0 fl_X0_9 dX0_replaceColumnByNoise_4 ?_
  refine g_getI (pc := 7) 1 1 0 fi_1_0 fl_X0_32 dX0_replaceColumnByNoise_7 ?_
  refine g_icmp_ge (pc := 10) 50 dX0_replaceColumnByNoise_10 (by decide) (fun q => ?_) (fun q => ?_)
  · have h := h.1 q
    exact g_vret (pc := 50) rfl dX0_replaceColumnByNoise_50 h
  · have h := h.2 q
    refine g_aload_n (pc := 13) dX0_replaceColumnByNoise_13 rfl 0 rfl ?_
    refine g_getR (pc := 14) 7 0 1 8 fr_7_1 fl_X0_17 dX0_replaceColumnByNoise_14 ?_
    refine g_iload_n (pc := 17) dX0_replaceColumnByNoise_17 rfl 2 rfl ?_
    refine g_iconst (pc := 18) (5 : Int32) dX0_replaceColumnByNoise_18 rfl ?_
    refine g_imul (pc := 19) dX0_replaceColumnByNoise_19 ?_
    refine g_iload_n (pc := 20) dX0_replaceColumnByNoise_20 rfl 1 rfl ?_
    refine g_iadd (pc := 21) dX0_replaceColumnByNoise_21 ?_
    refine g_aload_n (pc := 22) dX0_replaceColumnByNoise_22 rfl 0 rfl ?_
    refine g_getR (pc := 23) 7 0 0 1 fr_7_0 fl_X0_9 dX0_replaceColumnByNoise_23 ?_
    refine g_getR (pc := 26) 1 1 3 3 fr_1_3 fl_X0_36 dX0_replaceColumnByNoise_26 ?_
    refine g_iload_n (pc := 29) dX0_replaceColumnByNoise_29 rfl 2 rfl ?_
    refine g_iald (pc := 30) 3 5 ar_3 h.1 dX0_replaceColumnByNoise_30 ?_
    have h := h.2
    refine g_i2l (pc := 31) dX0_replaceColumnByNoise_31 ?_
    refine g_aload_n (pc := 32) dX0_replaceColumnByNoise_32 rfl 0 rfl ?_
    refine g_getR (pc := 33) 7 0 0 1 fr_7_0 fl_X0_9 dX0_replaceColumnByNoise_33 ?_
    refine g_getR (pc := 36) 1 1 4 4 fr_1_4 fl_X0_50 dX0_replaceColumnByNoise_36 ?_
    refine g_iload_n (pc := 39) dX0_replaceColumnByNoise_39 rfl 2 rfl ?_
    refine g_iald (pc := 40) 4 5 ar_4 h.1 dX0_replaceColumnByNoise_40 ?_
    have h := h.2
    refine g_i2l (pc := 41) dX0_replaceColumnByNoise_41 ?_
    refine g_lmul (pc := 42) dX0_replaceColumnByNoise_42 ?_
    refine g_last (pc := 43) 8 25 ar_8 h.1 dX0_replaceColumnByNoise_43 ?_
    have h := h.2
    refine g_iinc (pc := 44) (1 : Int32) [(2, _), (0, _), (1, _)] dX0_replaceColumnByNoise_44 2 rfl rfl (Nat.le_of_ble_eq_true rfl) rfl ?_
    refine g_goto (pc := 47) 2 dX0_replaceColumnByNoise_47 (by decide) ?_
    refine g_pm [1, 2, 0] rfl ?_
    exact h
set_option maxHeartbeats 4000000 in
set_option maxRecDepth 100000 in
theorem ct_X0_minorOf {Γ : GT} {Q : Int64 → St → Prop} (σ : St) (x1 : Int32)
    (h : ∃ Q1 : Int32 → St → Prop, CtI Γ mX0_expand 1 [rf Γ 7, .int x1] σ Q1 ∧ ∀ (r2 : Int32) (τ3 : St), Q1 r2 τ3 → (vp_in (((1 : Int32) <<< (r2 &&& 31)) - (1 : Int32)) 32 ∧ (Q (τ3.2 9 (((1 : Int32) <<< (r2 &&& 31)) - (1 : Int32)).toNatClampNeg) τ3))) :
    CtJ Γ mX0_minorOf 2 [rf Γ 7, .int x1] σ Q := by
  refine ct_of (by decide +kernel) (Nat.le_of_ble_eq_true rfl) ?_
  show G Γ mX0_minorOf (NJ Γ 2 Q) 0 [(0, rf Γ 7), (1, .int x1)] [] σ
  refine g_aload_n (pc := 0) dX0_minorOf_0 rfl 0 rfl ?_
  refine g_getR (pc := 1) 7 0 2 9 fr_7_2 fl_X0_21 dX0_minorOf_1 ?_
  refine g_iconst (pc := 4) (1 : Int32) dX0_minorOf_4 rfl ?_
  refine g_aload_n (pc := 5) dX0_minorOf_5 rfl 0 rfl ?_
  refine g_iload_n (pc := 6) dX0_minorOf_6 rfl 1 rfl ?_
  obtain ⟨Q1, hc, h⟩ := h
  refine g_callVI (pc := 7) (M' := mX0_expand) (n := 2) (As := [.int x1]) (st := [.int (1 : Int32), rf Γ 9]) dX0_minorOf_7 ml_X0_53 ok_X0_expand rfl (rmOk_M _ _ _) (by decide) rc_7 (Nat.le_of_ble_eq_true rfl) rfl hc (fun r2 τ3 hq => ?_)
  have h := h r2 τ3 hq
  refine g_ishl (pc := 10) dX0_minorOf_10 ?_
  refine g_iconst (pc := 11) (1 : Int32) dX0_minorOf_11 rfl ?_
  refine g_isub (pc := 12) dX0_minorOf_12 ?_
  refine g_lald (pc := 13) 9 32 ar_9 h.1 dX0_minorOf_13 ?_
  have h := h.2
  exact g_lret (pc := 14) rfl dX0_minorOf_14 h
set_option maxHeartbeats 4000000 in
set_option maxRecDepth 100000 in
theorem ct_X0_holdFor {Γ : GT} {Q : Int32 → St → Prop} (σ : St) (x1 : Int32)
    (h : ∃ Q1 : Int32 → St → Prop, CtI Γ mX0_expand 1 [rf Γ 7, .int x1] σ Q1 ∧ ∀ (r2 : Int32) (τ3 : St), Q1 r2 τ3 → (G Γ mX0_holdFor (NI Γ 2 Q) 8 [(0, rf Γ 7), (2, .int r2), (3, .int (1 : Int32))] [] τ3)) :
    CtI Γ mX0_holdFor 2 [rf Γ 7, .int x1] σ Q := by
  refine ct_of (by decide +kernel) (Nat.le_of_ble_eq_true rfl) ?_
  show G Γ mX0_holdFor (NI Γ 2 Q) 0 [(0, rf Γ 7), (1, .int x1)] [] σ
  refine g_aload_n (pc := 0) dX0_holdFor_0 rfl 0 rfl ?_
  refine g_iload_n (pc := 1) dX0_holdFor_1 rfl 1 rfl ?_
  obtain ⟨Q1, hc, h⟩ := h
  refine g_callVI (pc := 2) (M' := mX0_expand) (n := 2) (As := [.int x1]) (st := []) dX0_holdFor_2 ml_X0_53 ok_X0_expand rfl (rmOk_M _ _ _) (by decide) rc_7 (Nat.le_of_ble_eq_true rfl) rfl hc (fun r2 τ3 hq => ?_)
  have h := h r2 τ3 hq
  refine g_istore_n (pc := 5) [(2, _), (0, _), (1, _)] dX0_holdFor_5 rfl (Nat.le_of_ble_eq_true rfl) rfl ?_
  refine g_iconst (pc := 6) (1 : Int32) dX0_holdFor_6 rfl ?_
  refine g_istore_n (pc := 7) [(3, _), (2, _), (0, _), (1, _)] dX0_holdFor_7 rfl (Nat.le_of_ble_eq_true rfl) rfl ?_
  refine g_pm [2, 1, 0] rfl ?_
  exact h
set_option maxHeartbeats 4000000 in
set_option maxRecDepth 100000 in
theorem t_X0_holdFor_8 {Γ : GT} {Q : Int32 → St → Prop} (σ : St) (x2 : Int32) (x3 : Int32)
    (h : ((x2 < x3) → (Q (1 : Int32) σ)) ∧ ((¬ x2 < x3) → (vp_in (((1 : Int32) <<< (x3 &&& 31)) - (1 : Int32)) 32 ∧ ((((0 : Int64) < (σ.2 9 (((1 : Int32) <<< (x3 &&& 31)) - (1 : Int32)).toNatClampNeg)) → (G Γ mX0_holdFor (NI Γ 2 Q) 8 [(0, rf Γ 7), (2, .int x2), (3, .int (x3 + (1 : Int32)))] [] σ)) ∧ ((¬ (0 : Int64) < (σ.2 9 (((1 : Int32) <<< (x3 &&& 31)) - (1 : Int32)).toNatClampNeg)) → (Q (0 : Int32) σ)))))) :
    G Γ mX0_holdFor (NI Γ 2 Q) 8 [(0, rf Γ 7), (2, .int x2), (3, .int x3)] [] σ := by
  refine g_iload_n (pc := 8) dX0_holdFor_8 rfl 2 rfl ?_
  refine g_iload_n (pc := 9) dX0_holdFor_9 rfl 1 rfl ?_
  refine g_icmp_gt (pc := 10) 36 dX0_holdFor_10 (by decide) (fun q => ?_) (fun q => ?_)
  · have h := h.1 q
    refine g_iconst (pc := 36) (1 : Int32) dX0_holdFor_36 rfl ?_
    exact g_zret (pc := 37) rfl dX0_holdFor_37 (Or.inr rfl) h
  · have h := h.2 q
    refine g_aload_n (pc := 13) dX0_holdFor_13 rfl 0 rfl ?_
    refine g_getR (pc := 14) 7 0 2 9 fr_7_2 fl_X0_21 dX0_holdFor_14 ?_
    refine g_iconst (pc := 17) (1 : Int32) dX0_holdFor_17 rfl ?_
    refine g_iload_n (pc := 18) dX0_holdFor_18 rfl 2 rfl ?_
    refine g_ishl (pc := 19) dX0_holdFor_19 ?_
    refine g_iconst (pc := 20) (1 : Int32) dX0_holdFor_20 rfl ?_
    refine g_isub (pc := 21) dX0_holdFor_21 ?_
    refine g_lald (pc := 22) 9 32 ar_9 h.1 dX0_holdFor_22 ?_
    have h := h.2
    refine g_lconst (pc := 23) (0 : Int64) dX0_holdFor_23 rfl ?_
    refine g_lcmp_gt (pc := 24) 30 dX0_holdFor_24 dX0_holdFor_25 (by decide) (fun q => ?_) (fun q => ?_)
    · have h := h.1 q
      refine g_iinc (pc := 30) (1 : Int32) [(3, _), (0, _), (2, _)] dX0_holdFor_30 2 rfl rfl (Nat.le_of_ble_eq_true rfl) rfl ?_
      refine g_goto (pc := 33) 8 dX0_holdFor_33 (by decide) ?_
      refine g_pm [1, 2, 0] rfl ?_
      exact h
    · have h := h.2 q
      refine g_iconst (pc := 28) (0 : Int32) dX0_holdFor_28 rfl ?_
      exact g_zret (pc := 29) rfl dX0_holdFor_29 (Or.inl rfl) h
set_option maxHeartbeats 4000000 in
set_option maxRecDepth 100000 in
theorem ct_X0_expand {Γ : GT} {Q : Int32 → St → Prop} (σ : St) (x1 : Int32)
    (h : ∃ Q1 : Int32 → St → Prop, CtI Γ mX0_listMembers 0 [rf Γ 7, .int x1] σ Q1 ∧ ∀ (r2 : Int32) (τ3 : St), Q1 r2 τ3 → (vp_in (0 : Int32) 32 ∧ (G Γ mX0_expand (NI Γ 1 Q) 15 [(0, rf Γ 7), (2, .int r2), (3, .int (1 : Int32))] [] (sJ τ3 9 (0 : Int32).toNatClampNeg (1 : Int64))))) :
    CtI Γ mX0_expand 1 [rf Γ 7, .int x1] σ Q := by
  refine ct_of (by decide +kernel) (Nat.le_of_ble_eq_true rfl) ?_
  show G Γ mX0_expand (NI Γ 1 Q) 0 [(0, rf Γ 7), (1, .int x1)] [] σ
  refine g_aload_n (pc := 0) dX0_expand_0 rfl 0 rfl ?_
  refine g_iload_n (pc := 1) dX0_expand_1 rfl 1 rfl ?_
  obtain ⟨Q1, hc, h⟩ := h
  refine g_callVI (pc := 2) (M' := mX0_listMembers) (n := 1) (As := [.int x1]) (st := []) dX0_expand_2 ml_X0_57 ok_X0_listMembers rfl (rmOk_M _ _ _) (by decide) rc_7 (Nat.le_of_ble_eq_true rfl) rfl hc (fun r2 τ3 hq => ?_)
  have h := h r2 τ3 hq
  refine g_istore_n (pc := 5) [(2, _), (0, _), (1, _)] dX0_expand_5 rfl (Nat.le_of_ble_eq_true rfl) rfl ?_
  refine g_aload_n (pc := 6) dX0_expand_6 rfl 1 rfl ?_
  refine g_getR (pc := 7) 7 0 2 9 fr_7_2 fl_X0_21 dX0_expand_7 ?_
  refine g_iconst (pc := 10) (0 : Int32) dX0_expand_10 rfl ?_
  refine g_lconst (pc := 11) (1 : Int64) dX0_expand_11 rfl ?_
  refine g_last (pc := 12) 9 32 ar_9 h.1 dX0_expand_12 ?_
  have h := h.2
  refine g_iconst (pc := 13) (1 : Int32) dX0_expand_13 rfl ?_
  refine g_istore_n (pc := 14) [(3, _), (2, _), (0, _), (1, _)] dX0_expand_14 rfl (Nat.le_of_ble_eq_true rfl) rfl ?_
  refine g_pm [2, 1, 0] rfl ?_
  exact h
set_option maxHeartbeats 4000000 in
set_option maxRecDepth 100000 in
theorem t_X0_expand_15 {Γ : GT} {Q : Int32 → St → Prop} (σ : St) (x2 : Int32) (x3 : Int32)
    (h : ((((1 : Int32) <<< (x2 &&& 31)) ≤ x3) → (Q x2 σ)) ∧ ((¬ ((1 : Int32) <<< (x2 &&& 31)) ≤ x3) → (∃ Q4 : Int32 → St → Prop, CtI Γ mJ6_bitCount_0f7a4 0 [.int x3] σ Q4 ∧ ∀ (r5 : Int32) (τ6 : St), Q4 r5 τ6 → (vp_in (r5 - (1 : Int32)) 5 ∧ (∃ Q7 : Int64 → St → Prop, CtJ Γ mX0_expandRow 0 [rf Γ 7, .int (τ6.1 10 (r5 - (1 : Int32)).toNatClampNeg), .int x3, .int x2] τ6 Q7 ∧ ∀ (r8 : Int64) (τ9 : St), Q7 r8 τ9 → (vp_in x3 32 ∧ (G Γ mX0_expand (NI Γ 1 Q) 15 [(0, rf Γ 7), (2, .int x2), (3, .int (x3 + (1 : Int32)))] [] (sJ τ9 9 x3.toNatClampNeg r8)))))))) :
    G Γ mX0_expand (NI Γ 1 Q) 15 [(0, rf Γ 7), (2, .int x2), (3, .int x3)] [] σ := by
  refine g_iload_n (pc := 15) dX0_expand_15 rfl 2 rfl ?_
  refine g_iconst (pc := 16) (1 : Int32) dX0_expand_16 rfl ?_
  refine g_iload_n (pc := 17) dX0_expand_17 rfl 1 rfl ?_
  refine g_ishl (pc := 18) dX0_expand_18 ?_
  refine g_icmp_ge (pc := 19) 51 dX0_expand_19 (by decide) (fun q => ?_) (fun q => ?_)
  · have h := h.1 q
    refine g_iload_n (pc := 51) dX0_expand_51 rfl 1 rfl ?_
    exact g_iret (pc := 52) rfl dX0_expand_52 h
  · have h := h.2 q
    refine g_aload_n (pc := 22) dX0_expand_22 rfl 0 rfl ?_
    refine g_getR (pc := 23) 7 0 2 9 fr_7_2 fl_X0_21 dX0_expand_23 ?_
    refine g_iload_n (pc := 26) dX0_expand_26 rfl 2 rfl ?_
    refine g_aload_n (pc := 27) dX0_expand_27 rfl 0 rfl ?_
    refine g_aload_n (pc := 28) dX0_expand_28 rfl 0 rfl ?_
    refine g_getR (pc := 29) 7 0 3 10 fr_7_3 fl_X0_24 dX0_expand_29 ?_
    refine g_iload_n (pc := 32) dX0_expand_32 rfl 2 rfl ?_
    obtain ⟨Q4, hc, h⟩ := h
    refine g_callSI (pc := 33) (M' := mJ6_bitCount_0f7a4) (n := 1) (As := [.int x3]) (st := [rf Γ 10, rf Γ 7, .int x3, rf Γ 9]) dX0_expand_33 ml_X0_60 ok_J6_bitCount_0f7a4 rfl (rmOk_M _ _ _) (by decide) (Nat.le_of_ble_eq_true rfl) rfl hc (fun r5 τ6 hq => ?_)
    have h := h r5 τ6 hq
    refine g_iconst (pc := 36) (1 : Int32) dX0_expand_36 rfl ?_
    refine g_isub (pc := 37) dX0_expand_37 ?_
    refine g_iald (pc := 38) 10 5 ar_10 h.1 dX0_expand_38 ?_
    have h := h.2
    refine g_iload_n (pc := 39) dX0_expand_39 rfl 2 rfl ?_
    refine g_iload_n (pc := 40) dX0_expand_40 rfl 1 rfl ?_
    obtain ⟨Q7, hc, h⟩ := h
    refine g_callVJ (pc := 41) (M' := mX0_expandRow) (n := 1) (As := [.int (τ6.1 10 (r5 - (1 : Int32)).toNatClampNeg), .int x3, .int x2]) (st := [.int x3, rf Γ 9]) dX0_expand_41 ml_X0_65 ok_X0_expandRow rfl (rmOk_M _ _ _) (by decide) rc_7 (Nat.le_of_ble_eq_true rfl) rfl hc (fun r8 τ9 hq => ?_)
    have h := h r8 τ9 hq
    refine g_last (pc := 44) 9 32 ar_9 h.1 dX0_expand_44 ?_
    have h := h.2
    refine g_iinc (pc := 45) (1 : Int32) [(3, _), (0, _), (2, _)] dX0_expand_45 2 rfl rfl (Nat.le_of_ble_eq_true rfl) rfl ?_
    refine g_goto (pc := 48) 15 dX0_expand_48 (by decide) ?_
    refine g_pm [1, 2, 0] rfl ?_
    exact h
set_option maxHeartbeats 4000000 in
set_option maxRecDepth 100000 in
theorem ct_X0_expandRow {Γ : GT} {Q : Int64 → St → Prop} (σ : St) (x1 : Int32) (x2 : Int32) (x3 : Int32)
    (h : G Γ mX0_expandRow (NJ Γ 0 Q) 11 [(0, rf Γ 7), (1, .int x1), (2, .int x2), (4, .long (0 : Int64)), (6, .long (1 : Int64)), (8, .int (x3 - (1 : Int32)))] [] σ) :
    CtJ Γ mX0_expandRow 0 [rf Γ 7, .int x1, .int x2, .int x3] σ Q := by
  refine ct_of (by decide +kernel) (Nat.le_of_ble_eq_true rfl) ?_
  show G Γ mX0_expandRow (NJ Γ 0 Q) 0 [(0, rf Γ 7), (1, .int x1), (2, .int x2), (3, .int x3)] [] σ
  refine g_lconst (pc := 0) (0 : Int64) dX0_expandRow_0 rfl ?_
  refine g_lstore (pc := 1) [(4, _), (0, _), (1, _), (2, _), (3, _)] dX0_expandRow_1 (Nat.le_of_ble_eq_true rfl) rfl ?_
  refine g_lconst (pc := 3) (1 : Int64) dX0_expandRow_3 rfl ?_
  refine g_lstore (pc := 4) [(6, _), (4, _), (0, _), (1, _), (2, _), (3, _)] dX0_expandRow_4 (Nat.le_of_ble_eq_true rfl) rfl ?_
  refine g_iload_n (pc := 6) dX0_expandRow_6 rfl 5 rfl ?_
  refine g_iconst (pc := 7) (1 : Int32) dX0_expandRow_7 rfl ?_
  refine g_isub (pc := 8) dX0_expandRow_8 ?_
  refine g_istore (pc := 9) [(8, _), (6, _), (4, _), (0, _), (1, _), (2, _), (3, _)] dX0_expandRow_9 (Nat.le_of_ble_eq_true rfl) rfl ?_
  refine g_pm [3, 4, 5, 2, 1, 0] rfl ?_
  exact h
set_option maxHeartbeats 4000000 in
set_option maxRecDepth 100000 in
theorem t_X0_expandRow_11 {Γ : GT} {Q : Int64 → St → Prop} (σ : St) (x1 : Int32) (x2 : Int32) (x4 : Int64) (x6 : Int64) (x8 : Int32)
    (h : ((x8 < 0) → (Q x4 σ)) ∧ ((¬ x8 < 0) → (((¬ ((x2 >>> (x8 &&& 31)) &&& (1 : Int32)) = (1 : Int32)) → (G Γ mX0_expandRow (NJ Γ 0 Q) 11 [(0, rf Γ 7), (1, .int x1), (2, .int x2), (4, .long x4), (6, .long x6), (8, .int (x8 + (-1 : Int32)))] [] σ)) ∧ ((((x2 >>> (x8 &&& 31)) &&& (1 : Int32)) = (1 : Int32)) → (vp_in x8 5 ∧ (vp_in ((x1 * (5 : Int32)) + (σ.1 10 x8.toNatClampNeg)) 25 ∧ (vp_in (x2 ^^^ ((1 : Int32) <<< (x8 &&& 31))) 32 ∧ (∀ v1 : Int64, v1 = (x4 + ((x6 * (σ.2 8 ((x1 * (5 : Int32)) + (σ.1 10 x8.toNatClampNeg)).toNatClampNeg)) * (σ.2 9 (x2 ^^^ ((1 : Int32) <<< (x8 &&& 31))).toNatClampNeg))) → G Γ mX0_expandRow (NJ Γ 0 Q) 11 [(0, rf Γ 7), (1, .int x1), (2, .int x2), (4, .long v1), (6, .long (-x6)), (8, .int (x8 + (-1 : Int32)))] [] σ)))))))) :
    G Γ mX0_expandRow (NJ Γ 0 Q) 11 [(0, rf Γ 7), (1, .int x1), (2, .int x2), (4, .long x4), (6, .long x6), (8, .int x8)] [] σ := by
  refine g_iload (pc := 11) dX0_expandRow_11 5 rfl ?_
  refine g_if_lt (pc := 13) 73 dX0_expandRow_13 (by decide) (fun q => ?_) (fun q => ?_)
  · have h := h.1 q
    refine g_lload (pc := 73) dX0_expandRow_73 3 rfl ?_
    exact g_lret (pc := 75) rfl dX0_expandRow_75 h
  · have h := h.2 q
    refine g_iload_n (pc := 16) dX0_expandRow_16 rfl 2 rfl ?_
    refine g_iload (pc := 17) dX0_expandRow_17 5 rfl ?_
    refine g_ishr (pc := 19) dX0_expandRow_19 ?_
    refine g_iconst (pc := 20) (1 : Int32) dX0_expandRow_20 rfl ?_
    refine g_iand (pc := 21) dX0_expandRow_21 ?_
    refine g_iconst (pc := 22) (1 : Int32) dX0_expandRow_22 rfl ?_
    refine g_icmp_ne (pc := 23) 67 dX0_expandRow_23 (by decide) (fun q => ?_) (fun q => ?_)
    · have h := h.1 q
      refine g_iinc (pc := 67) (-1 : Int32) [(8, _), (0, _), (1, _), (2, _), (4, _), (6, _)] dX0_expandRow_67 5 rfl rfl (Nat.le_of_ble_eq_true rfl) rfl ?_
      refine g_goto (pc := 70) 11 dX0_expandRow_70 (by decide) ?_
      refine g_pm [1, 2, 3, 4, 5, 0] rfl ?_
      exact h
    · have h := h.2 q
      refine g_lload (pc := 26) dX0_expandRow_26 3 rfl ?_
      refine g_lload (pc := 28) dX0_expandRow_28 4 rfl ?_
      refine g_aload_n (pc := 30) dX0_expandRow_30 rfl 0 rfl ?_
      refine g_getR (pc := 31) 7 0 1 8 fr_7_1 fl_X0_17 dX0_expandRow_31 ?_
      refine g_iload_n (pc := 34) dX0_expandRow_34 rfl 1 rfl ?_
      refine g_iconst (pc := 35) (5 : Int32) dX0_expandRow_35 rfl ?_
      refine g_imul (pc := 36) dX0_expandRow_36 ?_
      refine g_aload_n (pc := 37) dX0_expandRow_37 rfl 0 rfl ?_
      refine g_getR (pc := 38) 7 0 3 10 fr_7_3 fl_X0_24 dX0_expandRow_38 ?_
      refine g_iload (pc := 41) dX0_expandRow_41 5 rfl ?_
      refine g_iald (pc := 43) 10 5 ar_10 h.1 dX0_expandRow_43 ?_
      have h := h.2
      refine g_iadd (pc := 44) dX0_expandRow_44 ?_
      refine g_lald (pc := 45) 8 25 ar_8 h.1 dX0_expandRow_45 ?_
      have h := h.2
      refine g_lmul (pc := 46) dX0_expandRow_46 ?_
      refine g_aload_n (pc := 47) dX0_expandRow_47 rfl 0 rfl ?_
      refine g_getR (pc := 48) 7 0 2 9 fr_7_2 fl_X0_21 dX0_expandRow_48 ?_
      refine g_iload_n (pc := 51) dX0_expandRow_51 rfl 2 rfl ?_
      refine g_iconst (pc := 52) (1 : Int32) dX0_expandRow_52 rfl ?_
      refine g_iload (pc := 53) dX0_expandRow_53 5 rfl ?_
      refine g_ishl (pc := 55) dX0_expandRow_55 ?_
      refine g_ixor (pc := 56) dX0_expandRow_56 ?_
      refine g_lald (pc := 57) 9 32 ar_9 h.1 dX0_expandRow_57 ?_
      have h := h.2
      refine g_lmul (pc := 58) dX0_expandRow_58 ?_
      refine g_ladd (pc := 59) dX0_expandRow_59 ?_
      refine g_topJ (fun v1 ev1 => ?_)
      refine g_lstore (pc := 60) [(4, _), (0, _), (1, _), (2, _), (6, _), (8, _)] dX0_expandRow_60 (Nat.le_of_ble_eq_true rfl) rfl ?_
      have h := h v1 ev1
      refine g_lload (pc := 62) dX0_expandRow_62 4 rfl ?_
      refine g_lneg (pc := 64) dX0_expandRow_64 ?_
      refine g_lstore (pc := 65) [(6, _), (4, _), (0, _), (1, _), (2, _), (8, _)] dX0_expandRow_65 (Nat.le_of_ble_eq_true rfl) rfl ?_
      refine g_iinc (pc := 67) (-1 : Int32) [(8, _), (6, _), (4, _), (0, _), (1, _), (2, _)] dX0_expandRow_67 5 rfl rfl (Nat.le_of_ble_eq_true rfl) rfl ?_
      refine g_goto (pc := 70) 11 dX0_expandRow_70 (by decide) ?_
      refine g_pm [3, 4, 5, 2, 1, 0] rfl ?_
      exact h
set_option maxHeartbeats 4000000 in
set_option maxRecDepth 100000 in
theorem ct_X0_listMembers {Γ : GT} {Q : Int32 → St → Prop} (σ : St) (x1 : Int32)
    (h : G Γ mX0_listMembers (NI Γ 0 Q) 4 [(0, rf Γ 7), (1, .int x1), (2, .int (0 : Int32)), (3, .int (0 : Int32))] [] σ) :
    CtI Γ mX0_listMembers 0 [rf Γ 7, .int x1] σ Q := by
  refine ct_of (by decide +kernel) (Nat.le_of_ble_eq_true rfl) ?_
  show G Γ mX0_listMembers (NI Γ 0 Q) 0 [(0, rf Γ 7), (1, .int x1)] [] σ
  refine g_iconst (pc := 0) (0 : Int32) dX0_listMembers_0 rfl ?_
  refine g_istore_n (pc := 1) [(2, _), (0, _), (1, _)] dX0_listMembers_1 rfl (Nat.le_of_ble_eq_true rfl) rfl ?_
  refine g_iconst (pc := 2) (0 : Int32) dX0_listMembers_2 rfl ?_
  refine g_istore_n (pc := 3) [(3, _), (2, _), (0, _), (1, _)] dX0_listMembers_3 rfl (Nat.le_of_ble_eq_true rfl) rfl ?_
  refine g_pm [2, 3, 1, 0] rfl ?_
  exact h
set_option maxHeartbeats 4000000 in
set_option maxRecDepth 100000 in
theorem t_X0_listMembers_4 {Γ : GT} {Q : Int32 → St → Prop} (σ : St) (x1 : Int32) (x2 : Int32) (x3 : Int32)
    (h : (((σ.1 1 0) ≤ x3) → (Q x2 σ)) ∧ ((¬ (σ.1 1 0) ≤ x3) → (((¬ ((x1 >>> (x3 &&& 31)) &&& (1 : Int32)) = (1 : Int32)) → (G Γ mX0_listMembers (NI Γ 0 Q) 4 [(0, rf Γ 7), (1, .int x1), (2, .int x2), (3, .int (x3 + (1 : Int32)))] [] σ)) ∧ ((((x1 >>> (x3 &&& 31)) &&& (1 : Int32)) = (1 : Int32)) → (vp_in x2 5 ∧ (G Γ mX0_listMembers (NI Γ 0 Q) 4 [(0, rf Γ 7), (1, .int x1), (2, .int (x2 + (1 : Int32))), (3, .int (x3 + (1 : Int32)))] [] (sI σ 10 x2.toNatClampNeg x3))))))) :
    G Γ mX0_listMembers (NI Γ 0 Q) 4 [(0, rf Γ 7), (1, .int x1), (2, .int x2), (3, .int x3)] [] σ := by
  refine g_iload_n (pc := 4) dX0_listMembers_4 rfl 3 rfl ?_
  refine g_aload_n (pc := 5) dX0_listMembers_5 rfl 0 rfl ?_
  refine g_getR (pc := 6) 7 0 0 1 fr_7_0 fl_X0_9 dX0_listMembers_6 ?_
  refine g_getI (pc := 9) 1 1 0 fi_1_0 fl_X0_32 dX0_listMembers_9 ?_
  refine g_icmp_ge (pc := 12) 40 dX0_listMembers_12 (by decide) (fun q => ?_) (fun q => ?_)
  · have h := h.1 q
    refine g_iload_n (pc := 40) dX0_listMembers_40 rfl 2 rfl ?_
    exact g_iret (pc := 41) rfl dX0_listMembers_41 h
  · have h := h.2 q
    refine g_iload_n (pc := 15) dX0_listMembers_15 rfl 1 rfl ?_
    refine g_iload_n (pc := 16) dX0_listMembers_16 rfl 3 rfl ?_
    refine g_ishr (pc := 17) dX0_listMembers_17 ?_
    refine g_iconst (pc := 18) (1 : Int32) dX0_listMembers_18 rfl ?_
    refine g_iand (pc := 19) dX0_listMembers_19 ?_
    refine g_iconst (pc := 20) (1 : Int32) dX0_listMembers_20 rfl ?_
    refine g_icmp_ne (pc := 21) 34 dX0_listMembers_21 (by decide) (fun q => ?_) (fun q => ?_)
    · have h := h.1 q
      refine g_iinc (pc := 34) (1 : Int32) [(3, _), (0, _), (1, _), (2, _)] dX0_listMembers_34 3 rfl rfl (Nat.le_of_ble_eq_true rfl) rfl ?_
      refine g_goto (pc := 37) 4 dX0_listMembers_37 (by decide) ?_
      refine g_pm [1, 2, 3, 0] rfl ?_
      exact h
    · have h := h.2 q
      refine g_aload_n (pc := 24) dX0_listMembers_24 rfl 0 rfl ?_
      refine g_getR (pc := 25) 7 0 3 10 fr_7_3 fl_X0_24 dX0_listMembers_25 ?_
      refine g_iload_n (pc := 28) dX0_listMembers_28 rfl 2 rfl ?_
      refine g_iload_n (pc := 29) dX0_listMembers_29 rfl 3 rfl ?_
      refine g_iast (pc := 30) 10 5 ar_10 h.1 dX0_listMembers_30 ?_
      have h := h.2
      refine g_iinc (pc := 31) (1 : Int32) [(2, _), (0, _), (1, _), (3, _)] dX0_listMembers_31 2 rfl rfl (Nat.le_of_ble_eq_true rfl) rfl ?_
      refine g_iinc (pc := 34) (1 : Int32) [(3, _), (2, _), (0, _), (1, _)] dX0_listMembers_34 3 rfl rfl (Nat.le_of_ble_eq_true rfl) rfl ?_
      refine g_goto (pc := 37) 4 dX0_listMembers_37 (by decide) ?_
      refine g_pm [2, 3, 1, 0] rfl ?_
      exact h
set_option maxHeartbeats 4000000 in
set_option maxRecDepth 100000 in
theorem ct_X0_fewestTooMany {Γ : GT} {Q : Int32 → St → Prop} (σ : St) (x1 : Int32)
    (h : G Γ mX0_fewestTooMany (NI Γ 3 Q) 8 [(0, rf Γ 7), (1, .int x1), (2, .int (0 : Int32)), (3, .int (6 : Int32)), (4, .int (1 : Int32))] [] σ) :
    CtI Γ mX0_fewestTooMany 3 [rf Γ 7, .int x1] σ Q := by
  refine ct_of (by decide +kernel) (Nat.le_of_ble_eq_true rfl) ?_
  show G Γ mX0_fewestTooMany (NI Γ 3 Q) 0 [(0, rf Γ 7), (1, .int x1)] [] σ
  refine g_iconst (pc := 0) (0 : Int32) dX0_fewestTooMany_0 rfl ?_
  refine g_istore_n (pc := 1) [(2, _), (0, _), (1, _)] dX0_fewestTooMany_1 rfl (Nat.le_of_ble_eq_true rfl) rfl ?_
  refine g_bipush (pc := 2) (6 : Int32) dX0_fewestTooMany_2 rfl ?_
  refine g_istore_n (pc := 4) [(3, _), (2, _), (0, _), (1, _)] dX0_fewestTooMany_4 rfl (Nat.le_of_ble_eq_true rfl) rfl ?_
  refine g_iconst (pc := 5) (1 : Int32) dX0_fewestTooMany_5 rfl ?_
  refine g_istore (pc := 6) [(4, _), (3, _), (2, _), (0, _), (1, _)] dX0_fewestTooMany_6 (Nat.le_of_ble_eq_true rfl) rfl ?_
  refine g_pm [3, 4, 2, 1, 0] rfl ?_
  exact h
set_option maxHeartbeats 4000000 in
set_option maxRecDepth 100000 in
theorem t_X0_fewestTooMany_8 {Γ : GT} {Q : Int32 → St → Prop} (σ : St) (x1 : Int32) (x2 : Int32) (x3 : Int32) (x4 : Int32)
    (h : ((x1 < x4) → (Q x2 σ)) ∧ ((¬ x1 < x4) → (∃ Q1 : Int32 → St → Prop, CtI Γ mJ6_bitCount_0f7a4 0 [.int x4] σ Q1 ∧ ∀ (r2 : Int32) (τ3 : St), Q1 r2 τ3 → (((¬ (x4 &&& (x1 ^^^ (-1 : Int32))) = 0) → (G Γ mX0_fewestTooMany (NI Γ 3 Q) 8 [(0, rf Γ 7), (1, .int x1), (2, .int x2), (3, .int x3), (4, .int (x4 + (1 : Int32)))] [] τ3)) ∧ (((x4 &&& (x1 ^^^ (-1 : Int32))) = 0) → (((x3 ≤ r2) → (G Γ mX0_fewestTooMany (NI Γ 3 Q) 8 [(0, rf Γ 7), (1, .int x1), (2, .int x2), (3, .int x3), (4, .int (x4 + (1 : Int32)))] [] τ3)) ∧ ((¬ x3 ≤ r2) → (∃ Q4 : Int32 → St → Prop, CtI Γ mX0_holdFor 2 [rf Γ 7, .int x4] τ3 Q4 ∧ ∀ (r5 : Int32) (τ6 : St), Q4 r5 τ6 → (((¬ r5 = 0) → (G Γ mX0_fewestTooMany (NI Γ 3 Q) 8 [(0, rf Γ 7), (1, .int x1), (2, .int x2), (3, .int x3), (4, .int (x4 + (1 : Int32)))] [] τ6)) ∧ ((r5 = 0) → (G Γ mX0_fewestTooMany (NI Γ 3 Q) 8 [(0, rf Γ 7), (1, .int x1), (2, .int x4), (3, .int r2), (4, .int (x4 + (1 : Int32)))] [] τ6))))))))))) :
    G Γ mX0_fewestTooMany (NI Γ 3 Q) 8 [(0, rf Γ 7), (1, .int x1), (2, .int x2), (3, .int x3), (4, .int x4)] [] σ := by
  refine g_iload (pc := 8) dX0_fewestTooMany_8 4 rfl ?_
  refine g_iload_n (pc := 10) dX0_fewestTooMany_10 rfl 1 rfl ?_
  refine g_icmp_gt (pc := 11) 57 dX0_fewestTooMany_11 (by decide) (fun q => ?_) (fun q => ?_)
  · have h := h.1 q
    refine g_iload_n (pc := 57) dX0_fewestTooMany_57 rfl 2 rfl ?_
    exact g_iret (pc := 58) rfl dX0_fewestTooMany_58 h
  · have h := h.2 q
    refine g_iload (pc := 14) dX0_fewestTooMany_14 4 rfl ?_
    obtain ⟨Q1, hc, h⟩ := h
    refine g_callSI (pc := 16) (M' := mJ6_bitCount_0f7a4) (n := 3) (As := [.int x4]) (st := []) dX0_fewestTooMany_16 ml_X0_60 ok_J6_bitCount_0f7a4 rfl (rmOk_M _ _ _) (by decide) (Nat.le_of_ble_eq_true rfl) rfl hc (fun r2 τ3 hq => ?_)
    have h := h r2 τ3 hq
    refine g_istore (pc := 19) [(5, _), (0, _), (1, _), (2, _), (3, _), (4, _)] dX0_fewestTooMany_19 (Nat.le_of_ble_eq_true rfl) rfl ?_
    refine g_iload (pc := 21) dX0_fewestTooMany_21 5 rfl ?_
    refine g_iload_n (pc := 23) dX0_fewestTooMany_23 rfl 2 rfl ?_
    refine g_iconst (pc := 24) (-1 : Int32) dX0_fewestTooMany_24 rfl ?_
    refine g_ixor (pc := 25) dX0_fewestTooMany_25 ?_
    refine g_iand (pc := 26) dX0_fewestTooMany_26 ?_
    refine g_if_ne (pc := 27) 51 dX0_fewestTooMany_27 (by decide) (fun q => ?_) (fun q => ?_)
    · have h := h.1 q
      refine g_iinc (pc := 51) (1 : Int32) [(4, _), (5, _), (0, _), (1, _), (2, _), (3, _)] dX0_fewestTooMany_51 5 rfl rfl (Nat.le_of_ble_eq_true rfl) rfl ?_
      refine g_goto (pc := 54) 8 dX0_fewestTooMany_54 (by decide) ?_
      refine g_pm [2, 3, 4, 5, 0] rfl ?_
      exact h
    · have h := h.2 q
      refine g_iload (pc := 30) dX0_fewestTooMany_30 0 rfl ?_
      refine g_iload_n (pc := 32) dX0_fewestTooMany_32 rfl 4 rfl ?_
      refine g_icmp_ge (pc := 33) 51 dX0_fewestTooMany_33 (by decide) (fun q => ?_) (fun q => ?_)
      · have h := h.1 q
        refine g_iinc (pc := 51) (1 : Int32) [(4, _), (5, _), (0, _), (1, _), (2, _), (3, _)] dX0_fewestTooMany_51 5 rfl rfl (Nat.le_of_ble_eq_true rfl) rfl ?_
        refine g_goto (pc := 54) 8 dX0_fewestTooMany_54 (by decide) ?_
        refine g_pm [2, 3, 4, 5, 0] rfl ?_
        exact h
      · have h := h.2 q
        refine g_aload_n (pc := 36) dX0_fewestTooMany_36 rfl 1 rfl ?_
        refine g_iload (pc := 37) dX0_fewestTooMany_37 5 rfl ?_
        obtain ⟨Q4, hc, h⟩ := h
        refine g_callVI (pc := 39) (M' := mX0_holdFor) (n := 3) (As := [.int x4]) (st := []) dX0_fewestTooMany_39 ml_X0_69 ok_X0_holdFor rfl (rmOk_M _ _ _) (by decide) rc_7 (Nat.le_of_ble_eq_true rfl) rfl hc (fun r5 τ6 hq => ?_)
        have h := h r5 τ6 hq
        refine g_if_ne (pc := 42) 51 dX0_fewestTooMany_42 (by decide) (fun q => ?_) (fun q => ?_)
        · have h := h.1 q
          refine g_iinc (pc := 51) (1 : Int32) [(4, _), (5, _), (0, _), (1, _), (2, _), (3, _)] dX0_fewestTooMany_51 5 rfl rfl (Nat.le_of_ble_eq_true rfl) rfl ?_
          refine g_goto (pc := 54) 8 dX0_fewestTooMany_54 (by decide) ?_
          refine g_pm [2, 3, 4, 5, 0] rfl ?_
          exact h
        · have h := h.2 q
          refine g_iload (pc := 45) dX0_fewestTooMany_45 5 rfl ?_
          refine g_istore_n (pc := 47) [(2, _), (5, _), (0, _), (1, _), (3, _), (4, _)] dX0_fewestTooMany_47 rfl (Nat.le_of_ble_eq_true rfl) rfl ?_
          refine g_iload (pc := 48) dX0_fewestTooMany_48 1 rfl ?_
          refine g_istore_n (pc := 50) [(3, _), (2, _), (5, _), (0, _), (1, _), (4, _)] dX0_fewestTooMany_50 rfl (Nat.le_of_ble_eq_true rfl) rfl ?_
          refine g_iinc (pc := 51) (1 : Int32) [(4, _), (3, _), (2, _), (5, _), (0, _), (1, _)] dX0_fewestTooMany_51 5 rfl rfl (Nat.le_of_ble_eq_true rfl) rfl ?_
          refine g_goto (pc := 54) 8 dX0_fewestTooMany_54 (by decide) ?_
          refine g_pm [4, 5, 2, 1, 0] rfl ?_
          exact h
set_option maxHeartbeats 4000000 in
set_option maxRecDepth 100000 in
theorem ct_X0_fewestToLeave {Γ : GT} {Q : Int32 → St → Prop} (σ : St) (x1 : Int32)
    (h : G Γ mX0_fewestToLeave (NI Γ 3 Q) 4 [(0, rf Γ 7), (1, .int x1), (2, .int x1), (3, .int (0 : Int32))] [] σ) :
    CtI Γ mX0_fewestToLeave 3 [rf Γ 7, .int x1] σ Q := by
  refine ct_of (by decide +kernel) (Nat.le_of_ble_eq_true rfl) ?_
  show G Γ mX0_fewestToLeave (NI Γ 3 Q) 0 [(0, rf Γ 7), (1, .int x1)] [] σ
  refine g_iload_n (pc := 0) dX0_fewestToLeave_0 rfl 1 rfl ?_
  refine g_istore_n (pc := 1) [(2, _), (0, _), (1, _)] dX0_fewestToLeave_1 rfl (Nat.le_of_ble_eq_true rfl) rfl ?_
  refine g_iconst (pc := 2) (0 : Int32) dX0_fewestToLeave_2 rfl ?_
  refine g_istore_n (pc := 3) [(3, _), (2, _), (0, _), (1, _)] dX0_fewestToLeave_3 rfl (Nat.le_of_ble_eq_true rfl) rfl ?_
  refine g_pm [2, 3, 1, 0] rfl ?_
  exact h
set_option maxHeartbeats 4000000 in
set_option maxRecDepth 100000 in
theorem t_X0_fewestToLeave_4 {Γ : GT} {Q : Int32 → St → Prop} (σ : St) (x1 : Int32) (x2 : Int32) (x3 : Int32)
    (h : ((x1 ≤ x3) → (Q x2 σ)) ∧ ((¬ x1 ≤ x3) → (∃ Q1 : Int32 → St → Prop, CtI Γ mJ6_bitCount_0f7a4 0 [.int x3] σ Q1 ∧ ∀ (r2 : Int32) (τ3 : St), Q1 r2 τ3 → (∃ Q4 : Int32 → St → Prop, CtI Γ mJ6_bitCount_0f7a4 0 [.int x2] τ3 Q4 ∧ ∀ (r5 : Int32) (τ6 : St), Q4 r5 τ6 → (((r5 ≤ r2) → (G Γ mX0_fewestToLeave (NI Γ 3 Q) 25 [(0, rf Γ 7), (1, .int x1), (2, .int x2), (3, .int x3)] [.int (0 : Int32)] τ6)) ∧ ((¬ r5 ≤ r2) → (G Γ mX0_fewestToLeave (NI Γ 3 Q) 25 [(0, rf Γ 7), (1, .int x1), (2, .int x2), (3, .int x3)] [.int (1 : Int32)] τ6))))))) :
    G Γ mX0_fewestToLeave (NI Γ 3 Q) 4 [(0, rf Γ 7), (1, .int x1), (2, .int x2), (3, .int x3)] [] σ := by
  refine g_iload_n (pc := 4) dX0_fewestToLeave_4 rfl 3 rfl ?_
  refine g_iload_n (pc := 5) dX0_fewestToLeave_5 rfl 1 rfl ?_
  refine g_icmp_ge (pc := 6) 60 dX0_fewestToLeave_6 (by decide) (fun q => ?_) (fun q => ?_)
  · have h := h.1 q
    refine g_iload_n (pc := 60) dX0_fewestToLeave_60 rfl 2 rfl ?_
    exact g_iret (pc := 61) rfl dX0_fewestToLeave_61 h
  · have h := h.2 q
    refine g_iload_n (pc := 9) dX0_fewestToLeave_9 rfl 3 rfl ?_
    obtain ⟨Q1, hc, h⟩ := h
    refine g_callSI (pc := 10) (M' := mJ6_bitCount_0f7a4) (n := 3) (As := [.int x3]) (st := []) dX0_fewestToLeave_10 ml_X0_60 ok_J6_bitCount_0f7a4 rfl (rmOk_M _ _ _) (by decide) (Nat.le_of_ble_eq_true rfl) rfl hc (fun r2 τ3 hq => ?_)
    have h := h r2 τ3 hq
    refine g_iload_n (pc := 13) dX0_fewestToLeave_13 rfl 2 rfl ?_
    obtain ⟨Q4, hc, h⟩ := h
    refine g_callSI (pc := 14) (M' := mJ6_bitCount_0f7a4) (n := 3) (As := [.int x2]) (st := [.int r2]) dX0_fewestToLeave_14 ml_X0_60 ok_J6_bitCount_0f7a4 rfl (rmOk_M _ _ _) (by decide) (Nat.le_of_ble_eq_true rfl) rfl hc (fun r5 τ6 hq => ?_)
    have h := h r5 τ6 hq
    refine g_icmp_ge (pc := 17) 24 dX0_fewestToLeave_17 (by decide) (fun q => ?_) (fun q => ?_)
    · have h := h.1 q
      refine g_iconst (pc := 24) (0 : Int32) dX0_fewestToLeave_24 rfl ?_
      exact h
    · have h := h.2 q
      refine g_iconst (pc := 20) (1 : Int32) dX0_fewestToLeave_20 rfl ?_
      refine g_goto (pc := 21) 25 dX0_fewestToLeave_21 (by decide) ?_
      exact h
set_option maxHeartbeats 4000000 in
set_option maxRecDepth 100000 in
theorem t_X0_fewestToLeave_25 {Γ : GT} {Q : Int32 → St → Prop} (σ : St) (x1 : Int32) (x2 : Int32) (x3 : Int32) (y0 : Int32)
    (h : ((¬ (x3 &&& (x1 ^^^ (-1 : Int32))) = 0) → (G Γ mX0_fewestToLeave (NI Γ 3 Q) 4 [(0, rf Γ 7), (1, .int x1), (2, .int x2), (3, .int (x3 + (1 : Int32)))] [] σ)) ∧ (((x3 &&& (x1 ^^^ (-1 : Int32))) = 0) → (((y0 = 0) → (G Γ mX0_fewestToLeave (NI Γ 3 Q) 4 [(0, rf Γ 7), (1, .int x1), (2, .int x2), (3, .int (x3 + (1 : Int32)))] [] σ)) ∧ ((¬ y0 = 0) → (∃ Q7 : Int32 → St → Prop, CtI Γ mX0_holdFor 2 [rf Γ 7, .int (x1 &&& (x3 ^^^ (-1 : Int32)))] σ Q7 ∧ ∀ (r8 : Int32) (τ9 : St), Q7 r8 τ9 → (((r8 = 0) → (G Γ mX0_fewestToLeave (NI Γ 3 Q) 4 [(0, rf Γ 7), (1, .int x1), (2, .int x2), (3, .int (x3 + (1 : Int32)))] [] τ9)) ∧ ((¬ r8 = 0) → (G Γ mX0_fewestToLeave (NI Γ 3 Q) 4 [(0, rf Γ 7), (1, .int x1), (2, .int x3), (3, .int (x3 + (1 : Int32)))] [] τ9)))))))) :
    G Γ mX0_fewestToLeave (NI Γ 3 Q) 25 [(0, rf Γ 7), (1, .int x1), (2, .int x2), (3, .int x3)] [.int y0] σ := by
  refine g_istore (pc := 25) [(4, _), (0, _), (1, _), (2, _), (3, _)] dX0_fewestToLeave_25 (Nat.le_of_ble_eq_true rfl) rfl ?_
  refine g_iload_n (pc := 27) dX0_fewestToLeave_27 rfl 4 rfl ?_
  refine g_iload_n (pc := 28) dX0_fewestToLeave_28 rfl 2 rfl ?_
  refine g_iconst (pc := 29) (-1 : Int32) dX0_fewestToLeave_29 rfl ?_
  refine g_ixor (pc := 30) dX0_fewestToLeave_30 ?_
  refine g_iand (pc := 31) dX0_fewestToLeave_31 ?_
  refine g_if_ne (pc := 32) 54 dX0_fewestToLeave_32 (by decide) (fun q => ?_) (fun q => ?_)
  · have h := h.1 q
    refine g_iinc (pc := 54) (1 : Int32) [(3, _), (4, _), (0, _), (1, _), (2, _)] dX0_fewestToLeave_54 4 rfl rfl (Nat.le_of_ble_eq_true rfl) rfl ?_
    refine g_goto (pc := 57) 4 dX0_fewestToLeave_57 (by decide) ?_
    refine g_pm [2, 3, 4, 0] rfl ?_
    exact h
  · have h := h.2 q
    refine g_iload (pc := 35) dX0_fewestToLeave_35 0 rfl ?_
    refine g_if_eq (pc := 37) 54 dX0_fewestToLeave_37 (by decide) (fun q => ?_) (fun q => ?_)
    · have h := h.1 q
      refine g_iinc (pc := 54) (1 : Int32) [(3, _), (4, _), (0, _), (1, _), (2, _)] dX0_fewestToLeave_54 4 rfl rfl (Nat.le_of_ble_eq_true rfl) rfl ?_
      refine g_goto (pc := 57) 4 dX0_fewestToLeave_57 (by decide) ?_
      refine g_pm [2, 3, 4, 0] rfl ?_
      exact h
    · have h := h.2 q
      refine g_aload_n (pc := 40) dX0_fewestToLeave_40 rfl 1 rfl ?_
      refine g_iload_n (pc := 41) dX0_fewestToLeave_41 rfl 2 rfl ?_
      refine g_iload_n (pc := 42) dX0_fewestToLeave_42 rfl 4 rfl ?_
      refine g_iconst (pc := 43) (-1 : Int32) dX0_fewestToLeave_43 rfl ?_
      refine g_ixor (pc := 44) dX0_fewestToLeave_44 ?_
      refine g_iand (pc := 45) dX0_fewestToLeave_45 ?_
      obtain ⟨Q7, hc, h⟩ := h
      refine g_callVI (pc := 46) (M' := mX0_holdFor) (n := 3) (As := [.int (x1 &&& (x3 ^^^ (-1 : Int32)))]) (st := []) dX0_fewestToLeave_46 ml_X0_69 ok_X0_holdFor rfl (rmOk_M _ _ _) (by decide) rc_7 (Nat.le_of_ble_eq_true rfl) rfl hc (fun r8 τ9 hq => ?_)
      have h := h r8 τ9 hq
      refine g_if_eq (pc := 49) 54 dX0_fewestToLeave_49 (by decide) (fun q => ?_) (fun q => ?_)
      · have h := h.1 q
        refine g_iinc (pc := 54) (1 : Int32) [(3, _), (4, _), (0, _), (1, _), (2, _)] dX0_fewestToLeave_54 4 rfl rfl (Nat.le_of_ble_eq_true rfl) rfl ?_
        refine g_goto (pc := 57) 4 dX0_fewestToLeave_57 (by decide) ?_
        refine g_pm [2, 3, 4, 0] rfl ?_
        exact h
      · have h := h.2 q
        refine g_iload_n (pc := 52) dX0_fewestToLeave_52 rfl 4 rfl ?_
        refine g_istore_n (pc := 53) [(2, _), (4, _), (0, _), (1, _), (3, _)] dX0_fewestToLeave_53 rfl (Nat.le_of_ble_eq_true rfl) rfl ?_
        refine g_iinc (pc := 54) (1 : Int32) [(3, _), (2, _), (4, _), (0, _), (1, _)] dX0_fewestToLeave_54 4 rfl rfl (Nat.le_of_ble_eq_true rfl) rfl ?_
        refine g_goto (pc := 57) 4 dX0_fewestToLeave_57 (by decide) ?_
        refine g_pm [3, 4, 1, 0] rfl ?_
        exact h
set_option maxHeartbeats 4000000 in
set_option maxRecDepth 100000 in
theorem ct_X0_comeIn {Γ : GT} {Q : Int32 → St → Prop} (σ : St) (x1 : Int32)
    (h : G Γ mX0_comeIn (NI Γ 3 Q) 4 [(0, rf Γ 7), (1, .int x1), (2, .int (0 : Int32)), (3, .int (0 : Int32))] [] σ) :
    CtI Γ mX0_comeIn 3 [rf Γ 7, .int x1] σ Q := by
  refine ct_of (by decide +kernel) (Nat.le_of_ble_eq_true rfl) ?_
  show G Γ mX0_comeIn (NI Γ 3 Q) 0 [(0, rf Γ 7), (1, .int x1)] [] σ
  refine g_iconst (pc := 0) (0 : Int32) dX0_comeIn_0 rfl ?_
  refine g_istore_n (pc := 1) [(2, _), (0, _), (1, _)] dX0_comeIn_1 rfl (Nat.le_of_ble_eq_true rfl) rfl ?_
  refine g_iconst (pc := 2) (0 : Int32) dX0_comeIn_2 rfl ?_
  refine g_istore_n (pc := 3) [(3, _), (2, _), (0, _), (1, _)] dX0_comeIn_3 rfl (Nat.le_of_ble_eq_true rfl) rfl ?_
  refine g_pm [2, 3, 1, 0] rfl ?_
  exact h
set_option maxHeartbeats 4000000 in
set_option maxRecDepth 100000 in
theorem t_X0_comeIn_4 {Γ : GT} {Q : Int32 → St → Prop} (σ : St) (x1 : Int32) (x2 : Int32) (x3 : Int32)
    (h : (((σ.1 1 0) ≤ x3) → (Q x2 σ)) ∧ ((¬ (σ.1 1 0) ≤ x3) → (((¬ ((x1 >>> (x3 &&& 31)) &&& (1 : Int32)) = (1 : Int32)) → (G Γ mX0_comeIn (NI Γ 3 Q) 4 [(0, rf Γ 7), (1, .int x1), (2, .int x2), (3, .int (x3 + (1 : Int32)))] [] σ)) ∧ ((((x1 >>> (x3 &&& 31)) &&& (1 : Int32)) = (1 : Int32)) → (∃ Q1 : Int32 → St → Prop, CtI Γ mX0_holdFor 2 [rf Γ 7, .int (x2 ||| ((1 : Int32) <<< (x3 &&& 31)))] σ Q1 ∧ ∀ (r2 : Int32) (τ3 : St), Q1 r2 τ3 → (((r2 = 0) → (G Γ mX0_comeIn (NI Γ 3 Q) 4 [(0, rf Γ 7), (1, .int x1), (2, .int x2), (3, .int (x3 + (1 : Int32)))] [] τ3)) ∧ ((¬ r2 = 0) → (G Γ mX0_comeIn (NI Γ 3 Q) 4 [(0, rf Γ 7), (1, .int x1), (2, .int (x2 ||| ((1 : Int32) <<< (x3 &&& 31)))), (3, .int (x3 + (1 : Int32)))] [] τ3)))))))) :
    G Γ mX0_comeIn (NI Γ 3 Q) 4 [(0, rf Γ 7), (1, .int x1), (2, .int x2), (3, .int x3)] [] σ := by
  refine g_iload_n (pc := 4) dX0_comeIn_4 rfl 3 rfl ?_
  refine g_aload_n (pc := 5) dX0_comeIn_5 rfl 0 rfl ?_
  refine g_getR (pc := 6) 7 0 0 1 fr_7_0 fl_X0_9 dX0_comeIn_6 ?_
  refine g_getI (pc := 9) 1 1 0 fi_1_0 fl_X0_32 dX0_comeIn_9 ?_
  refine g_icmp_ge (pc := 12) 49 dX0_comeIn_12 (by decide) (fun q => ?_) (fun q => ?_)
  · have h := h.1 q
    refine g_iload_n (pc := 49) dX0_comeIn_49 rfl 2 rfl ?_
    exact g_iret (pc := 50) rfl dX0_comeIn_50 h
  · have h := h.2 q
    refine g_iload_n (pc := 15) dX0_comeIn_15 rfl 2 rfl ?_
    refine g_iconst (pc := 16) (1 : Int32) dX0_comeIn_16 rfl ?_
    refine g_iload_n (pc := 17) dX0_comeIn_17 rfl 3 rfl ?_
    refine g_ishl (pc := 18) dX0_comeIn_18 ?_
    refine g_ior (pc := 19) dX0_comeIn_19 ?_
    refine g_istore (pc := 20) [(4, _), (0, _), (1, _), (2, _), (3, _)] dX0_comeIn_20 (Nat.le_of_ble_eq_true rfl) rfl ?_
    refine g_iload_n (pc := 22) dX0_comeIn_22 rfl 2 rfl ?_
    refine g_iload_n (pc := 23) dX0_comeIn_23 rfl 4 rfl ?_
    refine g_ishr (pc := 24) dX0_comeIn_24 ?_
    refine g_iconst (pc := 25) (1 : Int32) dX0_comeIn_25 rfl ?_
    refine g_iand (pc := 26) dX0_comeIn_26 ?_
    refine g_iconst (pc := 27) (1 : Int32) dX0_comeIn_27 rfl ?_
    refine g_icmp_ne (pc := 28) 43 dX0_comeIn_28 (by decide) (fun q => ?_) (fun q => ?_)
    · have h := h.1 q
      refine g_iinc (pc := 43) (1 : Int32) [(3, _), (4, _), (0, _), (1, _), (2, _)] dX0_comeIn_43 4 rfl rfl (Nat.le_of_ble_eq_true rfl) rfl ?_
      refine g_goto (pc := 46) 4 dX0_comeIn_46 (by decide) ?_
      refine g_pm [2, 3, 4, 0] rfl ?_
      exact h
    · have h := h.2 q
      refine g_aload_n (pc := 31) dX0_comeIn_31 rfl 1 rfl ?_
      refine g_iload (pc := 32) dX0_comeIn_32 0 rfl ?_
      obtain ⟨Q1, hc, h⟩ := h
      refine g_callVI (pc := 34) (M' := mX0_holdFor) (n := 3) (As := [.int (x2 ||| ((1 : Int32) <<< (x3 &&& 31)))]) (st := []) dX0_comeIn_34 ml_X0_69 ok_X0_holdFor rfl (rmOk_M _ _ _) (by decide) rc_7 (Nat.le_of_ble_eq_true rfl) rfl hc (fun r2 τ3 hq => ?_)
      have h := h r2 τ3 hq
      refine g_if_eq (pc := 37) 43 dX0_comeIn_37 (by decide) (fun q => ?_) (fun q => ?_)
      · have h := h.1 q
        refine g_iinc (pc := 43) (1 : Int32) [(3, _), (4, _), (0, _), (1, _), (2, _)] dX0_comeIn_43 4 rfl rfl (Nat.le_of_ble_eq_true rfl) rfl ?_
        refine g_goto (pc := 46) 4 dX0_comeIn_46 (by decide) ?_
        refine g_pm [2, 3, 4, 0] rfl ?_
        exact h
      · have h := h.2 q
        refine g_iload (pc := 40) dX0_comeIn_40 0 rfl ?_
        refine g_istore_n (pc := 42) [(2, _), (4, _), (0, _), (1, _), (3, _)] dX0_comeIn_42 rfl (Nat.le_of_ble_eq_true rfl) rfl ?_
        refine g_iinc (pc := 43) (1 : Int32) [(3, _), (2, _), (4, _), (0, _), (1, _)] dX0_comeIn_43 4 rfl rfl (Nat.le_of_ble_eq_true rfl) rfl ?_
        refine g_goto (pc := 46) 4 dX0_comeIn_46 (by decide) ?_
        refine g_pm [3, 4, 1, 0] rfl ?_
        exact h
set_option maxHeartbeats 4000000 in
set_option maxRecDepth 100000 in
theorem ct_X0_whoseWishLess {Γ : GT} {Q : Int32 → St → Prop} (σ : St) (x1 : Int32)
    (h : ∃ Q1 : St → Prop, CtV Γ mX0_buildAsTold 2 [rf Γ 7] σ Q1 ∧ ∀ (τ3 : St), Q1 τ3 → (∃ Q4 : Int32 → St → Prop, CtI Γ mX0_holdFor 2 [rf Γ 7, .int x1] τ3 Q4 ∧ ∀ (r5 : Int32) (τ6 : St), Q4 r5 τ6 → (((r5 = 0) → (G Γ mX0_whoseWishLess (NI Γ 3 Q) 16 [(0, rf Γ 7), (1, .int x1), (2, .int (0 : Int32))] [] τ6)) ∧ ((¬ r5 = 0) → (Q (-1 : Int32) τ6))))) :
    CtI Γ mX0_whoseWishLess 3 [rf Γ 7, .int x1] σ Q := by
  refine ct_of (by decide +kernel) (Nat.le_of_ble_eq_true rfl) ?_
  show G Γ mX0_whoseWishLess (NI Γ 3 Q) 0 [(0, rf Γ 7), (1, .int x1)] [] σ
  refine g_aload_n (pc := 0) dX0_whoseWishLess_0 rfl 0 rfl ?_
  obtain ⟨Q1, hc, h⟩ := h
  refine g_callVV (pc := 1) (M' := mX0_buildAsTold) (n := 3) (As := []) (st := []) dX0_whoseWishLess_1 ml_X0_73 ok_X0_buildAsTold rfl (rmOk_M _ _ _) (by decide) rc_7 (Nat.le_of_ble_eq_true rfl) rfl hc (fun τ3 hq => ?_)
  have h := h τ3 hq
  refine g_aload_n (pc := 4) dX0_whoseWishLess_4 rfl 0 rfl ?_
  refine g_iload_n (pc := 5) dX0_whoseWishLess_5 rfl 1 rfl ?_
  obtain ⟨Q4, hc, h⟩ := h
  refine g_callVI (pc := 6) (M' := mX0_holdFor) (n := 3) (As := [.int x1]) (st := []) dX0_whoseWishLess_6 ml_X0_69 ok_X0_holdFor rfl (rmOk_M _ _ _) (by decide) rc_7 (Nat.le_of_ble_eq_true rfl) rfl hc (fun r5 τ6 hq => ?_)
  have h := h r5 τ6 hq
  refine g_if_eq (pc := 9) 14 dX0_whoseWishLess_9 (by decide) (fun q => ?_) (fun q => ?_)
  · have h := h.1 q
    refine g_iconst (pc := 14) (0 : Int32) dX0_whoseWishLess_14 rfl ?_
    refine g_istore_n (pc := 15) [(2, _), (0, _), (1, _)] dX0_whoseWishLess_15 rfl (Nat.le_of_ble_eq_true rfl) rfl ?_
    refine g_pm [1, 2, 0] rfl ?_
    exact h
  · have h := h.2 q
    refine g_iconst (pc := 12) (-1 : Int32) dX0_whoseWishLess_12 rfl ?_
    exact g_iret (pc := 13) rfl dX0_whoseWishLess_13 h
set_option maxHeartbeats 4000000 in
set_option maxRecDepth 100000 in
theorem t_X0_whoseWishLess_16 {Γ : GT} {Q : Int32 → St → Prop} (σ : St) (x1 : Int32) (x2 : Int32)
    (h : (((σ.1 1 0) ≤ x2) → (Q (-1 : Int32) σ)) ∧ ((¬ (σ.1 1 0) ≤ x2) → (∃ Q7 : St → Prop, CtV Γ mX0_build 1 [rf Γ 7, .int (1 : Int32), .int (1 : Int32), .int x2] σ Q7 ∧ ∀ (τ9 : St), Q7 τ9 → (((¬ ((x1 >>> (x2 &&& 31)) &&& (1 : Int32)) = (1 : Int32)) → (G Γ mX0_whoseWishLess (NI Γ 3 Q) 16 [(0, rf Γ 7), (1, .int x1), (2, .int (x2 + (1 : Int32)))] [] τ9)) ∧ ((((x1 >>> (x2 &&& 31)) &&& (1 : Int32)) = (1 : Int32)) → (∃ Q10 : Int32 → St → Prop, CtI Γ mX0_holdFor 2 [rf Γ 7, .int x1] τ9 Q10 ∧ ∀ (r11 : Int32) (τ12 : St), Q10 r11 τ12 → (((r11 = 0) → (G Γ mX0_whoseWishLess (NI Γ 3 Q) 16 [(0, rf Γ 7), (1, .int x1), (2, .int (x2 + (1 : Int32)))] [] τ12)) ∧ ((¬ r11 = 0) → (Q x2 τ12))))))))) :
    G Γ mX0_whoseWishLess (NI Γ 3 Q) 16 [(0, rf Γ 7), (1, .int x1), (2, .int x2)] [] σ := by
  refine g_iload_n (pc := 16) dX0_whoseWishLess_16 rfl 2 rfl ?_
  refine g_aload_n (pc := 17) dX0_whoseWishLess_17 rfl 0 rfl ?_
  refine g_getR (pc := 18) 7 0 0 1 fr_7_0 fl_X0_9 dX0_whoseWishLess_18 ?_
  refine g_getI (pc := 21) 1 1 0 fi_1_0 fl_X0_32 dX0_whoseWishLess_21 ?_
  refine g_icmp_ge (pc := 24) 59 dX0_whoseWishLess_24 (by decide) (fun q => ?_) (fun q => ?_)
  · have h := h.1 q
    refine g_iconst (pc := 59) (-1 : Int32) dX0_whoseWishLess_59 rfl ?_
    exact g_iret (pc := 60) rfl dX0_whoseWishLess_60 h
  · have h := h.2 q
    refine g_aload_n (pc := 27) dX0_whoseWishLess_27 rfl 0 rfl ?_
    refine g_iconst (pc := 28) (1 : Int32) dX0_whoseWishLess_28 rfl ?_
    refine g_iconst (pc := 29) (1 : Int32) dX0_whoseWishLess_29 rfl ?_
    refine g_iload_n (pc := 30) dX0_whoseWishLess_30 rfl 2 rfl ?_
    obtain ⟨Q7, hc, h⟩ := h
    refine g_callVV (pc := 31) (M' := mX0_build) (n := 3) (As := [.int (1 : Int32), .int (1 : Int32), .int x2]) (st := []) dX0_whoseWishLess_31 ml_X0_28 ok_X0_build rfl (rmOk_M _ _ _) (by decide) rc_7 (Nat.le_of_ble_eq_true rfl) rfl hc (fun τ9 hq => ?_)
    have h := h τ9 hq
    refine g_iload_n (pc := 34) dX0_whoseWishLess_34 rfl 1 rfl ?_
    refine g_iload_n (pc := 35) dX0_whoseWishLess_35 rfl 2 rfl ?_
    refine g_ishr (pc := 36) dX0_whoseWishLess_36 ?_
    refine g_iconst (pc := 37) (1 : Int32) dX0_whoseWishLess_37 rfl ?_
    refine g_iand (pc := 38) dX0_whoseWishLess_38 ?_
    refine g_iconst (pc := 39) (1 : Int32) dX0_whoseWishLess_39 rfl ?_
    refine g_icmp_ne (pc := 40) 53 dX0_whoseWishLess_40 (by decide) (fun q => ?_) (fun q => ?_)
    · have h := h.1 q
      refine g_iinc (pc := 53) (1 : Int32) [(2, _), (0, _), (1, _)] dX0_whoseWishLess_53 2 rfl rfl (Nat.le_of_ble_eq_true rfl) rfl ?_
      refine g_goto (pc := 56) 16 dX0_whoseWishLess_56 (by decide) ?_
      refine g_pm [1, 2, 0] rfl ?_
      exact h
    · have h := h.2 q
      refine g_aload_n (pc := 43) dX0_whoseWishLess_43 rfl 0 rfl ?_
      refine g_iload_n (pc := 44) dX0_whoseWishLess_44 rfl 1 rfl ?_
      obtain ⟨Q10, hc, h⟩ := h
      refine g_callVI (pc := 45) (M' := mX0_holdFor) (n := 3) (As := [.int x1]) (st := []) dX0_whoseWishLess_45 ml_X0_69 ok_X0_holdFor rfl (rmOk_M _ _ _) (by decide) rc_7 (Nat.le_of_ble_eq_true rfl) rfl hc (fun r11 τ12 hq => ?_)
      have h := h r11 τ12 hq
      refine g_if_eq (pc := 48) 53 dX0_whoseWishLess_48 (by decide) (fun q => ?_) (fun q => ?_)
      · have h := h.1 q
        refine g_iinc (pc := 53) (1 : Int32) [(2, _), (0, _), (1, _)] dX0_whoseWishLess_53 2 rfl rfl (Nat.le_of_ble_eq_true rfl) rfl ?_
        refine g_goto (pc := 56) 16 dX0_whoseWishLess_56 (by decide) ?_
        refine g_pm [1, 2, 0] rfl ?_
        exact h
      · have h := h.2 q
        refine g_iload_n (pc := 51) dX0_whoseWishLess_51 rfl 2 rfl ?_
        exact g_iret (pc := 52) rfl dX0_whoseWishLess_52 h
set_option maxHeartbeats 4000000 in
set_option maxRecDepth 100000 in
theorem ct_X0_greatestQuarters {Γ : GT} {Q : Int32 → St → Prop} (σ : St) (x1 : Int32)
    (h : G Γ mX0_greatestQuarters (NI Γ 3 Q) 3 [(0, rf Γ 7), (1, .int x1), (2, .int (8 : Int32))] [] σ) :
    CtI Γ mX0_greatestQuarters 3 [rf Γ 7, .int x1] σ Q := by
  refine ct_of (by decide +kernel) (Nat.le_of_ble_eq_true rfl) ?_
  show G Γ mX0_greatestQuarters (NI Γ 3 Q) 0 [(0, rf Γ 7), (1, .int x1)] [] σ
  refine g_bipush (pc := 0) (8 : Int32) dX0_greatestQuarters_0 rfl ?_
  refine g_istore_n (pc := 2) [(2, _), (0, _), (1, _)] dX0_greatestQuarters_2 rfl (Nat.le_of_ble_eq_true rfl) rfl ?_
  refine g_pm [1, 2, 0] rfl ?_
  exact h
set_option maxHeartbeats 4000000 in
set_option maxRecDepth 100000 in
theorem t_X0_greatestQuarters_3 {Γ : GT} {Q : Int32 → St → Prop} (σ : St) (x1 : Int32) (x2 : Int32)
    (h : ((x2 ≤ 0) → (Q (0 : Int32) σ)) ∧ ((¬ x2 ≤ 0) → (∃ Q1 : St → Prop, CtV Γ mX0_build 1 [rf Γ 7, .int (4 : Int32), .int x2, .int (-1 : Int32)] σ Q1 ∧ ∀ (τ3 : St), Q1 τ3 → (∃ Q4 : Int32 → St → Prop, CtI Γ mX0_holdFor 2 [rf Γ 7, .int x1] τ3 Q4 ∧ ∀ (r5 : Int32) (τ6 : St), Q4 r5 τ6 → (((r5 = 0) → (G Γ mX0_greatestQuarters (NI Γ 3 Q) 3 [(0, rf Γ 7), (1, .int x1), (2, .int (x2 + (-1 : Int32)))] [] τ6)) ∧ ((¬ r5 = 0) → (Q x2 τ6))))))) :
    G Γ mX0_greatestQuarters (NI Γ 3 Q) 3 [(0, rf Γ 7), (1, .int x1), (2, .int x2)] [] σ := by
  refine g_iload_n (pc := 3) dX0_greatestQuarters_3 rfl 2 rfl ?_
  refine g_if_le (pc := 4) 30 dX0_greatestQuarters_4 (by decide) (fun q => ?_) (fun q => ?_)
  · have h := h.1 q
    refine g_iconst (pc := 30) (0 : Int32) dX0_greatestQuarters_30 rfl ?_
    exact g_iret (pc := 31) rfl dX0_greatestQuarters_31 h
  · have h := h.2 q
    refine g_aload_n (pc := 7) dX0_greatestQuarters_7 rfl 0 rfl ?_
    refine g_iconst (pc := 8) (4 : Int32) dX0_greatestQuarters_8 rfl ?_
    refine g_iload_n (pc := 9) dX0_greatestQuarters_9 rfl 2 rfl ?_
    refine g_iconst (pc := 10) (-1 : Int32) dX0_greatestQuarters_10 rfl ?_
    obtain ⟨Q1, hc, h⟩ := h
    refine g_callVV (pc := 11) (M' := mX0_build) (n := 3) (As := [.int (4 : Int32), .int x2, .int (-1 : Int32)]) (st := []) dX0_greatestQuarters_11 ml_X0_28 ok_X0_build rfl (rmOk_M _ _ _) (by decide) rc_7 (Nat.le_of_ble_eq_true rfl) rfl hc (fun τ3 hq => ?_)
    have h := h τ3 hq
    refine g_aload_n (pc := 14) dX0_greatestQuarters_14 rfl 0 rfl ?_
    refine g_iload_n (pc := 15) dX0_greatestQuarters_15 rfl 1 rfl ?_
    obtain ⟨Q4, hc, h⟩ := h
    refine g_callVI (pc := 16) (M' := mX0_holdFor) (n := 3) (As := [.int x1]) (st := []) dX0_greatestQuarters_16 ml_X0_69 ok_X0_holdFor rfl (rmOk_M _ _ _) (by decide) rc_7 (Nat.le_of_ble_eq_true rfl) rfl hc (fun r5 τ6 hq => ?_)
    have h := h r5 τ6 hq
    refine g_if_eq (pc := 19) 24 dX0_greatestQuarters_19 (by decide) (fun q => ?_) (fun q => ?_)
    · have h := h.1 q
      refine g_iinc (pc := 24) (-1 : Int32) [(2, _), (0, _), (1, _)] dX0_greatestQuarters_24 2 rfl rfl (Nat.le_of_ble_eq_true rfl) rfl ?_
      refine g_goto (pc := 27) 3 dX0_greatestQuarters_27 (by decide) ?_
      refine g_pm [1, 2, 0] rfl ?_
      exact h
    · have h := h.2 q
      refine g_iload_n (pc := 22) dX0_greatestQuarters_22 rfl 2 rfl ?_
      exact g_iret (pc := 23) rfl dX0_greatestQuarters_23 h
set_option maxHeartbeats 4000000 in
set_option maxRecDepth 100000 in
theorem ct_X1_mayBeGain {Γ : GT} {Q : Int32 → St → Prop} (σ : St) (x0 : Int32) (x1 : Int32) (x2 : Int32)
    (h : ((¬ x0 = x1) → (((x2 < 0) → (Q (0 : Int32) σ)) ∧ ((¬ x2 < 0) → ((((9 : Int32) < x2) → (Q (0 : Int32) σ)) ∧ ((¬ (9 : Int32) < x2) → (Q (1 : Int32) σ)))))) ∧ ((x0 = x1) → (((x2 < (1 : Int32)) → (Q (0 : Int32) σ)) ∧ ((¬ x2 < (1 : Int32)) → ((((30 : Int32) < x2) → (Q (0 : Int32) σ)) ∧ ((¬ (30 : Int32) < x2) → (Q (1 : Int32) σ))))))) :
    CtI Γ mX1_mayBeGain 0 [.int x0, .int x1, .int x2] σ Q := by
  refine ct_of (by decide +kernel) (Nat.le_of_ble_eq_true rfl) ?_
  show G Γ mX1_mayBeGain (NI Γ 0 Q) 0 [(0, .int x0), (1, .int x1), (2, .int x2)] [] σ
  refine g_iload_n (pc := 0) dX1_mayBeGain_0 rfl 0 rfl ?_
  refine g_iload_n (pc := 1) dX1_mayBeGain_1 rfl 1 rfl ?_
  refine g_icmp_ne (pc := 2) 24 dX1_mayBeGain_2 (by decide) (fun q => ?_) (fun q => ?_)
  · have h := h.1 q
    refine g_iload_n (pc := 24) dX1_mayBeGain_24 rfl 2 rfl ?_
    refine g_if_lt (pc := 25) 38 dX1_mayBeGain_25 (by decide) (fun q => ?_) (fun q => ?_)
    · have h := h.1 q
      refine g_iconst (pc := 38) (0 : Int32) dX1_mayBeGain_38 rfl ?_
      exact g_zret (pc := 39) rfl dX1_mayBeGain_39 (Or.inl rfl) h
    · have h := h.2 q
      refine g_iload_n (pc := 28) dX1_mayBeGain_28 rfl 2 rfl ?_
      refine g_bipush (pc := 29) (9 : Int32) dX1_mayBeGain_29 rfl ?_
      refine g_icmp_gt (pc := 31) 38 dX1_mayBeGain_31 (by decide) (fun q => ?_) (fun q => ?_)
      · have h := h.1 q
        refine g_iconst (pc := 38) (0 : Int32) dX1_mayBeGain_38 rfl ?_
        exact g_zret (pc := 39) rfl dX1_mayBeGain_39 (Or.inl rfl) h
      · have h := h.2 q
        refine g_iconst (pc := 34) (1 : Int32) dX1_mayBeGain_34 rfl ?_
        refine g_goto (pc := 35) 39 dX1_mayBeGain_35 (by decide) ?_
        exact g_zret (pc := 39) rfl dX1_mayBeGain_39 (Or.inr rfl) h
  · have h := h.2 q
    refine g_iload_n (pc := 5) dX1_mayBeGain_5 rfl 2 rfl ?_
    refine g_iconst (pc := 6) (1 : Int32) dX1_mayBeGain_6 rfl ?_
    refine g_icmp_lt (pc := 7) 20 dX1_mayBeGain_7 (by decide) (fun q => ?_) (fun q => ?_)
    · have h := h.1 q
      refine g_iconst (pc := 20) (0 : Int32) dX1_mayBeGain_20 rfl ?_
      refine g_goto (pc := 21) 39 dX1_mayBeGain_21 (by decide) ?_
      exact g_zret (pc := 39) rfl dX1_mayBeGain_39 (Or.inl rfl) h
    · have h := h.2 q
      refine g_iload_n (pc := 10) dX1_mayBeGain_10 rfl 2 rfl ?_
      refine g_bipush (pc := 11) (30 : Int32) dX1_mayBeGain_11 rfl ?_
      refine g_icmp_gt (pc := 13) 20 dX1_mayBeGain_13 (by decide) (fun q => ?_) (fun q => ?_)
      · have h := h.1 q
        refine g_iconst (pc := 20) (0 : Int32) dX1_mayBeGain_20 rfl ?_
        refine g_goto (pc := 21) 39 dX1_mayBeGain_21 (by decide) ?_
        exact g_zret (pc := 39) rfl dX1_mayBeGain_39 (Or.inl rfl) h
      · have h := h.2 q
        refine g_iconst (pc := 16) (1 : Int32) dX1_mayBeGain_16 rfl ?_
        refine g_goto (pc := 17) 39 dX1_mayBeGain_17 (by decide) ?_
        exact g_zret (pc := 39) rfl dX1_mayBeGain_39 (Or.inr rfl) h
set_option maxHeartbeats 4000000 in
set_option maxRecDepth 100000 in
theorem ct_X1_isThere {Γ : GT} {Q : Int32 → St → Prop} (σ : St) (x1 : Int32)
    (h : ((x1 < 0) → (Q (0 : Int32) σ)) ∧ ((¬ x1 < 0) → ((((σ.1 1 0) ≤ x1) → (Q (0 : Int32) σ)) ∧ ((¬ (σ.1 1 0) ≤ x1) → (Q (1 : Int32) σ))))) :
    CtI Γ mX1_isThere 0 [rf Γ 1, .int x1] σ Q := by
  refine ct_of (by decide +kernel) (Nat.le_of_ble_eq_true rfl) ?_
  show G Γ mX1_isThere (NI Γ 0 Q) 0 [(0, rf Γ 1), (1, .int x1)] [] σ
  refine g_iload_n (pc := 0) dX1_isThere_0 rfl 1 rfl ?_
  refine g_if_lt (pc := 1) 16 dX1_isThere_1 (by decide) (fun q => ?_) (fun q => ?_)
  · have h := h.1 q
    refine g_iconst (pc := 16) (0 : Int32) dX1_isThere_16 rfl ?_
    exact g_zret (pc := 17) rfl dX1_isThere_17 (Or.inl rfl) h
  · have h := h.2 q
    refine g_iload_n (pc := 4) dX1_isThere_4 rfl 1 rfl ?_
    refine g_aload_n (pc := 5) dX1_isThere_5 rfl 0 rfl ?_
    refine g_getI (pc := 6) 1 1 0 fi_1_0 fl_X1_7 dX1_isThere_6 ?_
    refine g_icmp_ge (pc := 9) 16 dX1_isThere_9 (by decide) (fun q => ?_) (fun q => ?_)
    · have h := h.1 q
      refine g_iconst (pc := 16) (0 : Int32) dX1_isThere_16 rfl ?_
      exact g_zret (pc := 17) rfl dX1_isThere_17 (Or.inl rfl) h
    · have h := h.2 q
      refine g_iconst (pc := 12) (1 : Int32) dX1_isThere_12 rfl ?_
      refine g_goto (pc := 13) 17 dX1_isThere_13 (by decide) ?_
      exact g_zret (pc := 17) rfl dX1_isThere_17 (Or.inr rfl) h
set_option maxHeartbeats 4000000 in
set_option maxRecDepth 100000 in
theorem ct_X1_allBits {Γ : GT} {Q : Int32 → St → Prop} (σ : St) 
    (h : Q (((1 : Int32) <<< ((σ.1 1 0) &&& 31)) - (1 : Int32)) σ) :
    CtI Γ mX1_allBits 0 [rf Γ 1] σ Q := by
  refine ct_of (by decide +kernel) (Nat.le_of_ble_eq_true rfl) ?_
  show G Γ mX1_allBits (NI Γ 0 Q) 0 [(0, rf Γ 1)] [] σ
  refine g_iconst (pc := 0) (1 : Int32) dX1_allBits_0 rfl ?_
  refine g_aload_n (pc := 1) dX1_allBits_1 rfl 0 rfl ?_
  refine g_getI (pc := 2) 1 1 0 fi_1_0 fl_X1_7 dX1_allBits_2 ?_
  refine g_ishl (pc := 5) dX1_allBits_5 ?_
  refine g_iconst (pc := 6) (1 : Int32) dX1_allBits_6 rfl ?_
  refine g_isub (pc := 7) dX1_allBits_7 ?_
  exact g_iret (pc := 8) rfl dX1_allBits_8 h
set_option maxHeartbeats 4000000 in
set_option maxRecDepth 100000 in
theorem ct_X1_onSet {Γ : GT} {Q : Int32 → St → Prop} (σ : St) 
    (h : ∃ Q1 : Int32 → St → Prop, CtI Γ mX1_allBits 0 [rf Γ 1] σ Q1 ∧ ∀ (r2 : Int32) (τ3 : St), Q1 r2 τ3 → (Q ((σ.1 1 1) &&& r2) τ3)) :
    CtI Γ mX1_onSet 1 [rf Γ 1] σ Q := by
  refine ct_of (by decide +kernel) (Nat.le_of_ble_eq_true rfl) ?_
  show G Γ mX1_onSet (NI Γ 1 Q) 0 [(0, rf Γ 1)] [] σ
  refine g_aload_n (pc := 0) dX1_onSet_0 rfl 0 rfl ?_
  refine g_getI (pc := 1) 1 1 1 fi_1_1 fl_X1_13 dX1_onSet_1 ?_
  refine g_aload_n (pc := 4) dX1_onSet_4 rfl 0 rfl ?_
  obtain ⟨Q1, hc, h⟩ := h
  refine g_callVI (pc := 5) (M' := mX1_allBits) (n := 1) (As := []) (st := [.int (σ.1 1 1)]) dX1_onSet_5 ml_X1_32 ok_X1_allBits rfl (rmOk_M _ _ _) (by decide) rc_1 (Nat.le_of_ble_eq_true rfl) rfl hc (fun r2 τ3 hq => ?_)
  have h := h r2 τ3 hq
  refine g_iand (pc := 8) dX1_onSet_8 ?_
  exact g_iret (pc := 9) rfl dX1_onSet_9 h
set_option maxHeartbeats 4000000 in
set_option maxRecDepth 100000 in
theorem ct_X1_isOn {Γ : GT} {Q : Int32 → St → Prop} (σ : St) (x1 : Int32)
    (h : ((¬ (((σ.1 1 1) >>> (x1 &&& 31)) &&& (1 : Int32)) = (1 : Int32)) → (Q (0 : Int32) σ)) ∧ (((((σ.1 1 1) >>> (x1 &&& 31)) &&& (1 : Int32)) = (1 : Int32)) → (Q (1 : Int32) σ))) :
    CtI Γ mX1_isOn 0 [rf Γ 1, .int x1] σ Q := by
  refine ct_of (by decide +kernel) (Nat.le_of_ble_eq_true rfl) ?_
  show G Γ mX1_isOn (NI Γ 0 Q) 0 [(0, rf Γ 1), (1, .int x1)] [] σ
  refine g_aload_n (pc := 0) dX1_isOn_0 rfl 0 rfl ?_
  refine g_getI (pc := 1) 1 1 1 fi_1_1 fl_X1_13 dX1_isOn_1 ?_
  refine g_iload_n (pc := 4) dX1_isOn_4 rfl 1 rfl ?_
  refine g_ishr (pc := 5) dX1_isOn_5 ?_
  refine g_iconst (pc := 6) (1 : Int32) dX1_isOn_6 rfl ?_
  refine g_iand (pc := 7) dX1_isOn_7 ?_
  refine g_iconst (pc := 8) (1 : Int32) dX1_isOn_8 rfl ?_
  refine g_icmp_ne (pc := 9) 16 dX1_isOn_9 (by decide) (fun q => ?_) (fun q => ?_)
  · have h := h.1 q
    refine g_iconst (pc := 16) (0 : Int32) dX1_isOn_16 rfl ?_
    exact g_zret (pc := 17) rfl dX1_isOn_17 (Or.inl rfl) h
  · have h := h.2 q
    refine g_iconst (pc := 12) (1 : Int32) dX1_isOn_12 rfl ?_
    refine g_goto (pc := 13) 17 dX1_isOn_13 (by decide) ?_
    exact g_zret (pc := 17) rfl dX1_isOn_17 (Or.inr rfl) h
set_option maxHeartbeats 4000000 in
set_option maxRecDepth 100000 in
theorem ct_X1_gainOf {Γ : GT} {Q : Int32 → St → Prop} (σ : St) (x1 : Int32) (x2 : Int32)
    (h : vp_in ((x1 * (5 : Int32)) + x2) 25 ∧ (Q (σ.1 2 ((x1 * (5 : Int32)) + x2).toNatClampNeg) σ)) :
    CtI Γ mX1_gainOf 0 [rf Γ 1, .int x1, .int x2] σ Q := by
  refine ct_of (by decide +kernel) (Nat.le_of_ble_eq_true rfl) ?_
  show G Γ mX1_gainOf (NI Γ 0 Q) 0 [(0, rf Γ 1), (1, .int x1), (2, .int x2)] [] σ
  refine g_aload_n (pc := 0) dX1_gainOf_0 rfl 0 rfl ?_
  refine g_getR (pc := 1) 1 1 2 2 fr_1_2 fl_X1_16 dX1_gainOf_1 ?_
  refine g_iload_n (pc := 4) dX1_gainOf_4 rfl 1 rfl ?_
  refine g_iconst (pc := 5) (5 : Int32) dX1_gainOf_5 rfl ?_
  refine g_imul (pc := 6) dX1_gainOf_6 ?_
  refine g_iload_n (pc := 7) dX1_gainOf_7 rfl 2 rfl ?_
  refine g_iadd (pc := 8) dX1_gainOf_8 ?_
  refine g_iald (pc := 9) 2 25 ar_2 h.1 dX1_gainOf_9 ?_
  have h := h.2
  exact g_iret (pc := 10) rfl dX1_gainOf_10 h
set_option maxHeartbeats 4000000 in
set_option maxRecDepth 100000 in
theorem ct_X1_tellGain {Γ : GT} {Q : St → Prop} (σ : St) (x1 : Int32) (x2 : Int32) (x3 : Int32)
    (h : vp_in ((x1 * (5 : Int32)) + x2) 25 ∧ (Q (sI σ 2 ((x1 * (5 : Int32)) + x2).toNatClampNeg x3))) :
    CtV Γ mX1_tellGain 0 [rf Γ 1, .int x1, .int x2, .int x3] σ Q := by
  refine ct_of (by decide +kernel) (Nat.le_of_ble_eq_true rfl) ?_
  show G Γ mX1_tellGain (NV Γ 0 Q) 0 [(0, rf Γ 1), (1, .int x1), (2, .int x2), (3, .int x3)] [] σ
  refine g_aload_n (pc := 0) dX1_tellGain_0 rfl 0 rfl ?_
  refine g_getR (pc := 1) 1 1 2 2 fr_1_2 fl_X1_16 dX1_tellGain_1 ?_
  refine g_iload_n (pc := 4) dX1_tellGain_4 rfl 1 rfl ?_
  refine g_iconst (pc := 5) (5 : Int32) dX1_tellGain_5 rfl ?_
  refine g_imul (pc := 6) dX1_tellGain_6 ?_
  refine g_iload_n (pc := 7) dX1_tellGain_7 rfl 2 rfl ?_
  refine g_iadd (pc := 8) dX1_tellGain_8 ?_
  refine g_iload_n (pc := 9) dX1_tellGain_9 rfl 3 rfl ?_
  refine g_iast (pc := 10) 2 25 ar_2 h.1 dX1_tellGain_10 ?_
  have h := h.2
  exact g_vret (pc := 11) rfl dX1_tellGain_11 h
set_option maxHeartbeats 4000000 in
set_option maxRecDepth 100000 in
theorem ct_X1_othersAndNoise {Γ : GT} {Q : Int32 → St → Prop} (σ : St) (x1 : Int32) (a2 : Nat) (ha2 : aI a2 5)
    (h : vp_in x1 5 ∧ (G Γ mX1_othersAndNoise (NI Γ 0 Q) 10 [(0, rf Γ 1), (1, .int x1), (2, rf Γ a2), (3, .int (σ.1 4 x1.toNatClampNeg)), (4, .int (0 : Int32))] [] σ)) :
    CtI Γ mX1_othersAndNoise 0 [rf Γ 1, .int x1, rf Γ a2] σ Q := by
  refine ct_of (by decide +kernel) (Nat.le_of_ble_eq_true rfl) ?_
  show G Γ mX1_othersAndNoise (NI Γ 0 Q) 0 [(0, rf Γ 1), (1, .int x1), (2, rf Γ a2)] [] σ
  refine g_aload_n (pc := 0) dX1_othersAndNoise_0 rfl 0 rfl ?_
  refine g_getR (pc := 1) 1 1 4 4 fr_1_4 fl_X1_23 dX1_othersAndNoise_1 ?_
  refine g_iload_n (pc := 4) dX1_othersAndNoise_4 rfl 1 rfl ?_
  refine g_iald (pc := 5) 4 5 ar_4 h.1 dX1_othersAndNoise_5 ?_
  have h := h.2
  refine g_istore_n (pc := 6) [(3, _), (0, _), (1, _), (2, _)] dX1_othersAndNoise_6 rfl (Nat.le_of_ble_eq_true rfl) rfl ?_
  refine g_iconst (pc := 7) (0 : Int32) dX1_othersAndNoise_7 rfl ?_
  refine g_istore (pc := 8) [(4, _), (3, _), (0, _), (1, _), (2, _)] dX1_othersAndNoise_8 (Nat.le_of_ble_eq_true rfl) rfl ?_
  refine g_pm [2, 3, 4, 1, 0] rfl ?_
  exact h
set_option maxHeartbeats 4000000 in
set_option maxRecDepth 100000 in
theorem t_X1_othersAndNoise_10 {Γ : GT} {Q : Int32 → St → Prop} (σ : St) (x1 : Int32) (a2 : Nat) (x3 : Int32) (x4 : Int32) (ha2 : aI a2 5)
    (h : (((σ.1 1 0) ≤ x4) → (Q x3 σ)) ∧ ((¬ (σ.1 1 0) ≤ x4) → (((x4 = x1) → (G Γ mX1_othersAndNoise (NI Γ 0 Q) 10 [(0, rf Γ 1), (1, .int x1), (2, rf Γ a2), (3, .int x3), (4, .int (x4 + (1 : Int32)))] [] σ)) ∧ ((¬ x4 = x1) → (((¬ (((σ.1 1 1) >>> (x4 &&& 31)) &&& (1 : Int32)) = (1 : Int32)) → (G Γ mX1_othersAndNoise (NI Γ 0 Q) 10 [(0, rf Γ 1), (1, .int x1), (2, rf Γ a2), (3, .int x3), (4, .int (x4 + (1 : Int32)))] [] σ)) ∧ (((((σ.1 1 1) >>> (x4 &&& 31)) &&& (1 : Int32)) = (1 : Int32)) → (vp_in ((x1 * (5 : Int32)) + x4) 25 ∧ (vp_in x4 5 ∧ (∀ v1 : Int32, v1 = (x3 + ((σ.1 2 ((x1 * (5 : Int32)) + x4).toNatClampNeg) * (σ.1 a2 x4.toNatClampNeg))) → G Γ mX1_othersAndNoise (NI Γ 0 Q) 10 [(0, rf Γ 1), (1, .int x1), (2, rf Γ a2), (3, .int v1), (4, .int (x4 + (1 : Int32)))] [] σ))))))))) :
    G Γ mX1_othersAndNoise (NI Γ 0 Q) 10 [(0, rf Γ 1), (1, .int x1), (2, rf Γ a2), (3, .int x3), (4, .int x4)] [] σ := by
  refine g_iload (pc := 10) dX1_othersAndNoise_10 4 rfl ?_
  refine g_aload_n (pc := 12) dX1_othersAndNoise_12 rfl 0 rfl ?_
  refine g_getI (pc := 13) 1 1 0 fi_1_0 fl_X1_7 dX1_othersAndNoise_13 ?_
  refine g_icmp_ge (pc := 16) 63 dX1_othersAndNoise_16 (by decide) (fun q => ?_) (fun q => ?_)
  · have h := h.1 q
    refine g_iload_n (pc := 63) dX1_othersAndNoise_63 rfl 3 rfl ?_
    exact g_iret (pc := 64) rfl dX1_othersAndNoise_64 h
  · have h := h.2 q
    refine g_iload (pc := 19) dX1_othersAndNoise_19 4 rfl ?_
    refine g_iload_n (pc := 21) dX1_othersAndNoise_21 rfl 1 rfl ?_
    refine g_icmp_eq (pc := 22) 57 dX1_othersAndNoise_22 (by decide) (fun q => ?_) (fun q => ?_)
    · have h := h.1 q
      refine g_iinc (pc := 57) (1 : Int32) [(4, _), (0, _), (1, _), (2, _), (3, _)] dX1_othersAndNoise_57 4 rfl rfl (Nat.le_of_ble_eq_true rfl) rfl ?_
      refine g_goto (pc := 60) 10 dX1_othersAndNoise_60 (by decide) ?_
      refine g_pm [1, 2, 3, 4, 0] rfl ?_
      exact h
    · have h := h.2 q
      refine g_aload_n (pc := 25) dX1_othersAndNoise_25 rfl 0 rfl ?_
      refine g_getI (pc := 26) 1 1 1 fi_1_1 fl_X1_13 dX1_othersAndNoise_26 ?_
      refine g_iload (pc := 29) dX1_othersAndNoise_29 4 rfl ?_
      refine g_ishr (pc := 31) dX1_othersAndNoise_31 ?_
      refine g_iconst (pc := 32) (1 : Int32) dX1_othersAndNoise_32 rfl ?_
      refine g_iand (pc := 33) dX1_othersAndNoise_33 ?_
      refine g_iconst (pc := 34) (1 : Int32) dX1_othersAndNoise_34 rfl ?_
      refine g_icmp_ne (pc := 35) 57 dX1_othersAndNoise_35 (by decide) (fun q => ?_) (fun q => ?_)
      · have h := h.1 q
        refine g_iinc (pc := 57) (1 : Int32) [(4, _), (0, _), (1, _), (2, _), (3, _)] dX1_othersAndNoise_57 4 rfl rfl (Nat.le_of_ble_eq_true rfl) rfl ?_
        refine g_goto (pc := 60) 10 dX1_othersAndNoise_60 (by decide) ?_
        refine g_pm [1, 2, 3, 4, 0] rfl ?_
        exact h
      · have h := h.2 q
        refine g_iload_n (pc := 38) dX1_othersAndNoise_38 rfl 3 rfl ?_
        refine g_aload_n (pc := 39) dX1_othersAndNoise_39 rfl 0 rfl ?_
        refine g_getR (pc := 40) 1 1 2 2 fr_1_2 fl_X1_16 dX1_othersAndNoise_40 ?_
        refine g_iload_n (pc := 43) dX1_othersAndNoise_43 rfl 1 rfl ?_
        refine g_iconst (pc := 44) (5 : Int32) dX1_othersAndNoise_44 rfl ?_
        refine g_imul (pc := 45) dX1_othersAndNoise_45 ?_
        refine g_iload (pc := 46) dX1_othersAndNoise_46 4 rfl ?_
        refine g_iadd (pc := 48) dX1_othersAndNoise_48 ?_
        refine g_iald (pc := 49) 2 25 ar_2 h.1 dX1_othersAndNoise_49 ?_
        have h := h.2
        refine g_aload_n (pc := 50) dX1_othersAndNoise_50 rfl 2 rfl ?_
        refine g_iload (pc := 51) dX1_othersAndNoise_51 4 rfl ?_
        refine g_iald (pc := 53) a2 5 ha2 h.1 dX1_othersAndNoise_53 ?_
        have h := h.2
        refine g_imul (pc := 54) dX1_othersAndNoise_54 ?_
        refine g_iadd (pc := 55) dX1_othersAndNoise_55 ?_
        refine g_topI (fun v1 ev1 => ?_)
        refine g_istore_n (pc := 56) [(3, _), (0, _), (1, _), (2, _), (4, _)] dX1_othersAndNoise_56 rfl (Nat.le_of_ble_eq_true rfl) rfl ?_
        have h := h v1 ev1
        refine g_iinc (pc := 57) (1 : Int32) [(4, _), (3, _), (0, _), (1, _), (2, _)] dX1_othersAndNoise_57 4 rfl rfl (Nat.le_of_ble_eq_true rfl) rfl ?_
        refine g_goto (pc := 60) 10 dX1_othersAndNoise_60 (by decide) ?_
        refine g_pm [2, 3, 4, 1, 0] rfl ?_
        exact h
set_option maxHeartbeats 4000000 in
set_option maxRecDepth 100000 in
theorem ct_X1_needOf {Γ : GT} {Q : Int32 → St → Prop} (σ : St) (x1 : Int32) (a2 : Nat) (ha2 : aI a2 5)
    (h : ∃ Q1 : Int32 → St → Prop, CtI Γ mX1_gainOf 0 [rf Γ 1, .int x1, .int x1] σ Q1 ∧ ∀ (r2 : Int32) (τ3 : St), Q1 r2 τ3 → (((0 < ((10 : Int32) * r2)) → (vp_in x1 5 ∧ (∃ Q4 : Int32 → St → Prop, CtI Γ mX1_othersAndNoise 0 [rf Γ 1, .int x1, rf Γ a2] τ3 Q4 ∧ ∀ (r5 : Int32) (τ6 : St), Q4 r5 τ6 → ((¬ ((10 : Int32) * r2) = 0) ∧ (Q (((((τ3.1 3 x1.toNatClampNeg) * r5) + ((10 : Int32) * r2)) - (1 : Int32)) / ((10 : Int32) * r2)) τ6))))) ∧ ((¬ 0 < ((10 : Int32) * r2)) → (Q (0 : Int32) τ3)))) :
    CtI Γ mX1_needOf 1 [rf Γ 1, .int x1, rf Γ a2] σ Q := by
  refine ct_of (by decide +kernel) (Nat.le_of_ble_eq_true rfl) ?_
  show G Γ mX1_needOf (NI Γ 1 Q) 0 [(0, rf Γ 1), (1, .int x1), (2, rf Γ a2)] [] σ
  refine g_bipush (pc := 0) (10 : Int32) dX1_needOf_0 rfl ?_
  refine g_aload_n (pc := 2) dX1_needOf_2 rfl 0 rfl ?_
  refine g_iload_n (pc := 3) dX1_needOf_3 rfl 1 rfl ?_
  refine g_iload_n (pc := 4) dX1_needOf_4 rfl 1 rfl ?_
  obtain ⟨Q1, hc, h⟩ := h
  refine g_callVI (pc := 5) (M' := mX1_gainOf) (n := 1) (As := [.int x1, .int x1]) (st := [.int (10 : Int32)]) dX1_needOf_5 ml_X1_36 ok_X1_gainOf rfl (rmOk_M _ _ _) (by decide) rc_1 (Nat.le_of_ble_eq_true rfl) rfl hc (fun r2 τ3 hq => ?_)
  have h := h r2 τ3 hq
  refine g_imul (pc := 8) dX1_needOf_8 ?_
  refine g_istore_n (pc := 9) [(3, _), (0, _), (1, _), (2, _)] dX1_needOf_9 rfl (Nat.le_of_ble_eq_true rfl) rfl ?_
  refine g_iload_n (pc := 10) dX1_needOf_10 rfl 0 rfl ?_
  refine g_if_gt (pc := 11) 18 dX1_needOf_11 (by decide) (fun q => ?_) (fun q => ?_)
  · have h := h.1 q
    refine g_aload_n (pc := 18) dX1_needOf_18 rfl 1 rfl ?_
    refine g_getR (pc := 19) 1 1 3 3 fr_1_3 fl_X1_20 dX1_needOf_19 ?_
    refine g_iload_n (pc := 22) dX1_needOf_22 rfl 2 rfl ?_
    refine g_iald (pc := 23) 3 5 ar_3 h.1 dX1_needOf_23 ?_
    have h := h.2
    refine g_aload_n (pc := 24) dX1_needOf_24 rfl 1 rfl ?_
    refine g_iload_n (pc := 25) dX1_needOf_25 rfl 2 rfl ?_
    refine g_aload_n (pc := 26) dX1_needOf_26 rfl 3 rfl ?_
    obtain ⟨Q4, hc, h⟩ := h
    refine g_callVI (pc := 27) (M' := mX1_othersAndNoise) (n := 1) (As := [.int x1, rf Γ a2]) (st := [.int (τ3.1 3 x1.toNatClampNeg)]) dX1_needOf_27 ml_X1_40 ok_X1_othersAndNoise rfl (rmOk_M _ _ _) (by decide) rc_1 (Nat.le_of_ble_eq_true rfl) rfl hc (fun r5 τ6 hq => ?_)
    have h := h r5 τ6 hq
    refine g_imul (pc := 30) dX1_needOf_30 ?_
    refine g_iload_n (pc := 31) dX1_needOf_31 rfl 0 rfl ?_
    refine g_iadd (pc := 32) dX1_needOf_32 ?_
    refine g_iconst (pc := 33) (1 : Int32) dX1_needOf_33 rfl ?_
    refine g_isub (pc := 34) dX1_needOf_34 ?_
    refine g_iload_n (pc := 35) dX1_needOf_35 rfl 0 rfl ?_
    refine g_idiv (pc := 36) dX1_needOf_36 h.1 ?_
    have h := h.2
    exact g_iret (pc := 37) rfl dX1_needOf_37 h
  · have h := h.2 q
    refine g_iconst (pc := 14) (0 : Int32) dX1_needOf_14 rfl ?_
    refine g_goto (pc := 15) 37 dX1_needOf_15 (by decide) ?_
    exact g_iret (pc := 37) rfl dX1_needOf_37 h
set_option maxHeartbeats 4000000 in
set_option maxRecDepth 100000 in
theorem ct_X1_isContent {Γ : GT} {Q : Int32 → St → Prop} (σ : St) (x1 : Int32)
    (h : ∃ Q1 : Int32 → St → Prop, CtI Γ mX1_isOn 0 [rf Γ 1, .int x1] σ Q1 ∧ ∀ (r2 : Int32) (τ3 : St), Q1 r2 τ3 → (((r2 = 0) → (Q (0 : Int32) τ3)) ∧ ((¬ r2 = 0) → (∃ Q4 : Int32 → St → Prop, CtI Γ mX1_gainOf 0 [rf Γ 1, .int x1, .int x1] τ3 Q4 ∧ ∀ (r5 : Int32) (τ6 : St), Q4 r5 τ6 → (vp_in x1 5 ∧ (vp_in x1 5 ∧ (∃ Q7 : Int32 → St → Prop, CtI Γ mX1_othersAndNoise 0 [rf Γ 1, .int x1, rf Γ 6] τ6 Q7 ∧ ∀ (r8 : Int32) (τ9 : St), Q7 r8 τ9 → ((((((10 : Int32) * r5) * (τ6.1 6 x1.toNatClampNeg)) < ((τ6.1 3 x1.toNatClampNeg) * r8)) → (Q (0 : Int32) τ9)) ∧ ((¬ (((10 : Int32) * r5) * (τ6.1 6 x1.toNatClampNeg)) < ((τ6.1 3 x1.toNatClampNeg) * r8)) → (Q (1 : Int32) τ9)))))))))) :
    CtI Γ mX1_isContent 1 [rf Γ 1, .int x1] σ Q := by
  refine ct_of (by decide +kernel) (Nat.le_of_ble_eq_true rfl) ?_
  show G Γ mX1_isContent (NI Γ 1 Q) 0 [(0, rf Γ 1), (1, .int x1)] [] σ
  refine g_aload_n (pc := 0) dX1_isContent_0 rfl 0 rfl ?_
  refine g_iload_n (pc := 1) dX1_isContent_1 rfl 1 rfl ?_
  obtain ⟨Q1, hc, h⟩ := h
  refine g_callVI (pc := 2) (M' := mX1_isOn) (n := 1) (As := [.int x1]) (st := []) dX1_isContent_2 ml_X1_44 ok_X1_isOn rfl (rmOk_M _ _ _) (by decide) rc_1 (Nat.le_of_ble_eq_true rfl) rfl hc (fun r2 τ3 hq => ?_)
  have h := h r2 τ3 hq
  refine g_if_eq (pc := 5) 47 dX1_isContent_5 (by decide) (fun q => ?_) (fun q => ?_)
  · have h := h.1 q
    refine g_iconst (pc := 47) (0 : Int32) dX1_isContent_47 rfl ?_
    exact g_zret (pc := 48) rfl dX1_isContent_48 (Or.inl rfl) h
  · have h := h.2 q
    refine g_bipush (pc := 8) (10 : Int32) dX1_isContent_8 rfl ?_
    refine g_aload_n (pc := 10) dX1_isContent_10 rfl 0 rfl ?_
    refine g_iload_n (pc := 11) dX1_isContent_11 rfl 1 rfl ?_
    refine g_iload_n (pc := 12) dX1_isContent_12 rfl 1 rfl ?_
    obtain ⟨Q4, hc, h⟩ := h
    refine g_callVI (pc := 13) (M' := mX1_gainOf) (n := 1) (As := [.int x1, .int x1]) (st := [.int (10 : Int32)]) dX1_isContent_13 ml_X1_36 ok_X1_gainOf rfl (rmOk_M _ _ _) (by decide) rc_1 (Nat.le_of_ble_eq_true rfl) rfl hc (fun r5 τ6 hq => ?_)
    have h := h r5 τ6 hq
    refine g_imul (pc := 16) dX1_isContent_16 ?_
    refine g_aload_n (pc := 17) dX1_isContent_17 rfl 0 rfl ?_
    refine g_getR (pc := 18) 1 1 6 6 fr_1_6 fl_X1_29 dX1_isContent_18 ?_
    refine g_iload_n (pc := 21) dX1_isContent_21 rfl 1 rfl ?_
    refine g_iald (pc := 22) 6 5 ar_6 h.1 dX1_isContent_22 ?_
    have h := h.2
    refine g_imul (pc := 23) dX1_isContent_23 ?_
    refine g_aload_n (pc := 24) dX1_isContent_24 rfl 0 rfl ?_
    refine g_getR (pc := 25) 1 1 3 3 fr_1_3 fl_X1_20 dX1_isContent_25 ?_
    refine g_iload_n (pc := 28) dX1_isContent_28 rfl 1 rfl ?_
    refine g_iald (pc := 29) 3 5 ar_3 h.1 dX1_isContent_29 ?_
    have h := h.2
    refine g_aload_n (pc := 30) dX1_isContent_30 rfl 0 rfl ?_
    refine g_iload_n (pc := 31) dX1_isContent_31 rfl 1 rfl ?_
    refine g_aload_n (pc := 32) dX1_isContent_32 rfl 0 rfl ?_
    refine g_getR (pc := 33) 1 1 6 6 fr_1_6 fl_X1_29 dX1_isContent_33 ?_
    obtain ⟨Q7, hc, h⟩ := h
    refine g_callVI (pc := 36) (M' := mX1_othersAndNoise) (n := 1) (As := [.int x1, rf Γ 6]) (st := [.int (τ6.1 3 x1.toNatClampNeg), .int (((10 : Int32) * r5) * (τ6.1 6 x1.toNatClampNeg))]) dX1_isContent_36 ml_X1_40 ok_X1_othersAndNoise rfl (rmOk_M _ _ _) (by decide) rc_1 (Nat.le_of_ble_eq_true rfl) rfl hc (fun r8 τ9 hq => ?_)
    have h := h r8 τ9 hq
    refine g_imul (pc := 39) dX1_isContent_39 ?_
    refine g_icmp_lt (pc := 40) 47 dX1_isContent_40 (by decide) (fun q => ?_) (fun q => ?_)
    · have h := h.1 q
      refine g_iconst (pc := 47) (0 : Int32) dX1_isContent_47 rfl ?_
      exact g_zret (pc := 48) rfl dX1_isContent_48 (Or.inl rfl) h
    · have h := h.2 q
      refine g_iconst (pc := 43) (1 : Int32) dX1_isContent_43 rfl ?_
      refine g_goto (pc := 44) 48 dX1_isContent_44 (by decide) ?_
      exact g_zret (pc := 48) rfl dX1_isContent_48 (Or.inr rfl) h
set_option maxHeartbeats 4000000 in
set_option maxRecDepth 100000 in
theorem ct_X1_contentSet {Γ : GT} {Q : Int32 → St → Prop} (σ : St) 
    (h : G Γ mX1_contentSet (NI Γ 2 Q) 4 [(0, rf Γ 1), (1, .int (0 : Int32)), (2, .int (0 : Int32))] [] σ) :
    CtI Γ mX1_contentSet 2 [rf Γ 1] σ Q := by
  refine ct_of (by decide +kernel) (Nat.le_of_ble_eq_true rfl) ?_
  show G Γ mX1_contentSet (NI Γ 2 Q) 0 [(0, rf Γ 1)] [] σ
  refine g_iconst (pc := 0) (0 : Int32) dX1_contentSet_0 rfl ?_
  refine g_istore_n (pc := 1) [(1, _), (0, _)] dX1_contentSet_1 rfl (Nat.le_of_ble_eq_true rfl) rfl ?_
  refine g_iconst (pc := 2) (0 : Int32) dX1_contentSet_2 rfl ?_
  refine g_istore_n (pc := 3) [(2, _), (1, _), (0, _)] dX1_contentSet_3 rfl (Nat.le_of_ble_eq_true rfl) rfl ?_
  refine g_pm [2, 1, 0] rfl ?_
  exact h
set_option maxHeartbeats 4000000 in
set_option maxRecDepth 100000 in
theorem t_X1_contentSet_4 {Γ : GT} {Q : Int32 → St → Prop} (σ : St) (x1 : Int32) (x2 : Int32)
    (h : (((σ.1 1 0) ≤ x2) → (Q x1 σ)) ∧ ((¬ (σ.1 1 0) ≤ x2) → (∃ Q1 : Int32 → St → Prop, CtI Γ mX1_isContent 1 [rf Γ 1, .int x2] σ Q1 ∧ ∀ (r2 : Int32) (τ3 : St), Q1 r2 τ3 → (((r2 = 0) → (G Γ mX1_contentSet (NI Γ 2 Q) 4 [(0, rf Γ 1), (1, .int x1), (2, .int (x2 + (1 : Int32)))] [] τ3)) ∧ ((¬ r2 = 0) → (G Γ mX1_contentSet (NI Γ 2 Q) 4 [(0, rf Γ 1), (1, .int (x1 ||| ((1 : Int32) <<< (x2 &&& 31)))), (2, .int (x2 + (1 : Int32)))] [] τ3)))))) :
    G Γ mX1_contentSet (NI Γ 2 Q) 4 [(0, rf Γ 1), (1, .int x1), (2, .int x2)] [] σ := by
  refine g_iload_n (pc := 4) dX1_contentSet_4 rfl 2 rfl ?_
  refine g_aload_n (pc := 5) dX1_contentSet_5 rfl 0 rfl ?_
  refine g_getI (pc := 6) 1 1 0 fi_1_0 fl_X1_7 dX1_contentSet_6 ?_
  refine g_icmp_ge (pc := 9) 32 dX1_contentSet_9 (by decide) (fun q => ?_) (fun q => ?_)
  · have h := h.1 q
    refine g_iload_n (pc := 32) dX1_contentSet_32 rfl 1 rfl ?_
    exact g_iret (pc := 33) rfl dX1_contentSet_33 h
  · have h := h.2 q
    refine g_aload_n (pc := 12) dX1_contentSet_12 rfl 0 rfl ?_
    refine g_iload_n (pc := 13) dX1_contentSet_13 rfl 2 rfl ?_
    obtain ⟨Q1, hc, h⟩ := h
    refine g_callVI (pc := 14) (M' := mX1_isContent) (n := 2) (As := [.int x2]) (st := []) dX1_contentSet_14 ml_X1_48 ok_X1_isContent rfl (rmOk_M _ _ _) (by decide) rc_1 (Nat.le_of_ble_eq_true rfl) rfl hc (fun r2 τ3 hq => ?_)
    have h := h r2 τ3 hq
    refine g_if_eq (pc := 17) 26 dX1_contentSet_17 (by decide) (fun q => ?_) (fun q => ?_)
    · have h := h.1 q
      refine g_iinc (pc := 26) (1 : Int32) [(2, _), (0, _), (1, _)] dX1_contentSet_26 2 rfl rfl (Nat.le_of_ble_eq_true rfl) rfl ?_
      refine g_goto (pc := 29) 4 dX1_contentSet_29 (by decide) ?_
      refine g_pm [1, 2, 0] rfl ?_
      exact h
    · have h := h.2 q
      refine g_iload_n (pc := 20) dX1_contentSet_20 rfl 1 rfl ?_
      refine g_iconst (pc := 21) (1 : Int32) dX1_contentSet_21 rfl ?_
      refine g_iload_n (pc := 22) dX1_contentSet_22 rfl 2 rfl ?_
      refine g_ishl (pc := 23) dX1_contentSet_23 ?_
      refine g_ior (pc := 24) dX1_contentSet_24 ?_
      refine g_istore_n (pc := 25) [(1, _), (0, _), (2, _)] dX1_contentSet_25 rfl (Nat.le_of_ble_eq_true rfl) rfl ?_
      refine g_iinc (pc := 26) (1 : Int32) [(2, _), (1, _), (0, _)] dX1_contentSet_26 2 rfl rfl (Nat.le_of_ble_eq_true rfl) rfl ?_
      refine g_goto (pc := 29) 4 dX1_contentSet_29 (by decide) ?_
      refine g_pm [2, 1, 0] rfl ?_
      exact h
set_option maxHeartbeats 4000000 in
set_option maxRecDepth 100000 in
theorem ct_X1_sumOfPowers {Γ : GT} {Q : Int32 → St → Prop} (σ : St) 
    (h : G Γ mX1_sumOfPowers (NI Γ 1 Q) 4 [(0, rf Γ 1), (1, .int (0 : Int32)), (2, .int (0 : Int32))] [] σ) :
    CtI Γ mX1_sumOfPowers 1 [rf Γ 1] σ Q := by
  refine ct_of (by decide +kernel) (Nat.le_of_ble_eq_true rfl) ?_
  show G Γ mX1_sumOfPowers (NI Γ 1 Q) 0 [(0, rf Γ 1)] [] σ
  refine g_iconst (pc := 0) (0 : Int32) dX1_sumOfPowers_0 rfl ?_
  refine g_istore_n (pc := 1) [(1, _), (0, _)] dX1_sumOfPowers_1 rfl (Nat.le_of_ble_eq_true rfl) rfl ?_
  refine g_iconst (pc := 2) (0 : Int32) dX1_sumOfPowers_2 rfl ?_
  refine g_istore_n (pc := 3) [(2, _), (1, _), (0, _)] dX1_sumOfPowers_3 rfl (Nat.le_of_ble_eq_true rfl) rfl ?_
  refine g_pm [2, 1, 0] rfl ?_
  exact h
set_option maxHeartbeats 4000000 in
set_option maxRecDepth 100000 in
theorem t_X1_sumOfPowers_4 {Γ : GT} {Q : Int32 → St → Prop} (σ : St) (x1 : Int32) (x2 : Int32)
    (h : (((σ.1 1 0) ≤ x2) → (Q x1 σ)) ∧ ((¬ (σ.1 1 0) ≤ x2) → (∃ Q1 : Int32 → St → Prop, CtI Γ mX1_isOn 0 [rf Γ 1, .int x2] σ Q1 ∧ ∀ (r2 : Int32) (τ3 : St), Q1 r2 τ3 → (((r2 = 0) → (G Γ mX1_sumOfPowers (NI Γ 1 Q) 4 [(0, rf Γ 1), (1, .int x1), (2, .int (x2 + (1 : Int32)))] [] τ3)) ∧ ((¬ r2 = 0) → (vp_in x2 5 ∧ (G Γ mX1_sumOfPowers (NI Γ 1 Q) 4 [(0, rf Γ 1), (1, .int (x1 + (τ3.1 6 x2.toNatClampNeg))), (2, .int (x2 + (1 : Int32)))] [] τ3))))))) :
    G Γ mX1_sumOfPowers (NI Γ 1 Q) 4 [(0, rf Γ 1), (1, .int x1), (2, .int x2)] [] σ := by
  refine g_iload_n (pc := 4) dX1_sumOfPowers_4 rfl 2 rfl ?_
  refine g_aload_n (pc := 5) dX1_sumOfPowers_5 rfl 0 rfl ?_
  refine g_getI (pc := 6) 1 1 0 fi_1_0 fl_X1_7 dX1_sumOfPowers_6 ?_
  refine g_icmp_ge (pc := 9) 35 dX1_sumOfPowers_9 (by decide) (fun q => ?_) (fun q => ?_)
  · have h := h.1 q
    refine g_iload_n (pc := 35) dX1_sumOfPowers_35 rfl 1 rfl ?_
    exact g_iret (pc := 36) rfl dX1_sumOfPowers_36 h
  · have h := h.2 q
    refine g_aload_n (pc := 12) dX1_sumOfPowers_12 rfl 0 rfl ?_
    refine g_iload_n (pc := 13) dX1_sumOfPowers_13 rfl 2 rfl ?_
    obtain ⟨Q1, hc, h⟩ := h
    refine g_callVI (pc := 14) (M' := mX1_isOn) (n := 1) (As := [.int x2]) (st := []) dX1_sumOfPowers_14 ml_X1_44 ok_X1_isOn rfl (rmOk_M _ _ _) (by decide) rc_1 (Nat.le_of_ble_eq_true rfl) rfl hc (fun r2 τ3 hq => ?_)
    have h := h r2 τ3 hq
    refine g_if_eq (pc := 17) 29 dX1_sumOfPowers_17 (by decide) (fun q => ?_) (fun q => ?_)
    · have h := h.1 q
      refine g_iinc (pc := 29) (1 : Int32) [(2, _), (0, _), (1, _)] dX1_sumOfPowers_29 2 rfl rfl (Nat.le_of_ble_eq_true rfl) rfl ?_
      refine g_goto (pc := 32) 4 dX1_sumOfPowers_32 (by decide) ?_
      refine g_pm [1, 2, 0] rfl ?_
      exact h
    · have h := h.2 q
      refine g_iload_n (pc := 20) dX1_sumOfPowers_20 rfl 1 rfl ?_
      refine g_aload_n (pc := 21) dX1_sumOfPowers_21 rfl 0 rfl ?_
      refine g_getR (pc := 22) 1 1 6 6 fr_1_6 fl_X1_29 dX1_sumOfPowers_22 ?_
      refine g_iload_n (pc := 25) dX1_sumOfPowers_25 rfl 2 rfl ?_
      refine g_iald (pc := 26) 6 5 ar_6 h.1 dX1_sumOfPowers_26 ?_
      have h := h.2
      refine g_iadd (pc := 27) dX1_sumOfPowers_27 ?_
      refine g_istore_n (pc := 28) [(1, _), (0, _), (2, _)] dX1_sumOfPowers_28 rfl (Nat.le_of_ble_eq_true rfl) rfl ?_
      refine g_iinc (pc := 29) (1 : Int32) [(2, _), (1, _), (0, _)] dX1_sumOfPowers_29 2 rfl rfl (Nat.le_of_ble_eq_true rfl) rfl ?_
      refine g_goto (pc := 32) 4 dX1_sumOfPowers_32 (by decide) ?_
      refine g_pm [2, 1, 0] rfl ?_
      exact h
set_option maxHeartbeats 4000000 in
set_option maxRecDepth 100000 in
theorem ct_X2_isLost {Γ : GT} {Q : Int32 → St → Prop} (σ : St) (a0 : Nat) (ha0 : isSh a0)
    (h : ((¬ (σ.1 a0 1) = (-1 : Int32)) → (Q (0 : Int32) σ)) ∧ (((σ.1 a0 1) = (-1 : Int32)) → (Q (1 : Int32) σ))) :
    CtI Γ mX2_isLost 0 [rf Γ a0] σ Q := by
  refine ct_of (by decide +kernel) (Nat.le_of_ble_eq_true rfl) ?_
  show G Γ mX2_isLost (NI Γ 0 Q) 0 [(0, rf Γ a0)] [] σ
  refine g_aload_n (pc := 0) dX2_isLost_0 rfl 0 rfl ?_
  refine g_getI (pc := 1) a0 2 1 (fi_sh1 ha0) fl_X2_13 dX2_isLost_1 ?_
  refine g_iconst (pc := 4) (-1 : Int32) dX2_isLost_4 rfl ?_
  refine g_icmp_ne (pc := 5) 12 dX2_isLost_5 (by decide) (fun q => ?_) (fun q => ?_)
  · have h := h.1 q
    refine g_iconst (pc := 12) (0 : Int32) dX2_isLost_12 rfl ?_
    exact g_zret (pc := 13) rfl dX2_isLost_13 (Or.inl rfl) h
  · have h := h.2 q
    refine g_iconst (pc := 8) (1 : Int32) dX2_isLost_8 rfl ?_
    refine g_goto (pc := 9) 13 dX2_isLost_9 (by decide) ?_
    exact g_zret (pc := 13) rfl dX2_isLost_13 (Or.inr rfl) h
set_option maxHeartbeats 4000000 in
set_option maxRecDepth 100000 in
theorem ct_X2_renew {Γ : GT} {Q : St → Prop} (σ : St) (a0 : Nat) (x1 : Int32) (x2 : Int32) (ha0 : isSh a0)
    (h : G Γ mX2_renew (NV Γ 0 Q) 12 [(0, rf Γ a0), (3, .int (0 : Int32))] [] (sI (sI σ a0 0 x1) a0 1 x2)) :
    CtV Γ mX2_renew 0 [rf Γ a0, .int x1, .int x2] σ Q := by
  refine ct_of (by decide +kernel) (Nat.le_of_ble_eq_true rfl) ?_
  show G Γ mX2_renew (NV Γ 0 Q) 0 [(0, rf Γ a0), (1, .int x1), (2, .int x2)] [] σ
  refine g_aload_n (pc := 0) dX2_renew_0 rfl 0 rfl ?_
  refine g_iload_n (pc := 1) dX2_renew_1 rfl 1 rfl ?_
  refine g_put (pc := 2) a0 2 0 (fpp_sh0 ha0) fp_X2_7 dX2_renew_2 ?_
  refine g_aload_n (pc := 5) dX2_renew_5 rfl 0 rfl ?_
  refine g_iload_n (pc := 6) dX2_renew_6 rfl 2 rfl ?_
  refine g_put (pc := 7) a0 2 1 (fpp_sh1 ha0) fp_X2_13 dX2_renew_7 ?_
  refine g_iconst (pc := 10) (0 : Int32) dX2_renew_10 rfl ?_
  refine g_istore_n (pc := 11) [(3, _), (0, _), (1, _), (2, _)] dX2_renew_11 rfl (Nat.le_of_ble_eq_true rfl) rfl ?_
  refine g_pm [1, 0] rfl ?_
  exact h
set_option maxHeartbeats 4000000 in
set_option maxRecDepth 100000 in
theorem t_X2_renew_12 {Γ : GT} {Q : St → Prop} (σ : St) (a0 : Nat) (x3 : Int32) (ha0 : isSh a0)
    (h : (((60 : Int32) ≤ x3) → (Q σ)) ∧ ((¬ (60 : Int32) ≤ x3) → (vp_in x3 60 ∧ (G Γ mX2_renew (NV Γ 0 Q) 12 [(0, rf Γ a0), (3, .int (x3 + (1 : Int32)))] [] (sI σ (a0 + 4) x3.toNatClampNeg (0 : Int32)))))) :
    G Γ mX2_renew (NV Γ 0 Q) 12 [(0, rf Γ a0), (3, .int x3)] [] σ := by
  refine g_iload_n (pc := 12) dX2_renew_12 rfl 1 rfl ?_
  refine g_bipush (pc := 13) (60 : Int32) dX2_renew_13 rfl ?_
  refine g_icmp_ge (pc := 15) 31 dX2_renew_15 (by decide) (fun q => ?_) (fun q => ?_)
  · have h := h.1 q
    exact g_vret (pc := 31) rfl dX2_renew_31 h
  · have h := h.2 q
    refine g_aload_n (pc := 18) dX2_renew_18 rfl 0 rfl ?_
    refine g_getR (pc := 19) a0 2 2 (a0 + 4) (fr_sh ha0) fl_X2_16 dX2_renew_19 ?_
    refine g_iload_n (pc := 22) dX2_renew_22 rfl 1 rfl ?_
    refine g_iconst (pc := 23) (0 : Int32) dX2_renew_23 rfl ?_
    refine g_iast (pc := 24) (a0 + 4) 60 (ai_sh ha0) h.1 dX2_renew_24 ?_
    have h := h.2
    refine g_iinc (pc := 25) (1 : Int32) [(3, _), (0, _)] dX2_renew_25 1 rfl rfl (Nat.le_of_ble_eq_true rfl) rfl ?_
    refine g_goto (pc := 28) 12 dX2_renew_28 (by decide) ?_
    refine g_pm [1, 0] rfl ?_
    exact h
set_option maxHeartbeats 4000000 in
set_option maxRecDepth 100000 in
theorem ct_X2_hasRange {Γ : GT} {Q : Int32 → St → Prop} (σ : St) (a0 : Nat) (x1 : Int32) (x2 : Int32) (ha0 : isSh a0)
    (h : ((x1 < 0) → (Q (0 : Int32) σ)) ∧ ((¬ x1 < 0) → (((x2 < 0) → (Q (0 : Int32) σ)) ∧ ((¬ x2 < 0) → ((((σ.1 a0 1) < x2) → (Q (0 : Int32) σ)) ∧ ((¬ (σ.1 a0 1) < x2) → (((((σ.1 a0 1) - x2) < x1) → (Q (0 : Int32) σ)) ∧ ((¬ ((σ.1 a0 1) - x2) < x1) → (Q (1 : Int32) σ))))))))) :
    CtI Γ mX2_hasRange 0 [rf Γ a0, .int x1, .int x2] σ Q := by
  refine ct_of (by decide +kernel) (Nat.le_of_ble_eq_true rfl) ?_
  show G Γ mX2_hasRange (NI Γ 0 Q) 0 [(0, rf Γ a0), (1, .int x1), (2, .int x2)] [] σ
  refine g_iload_n (pc := 0) dX2_hasRange_0 rfl 1 rfl ?_
  refine g_if_lt (pc := 1) 30 dX2_hasRange_1 (by decide) (fun q => ?_) (fun q => ?_)
  · have h := h.1 q
    refine g_iconst (pc := 30) (0 : Int32) dX2_hasRange_30 rfl ?_
    exact g_zret (pc := 31) rfl dX2_hasRange_31 (Or.inl rfl) h
  · have h := h.2 q
    refine g_iload_n (pc := 4) dX2_hasRange_4 rfl 2 rfl ?_
    refine g_if_lt (pc := 5) 30 dX2_hasRange_5 (by decide) (fun q => ?_) (fun q => ?_)
    · have h := h.1 q
      refine g_iconst (pc := 30) (0 : Int32) dX2_hasRange_30 rfl ?_
      exact g_zret (pc := 31) rfl dX2_hasRange_31 (Or.inl rfl) h
    · have h := h.2 q
      refine g_iload_n (pc := 8) dX2_hasRange_8 rfl 2 rfl ?_
      refine g_aload_n (pc := 9) dX2_hasRange_9 rfl 0 rfl ?_
      refine g_getI (pc := 10) a0 2 1 (fi_sh1 ha0) fl_X2_13 dX2_hasRange_10 ?_
      refine g_icmp_gt (pc := 13) 30 dX2_hasRange_13 (by decide) (fun q => ?_) (fun q => ?_)
      · have h := h.1 q
        refine g_iconst (pc := 30) (0 : Int32) dX2_hasRange_30 rfl ?_
        exact g_zret (pc := 31) rfl dX2_hasRange_31 (Or.inl rfl) h
      · have h := h.2 q
        refine g_iload_n (pc := 16) dX2_hasRange_16 rfl 1 rfl ?_
        refine g_aload_n (pc := 17) dX2_hasRange_17 rfl 0 rfl ?_
        refine g_getI (pc := 18) a0 2 1 (fi_sh1 ha0) fl_X2_13 dX2_hasRange_18 ?_
        refine g_iload_n (pc := 21) dX2_hasRange_21 rfl 2 rfl ?_
        refine g_isub (pc := 22) dX2_hasRange_22 ?_
        refine g_icmp_gt (pc := 23) 30 dX2_hasRange_23 (by decide) (fun q => ?_) (fun q => ?_)
        · have h := h.1 q
          refine g_iconst (pc := 30) (0 : Int32) dX2_hasRange_30 rfl ?_
          exact g_zret (pc := 31) rfl dX2_hasRange_31 (Or.inl rfl) h
        · have h := h.2 q
          refine g_iconst (pc := 26) (1 : Int32) dX2_hasRange_26 rfl ?_
          refine g_goto (pc := 27) 31 dX2_hasRange_27 (by decide) ?_
          exact g_zret (pc := 31) rfl dX2_hasRange_31 (Or.inr rfl) h
set_option maxHeartbeats 4000000 in
set_option maxRecDepth 100000 in
theorem ct_X2_store {Γ : GT} {Q : St → Prop} (σ : St) (a0 : Nat) (x1 : Int32) (x2 : Int32) (ha0 : isSh a0)
    (h : ((σ.1 a0 0) = 0 → (vp_in x1 60 ∧ (Q (sI σ (a0 + 4) x1.toNatClampNeg x2.toInt8.toInt32)))) ∧ ((σ.1 a0 0) = 1 → (vp_in x1 60 ∧ (Q (sI σ (a0 + 4) x1.toNatClampNeg x2.toInt16.toInt32)))) ∧ (¬ (σ.1 a0 0) = 0 → ¬ (σ.1 a0 0) = 1 → (vp_in x1 60 ∧ (Q (sI σ (a0 + 4) x1.toNatClampNeg x2))))) :
    CtV Γ mX2_store 0 [rf Γ a0, .int x1, .int x2] σ Q := by
  refine ct_of (by decide +kernel) (Nat.le_of_ble_eq_true rfl) ?_
  show G Γ mX2_store (NV Γ 0 Q) 0 [(0, rf Γ a0), (1, .int x1), (2, .int x2)] [] σ
  refine g_aload_n (pc := 0) dX2_store_0 rfl 0 rfl ?_
  refine g_getI (pc := 1) a0 2 0 (fi_sh0 ha0) fl_X2_7 dX2_store_1 ?_
  by_cases q0 : (σ.1 a0 0) = 0
  · have h := h.1 q0
    refine g_lsw (pc := 4) (off := 28) 32 dX2_store_4 (by decide) (by rw [q0]; rfl) (by decide) ?_
    refine g_aload_n (pc := 32) dX2_store_32 rfl 0 rfl ?_
    refine g_getR (pc := 33) a0 2 2 (a0 + 4) (fr_sh ha0) fl_X2_16 dX2_store_33 ?_
    refine g_iload_n (pc := 36) dX2_store_36 rfl 1 rfl ?_
    refine g_iload_n (pc := 37) dX2_store_37 rfl 2 rfl ?_
    refine g_i2b (pc := 38) dX2_store_38 ?_
    refine g_iast (pc := 39) (a0 + 4) 60 (ai_sh ha0) h.1 dX2_store_39 ?_
    have h := h.2
    refine g_goto (pc := 40) 61 dX2_store_40 (by decide) ?_
    exact g_vret (pc := 61) rfl dX2_store_61 h
  by_cases q1 : (σ.1 a0 0) = 1
  · have h := h.2.1 q1
    refine g_lsw (pc := 4) (off := 39) 43 dX2_store_4 (by decide) (by rw [q1]; rfl) (by decide) ?_
    refine g_aload_n (pc := 43) dX2_store_43 rfl 0 rfl ?_
    refine g_getR (pc := 44) a0 2 2 (a0 + 4) (fr_sh ha0) fl_X2_16 dX2_store_44 ?_
    refine g_iload_n (pc := 47) dX2_store_47 rfl 1 rfl ?_
    refine g_iload_n (pc := 48) dX2_store_48 rfl 2 rfl ?_
    refine g_i2s (pc := 49) dX2_store_49 ?_
    refine g_iast (pc := 50) (a0 + 4) 60 (ai_sh ha0) h.1 dX2_store_50 ?_
    have h := h.2
    refine g_goto (pc := 51) 61 dX2_store_51 (by decide) ?_
    exact g_vret (pc := 61) rfl dX2_store_61 h
  have h := h.2.2 q0 q1
  refine g_lsw (pc := 4) (off := 50) 54 dX2_store_4 (by decide) ((lv_osw (a := 0) q0 rfl).trans ((lv_osw (a := 1) q1 rfl).trans rfl)) (by decide) ?_
  refine g_aload_n (pc := 54) dX2_store_54 rfl 0 rfl ?_
  refine g_getR (pc := 55) a0 2 2 (a0 + 4) (fr_sh ha0) fl_X2_16 dX2_store_55 ?_
  refine g_iload_n (pc := 58) dX2_store_58 rfl 1 rfl ?_
  refine g_iload_n (pc := 59) dX2_store_59 rfl 2 rfl ?_
  refine g_iast (pc := 60) (a0 + 4) 60 (ai_sh ha0) h.1 dX2_store_60 ?_
  have h := h.2
  exact g_vret (pc := 61) rfl dX2_store_61 h
set_option maxHeartbeats 4000000 in
set_option maxRecDepth 100000 in
theorem ct_X3_append {Γ : GT} {Q : Int32 → St → Prop} (σ : St) (x1 : Int32)
    (h : (((σ.1 14 0) < (12 : Int32)) → (vp_in (σ.1 14 0) 12 ∧ (Q (1 : Int32) (sI (sI σ 15 (σ.1 14 0).toNatClampNeg x1) 14 0 (((sI σ 15 (σ.1 14 0).toNatClampNeg x1).1 14 0) + (1 : Int32)))))) ∧ ((¬ (σ.1 14 0) < (12 : Int32)) → (Q (0 : Int32) σ))) :
    CtI Γ mX3_append 0 [rf Γ 14, .int x1] σ Q := by
  refine ct_of (by decide +kernel) (Nat.le_of_ble_eq_true rfl) ?_
  show G Γ mX3_append (NI Γ 0 Q) 0 [(0, rf Γ 14), (1, .int x1)] [] σ
  refine g_aload_n (pc := 0) dX3_append_0 rfl 0 rfl ?_
  refine g_getI (pc := 1) 14 3 0 fi_14_0 fl_X3_9 dX3_append_1 ?_
  refine g_bipush (pc := 4) (12 : Int32) dX3_append_4 rfl ?_
  refine g_icmp_lt (pc := 6) 11 dX3_append_6 (by decide) (fun q => ?_) (fun q => ?_)
  · have h := h.1 q
    refine g_aload_n (pc := 11) dX3_append_11 rfl 0 rfl ?_
    refine g_getR (pc := 12) 14 3 1 15 fr_14_1 fl_X3_15 dX3_append_12 ?_
    refine g_aload_n (pc := 15) dX3_append_15 rfl 0 rfl ?_
    refine g_getI (pc := 16) 14 3 0 fi_14_0 fl_X3_9 dX3_append_16 ?_
    refine g_iload_n (pc := 19) dX3_append_19 rfl 1 rfl ?_
    refine g_iast (pc := 20) 15 12 ar_15 h.1 dX3_append_20 ?_
    have h := h.2
    refine g_aload_n (pc := 21) dX3_append_21 rfl 0 rfl ?_
    refine g_dup (pc := 22) dX3_append_22 rfl ?_
    refine g_getI (pc := 23) 14 3 0 fi_14_0 fl_X3_9 dX3_append_23 ?_
    refine g_iconst (pc := 26) (1 : Int32) dX3_append_26 rfl ?_
    refine g_iadd (pc := 27) dX3_append_27 ?_
    refine g_put (pc := 28) 14 3 0 fpp_14_0 fp_X3_9 dX3_append_28 ?_
    refine g_iconst (pc := 31) (1 : Int32) dX3_append_31 rfl ?_
    exact g_zret (pc := 32) rfl dX3_append_32 (Or.inr rfl) h
  · have h := h.2 q
    refine g_iconst (pc := 9) (0 : Int32) dX3_append_9 rfl ?_
    exact g_zret (pc := 10) rfl dX3_append_10 (Or.inl rfl) h
set_option maxHeartbeats 4000000 in
set_option maxRecDepth 100000 in
theorem ct_X3_firstWrong {Γ : GT} {Q : Int32 → St → Prop} (σ : St) (x1 : Int32)
    (h : G Γ mX3_firstWrong (NI Γ 0 Q) 2 [(0, rf Γ 14), (1, .int x1), (2, .int (0 : Int32))] [] σ) :
    CtI Γ mX3_firstWrong 0 [rf Γ 14, .int x1] σ Q := by
  refine ct_of (by decide +kernel) (Nat.le_of_ble_eq_true rfl) ?_
  show G Γ mX3_firstWrong (NI Γ 0 Q) 0 [(0, rf Γ 14), (1, .int x1)] [] σ
  refine g_iconst (pc := 0) (0 : Int32) dX3_firstWrong_0 rfl ?_
  refine g_istore_n (pc := 1) [(2, _), (0, _), (1, _)] dX3_firstWrong_1 rfl (Nat.le_of_ble_eq_true rfl) rfl ?_
  refine g_pm [1, 2, 0] rfl ?_
  exact h
set_option maxHeartbeats 4000000 in
set_option maxRecDepth 100000 in
theorem t_X3_firstWrong_2 {Γ : GT} {Q : Int32 → St → Prop} (σ : St) (x1 : Int32) (x2 : Int32)
    (h : (((σ.1 14 0) ≤ x2) → (Q (-1 : Int32) σ)) ∧ ((¬ (σ.1 14 0) ≤ x2) → (vp_in x2 12 ∧ (((((σ.1 15 x2.toNatClampNeg) - (97 : Int32)) < 0) → (Q x2 σ)) ∧ ((¬ ((σ.1 15 x2.toNatClampNeg) - (97 : Int32)) < 0) → (((((σ.1 15 x2.toNatClampNeg) - (97 : Int32)) < x1) → (G Γ mX3_firstWrong (NI Γ 0 Q) 2 [(0, rf Γ 14), (1, .int x1), (2, .int (x2 + (1 : Int32)))] [] σ)) ∧ ((¬ ((σ.1 15 x2.toNatClampNeg) - (97 : Int32)) < x1) → (Q x2 σ)))))))) :
    G Γ mX3_firstWrong (NI Γ 0 Q) 2 [(0, rf Γ 14), (1, .int x1), (2, .int x2)] [] σ := by
  refine g_iload_n (pc := 2) dX3_firstWrong_2 rfl 2 rfl ?_
  refine g_aload_n (pc := 3) dX3_firstWrong_3 rfl 0 rfl ?_
  refine g_getI (pc := 4) 14 3 0 fi_14_0 fl_X3_9 dX3_firstWrong_4 ?_
  refine g_icmp_ge (pc := 7) 37 dX3_firstWrong_7 (by decide) (fun q => ?_) (fun q => ?_)
  · have h := h.1 q
    refine g_iconst (pc := 37) (-1 : Int32) dX3_firstWrong_37 rfl ?_
    exact g_iret (pc := 38) rfl dX3_firstWrong_38 h
  · have h := h.2 q
    refine g_aload_n (pc := 10) dX3_firstWrong_10 rfl 0 rfl ?_
    refine g_getR (pc := 11) 14 3 1 15 fr_14_1 fl_X3_15 dX3_firstWrong_11 ?_
    refine g_iload_n (pc := 14) dX3_firstWrong_14 rfl 2 rfl ?_
    refine g_iald (pc := 15) 15 12 ar_15 h.1 dX3_firstWrong_15 ?_
    have h := h.2
    refine g_bipush (pc := 16) (97 : Int32) dX3_firstWrong_16 rfl ?_
    refine g_isub (pc := 18) dX3_firstWrong_18 ?_
    refine g_istore_n (pc := 19) [(3, _), (0, _), (1, _), (2, _)] dX3_firstWrong_19 rfl (Nat.le_of_ble_eq_true rfl) rfl ?_
    refine g_iload_n (pc := 20) dX3_firstWrong_20 rfl 0 rfl ?_
    refine g_if_lt (pc := 21) 29 dX3_firstWrong_21 (by decide) (fun q => ?_) (fun q => ?_)
    · have h := h.1 q
      refine g_iload_n (pc := 29) dX3_firstWrong_29 rfl 3 rfl ?_
      exact g_iret (pc := 30) rfl dX3_firstWrong_30 h
    · have h := h.2 q
      refine g_iload_n (pc := 24) dX3_firstWrong_24 rfl 0 rfl ?_
      refine g_iload_n (pc := 25) dX3_firstWrong_25 rfl 2 rfl ?_
      refine g_icmp_lt (pc := 26) 31 dX3_firstWrong_26 (by decide) (fun q => ?_) (fun q => ?_)
      · have h := h.1 q
        refine g_iinc (pc := 31) (1 : Int32) [(2, _), (3, _), (0, _), (1, _)] dX3_firstWrong_31 3 rfl rfl (Nat.le_of_ble_eq_true rfl) rfl ?_
        refine g_goto (pc := 34) 2 dX3_firstWrong_34 (by decide) ?_
        refine g_pm [2, 3, 0] rfl ?_
        exact h
      · have h := h.2 q
        refine g_iload_n (pc := 29) dX3_firstWrong_29 rfl 3 rfl ?_
        exact g_iret (pc := 30) rfl dX3_firstWrong_30 h
set_option maxHeartbeats 4000000 in
set_option maxRecDepth 100000 in
theorem ct_X4_stepOf {Γ : GT} {Q : Int32 → St → Prop} (σ : St) (x1 : Int32) (a2 : Nat) (ha2 : aI a2 5)
    (h : ∃ Q1 : Int32 → St → Prop, CtI Γ mX1_needOf 1 [rf Γ 1, .int x1, rf Γ a2] σ Q1 ∧ ∀ (r2 : Int32) (τ3 : St), Q1 r2 τ3 → (vp_in x1 5 ∧ (Q (if (τ3.1 5 x1.toNatClampNeg) < r2 then (τ3.1 5 x1.toNatClampNeg) else r2) τ3))) :
    CtI Γ mX4_stepOf 2 [rf Γ 11, .int x1, rf Γ a2] σ Q := by
  refine ct_of (by decide +kernel) (Nat.le_of_ble_eq_true rfl) ?_
  show G Γ mX4_stepOf (NI Γ 2 Q) 0 [(0, rf Γ 11), (1, .int x1), (2, rf Γ a2)] [] σ
  refine g_aload_n (pc := 0) dX4_stepOf_0 rfl 0 rfl ?_
  refine g_getR (pc := 1) 11 4 2 1 fr_11_2 fl_X4_9 dX4_stepOf_1 ?_
  refine g_iload_n (pc := 4) dX4_stepOf_4 rfl 1 rfl ?_
  refine g_aload_n (pc := 5) dX4_stepOf_5 rfl 2 rfl ?_
  obtain ⟨Q1, hc, h⟩ := h
  refine g_callVI (pc := 6) (M' := mX1_needOf) (n := 2) (As := [.int x1, rf Γ a2]) (st := []) dX4_stepOf_6 ml_X4_28 ok_X1_needOf rfl (rmOk_M _ _ _) (by decide) rc_1 (Nat.le_of_ble_eq_true rfl) rfl hc (fun r2 τ3 hq => ?_)
  have h := h r2 τ3 hq
  refine g_aload_n (pc := 9) dX4_stepOf_9 rfl 0 rfl ?_
  refine g_getR (pc := 10) 11 4 2 1 fr_11_2 fl_X4_9 dX4_stepOf_10 ?_
  refine g_getR (pc := 13) 1 1 5 5 fr_1_5 fl_X4_32 dX4_stepOf_13 ?_
  refine g_iload_n (pc := 16) dX4_stepOf_16 rfl 1 rfl ?_
  refine g_iald (pc := 17) 5 5 ar_5 h.1 dX4_stepOf_17 ?_
  have h := h.2
  refine g_mmin (pc := 18) (n := 2) ml_X4_35 kw_mmin (rmOk_M _ _ _) (by decide) (Nat.le_of_ble_eq_true rfl) dX4_stepOf_18 ?_
  exact g_iret (pc := 21) rfl dX4_stepOf_21 h
set_option maxHeartbeats 4000000 in
set_option maxRecDepth 100000 in
theorem ct_X4_takeTurn {Γ : GT} {Q : Int32 → St → Prop} (σ : St) (a1 : Nat) (ha1 : aI a1 5)
    (h : G Γ mX4_takeTurn (NI Γ 4 Q) 4 [(0, rf Γ 11), (1, rf Γ a1), (2, .int (0 : Int32)), (3, .int (0 : Int32))] [] σ) :
    CtI Γ mX4_takeTurn 4 [rf Γ 11, rf Γ a1] σ Q := by
  refine ct_of (by decide +kernel) (Nat.le_of_ble_eq_true rfl) ?_
  show G Γ mX4_takeTurn (NI Γ 4 Q) 0 [(0, rf Γ 11), (1, rf Γ a1)] [] σ
  refine g_iconst (pc := 0) (0 : Int32) dX4_takeTurn_0 rfl ?_
  refine g_istore_n (pc := 1) [(2, _), (0, _), (1, _)] dX4_takeTurn_1 rfl (Nat.le_of_ble_eq_true rfl) rfl ?_
  refine g_iconst (pc := 2) (0 : Int32) dX4_takeTurn_2 rfl ?_
  refine g_istore_n (pc := 3) [(3, _), (2, _), (0, _), (1, _)] dX4_takeTurn_3 rfl (Nat.le_of_ble_eq_true rfl) rfl ?_
  refine g_pm [2, 3, 1, 0] rfl ?_
  exact h
set_option maxHeartbeats 4000000 in
set_option maxRecDepth 100000 in
theorem t_X4_takeTurn_4 {Γ : GT} {Q : Int32 → St → Prop} (σ : St) (a1 : Nat) (x2 : Int32) (x3 : Int32) (ha1 : aI a1 5)
    (h : (((σ.1 1 0) ≤ x3) → ((¬ (0 : Int32) < 0 ∧ ¬ (0 : Int32) < 0 ∧ ¬ (σ.1 1 0) < 0 ∧ (0 : Int32).toNatClampNeg + (σ.1 1 0).toNatClampNeg ≤ 5 ∧ (0 : Int32).toNatClampNeg + (σ.1 1 0).toNatClampNeg ≤ 5) ∧ (Q x2 (sF σ a1 (va_cpy (σ.1 13) (σ.1 a1) (0 : Int32).toNatClampNeg (0 : Int32).toNatClampNeg (σ.1 1 0).toNatClampNeg))))) ∧ ((¬ (σ.1 1 0) ≤ x3) → (∃ Q1 : Int32 → St → Prop, CtI Γ mX4_goalOf 3 [rf Γ 11, .int x3, rf Γ a1] σ Q1 ∧ ∀ (r2 : Int32) (τ3 : St), Q1 r2 τ3 → (vp_in x3 5 ∧ (vp_in x3 5 ∧ (vp_in x3 5 ∧ (((((sI τ3 13 x3.toNatClampNeg r2).1 13 x3.toNatClampNeg) = ((sI τ3 13 x3.toNatClampNeg r2).1 a1 x3.toNatClampNeg)) → (((¬ ((sI τ3 13 x3.toNatClampNeg r2).1 11 0) = (1 : Int32)) → (G Γ mX4_takeTurn (NI Γ 4 Q) 4 [(0, rf Γ 11), (1, rf Γ a1), (2, .int x2), (3, .int (x3 + (1 : Int32)))] [] (sI τ3 13 x3.toNatClampNeg r2))) ∧ ((((sI τ3 13 x3.toNatClampNeg r2).1 11 0) = (1 : Int32)) → (vp_in x3 5 ∧ (vp_in x3 5 ∧ (G Γ mX4_takeTurn (NI Γ 4 Q) 4 [(0, rf Γ 11), (1, rf Γ a1), (2, .int x2), (3, .int (x3 + (1 : Int32)))] [] (sI (sI τ3 13 x3.toNatClampNeg r2) a1 x3.toNatClampNeg ((sI τ3 13 x3.toNatClampNeg r2).1 13 x3.toNatClampNeg)))))))) ∧ ((¬ ((sI τ3 13 x3.toNatClampNeg r2).1 13 x3.toNatClampNeg) = ((sI τ3 13 x3.toNatClampNeg r2).1 a1 x3.toNatClampNeg)) → (((¬ ((sI τ3 13 x3.toNatClampNeg r2).1 11 0) = (1 : Int32)) → (G Γ mX4_takeTurn (NI Γ 4 Q) 4 [(0, rf Γ 11), (1, rf Γ a1), (2, .int (x2 + (1 : Int32))), (3, .int (x3 + (1 : Int32)))] [] (sI τ3 13 x3.toNatClampNeg r2))) ∧ ((((sI τ3 13 x3.toNatClampNeg r2).1 11 0) = (1 : Int32)) → (vp_in x3 5 ∧ (vp_in x3 5 ∧ (G Γ mX4_takeTurn (NI Γ 4 Q) 4 [(0, rf Γ 11), (1, rf Γ a1), (2, .int (x2 + (1 : Int32))), (3, .int (x3 + (1 : Int32)))] [] (sI (sI τ3 13 x3.toNatClampNeg r2) a1 x3.toNatClampNeg ((sI τ3 13 x3.toNatClampNeg r2).1 13 x3.toNatClampNeg))))))))))))))) :
    G Γ mX4_takeTurn (NI Γ 4 Q) 4 [(0, rf Γ 11), (1, rf Γ a1), (2, .int x2), (3, .int x3)] [] σ := by
  refine g_iload_n (pc := 4) dX4_takeTurn_4 rfl 3 rfl ?_
  refine g_aload_n (pc := 5) dX4_takeTurn_5 rfl 0 rfl ?_
  refine g_getR (pc := 6) 11 4 2 1 fr_11_2 fl_X4_9 dX4_takeTurn_6 ?_
  refine g_getI (pc := 9) 1 1 0 fi_1_0 fl_X4_41 dX4_takeTurn_9 ?_
  refine g_icmp_ge (pc := 12) 65 dX4_takeTurn_12 (by decide) (fun q => ?_) (fun q => ?_)
  · have h := h.1 q
    refine g_aload_n (pc := 65) dX4_takeTurn_65 rfl 0 rfl ?_
    refine g_getR (pc := 66) 11 4 3 13 fr_11_3 fl_X4_25 dX4_takeTurn_66 ?_
    refine g_iconst (pc := 69) (0 : Int32) dX4_takeTurn_69 rfl ?_
    refine g_aload_n (pc := 70) dX4_takeTurn_70 rfl 1 rfl ?_
    refine g_iconst (pc := 71) (0 : Int32) dX4_takeTurn_71 rfl ?_
    refine g_aload_n (pc := 72) dX4_takeTurn_72 rfl 0 rfl ?_
    refine g_getR (pc := 73) 11 4 2 1 fr_11_2 fl_X4_9 dX4_takeTurn_73 ?_
    refine g_getI (pc := 76) 1 1 0 fi_1_0 fl_X4_41 dX4_takeTurn_76 ?_
    refine g_copy (pc := 79) (n := 4) 13 a1 5 5 ar_13 ha1 ml_X4_47 kw_copy (rmOk_M _ _ _) (by decide) (Nat.le_of_ble_eq_true rfl) dX4_takeTurn_79 h.1 ?_
    have h := h.2
    refine g_iload_n (pc := 82) dX4_takeTurn_82 rfl 2 rfl ?_
    exact g_iret (pc := 83) rfl dX4_takeTurn_83 h
  · have h := h.2 q
    refine g_aload_n (pc := 15) dX4_takeTurn_15 rfl 0 rfl ?_
    refine g_getR (pc := 16) 11 4 3 13 fr_11_3 fl_X4_25 dX4_takeTurn_16 ?_
    refine g_iload_n (pc := 19) dX4_takeTurn_19 rfl 3 rfl ?_
    refine g_aload_n (pc := 20) dX4_takeTurn_20 rfl 0 rfl ?_
    refine g_iload_n (pc := 21) dX4_takeTurn_21 rfl 3 rfl ?_
    refine g_aload_n (pc := 22) dX4_takeTurn_22 rfl 1 rfl ?_
    obtain ⟨Q1, hc, h⟩ := h
    refine g_callVI (pc := 23) (M' := mX4_goalOf) (n := 4) (As := [.int x3, rf Γ a1]) (st := [.int x3, rf Γ 13]) dX4_takeTurn_23 ml_X4_44 ok_X4_goalOf rfl (rmOk_M _ _ _) (by decide) rc_11 (Nat.le_of_ble_eq_true rfl) rfl hc (fun r2 τ3 hq => ?_)
    have h := h r2 τ3 hq
    refine g_iast (pc := 26) 13 5 ar_13 h.1 dX4_takeTurn_26 ?_
    have h := h.2
    refine g_aload_n (pc := 27) dX4_takeTurn_27 rfl 0 rfl ?_
    refine g_getR (pc := 28) 11 4 3 13 fr_11_3 fl_X4_25 dX4_takeTurn_28 ?_
    refine g_iload_n (pc := 31) dX4_takeTurn_31 rfl 3 rfl ?_
    refine g_iald (pc := 32) 13 5 ar_13 h.1 dX4_takeTurn_32 ?_
    have h := h.2
    refine g_aload_n (pc := 33) dX4_takeTurn_33 rfl 1 rfl ?_
    refine g_iload_n (pc := 34) dX4_takeTurn_34 rfl 3 rfl ?_
    refine g_iald (pc := 35) a1 5 ha1 h.1 dX4_takeTurn_35 ?_
    have h := h.2
    refine g_icmp_eq (pc := 36) 42 dX4_takeTurn_36 (by decide) (fun q => ?_) (fun q => ?_)
    · have h := h.1 q
      refine g_aload_n (pc := 42) dX4_takeTurn_42 rfl 0 rfl ?_
      refine g_getI (pc := 43) 11 4 0 fi_11_0 fl_X4_15 dX4_takeTurn_43 ?_
      refine g_iconst (pc := 46) (1 : Int32) dX4_takeTurn_46 rfl ?_
      refine g_icmp_ne (pc := 47) 59 dX4_takeTurn_47 (by decide) (fun q => ?_) (fun q => ?_)
      · have h := h.1 q
        refine g_iinc (pc := 59) (1 : Int32) [(3, _), (0, _), (1, _), (2, _)] dX4_takeTurn_59 3 rfl rfl (Nat.le_of_ble_eq_true rfl) rfl ?_
        refine g_goto (pc := 62) 4 dX4_takeTurn_62 (by decide) ?_
        refine g_pm [1, 2, 3, 0] rfl ?_
        exact h
      · have h := h.2 q
        refine g_aload_n (pc := 50) dX4_takeTurn_50 rfl 1 rfl ?_
        refine g_iload_n (pc := 51) dX4_takeTurn_51 rfl 3 rfl ?_
        refine g_aload_n (pc := 52) dX4_takeTurn_52 rfl 0 rfl ?_
        refine g_getR (pc := 53) 11 4 3 13 fr_11_3 fl_X4_25 dX4_takeTurn_53 ?_
        refine g_iload_n (pc := 56) dX4_takeTurn_56 rfl 3 rfl ?_
        refine g_iald (pc := 57) 13 5 ar_13 h.1 dX4_takeTurn_57 ?_
        have h := h.2
        refine g_iast (pc := 58) a1 5 ha1 h.1 dX4_takeTurn_58 ?_
        have h := h.2
        refine g_iinc (pc := 59) (1 : Int32) [(3, _), (0, _), (1, _), (2, _)] dX4_takeTurn_59 3 rfl rfl (Nat.le_of_ble_eq_true rfl) rfl ?_
        refine g_goto (pc := 62) 4 dX4_takeTurn_62 (by decide) ?_
        refine g_pm [1, 2, 3, 0] rfl ?_
        exact h
    · have h := h.2 q
      refine g_iinc (pc := 39) (1 : Int32) [(2, _), (0, _), (1, _), (3, _)] dX4_takeTurn_39 2 rfl rfl (Nat.le_of_ble_eq_true rfl) rfl ?_
      refine g_aload_n (pc := 42) dX4_takeTurn_42 rfl 1 rfl ?_
      refine g_getI (pc := 43) 11 4 0 fi_11_0 fl_X4_15 dX4_takeTurn_43 ?_
      refine g_iconst (pc := 46) (1 : Int32) dX4_takeTurn_46 rfl ?_
      refine g_icmp_ne (pc := 47) 59 dX4_takeTurn_47 (by decide) (fun q => ?_) (fun q => ?_)
      · have h := h.1 q
        refine g_iinc (pc := 59) (1 : Int32) [(3, _), (2, _), (0, _), (1, _)] dX4_takeTurn_59 3 rfl rfl (Nat.le_of_ble_eq_true rfl) rfl ?_
        refine g_goto (pc := 62) 4 dX4_takeTurn_62 (by decide) ?_
        refine g_pm [2, 3, 1, 0] rfl ?_
        exact h
      · have h := h.2 q
        refine g_aload_n (pc := 50) dX4_takeTurn_50 rfl 2 rfl ?_
        refine g_iload_n (pc := 51) dX4_takeTurn_51 rfl 3 rfl ?_
        refine g_aload_n (pc := 52) dX4_takeTurn_52 rfl 1 rfl ?_
        refine g_getR (pc := 53) 11 4 3 13 fr_11_3 fl_X4_25 dX4_takeTurn_53 ?_
        refine g_iload_n (pc := 56) dX4_takeTurn_56 rfl 3 rfl ?_
        refine g_iald (pc := 57) 13 5 ar_13 h.1 dX4_takeTurn_57 ?_
        have h := h.2
        refine g_iast (pc := 58) a1 5 ha1 h.1 dX4_takeTurn_58 ?_
        have h := h.2
        refine g_iinc (pc := 59) (1 : Int32) [(3, _), (2, _), (0, _), (1, _)] dX4_takeTurn_59 3 rfl rfl (Nat.le_of_ble_eq_true rfl) rfl ?_
        refine g_goto (pc := 62) 4 dX4_takeTurn_62 (by decide) ?_
        refine g_pm [2, 3, 1, 0] rfl ?_
        exact h
set_option maxHeartbeats 4000000 in
set_option maxRecDepth 100000 in
theorem ct_X4_goalOf {Γ : GT} {Q : Int32 → St → Prop} (σ : St) (x1 : Int32) (a2 : Nat) (ha2 : aI a2 5)
    (h : ∃ Q1 : Int32 → St → Prop, CtI Γ mX1_isOn 0 [rf Γ 1, .int x1] σ Q1 ∧ ∀ (r2 : Int32) (τ3 : St), Q1 r2 τ3 → (((¬ r2 = 0) → (∃ Q4 : Int32 → St → Prop, CtI Γ mX4_stepOf 2 [rf Γ 11, .int x1, rf Γ a2] τ3 Q4 ∧ ∀ (r5 : Int32) (τ6 : St), Q4 r5 τ6 → (((¬ (τ6.1 11 0) = (2 : Int32)) → (Q r5 τ6)) ∧ (((τ6.1 11 0) = (2 : Int32)) → (vp_in x1 5 ∧ ((¬ (2 : Int32) = 0) ∧ (Q ((((τ6.1 a2 x1.toNatClampNeg) + r5) + (1 : Int32)) / (2 : Int32)) τ6))))))) ∧ ((r2 = 0) → (vp_in x1 5 ∧ (Q (τ3.1 a2 x1.toNatClampNeg) τ3))))) :
    CtI Γ mX4_goalOf 3 [rf Γ 11, .int x1, rf Γ a2] σ Q := by
  refine ct_of (by decide +kernel) (Nat.le_of_ble_eq_true rfl) ?_
  show G Γ mX4_goalOf (NI Γ 3 Q) 0 [(0, rf Γ 11), (1, .int x1), (2, rf Γ a2)] [] σ
  refine g_aload_n (pc := 0) dX4_goalOf_0 rfl 0 rfl ?_
  refine g_getR (pc := 1) 11 4 2 1 fr_11_2 fl_X4_9 dX4_goalOf_1 ?_
  refine g_iload_n (pc := 4) dX4_goalOf_4 rfl 1 rfl ?_
  obtain ⟨Q1, hc, h⟩ := h
  refine g_callVI (pc := 5) (M' := mX1_isOn) (n := 3) (As := [.int x1]) (st := []) dX4_goalOf_5 ml_X4_53 ok_X1_isOn rfl (rmOk_M _ _ _) (by decide) rc_1 (Nat.le_of_ble_eq_true rfl) rfl hc (fun r2 τ3 hq => ?_)
  have h := h r2 τ3 hq
  refine g_if_ne (pc := 8) 15 dX4_goalOf_8 (by decide) (fun q => ?_) (fun q => ?_)
  · have h := h.1 q
    refine g_aload_n (pc := 15) dX4_goalOf_15 rfl 0 rfl ?_
    refine g_iload_n (pc := 16) dX4_goalOf_16 rfl 1 rfl ?_
    refine g_aload_n (pc := 17) dX4_goalOf_17 rfl 2 rfl ?_
    obtain ⟨Q4, hc, h⟩ := h
    refine g_callVI (pc := 18) (M' := mX4_stepOf) (n := 3) (As := [.int x1, rf Γ a2]) (st := []) dX4_goalOf_18 ml_X4_57 ok_X4_stepOf rfl (rmOk_M _ _ _) (by decide) rc_11 (Nat.le_of_ble_eq_true rfl) rfl hc (fun r5 τ6 hq => ?_)
    have h := h r5 τ6 hq
    refine g_istore_n (pc := 21) [(3, _), (0, _), (1, _), (2, _)] dX4_goalOf_21 rfl (Nat.le_of_ble_eq_true rfl) rfl ?_
    refine g_aload_n (pc := 22) dX4_goalOf_22 rfl 1 rfl ?_
    refine g_getI (pc := 23) 11 4 0 fi_11_0 fl_X4_15 dX4_goalOf_23 ?_
    refine g_iconst (pc := 26) (2 : Int32) dX4_goalOf_26 rfl ?_
    refine g_icmp_ne (pc := 27) 42 dX4_goalOf_27 (by decide) (fun q => ?_) (fun q => ?_)
    · have h := h.1 q
      refine g_iload_n (pc := 42) dX4_goalOf_42 rfl 0 rfl ?_
      exact g_iret (pc := 43) rfl dX4_goalOf_43 h
    · have h := h.2 q
      refine g_aload_n (pc := 30) dX4_goalOf_30 rfl 3 rfl ?_
      refine g_iload_n (pc := 31) dX4_goalOf_31 rfl 2 rfl ?_
      refine g_iald (pc := 32) a2 5 ha2 h.1 dX4_goalOf_32 ?_
      have h := h.2
      refine g_iload_n (pc := 33) dX4_goalOf_33 rfl 0 rfl ?_
      refine g_iadd (pc := 34) dX4_goalOf_34 ?_
      refine g_iconst (pc := 35) (1 : Int32) dX4_goalOf_35 rfl ?_
      refine g_iadd (pc := 36) dX4_goalOf_36 ?_
      refine g_iconst (pc := 37) (2 : Int32) dX4_goalOf_37 rfl ?_
      refine g_idiv (pc := 38) dX4_goalOf_38 h.1 ?_
      have h := h.2
      refine g_goto (pc := 39) 43 dX4_goalOf_39 (by decide) ?_
      exact g_iret (pc := 43) rfl dX4_goalOf_43 h
  · have h := h.2 q
    refine g_aload_n (pc := 11) dX4_goalOf_11 rfl 2 rfl ?_
    refine g_iload_n (pc := 12) dX4_goalOf_12 rfl 1 rfl ?_
    refine g_iald (pc := 13) a2 5 ha2 h.1 dX4_goalOf_13 ?_
    have h := h.2
    exact g_iret (pc := 14) rfl dX4_goalOf_14 h
set_option maxHeartbeats 4000000 in
set_option maxRecDepth 100000 in
theorem ct_X4_settle {Γ : GT} {Q : Int32 → St → Prop} (σ : St) 
    (h : (¬ (0 : Int32) < 0 ∧ ¬ (0 : Int32) < 0 ∧ ¬ (5 : Int32) < 0 ∧ (0 : Int32).toNatClampNeg + (5 : Int32).toNatClampNeg ≤ 5 ∧ (0 : Int32).toNatClampNeg + (5 : Int32).toNatClampNeg ≤ 5) ∧ (G Γ mX4_settle (NI Γ 5 Q) 19 [(0, rf Γ 11), (1, .int (0 : Int32))] [] (sF σ 12 (va_cpy (σ.1 6) (σ.1 12) (0 : Int32).toNatClampNeg (0 : Int32).toNatClampNeg (5 : Int32).toNatClampNeg)))) :
    CtI Γ mX4_settle 5 [rf Γ 11] σ Q := by
  refine ct_of (by decide +kernel) (Nat.le_of_ble_eq_true rfl) ?_
  show G Γ mX4_settle (NI Γ 5 Q) 0 [(0, rf Γ 11)] [] σ
  refine g_aload_n (pc := 0) dX4_settle_0 rfl 0 rfl ?_
  refine g_getR (pc := 1) 11 4 2 1 fr_11_2 fl_X4_9 dX4_settle_1 ?_
  refine g_getR (pc := 4) 1 1 6 6 fr_1_6 fl_X4_60 dX4_settle_4 ?_
  refine g_iconst (pc := 7) (0 : Int32) dX4_settle_7 rfl ?_
  refine g_aload_n (pc := 8) dX4_settle_8 rfl 0 rfl ?_
  refine g_getR (pc := 9) 11 4 1 12 fr_11_1 fl_X4_21 dX4_settle_9 ?_
  refine g_iconst (pc := 12) (0 : Int32) dX4_settle_12 rfl ?_
  refine g_iconst (pc := 13) (5 : Int32) dX4_settle_13 rfl ?_
  refine g_copy (pc := 14) (n := 5) 6 12 5 5 ar_6 ar_12 ml_X4_47 kw_copy (rmOk_M _ _ _) (by decide) (Nat.le_of_ble_eq_true rfl) dX4_settle_14 h.1 ?_
  have h := h.2
  refine g_iconst (pc := 17) (0 : Int32) dX4_settle_17 rfl ?_
  refine g_istore_n (pc := 18) [(1, _), (0, _)] dX4_settle_18 rfl (Nat.le_of_ble_eq_true rfl) rfl ?_
  refine g_pm [1, 0] rfl ?_
  exact h
set_option maxHeartbeats 4000000 in
set_option maxRecDepth 100000 in
theorem t_X4_settle_19 {Γ : GT} {Q : Int32 → St → Prop} (σ : St) (x1 : Int32)
    (h : (((200 : Int32) ≤ x1) → (∃ Q1 : Int32 → St → Prop, CtI Γ mX4_wouldMove 4 [rf Γ 11, rf Γ 12] σ Q1 ∧ ∀ (r2 : Int32) (τ3 : St), Q1 r2 τ3 → (((r2 = 0) → (Q (200 : Int32) τ3)) ∧ ((¬ r2 = 0) → (Q (-1 : Int32) τ3))))) ∧ ((¬ (200 : Int32) ≤ x1) → (∃ Q4 : Int32 → St → Prop, CtI Γ mX4_takeTurn 4 [rf Γ 11, rf Γ 12] σ Q4 ∧ ∀ (r5 : Int32) (τ6 : St), Q4 r5 τ6 → (((¬ r5 = 0) → (G Γ mX4_settle (NI Γ 5 Q) 19 [(0, rf Γ 11), (1, .int (x1 + (1 : Int32)))] [] τ6)) ∧ ((r5 = 0) → (Q x1 τ6)))))) :
    G Γ mX4_settle (NI Γ 5 Q) 19 [(0, rf Γ 11), (1, .int x1)] [] σ := by
  refine g_iload_n (pc := 19) dX4_settle_19 rfl 1 rfl ?_
  refine g_sipush (pc := 20) (200 : Int32) dX4_settle_20 rfl ?_
  refine g_icmp_ge (pc := 23) 45 dX4_settle_23 (by decide) (fun q => ?_) (fun q => ?_)
  · have h := h.1 q
    refine g_aload_n (pc := 45) dX4_settle_45 rfl 0 rfl ?_
    refine g_aload_n (pc := 46) dX4_settle_46 rfl 0 rfl ?_
    refine g_getR (pc := 47) 11 4 1 12 fr_11_1 fl_X4_21 dX4_settle_47 ?_
    obtain ⟨Q1, hc, h⟩ := h
    refine g_callVI (pc := 50) (M' := mX4_wouldMove) (n := 5) (As := [rf Γ 12]) (st := []) dX4_settle_50 ml_X4_67 ok_X4_wouldMove rfl (rmOk_M _ _ _) (by decide) rc_11 (Nat.le_of_ble_eq_true rfl) rfl hc (fun r2 τ3 hq => ?_)
    have h := h r2 τ3 hq
    refine g_if_eq (pc := 53) 60 dX4_settle_53 (by decide) (fun q => ?_) (fun q => ?_)
    · have h := h.1 q
      refine g_sipush (pc := 60) (200 : Int32) dX4_settle_60 rfl ?_
      exact g_iret (pc := 63) rfl dX4_settle_63 h
    · have h := h.2 q
      refine g_iconst (pc := 56) (-1 : Int32) dX4_settle_56 rfl ?_
      refine g_goto (pc := 57) 63 dX4_settle_57 (by decide) ?_
      exact g_iret (pc := 63) rfl dX4_settle_63 h
  · have h := h.2 q
    refine g_aload_n (pc := 26) dX4_settle_26 rfl 0 rfl ?_
    refine g_aload_n (pc := 27) dX4_settle_27 rfl 0 rfl ?_
    refine g_getR (pc := 28) 11 4 1 12 fr_11_1 fl_X4_21 dX4_settle_28 ?_
    obtain ⟨Q4, hc, h⟩ := h
    refine g_callVI (pc := 31) (M' := mX4_takeTurn) (n := 5) (As := [rf Γ 12]) (st := []) dX4_settle_31 ml_X4_63 ok_X4_takeTurn rfl (rmOk_M _ _ _) (by decide) rc_11 (Nat.le_of_ble_eq_true rfl) rfl hc (fun r5 τ6 hq => ?_)
    have h := h r5 τ6 hq
    refine g_if_ne (pc := 34) 39 dX4_settle_34 (by decide) (fun q => ?_) (fun q => ?_)
    · have h := h.1 q
      refine g_iinc (pc := 39) (1 : Int32) [(1, _), (0, _)] dX4_settle_39 1 rfl rfl (Nat.le_of_ble_eq_true rfl) rfl ?_
      refine g_goto (pc := 42) 19 dX4_settle_42 (by decide) ?_
      refine g_pm [1, 0] rfl ?_
      exact h
    · have h := h.2 q
      refine g_iload_n (pc := 37) dX4_settle_37 rfl 1 rfl ?_
      exact g_iret (pc := 38) rfl dX4_settle_38 h
set_option maxHeartbeats 4000000 in
set_option maxRecDepth 100000 in
theorem ct_X4_wouldMove {Γ : GT} {Q : Int32 → St → Prop} (σ : St) (a1 : Nat) (ha1 : aI a1 5)
    (h : G Γ mX4_wouldMove (NI Γ 4 Q) 2 [(0, rf Γ 11), (1, rf Γ a1), (2, .int (0 : Int32))] [] σ) :
    CtI Γ mX4_wouldMove 4 [rf Γ 11, rf Γ a1] σ Q := by
  refine ct_of (by decide +kernel) (Nat.le_of_ble_eq_true rfl) ?_
  show G Γ mX4_wouldMove (NI Γ 4 Q) 0 [(0, rf Γ 11), (1, rf Γ a1)] [] σ
  refine g_iconst (pc := 0) (0 : Int32) dX4_wouldMove_0 rfl ?_
  refine g_istore_n (pc := 1) [(2, _), (0, _), (1, _)] dX4_wouldMove_1 rfl (Nat.le_of_ble_eq_true rfl) rfl ?_
  refine g_pm [1, 2, 0] rfl ?_
  exact h
set_option maxHeartbeats 4000000 in
set_option maxRecDepth 100000 in
theorem t_X4_wouldMove_2 {Γ : GT} {Q : Int32 → St → Prop} (σ : St) (a1 : Nat) (x2 : Int32) (ha1 : aI a1 5)
    (h : (((σ.1 1 0) ≤ x2) → (Q (0 : Int32) σ)) ∧ ((¬ (σ.1 1 0) ≤ x2) → (∃ Q1 : Int32 → St → Prop, CtI Γ mX4_goalOf 3 [rf Γ 11, .int x2, rf Γ a1] σ Q1 ∧ ∀ (r2 : Int32) (τ3 : St), Q1 r2 τ3 → (vp_in x2 5 ∧ (((r2 = (τ3.1 a1 x2.toNatClampNeg)) → (G Γ mX4_wouldMove (NI Γ 4 Q) 2 [(0, rf Γ 11), (1, rf Γ a1), (2, .int (x2 + (1 : Int32)))] [] τ3)) ∧ ((¬ r2 = (τ3.1 a1 x2.toNatClampNeg)) → (Q (1 : Int32) τ3))))))) :
    G Γ mX4_wouldMove (NI Γ 4 Q) 2 [(0, rf Γ 11), (1, rf Γ a1), (2, .int x2)] [] σ := by
  refine g_iload_n (pc := 2) dX4_wouldMove_2 rfl 2 rfl ?_
  refine g_aload_n (pc := 3) dX4_wouldMove_3 rfl 0 rfl ?_
  refine g_getR (pc := 4) 11 4 2 1 fr_11_2 fl_X4_9 dX4_wouldMove_4 ?_
  refine g_getI (pc := 7) 1 1 0 fi_1_0 fl_X4_41 dX4_wouldMove_7 ?_
  refine g_icmp_ge (pc := 10) 33 dX4_wouldMove_10 (by decide) (fun q => ?_) (fun q => ?_)
  · have h := h.1 q
    refine g_iconst (pc := 33) (0 : Int32) dX4_wouldMove_33 rfl ?_
    exact g_zret (pc := 34) rfl dX4_wouldMove_34 (Or.inl rfl) h
  · have h := h.2 q
    refine g_aload_n (pc := 13) dX4_wouldMove_13 rfl 0 rfl ?_
    refine g_iload_n (pc := 14) dX4_wouldMove_14 rfl 2 rfl ?_
    refine g_aload_n (pc := 15) dX4_wouldMove_15 rfl 1 rfl ?_
    obtain ⟨Q1, hc, h⟩ := h
    refine g_callVI (pc := 16) (M' := mX4_goalOf) (n := 4) (As := [.int x2, rf Γ a1]) (st := []) dX4_wouldMove_16 ml_X4_44 ok_X4_goalOf rfl (rmOk_M _ _ _) (by decide) rc_11 (Nat.le_of_ble_eq_true rfl) rfl hc (fun r2 τ3 hq => ?_)
    have h := h r2 τ3 hq
    refine g_aload_n (pc := 19) dX4_wouldMove_19 rfl 1 rfl ?_
    refine g_iload_n (pc := 20) dX4_wouldMove_20 rfl 2 rfl ?_
    refine g_iald (pc := 21) a1 5 ha1 h.1 dX4_wouldMove_21 ?_
    have h := h.2
    refine g_icmp_eq (pc := 22) 27 dX4_wouldMove_22 (by decide) (fun q => ?_) (fun q => ?_)
    · have h := h.1 q
      refine g_iinc (pc := 27) (1 : Int32) [(2, _), (0, _), (1, _)] dX4_wouldMove_27 2 rfl rfl (Nat.le_of_ble_eq_true rfl) rfl ?_
      refine g_goto (pc := 30) 2 dX4_wouldMove_30 (by decide) ?_
      refine g_pm [1, 2, 0] rfl ?_
      exact h
    · have h := h.2 q
      refine g_iconst (pc := 25) (1 : Int32) dX4_wouldMove_25 rfl ?_
      exact g_zret (pc := 26) rfl dX4_wouldMove_26 (Or.inr rfl) h
set_option maxHeartbeats 4000000 in
set_option maxRecDepth 100000 in
theorem ct_J6_bitCount_0f7a4 {Γ : GT} {Q : Int32 → St → Prop} (σ : St) (x0 : Int32)
    (h : ∀ v1 : Int32, v1 = (x0 - (((x0.toUInt32 >>> ((1 : Int32).toUInt32 &&& Int32.toUInt32 31)).toInt32) &&& (1431655765 : Int32))) → ∀ v2 : Int32, v2 = ((v1 &&& (858993459 : Int32)) + (((v1.toUInt32 >>> ((2 : Int32).toUInt32 &&& Int32.toUInt32 31)).toInt32) &&& (858993459 : Int32))) → ∀ v3 : Int32, v3 = ((v2 + ((v2.toUInt32 >>> ((4 : Int32).toUInt32 &&& Int32.toUInt32 31)).toInt32)) &&& (252645135 : Int32)) → ∀ v4 : Int32, v4 = (v3 + ((v3.toUInt32 >>> ((8 : Int32).toUInt32 &&& Int32.toUInt32 31)).toInt32)) → ∀ v5 : Int32, v5 = (v4 + ((v4.toUInt32 >>> ((16 : Int32).toUInt32 &&& Int32.toUInt32 31)).toInt32)) → Q (v5 &&& (63 : Int32)) σ) :
    CtI Γ mJ6_bitCount_0f7a4 0 [.int x0] σ Q := by
  refine ct_of (by decide +kernel) (Nat.le_of_ble_eq_true rfl) ?_
  show G Γ mJ6_bitCount_0f7a4 (NI Γ 0 Q) 0 [(0, .int x0)] [] σ
  refine g_iload_n (pc := 0) dJ6_bitCount_0f7a4_0 rfl 0 rfl ?_
  refine g_iload_n (pc := 1) dJ6_bitCount_0f7a4_1 rfl 0 rfl ?_
  refine g_iconst (pc := 2) (1 : Int32) dJ6_bitCount_0f7a4_2 rfl ?_
  refine g_iushr (pc := 3) dJ6_bitCount_0f7a4_3 ?_
  refine g_ldcw (pc := 4) (1431655765 : Int32) kc_J6_265 dJ6_bitCount_0f7a4_4 ?_
  refine g_iand (pc := 7) dJ6_bitCount_0f7a4_7 ?_
  refine g_isub (pc := 8) dJ6_bitCount_0f7a4_8 ?_
  refine g_topI (fun v1 ev1 => ?_)
  refine g_istore_n (pc := 9) [(0, _)] dJ6_bitCount_0f7a4_9 rfl (Nat.le_of_ble_eq_true rfl) rfl ?_
  have h := h v1 ev1
  refine g_iload_n (pc := 10) dJ6_bitCount_0f7a4_10 rfl 0 rfl ?_
  refine g_ldcw (pc := 11) (858993459 : Int32) kc_J6_266 dJ6_bitCount_0f7a4_11 ?_
  refine g_iand (pc := 14) dJ6_bitCount_0f7a4_14 ?_
  refine g_iload_n (pc := 15) dJ6_bitCount_0f7a4_15 rfl 0 rfl ?_
  refine g_iconst (pc := 16) (2 : Int32) dJ6_bitCount_0f7a4_16 rfl ?_
  refine g_iushr (pc := 17) dJ6_bitCount_0f7a4_17 ?_
  refine g_ldcw (pc := 18) (858993459 : Int32) kc_J6_266 dJ6_bitCount_0f7a4_18 ?_
  refine g_iand (pc := 21) dJ6_bitCount_0f7a4_21 ?_
  refine g_iadd (pc := 22) dJ6_bitCount_0f7a4_22 ?_
  refine g_topI (fun v2 ev2 => ?_)
  refine g_istore_n (pc := 23) [(0, _)] dJ6_bitCount_0f7a4_23 rfl (Nat.le_of_ble_eq_true rfl) rfl ?_
  have h := h v2 ev2
  refine g_iload_n (pc := 24) dJ6_bitCount_0f7a4_24 rfl 0 rfl ?_
  refine g_iload_n (pc := 25) dJ6_bitCount_0f7a4_25 rfl 0 rfl ?_
  refine g_iconst (pc := 26) (4 : Int32) dJ6_bitCount_0f7a4_26 rfl ?_
  refine g_iushr (pc := 27) dJ6_bitCount_0f7a4_27 ?_
  refine g_iadd (pc := 28) dJ6_bitCount_0f7a4_28 ?_
  refine g_ldcw (pc := 29) (252645135 : Int32) kc_J6_267 dJ6_bitCount_0f7a4_29 ?_
  refine g_iand (pc := 32) dJ6_bitCount_0f7a4_32 ?_
  refine g_topI (fun v3 ev3 => ?_)
  refine g_istore_n (pc := 33) [(0, _)] dJ6_bitCount_0f7a4_33 rfl (Nat.le_of_ble_eq_true rfl) rfl ?_
  have h := h v3 ev3
  refine g_iload_n (pc := 34) dJ6_bitCount_0f7a4_34 rfl 0 rfl ?_
  refine g_iload_n (pc := 35) dJ6_bitCount_0f7a4_35 rfl 0 rfl ?_
  refine g_bipush (pc := 36) (8 : Int32) dJ6_bitCount_0f7a4_36 rfl ?_
  refine g_iushr (pc := 38) dJ6_bitCount_0f7a4_38 ?_
  refine g_iadd (pc := 39) dJ6_bitCount_0f7a4_39 ?_
  refine g_topI (fun v4 ev4 => ?_)
  refine g_istore_n (pc := 40) [(0, _)] dJ6_bitCount_0f7a4_40 rfl (Nat.le_of_ble_eq_true rfl) rfl ?_
  have h := h v4 ev4
  refine g_iload_n (pc := 41) dJ6_bitCount_0f7a4_41 rfl 0 rfl ?_
  refine g_iload_n (pc := 42) dJ6_bitCount_0f7a4_42 rfl 0 rfl ?_
  refine g_bipush (pc := 43) (16 : Int32) dJ6_bitCount_0f7a4_43 rfl ?_
  refine g_iushr (pc := 45) dJ6_bitCount_0f7a4_45 ?_
  refine g_iadd (pc := 46) dJ6_bitCount_0f7a4_46 ?_
  refine g_topI (fun v5 ev5 => ?_)
  refine g_istore_n (pc := 47) [(0, _)] dJ6_bitCount_0f7a4_47 rfl (Nat.le_of_ble_eq_true rfl) rfl ?_
  have h := h v5 ev5
  refine g_iload_n (pc := 48) dJ6_bitCount_0f7a4_48 rfl 0 rfl ?_
  refine g_bipush (pc := 49) (63 : Int32) dJ6_bitCount_0f7a4_49 rfl ?_
  refine g_iand (pc := 51) dJ6_bitCount_0f7a4_51 ?_
  exact g_iret (pc := 52) rfl dJ6_bitCount_0f7a4_52 h
