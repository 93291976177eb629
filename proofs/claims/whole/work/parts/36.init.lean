/-! the constructors -/
set_option maxHeartbeats 4000000 in
set_option maxRecDepth 100000 in
theorem iX0_init {Γ : GT} (h t : Nat) : CtD Γ mX0_init 1 3 62 [.ref h, .ref t] [(h, .inr (0, [.null, .null, .null, .null]))] (fun w1 => ∃ v0 v1 v2 : Nat, w1 = [(h, .inr (0, [.ref t, .ref v0, .ref v1, .ref v2])), (v0, cjN Γ 25 (fun _ => 0)), (v1, cjN Γ 32 (fun _ => 0)), (v2, ciN Γ 5 (fun _ => 0))]) := by
  refine ctD_of (by decide +kernel) (Nat.le_of_ble_eq_true rfl) ?_
  show GD Γ mX0_init (ND Γ 1 3 62 (fun w1 => ∃ v0 v1 v2 : Nat, w1 = [(h, .inr (0, [.ref t, .ref v0, .ref v1, .ref v2])), (v0, cjN Γ 25 (fun _ => 0)), (v1, cjN Γ 32 (fun _ => 0)), (v2, ciN Γ 5 (fun _ => 0))])) 0 0 0 [(0, .ref h), (1, .ref t)] [] [(h, .inr (0, [.null, .null, .null, .null]))]
  refine gd_aload_n (pc := 0) dX0_init_0 rfl 0 rfl ?_
  refine gd_objI (pc := 1) oi_X0 ⟨Nat.le_of_ble_eq_true rfl, Nat.le_of_ble_eq_true rfl⟩ (Nat.le_of_ble_eq_true rfl) dX0_init_1 ?_
  refine gd_aload_n (pc := 4) dX0_init_4 rfl 0 rfl ?_
  refine gd_aload_n (pc := 5) dX0_init_5 rfl 1 rfl ?_
  refine gd_putF (pc := 6) (q0 := 0) (ci := 0) (k := 0) (fs := [.null, .null, .null, .null]) rfl rfl (Nat.le_of_ble_eq_true rfl) fw_X0_9 rfl rfl dX0_init_6 ?_
  show GD Γ mX0_init (ND Γ 1 3 62 (fun w1 => ∃ v0 v1 v2 : Nat, w1 = [(h, .inr (0, [.ref t, .ref v0, .ref v1, .ref v2])), (v0, cjN Γ 25 (fun _ => 0)), (v1, cjN Γ 32 (fun _ => 0)), (v2, ciN Γ 5 (fun _ => 0))])) 0 0 9 [(0, .ref h), (1, .ref t)] [] [(h, .inr (0, [.ref t, .null, .null, .null]))]
  refine gd_aload_n (pc := 9) dX0_init_9 rfl 0 rfl ?_
  refine gd_bipush (pc := 10) (25 : Int32) dX0_init_10 rfl ?_
  refine gd_newJ (pc := 12) (n' := 25) kac_J (by decide) (by decide) (by decide) (Nat.le_of_ble_eq_true rfl) (Nat.le_of_ble_eq_true rfl) dX0_init_12 (fun q1 => ?_)
  show GD Γ mX0_init (ND Γ 1 3 62 (fun w1 => ∃ v0 v1 v2 : Nat, w1 = [(h, .inr (0, [.ref t, .ref v0, .ref v1, .ref v2])), (v0, cjN Γ 25 (fun _ => 0)), (v1, cjN Γ 32 (fun _ => 0)), (v2, ciN Γ 5 (fun _ => 0))])) 1 25 14 [(0, .ref h), (1, .ref t)] [.ref q1, .ref h] [(h, .inr (0, [.ref t, .null, .null, .null])), (q1, cjN Γ 25 (fun _ => 0))]
  refine gd_putF (pc := 14) (q0 := 0) (ci := 0) (k := 1) (fs := [.ref t, .null, .null, .null]) rfl rfl (Nat.le_of_ble_eq_true rfl) fw_X0_17 rfl rfl dX0_init_14 ?_
  show GD Γ mX0_init (ND Γ 1 3 62 (fun w1 => ∃ v0 v1 v2 : Nat, w1 = [(h, .inr (0, [.ref t, .ref v0, .ref v1, .ref v2])), (v0, cjN Γ 25 (fun _ => 0)), (v1, cjN Γ 32 (fun _ => 0)), (v2, ciN Γ 5 (fun _ => 0))])) 1 25 17 [(0, .ref h), (1, .ref t)] [] [(h, .inr (0, [.ref t, .ref q1, .null, .null])), (q1, cjN Γ 25 (fun _ => 0))]
  refine gd_aload_n (pc := 17) dX0_init_17 rfl 0 rfl ?_
  refine gd_bipush (pc := 18) (32 : Int32) dX0_init_18 rfl ?_
  refine gd_newJ (pc := 20) (n' := 32) kac_J (by decide) (by decide) (by decide) (Nat.le_of_ble_eq_true rfl) (Nat.le_of_ble_eq_true rfl) dX0_init_20 (fun q2 => ?_)
  show GD Γ mX0_init (ND Γ 1 3 62 (fun w1 => ∃ v0 v1 v2 : Nat, w1 = [(h, .inr (0, [.ref t, .ref v0, .ref v1, .ref v2])), (v0, cjN Γ 25 (fun _ => 0)), (v1, cjN Γ 32 (fun _ => 0)), (v2, ciN Γ 5 (fun _ => 0))])) 2 57 22 [(0, .ref h), (1, .ref t)] [.ref q2, .ref h] [(h, .inr (0, [.ref t, .ref q1, .null, .null])), (q1, cjN Γ 25 (fun _ => 0)), (q2, cjN Γ 32 (fun _ => 0))]
  refine gd_putF (pc := 22) (q0 := 0) (ci := 0) (k := 2) (fs := [.ref t, .ref q1, .null, .null]) rfl rfl (Nat.le_of_ble_eq_true rfl) fw_X0_21 rfl rfl dX0_init_22 ?_
  show GD Γ mX0_init (ND Γ 1 3 62 (fun w1 => ∃ v0 v1 v2 : Nat, w1 = [(h, .inr (0, [.ref t, .ref v0, .ref v1, .ref v2])), (v0, cjN Γ 25 (fun _ => 0)), (v1, cjN Γ 32 (fun _ => 0)), (v2, ciN Γ 5 (fun _ => 0))])) 2 57 25 [(0, .ref h), (1, .ref t)] [] [(h, .inr (0, [.ref t, .ref q1, .ref q2, .null])), (q1, cjN Γ 25 (fun _ => 0)), (q2, cjN Γ 32 (fun _ => 0))]
  refine gd_aload_n (pc := 25) dX0_init_25 rfl 0 rfl ?_
  refine gd_iconst (pc := 26) (5 : Int32) dX0_init_26 rfl ?_
  refine gd_newI (pc := 27) (n' := 5) kac_I (by decide) (by decide) (by decide) (Nat.le_of_ble_eq_true rfl) (Nat.le_of_ble_eq_true rfl) dX0_init_27 (fun q3 => ?_)
  show GD Γ mX0_init (ND Γ 1 3 62 (fun w1 => ∃ v0 v1 v2 : Nat, w1 = [(h, .inr (0, [.ref t, .ref v0, .ref v1, .ref v2])), (v0, cjN Γ 25 (fun _ => 0)), (v1, cjN Γ 32 (fun _ => 0)), (v2, ciN Γ 5 (fun _ => 0))])) 3 62 29 [(0, .ref h), (1, .ref t)] [.ref q3, .ref h] [(h, .inr (0, [.ref t, .ref q1, .ref q2, .null])), (q1, cjN Γ 25 (fun _ => 0)), (q2, cjN Γ 32 (fun _ => 0)), (q3, ciN Γ 5 (fun _ => 0))]
  refine gd_putF (pc := 29) (q0 := 0) (ci := 0) (k := 3) (fs := [.ref t, .ref q1, .ref q2, .null]) rfl rfl (Nat.le_of_ble_eq_true rfl) fw_X0_24 rfl rfl dX0_init_29 ?_
  show GD Γ mX0_init (ND Γ 1 3 62 (fun w1 => ∃ v0 v1 v2 : Nat, w1 = [(h, .inr (0, [.ref t, .ref v0, .ref v1, .ref v2])), (v0, cjN Γ 25 (fun _ => 0)), (v1, cjN Γ 32 (fun _ => 0)), (v2, ciN Γ 5 (fun _ => 0))])) 3 62 32 [(0, .ref h), (1, .ref t)] [] [(h, .inr (0, [.ref t, .ref q1, .ref q2, .ref q3])), (q1, cjN Γ 25 (fun _ => 0)), (q2, cjN Γ 32 (fun _ => 0)), (q3, ciN Γ 5 (fun _ => 0))]
  exact gd_vret (pc := 32) rfl dX0_init_32 (Nat.le_of_ble_eq_true rfl) (Nat.le_of_ble_eq_true rfl) ⟨q1, q2, q3, rfl⟩
set_option maxHeartbeats 4000000 in
set_option maxRecDepth 100000 in
theorem iX2_init {Γ : GT} (h : Nat) : CtD Γ mX2_init 1 1 60 [.ref h] [(h, .inr (2, [.int 0, .int 0, .null]))] (fun w1 => ∃ v0 : Nat, w1 = [(h, .inr (2, [.int (0 : Int32), .int (-1 : Int32), .ref v0])), (v0, ciN Γ 60 (fun _ => 0))]) := by
  refine ctD_of (by decide +kernel) (Nat.le_of_ble_eq_true rfl) ?_
  show GD Γ mX2_init (ND Γ 1 1 60 (fun w1 => ∃ v0 : Nat, w1 = [(h, .inr (2, [.int (0 : Int32), .int (-1 : Int32), .ref v0])), (v0, ciN Γ 60 (fun _ => 0))])) 0 0 0 [(0, .ref h)] [] [(h, .inr (2, [.int 0, .int 0, .null]))]
  refine gd_aload_n (pc := 0) dX2_init_0 rfl 0 rfl ?_
  refine gd_objI (pc := 1) oi_X2 ⟨Nat.le_of_ble_eq_true rfl, Nat.le_of_ble_eq_true rfl⟩ (Nat.le_of_ble_eq_true rfl) dX2_init_1 ?_
  refine gd_aload_n (pc := 4) dX2_init_4 rfl 0 rfl ?_
  refine gd_iconst (pc := 5) (0 : Int32) dX2_init_5 rfl ?_
  refine gd_put (pc := 6) (q0 := 0) (ci := 2) (k := 0) (fs := [.int 0, .int 0, .null]) rfl (Nat.le_of_ble_eq_true rfl) fw_X2_7 rfl rfl dX2_init_6 ?_
  show GD Γ mX2_init (ND Γ 1 1 60 (fun w1 => ∃ v0 : Nat, w1 = [(h, .inr (2, [.int (0 : Int32), .int (-1 : Int32), .ref v0])), (v0, ciN Γ 60 (fun _ => 0))])) 0 0 9 [(0, .ref h)] [] [(h, .inr (2, [.int (0 : Int32), .int 0, .null]))]
  refine gd_aload_n (pc := 9) dX2_init_9 rfl 0 rfl ?_
  refine gd_iconst (pc := 10) (-1 : Int32) dX2_init_10 rfl ?_
  refine gd_put (pc := 11) (q0 := 0) (ci := 2) (k := 1) (fs := [.int (0 : Int32), .int 0, .null]) rfl (Nat.le_of_ble_eq_true rfl) fw_X2_13 rfl rfl dX2_init_11 ?_
  show GD Γ mX2_init (ND Γ 1 1 60 (fun w1 => ∃ v0 : Nat, w1 = [(h, .inr (2, [.int (0 : Int32), .int (-1 : Int32), .ref v0])), (v0, ciN Γ 60 (fun _ => 0))])) 0 0 14 [(0, .ref h)] [] [(h, .inr (2, [.int (0 : Int32), .int (-1 : Int32), .null]))]
  refine gd_aload_n (pc := 14) dX2_init_14 rfl 0 rfl ?_
  refine gd_bipush (pc := 15) (60 : Int32) dX2_init_15 rfl ?_
  refine gd_newI (pc := 17) (n' := 60) kac_I (by decide) (by decide) (by decide) (Nat.le_of_ble_eq_true rfl) (Nat.le_of_ble_eq_true rfl) dX2_init_17 (fun q1 => ?_)
  show GD Γ mX2_init (ND Γ 1 1 60 (fun w1 => ∃ v0 : Nat, w1 = [(h, .inr (2, [.int (0 : Int32), .int (-1 : Int32), .ref v0])), (v0, ciN Γ 60 (fun _ => 0))])) 1 60 19 [(0, .ref h)] [.ref q1, .ref h] [(h, .inr (2, [.int (0 : Int32), .int (-1 : Int32), .null])), (q1, ciN Γ 60 (fun _ => 0))]
  refine gd_putF (pc := 19) (q0 := 0) (ci := 2) (k := 2) (fs := [.int (0 : Int32), .int (-1 : Int32), .null]) rfl rfl (Nat.le_of_ble_eq_true rfl) fw_X2_16 rfl rfl dX2_init_19 ?_
  show GD Γ mX2_init (ND Γ 1 1 60 (fun w1 => ∃ v0 : Nat, w1 = [(h, .inr (2, [.int (0 : Int32), .int (-1 : Int32), .ref v0])), (v0, ciN Γ 60 (fun _ => 0))])) 1 60 22 [(0, .ref h)] [] [(h, .inr (2, [.int (0 : Int32), .int (-1 : Int32), .ref q1])), (q1, ciN Γ 60 (fun _ => 0))]
  exact gd_vret (pc := 22) rfl dX2_init_22 (Nat.le_of_ble_eq_true rfl) (Nat.le_of_ble_eq_true rfl) ⟨q1, rfl⟩
set_option maxHeartbeats 4000000 in
set_option maxRecDepth 100000 in
theorem iX3_init {Γ : GT} (h : Nat) : CtD Γ mX3_init 1 1 12 [.ref h] [(h, .inr (3, [.int 0, .null]))] (fun w1 => ∃ v0 : Nat, w1 = [(h, .inr (3, [.int (0 : Int32), .ref v0])), (v0, ciN Γ 12 (fun _ => 0))]) := by
  refine ctD_of (by decide +kernel) (Nat.le_of_ble_eq_true rfl) ?_
  show GD Γ mX3_init (ND Γ 1 1 12 (fun w1 => ∃ v0 : Nat, w1 = [(h, .inr (3, [.int (0 : Int32), .ref v0])), (v0, ciN Γ 12 (fun _ => 0))])) 0 0 0 [(0, .ref h)] [] [(h, .inr (3, [.int 0, .null]))]
  refine gd_aload_n (pc := 0) dX3_init_0 rfl 0 rfl ?_
  refine gd_objI (pc := 1) oi_X3 ⟨Nat.le_of_ble_eq_true rfl, Nat.le_of_ble_eq_true rfl⟩ (Nat.le_of_ble_eq_true rfl) dX3_init_1 ?_
  refine gd_aload_n (pc := 4) dX3_init_4 rfl 0 rfl ?_
  refine gd_iconst (pc := 5) (0 : Int32) dX3_init_5 rfl ?_
  refine gd_put (pc := 6) (q0 := 0) (ci := 3) (k := 0) (fs := [.int 0, .null]) rfl (Nat.le_of_ble_eq_true rfl) fw_X3_9 rfl rfl dX3_init_6 ?_
  show GD Γ mX3_init (ND Γ 1 1 12 (fun w1 => ∃ v0 : Nat, w1 = [(h, .inr (3, [.int (0 : Int32), .ref v0])), (v0, ciN Γ 12 (fun _ => 0))])) 0 0 9 [(0, .ref h)] [] [(h, .inr (3, [.int (0 : Int32), .null]))]
  refine gd_aload_n (pc := 9) dX3_init_9 rfl 0 rfl ?_
  refine gd_bipush (pc := 10) (12 : Int32) dX3_init_10 rfl ?_
  refine gd_newI (pc := 12) (n' := 12) kac_I (by decide) (by decide) (by decide) (Nat.le_of_ble_eq_true rfl) (Nat.le_of_ble_eq_true rfl) dX3_init_12 (fun q1 => ?_)
  show GD Γ mX3_init (ND Γ 1 1 12 (fun w1 => ∃ v0 : Nat, w1 = [(h, .inr (3, [.int (0 : Int32), .ref v0])), (v0, ciN Γ 12 (fun _ => 0))])) 1 12 14 [(0, .ref h)] [.ref q1, .ref h] [(h, .inr (3, [.int (0 : Int32), .null])), (q1, ciN Γ 12 (fun _ => 0))]
  refine gd_putF (pc := 14) (q0 := 0) (ci := 3) (k := 1) (fs := [.int (0 : Int32), .null]) rfl rfl (Nat.le_of_ble_eq_true rfl) fw_X3_15 rfl rfl dX3_init_14 ?_
  show GD Γ mX3_init (ND Γ 1 1 12 (fun w1 => ∃ v0 : Nat, w1 = [(h, .inr (3, [.int (0 : Int32), .ref v0])), (v0, ciN Γ 12 (fun _ => 0))])) 1 12 17 [(0, .ref h)] [] [(h, .inr (3, [.int (0 : Int32), .ref q1])), (q1, ciN Γ 12 (fun _ => 0))]
  exact gd_vret (pc := 17) rfl dX3_init_17 (Nat.le_of_ble_eq_true rfl) (Nat.le_of_ble_eq_true rfl) ⟨q1, rfl⟩
set_option maxHeartbeats 4000000 in
set_option maxRecDepth 100000 in
theorem iX4_init {Γ : GT} (h t : Nat) : CtD Γ mX4_init 1 2 10 [.ref h, .ref t] [(h, .inr (4, [.int 0, .null, .null, .null]))] (fun w1 => ∃ v0 v1 : Nat, w1 = [(h, .inr (4, [.int (0 : Int32), .ref v0, .ref t, .ref v1])), (v0, ciN Γ 5 (fun _ => 0)), (v1, ciN Γ 5 (fun _ => 0))]) := by
  refine ctD_of (by decide +kernel) (Nat.le_of_ble_eq_true rfl) ?_
  show GD Γ mX4_init (ND Γ 1 2 10 (fun w1 => ∃ v0 v1 : Nat, w1 = [(h, .inr (4, [.int (0 : Int32), .ref v0, .ref t, .ref v1])), (v0, ciN Γ 5 (fun _ => 0)), (v1, ciN Γ 5 (fun _ => 0))])) 0 0 0 [(0, .ref h), (1, .ref t)] [] [(h, .inr (4, [.int 0, .null, .null, .null]))]
  refine gd_aload_n (pc := 0) dX4_init_0 rfl 0 rfl ?_
  refine gd_objI (pc := 1) oi_X4 ⟨Nat.le_of_ble_eq_true rfl, Nat.le_of_ble_eq_true rfl⟩ (Nat.le_of_ble_eq_true rfl) dX4_init_1 ?_
  refine gd_aload_n (pc := 4) dX4_init_4 rfl 0 rfl ?_
  refine gd_aload_n (pc := 5) dX4_init_5 rfl 1 rfl ?_
  refine gd_putF (pc := 6) (q0 := 0) (ci := 4) (k := 2) (fs := [.int 0, .null, .null, .null]) rfl rfl (Nat.le_of_ble_eq_true rfl) fw_X4_9 rfl rfl dX4_init_6 ?_
  show GD Γ mX4_init (ND Γ 1 2 10 (fun w1 => ∃ v0 v1 : Nat, w1 = [(h, .inr (4, [.int (0 : Int32), .ref v0, .ref t, .ref v1])), (v0, ciN Γ 5 (fun _ => 0)), (v1, ciN Γ 5 (fun _ => 0))])) 0 0 9 [(0, .ref h), (1, .ref t)] [] [(h, .inr (4, [.int 0, .null, .ref t, .null]))]
  refine gd_aload_n (pc := 9) dX4_init_9 rfl 0 rfl ?_
  refine gd_iconst (pc := 10) (0 : Int32) dX4_init_10 rfl ?_
  refine gd_put (pc := 11) (q0 := 0) (ci := 4) (k := 0) (fs := [.int 0, .null, .ref t, .null]) rfl (Nat.le_of_ble_eq_true rfl) fw_X4_15 rfl rfl dX4_init_11 ?_
  show GD Γ mX4_init (ND Γ 1 2 10 (fun w1 => ∃ v0 v1 : Nat, w1 = [(h, .inr (4, [.int (0 : Int32), .ref v0, .ref t, .ref v1])), (v0, ciN Γ 5 (fun _ => 0)), (v1, ciN Γ 5 (fun _ => 0))])) 0 0 14 [(0, .ref h), (1, .ref t)] [] [(h, .inr (4, [.int (0 : Int32), .null, .ref t, .null]))]
  refine gd_aload_n (pc := 14) dX4_init_14 rfl 0 rfl ?_
  refine gd_iconst (pc := 15) (5 : Int32) dX4_init_15 rfl ?_
  refine gd_newI (pc := 16) (n' := 5) kac_I (by decide) (by decide) (by decide) (Nat.le_of_ble_eq_true rfl) (Nat.le_of_ble_eq_true rfl) dX4_init_16 (fun q1 => ?_)
  show GD Γ mX4_init (ND Γ 1 2 10 (fun w1 => ∃ v0 v1 : Nat, w1 = [(h, .inr (4, [.int (0 : Int32), .ref v0, .ref t, .ref v1])), (v0, ciN Γ 5 (fun _ => 0)), (v1, ciN Γ 5 (fun _ => 0))])) 1 5 18 [(0, .ref h), (1, .ref t)] [.ref q1, .ref h] [(h, .inr (4, [.int (0 : Int32), .null, .ref t, .null])), (q1, ciN Γ 5 (fun _ => 0))]
  refine gd_putF (pc := 18) (q0 := 0) (ci := 4) (k := 1) (fs := [.int (0 : Int32), .null, .ref t, .null]) rfl rfl (Nat.le_of_ble_eq_true rfl) fw_X4_21 rfl rfl dX4_init_18 ?_
  show GD Γ mX4_init (ND Γ 1 2 10 (fun w1 => ∃ v0 v1 : Nat, w1 = [(h, .inr (4, [.int (0 : Int32), .ref v0, .ref t, .ref v1])), (v0, ciN Γ 5 (fun _ => 0)), (v1, ciN Γ 5 (fun _ => 0))])) 1 5 21 [(0, .ref h), (1, .ref t)] [] [(h, .inr (4, [.int (0 : Int32), .ref q1, .ref t, .null])), (q1, ciN Γ 5 (fun _ => 0))]
  refine gd_aload_n (pc := 21) dX4_init_21 rfl 0 rfl ?_
  refine gd_iconst (pc := 22) (5 : Int32) dX4_init_22 rfl ?_
  refine gd_newI (pc := 23) (n' := 5) kac_I (by decide) (by decide) (by decide) (Nat.le_of_ble_eq_true rfl) (Nat.le_of_ble_eq_true rfl) dX4_init_23 (fun q2 => ?_)
  show GD Γ mX4_init (ND Γ 1 2 10 (fun w1 => ∃ v0 v1 : Nat, w1 = [(h, .inr (4, [.int (0 : Int32), .ref v0, .ref t, .ref v1])), (v0, ciN Γ 5 (fun _ => 0)), (v1, ciN Γ 5 (fun _ => 0))])) 2 10 25 [(0, .ref h), (1, .ref t)] [.ref q2, .ref h] [(h, .inr (4, [.int (0 : Int32), .ref q1, .ref t, .null])), (q1, ciN Γ 5 (fun _ => 0)), (q2, ciN Γ 5 (fun _ => 0))]
  refine gd_putF (pc := 25) (q0 := 0) (ci := 4) (k := 3) (fs := [.int (0 : Int32), .ref q1, .ref t, .null]) rfl rfl (Nat.le_of_ble_eq_true rfl) fw_X4_25 rfl rfl dX4_init_25 ?_
  show GD Γ mX4_init (ND Γ 1 2 10 (fun w1 => ∃ v0 v1 : Nat, w1 = [(h, .inr (4, [.int (0 : Int32), .ref v0, .ref t, .ref v1])), (v0, ciN Γ 5 (fun _ => 0)), (v1, ciN Γ 5 (fun _ => 0))])) 2 10 28 [(0, .ref h), (1, .ref t)] [] [(h, .inr (4, [.int (0 : Int32), .ref q1, .ref t, .ref q2])), (q1, ciN Γ 5 (fun _ => 0)), (q2, ciN Γ 5 (fun _ => 0))]
  exact gd_vret (pc := 28) rfl dX4_init_28 (Nat.le_of_ble_eq_true rfl) (Nat.le_of_ble_eq_true rfl) ⟨q1, q2, rfl⟩
